def f0_groupCount (I : gI) (b : Nat) : Int32 := (((I b 1) + 15) - 1) / 15
set_option maxRecDepth 100000 in
set_option maxHeartbeats 4000000 in
theorem f0_groupCount_ok (E : gEnv) (I : gI) (b : Nat) (hb : isB b) (r : Int32) (hf : f0_groupCount I b = r) : Ctr E yX0_groupCount cX0_groupCount 1 (some .int) 0 0 0 [vr b] (mm I) (some (vi r)) (mm I) := by
  refine Ctr.mk (by decide +kernel) rfl (Nat.le_of_ble_eq_true rfl) fun κ X hR _ => ?_
  have X : Cx E κ cX0_groupCount 1 RX0 (some .int) 0 0 0 := X
  show G E κ 0 0 0 [some (vr b)] [] (mm I)
  unfold f0_groupCount at hf
  refine G_aload_n (x := some (b)) X dX0_groupCount_0 rfl rfl ?_
  refine M_getI X fd_X0_15 rfl (show SH[b]? = some (_, 0) from hb.1) dX0_groupCount_1 ?_
  refine G_bipush (v := 15) X dX0_groupCount_4 rfl ?_
  refine G_iadd X dX0_groupCount_6 ?_
  refine G_iconst (v := 1) X dX0_groupCount_7 rfl ?_
  refine G_isub X dX0_groupCount_8 ?_
  refine G_bipush (v := 15) X dX0_groupCount_9 rfl ?_
  refine G_idiv X dX0_groupCount_11 (by decide) ?_
  subst hf
  exact G_iret X hR rfl rfl dX0_groupCount_12

def f0_groupAt (I : gI) (b : Nat) (a0 : Int32) : Option Int32 := (if a0 < 0 then some 0 else (if 40 ≤ a0 then some 0 else if ib a0 40 = true then some (I (b + 1) (a0.toNatClampNeg)) else none))
set_option maxRecDepth 100000 in
set_option maxHeartbeats 4000000 in
theorem f0_groupAt_ok (E : gEnv) (I : gI) (b : Nat) (hb : isB b) (a0 : Int32) (r : Int32) (hf : f0_groupAt I b a0 = some r) : Ctr E yX0_groupAt cX0_groupAt 2 (some .int) 0 0 0 [vr b, vi a0] (mm I) (some (vi r)) (mm I) := by
  refine Ctr.mk (by decide +kernel) rfl (Nat.le_of_ble_eq_true rfl) fun κ X hR _ => ?_
  have X : Cx E κ cX0_groupAt 2 RX0 (some .int) 0 0 0 := X
  show G E κ 0 0 0 [some (vr b), some (vi a0)] [] (mm I)
  unfold f0_groupAt at hf
  refine G_iload_n (x := a0) X dX0_groupAt_0 rfl rfl ?_
  refine G_if_lt (tgt := 22) X dX0_groupAt_1 (by decide) (fun hc1 => ?_) (fun hc1 => ?_)
  · have hf := (if_pos hc1).symm.trans hf
    refine G_iconst (v := 0) X dX0_groupAt_22 rfl ?_
    obtain rfl := Option.some.inj hf
    exact G_iret X hR rfl rfl dX0_groupAt_23
  · have hf := (if_neg hc1).symm.trans hf
    refine G_iload_n (x := a0) X dX0_groupAt_4 rfl rfl ?_
    refine G_aload_n (x := some (b)) X dX0_groupAt_5 rfl rfl ?_
    refine M_getR X fd_X0_9 rfl (show SH[b]? = some (_, 0) from hb.1) (isB_p hb) dX0_groupAt_6 ?_
    refine M_alen (v := 40) X (show SH[b + 1]? = some (_, 40) from hb.2) (by decide) dX0_groupAt_9 rfl ?_
    refine G_icmp_ge (tgt := 22) X dX0_groupAt_10 (by decide) (fun hc2 => ?_) (fun hc2 => ?_)
    · have hf := (if_pos hc2).symm.trans hf
      refine G_iconst (v := 0) X dX0_groupAt_22 rfl ?_
      obtain rfl := Option.some.inj hf
      exact G_iret X hR rfl rfl dX0_groupAt_23
    · have hf := (if_neg hc2).symm.trans hf
      refine G_aload_n (x := some (b)) X dX0_groupAt_13 rfl rfl ?_
      refine M_getR X fd_X0_9 rfl (show SH[b]? = some (_, 0) from hb.1) (isB_p hb) dX0_groupAt_14 ?_
      refine G_iload_n (x := a0) X dX0_groupAt_17 rfl rfl ?_
      obtain ⟨hc3, hf⟩ := ock hf
      refine M_iald X (show SH[b + 1]? = some (_, 40) from hb.2) hc3 dX0_groupAt_18 ?_
      refine G_goto (tgt := 23) X dX0_groupAt_19 (by decide) ?_
      obtain rfl := Option.some.inj hf
      exact G_iret X hR rfl rfl dX0_groupAt_23

def f0_valueAt (I : gI) (b : Nat) (a0 : Int32) : Option Int32 := (f0_groupAt I b (a0 / 15)).bind fun v1 => some ((v1 >>> ((a0 - a0 / 15 * 15) &&& 31)) &&& 1)
set_option maxRecDepth 100000 in
set_option maxHeartbeats 4000000 in
theorem f0_valueAt_ok (E : gEnv) (I : gI) (b : Nat) (hb : isB b) (a0 : Int32) (r : Int32) (hf : f0_valueAt I b a0 = some r) : Ctr E yX0_valueAt cX0_valueAt 2 (some .int) 1 0 0 [vr b, vi a0] (mm I) (some (vi r)) (mm I) := by
  refine Ctr.mk (by decide +kernel) rfl (Nat.le_of_ble_eq_true rfl) fun κ X hR _ => ?_
  have X : Cx E κ cX0_valueAt 2 RX0 (some .int) 1 0 0 := X
  show G E κ 0 0 0 [some (vr b), some (vi a0)] [] (mm I)
  unfold f0_valueAt at hf
  refine G_aload_n (x := some (b)) X dX0_valueAt_0 rfl rfl ?_
  refine G_iload_n (x := a0) X dX0_valueAt_1 rfl rfl ?_
  refine G_bipush (v := 15) X dX0_valueAt_2 rfl ?_
  refine G_idiv X dX0_valueAt_4 (by decide) ?_
  obtain ⟨v1, hk1, hf⟩ := obd hf
  refine G_callV (As := [vi (a0 / 15)]) X (f0_groupAt_ok E I b hb (a0 / 15) v1 hk1) cb_X0_19 vi_X0_groupAt (ci := 0) rfl rfl (show SH[b]? = some (_, 0) from hb.1) rfl rfl (Nat.le_of_ble_eq_true rfl) (by decide) (by decide) rfl (Nat.le_refl _) (Nat.le_refl _) dX0_valueAt_5 ?_
  show G E κ _ _ _ [some (vr b), some (vi a0)] [vi v1] (mm I)
  refine G_iload_n (x := a0) X dX0_valueAt_8 rfl rfl ?_
  refine G_bipush (v := 15) X dX0_valueAt_9 rfl ?_
  refine G_irem X dX0_valueAt_11 (by decide) ?_
  refine G_ishr X dX0_valueAt_12 ?_
  refine G_iconst (v := 1) X dX0_valueAt_13 rfl ?_
  refine G_iand X dX0_valueAt_14 ?_
  obtain rfl := Option.some.inj hf
  exact G_iret X hR rfl rfl dX0_valueAt_15

def f0_putAt (I : gI) (b : Nat) (a0 : Int32) (a1 : Int32) : Option gI := (if a0 < 0 then some I else (if (a0 / 15) < 40 then (if a1 = 1 then if ib (a0 / 15) 40 = true then if ib (a0 / 15) 40 = true then some (uI I (b + 1) (a0 / 15).toNatClampNeg ((I (b + 1) ((a0 / 15).toNatClampNeg)) ||| (1 <<< ((a0 - a0 / 15 * 15) &&& 31)))) else none else none else if ib (a0 / 15) 40 = true then if ib (a0 / 15) 40 = true then some (uI I (b + 1) (a0 / 15).toNatClampNeg ((I (b + 1) ((a0 / 15).toNatClampNeg)) &&& ((1 <<< ((a0 - a0 / 15 * 15) &&& 31)) ^^^ ((-1))))) else none else none) else some I))
set_option maxRecDepth 100000 in
set_option maxHeartbeats 4000000 in
theorem f0_putAt_ok (E : gEnv) (I : gI) (b : Nat) (hb : isB b) (a0 : Int32) (a1 : Int32) (I' : gI) (hf : f0_putAt I b a0 a1 = some I') : Ctr E yX0_putAt cX0_putAt 5 none 0 0 0 [vr b, vi a0, vi a1] (mm I) (none) (mm I') := by
  refine Ctr.mk (by decide +kernel) rfl (Nat.le_of_ble_eq_true rfl) fun κ X hR _ => ?_
  have X : Cx E κ cX0_putAt 5 RX0 none 0 0 0 := X
  show G E κ 0 0 0 [some (vr b), some (vi a0), some (vi a1), none, none] [] (mm I)
  unfold f0_putAt at hf
  refine G_iload_n (x := a0) X dX0_putAt_0 rfl rfl ?_
  refine G_bipush (v := 15) X dX0_putAt_1 rfl ?_
  refine G_idiv X dX0_putAt_3 (by decide) ?_
  refine G_istore_n X dX0_putAt_4 rfl rfl (ls' := [some (vr b), some (vi a0), some (vi a1), some (vi (a0 / 15)), none]) rfl ?_
  refine G_iload_n (x := a0) X dX0_putAt_5 rfl rfl ?_
  refine G_if_lt (tgt := 18) X dX0_putAt_6 (by decide) (fun hc1 => ?_) (fun hc1 => ?_)
  · have hf := (if_pos hc1).symm.trans hf
    obtain rfl := Option.some.inj hf
    exact G_vret X hR rfl dX0_putAt_18
  · have hf := (if_neg hc1).symm.trans hf
    refine G_iload_n (x := a0 / 15) X dX0_putAt_9 rfl rfl ?_
    refine G_aload_n (x := some (b)) X dX0_putAt_10 rfl rfl ?_
    refine M_getR X fd_X0_9 rfl (show SH[b]? = some (_, 0) from hb.1) (isB_p hb) dX0_putAt_11 ?_
    refine M_alen (v := 40) X (show SH[b + 1]? = some (_, 40) from hb.2) (by decide) dX0_putAt_14 rfl ?_
    refine G_icmp_lt (tgt := 19) X dX0_putAt_15 (by decide) (fun hc2 => ?_) (fun hc2 => ?_)
    · have hf := (if_pos hc2).symm.trans hf
      refine G_iconst (v := 1) X dX0_putAt_19 rfl ?_
      refine G_iload_n (x := a0) X dX0_putAt_20 rfl rfl ?_
      refine G_bipush (v := 15) X dX0_putAt_21 rfl ?_
      refine G_irem X dX0_putAt_23 (by decide) ?_
      refine G_ishl X dX0_putAt_24 ?_
      refine G_istore X dX0_putAt_25 rfl (ls' := [some (vr b), some (vi a0), some (vi a1), some (vi (a0 / 15)), some (vi (1 <<< ((a0 - a0 / 15 * 15) &&& 31)))]) rfl ?_
      refine G_aload_n (x := some (b)) X dX0_putAt_27 rfl rfl ?_
      refine M_getR X fd_X0_9 rfl (show SH[b]? = some (_, 0) from hb.1) (isB_p hb) dX0_putAt_28 ?_
      refine G_iload_n (x := a0 / 15) X dX0_putAt_31 rfl rfl ?_
      refine G_iload_n (x := a1) X dX0_putAt_32 rfl rfl ?_
      refine G_iconst (v := 1) X dX0_putAt_33 rfl ?_
      refine G_icmp_ne (tgt := 49) X dX0_putAt_34 (by decide) (fun hc3 => ?_) (fun hc3 => ?_)
      · have hf := (if_neg hc3).symm.trans hf
        refine G_aload_n (x := some (b)) X dX0_putAt_49 rfl rfl ?_
        refine M_getR X fd_X0_9 rfl (show SH[b]? = some (_, 0) from hb.1) (isB_p hb) dX0_putAt_50 ?_
        refine G_iload_n (x := a0 / 15) X dX0_putAt_53 rfl rfl ?_
        obtain ⟨hc4, hf⟩ := ock hf
        refine M_iald X (show SH[b + 1]? = some (_, 40) from hb.2) hc4 dX0_putAt_54 ?_
        refine G_iload (x := 1 <<< ((a0 - a0 / 15 * 15) &&& 31)) X dX0_putAt_55 rfl ?_
        refine G_iconst (v := (-1)) X dX0_putAt_57 rfl ?_
        refine G_ixor X dX0_putAt_58 ?_
        refine G_iand X dX0_putAt_59 ?_
        obtain ⟨hc5, hf⟩ := ock hf
        refine M_iast X (show SH[b + 1]? = some (_, 40) from hb.2) hc5 dX0_putAt_60 ?_
        obtain rfl := Option.some.inj hf
        exact G_vret X hR rfl dX0_putAt_61
      · have hf := (if_pos hc3).symm.trans hf
        refine G_aload_n (x := some (b)) X dX0_putAt_37 rfl rfl ?_
        refine M_getR X fd_X0_9 rfl (show SH[b]? = some (_, 0) from hb.1) (isB_p hb) dX0_putAt_38 ?_
        refine G_iload_n (x := a0 / 15) X dX0_putAt_41 rfl rfl ?_
        obtain ⟨hc6, hf⟩ := ock hf
        refine M_iald X (show SH[b + 1]? = some (_, 40) from hb.2) hc6 dX0_putAt_42 ?_
        refine G_iload (x := 1 <<< ((a0 - a0 / 15 * 15) &&& 31)) X dX0_putAt_43 rfl ?_
        refine G_ior X dX0_putAt_45 ?_
        refine G_goto (tgt := 60) X dX0_putAt_46 (by decide) ?_
        obtain ⟨hc7, hf⟩ := ock hf
        refine M_iast X (show SH[b + 1]? = some (_, 40) from hb.2) hc7 dX0_putAt_60 ?_
        obtain rfl := Option.some.inj hf
        exact G_vret X hR rfl dX0_putAt_61
    · have hf := (if_neg hc2).symm.trans hf
      obtain rfl := Option.some.inj hf
      exact G_vret X hR rfl dX0_putAt_18

def f0_copyFrom (I : gI) (b : Nat) (b0 : Nat) : Option gI := some (uI (uC I (b + 1) (va_cpy (I (b0 + 1)) (I (b + 1)) 0 0 40)) b 1 ((uC I (b + 1) (va_cpy (I (b0 + 1)) (I (b + 1)) 0 0 40)) b0 1))
set_option maxRecDepth 100000 in
set_option maxHeartbeats 4000000 in
theorem f0_copyFrom_ok (E : gEnv) (I : gI) (b : Nat) (hb : isB b) (b0 : Nat) (hb0 : isB b0) (I' : gI) (hf : f0_copyFrom I b b0 = some I') : Ctr E yX0_copyFrom cX0_copyFrom 2 none 1 0 0 [vr b, vr b0] (mm I) (none) (mm I') := by
  refine Ctr.mk (by decide +kernel) rfl (Nat.le_of_ble_eq_true rfl) fun κ X hR _ => ?_
  have X : Cx E κ cX0_copyFrom 2 RX0 none 1 0 0 := X
  show G E κ 0 0 0 [some (vr b), some (vr b0)] [] (mm I)
  unfold f0_copyFrom at hf
  refine G_aload_n (x := some (b0)) X dX0_copyFrom_0 rfl rfl ?_
  refine M_getR X fd_X0_9 rfl (show SH[b0]? = some (_, 0) from hb0.1) (isB_p hb0) dX0_copyFrom_1 ?_
  refine G_iconst (v := 0) X dX0_copyFrom_4 rfl ?_
  refine G_aload_n (x := some (b)) X dX0_copyFrom_5 rfl rfl ?_
  refine M_getR X fd_X0_9 rfl (show SH[b]? = some (_, 0) from hb.1) (isB_p hb) dX0_copyFrom_6 ?_
  refine G_iconst (v := 0) X dX0_copyFrom_9 rfl ?_
  refine G_bipush (v := 40) X dX0_copyFrom_10 rfl ?_
  refine M_copyi X ml_X0_23 na_ac st_ac in_sys hb0 hb (Nat.le_of_ble_eq_true rfl) (by decide) rfl dX0_copyFrom_12 ?_
  refine G_aload_n (x := some (b)) X dX0_copyFrom_15 rfl rfl ?_
  refine G_aload_n (x := some (b0)) X dX0_copyFrom_16 rfl rfl ?_
  refine M_getI X fd_X0_15 rfl (show SH[b0]? = some (_, 0) from hb0.1) dX0_copyFrom_17 ?_
  refine M_putI X fd_X0_15 rfl (show SH[b]? = some (_, 0) from hb.1) rfl rfl dX0_copyFrom_20 ?_
  obtain rfl := Option.some.inj hf
  exact G_vret X hR rfl dX0_copyFrom_23

def f0_maskBefore (a0 : Int32) (a1 : Int32) : Int32 := (1 <<< ((if 0 < (if (a0 - (a1 * 15)) < 15 then (a0 - (a1 * 15)) else 15) then (if (a0 - (a1 * 15)) < 15 then (a0 - (a1 * 15)) else 15) else 0) &&& 31)) - 1
set_option maxRecDepth 100000 in
set_option maxHeartbeats 4000000 in
theorem f0_maskBefore_ok (E : gEnv) (I : gI) (a0 : Int32) (a1 : Int32) (r : Int32) (hf : f0_maskBefore  a0 a1 = r) : Ctr E yX0_maskBefore cX0_maskBefore 3 (some .int) 1 0 0 [vi a0, vi a1] (mm I) (some (vi r)) (mm I) := by
  refine Ctr.mk (by decide +kernel) rfl (Nat.le_of_ble_eq_true rfl) fun κ X hR _ => ?_
  have X : Cx E κ cX0_maskBefore 3 RX0 (some .int) 1 0 0 := X
  show G E κ 0 0 0 [some (vi a0), some (vi a1), none] [] (mm I)
  unfold f0_maskBefore at hf
  refine G_iconst (v := 0) X dX0_maskBefore_0 rfl ?_
  refine G_bipush (v := 15) X dX0_maskBefore_1 rfl ?_
  refine G_iload_n (x := a0) X dX0_maskBefore_3 rfl rfl ?_
  refine G_iload_n (x := a1) X dX0_maskBefore_4 rfl rfl ?_
  refine G_bipush (v := 15) X dX0_maskBefore_5 rfl ?_
  refine G_imul X dX0_maskBefore_7 ?_
  refine G_isub X dX0_maskBefore_8 ?_
  refine G_min X ml_X0_52 st_mmin in_math cd_mmin (Nat.le_of_ble_eq_true rfl) (by decide) rfl (Nat.le_refl _) (Nat.le_refl _) dX0_maskBefore_9 ?_
  refine G_max X ml_X0_41 st_mmax in_math cd_mmax (Nat.le_of_ble_eq_true rfl) (by decide) rfl (Nat.le_refl _) (Nat.le_refl _) dX0_maskBefore_12 ?_
  refine G_istore_n X dX0_maskBefore_15 rfl rfl (ls' := [some (vi a0), some (vi a1), some (vi (if 0 < (if (a0 - (a1 * 15)) < 15 then (a0 - (a1 * 15)) else 15) then (if (a0 - (a1 * 15)) < 15 then (a0 - (a1 * 15)) else 15) else 0))]) rfl ?_
  refine G_iconst (v := 1) X dX0_maskBefore_16 rfl ?_
  refine G_iload_n (x := if 0 < (if (a0 - (a1 * 15)) < 15 then (a0 - (a1 * 15)) else 15) then (if (a0 - (a1 * 15)) < 15 then (a0 - (a1 * 15)) else 15) else 0) X dX0_maskBefore_17 rfl rfl ?_
  refine G_ishl X dX0_maskBefore_18 ?_
  refine G_iconst (v := 1) X dX0_maskBefore_19 rfl ?_
  refine G_isub X dX0_maskBefore_20 ?_
  subst hf
  exact G_iret X hR rfl rfl dX0_maskBefore_21

def f0_cutTo_L2 : Nat → gI → Nat → Int32 → Int32 → Option gI
  | 0, _, _, _, _ => none
  | k + 1, I, b0, x1, x2 => (if 40 ≤ x2 then some (uI I b0 1 x1) else if ib x2 40 = true then if ib x2 40 = true then f0_cutTo_L2 k (uI I (b0 + 1) x2.toNatClampNeg ((I (b0 + 1) (x2.toNatClampNeg)) &&& (f0_maskBefore x1 x2))) b0 x1 (x2 + 1) else none else none)
set_option maxRecDepth 100000 in
set_option maxHeartbeats 4000000 in
theorem f0_cutTo_L2_ok {E : gEnv} {κ : gCtx} (X : Cx E κ cX0_cutTo 3 RX0 none 2 0 0) : ∀ (k : Nat) (I : gI) (b0 : Nat) (hb0 : isB b0) (x1 : Int32) (x2 : Int32) (I' : gI) (hR : gRt E κ 0 0 (none) (mm I')) (hf : f0_cutTo_L2 k I b0 x1 x2 = some I'), G E κ 0 0 2 [some (vr b0), some (vi x1), some (vi x2)] [] (mm I) := by
  intro k
  induction k with
  | zero =>
    intros
    rename_i hf
    cases hf
  | succ k ih =>
    intro I b0 hb0 x1 x2 I' hR hf
    refine G_iload_n (x := x2) X dX0_cutTo_2 rfl rfl ?_
    refine G_aload_n (x := some (b0)) X dX0_cutTo_3 rfl rfl ?_
    refine M_getR X fd_X0_9 rfl (show SH[b0]? = some (_, 0) from hb0.1) (isB_p hb0) dX0_cutTo_4 ?_
    refine M_alen (v := 40) X (show SH[b0 + 1]? = some (_, 40) from hb0.2) (by decide) dX0_cutTo_7 rfl ?_
    refine G_icmp_ge (tgt := 31) X dX0_cutTo_8 (by decide) (fun hc1 => ?_) (fun hc1 => ?_)
    · have hf := (if_pos hc1).symm.trans hf
      refine G_aload_n (x := some (b0)) X dX0_cutTo_31 rfl rfl ?_
      refine G_iload_n (x := x1) X dX0_cutTo_32 rfl rfl ?_
      refine M_putI X fd_X0_15 rfl (show SH[b0]? = some (_, 0) from hb0.1) rfl rfl dX0_cutTo_33 ?_
      obtain rfl := Option.some.inj hf
      exact G_vret X hR rfl dX0_cutTo_36
    · have hf := (if_neg hc1).symm.trans hf
      refine G_aload_n (x := some (b0)) X dX0_cutTo_11 rfl rfl ?_
      refine M_getR X fd_X0_9 rfl (show SH[b0]? = some (_, 0) from hb0.1) (isB_p hb0) dX0_cutTo_12 ?_
      refine G_iload_n (x := x2) X dX0_cutTo_15 rfl rfl ?_
      refine G_dup2 X rfl rfl dX0_cutTo_16 ?_
      obtain ⟨hc2, hf⟩ := ock hf
      refine M_iald X (show SH[b0 + 1]? = some (_, 40) from hb0.2) hc2 dX0_cutTo_17 ?_
      refine G_iload_n (x := x1) X dX0_cutTo_18 rfl rfl ?_
      refine G_iload_n (x := x2) X dX0_cutTo_19 rfl rfl ?_
      refine G_callS (As := [vi x1, vi x2]) X (f0_maskBefore_ok E I x1 x2 _ rfl) cb_X0_29 st_X0_maskBefore rfl rfl (Nat.le_of_ble_eq_true rfl) (by decide) (by decide) rfl (Nat.le_refl _) (Nat.le_refl _) dX0_cutTo_20 ?_
      show G E κ _ _ _ [some (vr b0), some (vi x1), some (vi x2)] [vi (f0_maskBefore x1 x2), vi (I (b0 + 1) (x2.toNatClampNeg)), vi x2, vr (b0 + 1)] (mm I)
      refine G_iand X dX0_cutTo_23 ?_
      obtain ⟨hc3, hf⟩ := ock hf
      refine M_iast X (show SH[b0 + 1]? = some (_, 40) from hb0.2) hc3 dX0_cutTo_24 ?_
      refine G_iinc (x := x2) (v := 1) X dX0_cutTo_25 rfl rfl rfl (ls' := [some (vr b0), some (vi x1), some (vi (x2 + 1))]) rfl ?_
      refine G_goto (tgt := 2) X dX0_cutTo_28 (by decide) ?_
      exact ih (uI I (b0 + 1) x2.toNatClampNeg ((I (b0 + 1) (x2.toNatClampNeg)) &&& (f0_maskBefore x1 x2))) b0 hb0 x1 (x2 + 1) _ hR hf

def f0_cutTo (I : gI) (b : Nat) (a0 : Int32) : Option gI := f0_cutTo_L2 FU I b a0 0
set_option maxRecDepth 100000 in
set_option maxHeartbeats 4000000 in
theorem f0_cutTo_ok (E : gEnv) (I : gI) (b : Nat) (hb : isB b) (a0 : Int32) (I' : gI) (hf : f0_cutTo I b a0 = some I') : Ctr E yX0_cutTo cX0_cutTo 3 none 2 0 0 [vr b, vi a0] (mm I) (none) (mm I') := by
  refine Ctr.mk (by decide +kernel) rfl (Nat.le_of_ble_eq_true rfl) fun κ X hR _ => ?_
  have X : Cx E κ cX0_cutTo 3 RX0 none 2 0 0 := X
  show G E κ 0 0 0 [some (vr b), some (vi a0), none] [] (mm I)
  unfold f0_cutTo at hf
  refine G_iconst (v := 0) X dX0_cutTo_0 rfl ?_
  refine G_istore_n X dX0_cutTo_1 rfl rfl (ls' := [some (vr b), some (vi a0), some (vi 0)]) rfl ?_
  exact f0_cutTo_L2_ok X FU I b hb a0 0 _ hR hf

def f0_addRun_L15 : Nat → gI → Nat → Int32 → Int32 → Option gI
  | 0, _, _, _, _ => none
  | k + 1, I, b0, x3, x4 => (if 40 ≤ x4 then some (uI I b0 1 x3) else if ib x4 40 = true then if ib x4 40 = true then f0_addRun_L15 k (uI I (b0 + 1) x4.toNatClampNeg ((I (b0 + 1) (x4.toNatClampNeg)) ||| ((f0_maskBefore x3 x4) &&& ((f0_maskBefore (I b0 1) x4) ^^^ ((-1)))))) b0 x3 (x4 + 1) else none else none)
set_option maxRecDepth 100000 in
set_option maxHeartbeats 4000000 in
theorem f0_addRun_L15_ok {E : gEnv} {κ : gCtx} (X : Cx E κ cX0_addRun 5 RX0 none 2 0 0) : ∀ (k : Nat) (I : gI) (b0 : Nat) (hb0 : isB b0) (x3 : Int32) (x4 : Int32) (I' : gI) (hR : gRt E κ 0 0 (none) (mm I')) (hf : f0_addRun_L15 k I b0 x3 x4 = some I'), G E κ 0 0 15 [some (vr b0), none, none, some (vi x3), some (vi x4)] [] (mm I) := by
  intro k
  induction k with
  | zero =>
    intros
    rename_i hf
    cases hf
  | succ k ih =>
    intro I b0 hb0 x3 x4 I' hR hf
    refine G_iload (x := x4) X dX0_addRun_15 rfl ?_
    refine G_aload_n (x := some (b0)) X dX0_addRun_17 rfl rfl ?_
    refine M_getR X fd_X0_9 rfl (show SH[b0]? = some (_, 0) from hb0.1) (isB_p hb0) dX0_addRun_18 ?_
    refine M_alen (v := 40) X (show SH[b0 + 1]? = some (_, 40) from hb0.2) (by decide) dX0_addRun_21 rfl ?_
    refine G_icmp_ge (tgt := 59) X dX0_addRun_22 (by decide) (fun hc2 => ?_) (fun hc2 => ?_)
    · have hf := (if_pos hc2).symm.trans hf
      refine G_aload_n (x := some (b0)) X dX0_addRun_59 rfl rfl ?_
      refine G_iload_n (x := x3) X dX0_addRun_60 rfl rfl ?_
      refine M_putI X fd_X0_15 rfl (show SH[b0]? = some (_, 0) from hb0.1) rfl rfl dX0_addRun_61 ?_
      obtain rfl := Option.some.inj hf
      exact G_vret X hR rfl dX0_addRun_64
    · have hf := (if_neg hc2).symm.trans hf
      refine G_aload_n (x := some (b0)) X dX0_addRun_25 rfl rfl ?_
      refine M_getR X fd_X0_9 rfl (show SH[b0]? = some (_, 0) from hb0.1) (isB_p hb0) dX0_addRun_26 ?_
      refine G_iload (x := x4) X dX0_addRun_29 rfl ?_
      refine G_dup2 X rfl rfl dX0_addRun_31 ?_
      obtain ⟨hc3, hf⟩ := ock hf
      refine M_iald X (show SH[b0 + 1]? = some (_, 40) from hb0.2) hc3 dX0_addRun_32 ?_
      refine G_iload_n (x := x3) X dX0_addRun_33 rfl rfl ?_
      refine G_iload (x := x4) X dX0_addRun_34 rfl ?_
      refine G_callS (As := [vi x3, vi x4]) X (f0_maskBefore_ok E I x3 x4 _ rfl) cb_X0_29 st_X0_maskBefore rfl rfl (Nat.le_of_ble_eq_true rfl) (by decide) (by decide) rfl (Nat.le_refl _) (Nat.le_refl _) dX0_addRun_36 ?_
      show G E κ _ _ _ [some (vr b0), none, none, some (vi x3), some (vi x4)] [vi (f0_maskBefore x3 x4), vi (I (b0 + 1) (x4.toNatClampNeg)), vi x4, vr (b0 + 1)] (mm I)
      refine G_aload_n (x := some (b0)) X dX0_addRun_39 rfl rfl ?_
      refine M_getI X fd_X0_15 rfl (show SH[b0]? = some (_, 0) from hb0.1) dX0_addRun_40 ?_
      refine G_iload (x := x4) X dX0_addRun_43 rfl ?_
      refine G_callS (As := [vi (I b0 1), vi x4]) X (f0_maskBefore_ok E I (I b0 1) x4 _ rfl) cb_X0_29 st_X0_maskBefore rfl rfl (Nat.le_of_ble_eq_true rfl) (by decide) (by decide) rfl (Nat.le_refl _) (Nat.le_refl _) dX0_addRun_45 ?_
      show G E κ _ _ _ [some (vr b0), none, none, some (vi x3), some (vi x4)] [vi (f0_maskBefore (I b0 1) x4), vi (f0_maskBefore x3 x4), vi (I (b0 + 1) (x4.toNatClampNeg)), vi x4, vr (b0 + 1)] (mm I)
      refine G_iconst (v := (-1)) X dX0_addRun_48 rfl ?_
      refine G_ixor X dX0_addRun_49 ?_
      refine G_iand X dX0_addRun_50 ?_
      refine G_ior X dX0_addRun_51 ?_
      obtain ⟨hc4, hf⟩ := ock hf
      refine M_iast X (show SH[b0 + 1]? = some (_, 40) from hb0.2) hc4 dX0_addRun_52 ?_
      refine G_iinc (x := x4) (v := 1) X dX0_addRun_53 rfl rfl rfl (ls' := [some (vr b0), none, none, some (vi x3), some (vi (x4 + 1))]) rfl ?_
      refine G_goto (tgt := 15) X dX0_addRun_56 (by decide) ?_
      exact ih (uI I (b0 + 1) x4.toNatClampNeg ((I (b0 + 1) (x4.toNatClampNeg)) ||| ((f0_maskBefore x3 x4) &&& ((f0_maskBefore (I b0 1) x4) ^^^ ((-1)))))) b0 hb0 x3 (x4 + 1) _ hR hf

def f0_addRun (I : gI) (b : Nat) (a0 : Int32) (a1 : Int32) : Option gI := (if a0 = 1 then f0_addRun_L15 FU I b ((I b 1) + a1) 0 else some (uI I b 1 ((I b 1) + a1)))
set_option maxRecDepth 100000 in
set_option maxHeartbeats 4000000 in
theorem f0_addRun_ok (E : gEnv) (I : gI) (b : Nat) (hb : isB b) (a0 : Int32) (a1 : Int32) (I' : gI) (hf : f0_addRun I b a0 a1 = some I') : Ctr E yX0_addRun cX0_addRun 5 none 2 0 0 [vr b, vi a0, vi a1] (mm I) (none) (mm I') := by
  refine Ctr.mk (by decide +kernel) rfl (Nat.le_of_ble_eq_true rfl) fun κ X hR _ => ?_
  have X : Cx E κ cX0_addRun 5 RX0 none 2 0 0 := X
  show G E κ 0 0 0 [some (vr b), some (vi a0), some (vi a1), none, none] [] (mm I)
  unfold f0_addRun at hf
  refine G_aload_n (x := some (b)) X dX0_addRun_0 rfl rfl ?_
  refine M_getI X fd_X0_15 rfl (show SH[b]? = some (_, 0) from hb.1) dX0_addRun_1 ?_
  refine G_iload_n (x := a1) X dX0_addRun_4 rfl rfl ?_
  refine G_iadd X dX0_addRun_5 ?_
  refine G_istore_n X dX0_addRun_6 rfl rfl (ls' := [some (vr b), some (vi a0), some (vi a1), some (vi ((I b 1) + a1)), none]) rfl ?_
  refine G_iload_n (x := a0) X dX0_addRun_7 rfl rfl ?_
  refine G_iconst (v := 1) X dX0_addRun_8 rfl ?_
  refine G_icmp_ne (tgt := 59) X dX0_addRun_9 (by decide) (fun hc1 => ?_) (fun hc1 => ?_)
  · have hf := (if_neg hc1).symm.trans hf
    refine G_aload_n (x := some (b)) X dX0_addRun_59 rfl rfl ?_
    refine G_iload_n (x := (I b 1) + a1) X dX0_addRun_60 rfl rfl ?_
    refine M_putI X fd_X0_15 rfl (show SH[b]? = some (_, 0) from hb.1) rfl rfl dX0_addRun_61 ?_
    obtain rfl := Option.some.inj hf
    exact G_vret X hR rfl dX0_addRun_64
  · have hf := (if_pos hc1).symm.trans hf
    refine G_iconst (v := 0) X dX0_addRun_12 rfl ?_
    refine G_istore X dX0_addRun_13 rfl (ls' := [some (vr b), some (vi a0), some (vi a1), some (vi ((I b 1) + a1)), some (vi 0)]) rfl ?_
    refine G_weakL (ls' := [some (vr b), none, none, some (vi ((I b 1) + a1)), some (vi 0)]) ⟨Or.inr rfl, ⟨Or.inl rfl, ⟨Or.inl rfl, ⟨Or.inr rfl, ⟨Or.inr rfl, trivial⟩⟩⟩⟩⟩ ?_
    exact f0_addRun_L15_ok X FU I b hb ((I b 1) + a1) 0 _ hR hf

def f0_addNumber_L2 : Nat → gI → Nat → Int32 → Int32 → Int32 → Option gI
  | 0, _, _, _, _, _ => none
  | k + 1, I, b0, x1, x2, x3 => (if x2 ≤ x3 then some (uI I b0 1 ((I b0 1) + x2)) else (f0_putAt I b0 ((I b0 1) + x3) ((x1 >>> (x3 &&& 31)) &&& 1)).bind fun I2 => f0_addNumber_L2 k I2 b0 x1 x2 (x3 + 1))
set_option maxRecDepth 100000 in
set_option maxHeartbeats 4000000 in
theorem f0_addNumber_L2_ok {E : gEnv} {κ : gCtx} (X : Cx E κ cX0_addNumber 4 RX0 none 1 0 0) : ∀ (k : Nat) (I : gI) (b0 : Nat) (hb0 : isB b0) (x1 : Int32) (x2 : Int32) (x3 : Int32) (I' : gI) (hR : gRt E κ 0 0 (none) (mm I')) (hf : f0_addNumber_L2 k I b0 x1 x2 x3 = some I'), G E κ 0 0 2 [some (vr b0), some (vi x1), some (vi x2), some (vi x3)] [] (mm I) := by
  intro k
  induction k with
  | zero =>
    intros
    rename_i hf
    cases hf
  | succ k ih =>
    intro I b0 hb0 x1 x2 x3 I' hR hf
    refine G_iload_n (x := x3) X dX0_addNumber_2 rfl rfl ?_
    refine G_iload_n (x := x2) X dX0_addNumber_3 rfl rfl ?_
    refine G_icmp_ge (tgt := 28) X dX0_addNumber_4 (by decide) (fun hc1 => ?_) (fun hc1 => ?_)
    · have hf := (if_pos hc1).symm.trans hf
      refine G_aload_n (x := some (b0)) X dX0_addNumber_28 rfl rfl ?_
      refine G_dup X rfl dX0_addNumber_29 ?_
      refine M_getI X fd_X0_15 rfl (show SH[b0]? = some (_, 0) from hb0.1) dX0_addNumber_30 ?_
      refine G_iload_n (x := x2) X dX0_addNumber_33 rfl rfl ?_
      refine G_iadd X dX0_addNumber_34 ?_
      refine M_putI X fd_X0_15 rfl (show SH[b0]? = some (_, 0) from hb0.1) rfl rfl dX0_addNumber_35 ?_
      obtain rfl := Option.some.inj hf
      exact G_vret X hR rfl dX0_addNumber_38
    · have hf := (if_neg hc1).symm.trans hf
      refine G_aload_n (x := some (b0)) X dX0_addNumber_7 rfl rfl ?_
      refine G_aload_n (x := some (b0)) X dX0_addNumber_8 rfl rfl ?_
      refine M_getI X fd_X0_15 rfl (show SH[b0]? = some (_, 0) from hb0.1) dX0_addNumber_9 ?_
      refine G_iload_n (x := x3) X dX0_addNumber_12 rfl rfl ?_
      refine G_iadd X dX0_addNumber_13 ?_
      refine G_iload_n (x := x1) X dX0_addNumber_14 rfl rfl ?_
      refine G_iload_n (x := x3) X dX0_addNumber_15 rfl rfl ?_
      refine G_ishr X dX0_addNumber_16 ?_
      refine G_iconst (v := 1) X dX0_addNumber_17 rfl ?_
      refine G_iand X dX0_addNumber_18 ?_
      obtain ⟨I2, hk2, hf⟩ := obd hf
      refine G_callV (As := [vi ((I b0 1) + x3), vi ((x1 >>> (x3 &&& 31)) &&& 1)]) X (f0_putAt_ok E I b0 hb0 ((I b0 1) + x3) ((x1 >>> (x3 &&& 31)) &&& 1) I2 hk2) cb_X0_33 vi_X0_putAt (ci := 0) rfl rfl (show SH[b0]? = some (_, 0) from hb0.1) rfl rfl (Nat.le_of_ble_eq_true rfl) (by decide) (by decide) rfl (Nat.le_refl _) (Nat.le_refl _) dX0_addNumber_19 ?_
      show G E κ _ _ _ [some (vr b0), some (vi x1), some (vi x2), some (vi x3)] [] (mm I2)
      refine G_iinc (x := x3) (v := 1) X dX0_addNumber_22 rfl rfl rfl (ls' := [some (vr b0), some (vi x1), some (vi x2), some (vi (x3 + 1))]) rfl ?_
      refine G_goto (tgt := 2) X dX0_addNumber_25 (by decide) ?_
      exact ih I2 b0 hb0 x1 x2 (x3 + 1) _ hR hf

def f0_addNumber (I : gI) (b : Nat) (a0 : Int32) (a1 : Int32) : Option gI := f0_addNumber_L2 FU I b a0 a1 0
set_option maxRecDepth 100000 in
set_option maxHeartbeats 4000000 in
theorem f0_addNumber_ok (E : gEnv) (I : gI) (b : Nat) (hb : isB b) (a0 : Int32) (a1 : Int32) (I' : gI) (hf : f0_addNumber I b a0 a1 = some I') : Ctr E yX0_addNumber cX0_addNumber 4 none 1 0 0 [vr b, vi a0, vi a1] (mm I) (none) (mm I') := by
  refine Ctr.mk (by decide +kernel) rfl (Nat.le_of_ble_eq_true rfl) fun κ X hR _ => ?_
  have X : Cx E κ cX0_addNumber 4 RX0 none 1 0 0 := X
  show G E κ 0 0 0 [some (vr b), some (vi a0), some (vi a1), none] [] (mm I)
  unfold f0_addNumber at hf
  refine G_iconst (v := 0) X dX0_addNumber_0 rfl ?_
  refine G_istore_n X dX0_addNumber_1 rfl rfl (ls' := [some (vr b), some (vi a0), some (vi a1), some (vi 0)]) rfl ?_
  exact f0_addNumber_L2_ok X FU I b hb a0 a1 0 _ hR hf

def f0_invert_L2 : Nat → gI → Nat → Int32 → Option gI
  | 0, _, _, _ => none
  | k + 1, I, b0, x1 => (if 40 ≤ x1 then some I else if ib x1 40 = true then if ib x1 40 = true then f0_invert_L2 k (uI I (b0 + 1) x1.toNatClampNeg ((I (b0 + 1) (x1.toNatClampNeg)) ^^^ (f0_maskBefore (I b0 1) x1))) b0 (x1 + 1) else none else none)
set_option maxRecDepth 100000 in
set_option maxHeartbeats 4000000 in
theorem f0_invert_L2_ok {E : gEnv} {κ : gCtx} (X : Cx E κ cX0_invert 2 RX0 none 2 0 0) : ∀ (k : Nat) (I : gI) (b0 : Nat) (hb0 : isB b0) (x1 : Int32) (I' : gI) (hR : gRt E κ 0 0 (none) (mm I')) (hf : f0_invert_L2 k I b0 x1 = some I'), G E κ 0 0 2 [some (vr b0), some (vi x1)] [] (mm I) := by
  intro k
  induction k with
  | zero =>
    intros
    rename_i hf
    cases hf
  | succ k ih =>
    intro I b0 hb0 x1 I' hR hf
    refine G_iload_n (x := x1) X dX0_invert_2 rfl rfl ?_
    refine G_aload_n (x := some (b0)) X dX0_invert_3 rfl rfl ?_
    refine M_getR X fd_X0_9 rfl (show SH[b0]? = some (_, 0) from hb0.1) (isB_p hb0) dX0_invert_4 ?_
    refine M_alen (v := 40) X (show SH[b0 + 1]? = some (_, 40) from hb0.2) (by decide) dX0_invert_7 rfl ?_
    refine G_icmp_ge (tgt := 34) X dX0_invert_8 (by decide) (fun hc1 => ?_) (fun hc1 => ?_)
    · have hf := (if_pos hc1).symm.trans hf
      obtain rfl := Option.some.inj hf
      exact G_vret X hR rfl dX0_invert_34
    · have hf := (if_neg hc1).symm.trans hf
      refine G_aload_n (x := some (b0)) X dX0_invert_11 rfl rfl ?_
      refine M_getR X fd_X0_9 rfl (show SH[b0]? = some (_, 0) from hb0.1) (isB_p hb0) dX0_invert_12 ?_
      refine G_iload_n (x := x1) X dX0_invert_15 rfl rfl ?_
      refine G_dup2 X rfl rfl dX0_invert_16 ?_
      obtain ⟨hc2, hf⟩ := ock hf
      refine M_iald X (show SH[b0 + 1]? = some (_, 40) from hb0.2) hc2 dX0_invert_17 ?_
      refine G_aload_n (x := some (b0)) X dX0_invert_18 rfl rfl ?_
      refine M_getI X fd_X0_15 rfl (show SH[b0]? = some (_, 0) from hb0.1) dX0_invert_19 ?_
      refine G_iload_n (x := x1) X dX0_invert_22 rfl rfl ?_
      refine G_callS (As := [vi (I b0 1), vi x1]) X (f0_maskBefore_ok E I (I b0 1) x1 _ rfl) cb_X0_29 st_X0_maskBefore rfl rfl (Nat.le_of_ble_eq_true rfl) (by decide) (by decide) rfl (Nat.le_refl _) (Nat.le_refl _) dX0_invert_23 ?_
      show G E κ _ _ _ [some (vr b0), some (vi x1)] [vi (f0_maskBefore (I b0 1) x1), vi (I (b0 + 1) (x1.toNatClampNeg)), vi x1, vr (b0 + 1)] (mm I)
      refine G_ixor X dX0_invert_26 ?_
      obtain ⟨hc3, hf⟩ := ock hf
      refine M_iast X (show SH[b0 + 1]? = some (_, 40) from hb0.2) hc3 dX0_invert_27 ?_
      refine G_iinc (x := x1) (v := 1) X dX0_invert_28 rfl rfl rfl (ls' := [some (vr b0), some (vi (x1 + 1))]) rfl ?_
      refine G_goto (tgt := 2) X dX0_invert_31 (by decide) ?_
      exact ih (uI I (b0 + 1) x1.toNatClampNeg ((I (b0 + 1) (x1.toNatClampNeg)) ^^^ (f0_maskBefore (I b0 1) x1))) b0 hb0 (x1 + 1) _ hR hf

def f0_invert (I : gI) (b : Nat) : Option gI := f0_invert_L2 FU I b 0
set_option maxRecDepth 100000 in
set_option maxHeartbeats 4000000 in
theorem f0_invert_ok (E : gEnv) (I : gI) (b : Nat) (hb : isB b) (I' : gI) (hf : f0_invert I b = some I') : Ctr E yX0_invert cX0_invert 2 none 2 0 0 [vr b] (mm I) (none) (mm I') := by
  refine Ctr.mk (by decide +kernel) rfl (Nat.le_of_ble_eq_true rfl) fun κ X hR _ => ?_
  have X : Cx E κ cX0_invert 2 RX0 none 2 0 0 := X
  show G E κ 0 0 0 [some (vr b), none] [] (mm I)
  unfold f0_invert at hf
  refine G_iconst (v := 0) X dX0_invert_0 rfl ?_
  refine G_istore_n X dX0_invert_1 rfl rfl (ls' := [some (vr b), some (vi 0)]) rfl ?_
  exact f0_invert_L2_ok X FU I b hb 0 _ hR hf

def f0_combined (a0 : Int32) (a1 : Int32) (a2 : Int32) : Int32 := (if a0 = 0 then a1 &&& a2 else (if a0 = 1 then a1 ||| a2 else (if a0 = 2 then a1 &&& (a2 ^^^ ((-1))) else a1 ^^^ a2)))
set_option maxRecDepth 100000 in
set_option maxHeartbeats 4000000 in
theorem f0_combined_ok (E : gEnv) (I : gI) (a0 : Int32) (a1 : Int32) (a2 : Int32) (r : Int32) (hf : f0_combined  a0 a1 a2 = r) : Ctr E yX0_combined cX0_combined 3 (some .int) 0 0 0 [vi a0, vi a1, vi a2] (mm I) (some (vi r)) (mm I) := by
  refine Ctr.mk (by decide +kernel) rfl (Nat.le_of_ble_eq_true rfl) fun κ X hR _ => ?_
  have X : Cx E κ cX0_combined 3 RX0 (some .int) 0 0 0 := X
  show G E κ 0 0 0 [some (vi a0), some (vi a1), some (vi a2)] [] (mm I)
  unfold f0_combined at hf
  refine G_iload_n (x := a0) X dX0_combined_0 rfl rfl ?_
  by_cases hc1 : a0 = 0
  · have hf := (if_pos hc1).symm.trans hf
    refine G_tableJ (tgt := 28) X 0 dX0_combined_1 hc1 (by decide) (by decide) rfl (by decide) ?_
    refine G_iload_n (x := a1) X dX0_combined_28 rfl rfl ?_
    refine G_iload_n (x := a2) X dX0_combined_29 rfl rfl ?_
    refine G_iand X dX0_combined_30 ?_
    subst hf
    exact G_iret X hR rfl rfl dX0_combined_31
  have hf := (if_neg hc1).symm.trans hf
  by_cases hc2 : a0 = 1
  · have hf := (if_pos hc2).symm.trans hf
    refine G_tableJ (tgt := 32) X 1 dX0_combined_1 hc2 (by decide) (by decide) rfl (by decide) ?_
    refine G_iload_n (x := a1) X dX0_combined_32 rfl rfl ?_
    refine G_iload_n (x := a2) X dX0_combined_33 rfl rfl ?_
    refine G_ior X dX0_combined_34 ?_
    subst hf
    exact G_iret X hR rfl rfl dX0_combined_35
  have hf := (if_neg hc2).symm.trans hf
  by_cases hc3 : a0 = 2
  · have hf := (if_pos hc3).symm.trans hf
    refine G_tableJ (tgt := 36) X 2 dX0_combined_1 hc3 (by decide) (by decide) rfl (by decide) ?_
    refine G_iload_n (x := a1) X dX0_combined_36 rfl rfl ?_
    refine G_iload_n (x := a2) X dX0_combined_37 rfl rfl ?_
    refine G_iconst (v := (-1)) X dX0_combined_38 rfl ?_
    refine G_ixor X dX0_combined_39 ?_
    refine G_iand X dX0_combined_40 ?_
    subst hf
    exact G_iret X hR rfl rfl dX0_combined_41
  have hf := (if_neg hc3).symm.trans hf
  refine G_tableD (tgt := 42) X 3 dX0_combined_1 (by decide) (lt_s (lt_s (lt_s lt_0 hc1) hc2) hc3) (by decide) ?_
  refine G_iload_n (x := a1) X dX0_combined_42 rfl rfl ?_
  refine G_iload_n (x := a2) X dX0_combined_43 rfl rfl ?_
  refine G_ixor X dX0_combined_44 ?_
  subst hf
  exact G_iret X hR rfl rfl dX0_combined_45

def f0_combine_L3 : Nat → gI → Nat → Int32 → Nat → Nat → Int32 → Option gI
  | 0, _, _, _, _, _, _ => none
  | k + 1, I, b0, x1, b2, b3, x4 => (if 40 ≤ x4 then some (uI I b0 1 (if (I b2 1) < (I b3 1) then (I b3 1) else (I b2 1))) else (f0_groupAt I b2 x4).bind fun v2 => (f0_groupAt I b3 x4).bind fun v3 => if ib x4 40 = true then f0_combine_L3 k (uI I (b0 + 1) x4.toNatClampNeg (f0_combined x1 v2 v3)) b0 x1 b2 b3 (x4 + 1) else none)
set_option maxRecDepth 100000 in
set_option maxHeartbeats 4000000 in
theorem f0_combine_L3_ok {E : gEnv} {κ : gCtx} (X : Cx E κ cX0_combine 5 RX0 none 1 0 0) : ∀ (k : Nat) (I : gI) (b0 : Nat) (hb0 : isB b0) (x1 : Int32) (b2 : Nat) (hb2 : isB b2) (b3 : Nat) (hb3 : isB b3) (x4 : Int32) (I' : gI) (hR : gRt E κ 0 0 (none) (mm I')) (hf : f0_combine_L3 k I b0 x1 b2 b3 x4 = some I'), G E κ 0 0 3 [some (vr b0), some (vi x1), some (vr b2), some (vr b3), some (vi x4)] [] (mm I) := by
  intro k
  induction k with
  | zero =>
    intros
    rename_i hf
    cases hf
  | succ k ih =>
    intro I b0 hb0 x1 b2 hb2 b3 hb3 x4 I' hR hf
    refine G_iload (x := x4) X dX0_combine_3 rfl ?_
    refine G_aload_n (x := some (b0)) X dX0_combine_5 rfl rfl ?_
    refine M_getR X fd_X0_9 rfl (show SH[b0]? = some (_, 0) from hb0.1) (isB_p hb0) dX0_combine_6 ?_
    refine M_alen (v := 40) X (show SH[b0 + 1]? = some (_, 40) from hb0.2) (by decide) dX0_combine_9 rfl ?_
    refine G_icmp_ge (tgt := 42) X dX0_combine_10 (by decide) (fun hc1 => ?_) (fun hc1 => ?_)
    · have hf := (if_pos hc1).symm.trans hf
      refine G_aload_n (x := some (b0)) X dX0_combine_42 rfl rfl ?_
      refine G_aload_n (x := some (b2)) X dX0_combine_43 rfl rfl ?_
      refine M_getI X fd_X0_15 rfl (show SH[b2]? = some (_, 0) from hb2.1) dX0_combine_44 ?_
      refine G_aload_n (x := some (b3)) X dX0_combine_47 rfl rfl ?_
      refine M_getI X fd_X0_15 rfl (show SH[b3]? = some (_, 0) from hb3.1) dX0_combine_48 ?_
      refine G_max X ml_X0_41 st_mmax in_math cd_mmax (Nat.le_of_ble_eq_true rfl) (by decide) rfl (Nat.le_refl _) (Nat.le_refl _) dX0_combine_51 ?_
      refine M_putI X fd_X0_15 rfl (show SH[b0]? = some (_, 0) from hb0.1) rfl rfl dX0_combine_54 ?_
      obtain rfl := Option.some.inj hf
      exact G_vret X hR rfl dX0_combine_57
    · have hf := (if_neg hc1).symm.trans hf
      refine G_aload_n (x := some (b0)) X dX0_combine_13 rfl rfl ?_
      refine M_getR X fd_X0_9 rfl (show SH[b0]? = some (_, 0) from hb0.1) (isB_p hb0) dX0_combine_14 ?_
      refine G_iload (x := x4) X dX0_combine_17 rfl ?_
      refine G_iload_n (x := x1) X dX0_combine_19 rfl rfl ?_
      refine G_aload_n (x := some (b2)) X dX0_combine_20 rfl rfl ?_
      refine G_iload (x := x4) X dX0_combine_21 rfl ?_
      obtain ⟨v2, hk2, hf⟩ := obd hf
      refine G_callV (As := [vi x4]) X (f0_groupAt_ok E I b2 hb2 x4 v2 hk2) cb_X0_19 vi_X0_groupAt (ci := 0) rfl rfl (show SH[b2]? = some (_, 0) from hb2.1) rfl rfl (Nat.le_of_ble_eq_true rfl) (by decide) (by decide) rfl (Nat.le_refl _) (Nat.le_refl _) dX0_combine_23 ?_
      show G E κ _ _ _ [some (vr b0), some (vi x1), some (vr b2), some (vr b3), some (vi x4)] [vi v2, vi x1, vi x4, vr (b0 + 1)] (mm I)
      refine G_aload_n (x := some (b3)) X dX0_combine_26 rfl rfl ?_
      refine G_iload (x := x4) X dX0_combine_27 rfl ?_
      obtain ⟨v3, hk3, hf⟩ := obd hf
      refine G_callV (As := [vi x4]) X (f0_groupAt_ok E I b3 hb3 x4 v3 hk3) cb_X0_19 vi_X0_groupAt (ci := 0) rfl rfl (show SH[b3]? = some (_, 0) from hb3.1) rfl rfl (Nat.le_of_ble_eq_true rfl) (by decide) (by decide) rfl (Nat.le_refl _) (Nat.le_refl _) dX0_combine_29 ?_
      show G E κ _ _ _ [some (vr b0), some (vi x1), some (vr b2), some (vr b3), some (vi x4)] [vi v3, vi v2, vi x1, vi x4, vr (b0 + 1)] (mm I)
      refine G_callS (As := [vi x1, vi v2, vi v3]) X (f0_combined_ok E I x1 v2 v3 _ rfl) cb_X0_37 st_X0_combined rfl rfl (Nat.le_of_ble_eq_true rfl) (by decide) (by decide) rfl (Nat.le_refl _) (Nat.le_refl _) dX0_combine_32 ?_
      show G E κ _ _ _ [some (vr b0), some (vi x1), some (vr b2), some (vr b3), some (vi x4)] [vi (f0_combined x1 v2 v3), vi x4, vr (b0 + 1)] (mm I)
      obtain ⟨hc4, hf⟩ := ock hf
      refine M_iast X (show SH[b0 + 1]? = some (_, 40) from hb0.2) hc4 dX0_combine_35 ?_
      refine G_iinc (x := x4) (v := 1) X dX0_combine_36 rfl rfl rfl (ls' := [some (vr b0), some (vi x1), some (vr b2), some (vr b3), some (vi (x4 + 1))]) rfl ?_
      refine G_goto (tgt := 3) X dX0_combine_39 (by decide) ?_
      exact ih (uI I (b0 + 1) x4.toNatClampNeg (f0_combined x1 v2 v3)) b0 hb0 x1 b2 hb2 b3 hb3 (x4 + 1) _ hR hf

def f0_combine (I : gI) (b : Nat) (a0 : Int32) (b1 : Nat) (b2 : Nat) : Option gI := f0_combine_L3 FU I b a0 b1 b2 0
set_option maxRecDepth 100000 in
set_option maxHeartbeats 4000000 in
theorem f0_combine_ok (E : gEnv) (I : gI) (b : Nat) (hb : isB b) (a0 : Int32) (b1 : Nat) (hb1 : isB b1) (b2 : Nat) (hb2 : isB b2) (I' : gI) (hf : f0_combine I b a0 b1 b2 = some I') : Ctr E yX0_combine cX0_combine 5 none 1 0 0 [vr b, vi a0, vr b1, vr b2] (mm I) (none) (mm I') := by
  refine Ctr.mk (by decide +kernel) rfl (Nat.le_of_ble_eq_true rfl) fun κ X hR _ => ?_
  have X : Cx E κ cX0_combine 5 RX0 none 1 0 0 := X
  show G E κ 0 0 0 [some (vr b), some (vi a0), some (vr b1), some (vr b2), none] [] (mm I)
  unfold f0_combine at hf
  refine G_iconst (v := 0) X dX0_combine_0 rfl ?_
  refine G_istore X dX0_combine_1 rfl (ls' := [some (vr b), some (vi a0), some (vr b1), some (vr b2), some (vi 0)]) rfl ?_
  exact f0_combine_L3_ok X FU I b hb a0 b1 hb1 b2 hb2 0 _ hR hf

def f0_moveFrom_L18 : Nat → gI → Nat → Nat → Int32 → Int32 → Int32 → Int32 → Option gI
  | 0, _, _, _, _, _, _, _ => none
  | k + 1, I, b0, b1, x2, x3, x4, x5 => (if 40 ≤ x5 then some (uI I b0 1 (if 0 < (if ((I b1 1) + x2) < 600 then ((I b1 1) + x2) else 600) then (if ((I b1 1) + x2) < 600 then ((I b1 1) + x2) else 600) else 0)) else (f0_groupAt I b1 (x5 - x3)).bind fun v4 => (f0_groupAt I b1 ((x5 - x3) - 1)).bind fun v5 => if ib x5 40 = true then f0_moveFrom_L18 k (uI I (b0 + 1) x5.toNatClampNeg (((v4 <<< (x4 &&& 31)) ||| (v5 >>> ((15 - x4) &&& 31))) &&& 32767)) b0 b1 x2 x3 x4 (x5 + 1) else none)
set_option maxRecDepth 100000 in
set_option maxHeartbeats 4000000 in
theorem f0_moveFrom_L18_ok {E : gEnv} {κ : gCtx} (X : Cx E κ cX0_moveFrom 8 RX0 none 1 0 0) : ∀ (k : Nat) (I : gI) (b0 : Nat) (hb0 : isB b0) (b1 : Nat) (hb1 : isB b1) (x2 : Int32) (x3 : Int32) (x4 : Int32) (x5 : Int32) (I' : gI) (hR : gRt E κ 0 0 (none) (mm I')) (hf : f0_moveFrom_L18 k I b0 b1 x2 x3 x4 x5 = some I'), G E κ 0 0 18 [some (vr b0), some (vr b1), some (vi x2), some (vi x3), some (vi x4), some (vi x5), none, none] [] (mm I) := by
  intro k
  induction k with
  | zero =>
    intros
    rename_i hf
    cases hf
  | succ k ih =>
    intro I b0 hb0 b1 hb1 x2 x3 x4 x5 I' hR hf
    refine G_iload (x := x5) X dX0_moveFrom_18 rfl ?_
    refine G_aload_n (x := some (b0)) X dX0_moveFrom_20 rfl rfl ?_
    refine M_getR X fd_X0_9 rfl (show SH[b0]? = some (_, 0) from hb0.1) (isB_p hb0) dX0_moveFrom_21 ?_
    refine M_alen (v := 40) X (show SH[b0 + 1]? = some (_, 40) from hb0.2) (by decide) dX0_moveFrom_24 rfl ?_
    refine G_icmp_ge (tgt := 81) X dX0_moveFrom_25 (by decide) (fun hc3 => ?_) (fun hc3 => ?_)
    · have hf := (if_pos hc3).symm.trans hf
      refine G_aload_n (x := some (b0)) X dX0_moveFrom_81 rfl rfl ?_
      refine G_iconst (v := 0) X dX0_moveFrom_82 rfl ?_
      refine G_sipush (v := 600) X dX0_moveFrom_83 rfl ?_
      refine G_aload_n (x := some (b1)) X dX0_moveFrom_86 rfl rfl ?_
      refine M_getI X fd_X0_15 rfl (show SH[b1]? = some (_, 0) from hb1.1) dX0_moveFrom_87 ?_
      refine G_iload_n (x := x2) X dX0_moveFrom_90 rfl rfl ?_
      refine G_iadd X dX0_moveFrom_91 ?_
      refine G_min X ml_X0_52 st_mmin in_math cd_mmin (Nat.le_of_ble_eq_true rfl) (by decide) rfl (Nat.le_refl _) (Nat.le_refl _) dX0_moveFrom_92 ?_
      refine G_max X ml_X0_41 st_mmax in_math cd_mmax (Nat.le_of_ble_eq_true rfl) (by decide) rfl (Nat.le_refl _) (Nat.le_refl _) dX0_moveFrom_95 ?_
      refine M_putI X fd_X0_15 rfl (show SH[b0]? = some (_, 0) from hb0.1) rfl rfl dX0_moveFrom_98 ?_
      obtain rfl := Option.some.inj hf
      exact G_vret X hR rfl dX0_moveFrom_101
    · have hf := (if_neg hc3).symm.trans hf
      refine G_aload_n (x := some (b1)) X dX0_moveFrom_28 rfl rfl ?_
      refine G_iload (x := x5) X dX0_moveFrom_29 rfl ?_
      refine G_iload_n (x := x3) X dX0_moveFrom_31 rfl rfl ?_
      refine G_isub X dX0_moveFrom_32 ?_
      obtain ⟨v4, hk4, hf⟩ := obd hf
      refine G_callV (As := [vi (x5 - x3)]) X (f0_groupAt_ok E I b1 hb1 (x5 - x3) v4 hk4) cb_X0_19 vi_X0_groupAt (ci := 0) rfl rfl (show SH[b1]? = some (_, 0) from hb1.1) rfl rfl (Nat.le_of_ble_eq_true rfl) (by decide) (by decide) rfl (Nat.le_refl _) (Nat.le_refl _) dX0_moveFrom_33 ?_
      show G E κ _ _ _ [some (vr b0), some (vr b1), some (vi x2), some (vi x3), some (vi x4), some (vi x5), none, none] [vi v4] (mm I)
      refine G_iload (x := x4) X dX0_moveFrom_36 rfl ?_
      refine G_ishl X dX0_moveFrom_38 ?_
      refine G_istore X dX0_moveFrom_39 rfl (ls' := [some (vr b0), some (vr b1), some (vi x2), some (vi x3), some (vi x4), some (vi x5), some (vi (v4 <<< (x4 &&& 31))), none]) rfl ?_
      refine G_aload_n (x := some (b1)) X dX0_moveFrom_41 rfl rfl ?_
      refine G_iload (x := x5) X dX0_moveFrom_42 rfl ?_
      refine G_iload_n (x := x3) X dX0_moveFrom_44 rfl rfl ?_
      refine G_isub X dX0_moveFrom_45 ?_
      refine G_iconst (v := 1) X dX0_moveFrom_46 rfl ?_
      refine G_isub X dX0_moveFrom_47 ?_
      obtain ⟨v5, hk5, hf⟩ := obd hf
      refine G_callV (As := [vi ((x5 - x3) - 1)]) X (f0_groupAt_ok E I b1 hb1 ((x5 - x3) - 1) v5 hk5) cb_X0_19 vi_X0_groupAt (ci := 0) rfl rfl (show SH[b1]? = some (_, 0) from hb1.1) rfl rfl (Nat.le_of_ble_eq_true rfl) (by decide) (by decide) rfl (Nat.le_refl _) (Nat.le_refl _) dX0_moveFrom_48 ?_
      show G E κ _ _ _ [some (vr b0), some (vr b1), some (vi x2), some (vi x3), some (vi x4), some (vi x5), some (vi (v4 <<< (x4 &&& 31))), none] [vi v5] (mm I)
      refine G_bipush (v := 15) X dX0_moveFrom_51 rfl ?_
      refine G_iload (x := x4) X dX0_moveFrom_53 rfl ?_
      refine G_isub X dX0_moveFrom_55 ?_
      refine G_ishr X dX0_moveFrom_56 ?_
      refine G_istore X dX0_moveFrom_57 rfl (ls' := [some (vr b0), some (vr b1), some (vi x2), some (vi x3), some (vi x4), some (vi x5), some (vi (v4 <<< (x4 &&& 31))), some (vi (v5 >>> ((15 - x4) &&& 31)))]) rfl ?_
      refine G_aload_n (x := some (b0)) X dX0_moveFrom_59 rfl rfl ?_
      refine M_getR X fd_X0_9 rfl (show SH[b0]? = some (_, 0) from hb0.1) (isB_p hb0) dX0_moveFrom_60 ?_
      refine G_iload (x := x5) X dX0_moveFrom_63 rfl ?_
      refine G_iload (x := v4 <<< (x4 &&& 31)) X dX0_moveFrom_65 rfl ?_
      refine G_iload (x := v5 >>> ((15 - x4) &&& 31)) X dX0_moveFrom_67 rfl ?_
      refine G_ior X dX0_moveFrom_69 ?_
      refine G_sipush (v := 32767) X dX0_moveFrom_70 rfl ?_
      refine G_iand X dX0_moveFrom_73 ?_
      obtain ⟨hc6, hf⟩ := ock hf
      refine M_iast X (show SH[b0 + 1]? = some (_, 40) from hb0.2) hc6 dX0_moveFrom_74 ?_
      refine G_iinc (x := x5) (v := 1) X dX0_moveFrom_75 rfl rfl rfl (ls' := [some (vr b0), some (vr b1), some (vi x2), some (vi x3), some (vi x4), some (vi (x5 + 1)), some (vi (v4 <<< (x4 &&& 31))), some (vi (v5 >>> ((15 - x4) &&& 31)))]) rfl ?_
      refine G_goto (tgt := 18) X dX0_moveFrom_78 (by decide) ?_
      refine G_weakL (ls' := [some (vr b0), some (vr b1), some (vi x2), some (vi x3), some (vi x4), some (vi (x5 + 1)), none, none]) ⟨Or.inr rfl, ⟨Or.inr rfl, ⟨Or.inr rfl, ⟨Or.inr rfl, ⟨Or.inr rfl, ⟨Or.inr rfl, ⟨Or.inl rfl, ⟨Or.inl rfl, trivial⟩⟩⟩⟩⟩⟩⟩⟩ ?_
      exact ih (uI I (b0 + 1) x5.toNatClampNeg (((v4 <<< (x4 &&& 31)) ||| (v5 >>> ((15 - x4) &&& 31))) &&& 32767)) b0 hb0 b1 hb1 x2 x3 x4 (x5 + 1) _ hR hf

def f0_moveFrom (I : gI) (b : Nat) (b0 : Nat) (a1 : Int32) : Option gI := (fJ9_floorDiv a1 15).bind fun v1 => (fJ9_floorMod a1 15).bind fun v2 => f0_moveFrom_L18 FU I b b0 a1 v1 v2 0
set_option maxRecDepth 100000 in
set_option maxHeartbeats 4000000 in
theorem f0_moveFrom_ok (E : gEnv) (I : gI) (b : Nat) (hb : isB b) (b0 : Nat) (hb0 : isB b0) (a1 : Int32) (I' : gI) (hf : f0_moveFrom I b b0 a1 = some I') : Ctr E yX0_moveFrom cX0_moveFrom 8 none 1 0 0 [vr b, vr b0, vi a1] (mm I) (none) (mm I') := by
  refine Ctr.mk (by decide +kernel) rfl (Nat.le_of_ble_eq_true rfl) fun κ X hR _ => ?_
  have X : Cx E κ cX0_moveFrom 8 RX0 none 1 0 0 := X
  show G E κ 0 0 0 [some (vr b), some (vr b0), some (vi a1), none, none, none, none, none] [] (mm I)
  unfold f0_moveFrom at hf
  refine G_iload_n (x := a1) X dX0_moveFrom_0 rfl rfl ?_
  refine G_bipush (v := 15) X dX0_moveFrom_1 rfl ?_
  obtain ⟨v1, hk1, hf⟩ := obd hf
  refine G_callS (As := [vi a1, vi 15]) X (fJ9_floorDiv_ok E I a1 15 v1 hk1) cb_X0_46 st_J9_floorDiv_7cf53 rfl rfl (Nat.le_of_ble_eq_true rfl) (by decide) (by decide) rfl (Nat.le_refl _) (Nat.le_refl _) dX0_moveFrom_3 ?_
  show G E κ _ _ _ [some (vr b), some (vr b0), some (vi a1), none, none, none, none, none] [vi v1] (mm I)
  refine G_istore_n X dX0_moveFrom_6 rfl rfl (ls' := [some (vr b), some (vr b0), some (vi a1), some (vi v1), none, none, none, none]) rfl ?_
  refine G_iload_n (x := a1) X dX0_moveFrom_7 rfl rfl ?_
  refine G_bipush (v := 15) X dX0_moveFrom_8 rfl ?_
  obtain ⟨v2, hk2, hf⟩ := obd hf
  refine G_callS (As := [vi a1, vi 15]) X (fJ9_floorMod_ok E I a1 15 v2 hk2) cb_X0_49 st_J9_floorMod_7cf53 rfl rfl (Nat.le_of_ble_eq_true rfl) (by decide) (by decide) rfl (Nat.le_refl _) (Nat.le_refl _) dX0_moveFrom_10 ?_
  show G E κ _ _ _ [some (vr b), some (vr b0), some (vi a1), some (vi v1), none, none, none, none] [vi v2] (mm I)
  refine G_istore X dX0_moveFrom_13 rfl (ls' := [some (vr b), some (vr b0), some (vi a1), some (vi v1), some (vi v2), none, none, none]) rfl ?_
  refine G_iconst (v := 0) X dX0_moveFrom_15 rfl ?_
  refine G_istore X dX0_moveFrom_16 rfl (ls' := [some (vr b), some (vr b0), some (vi a1), some (vi v1), some (vi v2), some (vi 0), none, none]) rfl ?_
  exact f0_moveFrom_L18_ok X FU I b hb b0 hb0 a1 v1 v2 0 _ hR hf

def f0_onesBefore_L4 : Nat → gI → Nat → Int32 → Int32 → Int32 → Option Int32
  | 0, _, _, _, _, _ => none
  | k + 1, I, b0, x1, x2, x3 => (if 40 ≤ x3 then some x2 else if ib x3 40 = true then f0_onesBefore_L4 k I b0 x1 (x2 + (fJ6_bitCount ((I (b0 + 1) (x3.toNatClampNeg)) &&& (f0_maskBefore x1 x3)))) (x3 + 1) else none)
set_option maxRecDepth 100000 in
set_option maxHeartbeats 4000000 in
theorem f0_onesBefore_L4_ok {E : gEnv} {κ : gCtx} (X : Cx E κ cX0_onesBefore 4 RX0 (some .int) 2 0 0) : ∀ (k : Nat) (I : gI) (b0 : Nat) (hb0 : isB b0) (x1 : Int32) (x2 : Int32) (x3 : Int32) (r : Int32) (hR : gRt E κ 0 0 (some (vi r)) (mm I)) (hf : f0_onesBefore_L4 k I b0 x1 x2 x3 = some r), G E κ 0 0 4 [some (vr b0), some (vi x1), some (vi x2), some (vi x3)] [] (mm I) := by
  intro k
  induction k with
  | zero =>
    intros
    rename_i hf
    cases hf
  | succ k ih =>
    intro I b0 hb0 x1 x2 x3 r hR hf
    refine G_iload_n (x := x3) X dX0_onesBefore_4 rfl rfl ?_
    refine G_aload_n (x := some (b0)) X dX0_onesBefore_5 rfl rfl ?_
    refine M_getR X fd_X0_9 rfl (show SH[b0]? = some (_, 0) from hb0.1) (isB_p hb0) dX0_onesBefore_6 ?_
    refine M_alen (v := 40) X (show SH[b0 + 1]? = some (_, 40) from hb0.2) (by decide) dX0_onesBefore_9 rfl ?_
    refine G_icmp_ge (tgt := 37) X dX0_onesBefore_10 (by decide) (fun hc1 => ?_) (fun hc1 => ?_)
    · have hf := (if_pos hc1).symm.trans hf
      refine G_iload_n (x := x2) X dX0_onesBefore_37 rfl rfl ?_
      obtain rfl := Option.some.inj hf
      exact G_iret X hR rfl rfl dX0_onesBefore_38
    · have hf := (if_neg hc1).symm.trans hf
      refine G_iload_n (x := x2) X dX0_onesBefore_13 rfl rfl ?_
      refine G_aload_n (x := some (b0)) X dX0_onesBefore_14 rfl rfl ?_
      refine M_getR X fd_X0_9 rfl (show SH[b0]? = some (_, 0) from hb0.1) (isB_p hb0) dX0_onesBefore_15 ?_
      refine G_iload_n (x := x3) X dX0_onesBefore_18 rfl rfl ?_
      obtain ⟨hc2, hf⟩ := ock hf
      refine M_iald X (show SH[b0 + 1]? = some (_, 40) from hb0.2) hc2 dX0_onesBefore_19 ?_
      refine G_iload_n (x := x1) X dX0_onesBefore_20 rfl rfl ?_
      refine G_iload_n (x := x3) X dX0_onesBefore_21 rfl rfl ?_
      refine G_callS (As := [vi x1, vi x3]) X (f0_maskBefore_ok E I x1 x3 _ rfl) cb_X0_29 st_X0_maskBefore rfl rfl (Nat.le_of_ble_eq_true rfl) (by decide) (by decide) rfl (Nat.le_refl _) (Nat.le_refl _) dX0_onesBefore_22 ?_
      show G E κ _ _ _ [some (vr b0), some (vi x1), some (vi x2), some (vi x3)] [vi (f0_maskBefore x1 x3), vi (I (b0 + 1) (x3.toNatClampNeg)), vi x2] (mm I)
      refine G_iand X dX0_onesBefore_25 ?_
      refine G_callS (As := [vi ((I (b0 + 1) (x3.toNatClampNeg)) &&& (f0_maskBefore x1 x3))]) X (fJ6_bitCount_ok E I ((I (b0 + 1) (x3.toNatClampNeg)) &&& (f0_maskBefore x1 x3)) _ rfl) cb_X0_58 st_J6_bitCount_0f7a4 rfl rfl (Nat.le_of_ble_eq_true rfl) (by decide) (by decide) rfl (Nat.le_refl _) (Nat.le_refl _) dX0_onesBefore_26 ?_
      show G E κ _ _ _ [some (vr b0), some (vi x1), some (vi x2), some (vi x3)] [vi (fJ6_bitCount ((I (b0 + 1) (x3.toNatClampNeg)) &&& (f0_maskBefore x1 x3))), vi x2] (mm I)
      refine G_iadd X dX0_onesBefore_29 ?_
      refine G_istore_n X dX0_onesBefore_30 rfl rfl (ls' := [some (vr b0), some (vi x1), some (vi (x2 + (fJ6_bitCount ((I (b0 + 1) (x3.toNatClampNeg)) &&& (f0_maskBefore x1 x3))))), some (vi x3)]) rfl ?_
      refine G_iinc (x := x3) (v := 1) X dX0_onesBefore_31 rfl rfl rfl (ls' := [some (vr b0), some (vi x1), some (vi (x2 + (fJ6_bitCount ((I (b0 + 1) (x3.toNatClampNeg)) &&& (f0_maskBefore x1 x3))))), some (vi (x3 + 1))]) rfl ?_
      refine G_goto (tgt := 4) X dX0_onesBefore_34 (by decide) ?_
      exact ih I b0 hb0 x1 (x2 + (fJ6_bitCount ((I (b0 + 1) (x3.toNatClampNeg)) &&& (f0_maskBefore x1 x3)))) (x3 + 1) _ hR hf

def f0_onesBefore (I : gI) (b : Nat) (a0 : Int32) : Option Int32 := f0_onesBefore_L4 FU I b a0 0 0
set_option maxRecDepth 100000 in
set_option maxHeartbeats 4000000 in
theorem f0_onesBefore_ok (E : gEnv) (I : gI) (b : Nat) (hb : isB b) (a0 : Int32) (r : Int32) (hf : f0_onesBefore I b a0 = some r) : Ctr E yX0_onesBefore cX0_onesBefore 4 (some .int) 2 0 0 [vr b, vi a0] (mm I) (some (vi r)) (mm I) := by
  refine Ctr.mk (by decide +kernel) rfl (Nat.le_of_ble_eq_true rfl) fun κ X hR _ => ?_
  have X : Cx E κ cX0_onesBefore 4 RX0 (some .int) 2 0 0 := X
  show G E κ 0 0 0 [some (vr b), some (vi a0), none, none] [] (mm I)
  unfold f0_onesBefore at hf
  refine G_iconst (v := 0) X dX0_onesBefore_0 rfl ?_
  refine G_istore_n X dX0_onesBefore_1 rfl rfl (ls' := [some (vr b), some (vi a0), some (vi 0), none]) rfl ?_
  refine G_iconst (v := 0) X dX0_onesBefore_2 rfl ?_
  refine G_istore_n X dX0_onesBefore_3 rfl rfl (ls' := [some (vr b), some (vi a0), some (vi 0), some (vi 0)]) rfl ?_
  exact f0_onesBefore_L4_ok X FU I b hb a0 0 0 _ hR hf

def f0_ones (I : gI) (b : Nat) : Option Int32 := (f0_onesBefore I b (I b 1)).bind fun v1 => some v1
set_option maxRecDepth 100000 in
set_option maxHeartbeats 4000000 in
theorem f0_ones_ok (E : gEnv) (I : gI) (b : Nat) (hb : isB b) (r : Int32) (hf : f0_ones I b = some r) : Ctr E yX0_ones cX0_ones 1 (some .int) 3 0 0 [vr b] (mm I) (some (vi r)) (mm I) := by
  refine Ctr.mk (by decide +kernel) rfl (Nat.le_of_ble_eq_true rfl) fun κ X hR _ => ?_
  have X : Cx E κ cX0_ones 1 RX0 (some .int) 3 0 0 := X
  show G E κ 0 0 0 [some (vr b)] [] (mm I)
  unfold f0_ones at hf
  refine G_aload_n (x := some (b)) X dX0_ones_0 rfl rfl ?_
  refine G_aload_n (x := some (b)) X dX0_ones_1 rfl rfl ?_
  refine M_getI X fd_X0_15 rfl (show SH[b]? = some (_, 0) from hb.1) dX0_ones_2 ?_
  obtain ⟨v1, hk1, hf⟩ := obd hf
  refine G_callV (As := [vi (I b 1)]) X (f0_onesBefore_ok E I b hb (I b 1) v1 hk1) cb_X0_55 vi_X0_onesBefore (ci := 0) rfl rfl (show SH[b]? = some (_, 0) from hb.1) rfl rfl (Nat.le_of_ble_eq_true rfl) (by decide) (by decide) rfl (Nat.le_refl _) (Nat.le_refl _) dX0_ones_5 ?_
  show G E κ _ _ _ [some (vr b)] [vi v1] (mm I)
  obtain rfl := Option.some.inj hf
  exact G_iret X hR rfl rfl dX0_ones_8

def f0_placeInGroup_L4 : Nat → Int32 → Int32 → Int32 → Option Int32
  | 0, _, _, _ => none
  | k + 1, x0, x2, x3 => (if 15 ≤ x3 then some ((-9)) else (if ((x0 >>> (x3 &&& 31)) &&& 1) = 1 then (if x2 = 0 then some x3 else f0_placeInGroup_L4 k x0 (x2 + (-1)) (x3 + 1)) else f0_placeInGroup_L4 k x0 x2 (x3 + 1)))
set_option maxRecDepth 100000 in
set_option maxHeartbeats 4000000 in
theorem f0_placeInGroup_L4_ok {E : gEnv} {κ : gCtx} (X : Cx E κ cX0_placeInGroup 4 RX0 (some .int) 0 0 0) : ∀ (k : Nat) (I : gI) (x0 : Int32) (x2 : Int32) (x3 : Int32) (r : Int32) (hR : gRt E κ 0 0 (some (vi r)) (mm I)) (hf : f0_placeInGroup_L4 k x0 x2 x3 = some r), G E κ 0 0 4 [some (vi x0), none, some (vi x2), some (vi x3)] [] (mm I) := by
  intro k
  induction k with
  | zero =>
    intros
    rename_i hf
    cases hf
  | succ k ih =>
    intro I x0 x2 x3 r hR hf
    refine G_iload_n (x := x3) X dX0_placeInGroup_4 rfl rfl ?_
    refine G_bipush (v := 15) X dX0_placeInGroup_5 rfl ?_
    refine G_icmp_ge (tgt := 34) X dX0_placeInGroup_7 (by decide) (fun hc1 => ?_) (fun hc1 => ?_)
    · have hf := (if_pos hc1).symm.trans hf
      refine G_bipush (v := (-9)) X dX0_placeInGroup_34 rfl ?_
      obtain rfl := Option.some.inj hf
      exact G_iret X hR rfl rfl dX0_placeInGroup_36
    · have hf := (if_neg hc1).symm.trans hf
      refine G_iload_n (x := x0) X dX0_placeInGroup_10 rfl rfl ?_
      refine G_iload_n (x := x3) X dX0_placeInGroup_11 rfl rfl ?_
      refine G_ishr X dX0_placeInGroup_12 ?_
      refine G_iconst (v := 1) X dX0_placeInGroup_13 rfl ?_
      refine G_iand X dX0_placeInGroup_14 ?_
      refine G_iconst (v := 1) X dX0_placeInGroup_15 rfl ?_
      refine G_icmp_ne (tgt := 28) X dX0_placeInGroup_16 (by decide) (fun hc2 => ?_) (fun hc2 => ?_)
      · have hf := (if_neg hc2).symm.trans hf
        refine G_iinc (x := x3) (v := 1) X dX0_placeInGroup_28 rfl rfl rfl (ls' := [some (vi x0), none, some (vi x2), some (vi (x3 + 1))]) rfl ?_
        refine G_goto (tgt := 4) X dX0_placeInGroup_31 (by decide) ?_
        exact ih I x0 x2 (x3 + 1) _ hR hf
      · have hf := (if_pos hc2).symm.trans hf
        refine G_iload_n (x := x2) X dX0_placeInGroup_19 rfl rfl ?_
        refine G_if_ne (tgt := 25) X dX0_placeInGroup_20 (by decide) (fun hc3 => ?_) (fun hc3 => ?_)
        · have hf := (if_neg hc3).symm.trans hf
          refine G_iinc (x := x2) (v := (-1)) X dX0_placeInGroup_25 rfl rfl rfl (ls' := [some (vi x0), none, some (vi (x2 + (-1))), some (vi x3)]) rfl ?_
          refine G_iinc (x := x3) (v := 1) X dX0_placeInGroup_28 rfl rfl rfl (ls' := [some (vi x0), none, some (vi (x2 + (-1))), some (vi (x3 + 1))]) rfl ?_
          refine G_goto (tgt := 4) X dX0_placeInGroup_31 (by decide) ?_
          exact ih I x0 (x2 + (-1)) (x3 + 1) _ hR hf
        · have hf := (if_pos hc3).symm.trans hf
          refine G_iload_n (x := x3) X dX0_placeInGroup_23 rfl rfl ?_
          obtain rfl := Option.some.inj hf
          exact G_iret X hR rfl rfl dX0_placeInGroup_24

def f0_placeInGroup (a0 : Int32) (a1 : Int32) : Option Int32 := f0_placeInGroup_L4 FU a0 a1 0
set_option maxRecDepth 100000 in
set_option maxHeartbeats 4000000 in
theorem f0_placeInGroup_ok (E : gEnv) (I : gI) (a0 : Int32) (a1 : Int32) (r : Int32) (hf : f0_placeInGroup  a0 a1 = some r) : Ctr E yX0_placeInGroup cX0_placeInGroup 4 (some .int) 0 0 0 [vi a0, vi a1] (mm I) (some (vi r)) (mm I) := by
  refine Ctr.mk (by decide +kernel) rfl (Nat.le_of_ble_eq_true rfl) fun κ X hR _ => ?_
  have X : Cx E κ cX0_placeInGroup 4 RX0 (some .int) 0 0 0 := X
  show G E κ 0 0 0 [some (vi a0), some (vi a1), none, none] [] (mm I)
  unfold f0_placeInGroup at hf
  refine G_iload_n (x := a1) X dX0_placeInGroup_0 rfl rfl ?_
  refine G_istore_n X dX0_placeInGroup_1 rfl rfl (ls' := [some (vi a0), some (vi a1), some (vi a1), none]) rfl ?_
  refine G_iconst (v := 0) X dX0_placeInGroup_2 rfl ?_
  refine G_istore_n X dX0_placeInGroup_3 rfl rfl (ls' := [some (vi a0), some (vi a1), some (vi a1), some (vi 0)]) rfl ?_
  refine G_weakL (ls' := [some (vi a0), none, some (vi a1), some (vi 0)]) ⟨Or.inr rfl, ⟨Or.inl rfl, ⟨Or.inr rfl, ⟨Or.inr rfl, trivial⟩⟩⟩⟩ ?_
  exact f0_placeInGroup_L4_ok X FU I a0 a1 0 _ hR hf

def f0_placeOfOne_L11 : Nat → gI → Nat → Int32 → Int32 → Option Int32
  | 0, _, _, _, _ => none
  | k + 1, I, b0, x2, x3 => (if 40 ≤ x3 then some ((-9)) else if ib x3 40 = true then (if (fJ6_bitCount (I (b0 + 1) (x3.toNatClampNeg))) ≤ x2 then f0_placeOfOne_L11 k I b0 (x2 - (fJ6_bitCount (I (b0 + 1) (x3.toNatClampNeg)))) (x3 + 1) else if ib x3 40 = true then (f0_placeInGroup (I (b0 + 1) (x3.toNatClampNeg)) x2).bind fun v6 => some ((x3 * 15) + v6) else none) else none)
set_option maxRecDepth 100000 in
set_option maxHeartbeats 4000000 in
theorem f0_placeOfOne_L11_ok {E : gEnv} {κ : gCtx} (X : Cx E κ cX0_placeOfOne 5 RX0 (some .int) 1 0 0) : ∀ (k : Nat) (I : gI) (b0 : Nat) (hb0 : isB b0) (x2 : Int32) (x3 : Int32) (r : Int32) (hR : gRt E κ 0 0 (some (vi r)) (mm I)) (hf : f0_placeOfOne_L11 k I b0 x2 x3 = some r), G E κ 0 0 11 [some (vr b0), none, some (vi x2), some (vi x3), none] [] (mm I) := by
  intro k
  induction k with
  | zero =>
    intros
    rename_i hf
    cases hf
  | succ k ih =>
    intro I b0 hb0 x2 x3 r hR hf
    refine G_iload_n (x := x3) X dX0_placeOfOne_11 rfl rfl ?_
    refine G_aload_n (x := some (b0)) X dX0_placeOfOne_12 rfl rfl ?_
    refine M_getR X fd_X0_9 rfl (show SH[b0]? = some (_, 0) from hb0.1) (isB_p hb0) dX0_placeOfOne_13 ?_
    refine M_alen (v := 40) X (show SH[b0 + 1]? = some (_, 40) from hb0.2) (by decide) dX0_placeOfOne_16 rfl ?_
    refine G_icmp_ge (tgt := 64) X dX0_placeOfOne_17 (by decide) (fun hc2 => ?_) (fun hc2 => ?_)
    · have hf := (if_pos hc2).symm.trans hf
      refine G_bipush (v := (-9)) X dX0_placeOfOne_64 rfl ?_
      obtain rfl := Option.some.inj hf
      exact G_iret X hR rfl rfl dX0_placeOfOne_66
    · have hf := (if_neg hc2).symm.trans hf
      refine G_aload_n (x := some (b0)) X dX0_placeOfOne_20 rfl rfl ?_
      refine M_getR X fd_X0_9 rfl (show SH[b0]? = some (_, 0) from hb0.1) (isB_p hb0) dX0_placeOfOne_21 ?_
      refine G_iload_n (x := x3) X dX0_placeOfOne_24 rfl rfl ?_
      obtain ⟨hc3, hf⟩ := ock hf
      refine M_iald X (show SH[b0 + 1]? = some (_, 40) from hb0.2) hc3 dX0_placeOfOne_25 ?_
      refine G_callS (As := [vi (I (b0 + 1) (x3.toNatClampNeg))]) X (fJ6_bitCount_ok E I (I (b0 + 1) (x3.toNatClampNeg)) _ rfl) cb_X0_58 st_J6_bitCount_0f7a4 rfl rfl (Nat.le_of_ble_eq_true rfl) (by decide) (by decide) rfl (Nat.le_refl _) (Nat.le_refl _) dX0_placeOfOne_26 ?_
      show G E κ _ _ _ [some (vr b0), none, some (vi x2), some (vi x3), none] [vi (fJ6_bitCount (I (b0 + 1) (x3.toNatClampNeg)))] (mm I)
      refine G_istore X dX0_placeOfOne_29 rfl (ls' := [some (vr b0), none, some (vi x2), some (vi x3), some (vi (fJ6_bitCount (I (b0 + 1) (x3.toNatClampNeg))))]) rfl ?_
      refine G_iload_n (x := x2) X dX0_placeOfOne_31 rfl rfl ?_
      refine G_iload (x := fJ6_bitCount (I (b0 + 1) (x3.toNatClampNeg))) X dX0_placeOfOne_32 rfl ?_
      refine G_icmp_ge (tgt := 53) X dX0_placeOfOne_34 (by decide) (fun hc4 => ?_) (fun hc4 => ?_)
      · have hf := (if_pos hc4).symm.trans hf
        refine G_iload_n (x := x2) X dX0_placeOfOne_53 rfl rfl ?_
        refine G_iload (x := fJ6_bitCount (I (b0 + 1) (x3.toNatClampNeg))) X dX0_placeOfOne_54 rfl ?_
        refine G_isub X dX0_placeOfOne_56 ?_
        refine G_istore_n X dX0_placeOfOne_57 rfl rfl (ls' := [some (vr b0), none, some (vi (x2 - (fJ6_bitCount (I (b0 + 1) (x3.toNatClampNeg))))), some (vi x3), some (vi (fJ6_bitCount (I (b0 + 1) (x3.toNatClampNeg))))]) rfl ?_
        refine G_iinc (x := x3) (v := 1) X dX0_placeOfOne_58 rfl rfl rfl (ls' := [some (vr b0), none, some (vi (x2 - (fJ6_bitCount (I (b0 + 1) (x3.toNatClampNeg))))), some (vi (x3 + 1)), some (vi (fJ6_bitCount (I (b0 + 1) (x3.toNatClampNeg))))]) rfl ?_
        refine G_goto (tgt := 11) X dX0_placeOfOne_61 (by decide) ?_
        refine G_weakL (ls' := [some (vr b0), none, some (vi (x2 - (fJ6_bitCount (I (b0 + 1) (x3.toNatClampNeg))))), some (vi (x3 + 1)), none]) ⟨Or.inr rfl, ⟨Or.inl rfl, ⟨Or.inr rfl, ⟨Or.inr rfl, ⟨Or.inl rfl, trivial⟩⟩⟩⟩⟩ ?_
        exact ih I b0 hb0 (x2 - (fJ6_bitCount (I (b0 + 1) (x3.toNatClampNeg)))) (x3 + 1) _ hR hf
      · have hf := (if_neg hc4).symm.trans hf
        refine G_iload_n (x := x3) X dX0_placeOfOne_37 rfl rfl ?_
        refine G_bipush (v := 15) X dX0_placeOfOne_38 rfl ?_
        refine G_imul X dX0_placeOfOne_40 ?_
        refine G_aload_n (x := some (b0)) X dX0_placeOfOne_41 rfl rfl ?_
        refine M_getR X fd_X0_9 rfl (show SH[b0]? = some (_, 0) from hb0.1) (isB_p hb0) dX0_placeOfOne_42 ?_
        refine G_iload_n (x := x3) X dX0_placeOfOne_45 rfl rfl ?_
        obtain ⟨hc5, hf⟩ := ock hf
        refine M_iald X (show SH[b0 + 1]? = some (_, 40) from hb0.2) hc5 dX0_placeOfOne_46 ?_
        refine G_iload_n (x := x2) X dX0_placeOfOne_47 rfl rfl ?_
        obtain ⟨v6, hk6, hf⟩ := obd hf
        refine G_callS (As := [vi (I (b0 + 1) (x3.toNatClampNeg)), vi x2]) X (f0_placeInGroup_ok E I (I (b0 + 1) (x3.toNatClampNeg)) x2 v6 hk6) cb_X0_63 st_X0_placeInGroup rfl rfl (Nat.le_of_ble_eq_true rfl) (by decide) (by decide) rfl (Nat.le_refl _) (Nat.le_refl _) dX0_placeOfOne_48 ?_
        show G E κ _ _ _ [some (vr b0), none, some (vi x2), some (vi x3), some (vi (fJ6_bitCount (I (b0 + 1) (x3.toNatClampNeg))))] [vi v6, vi (x3 * 15)] (mm I)
        refine G_iadd X dX0_placeOfOne_51 ?_
        obtain rfl := Option.some.inj hf
        exact G_iret X hR rfl rfl dX0_placeOfOne_52

def f0_placeOfOne (I : gI) (b : Nat) (a0 : Int32) : Option Int32 := (if 0 ≤ a0 then f0_placeOfOne_L11 FU I b a0 0 else some ((-9)))
set_option maxRecDepth 100000 in
set_option maxHeartbeats 4000000 in
theorem f0_placeOfOne_ok (E : gEnv) (I : gI) (b : Nat) (hb : isB b) (a0 : Int32) (r : Int32) (hf : f0_placeOfOne I b a0 = some r) : Ctr E yX0_placeOfOne cX0_placeOfOne 5 (some .int) 1 0 0 [vr b, vi a0] (mm I) (some (vi r)) (mm I) := by
  refine Ctr.mk (by decide +kernel) rfl (Nat.le_of_ble_eq_true rfl) fun κ X hR _ => ?_
  have X : Cx E κ cX0_placeOfOne 5 RX0 (some .int) 1 0 0 := X
  show G E κ 0 0 0 [some (vr b), some (vi a0), none, none, none] [] (mm I)
  unfold f0_placeOfOne at hf
  refine G_iload_n (x := a0) X dX0_placeOfOne_0 rfl rfl ?_
  refine G_if_ge (tgt := 7) X dX0_placeOfOne_1 (by decide) (fun hc1 => ?_) (fun hc1 => ?_)
  · have hf := (if_pos hc1).symm.trans hf
    refine G_iload_n (x := a0) X dX0_placeOfOne_7 rfl rfl ?_
    refine G_istore_n X dX0_placeOfOne_8 rfl rfl (ls' := [some (vr b), some (vi a0), some (vi a0), none, none]) rfl ?_
    refine G_iconst (v := 0) X dX0_placeOfOne_9 rfl ?_
    refine G_istore_n X dX0_placeOfOne_10 rfl rfl (ls' := [some (vr b), some (vi a0), some (vi a0), some (vi 0), none]) rfl ?_
    refine G_weakL (ls' := [some (vr b), none, some (vi a0), some (vi 0), none]) ⟨Or.inr rfl, ⟨Or.inl rfl, ⟨Or.inr rfl, ⟨Or.inr rfl, ⟨Or.inl rfl, trivial⟩⟩⟩⟩⟩ ?_
    exact f0_placeOfOne_L11_ok X FU I b hb a0 0 _ hR hf
  · have hf := (if_neg hc1).symm.trans hf
    refine G_bipush (v := (-9)) X dX0_placeOfOne_4 rfl ?_
    obtain rfl := Option.some.inj hf
    exact G_iret X hR rfl rfl dX0_placeOfOne_6

def f0_matches_L15 : Nat → gI → Nat → Nat → Int32 → Option Bool
  | 0, _, _, _, _ => none
  | k + 1, I, b0, b1, x2 => (if 40 ≤ x2 then some true else if ib x2 40 = true then (f0_groupAt I b1 x2).bind fun v4 => (if (I (b0 + 1) (x2.toNatClampNeg)) = v4 then f0_matches_L15 k I b0 b1 (x2 + 1) else some false) else none)
set_option maxRecDepth 100000 in
set_option maxHeartbeats 4000000 in
theorem f0_matches_L15_ok {E : gEnv} {κ : gCtx} (X : Cx E κ cX0_matches 3 RX0 (some .boolean) 1 0 0) : ∀ (k : Nat) (I : gI) (b0 : Nat) (hb0 : isB b0) (b1 : Nat) (hb1 : isB b1) (x2 : Int32) (r : Bool) (hR : gRt E κ 0 0 (some (vi (b2i r))) (mm I)) (hf : f0_matches_L15 k I b0 b1 x2 = some r), G E κ 0 0 15 [some (vr b0), some (vr b1), some (vi x2)] [] (mm I) := by
  intro k
  induction k with
  | zero =>
    intros
    rename_i hf
    cases hf
  | succ k ih =>
    intro I b0 hb0 b1 hb1 x2 r hR hf
    refine G_iload_n (x := x2) X dX0_matches_15 rfl rfl ?_
    refine G_aload_n (x := some (b0)) X dX0_matches_16 rfl rfl ?_
    refine M_getR X fd_X0_9 rfl (show SH[b0]? = some (_, 0) from hb0.1) (isB_p hb0) dX0_matches_17 ?_
    refine M_alen (v := 40) X (show SH[b0 + 1]? = some (_, 40) from hb0.2) (by decide) dX0_matches_20 rfl ?_
    refine G_icmp_ge (tgt := 46) X dX0_matches_21 (by decide) (fun hc2 => ?_) (fun hc2 => ?_)
    · have hf := (if_pos hc2).symm.trans hf
      refine G_iconst (v := 1) X dX0_matches_46 rfl ?_
      obtain rfl := Option.some.inj hf
      exact G_iret X hR rfl (nar_b2i true) dX0_matches_47
    · have hf := (if_neg hc2).symm.trans hf
      refine G_aload_n (x := some (b0)) X dX0_matches_24 rfl rfl ?_
      refine M_getR X fd_X0_9 rfl (show SH[b0]? = some (_, 0) from hb0.1) (isB_p hb0) dX0_matches_25 ?_
      refine G_iload_n (x := x2) X dX0_matches_28 rfl rfl ?_
      obtain ⟨hc3, hf⟩ := ock hf
      refine M_iald X (show SH[b0 + 1]? = some (_, 40) from hb0.2) hc3 dX0_matches_29 ?_
      refine G_aload_n (x := some (b1)) X dX0_matches_30 rfl rfl ?_
      refine G_iload_n (x := x2) X dX0_matches_31 rfl rfl ?_
      obtain ⟨v4, hk4, hf⟩ := obd hf
      refine G_callV (As := [vi x2]) X (f0_groupAt_ok E I b1 hb1 x2 v4 hk4) cb_X0_19 vi_X0_groupAt (ci := 0) rfl rfl (show SH[b1]? = some (_, 0) from hb1.1) rfl rfl (Nat.le_of_ble_eq_true rfl) (by decide) (by decide) rfl (Nat.le_refl _) (Nat.le_refl _) dX0_matches_32 ?_
      show G E κ _ _ _ [some (vr b0), some (vr b1), some (vi x2)] [vi v4, vi (I (b0 + 1) (x2.toNatClampNeg))] (mm I)
      refine G_icmp_eq (tgt := 40) X dX0_matches_35 (by decide) (fun hc5 => ?_) (fun hc5 => ?_)
      · have hf := (if_pos hc5).symm.trans hf
        refine G_iinc (x := x2) (v := 1) X dX0_matches_40 rfl rfl rfl (ls' := [some (vr b0), some (vr b1), some (vi (x2 + 1))]) rfl ?_
        refine G_goto (tgt := 15) X dX0_matches_43 (by decide) ?_
        exact ih I b0 hb0 b1 hb1 (x2 + 1) _ hR hf
      · have hf := (if_neg hc5).symm.trans hf
        refine G_iconst (v := 0) X dX0_matches_38 rfl ?_
        obtain rfl := Option.some.inj hf
        exact G_iret X hR rfl (nar_b2i false) dX0_matches_39

def f0_matches (I : gI) (b : Nat) (b0 : Nat) : Option Bool := (if (I b 1) = (I b0 1) then f0_matches_L15 FU I b b0 0 else some false)
set_option maxRecDepth 100000 in
set_option maxHeartbeats 4000000 in
theorem f0_matches_ok (E : gEnv) (I : gI) (b : Nat) (hb : isB b) (b0 : Nat) (hb0 : isB b0) (r : Bool) (hf : f0_matches I b b0 = some r) : Ctr E yX0_matches cX0_matches 3 (some .boolean) 1 0 0 [vr b, vr b0] (mm I) (some (vi (b2i r))) (mm I) := by
  refine Ctr.mk (by decide +kernel) rfl (Nat.le_of_ble_eq_true rfl) fun κ X hR _ => ?_
  have X : Cx E κ cX0_matches 3 RX0 (some .boolean) 1 0 0 := X
  show G E κ 0 0 0 [some (vr b), some (vr b0), none] [] (mm I)
  unfold f0_matches at hf
  refine G_aload_n (x := some (b)) X dX0_matches_0 rfl rfl ?_
  refine M_getI X fd_X0_15 rfl (show SH[b]? = some (_, 0) from hb.1) dX0_matches_1 ?_
  refine G_aload_n (x := some (b0)) X dX0_matches_4 rfl rfl ?_
  refine M_getI X fd_X0_15 rfl (show SH[b0]? = some (_, 0) from hb0.1) dX0_matches_5 ?_
  refine G_icmp_eq (tgt := 13) X dX0_matches_8 (by decide) (fun hc1 => ?_) (fun hc1 => ?_)
  · have hf := (if_pos hc1).symm.trans hf
    refine G_iconst (v := 0) X dX0_matches_13 rfl ?_
    refine G_istore_n X dX0_matches_14 rfl rfl (ls' := [some (vr b), some (vr b0), some (vi 0)]) rfl ?_
    exact f0_matches_L15_ok X FU I b hb b0 hb0 0 _ hR hf
  · have hf := (if_neg hc1).symm.trans hf
    refine G_iconst (v := 0) X dX0_matches_11 rfl ?_
    obtain rfl := Option.some.inj hf
    exact G_iret X hR rfl (nar_b2i false) dX0_matches_12

