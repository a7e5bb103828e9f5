def f3_dropOldest_L9 : Nat → gI → Nat → Int32 → Option gI
  | 0, _, _, _ => none
  | k + 1, I, b1, x2 => (if 5 ≤ x2 then some (uI (uI I 3 4 (nI b1)) 2 1 (((uI I 3 4 (nI b1)) 2 1) - 1)) else if ib x2 5 = true then if isCb (I 3 x2.toNatClampNeg).toNatClampNeg = true then if ib (x2 - 1) 5 = true then f3_dropOldest_L9 k (uI I 3 (x2 - 1).toNatClampNeg (nI ((I 3 x2.toNatClampNeg).toNatClampNeg))) b1 (x2 + 1) else none else none else none)
set_option maxRecDepth 100000 in
set_option maxHeartbeats 4000000 in
theorem f3_dropOldest_L9_ok {E : gEnv} {κ : gCtx} (X : Cx E κ cX3_dropOldest 3 RX3 none 0 0 0) : ∀ (k : Nat) (I : gI) (b1 : Nat) (hb1 : isC b1) (x2 : Int32) (I' : gI) (hR : gRt E κ 0 0 (none) (mm I')) (hf : f3_dropOldest_L9 k I b1 x2 = some I'), G E κ 0 0 9 [some (vr 2), some (vr b1), some (vi x2)] [] (mm I) := by
  intro k
  induction k with
  | zero =>
    intros
    rename_i hf
    cases hf
  | succ k ih =>
    intro I b1 hb1 x2 I' hR hf
    refine G_iload_n (x := x2) X dX3_dropOldest_9 rfl rfl ?_
    refine G_aload_n (x := some (2)) X dX3_dropOldest_10 rfl rfl ?_
    refine M_getR X fd_X3_11 rfl (show SH[2]? = some (_, 0) from rfl) rfl dX3_dropOldest_11 ?_
    refine M_alen (v := 5) X (show SH[3]? = some (_, 5) from rfl) (by decide) dX3_dropOldest_14 rfl ?_
    refine G_icmp_ge (tgt := 38) X dX3_dropOldest_15 (by decide) (fun hc2 => ?_) (fun hc2 => ?_)
    · have hf := (if_pos hc2).symm.trans hf
      refine G_aload_n (x := some (2)) X dX3_dropOldest_38 rfl rfl ?_
      refine M_getR X fd_X3_11 rfl (show SH[2]? = some (_, 0) from rfl) rfl dX3_dropOldest_39 ?_
      refine G_iconst (v := 4) X dX3_dropOldest_42 rfl ?_
      refine G_aload_n (x := some (b1)) X dX3_dropOldest_43 rfl rfl ?_
      refine M_aast X hb1 (by decide) dX3_dropOldest_44 ?_
      show G E κ _ _ _ _ _ (mm (uI I 3 4 (nI b1)))
      refine G_aload_n (x := some (2)) X dX3_dropOldest_45 rfl rfl ?_
      refine G_dup X rfl dX3_dropOldest_46 ?_
      refine M_getI X fd_X3_18 rfl (show SH[2]? = some (_, 0) from rfl) dX3_dropOldest_47 ?_
      refine G_iconst (v := 1) X dX3_dropOldest_50 rfl ?_
      refine G_isub X dX3_dropOldest_51 ?_
      refine M_putI X fd_X3_18 rfl (show SH[2]? = some (_, 0) from rfl) rfl rfl dX3_dropOldest_52 ?_
      obtain rfl := Option.some.inj hf
      exact G_vret X hR rfl dX3_dropOldest_55
    · have hf := (if_neg hc2).symm.trans hf
      refine G_aload_n (x := some (2)) X dX3_dropOldest_18 rfl rfl ?_
      refine M_getR X fd_X3_11 rfl (show SH[2]? = some (_, 0) from rfl) rfl dX3_dropOldest_19 ?_
      refine G_iload_n (x := x2) X dX3_dropOldest_22 rfl rfl ?_
      refine G_iconst (v := 1) X dX3_dropOldest_23 rfl ?_
      refine G_isub X dX3_dropOldest_24 ?_
      refine G_aload_n (x := some (2)) X dX3_dropOldest_25 rfl rfl ?_
      refine M_getR X fd_X3_11 rfl (show SH[2]? = some (_, 0) from rfl) rfl dX3_dropOldest_26 ?_
      refine G_iload_n (x := x2) X dX3_dropOldest_29 rfl rfl ?_
      obtain ⟨hc3, hf⟩ := ock hf
      obtain ⟨hc4, hf⟩ := ock hf
      refine M_aald (r := (I 3 x2.toNatClampNeg).toNatClampNeg) X (show SH[3]? = some (13, 5) from rfl) (by decide) hc3 (p_chg _ _) dX3_dropOldest_30 ?_
      obtain ⟨hc5, hf⟩ := ock hf
      refine M_aast X (isCb_isC hc4) hc5 dX3_dropOldest_31 ?_
      refine G_iinc (x := x2) (v := 1) X dX3_dropOldest_32 rfl rfl rfl (ls' := [some (vr 2), some (vr b1), some (vi (x2 + 1))]) rfl ?_
      refine G_goto (tgt := 9) X dX3_dropOldest_35 (by decide) ?_
      exact ih (uI I 3 (x2 - 1).toNatClampNeg (nI ((I 3 x2.toNatClampNeg).toNatClampNeg))) b1 hb1 (x2 + 1) _ hR hf

def f3_dropOldest (I : gI)  : Option gI := if isCb (I 3 0).toNatClampNeg = true then f3_dropOldest_L9 FU I ((I 3 0).toNatClampNeg) 1 else none
set_option maxRecDepth 100000 in
set_option maxHeartbeats 4000000 in
theorem f3_dropOldest_ok (E : gEnv) (I : gI)  (I' : gI) (hf : f3_dropOldest I  = some I') : Ctr E yX3_dropOldest cX3_dropOldest 3 none 0 0 0 [vr 2] (mm I) (none) (mm I') := by
  refine Ctr.mk (by decide +kernel) rfl (Nat.le_of_ble_eq_true rfl) fun κ X hR _ => ?_
  have X : Cx E κ cX3_dropOldest 3 RX3 none 0 0 0 := X
  show G E κ 0 0 0 [some (vr 2), none, none] [] (mm I)
  unfold f3_dropOldest at hf
  refine G_aload_n (x := some (2)) X dX3_dropOldest_0 rfl rfl ?_
  refine M_getR X fd_X3_11 rfl (show SH[2]? = some (_, 0) from rfl) rfl dX3_dropOldest_1 ?_
  refine G_iconst (v := 0) X dX3_dropOldest_4 rfl ?_
  obtain ⟨hc1, hf⟩ := ock hf
  refine M_aald (r := (I 3 0).toNatClampNeg) X (show SH[3]? = some (13, 5) from rfl) (by decide) (by decide) (p_chg _ _) dX3_dropOldest_5 ?_
  refine G_astore_n X dX3_dropOldest_6 rfl rfl (ls' := [some (vr 2), some (vr ((I 3 0).toNatClampNeg)), none]) rfl ?_
  refine G_iconst (v := 1) X dX3_dropOldest_7 rfl ?_
  refine G_istore_n X dX3_dropOldest_8 rfl rfl (ls' := [some (vr 2), some (vr ((I 3 0).toNatClampNeg)), some (vi 1)]) rfl ?_
  exact f3_dropOldest_L9_ok X FU I ((I 3 0).toNatClampNeg) (isCb_isC hc1) 1 _ hR hf

def f3_add (I : gI) (a0 : Int32) (a1 : Int32) (b2 : Nat) : Option gI := (if (I 2 1) = 5 then (f3_dropOldest I).bind fun I5 => if ib (I5 2 1) 5 = true then if isCb (I5 3 ((I5 2 1).toNatClampNeg)).toNatClampNeg = true then (f0_copyFrom (uI (uI I5 ((I5 3 ((I5 2 1).toNatClampNeg)).toNatClampNeg) 1 a0) ((I5 3 ((I5 2 1).toNatClampNeg)).toNatClampNeg) 2 a1) ((I5 3 ((I5 2 1).toNatClampNeg)).toNatClampNeg + 1) b2).bind fun I8 => some (uI I8 2 1 ((I8 2 1) + 1)) else none else none else if ib (I 2 1) 5 = true then if isCb (I 3 ((I 2 1).toNatClampNeg)).toNatClampNeg = true then (f0_copyFrom (uI (uI I ((I 3 ((I 2 1).toNatClampNeg)).toNatClampNeg) 1 a0) ((I 3 ((I 2 1).toNatClampNeg)).toNatClampNeg) 2 a1) ((I 3 ((I 2 1).toNatClampNeg)).toNatClampNeg + 1) b2).bind fun I4 => some (uI I4 2 1 ((I4 2 1) + 1)) else none else none)
set_option maxRecDepth 100000 in
set_option maxHeartbeats 4000000 in
theorem f3_add_ok (E : gEnv) (I : gI) (a0 : Int32) (a1 : Int32) (b2 : Nat) (hb2 : isB b2) (I' : gI) (hf : f3_add I a0 a1 b2 = some I') : Ctr E yX3_add cX3_add 5 none 2 0 0 [vr 2, vi a0, vi a1, vr b2] (mm I) (none) (mm I') := by
  refine Ctr.mk (by decide +kernel) rfl (Nat.le_of_ble_eq_true rfl) fun κ X hR _ => ?_
  have X : Cx E κ cX3_add 5 RX3 none 2 0 0 := X
  show G E κ 0 0 0 [some (vr 2), some (vi a0), some (vi a1), some (vr b2), none] [] (mm I)
  unfold f3_add at hf
  refine G_aload_n (x := some (2)) X dX3_add_0 rfl rfl ?_
  refine M_getI X fd_X3_18 rfl (show SH[2]? = some (_, 0) from rfl) dX3_add_1 ?_
  refine G_iconst (v := 5) X dX3_add_4 rfl ?_
  refine G_icmp_ne (tgt := 12) X dX3_add_5 (by decide) (fun hc1 => ?_) (fun hc1 => ?_)
  · have hf := (if_neg hc1).symm.trans hf
    refine G_aload_n (x := some (2)) X dX3_add_12 rfl rfl ?_
    refine M_getR X fd_X3_11 rfl (show SH[2]? = some (_, 0) from rfl) rfl dX3_add_13 ?_
    refine G_aload_n (x := some (2)) X dX3_add_16 rfl rfl ?_
    refine M_getI X fd_X3_18 rfl (show SH[2]? = some (_, 0) from rfl) dX3_add_17 ?_
    obtain ⟨hc2, hf⟩ := ock hf
    obtain ⟨hc3, hf⟩ := ock hf
    refine M_aald (r := (I 3 ((I 2 1).toNatClampNeg)).toNatClampNeg) X (show SH[3]? = some (13, 5) from rfl) (by decide) hc2 (p_chg _ _) dX3_add_20 ?_
    refine G_astore X dX3_add_21 rfl (ls' := [some (vr 2), some (vi a0), some (vi a1), some (vr b2), some (vr ((I 3 ((I 2 1).toNatClampNeg)).toNatClampNeg))]) rfl ?_
    refine G_aload (x := some ((I 3 ((I 2 1).toNatClampNeg)).toNatClampNeg)) X dX3_add_23 rfl ?_
    refine G_iload_n (x := a0) X dX3_add_25 rfl rfl ?_
    refine M_putI X fd_X3_25 rfl (show SH[(I 3 ((I 2 1).toNatClampNeg)).toNatClampNeg]? = some (_, 0) from (isCb_isC hc3).1) rfl rfl dX3_add_26 ?_
    refine G_aload (x := some ((I 3 ((I 2 1).toNatClampNeg)).toNatClampNeg)) X dX3_add_29 rfl ?_
    refine G_iload_n (x := a1) X dX3_add_31 rfl rfl ?_
    refine M_putI X fd_X3_28 rfl (show SH[(I 3 ((I 2 1).toNatClampNeg)).toNatClampNeg]? = some (_, 0) from (isCb_isC hc3).1) rfl rfl dX3_add_32 ?_
    refine G_aload (x := some ((I 3 ((I 2 1).toNatClampNeg)).toNatClampNeg)) X dX3_add_35 rfl ?_
    refine M_getR X fd_X3_31 rfl (show SH[(I 3 ((I 2 1).toNatClampNeg)).toNatClampNeg]? = some (_, 0) from (isCb_isC hc3).1) (isC_p (isCb_isC hc3)) dX3_add_37 ?_
    refine G_aload_n (x := some (b2)) X dX3_add_40 rfl rfl ?_
    obtain ⟨I4, hk4, hf⟩ := obd hf
    refine G_callV (As := [vr b2]) X (f0_copyFrom_ok E (uI (uI I ((I 3 ((I 2 1).toNatClampNeg)).toNatClampNeg) 1 a0) ((I 3 ((I 2 1).toNatClampNeg)).toNatClampNeg) 2 a1) ((I 3 ((I 2 1).toNatClampNeg)).toNatClampNeg + 1) ((isCb_isC hc3).2) b2 hb2 I4 hk4) cb_X3_35 vi_X0_copyFrom (ci := 0) rfl rfl (show SH[(I 3 ((I 2 1).toNatClampNeg)).toNatClampNeg + 1]? = some (_, 0) from ((isCb_isC hc3).2).1) rfl rfl (Nat.le_of_ble_eq_true rfl) (by decide) (by decide) rfl (Nat.le_refl _) (Nat.le_refl _) dX3_add_41 ?_
    show G E κ _ _ _ [some (vr 2), some (vi a0), some (vi a1), some (vr b2), some (vr ((I 3 ((I 2 1).toNatClampNeg)).toNatClampNeg))] [] (mm I4)
    refine G_aload_n (x := some (2)) X dX3_add_44 rfl rfl ?_
    refine G_dup X rfl dX3_add_45 ?_
    refine M_getI X fd_X3_18 rfl (show SH[2]? = some (_, 0) from rfl) dX3_add_46 ?_
    refine G_iconst (v := 1) X dX3_add_49 rfl ?_
    refine G_iadd X dX3_add_50 ?_
    refine M_putI X fd_X3_18 rfl (show SH[2]? = some (_, 0) from rfl) rfl rfl dX3_add_51 ?_
    obtain rfl := Option.some.inj hf
    exact G_vret X hR rfl dX3_add_54
  · have hf := (if_pos hc1).symm.trans hf
    refine G_aload_n (x := some (2)) X dX3_add_8 rfl rfl ?_
    obtain ⟨I5, hk5, hf⟩ := obd hf
    refine G_callV (As := []) X (f3_dropOldest_ok E I  I5 hk5) cb_X3_22 vi_X3_dropOldest (ci := 3) rfl rfl (show SH[2]? = some (_, 0) from rfl) rfl rfl (Nat.le_of_ble_eq_true rfl) (by decide) (by decide) rfl (Nat.le_refl _) (Nat.le_refl _) dX3_add_9 ?_
    show G E κ _ _ _ [some (vr 2), some (vi a0), some (vi a1), some (vr b2), none] [] (mm I5)
    refine G_aload_n (x := some (2)) X dX3_add_12 rfl rfl ?_
    refine M_getR X fd_X3_11 rfl (show SH[2]? = some (_, 0) from rfl) rfl dX3_add_13 ?_
    refine G_aload_n (x := some (2)) X dX3_add_16 rfl rfl ?_
    refine M_getI X fd_X3_18 rfl (show SH[2]? = some (_, 0) from rfl) dX3_add_17 ?_
    obtain ⟨hc6, hf⟩ := ock hf
    obtain ⟨hc7, hf⟩ := ock hf
    refine M_aald (r := (I5 3 ((I5 2 1).toNatClampNeg)).toNatClampNeg) X (show SH[3]? = some (13, 5) from rfl) (by decide) hc6 (p_chg _ _) dX3_add_20 ?_
    refine G_astore X dX3_add_21 rfl (ls' := [some (vr 2), some (vi a0), some (vi a1), some (vr b2), some (vr ((I5 3 ((I5 2 1).toNatClampNeg)).toNatClampNeg))]) rfl ?_
    refine G_aload (x := some ((I5 3 ((I5 2 1).toNatClampNeg)).toNatClampNeg)) X dX3_add_23 rfl ?_
    refine G_iload_n (x := a0) X dX3_add_25 rfl rfl ?_
    refine M_putI X fd_X3_25 rfl (show SH[(I5 3 ((I5 2 1).toNatClampNeg)).toNatClampNeg]? = some (_, 0) from (isCb_isC hc7).1) rfl rfl dX3_add_26 ?_
    refine G_aload (x := some ((I5 3 ((I5 2 1).toNatClampNeg)).toNatClampNeg)) X dX3_add_29 rfl ?_
    refine G_iload_n (x := a1) X dX3_add_31 rfl rfl ?_
    refine M_putI X fd_X3_28 rfl (show SH[(I5 3 ((I5 2 1).toNatClampNeg)).toNatClampNeg]? = some (_, 0) from (isCb_isC hc7).1) rfl rfl dX3_add_32 ?_
    refine G_aload (x := some ((I5 3 ((I5 2 1).toNatClampNeg)).toNatClampNeg)) X dX3_add_35 rfl ?_
    refine M_getR X fd_X3_31 rfl (show SH[(I5 3 ((I5 2 1).toNatClampNeg)).toNatClampNeg]? = some (_, 0) from (isCb_isC hc7).1) (isC_p (isCb_isC hc7)) dX3_add_37 ?_
    refine G_aload_n (x := some (b2)) X dX3_add_40 rfl rfl ?_
    obtain ⟨I8, hk8, hf⟩ := obd hf
    refine G_callV (As := [vr b2]) X (f0_copyFrom_ok E (uI (uI I5 ((I5 3 ((I5 2 1).toNatClampNeg)).toNatClampNeg) 1 a0) ((I5 3 ((I5 2 1).toNatClampNeg)).toNatClampNeg) 2 a1) ((I5 3 ((I5 2 1).toNatClampNeg)).toNatClampNeg + 1) ((isCb_isC hc7).2) b2 hb2 I8 hk8) cb_X3_35 vi_X0_copyFrom (ci := 0) rfl rfl (show SH[(I5 3 ((I5 2 1).toNatClampNeg)).toNatClampNeg + 1]? = some (_, 0) from ((isCb_isC hc7).2).1) rfl rfl (Nat.le_of_ble_eq_true rfl) (by decide) (by decide) rfl (Nat.le_refl _) (Nat.le_refl _) dX3_add_41 ?_
    show G E κ _ _ _ [some (vr 2), some (vi a0), some (vi a1), some (vr b2), some (vr ((I5 3 ((I5 2 1).toNatClampNeg)).toNatClampNeg))] [] (mm I8)
    refine G_aload_n (x := some (2)) X dX3_add_44 rfl rfl ?_
    refine G_dup X rfl dX3_add_45 ?_
    refine M_getI X fd_X3_18 rfl (show SH[2]? = some (_, 0) from rfl) dX3_add_46 ?_
    refine G_iconst (v := 1) X dX3_add_49 rfl ?_
    refine G_iadd X dX3_add_50 ?_
    refine M_putI X fd_X3_18 rfl (show SH[2]? = some (_, 0) from rfl) rfl rfl dX3_add_51 ?_
    obtain rfl := Option.some.inj hf
    exact G_vret X hR rfl dX3_add_54

def f3_removeLatest (I : gI)  : Option (Nat × gI) := if ib ((uI I 2 1 (if 0 < ((I 2 1) - 1) then ((I 2 1) - 1) else 0)) 2 1) 5 = true then if isCb ((uI I 2 1 (if 0 < ((I 2 1) - 1) then ((I 2 1) - 1) else 0)) 3 (((uI I 2 1 (if 0 < ((I 2 1) - 1) then ((I 2 1) - 1) else 0)) 2 1).toNatClampNeg)).toNatClampNeg = true then some (((uI I 2 1 (if 0 < ((I 2 1) - 1) then ((I 2 1) - 1) else 0)) 3 (((uI I 2 1 (if 0 < ((I 2 1) - 1) then ((I 2 1) - 1) else 0)) 2 1).toNatClampNeg)).toNatClampNeg, uI I 2 1 (if 0 < ((I 2 1) - 1) then ((I 2 1) - 1) else 0)) else none else none
set_option maxRecDepth 100000 in
set_option maxHeartbeats 4000000 in
theorem f3_removeLatest_ok (E : gEnv) (I : gI)  (r : Nat) (I' : gI) (hf : f3_removeLatest I  = some (r, I')) : Ctr E yX3_removeLatest cX3_removeLatest 1 (some (.object "PackedBits$Change")) 1 0 0 [vr 2] (mm I) (some (vr r)) (mm I') := by
  refine Ctr.mk (by decide +kernel) rfl (Nat.le_of_ble_eq_true rfl) fun κ X hR _ => ?_
  have X : Cx E κ cX3_removeLatest 1 RX3 (some (.object "PackedBits$Change")) 1 0 0 := X
  show G E κ 0 0 0 [some (vr 2)] [] (mm I)
  unfold f3_removeLatest at hf
  refine G_aload_n (x := some (2)) X dX3_removeLatest_0 rfl rfl ?_
  refine G_iconst (v := 0) X dX3_removeLatest_1 rfl ?_
  refine G_aload_n (x := some (2)) X dX3_removeLatest_2 rfl rfl ?_
  refine M_getI X fd_X3_18 rfl (show SH[2]? = some (_, 0) from rfl) dX3_removeLatest_3 ?_
  refine G_iconst (v := 1) X dX3_removeLatest_6 rfl ?_
  refine G_isub X dX3_removeLatest_7 ?_
  refine G_max X ml_X3_41 st_mmax in_math cd_mmax (Nat.le_of_ble_eq_true rfl) (by decide) rfl (Nat.le_refl _) (Nat.le_refl _) dX3_removeLatest_8 ?_
  refine M_putI X fd_X3_18 rfl (show SH[2]? = some (_, 0) from rfl) rfl rfl dX3_removeLatest_11 ?_
  refine G_aload_n (x := some (2)) X dX3_removeLatest_14 rfl rfl ?_
  refine M_getR X fd_X3_11 rfl (show SH[2]? = some (_, 0) from rfl) rfl dX3_removeLatest_15 ?_
  refine G_aload_n (x := some (2)) X dX3_removeLatest_18 rfl rfl ?_
  refine M_getI X fd_X3_18 rfl (show SH[2]? = some (_, 0) from rfl) dX3_removeLatest_19 ?_
  obtain ⟨hc1, hf⟩ := ock hf
  obtain ⟨hc2, hf⟩ := ock hf
  refine M_aald (r := ((uI I 2 1 (if 0 < ((I 2 1) - 1) then ((I 2 1) - 1) else 0)) 3 (((uI I 2 1 (if 0 < ((I 2 1) - 1) then ((I 2 1) - 1) else 0)) 2 1).toNatClampNeg)).toNatClampNeg) X (show SH[3]? = some (13, 5) from rfl) (by decide) hc1 (p_chg _ _) dX3_removeLatest_22 ?_
  obtain ⟨rfl, rfl⟩ := Prod.mk.inj (Option.some.inj hf)
  exact G_aret X hR rfl dX3_removeLatest_23

