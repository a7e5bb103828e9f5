def f4_isLiteral (a0 : Int32) : Bool := (if a0 = 0 then false else (if a0 = 32767 then false else true))
set_option maxRecDepth 100000 in
set_option maxHeartbeats 4000000 in
theorem f4_isLiteral_ok (E : gEnv) (I : gI) (a0 : Int32) (r : Bool) (hf : f4_isLiteral  a0 = r) : Ctr E yX4_isLiteral cX4_isLiteral 1 (some .boolean) 0 0 0 [vi a0] (mm I) (some (vi (b2i r))) (mm I) := by
  refine Ctr.mk (by decide +kernel) rfl (Nat.le_of_ble_eq_true rfl) fun κ X hR _ => ?_
  have X : Cx E κ cX4_isLiteral 1 RX4 (some .boolean) 0 0 0 := X
  show G E κ 0 0 0 [some (vi a0)] [] (mm I)
  unfold f4_isLiteral at hf
  refine G_iload_n (x := a0) X dX4_isLiteral_0 rfl rfl ?_
  refine G_if_eq (tgt := 15) X dX4_isLiteral_1 (by decide) (fun hc1 => ?_) (fun hc1 => ?_)
  · have hf := (if_pos hc1).symm.trans hf
    refine G_iconst (v := 0) X dX4_isLiteral_15 rfl ?_
    subst hf
    exact G_iret X hR rfl (nar_b2i false) dX4_isLiteral_16
  · have hf := (if_neg hc1).symm.trans hf
    refine G_iload_n (x := a0) X dX4_isLiteral_4 rfl rfl ?_
    refine G_sipush (v := 32767) X dX4_isLiteral_5 rfl ?_
    refine G_icmp_eq (tgt := 15) X dX4_isLiteral_8 (by decide) (fun hc2 => ?_) (fun hc2 => ?_)
    · have hf := (if_pos hc2).symm.trans hf
      refine G_iconst (v := 0) X dX4_isLiteral_15 rfl ?_
      subst hf
      exact G_iret X hR rfl (nar_b2i false) dX4_isLiteral_16
    · have hf := (if_neg hc2).symm.trans hf
      refine G_iconst (v := 1) X dX4_isLiteral_11 rfl ?_
      refine G_goto (tgt := 16) X dX4_isLiteral_12 (by decide) ?_
      subst hf
      exact G_iret X hR rfl (nar_b2i true) dX4_isLiteral_16

def f4_endOf_L45 : Nat → gI → Nat → Int32 → Int32 → Int32 → Option Int32
  | 0, _, _, _, _, _ => none
  | k + 1, I, b0, x3, x4, x5 => (if x4 ≤ x5 then some x4 else (f0_groupAt I b0 x5).bind fun v5 => (if v5 = x3 then f4_endOf_L45 k I b0 x3 x4 (x5 + 1) else some x5))
set_option maxRecDepth 100000 in
set_option maxHeartbeats 4000000 in
theorem f4_endOf_L45_ok {E : gEnv} {κ : gCtx} (X : Cx E κ cX4_endOf 6 RX4 (some .int) 1 0 0) : ∀ (k : Nat) (I : gI) (b0 : Nat) (hb0 : isB b0) (x3 : Int32) (x4 : Int32) (x5 : Int32) (r : Int32) (hR : gRt E κ 0 0 (some (vi r)) (mm I)) (hf : f4_endOf_L45 k I b0 x3 x4 x5 = some r), G E κ 0 0 45 [some (vr b0), none, none, some (vi x3), some (vi x4), some (vi x5)] [] (mm I) := by
  intro k
  induction k with
  | zero =>
    intros
    rename_i hf
    cases hf
  | succ k ih =>
    intro I b0 hb0 x3 x4 x5 r hR hf
    refine G_iload (x := x5) X dX4_endOf_45 rfl ?_
    refine G_iload (x := x4) X dX4_endOf_47 rfl ?_
    refine G_icmp_ge (tgt := 71) X dX4_endOf_49 (by decide) (fun hc4 => ?_) (fun hc4 => ?_)
    · have hf := (if_pos hc4).symm.trans hf
      refine G_iload (x := x4) X dX4_endOf_71 rfl ?_
      obtain rfl := Option.some.inj hf
      exact G_iret X hR rfl rfl dX4_endOf_73
    · have hf := (if_neg hc4).symm.trans hf
      refine G_aload_n (x := some (b0)) X dX4_endOf_52 rfl rfl ?_
      refine G_iload (x := x5) X dX4_endOf_53 rfl ?_
      obtain ⟨v5, hk5, hf⟩ := obd hf
      refine G_callV (As := [vi x5]) X (f0_groupAt_ok E I b0 hb0 x5 v5 hk5) cb_X4_15 vi_X0_groupAt (ci := 0) rfl rfl (show SH[b0]? = some (_, 0) from hb0.1) rfl rfl (Nat.le_of_ble_eq_true rfl) (by decide) (by decide) rfl (Nat.le_refl _) (Nat.le_refl _) dX4_endOf_55 ?_
      show G E κ _ _ _ [some (vr b0), none, none, some (vi x3), some (vi x4), some (vi x5)] [vi v5] (mm I)
      refine G_iload_n (x := x3) X dX4_endOf_58 rfl rfl ?_
      refine G_icmp_eq (tgt := 65) X dX4_endOf_59 (by decide) (fun hc6 => ?_) (fun hc6 => ?_)
      · have hf := (if_pos hc6).symm.trans hf
        refine G_iinc (x := x5) (v := 1) X dX4_endOf_65 rfl rfl rfl (ls' := [some (vr b0), none, none, some (vi x3), some (vi x4), some (vi (x5 + 1))]) rfl ?_
        refine G_goto (tgt := 45) X dX4_endOf_68 (by decide) ?_
        exact ih I b0 hb0 x3 x4 (x5 + 1) _ hR hf
      · have hf := (if_neg hc6).symm.trans hf
        refine G_iload (x := x5) X dX4_endOf_62 rfl ?_
        obtain rfl := Option.some.inj hf
        exact G_iret X hR rfl rfl dX4_endOf_64

def f4_endOf (I : gI) (b0 : Nat) (a1 : Int32) : Option Int32 := (if a1 < (f0_groupCount I b0) then (f0_groupAt I b0 a1).bind fun v2 => (if (f4_isLiteral v2) = true then some (a1 + 1) else f4_endOf_L45 FU I b0 v2 (if (a1 + 20) < (f0_groupCount I b0) then (a1 + 20) else (f0_groupCount I b0)) (a1 + 1)) else some 40)
set_option maxRecDepth 100000 in
set_option maxHeartbeats 4000000 in
theorem f4_endOf_ok (E : gEnv) (I : gI) (b0 : Nat) (hb0 : isB b0) (a1 : Int32) (r : Int32) (hf : f4_endOf I b0 a1 = some r) : Ctr E yX4_endOf cX4_endOf 6 (some .int) 1 0 0 [vr b0, vi a1] (mm I) (some (vi r)) (mm I) := by
  refine Ctr.mk (by decide +kernel) rfl (Nat.le_of_ble_eq_true rfl) fun κ X hR _ => ?_
  have X : Cx E κ cX4_endOf 6 RX4 (some .int) 1 0 0 := X
  show G E κ 0 0 0 [some (vr b0), some (vi a1), none, none, none, none] [] (mm I)
  unfold f4_endOf at hf
  refine G_aload_n (x := some (b0)) X dX4_endOf_0 rfl rfl ?_
  refine G_callV (As := []) X (f0_groupCount_ok E I b0 hb0 _ rfl) cb_X4_9 vi_X0_groupCount (ci := 0) rfl rfl (show SH[b0]? = some (_, 0) from hb0.1) rfl rfl (Nat.le_of_ble_eq_true rfl) (by decide) (by decide) rfl (Nat.le_refl _) (Nat.le_refl _) dX4_endOf_1 ?_
  show G E κ _ _ _ [some (vr b0), some (vi a1), none, none, none, none] [vi (f0_groupCount I b0)] (mm I)
  refine G_istore_n X dX4_endOf_4 rfl rfl (ls' := [some (vr b0), some (vi a1), some (vi (f0_groupCount I b0)), none, none, none]) rfl ?_
  refine G_iload_n (x := a1) X dX4_endOf_5 rfl rfl ?_
  refine G_iload_n (x := f0_groupCount I b0) X dX4_endOf_6 rfl rfl ?_
  refine G_icmp_lt (tgt := 13) X dX4_endOf_7 (by decide) (fun hc1 => ?_) (fun hc1 => ?_)
  · have hf := (if_pos hc1).symm.trans hf
    refine G_aload_n (x := some (b0)) X dX4_endOf_13 rfl rfl ?_
    refine G_iload_n (x := a1) X dX4_endOf_14 rfl rfl ?_
    obtain ⟨v2, hk2, hf⟩ := obd hf
    refine G_callV (As := [vi a1]) X (f0_groupAt_ok E I b0 hb0 a1 v2 hk2) cb_X4_15 vi_X0_groupAt (ci := 0) rfl rfl (show SH[b0]? = some (_, 0) from hb0.1) rfl rfl (Nat.le_of_ble_eq_true rfl) (by decide) (by decide) rfl (Nat.le_refl _) (Nat.le_refl _) dX4_endOf_15 ?_
    show G E κ _ _ _ [some (vr b0), some (vi a1), some (vi (f0_groupCount I b0)), none, none, none] [vi v2] (mm I)
    refine G_istore_n X dX4_endOf_18 rfl rfl (ls' := [some (vr b0), some (vi a1), some (vi (f0_groupCount I b0)), some (vi v2), none, none]) rfl ?_
    refine G_iload_n (x := v2) X dX4_endOf_19 rfl rfl ?_
    refine G_callS (As := [vi v2]) X (f4_isLiteral_ok E I v2 _ rfl) cb_X4_19 st_X4_isLiteral rfl rfl (Nat.le_of_ble_eq_true rfl) (by decide) (by decide) rfl (Nat.le_refl _) (Nat.le_refl _) dX4_endOf_20 ?_
    show G E κ _ _ _ [some (vr b0), some (vi a1), some (vi (f0_groupCount I b0)), some (vi v2), none, none] [vi (b2i (f4_isLiteral v2))] (mm I)
    refine G_if_eq (tgt := 30) X dX4_endOf_23 (by decide) (fun hc3 => ?_) (fun hc3 => ?_)
    · have hf := (if_neg (b2i_f hc3)).symm.trans hf
      refine G_iload_n (x := f0_groupCount I b0) X dX4_endOf_30 rfl rfl ?_
      refine G_iload_n (x := a1) X dX4_endOf_31 rfl rfl ?_
      refine G_bipush (v := 20) X dX4_endOf_32 rfl ?_
      refine G_iadd X dX4_endOf_34 ?_
      refine G_min X ml_X4_25 st_mmin in_math cd_mmin (Nat.le_of_ble_eq_true rfl) (by decide) rfl (Nat.le_refl _) (Nat.le_refl _) dX4_endOf_35 ?_
      refine G_istore X dX4_endOf_38 rfl (ls' := [some (vr b0), some (vi a1), some (vi (f0_groupCount I b0)), some (vi v2), some (vi (if (a1 + 20) < (f0_groupCount I b0) then (a1 + 20) else (f0_groupCount I b0))), none]) rfl ?_
      refine G_iload_n (x := a1) X dX4_endOf_40 rfl rfl ?_
      refine G_iconst (v := 1) X dX4_endOf_41 rfl ?_
      refine G_iadd X dX4_endOf_42 ?_
      refine G_istore X dX4_endOf_43 rfl (ls' := [some (vr b0), some (vi a1), some (vi (f0_groupCount I b0)), some (vi v2), some (vi (if (a1 + 20) < (f0_groupCount I b0) then (a1 + 20) else (f0_groupCount I b0))), some (vi (a1 + 1))]) rfl ?_
      refine G_weakL (ls' := [some (vr b0), none, none, some (vi v2), some (vi (if (a1 + 20) < (f0_groupCount I b0) then (a1 + 20) else (f0_groupCount I b0))), some (vi (a1 + 1))]) ⟨Or.inr rfl, ⟨Or.inl rfl, ⟨Or.inl rfl, ⟨Or.inr rfl, ⟨Or.inr rfl, ⟨Or.inr rfl, trivial⟩⟩⟩⟩⟩⟩ ?_
      exact f4_endOf_L45_ok X FU I b0 hb0 v2 (if (a1 + 20) < (f0_groupCount I b0) then (a1 + 20) else (f0_groupCount I b0)) (a1 + 1) _ hR hf
    · have hf := (if_pos (b2i_t hc3)).symm.trans hf
      refine G_iload_n (x := a1) X dX4_endOf_26 rfl rfl ?_
      refine G_iconst (v := 1) X dX4_endOf_27 rfl ?_
      refine G_iadd X dX4_endOf_28 ?_
      obtain rfl := Option.some.inj hf
      exact G_iret X hR rfl rfl dX4_endOf_29
  · have hf := (if_neg hc1).symm.trans hf
    refine G_bipush (v := 40) X dX4_endOf_10 rfl ?_
    obtain rfl := Option.some.inj hf
    exact G_iret X hR rfl rfl dX4_endOf_12

def f4_literals_L9 : Nat → gI → Nat → Int32 → Int32 → Int32 → Option Int32
  | 0, _, _, _, _, _ => none
  | k + 1, I, b0, x1, x2, x3 => (if x2 ≤ x3 then some x1 else (f0_groupAt I b0 x3).bind fun v2 => (if (f4_isLiteral v2) = true then f4_literals_L9 k I b0 (x1 + 1) x2 (x3 + 1) else f4_literals_L9 k I b0 x1 x2 (x3 + 1)))
set_option maxRecDepth 100000 in
set_option maxHeartbeats 4000000 in
theorem f4_literals_L9_ok {E : gEnv} {κ : gCtx} (X : Cx E κ cX4_literals 4 RX4 (some .int) 1 0 0) : ∀ (k : Nat) (I : gI) (b0 : Nat) (hb0 : isB b0) (x1 : Int32) (x2 : Int32) (x3 : Int32) (r : Int32) (hR : gRt E κ 0 0 (some (vi r)) (mm I)) (hf : f4_literals_L9 k I b0 x1 x2 x3 = some r), G E κ 0 0 9 [some (vr b0), some (vi x1), some (vi x2), some (vi x3)] [] (mm I) := by
  intro k
  induction k with
  | zero =>
    intros
    rename_i hf
    cases hf
  | succ k ih =>
    intro I b0 hb0 x1 x2 x3 r hR hf
    refine G_iload_n (x := x3) X dX4_literals_9 rfl rfl ?_
    refine G_iload_n (x := x2) X dX4_literals_10 rfl rfl ?_
    refine G_icmp_ge (tgt := 34) X dX4_literals_11 (by decide) (fun hc1 => ?_) (fun hc1 => ?_)
    · have hf := (if_pos hc1).symm.trans hf
      refine G_iload_n (x := x1) X dX4_literals_34 rfl rfl ?_
      obtain rfl := Option.some.inj hf
      exact G_iret X hR rfl rfl dX4_literals_35
    · have hf := (if_neg hc1).symm.trans hf
      refine G_aload_n (x := some (b0)) X dX4_literals_14 rfl rfl ?_
      refine G_iload_n (x := x3) X dX4_literals_15 rfl rfl ?_
      obtain ⟨v2, hk2, hf⟩ := obd hf
      refine G_callV (As := [vi x3]) X (f0_groupAt_ok E I b0 hb0 x3 v2 hk2) cb_X4_15 vi_X0_groupAt (ci := 0) rfl rfl (show SH[b0]? = some (_, 0) from hb0.1) rfl rfl (Nat.le_of_ble_eq_true rfl) (by decide) (by decide) rfl (Nat.le_refl _) (Nat.le_refl _) dX4_literals_16 ?_
      show G E κ _ _ _ [some (vr b0), some (vi x1), some (vi x2), some (vi x3)] [vi v2] (mm I)
      refine G_callS (As := [vi v2]) X (f4_isLiteral_ok E I v2 _ rfl) cb_X4_19 st_X4_isLiteral rfl rfl (Nat.le_of_ble_eq_true rfl) (by decide) (by decide) rfl (Nat.le_refl _) (Nat.le_refl _) dX4_literals_19 ?_
      show G E κ _ _ _ [some (vr b0), some (vi x1), some (vi x2), some (vi x3)] [vi (b2i (f4_isLiteral v2))] (mm I)
      refine G_if_eq (tgt := 28) X dX4_literals_22 (by decide) (fun hc3 => ?_) (fun hc3 => ?_)
      · have hf := (if_neg (b2i_f hc3)).symm.trans hf
        refine G_iinc (x := x3) (v := 1) X dX4_literals_28 rfl rfl rfl (ls' := [some (vr b0), some (vi x1), some (vi x2), some (vi (x3 + 1))]) rfl ?_
        refine G_goto (tgt := 9) X dX4_literals_31 (by decide) ?_
        exact ih I b0 hb0 x1 x2 (x3 + 1) _ hR hf
      · have hf := (if_pos (b2i_t hc3)).symm.trans hf
        refine G_iinc (x := x1) (v := 1) X dX4_literals_25 rfl rfl rfl (ls' := [some (vr b0), some (vi (x1 + 1)), some (vi x2), some (vi x3)]) rfl ?_
        refine G_iinc (x := x3) (v := 1) X dX4_literals_28 rfl rfl rfl (ls' := [some (vr b0), some (vi (x1 + 1)), some (vi x2), some (vi (x3 + 1))]) rfl ?_
        refine G_goto (tgt := 9) X dX4_literals_31 (by decide) ?_
        exact ih I b0 hb0 (x1 + 1) x2 (x3 + 1) _ hR hf

def f4_literals (I : gI) (b0 : Nat) : Option Int32 := f4_literals_L9 FU I b0 0 (f0_groupCount I b0) 0
set_option maxRecDepth 100000 in
set_option maxHeartbeats 4000000 in
theorem f4_literals_ok (E : gEnv) (I : gI) (b0 : Nat) (hb0 : isB b0) (r : Int32) (hf : f4_literals I b0 = some r) : Ctr E yX4_literals cX4_literals 4 (some .int) 1 0 0 [vr b0] (mm I) (some (vi r)) (mm I) := by
  refine Ctr.mk (by decide +kernel) rfl (Nat.le_of_ble_eq_true rfl) fun κ X hR _ => ?_
  have X : Cx E κ cX4_literals 4 RX4 (some .int) 1 0 0 := X
  show G E κ 0 0 0 [some (vr b0), none, none, none] [] (mm I)
  unfold f4_literals at hf
  refine G_iconst (v := 0) X dX4_literals_0 rfl ?_
  refine G_istore_n X dX4_literals_1 rfl rfl (ls' := [some (vr b0), some (vi 0), none, none]) rfl ?_
  refine G_aload_n (x := some (b0)) X dX4_literals_2 rfl rfl ?_
  refine G_callV (As := []) X (f0_groupCount_ok E I b0 hb0 _ rfl) cb_X4_9 vi_X0_groupCount (ci := 0) rfl rfl (show SH[b0]? = some (_, 0) from hb0.1) rfl rfl (Nat.le_of_ble_eq_true rfl) (by decide) (by decide) rfl (Nat.le_refl _) (Nat.le_refl _) dX4_literals_3 ?_
  show G E κ _ _ _ [some (vr b0), some (vi 0), none, none] [vi (f0_groupCount I b0)] (mm I)
  refine G_istore_n X dX4_literals_6 rfl rfl (ls' := [some (vr b0), some (vi 0), some (vi (f0_groupCount I b0)), none]) rfl ?_
  refine G_iconst (v := 0) X dX4_literals_7 rfl ?_
  refine G_istore_n X dX4_literals_8 rfl rfl (ls' := [some (vr b0), some (vi 0), some (vi (f0_groupCount I b0)), some (vi 0)]) rfl ?_
  exact f4_literals_L9_ok X FU I b0 hb0 0 (f0_groupCount I b0) 0 _ hR hf

def f4_fillsOf_L13 : Nat → gI → Nat → Int32 → Int32 → Int32 → Int32 → Int32 → Option Int32
  | 0, _, _, _, _, _, _, _ => none
  | k + 1, I, b0, x1, x2, x3, x4, x5 => (if x4 ≤ x5 then some x2 else (if x5 = x3 then (f4_endOf I b0 x5).bind fun v3 => (f0_groupAt I b0 x5).bind fun v4 => (if v4 = x1 then f4_fillsOf_L13 k I b0 x1 (x2 + 1) v3 x4 (x5 + 1) else f4_fillsOf_L13 k I b0 x1 (x2 + 0) v3 x4 (x5 + 1)) else f4_fillsOf_L13 k I b0 x1 x2 x3 x4 (x5 + 1)))
set_option maxRecDepth 100000 in
set_option maxHeartbeats 4000000 in
theorem f4_fillsOf_L13_ok {E : gEnv} {κ : gCtx} (X : Cx E κ cX4_fillsOf 6 RX4 (some .int) 2 0 0) : ∀ (k : Nat) (I : gI) (b0 : Nat) (hb0 : isB b0) (x1 : Int32) (x2 : Int32) (x3 : Int32) (x4 : Int32) (x5 : Int32) (r : Int32) (hR : gRt E κ 0 0 (some (vi r)) (mm I)) (hf : f4_fillsOf_L13 k I b0 x1 x2 x3 x4 x5 = some r), G E κ 0 0 13 [some (vr b0), some (vi x1), some (vi x2), some (vi x3), some (vi x4), some (vi x5)] [] (mm I) := by
  intro k
  induction k with
  | zero =>
    intros
    rename_i hf
    cases hf
  | succ k ih =>
    intro I b0 hb0 x1 x2 x3 x4 x5 r hR hf
    refine G_iload (x := x5) X dX4_fillsOf_13 rfl ?_
    refine G_iload (x := x4) X dX4_fillsOf_15 rfl ?_
    refine G_icmp_ge (tgt := 57) X dX4_fillsOf_17 (by decide) (fun hc1 => ?_) (fun hc1 => ?_)
    · have hf := (if_pos hc1).symm.trans hf
      refine G_iload_n (x := x2) X dX4_fillsOf_57 rfl rfl ?_
      obtain rfl := Option.some.inj hf
      exact G_iret X hR rfl rfl dX4_fillsOf_58
    · have hf := (if_neg hc1).symm.trans hf
      refine G_iload (x := x5) X dX4_fillsOf_20 rfl ?_
      refine G_iload_n (x := x3) X dX4_fillsOf_22 rfl rfl ?_
      refine G_icmp_ne (tgt := 51) X dX4_fillsOf_23 (by decide) (fun hc2 => ?_) (fun hc2 => ?_)
      · have hf := (if_neg hc2).symm.trans hf
        refine G_iinc (x := x5) (v := 1) X dX4_fillsOf_51 rfl rfl rfl (ls' := [some (vr b0), some (vi x1), some (vi x2), some (vi x3), some (vi x4), some (vi (x5 + 1))]) rfl ?_
        refine G_goto (tgt := 13) X dX4_fillsOf_54 (by decide) ?_
        exact ih I b0 hb0 x1 x2 x3 x4 (x5 + 1) _ hR hf
      · have hf := (if_pos hc2).symm.trans hf
        refine G_aload_n (x := some (b0)) X dX4_fillsOf_26 rfl rfl ?_
        refine G_iload (x := x5) X dX4_fillsOf_27 rfl ?_
        obtain ⟨v3, hk3, hf⟩ := obd hf
        refine G_callS (As := [vr b0, vi x5]) X (f4_endOf_ok E I b0 hb0 x5 v3 hk3) cb_X4_39 st_X4_endOf rfl rfl (Nat.le_of_ble_eq_true rfl) (by decide) (by decide) rfl (Nat.le_refl _) (Nat.le_refl _) dX4_fillsOf_29 ?_
        show G E κ _ _ _ [some (vr b0), some (vi x1), some (vi x2), some (vi x3), some (vi x4), some (vi x5)] [vi v3] (mm I)
        refine G_istore_n X dX4_fillsOf_32 rfl rfl (ls' := [some (vr b0), some (vi x1), some (vi x2), some (vi v3), some (vi x4), some (vi x5)]) rfl ?_
        refine G_iload_n (x := x2) X dX4_fillsOf_33 rfl rfl ?_
        refine G_aload_n (x := some (b0)) X dX4_fillsOf_34 rfl rfl ?_
        refine G_iload (x := x5) X dX4_fillsOf_35 rfl ?_
        obtain ⟨v4, hk4, hf⟩ := obd hf
        refine G_callV (As := [vi x5]) X (f0_groupAt_ok E I b0 hb0 x5 v4 hk4) cb_X4_15 vi_X0_groupAt (ci := 0) rfl rfl (show SH[b0]? = some (_, 0) from hb0.1) rfl rfl (Nat.le_of_ble_eq_true rfl) (by decide) (by decide) rfl (Nat.le_refl _) (Nat.le_refl _) dX4_fillsOf_37 ?_
        show G E κ _ _ _ [some (vr b0), some (vi x1), some (vi x2), some (vi v3), some (vi x4), some (vi x5)] [vi v4, vi x2] (mm I)
        refine G_iload_n (x := x1) X dX4_fillsOf_40 rfl rfl ?_
        refine G_icmp_ne (tgt := 48) X dX4_fillsOf_41 (by decide) (fun hc5 => ?_) (fun hc5 => ?_)
        · have hf := (if_neg hc5).symm.trans hf
          refine G_iconst (v := 0) X dX4_fillsOf_48 rfl ?_
          refine G_iadd X dX4_fillsOf_49 ?_
          refine G_istore_n X dX4_fillsOf_50 rfl rfl (ls' := [some (vr b0), some (vi x1), some (vi (x2 + 0)), some (vi v3), some (vi x4), some (vi x5)]) rfl ?_
          refine G_iinc (x := x5) (v := 1) X dX4_fillsOf_51 rfl rfl rfl (ls' := [some (vr b0), some (vi x1), some (vi (x2 + 0)), some (vi v3), some (vi x4), some (vi (x5 + 1))]) rfl ?_
          refine G_goto (tgt := 13) X dX4_fillsOf_54 (by decide) ?_
          exact ih I b0 hb0 x1 (x2 + 0) v3 x4 (x5 + 1) _ hR hf
        · have hf := (if_pos hc5).symm.trans hf
          refine G_iconst (v := 1) X dX4_fillsOf_44 rfl ?_
          refine G_goto (tgt := 49) X dX4_fillsOf_45 (by decide) ?_
          refine G_iadd X dX4_fillsOf_49 ?_
          refine G_istore_n X dX4_fillsOf_50 rfl rfl (ls' := [some (vr b0), some (vi x1), some (vi (x2 + 1)), some (vi v3), some (vi x4), some (vi x5)]) rfl ?_
          refine G_iinc (x := x5) (v := 1) X dX4_fillsOf_51 rfl rfl rfl (ls' := [some (vr b0), some (vi x1), some (vi (x2 + 1)), some (vi v3), some (vi x4), some (vi (x5 + 1))]) rfl ?_
          refine G_goto (tgt := 13) X dX4_fillsOf_54 (by decide) ?_
          exact ih I b0 hb0 x1 (x2 + 1) v3 x4 (x5 + 1) _ hR hf

def f4_fillsOf (I : gI) (b0 : Nat) (a1 : Int32) : Option Int32 := f4_fillsOf_L13 FU I b0 a1 0 0 (f0_groupCount I b0) 0
set_option maxRecDepth 100000 in
set_option maxHeartbeats 4000000 in
theorem f4_fillsOf_ok (E : gEnv) (I : gI) (b0 : Nat) (hb0 : isB b0) (a1 : Int32) (r : Int32) (hf : f4_fillsOf I b0 a1 = some r) : Ctr E yX4_fillsOf cX4_fillsOf 6 (some .int) 2 0 0 [vr b0, vi a1] (mm I) (some (vi r)) (mm I) := by
  refine Ctr.mk (by decide +kernel) rfl (Nat.le_of_ble_eq_true rfl) fun κ X hR _ => ?_
  have X : Cx E κ cX4_fillsOf 6 RX4 (some .int) 2 0 0 := X
  show G E κ 0 0 0 [some (vr b0), some (vi a1), none, none, none, none] [] (mm I)
  unfold f4_fillsOf at hf
  refine G_iconst (v := 0) X dX4_fillsOf_0 rfl ?_
  refine G_istore_n X dX4_fillsOf_1 rfl rfl (ls' := [some (vr b0), some (vi a1), some (vi 0), none, none, none]) rfl ?_
  refine G_iconst (v := 0) X dX4_fillsOf_2 rfl ?_
  refine G_istore_n X dX4_fillsOf_3 rfl rfl (ls' := [some (vr b0), some (vi a1), some (vi 0), some (vi 0), none, none]) rfl ?_
  refine G_aload_n (x := some (b0)) X dX4_fillsOf_4 rfl rfl ?_
  refine G_callV (As := []) X (f0_groupCount_ok E I b0 hb0 _ rfl) cb_X4_9 vi_X0_groupCount (ci := 0) rfl rfl (show SH[b0]? = some (_, 0) from hb0.1) rfl rfl (Nat.le_of_ble_eq_true rfl) (by decide) (by decide) rfl (Nat.le_refl _) (Nat.le_refl _) dX4_fillsOf_5 ?_
  show G E κ _ _ _ [some (vr b0), some (vi a1), some (vi 0), some (vi 0), none, none] [vi (f0_groupCount I b0)] (mm I)
  refine G_istore X dX4_fillsOf_8 rfl (ls' := [some (vr b0), some (vi a1), some (vi 0), some (vi 0), some (vi (f0_groupCount I b0)), none]) rfl ?_
  refine G_iconst (v := 0) X dX4_fillsOf_10 rfl ?_
  refine G_istore X dX4_fillsOf_11 rfl (ls' := [some (vr b0), some (vi a1), some (vi 0), some (vi 0), some (vi (f0_groupCount I b0)), some (vi 0)]) rfl ?_
  exact f4_fillsOf_L13_ok X FU I b0 hb0 a1 0 0 (f0_groupCount I b0) 0 _ hR hf

def f4_size (I : gI) (b0 : Nat) : Option Int32 := (f4_literals I b0).bind fun v1 => (f4_fillsOf I b0 0).bind fun v2 => (f4_fillsOf I b0 32767).bind fun v3 => some ((v1 + v2) + v3)
set_option maxRecDepth 100000 in
set_option maxHeartbeats 4000000 in
theorem f4_size_ok (E : gEnv) (I : gI) (b0 : Nat) (hb0 : isB b0) (r : Int32) (hf : f4_size I b0 = some r) : Ctr E yX4_size cX4_size 1 (some .int) 3 0 0 [vr b0] (mm I) (some (vi r)) (mm I) := by
  refine Ctr.mk (by decide +kernel) rfl (Nat.le_of_ble_eq_true rfl) fun κ X hR _ => ?_
  have X : Cx E κ cX4_size 1 RX4 (some .int) 3 0 0 := X
  show G E κ 0 0 0 [some (vr b0)] [] (mm I)
  unfold f4_size at hf
  refine G_aload_n (x := some (b0)) X dX4_size_0 rfl rfl ?_
  obtain ⟨v1, hk1, hf⟩ := obd hf
  refine G_callS (As := [vr b0]) X (f4_literals_ok E I b0 hb0 v1 hk1) cb_X4_31 st_X4_literals rfl rfl (Nat.le_of_ble_eq_true rfl) (by decide) (by decide) rfl (Nat.le_refl _) (Nat.le_refl _) dX4_size_1 ?_
  show G E κ _ _ _ [some (vr b0)] [vi v1] (mm I)
  refine G_aload_n (x := some (b0)) X dX4_size_4 rfl rfl ?_
  refine G_iconst (v := 0) X dX4_size_5 rfl ?_
  obtain ⟨v2, hk2, hf⟩ := obd hf
  refine G_callS (As := [vr b0, vi 0]) X (f4_fillsOf_ok E I b0 hb0 0 v2 hk2) cb_X4_35 st_X4_fillsOf rfl rfl (Nat.le_of_ble_eq_true rfl) (by decide) (by decide) rfl (Nat.le_refl _) (Nat.le_refl _) dX4_size_6 ?_
  show G E κ _ _ _ [some (vr b0)] [vi v2, vi v1] (mm I)
  refine G_iadd X dX4_size_9 ?_
  refine G_aload_n (x := some (b0)) X dX4_size_10 rfl rfl ?_
  refine G_sipush (v := 32767) X dX4_size_11 rfl ?_
  obtain ⟨v3, hk3, hf⟩ := obd hf
  refine G_callS (As := [vr b0, vi 32767]) X (f4_fillsOf_ok E I b0 hb0 32767 v3 hk3) cb_X4_35 st_X4_fillsOf rfl rfl (Nat.le_of_ble_eq_true rfl) (by decide) (by decide) rfl (Nat.le_refl _) (Nat.le_refl _) dX4_size_14 ?_
  show G E κ _ _ _ [some (vr b0)] [vi v3, vi (v1 + v2)] (mm I)
  refine G_iadd X dX4_size_17 ?_
  obtain rfl := Option.some.inj hf
  exact G_iret X hR rfl rfl dX4_size_18

def f4_code (a0 : Int32) (a1 : Int32) : Int32 := (if (f4_isLiteral a0) = true then a0 else (if a0 = 0 then 32768 + a1 else 49152 + a1))
set_option maxRecDepth 100000 in
set_option maxHeartbeats 4000000 in
theorem f4_code_ok (E : gEnv) (I : gI) (a0 : Int32) (a1 : Int32) (r : Int32) (hf : f4_code  a0 a1 = r) : Ctr E yX4_code cX4_code 2 (some .int) 1 0 0 [vi a0, vi a1] (mm I) (some (vi r)) (mm I) := by
  refine Ctr.mk (by decide +kernel) rfl (Nat.le_of_ble_eq_true rfl) fun κ X hR _ => ?_
  have X : Cx E κ cX4_code 2 RX4 (some .int) 1 0 0 := X
  show G E κ 0 0 0 [some (vi a0), some (vi a1)] [] (mm I)
  unfold f4_code at hf
  refine G_iload_n (x := a0) X dX4_code_0 rfl rfl ?_
  refine G_callS (As := [vi a0]) X (f4_isLiteral_ok E I a0 _ rfl) cb_X4_19 st_X4_isLiteral rfl rfl (Nat.le_of_ble_eq_true rfl) (by decide) (by decide) rfl (Nat.le_refl _) (Nat.le_refl _) dX4_code_1 ?_
  show G E κ _ _ _ [some (vi a0), some (vi a1)] [vi (b2i (f4_isLiteral a0))] (mm I)
  refine G_if_eq (tgt := 9) X dX4_code_4 (by decide) (fun hc1 => ?_) (fun hc1 => ?_)
  · have hf := (if_neg (b2i_f hc1)).symm.trans hf
    refine G_iload_n (x := a0) X dX4_code_9 rfl rfl ?_
    refine G_if_ne (tgt := 18) X dX4_code_10 (by decide) (fun hc2 => ?_) (fun hc2 => ?_)
    · have hf := (if_neg hc2).symm.trans hf
      refine G_ldc (v := 49152) X kc_X4_46 dX4_code_18 ?_
      refine G_iload_n (x := a1) X dX4_code_20 rfl rfl ?_
      refine G_iadd X dX4_code_21 ?_
      subst hf
      exact G_iret X hR rfl rfl dX4_code_22
    · have hf := (if_pos hc2).symm.trans hf
      refine G_ldc (v := 32768) X kc_X4_45 dX4_code_13 ?_
      refine G_goto (tgt := 20) X dX4_code_15 (by decide) ?_
      refine G_iload_n (x := a1) X dX4_code_20 rfl rfl ?_
      refine G_iadd X dX4_code_21 ?_
      subst hf
      exact G_iret X hR rfl rfl dX4_code_22
  · have hf := (if_pos (b2i_t hc1)).symm.trans hf
    refine G_iload_n (x := a0) X dX4_code_7 rfl rfl ?_
    subst hf
    exact G_iret X hR rfl rfl dX4_code_8

def f4_codeOf_L13 : Nat → gI → Nat → Int32 → Int32 → Int32 → Int32 → Option Int32
  | 0, _, _, _, _, _, _ => none
  | k + 1, I, b0, x2, x3, x4, x5 => (if x4 ≤ x5 then some ((-9)) else (if x5 = x3 then (f4_endOf I b0 x5).bind fun v3 => (if x2 = 0 then (f0_groupAt I b0 x5).bind fun v5 => some (f4_code v5 (v3 - x5)) else f4_codeOf_L13 k I b0 (x2 + (-1)) v3 x4 (x5 + 1)) else f4_codeOf_L13 k I b0 x2 x3 x4 (x5 + 1)))
set_option maxRecDepth 100000 in
set_option maxHeartbeats 4000000 in
theorem f4_codeOf_L13_ok {E : gEnv} {κ : gCtx} (X : Cx E κ cX4_codeOf 6 RX4 (some .int) 2 0 0) : ∀ (k : Nat) (I : gI) (b0 : Nat) (hb0 : isB b0) (x2 : Int32) (x3 : Int32) (x4 : Int32) (x5 : Int32) (r : Int32) (hR : gRt E κ 0 0 (some (vi r)) (mm I)) (hf : f4_codeOf_L13 k I b0 x2 x3 x4 x5 = some r), G E κ 0 0 13 [some (vr b0), none, some (vi x2), some (vi x3), some (vi x4), some (vi x5)] [] (mm I) := by
  intro k
  induction k with
  | zero =>
    intros
    rename_i hf
    cases hf
  | succ k ih =>
    intro I b0 hb0 x2 x3 x4 x5 r hR hf
    refine G_iload (x := x5) X dX4_codeOf_13 rfl ?_
    refine G_iload (x := x4) X dX4_codeOf_15 rfl ?_
    refine G_icmp_ge (tgt := 60) X dX4_codeOf_17 (by decide) (fun hc1 => ?_) (fun hc1 => ?_)
    · have hf := (if_pos hc1).symm.trans hf
      refine G_bipush (v := (-9)) X dX4_codeOf_60 rfl ?_
      obtain rfl := Option.some.inj hf
      exact G_iret X hR rfl rfl dX4_codeOf_62
    · have hf := (if_neg hc1).symm.trans hf
      refine G_iload (x := x5) X dX4_codeOf_20 rfl ?_
      refine G_iload_n (x := x3) X dX4_codeOf_22 rfl rfl ?_
      refine G_icmp_ne (tgt := 54) X dX4_codeOf_23 (by decide) (fun hc2 => ?_) (fun hc2 => ?_)
      · have hf := (if_neg hc2).symm.trans hf
        refine G_iinc (x := x5) (v := 1) X dX4_codeOf_54 rfl rfl rfl (ls' := [some (vr b0), none, some (vi x2), some (vi x3), some (vi x4), some (vi (x5 + 1))]) rfl ?_
        refine G_goto (tgt := 13) X dX4_codeOf_57 (by decide) ?_
        exact ih I b0 hb0 x2 x3 x4 (x5 + 1) _ hR hf
      · have hf := (if_pos hc2).symm.trans hf
        refine G_aload_n (x := some (b0)) X dX4_codeOf_26 rfl rfl ?_
        refine G_iload (x := x5) X dX4_codeOf_27 rfl ?_
        obtain ⟨v3, hk3, hf⟩ := obd hf
        refine G_callS (As := [vr b0, vi x5]) X (f4_endOf_ok E I b0 hb0 x5 v3 hk3) cb_X4_39 st_X4_endOf rfl rfl (Nat.le_of_ble_eq_true rfl) (by decide) (by decide) rfl (Nat.le_refl _) (Nat.le_refl _) dX4_codeOf_29 ?_
        show G E κ _ _ _ [some (vr b0), none, some (vi x2), some (vi x3), some (vi x4), some (vi x5)] [vi v3] (mm I)
        refine G_istore_n X dX4_codeOf_32 rfl rfl (ls' := [some (vr b0), none, some (vi x2), some (vi v3), some (vi x4), some (vi x5)]) rfl ?_
        refine G_iload_n (x := x2) X dX4_codeOf_33 rfl rfl ?_
        refine G_if_ne (tgt := 51) X dX4_codeOf_34 (by decide) (fun hc4 => ?_) (fun hc4 => ?_)
        · have hf := (if_neg hc4).symm.trans hf
          refine G_iinc (x := x2) (v := (-1)) X dX4_codeOf_51 rfl rfl rfl (ls' := [some (vr b0), none, some (vi (x2 + (-1))), some (vi v3), some (vi x4), some (vi x5)]) rfl ?_
          refine G_iinc (x := x5) (v := 1) X dX4_codeOf_54 rfl rfl rfl (ls' := [some (vr b0), none, some (vi (x2 + (-1))), some (vi v3), some (vi x4), some (vi (x5 + 1))]) rfl ?_
          refine G_goto (tgt := 13) X dX4_codeOf_57 (by decide) ?_
          exact ih I b0 hb0 (x2 + (-1)) v3 x4 (x5 + 1) _ hR hf
        · have hf := (if_pos hc4).symm.trans hf
          refine G_aload_n (x := some (b0)) X dX4_codeOf_37 rfl rfl ?_
          refine G_iload (x := x5) X dX4_codeOf_38 rfl ?_
          obtain ⟨v5, hk5, hf⟩ := obd hf
          refine G_callV (As := [vi x5]) X (f0_groupAt_ok E I b0 hb0 x5 v5 hk5) cb_X4_15 vi_X0_groupAt (ci := 0) rfl rfl (show SH[b0]? = some (_, 0) from hb0.1) rfl rfl (Nat.le_of_ble_eq_true rfl) (by decide) (by decide) rfl (Nat.le_refl _) (Nat.le_refl _) dX4_codeOf_40 ?_
          show G E κ _ _ _ [some (vr b0), none, some (vi x2), some (vi v3), some (vi x4), some (vi x5)] [vi v5] (mm I)
          refine G_iload_n (x := v3) X dX4_codeOf_43 rfl rfl ?_
          refine G_iload (x := x5) X dX4_codeOf_44 rfl ?_
          refine G_isub X dX4_codeOf_46 ?_
          refine G_callS (As := [vi v5, vi (v3 - x5)]) X (f4_code_ok E I v5 (v3 - x5) _ rfl) cb_X4_42 st_X4_code rfl rfl (Nat.le_of_ble_eq_true rfl) (by decide) (by decide) rfl (Nat.le_refl _) (Nat.le_refl _) dX4_codeOf_47 ?_
          show G E κ _ _ _ [some (vr b0), none, some (vi x2), some (vi v3), some (vi x4), some (vi x5)] [vi (f4_code v5 (v3 - x5))] (mm I)
          obtain rfl := Option.some.inj hf
          exact G_iret X hR rfl rfl dX4_codeOf_50

def f4_codeOf (I : gI) (b0 : Nat) (a1 : Int32) : Option Int32 := f4_codeOf_L13 FU I b0 a1 0 (f0_groupCount I b0) 0
set_option maxRecDepth 100000 in
set_option maxHeartbeats 4000000 in
theorem f4_codeOf_ok (E : gEnv) (I : gI) (b0 : Nat) (hb0 : isB b0) (a1 : Int32) (r : Int32) (hf : f4_codeOf I b0 a1 = some r) : Ctr E yX4_codeOf cX4_codeOf 6 (some .int) 2 0 0 [vr b0, vi a1] (mm I) (some (vi r)) (mm I) := by
  refine Ctr.mk (by decide +kernel) rfl (Nat.le_of_ble_eq_true rfl) fun κ X hR _ => ?_
  have X : Cx E κ cX4_codeOf 6 RX4 (some .int) 2 0 0 := X
  show G E κ 0 0 0 [some (vr b0), some (vi a1), none, none, none, none] [] (mm I)
  unfold f4_codeOf at hf
  refine G_iload_n (x := a1) X dX4_codeOf_0 rfl rfl ?_
  refine G_istore_n X dX4_codeOf_1 rfl rfl (ls' := [some (vr b0), some (vi a1), some (vi a1), none, none, none]) rfl ?_
  refine G_iconst (v := 0) X dX4_codeOf_2 rfl ?_
  refine G_istore_n X dX4_codeOf_3 rfl rfl (ls' := [some (vr b0), some (vi a1), some (vi a1), some (vi 0), none, none]) rfl ?_
  refine G_aload_n (x := some (b0)) X dX4_codeOf_4 rfl rfl ?_
  refine G_callV (As := []) X (f0_groupCount_ok E I b0 hb0 _ rfl) cb_X4_9 vi_X0_groupCount (ci := 0) rfl rfl (show SH[b0]? = some (_, 0) from hb0.1) rfl rfl (Nat.le_of_ble_eq_true rfl) (by decide) (by decide) rfl (Nat.le_refl _) (Nat.le_refl _) dX4_codeOf_5 ?_
  show G E κ _ _ _ [some (vr b0), some (vi a1), some (vi a1), some (vi 0), none, none] [vi (f0_groupCount I b0)] (mm I)
  refine G_istore X dX4_codeOf_8 rfl (ls' := [some (vr b0), some (vi a1), some (vi a1), some (vi 0), some (vi (f0_groupCount I b0)), none]) rfl ?_
  refine G_iconst (v := 0) X dX4_codeOf_10 rfl ?_
  refine G_istore X dX4_codeOf_11 rfl (ls' := [some (vr b0), some (vi a1), some (vi a1), some (vi 0), some (vi (f0_groupCount I b0)), some (vi 0)]) rfl ?_
  refine G_weakL (ls' := [some (vr b0), none, some (vi a1), some (vi 0), some (vi (f0_groupCount I b0)), some (vi 0)]) ⟨Or.inr rfl, ⟨Or.inl rfl, ⟨Or.inr rfl, ⟨Or.inr rfl, ⟨Or.inr rfl, ⟨Or.inr rfl, trivial⟩⟩⟩⟩⟩⟩ ?_
  exact f4_codeOf_L13_ok X FU I b0 hb0 a1 0 (f0_groupCount I b0) 0 _ hR hf

def f4_work_L23 : Nat → gI → Nat → Nat → Int32 → Int32 → Int32 → Int32 → Int32 → Option Int32
  | 0, _, _, _, _, _, _, _, _ => none
  | k + 1, I, b0, b1, x2, x3, x4, x5, x6 => (if x5 ≤ x6 then some x2 else (if x6 = x3 then (if x6 = x3 then (f4_endOf I b0 x6).bind fun v6 => (if x6 = x4 then (f4_endOf I b1 x6).bind fun v8 => f4_work_L23 k I b0 b1 (x2 + 1) v6 v8 x5 (x6 + 1) else f4_work_L23 k I b0 b1 (x2 + 1) v6 x4 x5 (x6 + 1)) else (if x6 = x4 then (f4_endOf I b1 x6).bind fun v5 => f4_work_L23 k I b0 b1 (x2 + 1) x3 v5 x5 (x6 + 1) else f4_work_L23 k I b0 b1 (x2 + 1) x3 x4 x5 (x6 + 1))) else (if x6 = x4 then (if x6 = x3 then (f4_endOf I b0 x6).bind fun v19 => (if x6 = x4 then (f4_endOf I b1 x6).bind fun v21 => f4_work_L23 k I b0 b1 (x2 + 1) v19 v21 x5 (x6 + 1) else f4_work_L23 k I b0 b1 (x2 + 1) v19 x4 x5 (x6 + 1)) else (if x6 = x4 then (f4_endOf I b1 x6).bind fun v18 => f4_work_L23 k I b0 b1 (x2 + 1) x3 v18 x5 (x6 + 1) else f4_work_L23 k I b0 b1 (x2 + 1) x3 x4 x5 (x6 + 1))) else (if x6 = x3 then (f4_endOf I b0 x6).bind fun v13 => (if x6 = x4 then (f4_endOf I b1 x6).bind fun v15 => f4_work_L23 k I b0 b1 x2 v13 v15 x5 (x6 + 1) else f4_work_L23 k I b0 b1 x2 v13 x4 x5 (x6 + 1)) else (if x6 = x4 then (f4_endOf I b1 x6).bind fun v12 => f4_work_L23 k I b0 b1 x2 x3 v12 x5 (x6 + 1) else f4_work_L23 k I b0 b1 x2 x3 x4 x5 (x6 + 1))))))
set_option maxRecDepth 100000 in
set_option maxHeartbeats 4000000 in
theorem f4_work_L23_ok {E : gEnv} {κ : gCtx} (X : Cx E κ cX4_work 7 RX4 (some .int) 2 0 0) : ∀ (k : Nat) (I : gI) (b0 : Nat) (hb0 : isB b0) (b1 : Nat) (hb1 : isB b1) (x2 : Int32) (x3 : Int32) (x4 : Int32) (x5 : Int32) (x6 : Int32) (r : Int32) (hR : gRt E κ 0 0 (some (vi r)) (mm I)) (hf : f4_work_L23 k I b0 b1 x2 x3 x4 x5 x6 = some r), G E κ 0 0 23 [some (vr b0), some (vr b1), some (vi x2), some (vi x3), some (vi x4), some (vi x5), some (vi x6)] [] (mm I) := by
  intro k
  induction k with
  | zero =>
    intros
    rename_i hf
    cases hf
  | succ k ih =>
    intro I b0 hb0 b1 hb1 x2 x3 x4 x5 x6 r hR hf
    refine G_iload (x := x6) X dX4_work_23 rfl ?_
    refine G_iload (x := x5) X dX4_work_25 rfl ?_
    refine G_icmp_ge (tgt := 80) X dX4_work_27 (by decide) (fun hc1 => ?_) (fun hc1 => ?_)
    · have hf := (if_pos hc1).symm.trans hf
      refine G_iload_n (x := x2) X dX4_work_80 rfl rfl ?_
      obtain rfl := Option.some.inj hf
      exact G_iret X hR rfl rfl dX4_work_81
    · have hf := (if_neg hc1).symm.trans hf
      refine G_iload (x := x6) X dX4_work_30 rfl ?_
      refine G_iload_n (x := x3) X dX4_work_32 rfl rfl ?_
      refine G_icmp_eq (tgt := 43) X dX4_work_33 (by decide) (fun hc2 => ?_) (fun hc2 => ?_)
      · have hf := (if_pos hc2).symm.trans hf
        refine G_iinc (x := x2) (v := 1) X dX4_work_43 rfl rfl rfl (ls' := [some (vr b0), some (vr b1), some (vi (x2 + 1)), some (vi x3), some (vi x4), some (vi x5), some (vi x6)]) rfl ?_
        refine G_iload (x := x6) X dX4_work_46 rfl ?_
        refine G_iload_n (x := x3) X dX4_work_48 rfl rfl ?_
        refine G_icmp_ne (tgt := 59) X dX4_work_49 (by decide) (fun hc3 => ?_) (fun hc3 => ?_)
        · have hf := (if_neg hc3).symm.trans hf
          refine G_iload (x := x6) X dX4_work_59 rfl ?_
          refine G_iload (x := x4) X dX4_work_61 rfl ?_
          refine G_icmp_ne (tgt := 74) X dX4_work_63 (by decide) (fun hc4 => ?_) (fun hc4 => ?_)
          · have hf := (if_neg hc4).symm.trans hf
            refine G_iinc (x := x6) (v := 1) X dX4_work_74 rfl rfl rfl (ls' := [some (vr b0), some (vr b1), some (vi (x2 + 1)), some (vi x3), some (vi x4), some (vi x5), some (vi (x6 + 1))]) rfl ?_
            refine G_goto (tgt := 23) X dX4_work_77 (by decide) ?_
            exact ih I b0 hb0 b1 hb1 (x2 + 1) x3 x4 x5 (x6 + 1) _ hR hf
          · have hf := (if_pos hc4).symm.trans hf
            refine G_aload_n (x := some (b1)) X dX4_work_66 rfl rfl ?_
            refine G_iload (x := x6) X dX4_work_67 rfl ?_
            obtain ⟨v5, hk5, hf⟩ := obd hf
            refine G_callS (As := [vr b1, vi x6]) X (f4_endOf_ok E I b1 hb1 x6 v5 hk5) cb_X4_39 st_X4_endOf rfl rfl (Nat.le_of_ble_eq_true rfl) (by decide) (by decide) rfl (Nat.le_refl _) (Nat.le_refl _) dX4_work_69 ?_
            show G E κ _ _ _ [some (vr b0), some (vr b1), some (vi (x2 + 1)), some (vi x3), some (vi x4), some (vi x5), some (vi x6)] [vi v5] (mm I)
            refine G_istore X dX4_work_72 rfl (ls' := [some (vr b0), some (vr b1), some (vi (x2 + 1)), some (vi x3), some (vi v5), some (vi x5), some (vi x6)]) rfl ?_
            refine G_iinc (x := x6) (v := 1) X dX4_work_74 rfl rfl rfl (ls' := [some (vr b0), some (vr b1), some (vi (x2 + 1)), some (vi x3), some (vi v5), some (vi x5), some (vi (x6 + 1))]) rfl ?_
            refine G_goto (tgt := 23) X dX4_work_77 (by decide) ?_
            exact ih I b0 hb0 b1 hb1 (x2 + 1) x3 v5 x5 (x6 + 1) _ hR hf
        · have hf := (if_pos hc3).symm.trans hf
          refine G_aload_n (x := some (b0)) X dX4_work_52 rfl rfl ?_
          refine G_iload (x := x6) X dX4_work_53 rfl ?_
          obtain ⟨v6, hk6, hf⟩ := obd hf
          refine G_callS (As := [vr b0, vi x6]) X (f4_endOf_ok E I b0 hb0 x6 v6 hk6) cb_X4_39 st_X4_endOf rfl rfl (Nat.le_of_ble_eq_true rfl) (by decide) (by decide) rfl (Nat.le_refl _) (Nat.le_refl _) dX4_work_55 ?_
          show G E κ _ _ _ [some (vr b0), some (vr b1), some (vi (x2 + 1)), some (vi x3), some (vi x4), some (vi x5), some (vi x6)] [vi v6] (mm I)
          refine G_istore_n X dX4_work_58 rfl rfl (ls' := [some (vr b0), some (vr b1), some (vi (x2 + 1)), some (vi v6), some (vi x4), some (vi x5), some (vi x6)]) rfl ?_
          refine G_iload (x := x6) X dX4_work_59 rfl ?_
          refine G_iload (x := x4) X dX4_work_61 rfl ?_
          refine G_icmp_ne (tgt := 74) X dX4_work_63 (by decide) (fun hc7 => ?_) (fun hc7 => ?_)
          · have hf := (if_neg hc7).symm.trans hf
            refine G_iinc (x := x6) (v := 1) X dX4_work_74 rfl rfl rfl (ls' := [some (vr b0), some (vr b1), some (vi (x2 + 1)), some (vi v6), some (vi x4), some (vi x5), some (vi (x6 + 1))]) rfl ?_
            refine G_goto (tgt := 23) X dX4_work_77 (by decide) ?_
            exact ih I b0 hb0 b1 hb1 (x2 + 1) v6 x4 x5 (x6 + 1) _ hR hf
          · have hf := (if_pos hc7).symm.trans hf
            refine G_aload_n (x := some (b1)) X dX4_work_66 rfl rfl ?_
            refine G_iload (x := x6) X dX4_work_67 rfl ?_
            obtain ⟨v8, hk8, hf⟩ := obd hf
            refine G_callS (As := [vr b1, vi x6]) X (f4_endOf_ok E I b1 hb1 x6 v8 hk8) cb_X4_39 st_X4_endOf rfl rfl (Nat.le_of_ble_eq_true rfl) (by decide) (by decide) rfl (Nat.le_refl _) (Nat.le_refl _) dX4_work_69 ?_
            show G E κ _ _ _ [some (vr b0), some (vr b1), some (vi (x2 + 1)), some (vi v6), some (vi x4), some (vi x5), some (vi x6)] [vi v8] (mm I)
            refine G_istore X dX4_work_72 rfl (ls' := [some (vr b0), some (vr b1), some (vi (x2 + 1)), some (vi v6), some (vi v8), some (vi x5), some (vi x6)]) rfl ?_
            refine G_iinc (x := x6) (v := 1) X dX4_work_74 rfl rfl rfl (ls' := [some (vr b0), some (vr b1), some (vi (x2 + 1)), some (vi v6), some (vi v8), some (vi x5), some (vi (x6 + 1))]) rfl ?_
            refine G_goto (tgt := 23) X dX4_work_77 (by decide) ?_
            exact ih I b0 hb0 b1 hb1 (x2 + 1) v6 v8 x5 (x6 + 1) _ hR hf
      · have hf := (if_neg hc2).symm.trans hf
        refine G_iload (x := x6) X dX4_work_36 rfl ?_
        refine G_iload (x := x4) X dX4_work_38 rfl ?_
        refine G_icmp_ne (tgt := 46) X dX4_work_40 (by decide) (fun hc9 => ?_) (fun hc9 => ?_)
        · have hf := (if_neg hc9).symm.trans hf
          refine G_iload (x := x6) X dX4_work_46 rfl ?_
          refine G_iload_n (x := x3) X dX4_work_48 rfl rfl ?_
          refine G_icmp_ne (tgt := 59) X dX4_work_49 (by decide) (fun hc10 => ?_) (fun hc10 => ?_)
          · have hf := (if_neg hc10).symm.trans hf
            refine G_iload (x := x6) X dX4_work_59 rfl ?_
            refine G_iload (x := x4) X dX4_work_61 rfl ?_
            refine G_icmp_ne (tgt := 74) X dX4_work_63 (by decide) (fun hc11 => ?_) (fun hc11 => ?_)
            · have hf := (if_neg hc11).symm.trans hf
              refine G_iinc (x := x6) (v := 1) X dX4_work_74 rfl rfl rfl (ls' := [some (vr b0), some (vr b1), some (vi x2), some (vi x3), some (vi x4), some (vi x5), some (vi (x6 + 1))]) rfl ?_
              refine G_goto (tgt := 23) X dX4_work_77 (by decide) ?_
              exact ih I b0 hb0 b1 hb1 x2 x3 x4 x5 (x6 + 1) _ hR hf
            · have hf := (if_pos hc11).symm.trans hf
              refine G_aload_n (x := some (b1)) X dX4_work_66 rfl rfl ?_
              refine G_iload (x := x6) X dX4_work_67 rfl ?_
              obtain ⟨v12, hk12, hf⟩ := obd hf
              refine G_callS (As := [vr b1, vi x6]) X (f4_endOf_ok E I b1 hb1 x6 v12 hk12) cb_X4_39 st_X4_endOf rfl rfl (Nat.le_of_ble_eq_true rfl) (by decide) (by decide) rfl (Nat.le_refl _) (Nat.le_refl _) dX4_work_69 ?_
              show G E κ _ _ _ [some (vr b0), some (vr b1), some (vi x2), some (vi x3), some (vi x4), some (vi x5), some (vi x6)] [vi v12] (mm I)
              refine G_istore X dX4_work_72 rfl (ls' := [some (vr b0), some (vr b1), some (vi x2), some (vi x3), some (vi v12), some (vi x5), some (vi x6)]) rfl ?_
              refine G_iinc (x := x6) (v := 1) X dX4_work_74 rfl rfl rfl (ls' := [some (vr b0), some (vr b1), some (vi x2), some (vi x3), some (vi v12), some (vi x5), some (vi (x6 + 1))]) rfl ?_
              refine G_goto (tgt := 23) X dX4_work_77 (by decide) ?_
              exact ih I b0 hb0 b1 hb1 x2 x3 v12 x5 (x6 + 1) _ hR hf
          · have hf := (if_pos hc10).symm.trans hf
            refine G_aload_n (x := some (b0)) X dX4_work_52 rfl rfl ?_
            refine G_iload (x := x6) X dX4_work_53 rfl ?_
            obtain ⟨v13, hk13, hf⟩ := obd hf
            refine G_callS (As := [vr b0, vi x6]) X (f4_endOf_ok E I b0 hb0 x6 v13 hk13) cb_X4_39 st_X4_endOf rfl rfl (Nat.le_of_ble_eq_true rfl) (by decide) (by decide) rfl (Nat.le_refl _) (Nat.le_refl _) dX4_work_55 ?_
            show G E κ _ _ _ [some (vr b0), some (vr b1), some (vi x2), some (vi x3), some (vi x4), some (vi x5), some (vi x6)] [vi v13] (mm I)
            refine G_istore_n X dX4_work_58 rfl rfl (ls' := [some (vr b0), some (vr b1), some (vi x2), some (vi v13), some (vi x4), some (vi x5), some (vi x6)]) rfl ?_
            refine G_iload (x := x6) X dX4_work_59 rfl ?_
            refine G_iload (x := x4) X dX4_work_61 rfl ?_
            refine G_icmp_ne (tgt := 74) X dX4_work_63 (by decide) (fun hc14 => ?_) (fun hc14 => ?_)
            · have hf := (if_neg hc14).symm.trans hf
              refine G_iinc (x := x6) (v := 1) X dX4_work_74 rfl rfl rfl (ls' := [some (vr b0), some (vr b1), some (vi x2), some (vi v13), some (vi x4), some (vi x5), some (vi (x6 + 1))]) rfl ?_
              refine G_goto (tgt := 23) X dX4_work_77 (by decide) ?_
              exact ih I b0 hb0 b1 hb1 x2 v13 x4 x5 (x6 + 1) _ hR hf
            · have hf := (if_pos hc14).symm.trans hf
              refine G_aload_n (x := some (b1)) X dX4_work_66 rfl rfl ?_
              refine G_iload (x := x6) X dX4_work_67 rfl ?_
              obtain ⟨v15, hk15, hf⟩ := obd hf
              refine G_callS (As := [vr b1, vi x6]) X (f4_endOf_ok E I b1 hb1 x6 v15 hk15) cb_X4_39 st_X4_endOf rfl rfl (Nat.le_of_ble_eq_true rfl) (by decide) (by decide) rfl (Nat.le_refl _) (Nat.le_refl _) dX4_work_69 ?_
              show G E κ _ _ _ [some (vr b0), some (vr b1), some (vi x2), some (vi v13), some (vi x4), some (vi x5), some (vi x6)] [vi v15] (mm I)
              refine G_istore X dX4_work_72 rfl (ls' := [some (vr b0), some (vr b1), some (vi x2), some (vi v13), some (vi v15), some (vi x5), some (vi x6)]) rfl ?_
              refine G_iinc (x := x6) (v := 1) X dX4_work_74 rfl rfl rfl (ls' := [some (vr b0), some (vr b1), some (vi x2), some (vi v13), some (vi v15), some (vi x5), some (vi (x6 + 1))]) rfl ?_
              refine G_goto (tgt := 23) X dX4_work_77 (by decide) ?_
              exact ih I b0 hb0 b1 hb1 x2 v13 v15 x5 (x6 + 1) _ hR hf
        · have hf := (if_pos hc9).symm.trans hf
          refine G_iinc (x := x2) (v := 1) X dX4_work_43 rfl rfl rfl (ls' := [some (vr b0), some (vr b1), some (vi (x2 + 1)), some (vi x3), some (vi x4), some (vi x5), some (vi x6)]) rfl ?_
          refine G_iload (x := x6) X dX4_work_46 rfl ?_
          refine G_iload_n (x := x3) X dX4_work_48 rfl rfl ?_
          refine G_icmp_ne (tgt := 59) X dX4_work_49 (by decide) (fun hc16 => ?_) (fun hc16 => ?_)
          · have hf := (if_neg hc16).symm.trans hf
            refine G_iload (x := x6) X dX4_work_59 rfl ?_
            refine G_iload (x := x4) X dX4_work_61 rfl ?_
            refine G_icmp_ne (tgt := 74) X dX4_work_63 (by decide) (fun hc17 => ?_) (fun hc17 => ?_)
            · have hf := (if_neg hc17).symm.trans hf
              refine G_iinc (x := x6) (v := 1) X dX4_work_74 rfl rfl rfl (ls' := [some (vr b0), some (vr b1), some (vi (x2 + 1)), some (vi x3), some (vi x4), some (vi x5), some (vi (x6 + 1))]) rfl ?_
              refine G_goto (tgt := 23) X dX4_work_77 (by decide) ?_
              exact ih I b0 hb0 b1 hb1 (x2 + 1) x3 x4 x5 (x6 + 1) _ hR hf
            · have hf := (if_pos hc17).symm.trans hf
              refine G_aload_n (x := some (b1)) X dX4_work_66 rfl rfl ?_
              refine G_iload (x := x6) X dX4_work_67 rfl ?_
              obtain ⟨v18, hk18, hf⟩ := obd hf
              refine G_callS (As := [vr b1, vi x6]) X (f4_endOf_ok E I b1 hb1 x6 v18 hk18) cb_X4_39 st_X4_endOf rfl rfl (Nat.le_of_ble_eq_true rfl) (by decide) (by decide) rfl (Nat.le_refl _) (Nat.le_refl _) dX4_work_69 ?_
              show G E κ _ _ _ [some (vr b0), some (vr b1), some (vi (x2 + 1)), some (vi x3), some (vi x4), some (vi x5), some (vi x6)] [vi v18] (mm I)
              refine G_istore X dX4_work_72 rfl (ls' := [some (vr b0), some (vr b1), some (vi (x2 + 1)), some (vi x3), some (vi v18), some (vi x5), some (vi x6)]) rfl ?_
              refine G_iinc (x := x6) (v := 1) X dX4_work_74 rfl rfl rfl (ls' := [some (vr b0), some (vr b1), some (vi (x2 + 1)), some (vi x3), some (vi v18), some (vi x5), some (vi (x6 + 1))]) rfl ?_
              refine G_goto (tgt := 23) X dX4_work_77 (by decide) ?_
              exact ih I b0 hb0 b1 hb1 (x2 + 1) x3 v18 x5 (x6 + 1) _ hR hf
          · have hf := (if_pos hc16).symm.trans hf
            refine G_aload_n (x := some (b0)) X dX4_work_52 rfl rfl ?_
            refine G_iload (x := x6) X dX4_work_53 rfl ?_
            obtain ⟨v19, hk19, hf⟩ := obd hf
            refine G_callS (As := [vr b0, vi x6]) X (f4_endOf_ok E I b0 hb0 x6 v19 hk19) cb_X4_39 st_X4_endOf rfl rfl (Nat.le_of_ble_eq_true rfl) (by decide) (by decide) rfl (Nat.le_refl _) (Nat.le_refl _) dX4_work_55 ?_
            show G E κ _ _ _ [some (vr b0), some (vr b1), some (vi (x2 + 1)), some (vi x3), some (vi x4), some (vi x5), some (vi x6)] [vi v19] (mm I)
            refine G_istore_n X dX4_work_58 rfl rfl (ls' := [some (vr b0), some (vr b1), some (vi (x2 + 1)), some (vi v19), some (vi x4), some (vi x5), some (vi x6)]) rfl ?_
            refine G_iload (x := x6) X dX4_work_59 rfl ?_
            refine G_iload (x := x4) X dX4_work_61 rfl ?_
            refine G_icmp_ne (tgt := 74) X dX4_work_63 (by decide) (fun hc20 => ?_) (fun hc20 => ?_)
            · have hf := (if_neg hc20).symm.trans hf
              refine G_iinc (x := x6) (v := 1) X dX4_work_74 rfl rfl rfl (ls' := [some (vr b0), some (vr b1), some (vi (x2 + 1)), some (vi v19), some (vi x4), some (vi x5), some (vi (x6 + 1))]) rfl ?_
              refine G_goto (tgt := 23) X dX4_work_77 (by decide) ?_
              exact ih I b0 hb0 b1 hb1 (x2 + 1) v19 x4 x5 (x6 + 1) _ hR hf
            · have hf := (if_pos hc20).symm.trans hf
              refine G_aload_n (x := some (b1)) X dX4_work_66 rfl rfl ?_
              refine G_iload (x := x6) X dX4_work_67 rfl ?_
              obtain ⟨v21, hk21, hf⟩ := obd hf
              refine G_callS (As := [vr b1, vi x6]) X (f4_endOf_ok E I b1 hb1 x6 v21 hk21) cb_X4_39 st_X4_endOf rfl rfl (Nat.le_of_ble_eq_true rfl) (by decide) (by decide) rfl (Nat.le_refl _) (Nat.le_refl _) dX4_work_69 ?_
              show G E κ _ _ _ [some (vr b0), some (vr b1), some (vi (x2 + 1)), some (vi v19), some (vi x4), some (vi x5), some (vi x6)] [vi v21] (mm I)
              refine G_istore X dX4_work_72 rfl (ls' := [some (vr b0), some (vr b1), some (vi (x2 + 1)), some (vi v19), some (vi v21), some (vi x5), some (vi x6)]) rfl ?_
              refine G_iinc (x := x6) (v := 1) X dX4_work_74 rfl rfl rfl (ls' := [some (vr b0), some (vr b1), some (vi (x2 + 1)), some (vi v19), some (vi v21), some (vi x5), some (vi (x6 + 1))]) rfl ?_
              refine G_goto (tgt := 23) X dX4_work_77 (by decide) ?_
              exact ih I b0 hb0 b1 hb1 (x2 + 1) v19 v21 x5 (x6 + 1) _ hR hf

def f4_work (I : gI) (b0 : Nat) (b1 : Nat) : Option Int32 := f4_work_L23 FU I b0 b1 0 0 0 (if (f0_groupCount I b0) < (f0_groupCount I b1) then (f0_groupCount I b1) else (f0_groupCount I b0)) 0
set_option maxRecDepth 100000 in
set_option maxHeartbeats 4000000 in
theorem f4_work_ok (E : gEnv) (I : gI) (b0 : Nat) (hb0 : isB b0) (b1 : Nat) (hb1 : isB b1) (r : Int32) (hf : f4_work I b0 b1 = some r) : Ctr E yX4_work cX4_work 7 (some .int) 2 0 0 [vr b0, vr b1] (mm I) (some (vi r)) (mm I) := by
  refine Ctr.mk (by decide +kernel) rfl (Nat.le_of_ble_eq_true rfl) fun κ X hR _ => ?_
  have X : Cx E κ cX4_work 7 RX4 (some .int) 2 0 0 := X
  show G E κ 0 0 0 [some (vr b0), some (vr b1), none, none, none, none, none] [] (mm I)
  unfold f4_work at hf
  refine G_iconst (v := 0) X dX4_work_0 rfl ?_
  refine G_istore_n X dX4_work_1 rfl rfl (ls' := [some (vr b0), some (vr b1), some (vi 0), none, none, none, none]) rfl ?_
  refine G_iconst (v := 0) X dX4_work_2 rfl ?_
  refine G_istore_n X dX4_work_3 rfl rfl (ls' := [some (vr b0), some (vr b1), some (vi 0), some (vi 0), none, none, none]) rfl ?_
  refine G_iconst (v := 0) X dX4_work_4 rfl ?_
  refine G_istore X dX4_work_5 rfl (ls' := [some (vr b0), some (vr b1), some (vi 0), some (vi 0), some (vi 0), none, none]) rfl ?_
  refine G_aload_n (x := some (b0)) X dX4_work_7 rfl rfl ?_
  refine G_callV (As := []) X (f0_groupCount_ok E I b0 hb0 _ rfl) cb_X4_9 vi_X0_groupCount (ci := 0) rfl rfl (show SH[b0]? = some (_, 0) from hb0.1) rfl rfl (Nat.le_of_ble_eq_true rfl) (by decide) (by decide) rfl (Nat.le_refl _) (Nat.le_refl _) dX4_work_8 ?_
  show G E κ _ _ _ [some (vr b0), some (vr b1), some (vi 0), some (vi 0), some (vi 0), none, none] [vi (f0_groupCount I b0)] (mm I)
  refine G_aload_n (x := some (b1)) X dX4_work_11 rfl rfl ?_
  refine G_callV (As := []) X (f0_groupCount_ok E I b1 hb1 _ rfl) cb_X4_9 vi_X0_groupCount (ci := 0) rfl rfl (show SH[b1]? = some (_, 0) from hb1.1) rfl rfl (Nat.le_of_ble_eq_true rfl) (by decide) (by decide) rfl (Nat.le_refl _) (Nat.le_refl _) dX4_work_12 ?_
  show G E κ _ _ _ [some (vr b0), some (vr b1), some (vi 0), some (vi 0), some (vi 0), none, none] [vi (f0_groupCount I b1), vi (f0_groupCount I b0)] (mm I)
  refine G_max X ml_X4_47 st_mmax in_math cd_mmax (Nat.le_of_ble_eq_true rfl) (by decide) rfl (Nat.le_refl _) (Nat.le_refl _) dX4_work_15 ?_
  refine G_istore X dX4_work_18 rfl (ls' := [some (vr b0), some (vr b1), some (vi 0), some (vi 0), some (vi 0), some (vi (if (f0_groupCount I b0) < (f0_groupCount I b1) then (f0_groupCount I b1) else (f0_groupCount I b0))), none]) rfl ?_
  refine G_iconst (v := 0) X dX4_work_20 rfl ?_
  refine G_istore X dX4_work_21 rfl (ls' := [some (vr b0), some (vr b1), some (vi 0), some (vi 0), some (vi 0), some (vi (if (f0_groupCount I b0) < (f0_groupCount I b1) then (f0_groupCount I b1) else (f0_groupCount I b0))), some (vi 0)]) rfl ?_
  exact f4_work_L23_ok X FU I b0 hb0 b1 hb1 0 0 0 (if (f0_groupCount I b0) < (f0_groupCount I b1) then (f0_groupCount I b1) else (f0_groupCount I b0)) 0 _ hR hf

