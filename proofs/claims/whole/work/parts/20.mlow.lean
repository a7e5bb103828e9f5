def f6_in (a0 : Int32) (a1 : Int32) (a2 : Int32) : Bool := (if a0 < a1 then false else (if a2 < a0 then false else true))
set_option maxRecDepth 100000 in
set_option maxHeartbeats 4000000 in
theorem f6_in_ok (E : gEnv) (I : gI) (a0 : Int32) (a1 : Int32) (a2 : Int32) (r : Bool) (hf : f6_in  a0 a1 a2 = r) : Ctr E yX6_in cX6_in 3 (some .boolean) 0 0 0 [vi a0, vi a1, vi a2] (mm I) (some (vi (b2i r))) (mm I) := by
  refine Ctr.mk (by decide +kernel) (Nat.le_of_ble_eq_true rfl) fun κ X hR _ => ?_
  have X : Cx E κ cX6_in 3 RX6 (some .boolean) 0 0 0 := X
  show G E κ 0 0 0 [some (vi a0), some (vi a1), some (vi a2)] [] (mm I)
  unfold f6_in at hf
  refine G_iload_n (x := a0) X dX6_in_0 rfl rfl ?_
  refine G_iload_n (x := a1) X dX6_in_1 rfl rfl ?_
  refine G_icmp_lt (tgt := 14) X dX6_in_2 (by decide) (fun hc1 => ?_) (fun hc1 => ?_)
  · have hf := (if_pos hc1).symm.trans hf
    refine G_iconst (v := 0) X dX6_in_14 rfl ?_
    subst hf
    exact G_iret X hR rfl (nar_b2i false) dX6_in_15
  · have hf := (if_neg hc1).symm.trans hf
    refine G_iload_n (x := a0) X dX6_in_5 rfl rfl ?_
    refine G_iload_n (x := a2) X dX6_in_6 rfl rfl ?_
    refine G_icmp_gt (tgt := 14) X dX6_in_7 (by decide) (fun hc2 => ?_) (fun hc2 => ?_)
    · have hf := (if_pos hc2).symm.trans hf
      refine G_iconst (v := 0) X dX6_in_14 rfl ?_
      subst hf
      exact G_iret X hR rfl (nar_b2i false) dX6_in_15
    · have hf := (if_neg hc2).symm.trans hf
      refine G_iconst (v := 1) X dX6_in_10 rfl ?_
      refine G_goto (tgt := 15) X dX6_in_11 (by decide) ?_
      subst hf
      exact G_iret X hR rfl (nar_b2i true) dX6_in_15

def f6_copyState_L2 : Nat → gI → Int32 → Int32 → Int32 → Option gI
  | 0, _, _, _, _ => none
  | k + 1, I, x1, x2, x3 => (if 4809 ≤ x3 then some I else if ib (x1 + x3) 48086 = true then if ib (x2 + x3) 48086 = true then f6_copyState_L2 k (uI I 80 (x2 + x3).toNatClampNeg (I 80 ((x1 + x3).toNatClampNeg))) x1 x2 (x3 + 1) else none else none)
set_option maxRecDepth 100000 in
set_option maxHeartbeats 4000000 in
theorem f6_copyState_L2_ok {E : gEnv} {κ : gCtx} (X : Cx E κ cX6_copyState 4 RX6 none 0 0 0) : ∀ (k : Nat) (I : gI) (x1 : Int32) (x2 : Int32) (x3 : Int32) (I' : gI) (hR : gRt E κ 0 0 (none) (mm I')) (hf : f6_copyState_L2 k I x1 x2 x3 = some I'), G E κ 0 0 2 [some (vr 79), some (vi x1), some (vi x2), some (vi x3)] [] (mm I) := by
  intro k
  induction k with
  | zero =>
    intros
    rename_i hf
    cases hf
  | succ k ih =>
    intro I x1 x2 x3 I' hR hf
    refine G_iload_n (x := x3) X dX6_copyState_2 rfl rfl ?_
    refine G_sipush (v := 4809) X dX6_copyState_3 rfl ?_
    refine G_icmp_ge (tgt := 31) X dX6_copyState_6 (by decide) (fun hc1 => ?_) (fun hc1 => ?_)
    · have hf := (if_pos hc1).symm.trans hf
      obtain rfl := Option.some.inj hf
      exact G_vret X hR rfl dX6_copyState_31
    · have hf := (if_neg hc1).symm.trans hf
      refine G_aload_n (x := some (79)) X dX6_copyState_9 rfl rfl ?_
      refine M_getR X fd_X6_8 rfl (show SH[79]? = some (_, 0) from rfl) rfl dX6_copyState_10 ?_
      refine G_iload_n (x := x2) X dX6_copyState_13 rfl rfl ?_
      refine G_iload_n (x := x3) X dX6_copyState_14 rfl rfl ?_
      refine G_iadd X dX6_copyState_15 ?_
      refine G_aload_n (x := some (79)) X dX6_copyState_16 rfl rfl ?_
      refine M_getR X fd_X6_8 rfl (show SH[79]? = some (_, 0) from rfl) rfl dX6_copyState_17 ?_
      refine G_iload_n (x := x1) X dX6_copyState_20 rfl rfl ?_
      refine G_iload_n (x := x3) X dX6_copyState_21 rfl rfl ?_
      refine G_iadd X dX6_copyState_22 ?_
      obtain ⟨hc2, hf⟩ := ock hf
      refine M_iald X (show SH[80]? = some (_, 48086) from rfl) hc2 dX6_copyState_23 ?_
      obtain ⟨hc3, hf⟩ := ock hf
      refine M_iast X (show SH[80]? = some (_, 48086) from rfl) hc3 dX6_copyState_24 ?_
      refine G_iinc (x := x3) (v := 1) X dX6_copyState_25 rfl rfl (ls' := [some (vr 79), some (vi x1), some (vi x2), some (vi (x3 + 1))]) rfl ?_
      refine G_goto (tgt := 2) X dX6_copyState_28 (by decide) ?_
      exact ih (uI I 80 (x2 + x3).toNatClampNeg (I 80 ((x1 + x3).toNatClampNeg))) x1 x2 (x3 + 1) _ hR hf

def f6_copyState (I : gI) (a0 : Int32) (a1 : Int32) : Option gI := f6_copyState_L2 FU I a0 a1 0
set_option maxRecDepth 100000 in
set_option maxHeartbeats 4000000 in
theorem f6_copyState_ok (E : gEnv) (I : gI) (a0 : Int32) (a1 : Int32) (I' : gI) (hf : f6_copyState I a0 a1 = some I') : Ctr E yX6_copyState cX6_copyState 4 none 0 0 0 [vr 79, vi a0, vi a1] (mm I) (none) (mm I') := by
  refine Ctr.mk (by decide +kernel) (Nat.le_of_ble_eq_true rfl) fun κ X hR _ => ?_
  have X : Cx E κ cX6_copyState 4 RX6 none 0 0 0 := X
  show G E κ 0 0 0 [some (vr 79), some (vi a0), some (vi a1), none] [] (mm I)
  unfold f6_copyState at hf
  refine G_iconst (v := 0) X dX6_copyState_0 rfl ?_
  refine G_istore_n X dX6_copyState_1 rfl (Nat.le_of_ble_eq_true rfl) (ls' := [some (vr 79), some (vi a0), some (vi a1), some (vi 0)]) rfl ?_
  exact f6_copyState_L2_ok X FU I a0 a1 0 _ hR hf

def f6_record_L10 : Nat → gI → Int32 → Option gI
  | 0, _, _ => none
  | k + 1, I, x1 => (if 5 ≤ x1 then (f6_copyState (uI I 79 1 ((I 79 1) - 1)) 0 (4809 + (4809 * ((uI I 79 1 ((I 79 1) - 1)) 79 1)))).bind fun I4 => some (uI I4 79 1 ((I4 79 1) + 1)) else (f6_copyState I (4809 + (4809 * x1)) (4809 * x1)).bind fun I5 => f6_record_L10 k I5 (x1 + 1))
set_option maxRecDepth 100000 in
set_option maxHeartbeats 4000000 in
theorem f6_record_L10_ok {E : gEnv} {κ : gCtx} (X : Cx E κ cX6_record 2 RX6 none 1 0 0) : ∀ (k : Nat) (I : gI) (x1 : Int32) (I' : gI) (hR : gRt E κ 0 0 (none) (mm I')) (hf : f6_record_L10 k I x1 = some I'), G E κ 0 0 10 [some (vr 79), some (vi x1)] [] (mm I) := by
  intro k
  induction k with
  | zero =>
    intros
    rename_i hf
    cases hf
  | succ k ih =>
    intro I x1 I' hR hf
    refine G_iload_n (x := x1) X dX6_record_10 rfl rfl ?_
    refine G_iconst (v := 5) X dX6_record_11 rfl ?_
    refine G_icmp_ge (tgt := 39) X dX6_record_12 (by decide) (fun hc3 => ?_) (fun hc3 => ?_)
    · have hf := (if_pos hc3).symm.trans hf
      refine G_aload_n (x := some (79)) X dX6_record_39 rfl rfl ?_
      refine G_dup X dX6_record_40 ?_
      refine M_getI X fd_X6_23 rfl (show SH[79]? = some (_, 0) from rfl) dX6_record_41 ?_
      refine G_iconst (v := 1) X dX6_record_44 rfl ?_
      refine G_isub X dX6_record_45 ?_
      refine M_putI X fd_X6_23 rfl (show SH[79]? = some (_, 0) from rfl) rfl rfl dX6_record_46 ?_
      refine G_aload_n (x := some (79)) X dX6_record_49 rfl rfl ?_
      refine G_iconst (v := 0) X dX6_record_50 rfl ?_
      refine G_sipush (v := 4809) X dX6_record_51 rfl ?_
      refine G_sipush (v := 4809) X dX6_record_54 rfl ?_
      refine G_aload_n (x := some (79)) X dX6_record_57 rfl rfl ?_
      refine M_getI X fd_X6_23 rfl (show SH[79]? = some (_, 0) from rfl) dX6_record_58 ?_
      refine G_imul X dX6_record_61 ?_
      refine G_iadd X dX6_record_62 ?_
      obtain ⟨I4, hk4, hf⟩ := obd hf
      refine G_callV (As := [vi 0, vi (4809 + (4809 * ((uI I 79 1 ((I 79 1) - 1)) 79 1)))]) X (f6_copyState_ok E (uI I 79 1 ((I 79 1) - 1)) 0 (4809 + (4809 * ((uI I 79 1 ((I 79 1) - 1)) 79 1))) I4 hk4) cb_X6_27 vi_X6_copyState (ci := 5) rfl rfl (show SH[79]? = some (_, 0) from rfl) rfl rfl (Nat.le_of_ble_eq_true rfl) (by decide) (by decide) rfl (Nat.le_refl _) (Nat.le_refl _) dX6_record_63 ?_
      show G E κ _ _ _ [some (vr 79), some (vi x1)] [] (mm I4)
      refine G_aload_n (x := some (79)) X dX6_record_66 rfl rfl ?_
      refine G_dup X dX6_record_67 ?_
      refine M_getI X fd_X6_23 rfl (show SH[79]? = some (_, 0) from rfl) dX6_record_68 ?_
      refine G_iconst (v := 1) X dX6_record_71 rfl ?_
      refine G_iadd X dX6_record_72 ?_
      refine M_putI X fd_X6_23 rfl (show SH[79]? = some (_, 0) from rfl) rfl rfl dX6_record_73 ?_
      obtain rfl := Option.some.inj hf
      exact G_vret X hR rfl dX6_record_76
    · have hf := (if_neg hc3).symm.trans hf
      refine G_aload_n (x := some (79)) X dX6_record_15 rfl rfl ?_
      refine G_sipush (v := 4809) X dX6_record_16 rfl ?_
      refine G_sipush (v := 4809) X dX6_record_19 rfl ?_
      refine G_iload_n (x := x1) X dX6_record_22 rfl rfl ?_
      refine G_imul X dX6_record_23 ?_
      refine G_iadd X dX6_record_24 ?_
      refine G_sipush (v := 4809) X dX6_record_25 rfl ?_
      refine G_iload_n (x := x1) X dX6_record_28 rfl rfl ?_
      refine G_imul X dX6_record_29 ?_
      obtain ⟨I5, hk5, hf⟩ := obd hf
      refine G_callV (As := [vi (4809 + (4809 * x1)), vi (4809 * x1)]) X (f6_copyState_ok E I (4809 + (4809 * x1)) (4809 * x1) I5 hk5) cb_X6_27 vi_X6_copyState (ci := 5) rfl rfl (show SH[79]? = some (_, 0) from rfl) rfl rfl (Nat.le_of_ble_eq_true rfl) (by decide) (by decide) rfl (Nat.le_refl _) (Nat.le_refl _) dX6_record_30 ?_
      show G E κ _ _ _ [some (vr 79), some (vi x1)] [] (mm I5)
      refine G_iinc (x := x1) (v := 1) X dX6_record_33 rfl rfl (ls' := [some (vr 79), some (vi (x1 + 1))]) rfl ?_
      refine G_goto (tgt := 10) X dX6_record_36 (by decide) ?_
      exact ih I5 (x1 + 1) _ hR hf

def f6_record (I : gI)  : Option gI := (if (I 79 1) = 5 then f6_record_L10 FU I 1 else (f6_copyState I 0 (4809 + (4809 * (I 79 1)))).bind fun I2 => some (uI I2 79 1 ((I2 79 1) + 1)))
set_option maxRecDepth 100000 in
set_option maxHeartbeats 4000000 in
theorem f6_record_ok (E : gEnv) (I : gI)  (I' : gI) (hf : f6_record I  = some I') : Ctr E yX6_record cX6_record 2 none 1 0 0 [vr 79] (mm I) (none) (mm I') := by
  refine Ctr.mk (by decide +kernel) (Nat.le_of_ble_eq_true rfl) fun κ X hR _ => ?_
  have X : Cx E κ cX6_record 2 RX6 none 1 0 0 := X
  show G E κ 0 0 0 [some (vr 79), none] [] (mm I)
  unfold f6_record at hf
  refine G_aload_n (x := some (79)) X dX6_record_0 rfl rfl ?_
  refine M_getI X fd_X6_23 rfl (show SH[79]? = some (_, 0) from rfl) dX6_record_1 ?_
  refine G_iconst (v := 5) X dX6_record_4 rfl ?_
  refine G_icmp_ne (tgt := 49) X dX6_record_5 (by decide) (fun hc1 => ?_) (fun hc1 => ?_)
  · have hf := (if_neg hc1).symm.trans hf
    refine G_aload_n (x := some (79)) X dX6_record_49 rfl rfl ?_
    refine G_iconst (v := 0) X dX6_record_50 rfl ?_
    refine G_sipush (v := 4809) X dX6_record_51 rfl ?_
    refine G_sipush (v := 4809) X dX6_record_54 rfl ?_
    refine G_aload_n (x := some (79)) X dX6_record_57 rfl rfl ?_
    refine M_getI X fd_X6_23 rfl (show SH[79]? = some (_, 0) from rfl) dX6_record_58 ?_
    refine G_imul X dX6_record_61 ?_
    refine G_iadd X dX6_record_62 ?_
    obtain ⟨I2, hk2, hf⟩ := obd hf
    refine G_callV (As := [vi 0, vi (4809 + (4809 * (I 79 1)))]) X (f6_copyState_ok E I 0 (4809 + (4809 * (I 79 1))) I2 hk2) cb_X6_27 vi_X6_copyState (ci := 5) rfl rfl (show SH[79]? = some (_, 0) from rfl) rfl rfl (Nat.le_of_ble_eq_true rfl) (by decide) (by decide) rfl (Nat.le_refl _) (Nat.le_refl _) dX6_record_63 ?_
    show G E κ _ _ _ [some (vr 79), none] [] (mm I2)
    refine G_aload_n (x := some (79)) X dX6_record_66 rfl rfl ?_
    refine G_dup X dX6_record_67 ?_
    refine M_getI X fd_X6_23 rfl (show SH[79]? = some (_, 0) from rfl) dX6_record_68 ?_
    refine G_iconst (v := 1) X dX6_record_71 rfl ?_
    refine G_iadd X dX6_record_72 ?_
    refine M_putI X fd_X6_23 rfl (show SH[79]? = some (_, 0) from rfl) rfl rfl dX6_record_73 ?_
    obtain rfl := Option.some.inj hf
    exact G_vret X hR rfl dX6_record_76
  · have hf := (if_pos hc1).symm.trans hf
    refine G_iconst (v := 1) X dX6_record_8 rfl ?_
    refine G_istore_n X dX6_record_9 rfl (Nat.le_of_ble_eq_true rfl) (ls' := [some (vr 79), some (vi 1)]) rfl ?_
    exact f6_record_L10_ok X FU I 1 _ hR hf

def f6_isRow (I : gI) (a0 : Int32) : Option Bool := some ((f6_in a0 0 ((I 80 4808) - 1)))
set_option maxRecDepth 100000 in
set_option maxHeartbeats 4000000 in
theorem f6_isRow_ok (E : gEnv) (I : gI) (a0 : Int32) (r : Bool) (hf : f6_isRow I a0 = some r) : Ctr E yX6_isRow cX6_isRow 2 (some .boolean) 1 0 0 [vr 79, vi a0] (mm I) (some (vi (b2i r))) (mm I) := by
  refine Ctr.mk (by decide +kernel) (Nat.le_of_ble_eq_true rfl) fun κ X hR _ => ?_
  have X : Cx E κ cX6_isRow 2 RX6 (some .boolean) 1 0 0 := X
  show G E κ 0 0 0 [some (vr 79), some (vi a0)] [] (mm I)
  unfold f6_isRow at hf
  refine G_iload_n (x := a0) X dX6_isRow_0 rfl rfl ?_
  refine G_iconst (v := 0) X dX6_isRow_1 rfl ?_
  refine G_aload_n (x := some (79)) X dX6_isRow_2 rfl rfl ?_
  refine M_getR X fd_X6_8 rfl (show SH[79]? = some (_, 0) from rfl) rfl dX6_isRow_3 ?_
  refine G_sipush (v := 4808) X dX6_isRow_6 rfl ?_
  refine M_iald X (show SH[80]? = some (_, 48086) from rfl) (by decide) dX6_isRow_9 ?_
  show G E κ _ _ _ _ (vi (I 80 4808) :: _) _
  refine G_iconst (v := 1) X dX6_isRow_10 rfl ?_
  refine G_isub X dX6_isRow_11 ?_
  refine G_callS (As := [vi a0, vi 0, vi ((I 80 4808) - 1)]) X (f6_in_ok E I a0 0 ((I 80 4808) - 1) _ rfl) cb_X6_31 st_X6_in rfl rfl (Nat.le_of_ble_eq_true rfl) (by decide) (by decide) rfl (Nat.le_refl _) (Nat.le_refl _) dX6_isRow_12 ?_
  show G E κ _ _ _ [some (vr 79), some (vi a0)] [vi (b2i (f6_in a0 0 ((I 80 4808) - 1)))] (mm I)
  obtain rfl := Option.some.inj hf
  exact G_iret X hR rfl (nar_b2i (f6_in a0 0 ((I 80 4808) - 1))) dX6_isRow_15

def f6_at (a0 : Int32) : Int32 := 601 * a0
set_option maxRecDepth 100000 in
set_option maxHeartbeats 4000000 in
theorem f6_at_ok (E : gEnv) (I : gI) (a0 : Int32) (r : Int32) (hf : f6_at  a0 = r) : Ctr E yX6_at cX6_at 1 (some .int) 0 0 0 [vi a0] (mm I) (some (vi r)) (mm I) := by
  refine Ctr.mk (by decide +kernel) (Nat.le_of_ble_eq_true rfl) fun κ X hR _ => ?_
  have X : Cx E κ cX6_at 1 RX6 (some .int) 0 0 0 := X
  show G E κ 0 0 0 [some (vi a0)] [] (mm I)
  unfold f6_at at hf
  refine G_sipush (v := 601) X dX6_at_0 rfl ?_
  refine G_iload_n (x := a0) X dX6_at_3 rfl rfl ?_
  refine G_imul X dX6_at_4 ?_
  subst hf
  exact G_iret X hR rfl rfl dX6_at_5

def f6_asked (a0 : Int32) : Int32 := 28854 + (601 * a0)
set_option maxRecDepth 100000 in
set_option maxHeartbeats 4000000 in
theorem f6_asked_ok (E : gEnv) (I : gI) (a0 : Int32) (r : Int32) (hf : f6_asked  a0 = r) : Ctr E yX6_asked cX6_asked 1 (some .int) 0 0 0 [vi a0] (mm I) (some (vi r)) (mm I) := by
  refine Ctr.mk (by decide +kernel) (Nat.le_of_ble_eq_true rfl) fun κ X hR _ => ?_
  have X : Cx E κ cX6_asked 1 RX6 (some .int) 0 0 0 := X
  show G E κ 0 0 0 [some (vi a0)] [] (mm I)
  unfold f6_asked at hf
  refine G_sipush (v := 28854) X dX6_asked_0 rfl ?_
  refine G_sipush (v := 601) X dX6_asked_3 rfl ?_
  refine G_iload_n (x := a0) X dX6_asked_6 rfl rfl ?_
  refine G_imul X dX6_asked_7 ?_
  refine G_iadd X dX6_asked_8 ?_
  subst hf
  exact G_iret X hR rfl rfl dX6_asked_9

def f6_bitOf (I : gI) (a0 : Int32) (a1 : Int32) : Option Int32 := if ib a0 48086 = true then (if (I 80 (a0.toNatClampNeg)) ≤ a1 then some 0 else if ib ((a0 + 1) + a1) 48086 = true then some (I 80 (((a0 + 1) + a1).toNatClampNeg)) else none) else none
set_option maxRecDepth 100000 in
set_option maxHeartbeats 4000000 in
theorem f6_bitOf_ok (E : gEnv) (I : gI) (a0 : Int32) (a1 : Int32) (r : Int32) (hf : f6_bitOf I a0 a1 = some r) : Ctr E yX6_bitOf cX6_bitOf 3 (some .int) 0 0 0 [vr 79, vi a0, vi a1] (mm I) (some (vi r)) (mm I) := by
  refine Ctr.mk (by decide +kernel) (Nat.le_of_ble_eq_true rfl) fun κ X hR _ => ?_
  have X : Cx E κ cX6_bitOf 3 RX6 (some .int) 0 0 0 := X
  show G E κ 0 0 0 [some (vr 79), some (vi a0), some (vi a1)] [] (mm I)
  unfold f6_bitOf at hf
  refine G_iload_n (x := a1) X dX6_bitOf_0 rfl rfl ?_
  refine G_aload_n (x := some (79)) X dX6_bitOf_1 rfl rfl ?_
  refine M_getR X fd_X6_8 rfl (show SH[79]? = some (_, 0) from rfl) rfl dX6_bitOf_2 ?_
  refine G_iload_n (x := a0) X dX6_bitOf_5 rfl rfl ?_
  obtain ⟨hc1, hf⟩ := ock hf
  refine M_iald X (show SH[80]? = some (_, 48086) from rfl) hc1 dX6_bitOf_6 ?_
  refine G_icmp_ge (tgt := 23) X dX6_bitOf_7 (by decide) (fun hc2 => ?_) (fun hc2 => ?_)
  · have hf := (if_pos hc2).symm.trans hf
    refine G_iconst (v := 0) X dX6_bitOf_23 rfl ?_
    obtain rfl := Option.some.inj hf
    exact G_iret X hR rfl rfl dX6_bitOf_24
  · have hf := (if_neg hc2).symm.trans hf
    refine G_aload_n (x := some (79)) X dX6_bitOf_10 rfl rfl ?_
    refine M_getR X fd_X6_8 rfl (show SH[79]? = some (_, 0) from rfl) rfl dX6_bitOf_11 ?_
    refine G_iload_n (x := a0) X dX6_bitOf_14 rfl rfl ?_
    refine G_iconst (v := 1) X dX6_bitOf_15 rfl ?_
    refine G_iadd X dX6_bitOf_16 ?_
    refine G_iload_n (x := a1) X dX6_bitOf_17 rfl rfl ?_
    refine G_iadd X dX6_bitOf_18 ?_
    obtain ⟨hc3, hf⟩ := ock hf
    refine M_iald X (show SH[80]? = some (_, 48086) from rfl) hc3 dX6_bitOf_19 ?_
    refine G_goto (tgt := 24) X dX6_bitOf_20 (by decide) ?_
    obtain rfl := Option.some.inj hf
    exact G_iret X hR rfl rfl dX6_bitOf_24

def f6_put (I : gI) (a0 : Int32) (a1 : Int32) (a2 : Int32) : Option gI := if ib ((a0 + 1) + a1) 48086 = true then some (uI I 80 ((a0 + 1) + a1).toNatClampNeg a2) else none
set_option maxRecDepth 100000 in
set_option maxHeartbeats 4000000 in
theorem f6_put_ok (E : gEnv) (I : gI) (a0 : Int32) (a1 : Int32) (a2 : Int32) (I' : gI) (hf : f6_put I a0 a1 a2 = some I') : Ctr E yX6_put cX6_put 4 none 0 0 0 [vr 79, vi a0, vi a1, vi a2] (mm I) (none) (mm I') := by
  refine Ctr.mk (by decide +kernel) (Nat.le_of_ble_eq_true rfl) fun κ X hR _ => ?_
  have X : Cx E κ cX6_put 4 RX6 none 0 0 0 := X
  show G E κ 0 0 0 [some (vr 79), some (vi a0), some (vi a1), some (vi a2)] [] (mm I)
  unfold f6_put at hf
  refine G_aload_n (x := some (79)) X dX6_put_0 rfl rfl ?_
  refine M_getR X fd_X6_8 rfl (show SH[79]? = some (_, 0) from rfl) rfl dX6_put_1 ?_
  refine G_iload_n (x := a0) X dX6_put_4 rfl rfl ?_
  refine G_iconst (v := 1) X dX6_put_5 rfl ?_
  refine G_iadd X dX6_put_6 ?_
  refine G_iload_n (x := a1) X dX6_put_7 rfl rfl ?_
  refine G_iadd X dX6_put_8 ?_
  refine G_iload_n (x := a2) X dX6_put_9 rfl rfl ?_
  obtain ⟨hc1, hf⟩ := ock hf
  refine M_iast X (show SH[80]? = some (_, 48086) from rfl) hc1 dX6_put_10 ?_
  obtain rfl := Option.some.inj hf
  exact G_vret X hR rfl dX6_put_11

def f6_copy_L2 : Nat → gI → Int32 → Int32 → Int32 → Option gI
  | 0, _, _, _, _ => none
  | k + 1, I, x1, x2, x3 => (if 601 ≤ x3 then some I else if ib (x1 + x3) 48086 = true then if ib (x2 + x3) 48086 = true then f6_copy_L2 k (uI I 80 (x2 + x3).toNatClampNeg (I 80 ((x1 + x3).toNatClampNeg))) x1 x2 (x3 + 1) else none else none)
set_option maxRecDepth 100000 in
set_option maxHeartbeats 4000000 in
theorem f6_copy_L2_ok {E : gEnv} {κ : gCtx} (X : Cx E κ cX6_copy 4 RX6 none 0 0 0) : ∀ (k : Nat) (I : gI) (x1 : Int32) (x2 : Int32) (x3 : Int32) (I' : gI) (hR : gRt E κ 0 0 (none) (mm I')) (hf : f6_copy_L2 k I x1 x2 x3 = some I'), G E κ 0 0 2 [some (vr 79), some (vi x1), some (vi x2), some (vi x3)] [] (mm I) := by
  intro k
  induction k with
  | zero =>
    intros
    rename_i hf
    cases hf
  | succ k ih =>
    intro I x1 x2 x3 I' hR hf
    refine G_iload_n (x := x3) X dX6_copy_2 rfl rfl ?_
    refine G_sipush (v := 601) X dX6_copy_3 rfl ?_
    refine G_icmp_ge (tgt := 31) X dX6_copy_6 (by decide) (fun hc1 => ?_) (fun hc1 => ?_)
    · have hf := (if_pos hc1).symm.trans hf
      obtain rfl := Option.some.inj hf
      exact G_vret X hR rfl dX6_copy_31
    · have hf := (if_neg hc1).symm.trans hf
      refine G_aload_n (x := some (79)) X dX6_copy_9 rfl rfl ?_
      refine M_getR X fd_X6_8 rfl (show SH[79]? = some (_, 0) from rfl) rfl dX6_copy_10 ?_
      refine G_iload_n (x := x2) X dX6_copy_13 rfl rfl ?_
      refine G_iload_n (x := x3) X dX6_copy_14 rfl rfl ?_
      refine G_iadd X dX6_copy_15 ?_
      refine G_aload_n (x := some (79)) X dX6_copy_16 rfl rfl ?_
      refine M_getR X fd_X6_8 rfl (show SH[79]? = some (_, 0) from rfl) rfl dX6_copy_17 ?_
      refine G_iload_n (x := x1) X dX6_copy_20 rfl rfl ?_
      refine G_iload_n (x := x3) X dX6_copy_21 rfl rfl ?_
      refine G_iadd X dX6_copy_22 ?_
      obtain ⟨hc2, hf⟩ := ock hf
      refine M_iald X (show SH[80]? = some (_, 48086) from rfl) hc2 dX6_copy_23 ?_
      obtain ⟨hc3, hf⟩ := ock hf
      refine M_iast X (show SH[80]? = some (_, 48086) from rfl) hc3 dX6_copy_24 ?_
      refine G_iinc (x := x3) (v := 1) X dX6_copy_25 rfl rfl (ls' := [some (vr 79), some (vi x1), some (vi x2), some (vi (x3 + 1))]) rfl ?_
      refine G_goto (tgt := 2) X dX6_copy_28 (by decide) ?_
      exact ih (uI I 80 (x2 + x3).toNatClampNeg (I 80 ((x1 + x3).toNatClampNeg))) x1 x2 (x3 + 1) _ hR hf

def f6_copy (I : gI) (a0 : Int32) (a1 : Int32) : Option gI := f6_copy_L2 FU I a0 a1 0
set_option maxRecDepth 100000 in
set_option maxHeartbeats 4000000 in
theorem f6_copy_ok (E : gEnv) (I : gI) (a0 : Int32) (a1 : Int32) (I' : gI) (hf : f6_copy I a0 a1 = some I') : Ctr E yX6_copy cX6_copy 4 none 0 0 0 [vr 79, vi a0, vi a1] (mm I) (none) (mm I') := by
  refine Ctr.mk (by decide +kernel) (Nat.le_of_ble_eq_true rfl) fun κ X hR _ => ?_
  have X : Cx E κ cX6_copy 4 RX6 none 0 0 0 := X
  show G E κ 0 0 0 [some (vr 79), some (vi a0), some (vi a1), none] [] (mm I)
  unfold f6_copy at hf
  refine G_iconst (v := 0) X dX6_copy_0 rfl ?_
  refine G_istore_n X dX6_copy_1 rfl (Nat.le_of_ble_eq_true rfl) (ls' := [some (vr 79), some (vi a0), some (vi a1), some (vi 0)]) rfl ?_
  exact f6_copy_L2_ok X FU I a0 a1 0 _ hR hf

def f6_ones_L4 : Nat → gI → Int32 → Int32 → Int32 → Option Int32
  | 0, _, _, _, _ => none
  | k + 1, I, x1, x2, x3 => if ib x1 48086 = true then (if (I 80 (x1.toNatClampNeg)) ≤ x3 then some x2 else (f6_bitOf I x1 x3).bind fun v3 => f6_ones_L4 k I x1 (x2 + v3) (x3 + 1)) else none
set_option maxRecDepth 100000 in
set_option maxHeartbeats 4000000 in
theorem f6_ones_L4_ok {E : gEnv} {κ : gCtx} (X : Cx E κ cX6_ones 4 RX6 (some .int) 1 0 0) : ∀ (k : Nat) (I : gI) (x1 : Int32) (x2 : Int32) (x3 : Int32) (r : Int32) (hR : gRt E κ 0 0 (some (vi r)) (mm I)) (hf : f6_ones_L4 k I x1 x2 x3 = some r), G E κ 0 0 4 [some (vr 79), some (vi x1), some (vi x2), some (vi x3)] [] (mm I) := by
  intro k
  induction k with
  | zero =>
    intros
    rename_i hf
    cases hf
  | succ k ih =>
    intro I x1 x2 x3 r hR hf
    refine G_iload_n (x := x3) X dX6_ones_4 rfl rfl ?_
    refine G_aload_n (x := some (79)) X dX6_ones_5 rfl rfl ?_
    refine M_getR X fd_X6_8 rfl (show SH[79]? = some (_, 0) from rfl) rfl dX6_ones_6 ?_
    refine G_iload_n (x := x1) X dX6_ones_9 rfl rfl ?_
    obtain ⟨hc1, hf⟩ := ock hf
    refine M_iald X (show SH[80]? = some (_, 48086) from rfl) hc1 dX6_ones_10 ?_
    refine G_icmp_ge (tgt := 29) X dX6_ones_11 (by decide) (fun hc2 => ?_) (fun hc2 => ?_)
    · have hf := (if_pos hc2).symm.trans hf
      refine G_iload_n (x := x2) X dX6_ones_29 rfl rfl ?_
      obtain rfl := Option.some.inj hf
      exact G_iret X hR rfl rfl dX6_ones_30
    · have hf := (if_neg hc2).symm.trans hf
      refine G_iload_n (x := x2) X dX6_ones_14 rfl rfl ?_
      refine G_aload_n (x := some (79)) X dX6_ones_15 rfl rfl ?_
      refine G_iload_n (x := x1) X dX6_ones_16 rfl rfl ?_
      refine G_iload_n (x := x3) X dX6_ones_17 rfl rfl ?_
      obtain ⟨v3, hk3, hf⟩ := obd hf
      refine G_callV (As := [vi x1, vi x3]) X (f6_bitOf_ok E I x1 x3 v3 hk3) cb_X6_35 vi_X6_bitOf (ci := 5) rfl rfl (show SH[79]? = some (_, 0) from rfl) rfl rfl (Nat.le_of_ble_eq_true rfl) (by decide) (by decide) rfl (Nat.le_refl _) (Nat.le_refl _) dX6_ones_18 ?_
      show G E κ _ _ _ [some (vr 79), some (vi x1), some (vi x2), some (vi x3)] [vi v3, vi x2] (mm I)
      refine G_iadd X dX6_ones_21 ?_
      refine G_istore_n X dX6_ones_22 rfl (Nat.le_of_ble_eq_true rfl) (ls' := [some (vr 79), some (vi x1), some (vi (x2 + v3)), some (vi x3)]) rfl ?_
      refine G_iinc (x := x3) (v := 1) X dX6_ones_23 rfl rfl (ls' := [some (vr 79), some (vi x1), some (vi (x2 + v3)), some (vi (x3 + 1))]) rfl ?_
      refine G_goto (tgt := 4) X dX6_ones_26 (by decide) ?_
      exact ih I x1 (x2 + v3) (x3 + 1) _ hR hf

def f6_ones (I : gI) (a0 : Int32) : Option Int32 := f6_ones_L4 FU I a0 0 0
set_option maxRecDepth 100000 in
set_option maxHeartbeats 4000000 in
theorem f6_ones_ok (E : gEnv) (I : gI) (a0 : Int32) (r : Int32) (hf : f6_ones I a0 = some r) : Ctr E yX6_ones cX6_ones 4 (some .int) 1 0 0 [vr 79, vi a0] (mm I) (some (vi r)) (mm I) := by
  refine Ctr.mk (by decide +kernel) (Nat.le_of_ble_eq_true rfl) fun κ X hR _ => ?_
  have X : Cx E κ cX6_ones 4 RX6 (some .int) 1 0 0 := X
  show G E κ 0 0 0 [some (vr 79), some (vi a0), none, none] [] (mm I)
  unfold f6_ones at hf
  refine G_iconst (v := 0) X dX6_ones_0 rfl ?_
  refine G_istore_n X dX6_ones_1 rfl (Nat.le_of_ble_eq_true rfl) (ls' := [some (vr 79), some (vi a0), some (vi 0), none]) rfl ?_
  refine G_iconst (v := 0) X dX6_ones_2 rfl ?_
  refine G_istore_n X dX6_ones_3 rfl (Nat.le_of_ble_eq_true rfl) (ls' := [some (vr 79), some (vi a0), some (vi 0), some (vi 0)]) rfl ?_
  exact f6_ones_L4_ok X FU I a0 0 0 _ hR hf

def f6_groups (I : gI) (a0 : Int32) : Option Int32 := if ib a0 48086 = true then some ((((I 80 (a0.toNatClampNeg)) + 15) - 1) / 15) else none
set_option maxRecDepth 100000 in
set_option maxHeartbeats 4000000 in
theorem f6_groups_ok (E : gEnv) (I : gI) (a0 : Int32) (r : Int32) (hf : f6_groups I a0 = some r) : Ctr E yX6_groups cX6_groups 2 (some .int) 0 0 0 [vr 79, vi a0] (mm I) (some (vi r)) (mm I) := by
  refine Ctr.mk (by decide +kernel) (Nat.le_of_ble_eq_true rfl) fun κ X hR _ => ?_
  have X : Cx E κ cX6_groups 2 RX6 (some .int) 0 0 0 := X
  show G E κ 0 0 0 [some (vr 79), some (vi a0)] [] (mm I)
  unfold f6_groups at hf
  refine G_aload_n (x := some (79)) X dX6_groups_0 rfl rfl ?_
  refine M_getR X fd_X6_8 rfl (show SH[79]? = some (_, 0) from rfl) rfl dX6_groups_1 ?_
  refine G_iload_n (x := a0) X dX6_groups_4 rfl rfl ?_
  obtain ⟨hc1, hf⟩ := ock hf
  refine M_iald X (show SH[80]? = some (_, 48086) from rfl) hc1 dX6_groups_5 ?_
  refine G_bipush (v := 15) X dX6_groups_6 rfl ?_
  refine G_iadd X dX6_groups_8 ?_
  refine G_iconst (v := 1) X dX6_groups_9 rfl ?_
  refine G_isub X dX6_groups_10 ?_
  refine G_bipush (v := 15) X dX6_groups_11 rfl ?_
  refine G_idiv X dX6_groups_13 (by decide) ?_
  obtain rfl := Option.some.inj hf
  exact G_iret X hR rfl rfl dX6_groups_14

def f6_group_L6 : Nat → gI → Int32 → Int32 → Int32 → Int32 → Option Int32
  | 0, _, _, _, _, _ => none
  | k + 1, I, x1, x2, x3, x4 => (if x4 < 0 then some x3 else (f6_bitOf I x1 ((15 * x2) + x4)).bind fun v2 => f6_group_L6 k I x1 x2 ((2 * x3) + v2) (x4 + (-1)))
set_option maxRecDepth 100000 in
set_option maxHeartbeats 4000000 in
theorem f6_group_L6_ok {E : gEnv} {κ : gCtx} (X : Cx E κ cX6_group 5 RX6 (some .int) 1 0 0) : ∀ (k : Nat) (I : gI) (x1 : Int32) (x2 : Int32) (x3 : Int32) (x4 : Int32) (r : Int32) (hR : gRt E κ 0 0 (some (vi r)) (mm I)) (hf : f6_group_L6 k I x1 x2 x3 x4 = some r), G E κ 0 0 6 [some (vr 79), some (vi x1), some (vi x2), some (vi x3), some (vi x4)] [] (mm I) := by
  intro k
  induction k with
  | zero =>
    intros
    rename_i hf
    cases hf
  | succ k ih =>
    intro I x1 x2 x3 x4 r hR hf
    refine G_iload (x := x4) X dX6_group_6 rfl ?_
    refine G_if_lt (tgt := 34) X dX6_group_8 (by decide) (fun hc1 => ?_) (fun hc1 => ?_)
    · have hf := (if_pos hc1).symm.trans hf
      refine G_iload_n (x := x3) X dX6_group_34 rfl rfl ?_
      obtain rfl := Option.some.inj hf
      exact G_iret X hR rfl rfl dX6_group_35
    · have hf := (if_neg hc1).symm.trans hf
      refine G_iconst (v := 2) X dX6_group_11 rfl ?_
      refine G_iload_n (x := x3) X dX6_group_12 rfl rfl ?_
      refine G_imul X dX6_group_13 ?_
      refine G_aload_n (x := some (79)) X dX6_group_14 rfl rfl ?_
      refine G_iload_n (x := x1) X dX6_group_15 rfl rfl ?_
      refine G_bipush (v := 15) X dX6_group_16 rfl ?_
      refine G_iload_n (x := x2) X dX6_group_18 rfl rfl ?_
      refine G_imul X dX6_group_19 ?_
      refine G_iload (x := x4) X dX6_group_20 rfl ?_
      refine G_iadd X dX6_group_22 ?_
      obtain ⟨v2, hk2, hf⟩ := obd hf
      refine G_callV (As := [vi x1, vi ((15 * x2) + x4)]) X (f6_bitOf_ok E I x1 ((15 * x2) + x4) v2 hk2) cb_X6_35 vi_X6_bitOf (ci := 5) rfl rfl (show SH[79]? = some (_, 0) from rfl) rfl rfl (Nat.le_of_ble_eq_true rfl) (by decide) (by decide) rfl (Nat.le_refl _) (Nat.le_refl _) dX6_group_23 ?_
      show G E κ _ _ _ [some (vr 79), some (vi x1), some (vi x2), some (vi x3), some (vi x4)] [vi v2, vi (2 * x3)] (mm I)
      refine G_iadd X dX6_group_26 ?_
      refine G_istore_n X dX6_group_27 rfl (Nat.le_of_ble_eq_true rfl) (ls' := [some (vr 79), some (vi x1), some (vi x2), some (vi ((2 * x3) + v2)), some (vi x4)]) rfl ?_
      refine G_iinc (x := x4) (v := (-1)) X dX6_group_28 rfl rfl (ls' := [some (vr 79), some (vi x1), some (vi x2), some (vi ((2 * x3) + v2)), some (vi (x4 + (-1)))]) rfl ?_
      refine G_goto (tgt := 6) X dX6_group_31 (by decide) ?_
      exact ih I x1 x2 ((2 * x3) + v2) (x4 + (-1)) _ hR hf

def f6_group (I : gI) (a0 : Int32) (a1 : Int32) : Option Int32 := f6_group_L6 FU I a0 a1 0 14
set_option maxRecDepth 100000 in
set_option maxHeartbeats 4000000 in
theorem f6_group_ok (E : gEnv) (I : gI) (a0 : Int32) (a1 : Int32) (r : Int32) (hf : f6_group I a0 a1 = some r) : Ctr E yX6_group cX6_group 5 (some .int) 1 0 0 [vr 79, vi a0, vi a1] (mm I) (some (vi r)) (mm I) := by
  refine Ctr.mk (by decide +kernel) (Nat.le_of_ble_eq_true rfl) fun κ X hR _ => ?_
  have X : Cx E κ cX6_group 5 RX6 (some .int) 1 0 0 := X
  show G E κ 0 0 0 [some (vr 79), some (vi a0), some (vi a1), none, none] [] (mm I)
  unfold f6_group at hf
  refine G_iconst (v := 0) X dX6_group_0 rfl ?_
  refine G_istore_n X dX6_group_1 rfl (Nat.le_of_ble_eq_true rfl) (ls' := [some (vr 79), some (vi a0), some (vi a1), some (vi 0), none]) rfl ?_
  refine G_bipush (v := 14) X dX6_group_2 rfl ?_
  refine G_istore X dX6_group_4 (Nat.le_of_ble_eq_true rfl) (ls' := [some (vr 79), some (vi a0), some (vi a1), some (vi 0), some (vi 14)]) rfl ?_
  exact f6_group_L6_ok X FU I a0 a1 0 14 _ hR hf

def f6_kind (I : gI) (a0 : Int32) (a1 : Int32) : Option Int32 := (f6_group I a0 a1).bind fun v1 => (if v1 = 0 then some 0 else (if v1 = 32767 then some 1 else some 2))
set_option maxRecDepth 100000 in
set_option maxHeartbeats 4000000 in
theorem f6_kind_ok (E : gEnv) (I : gI) (a0 : Int32) (a1 : Int32) (r : Int32) (hf : f6_kind I a0 a1 = some r) : Ctr E yX6_kind cX6_kind 4 (some .int) 2 0 0 [vr 79, vi a0, vi a1] (mm I) (some (vi r)) (mm I) := by
  refine Ctr.mk (by decide +kernel) (Nat.le_of_ble_eq_true rfl) fun κ X hR _ => ?_
  have X : Cx E κ cX6_kind 4 RX6 (some .int) 2 0 0 := X
  show G E κ 0 0 0 [some (vr 79), some (vi a0), some (vi a1), none] [] (mm I)
  unfold f6_kind at hf
  refine G_aload_n (x := some (79)) X dX6_kind_0 rfl rfl ?_
  refine G_iload_n (x := a0) X dX6_kind_1 rfl rfl ?_
  refine G_iload_n (x := a1) X dX6_kind_2 rfl rfl ?_
  obtain ⟨v1, hk1, hf⟩ := obd hf
  refine G_callV (As := [vi a0, vi a1]) X (f6_group_ok E I a0 a1 v1 hk1) cb_X6_39 vi_X6_group (ci := 5) rfl rfl (show SH[79]? = some (_, 0) from rfl) rfl rfl (Nat.le_of_ble_eq_true rfl) (by decide) (by decide) rfl (Nat.le_refl _) (Nat.le_refl _) dX6_kind_3 ?_
  show G E κ _ _ _ [some (vr 79), some (vi a0), some (vi a1), none] [vi v1] (mm I)
  refine G_istore_n X dX6_kind_6 rfl (Nat.le_of_ble_eq_true rfl) (ls' := [some (vr 79), some (vi a0), some (vi a1), some (vi v1)]) rfl ?_
  refine G_iload_n (x := v1) X dX6_kind_7 rfl rfl ?_
  refine G_if_ne (tgt := 15) X dX6_kind_8 (by decide) (fun hc2 => ?_) (fun hc2 => ?_)
  · have hf := (if_neg hc2).symm.trans hf
    refine G_iload_n (x := v1) X dX6_kind_15 rfl rfl ?_
    refine G_sipush (v := 32767) X dX6_kind_16 rfl ?_
    refine G_icmp_ne (tgt := 26) X dX6_kind_19 (by decide) (fun hc3 => ?_) (fun hc3 => ?_)
    · have hf := (if_neg hc3).symm.trans hf
      refine G_iconst (v := 2) X dX6_kind_26 rfl ?_
      obtain rfl := Option.some.inj hf
      exact G_iret X hR rfl rfl dX6_kind_27
    · have hf := (if_pos hc3).symm.trans hf
      refine G_iconst (v := 1) X dX6_kind_22 rfl ?_
      refine G_goto (tgt := 27) X dX6_kind_23 (by decide) ?_
      obtain rfl := Option.some.inj hf
      exact G_iret X hR rfl rfl dX6_kind_27
  · have hf := (if_pos hc2).symm.trans hf
    refine G_iconst (v := 0) X dX6_kind_11 rfl ?_
    refine G_goto (tgt := 27) X dX6_kind_12 (by decide) ?_
    obtain rfl := Option.some.inj hf
    exact G_iret X hR rfl rfl dX6_kind_27

def f6_behind_L12 : Nat → gI → Int32 → Int32 → Int32 → Int32 → Option Int32
  | 0, _, _, _, _, _ => none
  | k + 1, I, x1, x2, x3, x4 => (if 2 ≤ x3 then some x4 else (f6_groups I x1).bind fun v3 => (if v3 ≤ x4 then some x4 else (if 20 ≤ (x4 - x2) then some x4 else (f6_kind I x1 x4).bind fun v6 => (if v6 = x3 then f6_behind_L12 k I x1 x2 x3 (x4 + 1) else some x4))))
set_option maxRecDepth 100000 in
set_option maxHeartbeats 4000000 in
theorem f6_behind_L12_ok {E : gEnv} {κ : gCtx} (X : Cx E κ cX6_behind 5 RX6 (some .int) 3 0 0) : ∀ (k : Nat) (I : gI) (x1 : Int32) (x2 : Int32) (x3 : Int32) (x4 : Int32) (r : Int32) (hR : gRt E κ 0 0 (some (vi r)) (mm I)) (hf : f6_behind_L12 k I x1 x2 x3 x4 = some r), G E κ 0 0 12 [some (vr 79), some (vi x1), some (vi x2), some (vi x3), some (vi x4)] [] (mm I) := by
  intro k
  induction k with
  | zero =>
    intros
    rename_i hf
    cases hf
  | succ k ih =>
    intro I x1 x2 x3 x4 r hR hf
    refine G_iload_n (x := x3) X dX6_behind_12 rfl rfl ?_
    refine G_iconst (v := 2) X dX6_behind_13 rfl ?_
    refine G_icmp_ge (tgt := 53) X dX6_behind_14 (by decide) (fun hc2 => ?_) (fun hc2 => ?_)
    · have hf := (if_pos hc2).symm.trans hf
      refine G_iload (x := x4) X dX6_behind_53 rfl ?_
      obtain rfl := Option.some.inj hf
      exact G_iret X hR rfl rfl dX6_behind_55
    · have hf := (if_neg hc2).symm.trans hf
      refine G_iload (x := x4) X dX6_behind_17 rfl ?_
      refine G_aload_n (x := some (79)) X dX6_behind_19 rfl rfl ?_
      refine G_iload_n (x := x1) X dX6_behind_20 rfl rfl ?_
      obtain ⟨v3, hk3, hf⟩ := obd hf
      refine G_callV (As := [vi x1]) X (f6_groups_ok E I x1 v3 hk3) cb_X6_45 vi_X6_groups (ci := 5) rfl rfl (show SH[79]? = some (_, 0) from rfl) rfl rfl (Nat.le_of_ble_eq_true rfl) (by decide) (by decide) rfl (Nat.le_refl _) (Nat.le_refl _) dX6_behind_21 ?_
      show G E κ _ _ _ [some (vr 79), some (vi x1), some (vi x2), some (vi x3), some (vi x4)] [vi v3, vi x4] (mm I)
      refine G_icmp_ge (tgt := 53) X dX6_behind_24 (by decide) (fun hc4 => ?_) (fun hc4 => ?_)
      · have hf := (if_pos hc4).symm.trans hf
        refine G_iload (x := x4) X dX6_behind_53 rfl ?_
        obtain rfl := Option.some.inj hf
        exact G_iret X hR rfl rfl dX6_behind_55
      · have hf := (if_neg hc4).symm.trans hf
        refine G_iload (x := x4) X dX6_behind_27 rfl ?_
        refine G_iload_n (x := x2) X dX6_behind_29 rfl rfl ?_
        refine G_isub X dX6_behind_30 ?_
        refine G_bipush (v := 20) X dX6_behind_31 rfl ?_
        refine G_icmp_ge (tgt := 53) X dX6_behind_33 (by decide) (fun hc5 => ?_) (fun hc5 => ?_)
        · have hf := (if_pos hc5).symm.trans hf
          refine G_iload (x := x4) X dX6_behind_53 rfl ?_
          obtain rfl := Option.some.inj hf
          exact G_iret X hR rfl rfl dX6_behind_55
        · have hf := (if_neg hc5).symm.trans hf
          refine G_aload_n (x := some (79)) X dX6_behind_36 rfl rfl ?_
          refine G_iload_n (x := x1) X dX6_behind_37 rfl rfl ?_
          refine G_iload (x := x4) X dX6_behind_38 rfl ?_
          obtain ⟨v6, hk6, hf⟩ := obd hf
          refine G_callV (As := [vi x1, vi x4]) X (f6_kind_ok E I x1 x4 v6 hk6) cb_X6_42 vi_X6_kind (ci := 5) rfl rfl (show SH[79]? = some (_, 0) from rfl) rfl rfl (Nat.le_of_ble_eq_true rfl) (by decide) (by decide) rfl (Nat.le_refl _) (Nat.le_refl _) dX6_behind_40 ?_
          show G E κ _ _ _ [some (vr 79), some (vi x1), some (vi x2), some (vi x3), some (vi x4)] [vi v6] (mm I)
          refine G_iload_n (x := x3) X dX6_behind_43 rfl rfl ?_
          refine G_icmp_ne (tgt := 53) X dX6_behind_44 (by decide) (fun hc7 => ?_) (fun hc7 => ?_)
          · have hf := (if_neg hc7).symm.trans hf
            refine G_iload (x := x4) X dX6_behind_53 rfl ?_
            obtain rfl := Option.some.inj hf
            exact G_iret X hR rfl rfl dX6_behind_55
          · have hf := (if_pos hc7).symm.trans hf
            refine G_iinc (x := x4) (v := 1) X dX6_behind_47 rfl rfl (ls' := [some (vr 79), some (vi x1), some (vi x2), some (vi x3), some (vi (x4 + 1))]) rfl ?_
            refine G_goto (tgt := 12) X dX6_behind_50 (by decide) ?_
            exact ih I x1 x2 x3 (x4 + 1) _ hR hf

def f6_behind (I : gI) (a0 : Int32) (a1 : Int32) : Option Int32 := (f6_kind I a0 a1).bind fun v1 => f6_behind_L12 FU I a0 a1 v1 (a1 + 1)
set_option maxRecDepth 100000 in
set_option maxHeartbeats 4000000 in
theorem f6_behind_ok (E : gEnv) (I : gI) (a0 : Int32) (a1 : Int32) (r : Int32) (hf : f6_behind I a0 a1 = some r) : Ctr E yX6_behind cX6_behind 5 (some .int) 3 0 0 [vr 79, vi a0, vi a1] (mm I) (some (vi r)) (mm I) := by
  refine Ctr.mk (by decide +kernel) (Nat.le_of_ble_eq_true rfl) fun κ X hR _ => ?_
  have X : Cx E κ cX6_behind 5 RX6 (some .int) 3 0 0 := X
  show G E κ 0 0 0 [some (vr 79), some (vi a0), some (vi a1), none, none] [] (mm I)
  unfold f6_behind at hf
  refine G_aload_n (x := some (79)) X dX6_behind_0 rfl rfl ?_
  refine G_iload_n (x := a0) X dX6_behind_1 rfl rfl ?_
  refine G_iload_n (x := a1) X dX6_behind_2 rfl rfl ?_
  obtain ⟨v1, hk1, hf⟩ := obd hf
  refine G_callV (As := [vi a0, vi a1]) X (f6_kind_ok E I a0 a1 v1 hk1) cb_X6_42 vi_X6_kind (ci := 5) rfl rfl (show SH[79]? = some (_, 0) from rfl) rfl rfl (Nat.le_of_ble_eq_true rfl) (by decide) (by decide) rfl (Nat.le_refl _) (Nat.le_refl _) dX6_behind_3 ?_
  show G E κ _ _ _ [some (vr 79), some (vi a0), some (vi a1), none, none] [vi v1] (mm I)
  refine G_istore_n X dX6_behind_6 rfl (Nat.le_of_ble_eq_true rfl) (ls' := [some (vr 79), some (vi a0), some (vi a1), some (vi v1), none]) rfl ?_
  refine G_iload_n (x := a1) X dX6_behind_7 rfl rfl ?_
  refine G_iconst (v := 1) X dX6_behind_8 rfl ?_
  refine G_iadd X dX6_behind_9 ?_
  refine G_istore X dX6_behind_10 (Nat.le_of_ble_eq_true rfl) (ls' := [some (vr 79), some (vi a0), some (vi a1), some (vi v1), some (vi (a1 + 1))]) rfl ?_
  exact f6_behind_L12_ok X FU I a0 a1 v1 (a1 + 1) _ hR hf

def f6_words_L5 : Nat → gI → Int32 → Int32 → Int32 → Int32 → Option Int32
  | 0, _, _, _, _, _ => none
  | k + 1, I, x1, x2, x3, x4 => (f6_groups I x1).bind fun v1 => (if v1 ≤ x4 then some x3 else (if x2 = 3 then (f6_behind I x1 x4).bind fun v4 => f6_words_L5 k I x1 x2 (x3 + 1) v4 else (f6_kind I x1 x4).bind fun v5 => (if v5 = x2 then (f6_behind I x1 x4).bind fun v8 => f6_words_L5 k I x1 x2 (x3 + 1) v8 else (f6_behind I x1 x4).bind fun v7 => f6_words_L5 k I x1 x2 (x3 + 0) v7)))
set_option maxRecDepth 100000 in
set_option maxHeartbeats 4000000 in
theorem f6_words_L5_ok {E : gEnv} {κ : gCtx} (X : Cx E κ cX6_words 5 RX6 (some .int) 4 0 0) : ∀ (k : Nat) (I : gI) (x1 : Int32) (x2 : Int32) (x3 : Int32) (x4 : Int32) (r : Int32) (hR : gRt E κ 0 0 (some (vi r)) (mm I)) (hf : f6_words_L5 k I x1 x2 x3 x4 = some r), G E κ 0 0 5 [some (vr 79), some (vi x1), some (vi x2), some (vi x3), some (vi x4)] [] (mm I) := by
  intro k
  induction k with
  | zero =>
    intros
    rename_i hf
    cases hf
  | succ k ih =>
    intro I x1 x2 x3 x4 r hR hf
    refine G_iload (x := x4) X dX6_words_5 rfl ?_
    refine G_aload_n (x := some (79)) X dX6_words_7 rfl rfl ?_
    refine G_iload_n (x := x1) X dX6_words_8 rfl rfl ?_
    obtain ⟨v1, hk1, hf⟩ := obd hf
    refine G_callV (As := [vi x1]) X (f6_groups_ok E I x1 v1 hk1) cb_X6_45 vi_X6_groups (ci := 5) rfl rfl (show SH[79]? = some (_, 0) from rfl) rfl rfl (Nat.le_of_ble_eq_true rfl) (by decide) (by decide) rfl (Nat.le_refl _) (Nat.le_refl _) dX6_words_9 ?_
    show G E κ _ _ _ [some (vr 79), some (vi x1), some (vi x2), some (vi x3), some (vi x4)] [vi v1, vi x4] (mm I)
    refine G_icmp_ge (tgt := 51) X dX6_words_12 (by decide) (fun hc2 => ?_) (fun hc2 => ?_)
    · have hf := (if_pos hc2).symm.trans hf
      refine G_iload_n (x := x3) X dX6_words_51 rfl rfl ?_
      obtain rfl := Option.some.inj hf
      exact G_iret X hR rfl rfl dX6_words_52
    · have hf := (if_neg hc2).symm.trans hf
      refine G_iload_n (x := x3) X dX6_words_15 rfl rfl ?_
      refine G_iload_n (x := x2) X dX6_words_16 rfl rfl ?_
      refine G_iconst (v := 3) X dX6_words_17 rfl ?_
      refine G_icmp_eq (tgt := 32) X dX6_words_18 (by decide) (fun hc3 => ?_) (fun hc3 => ?_)
      · have hf := (if_pos hc3).symm.trans hf
        refine G_iconst (v := 1) X dX6_words_32 rfl ?_
        refine G_goto (tgt := 37) X dX6_words_33 (by decide) ?_
        refine G_iadd X dX6_words_37 ?_
        refine G_istore_n X dX6_words_38 rfl (Nat.le_of_ble_eq_true rfl) (ls' := [some (vr 79), some (vi x1), some (vi x2), some (vi (x3 + 1)), some (vi x4)]) rfl ?_
        refine G_aload_n (x := some (79)) X dX6_words_39 rfl rfl ?_
        refine G_iload_n (x := x1) X dX6_words_40 rfl rfl ?_
        refine G_iload (x := x4) X dX6_words_41 rfl ?_
        obtain ⟨v4, hk4, hf⟩ := obd hf
        refine G_callV (As := [vi x1, vi x4]) X (f6_behind_ok E I x1 x4 v4 hk4) cb_X6_49 vi_X6_behind (ci := 5) rfl rfl (show SH[79]? = some (_, 0) from rfl) rfl rfl (Nat.le_of_ble_eq_true rfl) (by decide) (by decide) rfl (Nat.le_refl _) (Nat.le_refl _) dX6_words_43 ?_
        show G E κ _ _ _ [some (vr 79), some (vi x1), some (vi x2), some (vi (x3 + 1)), some (vi x4)] [vi v4] (mm I)
        refine G_istore X dX6_words_46 (Nat.le_of_ble_eq_true rfl) (ls' := [some (vr 79), some (vi x1), some (vi x2), some (vi (x3 + 1)), some (vi v4)]) rfl ?_
        refine G_goto (tgt := 5) X dX6_words_48 (by decide) ?_
        exact ih I x1 x2 (x3 + 1) v4 _ hR hf
      · have hf := (if_neg hc3).symm.trans hf
        refine G_aload_n (x := some (79)) X dX6_words_21 rfl rfl ?_
        refine G_iload_n (x := x1) X dX6_words_22 rfl rfl ?_
        refine G_iload (x := x4) X dX6_words_23 rfl ?_
        obtain ⟨v5, hk5, hf⟩ := obd hf
        refine G_callV (As := [vi x1, vi x4]) X (f6_kind_ok E I x1 x4 v5 hk5) cb_X6_42 vi_X6_kind (ci := 5) rfl rfl (show SH[79]? = some (_, 0) from rfl) rfl rfl (Nat.le_of_ble_eq_true rfl) (by decide) (by decide) rfl (Nat.le_refl _) (Nat.le_refl _) dX6_words_25 ?_
        show G E κ _ _ _ [some (vr 79), some (vi x1), some (vi x2), some (vi x3), some (vi x4)] [vi v5, vi x3] (mm I)
        refine G_iload_n (x := x2) X dX6_words_28 rfl rfl ?_
        refine G_icmp_ne (tgt := 36) X dX6_words_29 (by decide) (fun hc6 => ?_) (fun hc6 => ?_)
        · have hf := (if_neg hc6).symm.trans hf
          refine G_iconst (v := 0) X dX6_words_36 rfl ?_
          refine G_iadd X dX6_words_37 ?_
          refine G_istore_n X dX6_words_38 rfl (Nat.le_of_ble_eq_true rfl) (ls' := [some (vr 79), some (vi x1), some (vi x2), some (vi (x3 + 0)), some (vi x4)]) rfl ?_
          refine G_aload_n (x := some (79)) X dX6_words_39 rfl rfl ?_
          refine G_iload_n (x := x1) X dX6_words_40 rfl rfl ?_
          refine G_iload (x := x4) X dX6_words_41 rfl ?_
          obtain ⟨v7, hk7, hf⟩ := obd hf
          refine G_callV (As := [vi x1, vi x4]) X (f6_behind_ok E I x1 x4 v7 hk7) cb_X6_49 vi_X6_behind (ci := 5) rfl rfl (show SH[79]? = some (_, 0) from rfl) rfl rfl (Nat.le_of_ble_eq_true rfl) (by decide) (by decide) rfl (Nat.le_refl _) (Nat.le_refl _) dX6_words_43 ?_
          show G E κ _ _ _ [some (vr 79), some (vi x1), some (vi x2), some (vi (x3 + 0)), some (vi x4)] [vi v7] (mm I)
          refine G_istore X dX6_words_46 (Nat.le_of_ble_eq_true rfl) (ls' := [some (vr 79), some (vi x1), some (vi x2), some (vi (x3 + 0)), some (vi v7)]) rfl ?_
          refine G_goto (tgt := 5) X dX6_words_48 (by decide) ?_
          exact ih I x1 x2 (x3 + 0) v7 _ hR hf
        · have hf := (if_pos hc6).symm.trans hf
          refine G_iconst (v := 1) X dX6_words_32 rfl ?_
          refine G_goto (tgt := 37) X dX6_words_33 (by decide) ?_
          refine G_iadd X dX6_words_37 ?_
          refine G_istore_n X dX6_words_38 rfl (Nat.le_of_ble_eq_true rfl) (ls' := [some (vr 79), some (vi x1), some (vi x2), some (vi (x3 + 1)), some (vi x4)]) rfl ?_
          refine G_aload_n (x := some (79)) X dX6_words_39 rfl rfl ?_
          refine G_iload_n (x := x1) X dX6_words_40 rfl rfl ?_
          refine G_iload (x := x4) X dX6_words_41 rfl ?_
          obtain ⟨v8, hk8, hf⟩ := obd hf
          refine G_callV (As := [vi x1, vi x4]) X (f6_behind_ok E I x1 x4 v8 hk8) cb_X6_49 vi_X6_behind (ci := 5) rfl rfl (show SH[79]? = some (_, 0) from rfl) rfl rfl (Nat.le_of_ble_eq_true rfl) (by decide) (by decide) rfl (Nat.le_refl _) (Nat.le_refl _) dX6_words_43 ?_
          show G E κ _ _ _ [some (vr 79), some (vi x1), some (vi x2), some (vi (x3 + 1)), some (vi x4)] [vi v8] (mm I)
          refine G_istore X dX6_words_46 (Nat.le_of_ble_eq_true rfl) (ls' := [some (vr 79), some (vi x1), some (vi x2), some (vi (x3 + 1)), some (vi v8)]) rfl ?_
          refine G_goto (tgt := 5) X dX6_words_48 (by decide) ?_
          exact ih I x1 x2 (x3 + 1) v8 _ hR hf

def f6_words (I : gI) (a0 : Int32) (a1 : Int32) : Option Int32 := f6_words_L5 FU I a0 a1 0 0
set_option maxRecDepth 100000 in
set_option maxHeartbeats 4000000 in
theorem f6_words_ok (E : gEnv) (I : gI) (a0 : Int32) (a1 : Int32) (r : Int32) (hf : f6_words I a0 a1 = some r) : Ctr E yX6_words cX6_words 5 (some .int) 4 0 0 [vr 79, vi a0, vi a1] (mm I) (some (vi r)) (mm I) := by
  refine Ctr.mk (by decide +kernel) (Nat.le_of_ble_eq_true rfl) fun κ X hR _ => ?_
  have X : Cx E κ cX6_words 5 RX6 (some .int) 4 0 0 := X
  show G E κ 0 0 0 [some (vr 79), some (vi a0), some (vi a1), none, none] [] (mm I)
  unfold f6_words at hf
  refine G_iconst (v := 0) X dX6_words_0 rfl ?_
  refine G_istore_n X dX6_words_1 rfl (Nat.le_of_ble_eq_true rfl) (ls' := [some (vr 79), some (vi a0), some (vi a1), some (vi 0), none]) rfl ?_
  refine G_iconst (v := 0) X dX6_words_2 rfl ?_
  refine G_istore X dX6_words_3 (Nat.le_of_ble_eq_true rfl) (ls' := [some (vr 79), some (vi a0), some (vi a1), some (vi 0), some (vi 0)]) rfl ?_
  exact f6_words_L5_ok X FU I a0 a1 0 0 _ hR hf

def f6_codeAt (I : gI) (a0 : Int32) (a1 : Int32) : Option Int32 := (f6_kind I a0 a1).bind fun v1 => (if v1 = 2 then (f6_group I a0 a1).bind fun v6 => some v6 else (if v1 = 0 then (f6_behind I a0 a1).bind fun v5 => some ((32768 + v5) - a1) else (f6_behind I a0 a1).bind fun v4 => some ((49152 + v4) - a1)))
set_option maxRecDepth 100000 in
set_option maxHeartbeats 4000000 in
theorem f6_codeAt_ok (E : gEnv) (I : gI) (a0 : Int32) (a1 : Int32) (r : Int32) (hf : f6_codeAt I a0 a1 = some r) : Ctr E yX6_codeAt cX6_codeAt 4 (some .int) 4 0 0 [vr 79, vi a0, vi a1] (mm I) (some (vi r)) (mm I) := by
  refine Ctr.mk (by decide +kernel) (Nat.le_of_ble_eq_true rfl) fun κ X hR _ => ?_
  have X : Cx E κ cX6_codeAt 4 RX6 (some .int) 4 0 0 := X
  show G E κ 0 0 0 [some (vr 79), some (vi a0), some (vi a1), none] [] (mm I)
  unfold f6_codeAt at hf
  refine G_aload_n (x := some (79)) X dX6_codeAt_0 rfl rfl ?_
  refine G_iload_n (x := a0) X dX6_codeAt_1 rfl rfl ?_
  refine G_iload_n (x := a1) X dX6_codeAt_2 rfl rfl ?_
  obtain ⟨v1, hk1, hf⟩ := obd hf
  refine G_callV (As := [vi a0, vi a1]) X (f6_kind_ok E I a0 a1 v1 hk1) cb_X6_42 vi_X6_kind (ci := 5) rfl rfl (show SH[79]? = some (_, 0) from rfl) rfl rfl (Nat.le_of_ble_eq_true rfl) (by decide) (by decide) rfl (Nat.le_refl _) (Nat.le_refl _) dX6_codeAt_3 ?_
  show G E κ _ _ _ [some (vr 79), some (vi a0), some (vi a1), none] [vi v1] (mm I)
  refine G_istore_n X dX6_codeAt_6 rfl (Nat.le_of_ble_eq_true rfl) (ls' := [some (vr 79), some (vi a0), some (vi a1), some (vi v1)]) rfl ?_
  refine G_iload_n (x := v1) X dX6_codeAt_7 rfl rfl ?_
  refine G_iconst (v := 2) X dX6_codeAt_8 rfl ?_
  refine G_icmp_ne (tgt := 21) X dX6_codeAt_9 (by decide) (fun hc2 => ?_) (fun hc2 => ?_)
  · have hf := (if_neg hc2).symm.trans hf
    refine G_iload_n (x := v1) X dX6_codeAt_21 rfl rfl ?_
    refine G_if_ne (tgt := 30) X dX6_codeAt_22 (by decide) (fun hc3 => ?_) (fun hc3 => ?_)
    · have hf := (if_neg hc3).symm.trans hf
      refine G_ldc (v := 49152) X kc_X6_53 dX6_codeAt_30 ?_
      refine G_aload_n (x := some (79)) X dX6_codeAt_32 rfl rfl ?_
      refine G_iload_n (x := a0) X dX6_codeAt_33 rfl rfl ?_
      refine G_iload_n (x := a1) X dX6_codeAt_34 rfl rfl ?_
      obtain ⟨v4, hk4, hf⟩ := obd hf
      refine G_callV (As := [vi a0, vi a1]) X (f6_behind_ok E I a0 a1 v4 hk4) cb_X6_49 vi_X6_behind (ci := 5) rfl rfl (show SH[79]? = some (_, 0) from rfl) rfl rfl (Nat.le_of_ble_eq_true rfl) (by decide) (by decide) rfl (Nat.le_refl _) (Nat.le_refl _) dX6_codeAt_35 ?_
      show G E κ _ _ _ [some (vr 79), some (vi a0), some (vi a1), some (vi v1)] [vi v4, vi 49152] (mm I)
      refine G_iadd X dX6_codeAt_38 ?_
      refine G_iload_n (x := a1) X dX6_codeAt_39 rfl rfl ?_
      refine G_isub X dX6_codeAt_40 ?_
      obtain rfl := Option.some.inj hf
      exact G_iret X hR rfl rfl dX6_codeAt_41
    · have hf := (if_pos hc3).symm.trans hf
      refine G_ldc (v := 32768) X kc_X6_52 dX6_codeAt_25 ?_
      refine G_goto (tgt := 32) X dX6_codeAt_27 (by decide) ?_
      refine G_aload_n (x := some (79)) X dX6_codeAt_32 rfl rfl ?_
      refine G_iload_n (x := a0) X dX6_codeAt_33 rfl rfl ?_
      refine G_iload_n (x := a1) X dX6_codeAt_34 rfl rfl ?_
      obtain ⟨v5, hk5, hf⟩ := obd hf
      refine G_callV (As := [vi a0, vi a1]) X (f6_behind_ok E I a0 a1 v5 hk5) cb_X6_49 vi_X6_behind (ci := 5) rfl rfl (show SH[79]? = some (_, 0) from rfl) rfl rfl (Nat.le_of_ble_eq_true rfl) (by decide) (by decide) rfl (Nat.le_refl _) (Nat.le_refl _) dX6_codeAt_35 ?_
      show G E κ _ _ _ [some (vr 79), some (vi a0), some (vi a1), some (vi v1)] [vi v5, vi 32768] (mm I)
      refine G_iadd X dX6_codeAt_38 ?_
      refine G_iload_n (x := a1) X dX6_codeAt_39 rfl rfl ?_
      refine G_isub X dX6_codeAt_40 ?_
      obtain rfl := Option.some.inj hf
      exact G_iret X hR rfl rfl dX6_codeAt_41
  · have hf := (if_pos hc2).symm.trans hf
    refine G_aload_n (x := some (79)) X dX6_codeAt_12 rfl rfl ?_
    refine G_iload_n (x := a0) X dX6_codeAt_13 rfl rfl ?_
    refine G_iload_n (x := a1) X dX6_codeAt_14 rfl rfl ?_
    obtain ⟨v6, hk6, hf⟩ := obd hf
    refine G_callV (As := [vi a0, vi a1]) X (f6_group_ok E I a0 a1 v6 hk6) cb_X6_39 vi_X6_group (ci := 5) rfl rfl (show SH[79]? = some (_, 0) from rfl) rfl rfl (Nat.le_of_ble_eq_true rfl) (by decide) (by decide) rfl (Nat.le_refl _) (Nat.le_refl _) dX6_codeAt_15 ?_
    show G E κ _ _ _ [some (vr 79), some (vi a0), some (vi a1), some (vi v1)] [vi v6] (mm I)
    refine G_goto (tgt := 41) X dX6_codeAt_18 (by decide) ?_
    obtain rfl := Option.some.inj hf
    exact G_iret X hR rfl rfl dX6_codeAt_41

def f6_result (a0 : Int32) (a1 : Int32) (a2 : Int32) : Int32 := (if a0 = 0 then a1 &&& a2 else (if a0 = 1 then a1 ||| a2 else (if a0 = 2 then a1 &&& (a2 ^^^ ((-1))) else a1 ^^^ a2)))
set_option maxRecDepth 100000 in
set_option maxHeartbeats 4000000 in
theorem f6_result_ok (E : gEnv) (I : gI) (a0 : Int32) (a1 : Int32) (a2 : Int32) (r : Int32) (hf : f6_result  a0 a1 a2 = r) : Ctr E yX6_result cX6_result 3 (some .int) 0 0 0 [vi a0, vi a1, vi a2] (mm I) (some (vi r)) (mm I) := by
  refine Ctr.mk (by decide +kernel) (Nat.le_of_ble_eq_true rfl) fun κ X hR _ => ?_
  have X : Cx E κ cX6_result 3 RX6 (some .int) 0 0 0 := X
  show G E κ 0 0 0 [some (vi a0), some (vi a1), some (vi a2)] [] (mm I)
  unfold f6_result at hf
  refine G_iload_n (x := a0) X dX6_result_0 rfl rfl ?_
  refine G_if_ne (tgt := 10) X dX6_result_1 (by decide) (fun hc1 => ?_) (fun hc1 => ?_)
  · have hf := (if_neg hc1).symm.trans hf
    refine G_iload_n (x := a0) X dX6_result_10 rfl rfl ?_
    refine G_iconst (v := 1) X dX6_result_11 rfl ?_
    refine G_icmp_ne (tgt := 21) X dX6_result_12 (by decide) (fun hc2 => ?_) (fun hc2 => ?_)
    · have hf := (if_neg hc2).symm.trans hf
      refine G_iload_n (x := a0) X dX6_result_21 rfl rfl ?_
      refine G_iconst (v := 2) X dX6_result_22 rfl ?_
      refine G_icmp_ne (tgt := 34) X dX6_result_23 (by decide) (fun hc3 => ?_) (fun hc3 => ?_)
      · have hf := (if_neg hc3).symm.trans hf
        refine G_iload_n (x := a1) X dX6_result_34 rfl rfl ?_
        refine G_iload_n (x := a2) X dX6_result_35 rfl rfl ?_
        refine G_ixor X dX6_result_36 ?_
        subst hf
        exact G_iret X hR rfl rfl dX6_result_37
      · have hf := (if_pos hc3).symm.trans hf
        refine G_iload_n (x := a1) X dX6_result_26 rfl rfl ?_
        refine G_iload_n (x := a2) X dX6_result_27 rfl rfl ?_
        refine G_iconst (v := (-1)) X dX6_result_28 rfl ?_
        refine G_ixor X dX6_result_29 ?_
        refine G_iand X dX6_result_30 ?_
        refine G_goto (tgt := 37) X dX6_result_31 (by decide) ?_
        subst hf
        exact G_iret X hR rfl rfl dX6_result_37
    · have hf := (if_pos hc2).symm.trans hf
      refine G_iload_n (x := a1) X dX6_result_15 rfl rfl ?_
      refine G_iload_n (x := a2) X dX6_result_16 rfl rfl ?_
      refine G_ior X dX6_result_17 ?_
      refine G_goto (tgt := 37) X dX6_result_18 (by decide) ?_
      subst hf
      exact G_iret X hR rfl rfl dX6_result_37
  · have hf := (if_pos hc1).symm.trans hf
    refine G_iload_n (x := a1) X dX6_result_4 rfl rfl ?_
    refine G_iload_n (x := a2) X dX6_result_5 rfl rfl ?_
    refine G_iand X dX6_result_6 ?_
    refine G_goto (tgt := 37) X dX6_result_7 (by decide) ?_
    subst hf
    exact G_iret X hR rfl rfl dX6_result_37

def f6_operateOn_L35 : Nat → gI → Int32 → Int32 → Int32 → Int32 → Int32 → Int32 → Option gI
  | 0, _, _, _, _, _, _, _ => none
  | k + 1, I, x1, x2, x3, x4, x5, x6 => (if x5 ≤ x6 then if ib (f6_asked 31) 48086 = true then (f6_copy (uI I 80 (f6_asked 31).toNatClampNeg x5) (f6_asked 31) x4).bind fun I7 => some I7 else none else (f6_bitOf I x2 x6).bind fun v8 => (f6_bitOf I x3 x6).bind fun v9 => (f6_put I (f6_asked 31) x6 (f6_result x1 v8 v9)).bind fun I10 => f6_operateOn_L35 k I10 x1 x2 x3 x4 x5 (x6 + 1))
set_option maxRecDepth 100000 in
set_option maxHeartbeats 4000000 in
theorem f6_operateOn_L35_ok {E : gEnv} {κ : gCtx} (X : Cx E κ cX6_operateOn 9 RX6 none 1 0 0) : ∀ (k : Nat) (I : gI) (x1 : Int32) (x2 : Int32) (x3 : Int32) (x4 : Int32) (x5 : Int32) (x6 : Int32) (I' : gI) (hR : gRt E κ 0 0 (none) (mm I')) (hf : f6_operateOn_L35 k I x1 x2 x3 x4 x5 x6 = some I'), G E κ 0 0 35 [some (vr 79), some (vi x1), some (vi x2), some (vi x3), some (vi x4), some (vi x5), some (vi x6), none, none] [] (mm I) := by
  intro k
  induction k with
  | zero =>
    intros
    rename_i hf
    cases hf
  | succ k ih =>
    intro I x1 x2 x3 x4 x5 x6 I' hR hf
    refine G_iload (x := x6) X dX6_operateOn_35 rfl ?_
    refine G_iload (x := x5) X dX6_operateOn_37 rfl ?_
    refine G_icmp_ge (tgt := 85) X dX6_operateOn_39 (by decide) (fun hc5 => ?_) (fun hc5 => ?_)
    · have hf := (if_pos hc5).symm.trans hf
      refine G_aload_n (x := some (79)) X dX6_operateOn_85 rfl rfl ?_
      refine M_getR X fd_X6_8 rfl (show SH[79]? = some (_, 0) from rfl) rfl dX6_operateOn_86 ?_
      refine G_bipush (v := 31) X dX6_operateOn_89 rfl ?_
      refine G_callS (As := [vi 31]) X (f6_asked_ok E I 31 _ rfl) cb_X6_54 st_X6_asked rfl rfl (Nat.le_of_ble_eq_true rfl) (by decide) (by decide) rfl (Nat.le_refl _) (Nat.le_refl _) dX6_operateOn_91 ?_
      show G E κ _ _ _ [some (vr 79), some (vi x1), some (vi x2), some (vi x3), some (vi x4), some (vi x5), some (vi x6), none, none] [vi (f6_asked 31), vr 80] (mm I)
      refine G_iload (x := x5) X dX6_operateOn_94 rfl ?_
      obtain ⟨hc6, hf⟩ := ock hf
      refine M_iast X (show SH[80]? = some (_, 48086) from rfl) hc6 dX6_operateOn_96 ?_
      refine G_aload_n (x := some (79)) X dX6_operateOn_97 rfl rfl ?_
      refine G_bipush (v := 31) X dX6_operateOn_98 rfl ?_
      refine G_callS (As := [vi 31]) X (f6_asked_ok E (uI I 80 (f6_asked 31).toNatClampNeg x5) 31 _ rfl) cb_X6_54 st_X6_asked rfl rfl (Nat.le_of_ble_eq_true rfl) (by decide) (by decide) rfl (Nat.le_refl _) (Nat.le_refl _) dX6_operateOn_100 ?_
      show G E κ _ _ _ [some (vr 79), some (vi x1), some (vi x2), some (vi x3), some (vi x4), some (vi x5), some (vi x6), none, none] [vi (f6_asked 31), vr 79] (mm (uI I 80 (f6_asked 31).toNatClampNeg x5))
      refine G_iload (x := x4) X dX6_operateOn_103 rfl ?_
      obtain ⟨I7, hk7, hf⟩ := obd hf
      refine G_callV (As := [vi (f6_asked 31), vi x4]) X (f6_copy_ok E (uI I 80 (f6_asked 31).toNatClampNeg x5) (f6_asked 31) x4 I7 hk7) cb_X6_65 vi_X6_copy (ci := 5) rfl rfl (show SH[79]? = some (_, 0) from rfl) rfl rfl (Nat.le_of_ble_eq_true rfl) (by decide) (by decide) rfl (Nat.le_refl _) (Nat.le_refl _) dX6_operateOn_105 ?_
      show G E κ _ _ _ [some (vr 79), some (vi x1), some (vi x2), some (vi x3), some (vi x4), some (vi x5), some (vi x6), none, none] [] (mm I7)
      obtain rfl := Option.some.inj hf
      exact G_vret X hR rfl dX6_operateOn_108
    · have hf := (if_neg hc5).symm.trans hf
      refine G_aload_n (x := some (79)) X dX6_operateOn_42 rfl rfl ?_
      refine G_iload_n (x := x2) X dX6_operateOn_43 rfl rfl ?_
      refine G_iload (x := x6) X dX6_operateOn_44 rfl ?_
      obtain ⟨v8, hk8, hf⟩ := obd hf
      refine G_callV (As := [vi x2, vi x6]) X (f6_bitOf_ok E I x2 x6 v8 hk8) cb_X6_35 vi_X6_bitOf (ci := 5) rfl rfl (show SH[79]? = some (_, 0) from rfl) rfl rfl (Nat.le_of_ble_eq_true rfl) (by decide) (by decide) rfl (Nat.le_refl _) (Nat.le_refl _) dX6_operateOn_46 ?_
      show G E κ _ _ _ [some (vr 79), some (vi x1), some (vi x2), some (vi x3), some (vi x4), some (vi x5), some (vi x6), none, none] [vi v8] (mm I)
      refine G_istore X dX6_operateOn_49 (Nat.le_of_ble_eq_true rfl) (ls' := [some (vr 79), some (vi x1), some (vi x2), some (vi x3), some (vi x4), some (vi x5), some (vi x6), some (vi v8), none]) rfl ?_
      refine G_aload_n (x := some (79)) X dX6_operateOn_51 rfl rfl ?_
      refine G_iload_n (x := x3) X dX6_operateOn_52 rfl rfl ?_
      refine G_iload (x := x6) X dX6_operateOn_53 rfl ?_
      obtain ⟨v9, hk9, hf⟩ := obd hf
      refine G_callV (As := [vi x3, vi x6]) X (f6_bitOf_ok E I x3 x6 v9 hk9) cb_X6_35 vi_X6_bitOf (ci := 5) rfl rfl (show SH[79]? = some (_, 0) from rfl) rfl rfl (Nat.le_of_ble_eq_true rfl) (by decide) (by decide) rfl (Nat.le_refl _) (Nat.le_refl _) dX6_operateOn_55 ?_
      show G E κ _ _ _ [some (vr 79), some (vi x1), some (vi x2), some (vi x3), some (vi x4), some (vi x5), some (vi x6), some (vi v8), none] [vi v9] (mm I)
      refine G_istore X dX6_operateOn_58 (Nat.le_of_ble_eq_true rfl) (ls' := [some (vr 79), some (vi x1), some (vi x2), some (vi x3), some (vi x4), some (vi x5), some (vi x6), some (vi v8), some (vi v9)]) rfl ?_
      refine G_aload_n (x := some (79)) X dX6_operateOn_60 rfl rfl ?_
      refine G_bipush (v := 31) X dX6_operateOn_61 rfl ?_
      refine G_callS (As := [vi 31]) X (f6_asked_ok E I 31 _ rfl) cb_X6_54 st_X6_asked rfl rfl (Nat.le_of_ble_eq_true rfl) (by decide) (by decide) rfl (Nat.le_refl _) (Nat.le_refl _) dX6_operateOn_63 ?_
      show G E κ _ _ _ [some (vr 79), some (vi x1), some (vi x2), some (vi x3), some (vi x4), some (vi x5), some (vi x6), some (vi v8), some (vi v9)] [vi (f6_asked 31), vr 79] (mm I)
      refine G_iload (x := x6) X dX6_operateOn_66 rfl ?_
      refine G_iload_n (x := x1) X dX6_operateOn_68 rfl rfl ?_
      refine G_iload (x := v8) X dX6_operateOn_69 rfl ?_
      refine G_iload (x := v9) X dX6_operateOn_71 rfl ?_
      refine G_callS (As := [vi x1, vi v8, vi v9]) X (f6_result_ok E I x1 v8 v9 _ rfl) cb_X6_57 st_X6_result rfl rfl (Nat.le_of_ble_eq_true rfl) (by decide) (by decide) rfl (Nat.le_refl _) (Nat.le_refl _) dX6_operateOn_73 ?_
      show G E κ _ _ _ [some (vr 79), some (vi x1), some (vi x2), some (vi x3), some (vi x4), some (vi x5), some (vi x6), some (vi v8), some (vi v9)] [vi (f6_result x1 v8 v9), vi x6, vi (f6_asked 31), vr 79] (mm I)
      obtain ⟨I10, hk10, hf⟩ := obd hf
      refine G_callV (As := [vi (f6_asked 31), vi x6, vi (f6_result x1 v8 v9)]) X (f6_put_ok E I (f6_asked 31) x6 (f6_result x1 v8 v9) I10 hk10) cb_X6_61 vi_X6_put (ci := 5) rfl rfl (show SH[79]? = some (_, 0) from rfl) rfl rfl (Nat.le_of_ble_eq_true rfl) (by decide) (by decide) rfl (Nat.le_refl _) (Nat.le_refl _) dX6_operateOn_76 ?_
      show G E κ _ _ _ [some (vr 79), some (vi x1), some (vi x2), some (vi x3), some (vi x4), some (vi x5), some (vi x6), some (vi v8), some (vi v9)] [] (mm I10)
      refine G_iinc (x := x6) (v := 1) X dX6_operateOn_79 rfl rfl (ls' := [some (vr 79), some (vi x1), some (vi x2), some (vi x3), some (vi x4), some (vi x5), some (vi (x6 + 1)), some (vi v8), some (vi v9)]) rfl ?_
      refine G_goto (tgt := 35) X dX6_operateOn_82 (by decide) ?_
      refine G_weakL (ls' := [some (vr 79), some (vi x1), some (vi x2), some (vi x3), some (vi x4), some (vi x5), some (vi (x6 + 1)), none, none]) ⟨Or.inr rfl, ⟨Or.inr rfl, ⟨Or.inr rfl, ⟨Or.inr rfl, ⟨Or.inr rfl, ⟨Or.inr rfl, ⟨Or.inr rfl, ⟨Or.inl rfl, ⟨Or.inl rfl, trivial⟩⟩⟩⟩⟩⟩⟩⟩⟩ ?_
      exact ih I10 x1 x2 x3 x4 x5 (x6 + 1) _ hR hf

def f6_operateOn (I : gI) (a0 : Int32) (a1 : Int32) (a2 : Int32) (a3 : Int32) : Option gI := if ib a1 48086 = true then if ib a2 48086 = true then (if (I 80 (a1.toNatClampNeg)) ≤ (I 80 (a2.toNatClampNeg)) then if ib a2 48086 = true then f6_operateOn_L35 FU I a0 a1 a2 a3 (I 80 (a2.toNatClampNeg)) 0 else none else if ib a1 48086 = true then f6_operateOn_L35 FU I a0 a1 a2 a3 (I 80 (a1.toNatClampNeg)) 0 else none) else none else none
set_option maxRecDepth 100000 in
set_option maxHeartbeats 4000000 in
theorem f6_operateOn_ok (E : gEnv) (I : gI) (a0 : Int32) (a1 : Int32) (a2 : Int32) (a3 : Int32) (I' : gI) (hf : f6_operateOn I a0 a1 a2 a3 = some I') : Ctr E yX6_operateOn cX6_operateOn 9 none 1 0 0 [vr 79, vi a0, vi a1, vi a2, vi a3] (mm I) (none) (mm I') := by
  refine Ctr.mk (by decide +kernel) (Nat.le_of_ble_eq_true rfl) fun κ X hR _ => ?_
  have X : Cx E κ cX6_operateOn 9 RX6 none 1 0 0 := X
  show G E κ 0 0 0 [some (vr 79), some (vi a0), some (vi a1), some (vi a2), some (vi a3), none, none, none, none] [] (mm I)
  unfold f6_operateOn at hf
  refine G_aload_n (x := some (79)) X dX6_operateOn_0 rfl rfl ?_
  refine M_getR X fd_X6_8 rfl (show SH[79]? = some (_, 0) from rfl) rfl dX6_operateOn_1 ?_
  refine G_iload_n (x := a1) X dX6_operateOn_4 rfl rfl ?_
  obtain ⟨hc1, hf⟩ := ock hf
  refine M_iald X (show SH[80]? = some (_, 48086) from rfl) hc1 dX6_operateOn_5 ?_
  refine G_aload_n (x := some (79)) X dX6_operateOn_6 rfl rfl ?_
  refine M_getR X fd_X6_8 rfl (show SH[79]? = some (_, 0) from rfl) rfl dX6_operateOn_7 ?_
  refine G_iload_n (x := a2) X dX6_operateOn_10 rfl rfl ?_
  obtain ⟨hc2, hf⟩ := ock hf
  refine M_iald X (show SH[80]? = some (_, 48086) from rfl) hc2 dX6_operateOn_11 ?_
  refine G_icmp_le (tgt := 24) X dX6_operateOn_12 (by decide) (fun hc3 => ?_) (fun hc3 => ?_)
  · have hf := (if_pos hc3).symm.trans hf
    refine G_aload_n (x := some (79)) X dX6_operateOn_24 rfl rfl ?_
    refine M_getR X fd_X6_8 rfl (show SH[79]? = some (_, 0) from rfl) rfl dX6_operateOn_25 ?_
    refine G_iload_n (x := a2) X dX6_operateOn_28 rfl rfl ?_
    obtain ⟨hc4, hf⟩ := ock hf
    refine M_iald X (show SH[80]? = some (_, 48086) from rfl) hc4 dX6_operateOn_29 ?_
    refine G_istore X dX6_operateOn_30 (Nat.le_of_ble_eq_true rfl) (ls' := [some (vr 79), some (vi a0), some (vi a1), some (vi a2), some (vi a3), some (vi (I 80 (a2.toNatClampNeg))), none, none, none]) rfl ?_
    refine G_iconst (v := 0) X dX6_operateOn_32 rfl ?_
    refine G_istore X dX6_operateOn_33 (Nat.le_of_ble_eq_true rfl) (ls' := [some (vr 79), some (vi a0), some (vi a1), some (vi a2), some (vi a3), some (vi (I 80 (a2.toNatClampNeg))), some (vi 0), none, none]) rfl ?_
    exact f6_operateOn_L35_ok X FU I a0 a1 a2 a3 (I 80 (a2.toNatClampNeg)) 0 _ hR hf
  · have hf := (if_neg hc3).symm.trans hf
    refine G_aload_n (x := some (79)) X dX6_operateOn_15 rfl rfl ?_
    refine M_getR X fd_X6_8 rfl (show SH[79]? = some (_, 0) from rfl) rfl dX6_operateOn_16 ?_
    refine G_iload_n (x := a1) X dX6_operateOn_19 rfl rfl ?_
    obtain ⟨hc11, hf⟩ := ock hf
    refine M_iald X (show SH[80]? = some (_, 48086) from rfl) hc11 dX6_operateOn_20 ?_
    refine G_goto (tgt := 30) X dX6_operateOn_21 (by decide) ?_
    refine G_istore X dX6_operateOn_30 (Nat.le_of_ble_eq_true rfl) (ls' := [some (vr 79), some (vi a0), some (vi a1), some (vi a2), some (vi a3), some (vi (I 80 (a1.toNatClampNeg))), none, none, none]) rfl ?_
    refine G_iconst (v := 0) X dX6_operateOn_32 rfl ?_
    refine G_istore X dX6_operateOn_33 (Nat.le_of_ble_eq_true rfl) (ls' := [some (vr 79), some (vi a0), some (vi a1), some (vi a2), some (vi a3), some (vi (I 80 (a1.toNatClampNeg))), some (vi 0), none, none]) rfl ?_
    exact f6_operateOn_L35_ok X FU I a0 a1 a2 a3 (I 80 (a1.toNatClampNeg)) 0 _ hR hf

def f6_turn_L2 : Nat → gI → Int32 → Int32 → Option gI
  | 0, _, _, _ => none
  | k + 1, I, x1, x2 => if ib x1 48086 = true then (if (I 80 (x1.toNatClampNeg)) ≤ x2 then some I else (f6_bitOf I x1 x2).bind fun v3 => (f6_put I x1 x2 (1 - v3)).bind fun I4 => f6_turn_L2 k I4 x1 (x2 + 1)) else none
set_option maxRecDepth 100000 in
set_option maxHeartbeats 4000000 in
theorem f6_turn_L2_ok {E : gEnv} {κ : gCtx} (X : Cx E κ cX6_turn 3 RX6 none 1 0 0) : ∀ (k : Nat) (I : gI) (x1 : Int32) (x2 : Int32) (I' : gI) (hR : gRt E κ 0 0 (none) (mm I')) (hf : f6_turn_L2 k I x1 x2 = some I'), G E κ 0 0 2 [some (vr 79), some (vi x1), some (vi x2)] [] (mm I) := by
  intro k
  induction k with
  | zero =>
    intros
    rename_i hf
    cases hf
  | succ k ih =>
    intro I x1 x2 I' hR hf
    refine G_iload_n (x := x2) X dX6_turn_2 rfl rfl ?_
    refine G_aload_n (x := some (79)) X dX6_turn_3 rfl rfl ?_
    refine M_getR X fd_X6_8 rfl (show SH[79]? = some (_, 0) from rfl) rfl dX6_turn_4 ?_
    refine G_iload_n (x := x1) X dX6_turn_7 rfl rfl ?_
    obtain ⟨hc1, hf⟩ := ock hf
    refine M_iald X (show SH[80]? = some (_, 48086) from rfl) hc1 dX6_turn_8 ?_
    refine G_icmp_ge (tgt := 32) X dX6_turn_9 (by decide) (fun hc2 => ?_) (fun hc2 => ?_)
    · have hf := (if_pos hc2).symm.trans hf
      obtain rfl := Option.some.inj hf
      exact G_vret X hR rfl dX6_turn_32
    · have hf := (if_neg hc2).symm.trans hf
      refine G_aload_n (x := some (79)) X dX6_turn_12 rfl rfl ?_
      refine G_iload_n (x := x1) X dX6_turn_13 rfl rfl ?_
      refine G_iload_n (x := x2) X dX6_turn_14 rfl rfl ?_
      refine G_iconst (v := 1) X dX6_turn_15 rfl ?_
      refine G_aload_n (x := some (79)) X dX6_turn_16 rfl rfl ?_
      refine G_iload_n (x := x1) X dX6_turn_17 rfl rfl ?_
      refine G_iload_n (x := x2) X dX6_turn_18 rfl rfl ?_
      obtain ⟨v3, hk3, hf⟩ := obd hf
      refine G_callV (As := [vi x1, vi x2]) X (f6_bitOf_ok E I x1 x2 v3 hk3) cb_X6_35 vi_X6_bitOf (ci := 5) rfl rfl (show SH[79]? = some (_, 0) from rfl) rfl rfl (Nat.le_of_ble_eq_true rfl) (by decide) (by decide) rfl (Nat.le_refl _) (Nat.le_refl _) dX6_turn_19 ?_
      show G E κ _ _ _ [some (vr 79), some (vi x1), some (vi x2)] [vi v3, vi 1, vi x2, vi x1, vr 79] (mm I)
      refine G_isub X dX6_turn_22 ?_
      obtain ⟨I4, hk4, hf⟩ := obd hf
      refine G_callV (As := [vi x1, vi x2, vi (1 - v3)]) X (f6_put_ok E I x1 x2 (1 - v3) I4 hk4) cb_X6_61 vi_X6_put (ci := 5) rfl rfl (show SH[79]? = some (_, 0) from rfl) rfl rfl (Nat.le_of_ble_eq_true rfl) (by decide) (by decide) rfl (Nat.le_refl _) (Nat.le_refl _) dX6_turn_23 ?_
      show G E κ _ _ _ [some (vr 79), some (vi x1), some (vi x2)] [] (mm I4)
      refine G_iinc (x := x2) (v := 1) X dX6_turn_26 rfl rfl (ls' := [some (vr 79), some (vi x1), some (vi (x2 + 1))]) rfl ?_
      refine G_goto (tgt := 2) X dX6_turn_29 (by decide) ?_
      exact ih I4 x1 (x2 + 1) _ hR hf

def f6_turn (I : gI) (a0 : Int32) : Option gI := f6_turn_L2 FU I a0 0
set_option maxRecDepth 100000 in
set_option maxHeartbeats 4000000 in
theorem f6_turn_ok (E : gEnv) (I : gI) (a0 : Int32) (I' : gI) (hf : f6_turn I a0 = some I') : Ctr E yX6_turn cX6_turn 3 none 1 0 0 [vr 79, vi a0] (mm I) (none) (mm I') := by
  refine Ctr.mk (by decide +kernel) (Nat.le_of_ble_eq_true rfl) fun κ X hR _ => ?_
  have X : Cx E κ cX6_turn 3 RX6 none 1 0 0 := X
  show G E κ 0 0 0 [some (vr 79), some (vi a0), none] [] (mm I)
  unfold f6_turn at hf
  refine G_iconst (v := 0) X dX6_turn_0 rfl ?_
  refine G_istore_n X dX6_turn_1 rfl (Nat.le_of_ble_eq_true rfl) (ls' := [some (vr 79), some (vi a0), some (vi 0)]) rfl ?_
  exact f6_turn_L2_ok X FU I a0 0 _ hR hf

def f6_shiftOn_L35 : Nat → gI → Int32 → Int32 → Int32 → Int32 → Option gI
  | 0, _, _, _, _, _ => none
  | k + 1, I, x1, x2, x3, x4 => (if x3 ≤ x4 then if ib (f6_asked 31) 48086 = true then (f6_copy (uI I 80 (f6_asked 31).toNatClampNeg x3) (f6_asked 31) x1).bind fun I6 => some I6 else none else (if x2 ≤ x4 then (f6_bitOf I x1 (x4 - x2)).bind fun v8 => (f6_put I (f6_asked 31) x4 v8).bind fun I9 => f6_shiftOn_L35 k I9 x1 x2 x3 (x4 + 1) else (f6_put I (f6_asked 31) x4 0).bind fun I10 => f6_shiftOn_L35 k I10 x1 x2 x3 (x4 + 1)))
set_option maxRecDepth 100000 in
set_option maxHeartbeats 4000000 in
theorem f6_shiftOn_L35_ok {E : gEnv} {κ : gCtx} (X : Cx E κ cX6_shiftOn 5 RX6 none 1 0 0) : ∀ (k : Nat) (I : gI) (x1 : Int32) (x2 : Int32) (x3 : Int32) (x4 : Int32) (I' : gI) (hR : gRt E κ 0 0 (none) (mm I')) (hf : f6_shiftOn_L35 k I x1 x2 x3 x4 = some I'), G E κ 0 0 35 [some (vr 79), some (vi x1), some (vi x2), some (vi x3), some (vi x4)] [] (mm I) := by
  intro k
  induction k with
  | zero =>
    intros
    rename_i hf
    cases hf
  | succ k ih =>
    intro I x1 x2 x3 x4 I' hR hf
    refine G_iload (x := x4) X dX6_shiftOn_35 rfl ?_
    refine G_iload_n (x := x3) X dX6_shiftOn_37 rfl rfl ?_
    refine G_icmp_ge (tgt := 77) X dX6_shiftOn_38 (by decide) (fun hc4 => ?_) (fun hc4 => ?_)
    · have hf := (if_pos hc4).symm.trans hf
      refine G_aload_n (x := some (79)) X dX6_shiftOn_77 rfl rfl ?_
      refine M_getR X fd_X6_8 rfl (show SH[79]? = some (_, 0) from rfl) rfl dX6_shiftOn_78 ?_
      refine G_bipush (v := 31) X dX6_shiftOn_81 rfl ?_
      refine G_callS (As := [vi 31]) X (f6_asked_ok E I 31 _ rfl) cb_X6_54 st_X6_asked rfl rfl (Nat.le_of_ble_eq_true rfl) (by decide) (by decide) rfl (Nat.le_refl _) (Nat.le_refl _) dX6_shiftOn_83 ?_
      show G E κ _ _ _ [some (vr 79), some (vi x1), some (vi x2), some (vi x3), some (vi x4)] [vi (f6_asked 31), vr 80] (mm I)
      refine G_iload_n (x := x3) X dX6_shiftOn_86 rfl rfl ?_
      obtain ⟨hc5, hf⟩ := ock hf
      refine M_iast X (show SH[80]? = some (_, 48086) from rfl) hc5 dX6_shiftOn_87 ?_
      refine G_aload_n (x := some (79)) X dX6_shiftOn_88 rfl rfl ?_
      refine G_bipush (v := 31) X dX6_shiftOn_89 rfl ?_
      refine G_callS (As := [vi 31]) X (f6_asked_ok E (uI I 80 (f6_asked 31).toNatClampNeg x3) 31 _ rfl) cb_X6_54 st_X6_asked rfl rfl (Nat.le_of_ble_eq_true rfl) (by decide) (by decide) rfl (Nat.le_refl _) (Nat.le_refl _) dX6_shiftOn_91 ?_
      show G E κ _ _ _ [some (vr 79), some (vi x1), some (vi x2), some (vi x3), some (vi x4)] [vi (f6_asked 31), vr 79] (mm (uI I 80 (f6_asked 31).toNatClampNeg x3))
      refine G_iload_n (x := x1) X dX6_shiftOn_94 rfl rfl ?_
      obtain ⟨I6, hk6, hf⟩ := obd hf
      refine G_callV (As := [vi (f6_asked 31), vi x1]) X (f6_copy_ok E (uI I 80 (f6_asked 31).toNatClampNeg x3) (f6_asked 31) x1 I6 hk6) cb_X6_65 vi_X6_copy (ci := 5) rfl rfl (show SH[79]? = some (_, 0) from rfl) rfl rfl (Nat.le_of_ble_eq_true rfl) (by decide) (by decide) rfl (Nat.le_refl _) (Nat.le_refl _) dX6_shiftOn_95 ?_
      show G E κ _ _ _ [some (vr 79), some (vi x1), some (vi x2), some (vi x3), some (vi x4)] [] (mm I6)
      obtain rfl := Option.some.inj hf
      exact G_vret X hR rfl dX6_shiftOn_98
    · have hf := (if_neg hc4).symm.trans hf
      refine G_aload_n (x := some (79)) X dX6_shiftOn_41 rfl rfl ?_
      refine G_bipush (v := 31) X dX6_shiftOn_42 rfl ?_
      refine G_callS (As := [vi 31]) X (f6_asked_ok E I 31 _ rfl) cb_X6_54 st_X6_asked rfl rfl (Nat.le_of_ble_eq_true rfl) (by decide) (by decide) rfl (Nat.le_refl _) (Nat.le_refl _) dX6_shiftOn_44 ?_
      show G E κ _ _ _ [some (vr 79), some (vi x1), some (vi x2), some (vi x3), some (vi x4)] [vi (f6_asked 31), vr 79] (mm I)
      refine G_iload (x := x4) X dX6_shiftOn_47 rfl ?_
      refine G_iload (x := x4) X dX6_shiftOn_49 rfl ?_
      refine G_iload_n (x := x2) X dX6_shiftOn_51 rfl rfl ?_
      refine G_icmp_ge (tgt := 59) X dX6_shiftOn_52 (by decide) (fun hc7 => ?_) (fun hc7 => ?_)
      · have hf := (if_pos hc7).symm.trans hf
        refine G_aload_n (x := some (79)) X dX6_shiftOn_59 rfl rfl ?_
        refine G_iload_n (x := x1) X dX6_shiftOn_60 rfl rfl ?_
        refine G_iload (x := x4) X dX6_shiftOn_61 rfl ?_
        refine G_iload_n (x := x2) X dX6_shiftOn_63 rfl rfl ?_
        refine G_isub X dX6_shiftOn_64 ?_
        obtain ⟨v8, hk8, hf⟩ := obd hf
        refine G_callV (As := [vi x1, vi (x4 - x2)]) X (f6_bitOf_ok E I x1 (x4 - x2) v8 hk8) cb_X6_35 vi_X6_bitOf (ci := 5) rfl rfl (show SH[79]? = some (_, 0) from rfl) rfl rfl (Nat.le_of_ble_eq_true rfl) (by decide) (by decide) rfl (Nat.le_refl _) (Nat.le_refl _) dX6_shiftOn_65 ?_
        show G E κ _ _ _ [some (vr 79), some (vi x1), some (vi x2), some (vi x3), some (vi x4)] [vi v8, vi x4, vi (f6_asked 31), vr 79] (mm I)
        obtain ⟨I9, hk9, hf⟩ := obd hf
        refine G_callV (As := [vi (f6_asked 31), vi x4, vi v8]) X (f6_put_ok E I (f6_asked 31) x4 v8 I9 hk9) cb_X6_61 vi_X6_put (ci := 5) rfl rfl (show SH[79]? = some (_, 0) from rfl) rfl rfl (Nat.le_of_ble_eq_true rfl) (by decide) (by decide) rfl (Nat.le_refl _) (Nat.le_refl _) dX6_shiftOn_68 ?_
        show G E κ _ _ _ [some (vr 79), some (vi x1), some (vi x2), some (vi x3), some (vi x4)] [] (mm I9)
        refine G_iinc (x := x4) (v := 1) X dX6_shiftOn_71 rfl rfl (ls' := [some (vr 79), some (vi x1), some (vi x2), some (vi x3), some (vi (x4 + 1))]) rfl ?_
        refine G_goto (tgt := 35) X dX6_shiftOn_74 (by decide) ?_
        exact ih I9 x1 x2 x3 (x4 + 1) _ hR hf
      · have hf := (if_neg hc7).symm.trans hf
        refine G_iconst (v := 0) X dX6_shiftOn_55 rfl ?_
        refine G_goto (tgt := 68) X dX6_shiftOn_56 (by decide) ?_
        obtain ⟨I10, hk10, hf⟩ := obd hf
        refine G_callV (As := [vi (f6_asked 31), vi x4, vi 0]) X (f6_put_ok E I (f6_asked 31) x4 0 I10 hk10) cb_X6_61 vi_X6_put (ci := 5) rfl rfl (show SH[79]? = some (_, 0) from rfl) rfl rfl (Nat.le_of_ble_eq_true rfl) (by decide) (by decide) rfl (Nat.le_refl _) (Nat.le_refl _) dX6_shiftOn_68 ?_
        show G E κ _ _ _ [some (vr 79), some (vi x1), some (vi x2), some (vi x3), some (vi x4)] [] (mm I10)
        refine G_iinc (x := x4) (v := 1) X dX6_shiftOn_71 rfl rfl (ls' := [some (vr 79), some (vi x1), some (vi x2), some (vi x3), some (vi (x4 + 1))]) rfl ?_
        refine G_goto (tgt := 35) X dX6_shiftOn_74 (by decide) ?_
        exact ih I10 x1 x2 x3 (x4 + 1) _ hR hf

def f6_shiftOn (I : gI) (a0 : Int32) (a1 : Int32) : Option gI := if ib a0 48086 = true then (if 0 ≤ ((I 80 (a0.toNatClampNeg)) + a1) then (if ((I 80 (a0.toNatClampNeg)) + a1) ≤ 600 then f6_shiftOn_L35 FU I a0 a1 ((I 80 (a0.toNatClampNeg)) + a1) 0 else f6_shiftOn_L35 FU I a0 a1 600 0) else f6_shiftOn_L35 FU I a0 a1 0 0) else none
set_option maxRecDepth 100000 in
set_option maxHeartbeats 4000000 in
theorem f6_shiftOn_ok (E : gEnv) (I : gI) (a0 : Int32) (a1 : Int32) (I' : gI) (hf : f6_shiftOn I a0 a1 = some I') : Ctr E yX6_shiftOn cX6_shiftOn 5 none 1 0 0 [vr 79, vi a0, vi a1] (mm I) (none) (mm I') := by
  refine Ctr.mk (by decide +kernel) (Nat.le_of_ble_eq_true rfl) fun κ X hR _ => ?_
  have X : Cx E κ cX6_shiftOn 5 RX6 none 1 0 0 := X
  show G E κ 0 0 0 [some (vr 79), some (vi a0), some (vi a1), none, none] [] (mm I)
  unfold f6_shiftOn at hf
  refine G_aload_n (x := some (79)) X dX6_shiftOn_0 rfl rfl ?_
  refine M_getR X fd_X6_8 rfl (show SH[79]? = some (_, 0) from rfl) rfl dX6_shiftOn_1 ?_
  refine G_iload_n (x := a0) X dX6_shiftOn_4 rfl rfl ?_
  obtain ⟨hc1, hf⟩ := ock hf
  refine M_iald X (show SH[80]? = some (_, 48086) from rfl) hc1 dX6_shiftOn_5 ?_
  refine G_iload_n (x := a1) X dX6_shiftOn_6 rfl rfl ?_
  refine G_iadd X dX6_shiftOn_7 ?_
  refine G_istore_n X dX6_shiftOn_8 rfl (Nat.le_of_ble_eq_true rfl) (ls' := [some (vr 79), some (vi a0), some (vi a1), some (vi ((I 80 (a0.toNatClampNeg)) + a1)), none]) rfl ?_
  refine G_iload_n (x := (I 80 (a0.toNatClampNeg)) + a1) X dX6_shiftOn_9 rfl rfl ?_
  refine G_if_ge (tgt := 17) X dX6_shiftOn_10 (by decide) (fun hc2 => ?_) (fun hc2 => ?_)
  · have hf := (if_pos hc2).symm.trans hf
    refine G_iload_n (x := (I 80 (a0.toNatClampNeg)) + a1) X dX6_shiftOn_17 rfl rfl ?_
    refine G_sipush (v := 600) X dX6_shiftOn_18 rfl ?_
    refine G_icmp_le (tgt := 30) X dX6_shiftOn_21 (by decide) (fun hc3 => ?_) (fun hc3 => ?_)
    · have hf := (if_pos hc3).symm.trans hf
      refine G_iload_n (x := (I 80 (a0.toNatClampNeg)) + a1) X dX6_shiftOn_30 rfl rfl ?_
      refine G_istore_n X dX6_shiftOn_31 rfl (Nat.le_of_ble_eq_true rfl) (ls' := [some (vr 79), some (vi a0), some (vi a1), some (vi ((I 80 (a0.toNatClampNeg)) + a1)), none]) rfl ?_
      refine G_iconst (v := 0) X dX6_shiftOn_32 rfl ?_
      refine G_istore X dX6_shiftOn_33 (Nat.le_of_ble_eq_true rfl) (ls' := [some (vr 79), some (vi a0), some (vi a1), some (vi ((I 80 (a0.toNatClampNeg)) + a1)), some (vi 0)]) rfl ?_
      exact f6_shiftOn_L35_ok X FU I a0 a1 ((I 80 (a0.toNatClampNeg)) + a1) 0 _ hR hf
    · have hf := (if_neg hc3).symm.trans hf
      refine G_sipush (v := 600) X dX6_shiftOn_24 rfl ?_
      refine G_goto (tgt := 31) X dX6_shiftOn_27 (by decide) ?_
      refine G_istore_n X dX6_shiftOn_31 rfl (Nat.le_of_ble_eq_true rfl) (ls' := [some (vr 79), some (vi a0), some (vi a1), some (vi 600), none]) rfl ?_
      refine G_iconst (v := 0) X dX6_shiftOn_32 rfl ?_
      refine G_istore X dX6_shiftOn_33 (Nat.le_of_ble_eq_true rfl) (ls' := [some (vr 79), some (vi a0), some (vi a1), some (vi 600), some (vi 0)]) rfl ?_
      exact f6_shiftOn_L35_ok X FU I a0 a1 600 0 _ hR hf
  · have hf := (if_neg hc2).symm.trans hf
    refine G_iconst (v := 0) X dX6_shiftOn_13 rfl ?_
    refine G_goto (tgt := 31) X dX6_shiftOn_14 (by decide) ?_
    refine G_istore_n X dX6_shiftOn_31 rfl (Nat.le_of_ble_eq_true rfl) (ls' := [some (vr 79), some (vi a0), some (vi a1), some (vi 0), none]) rfl ?_
    refine G_iconst (v := 0) X dX6_shiftOn_32 rfl ?_
    refine G_istore X dX6_shiftOn_33 (Nat.le_of_ble_eq_true rfl) (ls' := [some (vr 79), some (vi a0), some (vi a1), some (vi 0), some (vi 0)]) rfl ?_
    exact f6_shiftOn_L35_ok X FU I a0 a1 0 0 _ hR hf

def f6_workOf_L92 : Nat → gI → Int32 → Int32 → Option (Int32 × gI)
  | 0, _, _, _ => none
  | k + 1, I, x3, x4 => (if 41 ≤ x4 then some (x3, I) else if ib x4 41 = true then f6_workOf_L92 k I (x3 + (I 82 (x4.toNatClampNeg))) (x4 + 1) else none)
set_option maxRecDepth 100000 in
set_option maxHeartbeats 4000000 in
theorem f6_workOf_L92_ok {E : gEnv} {κ : gCtx} (X : Cx E κ cX6_workOf 5 RX6 (some .int) 4 0 0) : ∀ (k : Nat) (I : gI) (x3 : Int32) (x4 : Int32) (r : Int32) (I' : gI) (hR : gRt E κ 0 0 (some (vi r)) (mm I')) (hf : f6_workOf_L92 k I x3 x4 = some (r, I')), G E κ 0 0 92 [some (vr 79), none, none, some (vi x3), some (vi x4)] [] (mm I) := by
  intro k
  induction k with
  | zero =>
    intros
    rename_i hf
    cases hf
  | succ k ih =>
    intro I x3 x4 r I' hR hf
    refine G_iload (x := x4) X dX6_workOf_92 rfl ?_
    refine G_bipush (v := 41) X dX6_workOf_94 rfl ?_
    refine G_icmp_ge (tgt := 115) X dX6_workOf_96 (by decide) (fun hc6 => ?_) (fun hc6 => ?_)
    · have hf := (if_pos hc6).symm.trans hf
      refine G_iload_n (x := x3) X dX6_workOf_115 rfl rfl ?_
      obtain ⟨rfl, rfl⟩ := Prod.mk.inj (Option.some.inj hf)
      exact G_iret X hR rfl rfl dX6_workOf_116
    · have hf := (if_neg hc6).symm.trans hf
      refine G_iload_n (x := x3) X dX6_workOf_99 rfl rfl ?_
      refine G_aload_n (x := some (79)) X dX6_workOf_100 rfl rfl ?_
      refine M_getR X fd_X6_17 rfl (show SH[79]? = some (_, 0) from rfl) rfl dX6_workOf_101 ?_
      refine G_iload (x := x4) X dX6_workOf_104 rfl ?_
      obtain ⟨hc7, hf⟩ := ock hf
      refine M_iald X (show SH[82]? = some (_, 41) from rfl) hc7 dX6_workOf_106 ?_
      refine G_iadd X dX6_workOf_107 ?_
      refine G_istore_n X dX6_workOf_108 rfl (Nat.le_of_ble_eq_true rfl) (ls' := [some (vr 79), none, none, some (vi (x3 + (I 82 (x4.toNatClampNeg)))), some (vi x4)]) rfl ?_
      refine G_iinc (x := x4) (v := 1) X dX6_workOf_109 rfl rfl (ls' := [some (vr 79), none, none, some (vi (x3 + (I 82 (x4.toNatClampNeg)))), some (vi (x4 + 1))]) rfl ?_
      refine G_goto (tgt := 92) X dX6_workOf_112 (by decide) ?_
      exact ih I (x3 + (I 82 (x4.toNatClampNeg))) (x4 + 1) _ _ hR hf

def f6_workOf_L56 : Nat → gI → Int32 → Int32 → Option (Int32 × gI)
  | 0, _, _, _ => none
  | k + 1, I, x2, x3 => (f6_groups I x2).bind fun v4 => (if v4 ≤ x3 then f6_workOf_L92 FU I 0 0 else (f6_behind I x2 x3).bind fun v8 => if ib v8 41 = true then (f6_behind (uI I 82 v8.toNatClampNeg 1) x2 x3).bind fun v10 => f6_workOf_L56 k (uI I 82 v8.toNatClampNeg 1) x2 v10 else none)
set_option maxRecDepth 100000 in
set_option maxHeartbeats 4000000 in
theorem f6_workOf_L56_ok {E : gEnv} {κ : gCtx} (X : Cx E κ cX6_workOf 5 RX6 (some .int) 4 0 0) : ∀ (k : Nat) (I : gI) (x2 : Int32) (x3 : Int32) (r : Int32) (I' : gI) (hR : gRt E κ 0 0 (some (vi r)) (mm I')) (hf : f6_workOf_L56 k I x2 x3 = some (r, I')), G E κ 0 0 56 [some (vr 79), none, some (vi x2), some (vi x3), none] [] (mm I) := by
  intro k
  induction k with
  | zero =>
    intros
    rename_i hf
    cases hf
  | succ k ih =>
    intro I x2 x3 r I' hR hf
    refine G_iload_n (x := x3) X dX6_workOf_56 rfl rfl ?_
    refine G_aload_n (x := some (79)) X dX6_workOf_57 rfl rfl ?_
    refine G_iload_n (x := x2) X dX6_workOf_58 rfl rfl ?_
    obtain ⟨v4, hk4, hf⟩ := obd hf
    refine G_callV (As := [vi x2]) X (f6_groups_ok E I x2 v4 hk4) cb_X6_45 vi_X6_groups (ci := 5) rfl rfl (show SH[79]? = some (_, 0) from rfl) rfl rfl (Nat.le_of_ble_eq_true rfl) (by decide) (by decide) rfl (Nat.le_refl _) (Nat.le_refl _) dX6_workOf_59 ?_
    show G E κ _ _ _ [some (vr 79), none, some (vi x2), some (vi x3), none] [vi v4, vi x3] (mm I)
    refine G_icmp_ge (tgt := 87) X dX6_workOf_62 (by decide) (fun hc5 => ?_) (fun hc5 => ?_)
    · have hf := (if_pos hc5).symm.trans hf
      refine G_iconst (v := 0) X dX6_workOf_87 rfl ?_
      refine G_istore_n X dX6_workOf_88 rfl (Nat.le_of_ble_eq_true rfl) (ls' := [some (vr 79), none, some (vi x2), some (vi 0), none]) rfl ?_
      refine G_iconst (v := 0) X dX6_workOf_89 rfl ?_
      refine G_istore X dX6_workOf_90 (Nat.le_of_ble_eq_true rfl) (ls' := [some (vr 79), none, some (vi x2), some (vi 0), some (vi 0)]) rfl ?_
      refine G_weakL (ls' := [some (vr 79), none, none, some (vi 0), some (vi 0)]) ⟨Or.inr rfl, ⟨Or.inl rfl, ⟨Or.inl rfl, ⟨Or.inr rfl, ⟨Or.inr rfl, trivial⟩⟩⟩⟩⟩ ?_
      exact f6_workOf_L92_ok X FU I 0 0 _ _ hR hf
    · have hf := (if_neg hc5).symm.trans hf
      refine G_aload_n (x := some (79)) X dX6_workOf_65 rfl rfl ?_
      refine M_getR X fd_X6_17 rfl (show SH[79]? = some (_, 0) from rfl) rfl dX6_workOf_66 ?_
      refine G_aload_n (x := some (79)) X dX6_workOf_69 rfl rfl ?_
      refine G_iload_n (x := x2) X dX6_workOf_70 rfl rfl ?_
      refine G_iload_n (x := x3) X dX6_workOf_71 rfl rfl ?_
      obtain ⟨v8, hk8, hf⟩ := obd hf
      refine G_callV (As := [vi x2, vi x3]) X (f6_behind_ok E I x2 x3 v8 hk8) cb_X6_49 vi_X6_behind (ci := 5) rfl rfl (show SH[79]? = some (_, 0) from rfl) rfl rfl (Nat.le_of_ble_eq_true rfl) (by decide) (by decide) rfl (Nat.le_refl _) (Nat.le_refl _) dX6_workOf_72 ?_
      show G E κ _ _ _ [some (vr 79), none, some (vi x2), some (vi x3), none] [vi v8, vr 82] (mm I)
      refine G_iconst (v := 1) X dX6_workOf_75 rfl ?_
      obtain ⟨hc9, hf⟩ := ock hf
      refine M_iast X (show SH[82]? = some (_, 41) from rfl) hc9 dX6_workOf_76 ?_
      refine G_aload_n (x := some (79)) X dX6_workOf_77 rfl rfl ?_
      refine G_iload_n (x := x2) X dX6_workOf_78 rfl rfl ?_
      refine G_iload_n (x := x3) X dX6_workOf_79 rfl rfl ?_
      obtain ⟨v10, hk10, hf⟩ := obd hf
      refine G_callV (As := [vi x2, vi x3]) X (f6_behind_ok E (uI I 82 v8.toNatClampNeg 1) x2 x3 v10 hk10) cb_X6_49 vi_X6_behind (ci := 5) rfl rfl (show SH[79]? = some (_, 0) from rfl) rfl rfl (Nat.le_of_ble_eq_true rfl) (by decide) (by decide) rfl (Nat.le_refl _) (Nat.le_refl _) dX6_workOf_80 ?_
      show G E κ _ _ _ [some (vr 79), none, some (vi x2), some (vi x3), none] [vi v10] (mm (uI I 82 v8.toNatClampNeg 1))
      refine G_istore_n X dX6_workOf_83 rfl (Nat.le_of_ble_eq_true rfl) (ls' := [some (vr 79), none, some (vi x2), some (vi v10), none]) rfl ?_
      refine G_goto (tgt := 56) X dX6_workOf_84 (by decide) ?_
      exact ih (uI I 82 v8.toNatClampNeg 1) x2 v10 _ _ hR hf

def f6_workOf_L23 : Nat → gI → Int32 → Int32 → Int32 → Option (Int32 × gI)
  | 0, _, _, _, _ => none
  | k + 1, I, x1, x2, x3 => (f6_groups I x1).bind fun v2 => (if v2 ≤ x3 then f6_workOf_L56 FU I x2 0 else (f6_behind I x1 x3).bind fun v11 => if ib v11 41 = true then (f6_behind (uI I 82 v11.toNatClampNeg 1) x1 x3).bind fun v13 => f6_workOf_L23 k (uI I 82 v11.toNatClampNeg 1) x1 x2 v13 else none)
set_option maxRecDepth 100000 in
set_option maxHeartbeats 4000000 in
theorem f6_workOf_L23_ok {E : gEnv} {κ : gCtx} (X : Cx E κ cX6_workOf 5 RX6 (some .int) 4 0 0) : ∀ (k : Nat) (I : gI) (x1 : Int32) (x2 : Int32) (x3 : Int32) (r : Int32) (I' : gI) (hR : gRt E κ 0 0 (some (vi r)) (mm I')) (hf : f6_workOf_L23 k I x1 x2 x3 = some (r, I')), G E κ 0 0 23 [some (vr 79), some (vi x1), some (vi x2), some (vi x3), none] [] (mm I) := by
  intro k
  induction k with
  | zero =>
    intros
    rename_i hf
    cases hf
  | succ k ih =>
    intro I x1 x2 x3 r I' hR hf
    refine G_iload_n (x := x3) X dX6_workOf_23 rfl rfl ?_
    refine G_aload_n (x := some (79)) X dX6_workOf_24 rfl rfl ?_
    refine G_iload_n (x := x1) X dX6_workOf_25 rfl rfl ?_
    obtain ⟨v2, hk2, hf⟩ := obd hf
    refine G_callV (As := [vi x1]) X (f6_groups_ok E I x1 v2 hk2) cb_X6_45 vi_X6_groups (ci := 5) rfl rfl (show SH[79]? = some (_, 0) from rfl) rfl rfl (Nat.le_of_ble_eq_true rfl) (by decide) (by decide) rfl (Nat.le_refl _) (Nat.le_refl _) dX6_workOf_26 ?_
    show G E κ _ _ _ [some (vr 79), some (vi x1), some (vi x2), some (vi x3), none] [vi v2, vi x3] (mm I)
    refine G_icmp_ge (tgt := 54) X dX6_workOf_29 (by decide) (fun hc3 => ?_) (fun hc3 => ?_)
    · have hf := (if_pos hc3).symm.trans hf
      refine G_iconst (v := 0) X dX6_workOf_54 rfl ?_
      refine G_istore_n X dX6_workOf_55 rfl (Nat.le_of_ble_eq_true rfl) (ls' := [some (vr 79), some (vi x1), some (vi x2), some (vi 0), none]) rfl ?_
      refine G_weakL (ls' := [some (vr 79), none, some (vi x2), some (vi 0), none]) ⟨Or.inr rfl, ⟨Or.inl rfl, ⟨Or.inr rfl, ⟨Or.inr rfl, ⟨Or.inl rfl, trivial⟩⟩⟩⟩⟩ ?_
      exact f6_workOf_L56_ok X FU I x2 0 _ _ hR hf
    · have hf := (if_neg hc3).symm.trans hf
      refine G_aload_n (x := some (79)) X dX6_workOf_32 rfl rfl ?_
      refine M_getR X fd_X6_17 rfl (show SH[79]? = some (_, 0) from rfl) rfl dX6_workOf_33 ?_
      refine G_aload_n (x := some (79)) X dX6_workOf_36 rfl rfl ?_
      refine G_iload_n (x := x1) X dX6_workOf_37 rfl rfl ?_
      refine G_iload_n (x := x3) X dX6_workOf_38 rfl rfl ?_
      obtain ⟨v11, hk11, hf⟩ := obd hf
      refine G_callV (As := [vi x1, vi x3]) X (f6_behind_ok E I x1 x3 v11 hk11) cb_X6_49 vi_X6_behind (ci := 5) rfl rfl (show SH[79]? = some (_, 0) from rfl) rfl rfl (Nat.le_of_ble_eq_true rfl) (by decide) (by decide) rfl (Nat.le_refl _) (Nat.le_refl _) dX6_workOf_39 ?_
      show G E κ _ _ _ [some (vr 79), some (vi x1), some (vi x2), some (vi x3), none] [vi v11, vr 82] (mm I)
      refine G_iconst (v := 1) X dX6_workOf_42 rfl ?_
      obtain ⟨hc12, hf⟩ := ock hf
      refine M_iast X (show SH[82]? = some (_, 41) from rfl) hc12 dX6_workOf_43 ?_
      refine G_aload_n (x := some (79)) X dX6_workOf_44 rfl rfl ?_
      refine G_iload_n (x := x1) X dX6_workOf_45 rfl rfl ?_
      refine G_iload_n (x := x3) X dX6_workOf_46 rfl rfl ?_
      obtain ⟨v13, hk13, hf⟩ := obd hf
      refine G_callV (As := [vi x1, vi x3]) X (f6_behind_ok E (uI I 82 v11.toNatClampNeg 1) x1 x3 v13 hk13) cb_X6_49 vi_X6_behind (ci := 5) rfl rfl (show SH[79]? = some (_, 0) from rfl) rfl rfl (Nat.le_of_ble_eq_true rfl) (by decide) (by decide) rfl (Nat.le_refl _) (Nat.le_refl _) dX6_workOf_47 ?_
      show G E κ _ _ _ [some (vr 79), some (vi x1), some (vi x2), some (vi x3), none] [vi v13] (mm (uI I 82 v11.toNatClampNeg 1))
      refine G_istore_n X dX6_workOf_50 rfl (Nat.le_of_ble_eq_true rfl) (ls' := [some (vr 79), some (vi x1), some (vi x2), some (vi v13), none]) rfl ?_
      refine G_goto (tgt := 23) X dX6_workOf_51 (by decide) ?_
      exact ih (uI I 82 v11.toNatClampNeg 1) x1 x2 v13 _ _ hR hf

def f6_workOf_L2 : Nat → gI → Int32 → Int32 → Int32 → Option (Int32 × gI)
  | 0, _, _, _, _ => none
  | k + 1, I, x1, x2, x3 => (if 41 ≤ x3 then f6_workOf_L23 FU I x1 x2 0 else if ib x3 41 = true then f6_workOf_L2 k (uI I 82 x3.toNatClampNeg 0) x1 x2 (x3 + 1) else none)
set_option maxRecDepth 100000 in
set_option maxHeartbeats 4000000 in
theorem f6_workOf_L2_ok {E : gEnv} {κ : gCtx} (X : Cx E κ cX6_workOf 5 RX6 (some .int) 4 0 0) : ∀ (k : Nat) (I : gI) (x1 : Int32) (x2 : Int32) (x3 : Int32) (r : Int32) (I' : gI) (hR : gRt E κ 0 0 (some (vi r)) (mm I')) (hf : f6_workOf_L2 k I x1 x2 x3 = some (r, I')), G E κ 0 0 2 [some (vr 79), some (vi x1), some (vi x2), some (vi x3), none] [] (mm I) := by
  intro k
  induction k with
  | zero =>
    intros
    rename_i hf
    cases hf
  | succ k ih =>
    intro I x1 x2 x3 r I' hR hf
    refine G_iload_n (x := x3) X dX6_workOf_2 rfl rfl ?_
    refine G_bipush (v := 41) X dX6_workOf_3 rfl ?_
    refine G_icmp_ge (tgt := 21) X dX6_workOf_5 (by decide) (fun hc1 => ?_) (fun hc1 => ?_)
    · have hf := (if_pos hc1).symm.trans hf
      refine G_iconst (v := 0) X dX6_workOf_21 rfl ?_
      refine G_istore_n X dX6_workOf_22 rfl (Nat.le_of_ble_eq_true rfl) (ls' := [some (vr 79), some (vi x1), some (vi x2), some (vi 0), none]) rfl ?_
      exact f6_workOf_L23_ok X FU I x1 x2 0 _ _ hR hf
    · have hf := (if_neg hc1).symm.trans hf
      refine G_aload_n (x := some (79)) X dX6_workOf_8 rfl rfl ?_
      refine M_getR X fd_X6_17 rfl (show SH[79]? = some (_, 0) from rfl) rfl dX6_workOf_9 ?_
      refine G_iload_n (x := x3) X dX6_workOf_12 rfl rfl ?_
      refine G_iconst (v := 0) X dX6_workOf_13 rfl ?_
      obtain ⟨hc14, hf⟩ := ock hf
      refine M_iast X (show SH[82]? = some (_, 41) from rfl) hc14 dX6_workOf_14 ?_
      refine G_iinc (x := x3) (v := 1) X dX6_workOf_15 rfl rfl (ls' := [some (vr 79), some (vi x1), some (vi x2), some (vi (x3 + 1)), none]) rfl ?_
      refine G_goto (tgt := 2) X dX6_workOf_18 (by decide) ?_
      exact ih (uI I 82 x3.toNatClampNeg 0) x1 x2 (x3 + 1) _ _ hR hf

def f6_workOf (I : gI) (a0 : Int32) (a1 : Int32) : Option (Int32 × gI) := f6_workOf_L2 FU I a0 a1 0
set_option maxRecDepth 100000 in
set_option maxHeartbeats 4000000 in
theorem f6_workOf_ok (E : gEnv) (I : gI) (a0 : Int32) (a1 : Int32) (r : Int32) (I' : gI) (hf : f6_workOf I a0 a1 = some (r, I')) : Ctr E yX6_workOf cX6_workOf 5 (some .int) 4 0 0 [vr 79, vi a0, vi a1] (mm I) (some (vi r)) (mm I') := by
  refine Ctr.mk (by decide +kernel) (Nat.le_of_ble_eq_true rfl) fun κ X hR _ => ?_
  have X : Cx E κ cX6_workOf 5 RX6 (some .int) 4 0 0 := X
  show G E κ 0 0 0 [some (vr 79), some (vi a0), some (vi a1), none, none] [] (mm I)
  unfold f6_workOf at hf
  refine G_iconst (v := 0) X dX6_workOf_0 rfl ?_
  refine G_istore_n X dX6_workOf_1 rfl (Nat.le_of_ble_eq_true rfl) (ls' := [some (vr 79), some (vi a0), some (vi a1), some (vi 0), none]) rfl ?_
  exact f6_workOf_L2_ok X FU I a0 a1 0 _ _ hR hf

def f6_push (I : gI) (a0 : Int32) (a1 : Int32) : Option gI := if ib a0 48086 = true then (f6_put I a0 (I 80 (a0.toNatClampNeg)) a1).bind fun I2 => if ib a0 48086 = true then if ib a0 48086 = true then some (uI I2 80 a0.toNatClampNeg ((I2 80 (a0.toNatClampNeg)) + 1)) else none else none else none
set_option maxRecDepth 100000 in
set_option maxHeartbeats 4000000 in
theorem f6_push_ok (E : gEnv) (I : gI) (a0 : Int32) (a1 : Int32) (I' : gI) (hf : f6_push I a0 a1 = some I') : Ctr E yX6_push cX6_push 3 none 1 0 0 [vr 79, vi a0, vi a1] (mm I) (none) (mm I') := by
  refine Ctr.mk (by decide +kernel) (Nat.le_of_ble_eq_true rfl) fun κ X hR _ => ?_
  have X : Cx E κ cX6_push 3 RX6 none 1 0 0 := X
  show G E κ 0 0 0 [some (vr 79), some (vi a0), some (vi a1)] [] (mm I)
  unfold f6_push at hf
  refine G_aload_n (x := some (79)) X dX6_push_0 rfl rfl ?_
  refine G_iload_n (x := a0) X dX6_push_1 rfl rfl ?_
  refine G_aload_n (x := some (79)) X dX6_push_2 rfl rfl ?_
  refine M_getR X fd_X6_8 rfl (show SH[79]? = some (_, 0) from rfl) rfl dX6_push_3 ?_
  refine G_iload_n (x := a0) X dX6_push_6 rfl rfl ?_
  obtain ⟨hc1, hf⟩ := ock hf
  refine M_iald X (show SH[80]? = some (_, 48086) from rfl) hc1 dX6_push_7 ?_
  refine G_iload_n (x := a1) X dX6_push_8 rfl rfl ?_
  obtain ⟨I2, hk2, hf⟩ := obd hf
  refine G_callV (As := [vi a0, vi (I 80 (a0.toNatClampNeg)), vi a1]) X (f6_put_ok E I a0 (I 80 (a0.toNatClampNeg)) a1 I2 hk2) cb_X6_61 vi_X6_put (ci := 5) rfl rfl (show SH[79]? = some (_, 0) from rfl) rfl rfl (Nat.le_of_ble_eq_true rfl) (by decide) (by decide) rfl (Nat.le_refl _) (Nat.le_refl _) dX6_push_9 ?_
  show G E κ _ _ _ [some (vr 79), some (vi a0), some (vi a1)] [] (mm I2)
  refine G_aload_n (x := some (79)) X dX6_push_12 rfl rfl ?_
  refine M_getR X fd_X6_8 rfl (show SH[79]? = some (_, 0) from rfl) rfl dX6_push_13 ?_
  refine G_iload_n (x := a0) X dX6_push_16 rfl rfl ?_
  refine G_dup2 X dX6_push_17 ?_
  obtain ⟨hc3, hf⟩ := ock hf
  refine M_iald X (show SH[80]? = some (_, 48086) from rfl) hc3 dX6_push_18 ?_
  refine G_iconst (v := 1) X dX6_push_19 rfl ?_
  refine G_iadd X dX6_push_20 ?_
  obtain ⟨hc4, hf⟩ := ock hf
  refine M_iast X (show SH[80]? = some (_, 48086) from rfl) hc4 dX6_push_21 ?_
  obtain rfl := Option.some.inj hf
  exact G_vret X hR rfl dX6_push_22

def f6_isPlace (I : gI) (a0 : Int32) (a1 : Int32) (a2 : Int32) : Option Bool := (f6_isRow I a0).bind fun v1 => (if v1 = true then if ib (f6_at a0) 48086 = true then (if (f6_in a1 0 (((I 80 ((f6_at a0).toNatClampNeg)) - 1) + a2)) = true then some true else some false) else none else some false)
set_option maxRecDepth 100000 in
set_option maxHeartbeats 4000000 in
theorem f6_isPlace_ok (E : gEnv) (I : gI) (a0 : Int32) (a1 : Int32) (a2 : Int32) (r : Bool) (hf : f6_isPlace I a0 a1 a2 = some r) : Ctr E yX6_isPlace cX6_isPlace 4 (some .boolean) 2 0 0 [vr 79, vi a0, vi a1, vi a2] (mm I) (some (vi (b2i r))) (mm I) := by
  refine Ctr.mk (by decide +kernel) (Nat.le_of_ble_eq_true rfl) fun κ X hR _ => ?_
  have X : Cx E κ cX6_isPlace 4 RX6 (some .boolean) 2 0 0 := X
  show G E κ 0 0 0 [some (vr 79), some (vi a0), some (vi a1), some (vi a2)] [] (mm I)
  unfold f6_isPlace at hf
  refine G_aload_n (x := some (79)) X dX6_isPlace_0 rfl rfl ?_
  refine G_iload_n (x := a0) X dX6_isPlace_1 rfl rfl ?_
  obtain ⟨v1, hk1, hf⟩ := obd hf
  refine G_callV (As := [vi a0]) X (f6_isRow_ok E I a0 v1 hk1) cb_X6_74 vi_X6_isRow (ci := 5) rfl rfl (show SH[79]? = some (_, 0) from rfl) rfl rfl (Nat.le_of_ble_eq_true rfl) (by decide) (by decide) rfl (Nat.le_refl _) (Nat.le_refl _) dX6_isPlace_2 ?_
  show G E κ _ _ _ [some (vr 79), some (vi a0), some (vi a1), some (vi a2)] [vi (b2i v1)] (mm I)
  refine G_if_eq (tgt := 33) X dX6_isPlace_5 (by decide) (fun hc2 => ?_) (fun hc2 => ?_)
  · have hf := (if_neg (b2i_f hc2)).symm.trans hf
    refine G_iconst (v := 0) X dX6_isPlace_33 rfl ?_
    obtain rfl := Option.some.inj hf
    exact G_iret X hR rfl (nar_b2i false) dX6_isPlace_34
  · have hf := (if_pos (b2i_t hc2)).symm.trans hf
    refine G_iload_n (x := a1) X dX6_isPlace_8 rfl rfl ?_
    refine G_iconst (v := 0) X dX6_isPlace_9 rfl ?_
    refine G_aload_n (x := some (79)) X dX6_isPlace_10 rfl rfl ?_
    refine M_getR X fd_X6_8 rfl (show SH[79]? = some (_, 0) from rfl) rfl dX6_isPlace_11 ?_
    refine G_iload_n (x := a0) X dX6_isPlace_14 rfl rfl ?_
    refine G_callS (As := [vi a0]) X (f6_at_ok E I a0 _ rfl) cb_X6_71 st_X6_at rfl rfl (Nat.le_of_ble_eq_true rfl) (by decide) (by decide) rfl (Nat.le_refl _) (Nat.le_refl _) dX6_isPlace_15 ?_
    show G E κ _ _ _ [some (vr 79), some (vi a0), some (vi a1), some (vi a2)] [vi (f6_at a0), vr 80, vi 0, vi a1] (mm I)
    obtain ⟨hc3, hf⟩ := ock hf
    refine M_iald X (show SH[80]? = some (_, 48086) from rfl) hc3 dX6_isPlace_18 ?_
    refine G_iconst (v := 1) X dX6_isPlace_19 rfl ?_
    refine G_isub X dX6_isPlace_20 ?_
    refine G_iload_n (x := a2) X dX6_isPlace_21 rfl rfl ?_
    refine G_iadd X dX6_isPlace_22 ?_
    refine G_callS (As := [vi a1, vi 0, vi (((I 80 ((f6_at a0).toNatClampNeg)) - 1) + a2)]) X (f6_in_ok E I a1 0 (((I 80 ((f6_at a0).toNatClampNeg)) - 1) + a2) _ rfl) cb_X6_31 st_X6_in rfl rfl (Nat.le_of_ble_eq_true rfl) (by decide) (by decide) rfl (Nat.le_refl _) (Nat.le_refl _) dX6_isPlace_23 ?_
    show G E κ _ _ _ [some (vr 79), some (vi a0), some (vi a1), some (vi a2)] [vi (b2i (f6_in a1 0 (((I 80 ((f6_at a0).toNatClampNeg)) - 1) + a2)))] (mm I)
    refine G_if_eq (tgt := 33) X dX6_isPlace_26 (by decide) (fun hc4 => ?_) (fun hc4 => ?_)
    · have hf := (if_neg (b2i_f hc4)).symm.trans hf
      refine G_iconst (v := 0) X dX6_isPlace_33 rfl ?_
      obtain rfl := Option.some.inj hf
      exact G_iret X hR rfl (nar_b2i false) dX6_isPlace_34
    · have hf := (if_pos (b2i_t hc4)).symm.trans hf
      refine G_iconst (v := 1) X dX6_isPlace_29 rfl ?_
      refine G_goto (tgt := 34) X dX6_isPlace_30 (by decide) ?_
      obtain rfl := Option.some.inj hf
      exact G_iret X hR rfl (nar_b2i true) dX6_isPlace_34

def f6_placeOf_L5 : Nat → gI → Int32 → Int32 → Int32 → Option Int32
  | 0, _, _, _, _ => none
  | k + 1, I, x1, x3, x4 => if ib x1 48086 = true then (if (I 80 (x1.toNatClampNeg)) ≤ x4 then some ((-9)) else (f6_bitOf I x1 x4).bind fun v3 => (if v3 = 1 then (if x3 = 0 then some x4 else f6_placeOf_L5 k I x1 (x3 + (-1)) (x4 + 1)) else f6_placeOf_L5 k I x1 x3 (x4 + 1))) else none
set_option maxRecDepth 100000 in
set_option maxHeartbeats 4000000 in
theorem f6_placeOf_L5_ok {E : gEnv} {κ : gCtx} (X : Cx E κ cX6_placeOf 5 RX6 (some .int) 1 0 0) : ∀ (k : Nat) (I : gI) (x1 : Int32) (x3 : Int32) (x4 : Int32) (r : Int32) (hR : gRt E κ 0 0 (some (vi r)) (mm I)) (hf : f6_placeOf_L5 k I x1 x3 x4 = some r), G E κ 0 0 5 [some (vr 79), some (vi x1), none, some (vi x3), some (vi x4)] [] (mm I) := by
  intro k
  induction k with
  | zero =>
    intros
    rename_i hf
    cases hf
  | succ k ih =>
    intro I x1 x3 x4 r hR hf
    refine G_iload (x := x4) X dX6_placeOf_5 rfl ?_
    refine G_aload_n (x := some (79)) X dX6_placeOf_7 rfl rfl ?_
    refine M_getR X fd_X6_8 rfl (show SH[79]? = some (_, 0) from rfl) rfl dX6_placeOf_8 ?_
    refine G_iload_n (x := x1) X dX6_placeOf_11 rfl rfl ?_
    obtain ⟨hc1, hf⟩ := ock hf
    refine M_iald X (show SH[80]? = some (_, 48086) from rfl) hc1 dX6_placeOf_12 ?_
    refine G_icmp_ge (tgt := 43) X dX6_placeOf_13 (by decide) (fun hc2 => ?_) (fun hc2 => ?_)
    · have hf := (if_pos hc2).symm.trans hf
      refine G_bipush (v := (-9)) X dX6_placeOf_43 rfl ?_
      obtain rfl := Option.some.inj hf
      exact G_iret X hR rfl rfl dX6_placeOf_45
    · have hf := (if_neg hc2).symm.trans hf
      refine G_aload_n (x := some (79)) X dX6_placeOf_16 rfl rfl ?_
      refine G_iload_n (x := x1) X dX6_placeOf_17 rfl rfl ?_
      refine G_iload (x := x4) X dX6_placeOf_18 rfl ?_
      obtain ⟨v3, hk3, hf⟩ := obd hf
      refine G_callV (As := [vi x1, vi x4]) X (f6_bitOf_ok E I x1 x4 v3 hk3) cb_X6_35 vi_X6_bitOf (ci := 5) rfl rfl (show SH[79]? = some (_, 0) from rfl) rfl rfl (Nat.le_of_ble_eq_true rfl) (by decide) (by decide) rfl (Nat.le_refl _) (Nat.le_refl _) dX6_placeOf_20 ?_
      show G E κ _ _ _ [some (vr 79), some (vi x1), none, some (vi x3), some (vi x4)] [vi v3] (mm I)
      refine G_iconst (v := 1) X dX6_placeOf_23 rfl ?_
      refine G_icmp_ne (tgt := 37) X dX6_placeOf_24 (by decide) (fun hc4 => ?_) (fun hc4 => ?_)
      · have hf := (if_neg hc4).symm.trans hf
        refine G_iinc (x := x4) (v := 1) X dX6_placeOf_37 rfl rfl (ls' := [some (vr 79), some (vi x1), none, some (vi x3), some (vi (x4 + 1))]) rfl ?_
        refine G_goto (tgt := 5) X dX6_placeOf_40 (by decide) ?_
        exact ih I x1 x3 (x4 + 1) _ hR hf
      · have hf := (if_pos hc4).symm.trans hf
        refine G_iload_n (x := x3) X dX6_placeOf_27 rfl rfl ?_
        refine G_if_ne (tgt := 34) X dX6_placeOf_28 (by decide) (fun hc5 => ?_) (fun hc5 => ?_)
        · have hf := (if_neg hc5).symm.trans hf
          refine G_iinc (x := x3) (v := (-1)) X dX6_placeOf_34 rfl rfl (ls' := [some (vr 79), some (vi x1), none, some (vi (x3 + (-1))), some (vi x4)]) rfl ?_
          refine G_iinc (x := x4) (v := 1) X dX6_placeOf_37 rfl rfl (ls' := [some (vr 79), some (vi x1), none, some (vi (x3 + (-1))), some (vi (x4 + 1))]) rfl ?_
          refine G_goto (tgt := 5) X dX6_placeOf_40 (by decide) ?_
          exact ih I x1 (x3 + (-1)) (x4 + 1) _ hR hf
        · have hf := (if_pos hc5).symm.trans hf
          refine G_iload (x := x4) X dX6_placeOf_31 rfl ?_
          obtain rfl := Option.some.inj hf
          exact G_iret X hR rfl rfl dX6_placeOf_33

def f6_placeOf (I : gI) (a0 : Int32) (a1 : Int32) : Option Int32 := f6_placeOf_L5 FU I a0 a1 0
set_option maxRecDepth 100000 in
set_option maxHeartbeats 4000000 in
theorem f6_placeOf_ok (E : gEnv) (I : gI) (a0 : Int32) (a1 : Int32) (r : Int32) (hf : f6_placeOf I a0 a1 = some r) : Ctr E yX6_placeOf cX6_placeOf 5 (some .int) 1 0 0 [vr 79, vi a0, vi a1] (mm I) (some (vi r)) (mm I) := by
  refine Ctr.mk (by decide +kernel) (Nat.le_of_ble_eq_true rfl) fun κ X hR _ => ?_
  have X : Cx E κ cX6_placeOf 5 RX6 (some .int) 1 0 0 := X
  show G E κ 0 0 0 [some (vr 79), some (vi a0), some (vi a1), none, none] [] (mm I)
  unfold f6_placeOf at hf
  refine G_iload_n (x := a1) X dX6_placeOf_0 rfl rfl ?_
  refine G_istore_n X dX6_placeOf_1 rfl (Nat.le_of_ble_eq_true rfl) (ls' := [some (vr 79), some (vi a0), some (vi a1), some (vi a1), none]) rfl ?_
  refine G_iconst (v := 0) X dX6_placeOf_2 rfl ?_
  refine G_istore X dX6_placeOf_3 (Nat.le_of_ble_eq_true rfl) (ls' := [some (vr 79), some (vi a0), some (vi a1), some (vi a1), some (vi 0)]) rfl ?_
  refine G_weakL (ls' := [some (vr 79), some (vi a0), none, some (vi a1), some (vi 0)]) ⟨Or.inr rfl, ⟨Or.inr rfl, ⟨Or.inl rfl, ⟨Or.inr rfl, ⟨Or.inr rfl, trivial⟩⟩⟩⟩⟩ ?_
  exact f6_placeOf_L5_ok X FU I a0 a1 0 _ hR hf

def f6_areSame_L24 : Nat → gI → Int32 → Int32 → Int32 → Int32 → Option Bool
  | 0, _, _, _, _, _ => none
  | k + 1, I, x1, x2, x3, x4 => if ib x1 48086 = true then (if (I 80 (x1.toNatClampNeg)) ≤ x4 then if zb x3 = true then some (zB x3) else none else (if x3 = 0 then f6_areSame_L24 k I x1 x2 0 (x4 + 1) else (f6_bitOf I x1 x4).bind fun v8 => (f6_bitOf I x2 x4).bind fun v9 => (if v8 = v9 then f6_areSame_L24 k I x1 x2 1 (x4 + 1) else f6_areSame_L24 k I x1 x2 0 (x4 + 1)))) else none
set_option maxRecDepth 100000 in
set_option maxHeartbeats 4000000 in
theorem f6_areSame_L24_ok {E : gEnv} {κ : gCtx} (X : Cx E κ cX6_areSame 5 RX6 (some .boolean) 1 0 0) : ∀ (k : Nat) (I : gI) (x1 : Int32) (x2 : Int32) (x3 : Int32) (x4 : Int32) (r : Bool) (hR : gRt E κ 0 0 (some (vi (b2i r))) (mm I)) (hf : f6_areSame_L24 k I x1 x2 x3 x4 = some r), G E κ 0 0 24 [some (vr 79), some (vi x1), some (vi x2), some (vi x3), some (vi x4)] [] (mm I) := by
  intro k
  induction k with
  | zero =>
    intros
    rename_i hf
    cases hf
  | succ k ih =>
    intro I x1 x2 x3 x4 r hR hf
    refine G_iload (x := x4) X dX6_areSame_24 rfl ?_
    refine G_aload_n (x := some (79)) X dX6_areSame_26 rfl rfl ?_
    refine M_getR X fd_X6_8 rfl (show SH[79]? = some (_, 0) from rfl) rfl dX6_areSame_27 ?_
    refine G_iload_n (x := x1) X dX6_areSame_30 rfl rfl ?_
    obtain ⟨hc4, hf⟩ := ock hf
    refine M_iald X (show SH[80]? = some (_, 48086) from rfl) hc4 dX6_areSame_31 ?_
    refine G_icmp_ge (tgt := 68) X dX6_areSame_32 (by decide) (fun hc5 => ?_) (fun hc5 => ?_)
    · have hf := (if_pos hc5).symm.trans hf
      refine G_iload_n (x := x3) X dX6_areSame_68 rfl rfl ?_
      obtain ⟨hc6, hf⟩ := ock hf
      obtain rfl := Option.some.inj hf
      rw [zB_b2i hc6] at hR
      exact G_iret X hR rfl (nar_zb hc6) dX6_areSame_69
    · have hf := (if_neg hc5).symm.trans hf
      refine G_iload_n (x := x3) X dX6_areSame_35 rfl rfl ?_
      refine G_if_eq (tgt := 60) X dX6_areSame_36 (by decide) (fun hc7 => ?_) (fun hc7 => ?_)
      · have hf := (if_pos hc7).symm.trans hf
        refine G_iconst (v := 0) X dX6_areSame_60 rfl ?_
        refine G_istore_n X dX6_areSame_61 rfl (Nat.le_of_ble_eq_true rfl) (ls' := [some (vr 79), some (vi x1), some (vi x2), some (vi 0), some (vi x4)]) rfl ?_
        refine G_iinc (x := x4) (v := 1) X dX6_areSame_62 rfl rfl (ls' := [some (vr 79), some (vi x1), some (vi x2), some (vi 0), some (vi (x4 + 1))]) rfl ?_
        refine G_goto (tgt := 24) X dX6_areSame_65 (by decide) ?_
        exact ih I x1 x2 0 (x4 + 1) _ hR hf
      · have hf := (if_neg hc7).symm.trans hf
        refine G_aload_n (x := some (79)) X dX6_areSame_39 rfl rfl ?_
        refine G_iload_n (x := x1) X dX6_areSame_40 rfl rfl ?_
        refine G_iload (x := x4) X dX6_areSame_41 rfl ?_
        obtain ⟨v8, hk8, hf⟩ := obd hf
        refine G_callV (As := [vi x1, vi x4]) X (f6_bitOf_ok E I x1 x4 v8 hk8) cb_X6_35 vi_X6_bitOf (ci := 5) rfl rfl (show SH[79]? = some (_, 0) from rfl) rfl rfl (Nat.le_of_ble_eq_true rfl) (by decide) (by decide) rfl (Nat.le_refl _) (Nat.le_refl _) dX6_areSame_43 ?_
        show G E κ _ _ _ [some (vr 79), some (vi x1), some (vi x2), some (vi x3), some (vi x4)] [vi v8] (mm I)
        refine G_aload_n (x := some (79)) X dX6_areSame_46 rfl rfl ?_
        refine G_iload_n (x := x2) X dX6_areSame_47 rfl rfl ?_
        refine G_iload (x := x4) X dX6_areSame_48 rfl ?_
        obtain ⟨v9, hk9, hf⟩ := obd hf
        refine G_callV (As := [vi x2, vi x4]) X (f6_bitOf_ok E I x2 x4 v9 hk9) cb_X6_35 vi_X6_bitOf (ci := 5) rfl rfl (show SH[79]? = some (_, 0) from rfl) rfl rfl (Nat.le_of_ble_eq_true rfl) (by decide) (by decide) rfl (Nat.le_refl _) (Nat.le_refl _) dX6_areSame_50 ?_
        show G E κ _ _ _ [some (vr 79), some (vi x1), some (vi x2), some (vi x3), some (vi x4)] [vi v9, vi v8] (mm I)
        refine G_icmp_ne (tgt := 60) X dX6_areSame_53 (by decide) (fun hc10 => ?_) (fun hc10 => ?_)
        · have hf := (if_neg hc10).symm.trans hf
          refine G_iconst (v := 0) X dX6_areSame_60 rfl ?_
          refine G_istore_n X dX6_areSame_61 rfl (Nat.le_of_ble_eq_true rfl) (ls' := [some (vr 79), some (vi x1), some (vi x2), some (vi 0), some (vi x4)]) rfl ?_
          refine G_iinc (x := x4) (v := 1) X dX6_areSame_62 rfl rfl (ls' := [some (vr 79), some (vi x1), some (vi x2), some (vi 0), some (vi (x4 + 1))]) rfl ?_
          refine G_goto (tgt := 24) X dX6_areSame_65 (by decide) ?_
          exact ih I x1 x2 0 (x4 + 1) _ hR hf
        · have hf := (if_pos hc10).symm.trans hf
          refine G_iconst (v := 1) X dX6_areSame_56 rfl ?_
          refine G_goto (tgt := 61) X dX6_areSame_57 (by decide) ?_
          refine G_istore_n X dX6_areSame_61 rfl (Nat.le_of_ble_eq_true rfl) (ls' := [some (vr 79), some (vi x1), some (vi x2), some (vi 1), some (vi x4)]) rfl ?_
          refine G_iinc (x := x4) (v := 1) X dX6_areSame_62 rfl rfl (ls' := [some (vr 79), some (vi x1), some (vi x2), some (vi 1), some (vi (x4 + 1))]) rfl ?_
          refine G_goto (tgt := 24) X dX6_areSame_65 (by decide) ?_
          exact ih I x1 x2 1 (x4 + 1) _ hR hf

def f6_areSame (I : gI) (a0 : Int32) (a1 : Int32) : Option Bool := if ib a0 48086 = true then if ib a1 48086 = true then (if (I 80 (a0.toNatClampNeg)) = (I 80 (a1.toNatClampNeg)) then f6_areSame_L24 FU I a0 a1 1 0 else f6_areSame_L24 FU I a0 a1 0 0) else none else none
set_option maxRecDepth 100000 in
set_option maxHeartbeats 4000000 in
theorem f6_areSame_ok (E : gEnv) (I : gI) (a0 : Int32) (a1 : Int32) (r : Bool) (hf : f6_areSame I a0 a1 = some r) : Ctr E yX6_areSame cX6_areSame 5 (some .boolean) 1 0 0 [vr 79, vi a0, vi a1] (mm I) (some (vi (b2i r))) (mm I) := by
  refine Ctr.mk (by decide +kernel) (Nat.le_of_ble_eq_true rfl) fun κ X hR _ => ?_
  have X : Cx E κ cX6_areSame 5 RX6 (some .boolean) 1 0 0 := X
  show G E κ 0 0 0 [some (vr 79), some (vi a0), some (vi a1), none, none] [] (mm I)
  unfold f6_areSame at hf
  refine G_aload_n (x := some (79)) X dX6_areSame_0 rfl rfl ?_
  refine M_getR X fd_X6_8 rfl (show SH[79]? = some (_, 0) from rfl) rfl dX6_areSame_1 ?_
  refine G_iload_n (x := a0) X dX6_areSame_4 rfl rfl ?_
  obtain ⟨hc1, hf⟩ := ock hf
  refine M_iald X (show SH[80]? = some (_, 48086) from rfl) hc1 dX6_areSame_5 ?_
  refine G_aload_n (x := some (79)) X dX6_areSame_6 rfl rfl ?_
  refine M_getR X fd_X6_8 rfl (show SH[79]? = some (_, 0) from rfl) rfl dX6_areSame_7 ?_
  refine G_iload_n (x := a1) X dX6_areSame_10 rfl rfl ?_
  obtain ⟨hc2, hf⟩ := ock hf
  refine M_iald X (show SH[80]? = some (_, 48086) from rfl) hc2 dX6_areSame_11 ?_
  refine G_icmp_ne (tgt := 19) X dX6_areSame_12 (by decide) (fun hc3 => ?_) (fun hc3 => ?_)
  · have hf := (if_neg hc3).symm.trans hf
    refine G_iconst (v := 0) X dX6_areSame_19 rfl ?_
    refine G_istore_n X dX6_areSame_20 rfl (Nat.le_of_ble_eq_true rfl) (ls' := [some (vr 79), some (vi a0), some (vi a1), some (vi 0), none]) rfl ?_
    refine G_iconst (v := 0) X dX6_areSame_21 rfl ?_
    refine G_istore X dX6_areSame_22 (Nat.le_of_ble_eq_true rfl) (ls' := [some (vr 79), some (vi a0), some (vi a1), some (vi 0), some (vi 0)]) rfl ?_
    exact f6_areSame_L24_ok X FU I a0 a1 0 0 _ hR hf
  · have hf := (if_pos hc3).symm.trans hf
    refine G_iconst (v := 1) X dX6_areSame_15 rfl ?_
    refine G_goto (tgt := 20) X dX6_areSame_16 (by decide) ?_
    refine G_istore_n X dX6_areSame_20 rfl (Nat.le_of_ble_eq_true rfl) (ls' := [some (vr 79), some (vi a0), some (vi a1), some (vi 1), none]) rfl ?_
    refine G_iconst (v := 0) X dX6_areSame_21 rfl ?_
    refine G_istore X dX6_areSame_22 (Nat.le_of_ble_eq_true rfl) (ls' := [some (vr 79), some (vi a0), some (vi a1), some (vi 1), some (vi 0)]) rfl ?_
    exact f6_areSame_L24_ok X FU I a0 a1 1 0 _ hR hf

