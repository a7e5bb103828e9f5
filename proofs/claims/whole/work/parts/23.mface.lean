def f6_undo (I : gI)  : Option (Int32 × gI) := (if (I 79 1) = 0 then some ((-2), I) else (f6_copyState (uI I 79 1 ((I 79 1) - 1)) (4809 + (4809 * ((uI I 79 1 ((I 79 1) - 1)) 79 1))) 0).bind fun I2 => some (I2 79 1, I2))
set_option maxRecDepth 100000 in
set_option maxHeartbeats 4000000 in
theorem f6_undo_ok (E : gEnv) (I : gI)  (r : Int32) (I' : gI) (hf : f6_undo I  = some (r, I')) : Ctr E yX6_undo cX6_undo 1 (some .int) 1 0 0 [vr 79] (mm I) (some (vi r)) (mm I') := by
  refine Ctr.mk (by decide +kernel) (Nat.le_of_ble_eq_true rfl) fun κ X hR _ => ?_
  have X : Cx E κ cX6_undo 1 RX6 (some .int) 1 0 0 := X
  show G E κ 0 0 0 [some (vr 79)] [] (mm I)
  unfold f6_undo at hf
  refine G_aload_n (x := some (79)) X dX6_undo_0 rfl rfl ?_
  refine M_getI X fd_X6_23 rfl (show SH[79]? = some (_, 0) from rfl) dX6_undo_1 ?_
  refine G_if_ne (tgt := 10) X dX6_undo_4 (by decide) (fun hc1 => ?_) (fun hc1 => ?_)
  · have hf := (if_neg hc1).symm.trans hf
    refine G_aload_n (x := some (79)) X dX6_undo_10 rfl rfl ?_
    refine G_dup X dX6_undo_11 ?_
    refine M_getI X fd_X6_23 rfl (show SH[79]? = some (_, 0) from rfl) dX6_undo_12 ?_
    refine G_iconst (v := 1) X dX6_undo_15 rfl ?_
    refine G_isub X dX6_undo_16 ?_
    refine M_putI X fd_X6_23 rfl (show SH[79]? = some (_, 0) from rfl) rfl rfl dX6_undo_17 ?_
    refine G_aload_n (x := some (79)) X dX6_undo_20 rfl rfl ?_
    refine G_sipush (v := 4809) X dX6_undo_21 rfl ?_
    refine G_sipush (v := 4809) X dX6_undo_24 rfl ?_
    refine G_aload_n (x := some (79)) X dX6_undo_27 rfl rfl ?_
    refine M_getI X fd_X6_23 rfl (show SH[79]? = some (_, 0) from rfl) dX6_undo_28 ?_
    refine G_imul X dX6_undo_31 ?_
    refine G_iadd X dX6_undo_32 ?_
    refine G_iconst (v := 0) X dX6_undo_33 rfl ?_
    obtain ⟨I2, hk2, hf⟩ := obd hf
    refine G_callV (As := [vi (4809 + (4809 * ((uI I 79 1 ((I 79 1) - 1)) 79 1))), vi 0]) X (f6_copyState_ok E (uI I 79 1 ((I 79 1) - 1)) (4809 + (4809 * ((uI I 79 1 ((I 79 1) - 1)) 79 1))) 0 I2 hk2) cb_X6_27 vi_X6_copyState (ci := 5) rfl rfl (show SH[79]? = some (_, 0) from rfl) rfl rfl (Nat.le_of_ble_eq_true rfl) (by decide) (by decide) rfl (Nat.le_refl _) (Nat.le_refl _) dX6_undo_34 ?_
    show G E κ _ _ _ [some (vr 79)] [] (mm I2)
    refine G_aload_n (x := some (79)) X dX6_undo_37 rfl rfl ?_
    refine M_getI X fd_X6_23 rfl (show SH[79]? = some (_, 0) from rfl) dX6_undo_38 ?_
    obtain ⟨rfl, rfl⟩ := Prod.mk.inj (Option.some.inj hf)
    exact G_iret X hR rfl rfl dX6_undo_41
  · have hf := (if_pos hc1).symm.trans hf
    refine G_bipush (v := (-2)) X dX6_undo_7 rfl ?_
    obtain ⟨rfl, rfl⟩ := Prod.mk.inj (Option.some.inj hf)
    exact G_iret X hR rfl rfl dX6_undo_9

def f6_make (I : gI)  : Option (Int32 × gI) := (if (I 80 4808) = 8 then some ((-3), I) else (f6_record I).bind fun I2 => if ib (f6_at (I2 80 4808)) 48086 = true then some (((uI (uI I2 80 (f6_at (I2 80 4808)).toNatClampNeg 0) 80 4808 (((uI I2 80 (f6_at (I2 80 4808)).toNatClampNeg 0) 80 4808) + 1)) 80 4808) - 1, uI (uI I2 80 (f6_at (I2 80 4808)).toNatClampNeg 0) 80 4808 (((uI I2 80 (f6_at (I2 80 4808)).toNatClampNeg 0) 80 4808) + 1)) else none)
set_option maxRecDepth 100000 in
set_option maxHeartbeats 4000000 in
theorem f6_make_ok (E : gEnv) (I : gI)  (r : Int32) (I' : gI) (hf : f6_make I  = some (r, I')) : Ctr E yX6_make cX6_make 1 (some .int) 2 0 0 [vr 79] (mm I) (some (vi r)) (mm I') := by
  refine Ctr.mk (by decide +kernel) (Nat.le_of_ble_eq_true rfl) fun κ X hR _ => ?_
  have X : Cx E κ cX6_make 1 RX6 (some .int) 2 0 0 := X
  show G E κ 0 0 0 [some (vr 79)] [] (mm I)
  unfold f6_make at hf
  refine G_aload_n (x := some (79)) X dX6_make_0 rfl rfl ?_
  refine M_getR X fd_X6_8 rfl (show SH[79]? = some (_, 0) from rfl) rfl dX6_make_1 ?_
  refine G_sipush (v := 4808) X dX6_make_4 rfl ?_
  refine M_iald X (show SH[80]? = some (_, 48086) from rfl) (by decide) dX6_make_7 ?_
  show G E κ _ _ _ _ (vi (I 80 4808) :: _) _
  refine G_bipush (v := 8) X dX6_make_8 rfl ?_
  refine G_icmp_ne (tgt := 16) X dX6_make_10 (by decide) (fun hc1 => ?_) (fun hc1 => ?_)
  · have hf := (if_neg hc1).symm.trans hf
    refine G_aload_n (x := some (79)) X dX6_make_16 rfl rfl ?_
    obtain ⟨I2, hk2, hf⟩ := obd hf
    refine G_callV (As := []) X (f6_record_ok E I  I2 hk2) cb_X6_68 vi_X6_record (ci := 5) rfl rfl (show SH[79]? = some (_, 0) from rfl) rfl rfl (Nat.le_of_ble_eq_true rfl) (by decide) (by decide) rfl (Nat.le_refl _) (Nat.le_refl _) dX6_make_17 ?_
    show G E κ _ _ _ [some (vr 79)] [] (mm I2)
    refine G_aload_n (x := some (79)) X dX6_make_20 rfl rfl ?_
    refine M_getR X fd_X6_8 rfl (show SH[79]? = some (_, 0) from rfl) rfl dX6_make_21 ?_
    refine G_aload_n (x := some (79)) X dX6_make_24 rfl rfl ?_
    refine M_getR X fd_X6_8 rfl (show SH[79]? = some (_, 0) from rfl) rfl dX6_make_25 ?_
    refine G_sipush (v := 4808) X dX6_make_28 rfl ?_
    refine M_iald X (show SH[80]? = some (_, 48086) from rfl) (by decide) dX6_make_31 ?_
    show G E κ _ _ _ _ (vi (I2 80 4808) :: _) _
    refine G_callS (As := [vi (I2 80 4808)]) X (f6_at_ok E I2 (I2 80 4808) _ rfl) cb_X6_71 st_X6_at rfl rfl (Nat.le_of_ble_eq_true rfl) (by decide) (by decide) rfl (Nat.le_refl _) (Nat.le_refl _) dX6_make_32 ?_
    show G E κ _ _ _ [some (vr 79)] [vi (f6_at (I2 80 4808)), vr 80] (mm I2)
    refine G_iconst (v := 0) X dX6_make_35 rfl ?_
    obtain ⟨hc3, hf⟩ := ock hf
    refine M_iast X (show SH[80]? = some (_, 48086) from rfl) hc3 dX6_make_36 ?_
    refine G_aload_n (x := some (79)) X dX6_make_37 rfl rfl ?_
    refine M_getR X fd_X6_8 rfl (show SH[79]? = some (_, 0) from rfl) rfl dX6_make_38 ?_
    refine G_sipush (v := 4808) X dX6_make_41 rfl ?_
    refine G_dup2 X dX6_make_44 ?_
    refine M_iald X (show SH[80]? = some (_, 48086) from rfl) (by decide) dX6_make_45 ?_
    show G E κ _ _ _ _ (vi ((uI I2 80 (f6_at (I2 80 4808)).toNatClampNeg 0) 80 4808) :: _) _
    refine G_iconst (v := 1) X dX6_make_46 rfl ?_
    refine G_iadd X dX6_make_47 ?_
    refine M_iast X (show SH[80]? = some (_, 48086) from rfl) (by decide) dX6_make_48 ?_
    show G E κ _ _ _ _ _ (mm (uI (uI I2 80 (f6_at (I2 80 4808)).toNatClampNeg 0) 80 4808 (((uI I2 80 (f6_at (I2 80 4808)).toNatClampNeg 0) 80 4808) + 1)))
    refine G_aload_n (x := some (79)) X dX6_make_49 rfl rfl ?_
    refine M_getR X fd_X6_8 rfl (show SH[79]? = some (_, 0) from rfl) rfl dX6_make_50 ?_
    refine G_sipush (v := 4808) X dX6_make_53 rfl ?_
    refine M_iald X (show SH[80]? = some (_, 48086) from rfl) (by decide) dX6_make_56 ?_
    show G E κ _ _ _ _ (vi ((uI (uI I2 80 (f6_at (I2 80 4808)).toNatClampNeg 0) 80 4808 (((uI I2 80 (f6_at (I2 80 4808)).toNatClampNeg 0) 80 4808) + 1)) 80 4808) :: _) _
    refine G_iconst (v := 1) X dX6_make_57 rfl ?_
    refine G_isub X dX6_make_58 ?_
    obtain ⟨rfl, rfl⟩ := Prod.mk.inj (Option.some.inj hf)
    exact G_iret X hR rfl rfl dX6_make_59
  · have hf := (if_pos hc1).symm.trans hf
    refine G_bipush (v := (-3)) X dX6_make_13 rfl ?_
    obtain ⟨rfl, rfl⟩ := Prod.mk.inj (Option.some.inj hf)
    exact G_iret X hR rfl rfl dX6_make_15

def f6_append_L57 : Nat → gI → Int32 → Int32 → Int32 → Int32 → Option (Int32 × gI)
  | 0, _, _, _, _, _ => none
  | k + 1, I, x1, x2, x3, x4 => (if x3 ≤ x4 then if ib (f6_at x1) 48086 = true then some (I 80 ((f6_at x1).toNatClampNeg), I) else none else (f6_push I (f6_at x1) x2).bind fun I10 => f6_append_L57 k I10 x1 x2 x3 (x4 + 1))
set_option maxRecDepth 100000 in
set_option maxHeartbeats 4000000 in
theorem f6_append_L57_ok {E : gEnv} {κ : gCtx} (X : Cx E κ cX6_append 5 RX6 (some .int) 2 0 0) : ∀ (k : Nat) (I : gI) (x1 : Int32) (x2 : Int32) (x3 : Int32) (x4 : Int32) (r : Int32) (I' : gI) (hR : gRt E κ 0 0 (some (vi r)) (mm I')) (hf : f6_append_L57 k I x1 x2 x3 x4 = some (r, I')), G E κ 0 0 57 [some (vr 79), some (vi x1), some (vi x2), some (vi x3), some (vi x4)] [] (mm I) := by
  intro k
  induction k with
  | zero =>
    intros
    rename_i hf
    cases hf
  | succ k ih =>
    intro I x1 x2 x3 x4 r I' hR hf
    refine G_iload (x := x4) X dX6_append_57 rfl ?_
    refine G_iload_n (x := x3) X dX6_append_59 rfl rfl ?_
    refine G_icmp_ge (tgt := 78) X dX6_append_60 (by decide) (fun hc8 => ?_) (fun hc8 => ?_)
    · have hf := (if_pos hc8).symm.trans hf
      refine G_aload_n (x := some (79)) X dX6_append_78 rfl rfl ?_
      refine M_getR X fd_X6_8 rfl (show SH[79]? = some (_, 0) from rfl) rfl dX6_append_79 ?_
      refine G_iload_n (x := x1) X dX6_append_82 rfl rfl ?_
      refine G_callS (As := [vi x1]) X (f6_at_ok E I x1 _ rfl) cb_X6_71 st_X6_at rfl rfl (Nat.le_of_ble_eq_true rfl) (by decide) (by decide) rfl (Nat.le_refl _) (Nat.le_refl _) dX6_append_83 ?_
      show G E κ _ _ _ [some (vr 79), some (vi x1), some (vi x2), some (vi x3), some (vi x4)] [vi (f6_at x1), vr 80] (mm I)
      obtain ⟨hc9, hf⟩ := ock hf
      refine M_iald X (show SH[80]? = some (_, 48086) from rfl) hc9 dX6_append_86 ?_
      obtain ⟨rfl, rfl⟩ := Prod.mk.inj (Option.some.inj hf)
      exact G_iret X hR rfl rfl dX6_append_87
    · have hf := (if_neg hc8).symm.trans hf
      refine G_aload_n (x := some (79)) X dX6_append_63 rfl rfl ?_
      refine G_iload_n (x := x1) X dX6_append_64 rfl rfl ?_
      refine G_callS (As := [vi x1]) X (f6_at_ok E I x1 _ rfl) cb_X6_71 st_X6_at rfl rfl (Nat.le_of_ble_eq_true rfl) (by decide) (by decide) rfl (Nat.le_refl _) (Nat.le_refl _) dX6_append_65 ?_
      show G E κ _ _ _ [some (vr 79), some (vi x1), some (vi x2), some (vi x3), some (vi x4)] [vi (f6_at x1), vr 79] (mm I)
      refine G_iload_n (x := x2) X dX6_append_68 rfl rfl ?_
      obtain ⟨I10, hk10, hf⟩ := obd hf
      refine G_callV (As := [vi (f6_at x1), vi x2]) X (f6_push_ok E I (f6_at x1) x2 I10 hk10) cb_X6_78 vi_X6_push (ci := 5) rfl rfl (show SH[79]? = some (_, 0) from rfl) rfl rfl (Nat.le_of_ble_eq_true rfl) (by decide) (by decide) rfl (Nat.le_refl _) (Nat.le_refl _) dX6_append_69 ?_
      show G E κ _ _ _ [some (vr 79), some (vi x1), some (vi x2), some (vi x3), some (vi x4)] [] (mm I10)
      refine G_iinc (x := x4) (v := 1) X dX6_append_72 rfl rfl (ls' := [some (vr 79), some (vi x1), some (vi x2), some (vi x3), some (vi (x4 + 1))]) rfl ?_
      refine G_goto (tgt := 57) X dX6_append_75 (by decide) ?_
      exact ih I10 x1 x2 x3 (x4 + 1) _ _ hR hf

def f6_append (I : gI) (a0 : Int32) (a1 : Int32) (a2 : Int32) : Option (Int32 × gI) := (f6_isRow I a0).bind fun v1 => (if v1 = true then (if (f6_in a1 0 1) = true then (if (f6_in a2 1 600) = true then if ib (f6_at a0) 48086 = true then (if ((I 80 ((f6_at a0).toNatClampNeg)) + a2) ≤ 600 then (f6_record I).bind fun I7 => f6_append_L57 FU I7 a0 a1 a2 0 else some ((-3), I)) else none else some ((-1), I)) else some ((-1), I)) else some ((-1), I))
set_option maxRecDepth 100000 in
set_option maxHeartbeats 4000000 in
theorem f6_append_ok (E : gEnv) (I : gI) (a0 : Int32) (a1 : Int32) (a2 : Int32) (r : Int32) (I' : gI) (hf : f6_append I a0 a1 a2 = some (r, I')) : Ctr E yX6_append cX6_append 5 (some .int) 2 0 0 [vr 79, vi a0, vi a1, vi a2] (mm I) (some (vi r)) (mm I') := by
  refine Ctr.mk (by decide +kernel) (Nat.le_of_ble_eq_true rfl) fun κ X hR _ => ?_
  have X : Cx E κ cX6_append 5 RX6 (some .int) 2 0 0 := X
  show G E κ 0 0 0 [some (vr 79), some (vi a0), some (vi a1), some (vi a2), none] [] (mm I)
  unfold f6_append at hf
  refine G_aload_n (x := some (79)) X dX6_append_0 rfl rfl ?_
  refine G_iload_n (x := a0) X dX6_append_1 rfl rfl ?_
  obtain ⟨v1, hk1, hf⟩ := obd hf
  refine G_callV (As := [vi a0]) X (f6_isRow_ok E I a0 v1 hk1) cb_X6_74 vi_X6_isRow (ci := 5) rfl rfl (show SH[79]? = some (_, 0) from rfl) rfl rfl (Nat.le_of_ble_eq_true rfl) (by decide) (by decide) rfl (Nat.le_refl _) (Nat.le_refl _) dX6_append_2 ?_
  show G E κ _ _ _ [some (vr 79), some (vi a0), some (vi a1), some (vi a2), none] [vi (b2i v1)] (mm I)
  refine G_if_eq (tgt := 28) X dX6_append_5 (by decide) (fun hc2 => ?_) (fun hc2 => ?_)
  · have hf := (if_neg (b2i_f hc2)).symm.trans hf
    refine G_iconst (v := (-1)) X dX6_append_28 rfl ?_
    obtain ⟨rfl, rfl⟩ := Prod.mk.inj (Option.some.inj hf)
    exact G_iret X hR rfl rfl dX6_append_29
  · have hf := (if_pos (b2i_t hc2)).symm.trans hf
    refine G_iload_n (x := a1) X dX6_append_8 rfl rfl ?_
    refine G_iconst (v := 0) X dX6_append_9 rfl ?_
    refine G_iconst (v := 1) X dX6_append_10 rfl ?_
    refine G_callS (As := [vi a1, vi 0, vi 1]) X (f6_in_ok E I a1 0 1 _ rfl) cb_X6_31 st_X6_in rfl rfl (Nat.le_of_ble_eq_true rfl) (by decide) (by decide) rfl (Nat.le_refl _) (Nat.le_refl _) dX6_append_11 ?_
    show G E κ _ _ _ [some (vr 79), some (vi a0), some (vi a1), some (vi a2), none] [vi (b2i (f6_in a1 0 1))] (mm I)
    refine G_if_eq (tgt := 28) X dX6_append_14 (by decide) (fun hc3 => ?_) (fun hc3 => ?_)
    · have hf := (if_neg (b2i_f hc3)).symm.trans hf
      refine G_iconst (v := (-1)) X dX6_append_28 rfl ?_
      obtain ⟨rfl, rfl⟩ := Prod.mk.inj (Option.some.inj hf)
      exact G_iret X hR rfl rfl dX6_append_29
    · have hf := (if_pos (b2i_t hc3)).symm.trans hf
      refine G_iload_n (x := a2) X dX6_append_17 rfl rfl ?_
      refine G_iconst (v := 1) X dX6_append_18 rfl ?_
      refine G_sipush (v := 600) X dX6_append_19 rfl ?_
      refine G_callS (As := [vi a2, vi 1, vi 600]) X (f6_in_ok E I a2 1 600 _ rfl) cb_X6_31 st_X6_in rfl rfl (Nat.le_of_ble_eq_true rfl) (by decide) (by decide) rfl (Nat.le_refl _) (Nat.le_refl _) dX6_append_22 ?_
      show G E κ _ _ _ [some (vr 79), some (vi a0), some (vi a1), some (vi a2), none] [vi (b2i (f6_in a2 1 600))] (mm I)
      refine G_if_ne (tgt := 30) X dX6_append_25 (by decide) (fun hc4 => ?_) (fun hc4 => ?_)
      · have hf := (if_pos (b2i_t hc4)).symm.trans hf
        refine G_aload_n (x := some (79)) X dX6_append_30 rfl rfl ?_
        refine M_getR X fd_X6_8 rfl (show SH[79]? = some (_, 0) from rfl) rfl dX6_append_31 ?_
        refine G_iload_n (x := a0) X dX6_append_34 rfl rfl ?_
        refine G_callS (As := [vi a0]) X (f6_at_ok E I a0 _ rfl) cb_X6_71 st_X6_at rfl rfl (Nat.le_of_ble_eq_true rfl) (by decide) (by decide) rfl (Nat.le_refl _) (Nat.le_refl _) dX6_append_35 ?_
        show G E κ _ _ _ [some (vr 79), some (vi a0), some (vi a1), some (vi a2), none] [vi (f6_at a0), vr 80] (mm I)
        obtain ⟨hc5, hf⟩ := ock hf
        refine M_iald X (show SH[80]? = some (_, 48086) from rfl) hc5 dX6_append_38 ?_
        refine G_iload_n (x := a2) X dX6_append_39 rfl rfl ?_
        refine G_iadd X dX6_append_40 ?_
        refine G_sipush (v := 600) X dX6_append_41 rfl ?_
        refine G_icmp_le (tgt := 50) X dX6_append_44 (by decide) (fun hc6 => ?_) (fun hc6 => ?_)
        · have hf := (if_pos hc6).symm.trans hf
          refine G_aload_n (x := some (79)) X dX6_append_50 rfl rfl ?_
          obtain ⟨I7, hk7, hf⟩ := obd hf
          refine G_callV (As := []) X (f6_record_ok E I  I7 hk7) cb_X6_68 vi_X6_record (ci := 5) rfl rfl (show SH[79]? = some (_, 0) from rfl) rfl rfl (Nat.le_of_ble_eq_true rfl) (by decide) (by decide) rfl (Nat.le_refl _) (Nat.le_refl _) dX6_append_51 ?_
          show G E κ _ _ _ [some (vr 79), some (vi a0), some (vi a1), some (vi a2), none] [] (mm I7)
          refine G_iconst (v := 0) X dX6_append_54 rfl ?_
          refine G_istore X dX6_append_55 (Nat.le_of_ble_eq_true rfl) (ls' := [some (vr 79), some (vi a0), some (vi a1), some (vi a2), some (vi 0)]) rfl ?_
          exact f6_append_L57_ok X FU I7 a0 a1 a2 0 _ _ hR hf
        · have hf := (if_neg hc6).symm.trans hf
          refine G_bipush (v := (-3)) X dX6_append_47 rfl ?_
          obtain ⟨rfl, rfl⟩ := Prod.mk.inj (Option.some.inj hf)
          exact G_iret X hR rfl rfl dX6_append_49
      · have hf := (if_neg (b2i_f hc4)).symm.trans hf
        refine G_iconst (v := (-1)) X dX6_append_28 rfl ?_
        obtain ⟨rfl, rfl⟩ := Prod.mk.inj (Option.some.inj hf)
        exact G_iret X hR rfl rfl dX6_append_29

def f6_write_L57 : Nat → gI → Int32 → Int32 → Int32 → Int32 → Option (Int32 × gI)
  | 0, _, _, _, _, _ => none
  | k + 1, I, x1, x2, x3, x4 => (if x3 ≤ x4 then (f6_words I (f6_at x1) 3).bind fun v9 => some (v9, I) else (f6_push I (f6_at x1) ((x2 >>> (x4 &&& 31)) &&& 1)).bind fun I10 => f6_write_L57 k I10 x1 x2 x3 (x4 + 1))
set_option maxRecDepth 100000 in
set_option maxHeartbeats 4000000 in
theorem f6_write_L57_ok {E : gEnv} {κ : gCtx} (X : Cx E κ cX6_write 5 RX6 (some .int) 5 0 0) : ∀ (k : Nat) (I : gI) (x1 : Int32) (x2 : Int32) (x3 : Int32) (x4 : Int32) (r : Int32) (I' : gI) (hR : gRt E κ 0 0 (some (vi r)) (mm I')) (hf : f6_write_L57 k I x1 x2 x3 x4 = some (r, I')), G E κ 0 0 57 [some (vr 79), some (vi x1), some (vi x2), some (vi x3), some (vi x4)] [] (mm I) := by
  intro k
  induction k with
  | zero =>
    intros
    rename_i hf
    cases hf
  | succ k ih =>
    intro I x1 x2 x3 x4 r I' hR hf
    refine G_iload (x := x4) X dX6_write_57 rfl ?_
    refine G_iload_n (x := x3) X dX6_write_59 rfl rfl ?_
    refine G_icmp_ge (tgt := 83) X dX6_write_60 (by decide) (fun hc8 => ?_) (fun hc8 => ?_)
    · have hf := (if_pos hc8).symm.trans hf
      refine G_aload_n (x := some (79)) X dX6_write_83 rfl rfl ?_
      refine G_iload_n (x := x1) X dX6_write_84 rfl rfl ?_
      refine G_callS (As := [vi x1]) X (f6_at_ok E I x1 _ rfl) cb_X6_71 st_X6_at rfl rfl (Nat.le_of_ble_eq_true rfl) (by decide) (by decide) rfl (Nat.le_refl _) (Nat.le_refl _) dX6_write_85 ?_
      show G E κ _ _ _ [some (vr 79), some (vi x1), some (vi x2), some (vi x3), some (vi x4)] [vi (f6_at x1), vr 79] (mm I)
      refine G_iconst (v := 3) X dX6_write_88 rfl ?_
      obtain ⟨v9, hk9, hf⟩ := obd hf
      refine G_callV (As := [vi (f6_at x1), vi 3]) X (f6_words_ok E I (f6_at x1) 3 v9 hk9) cb_X6_82 vi_X6_words (ci := 5) rfl rfl (show SH[79]? = some (_, 0) from rfl) rfl rfl (Nat.le_of_ble_eq_true rfl) (by decide) (by decide) rfl (Nat.le_refl _) (Nat.le_refl _) dX6_write_89 ?_
      show G E κ _ _ _ [some (vr 79), some (vi x1), some (vi x2), some (vi x3), some (vi x4)] [vi v9] (mm I)
      obtain ⟨rfl, rfl⟩ := Prod.mk.inj (Option.some.inj hf)
      exact G_iret X hR rfl rfl dX6_write_92
    · have hf := (if_neg hc8).symm.trans hf
      refine G_aload_n (x := some (79)) X dX6_write_63 rfl rfl ?_
      refine G_iload_n (x := x1) X dX6_write_64 rfl rfl ?_
      refine G_callS (As := [vi x1]) X (f6_at_ok E I x1 _ rfl) cb_X6_71 st_X6_at rfl rfl (Nat.le_of_ble_eq_true rfl) (by decide) (by decide) rfl (Nat.le_refl _) (Nat.le_refl _) dX6_write_65 ?_
      show G E κ _ _ _ [some (vr 79), some (vi x1), some (vi x2), some (vi x3), some (vi x4)] [vi (f6_at x1), vr 79] (mm I)
      refine G_iload_n (x := x2) X dX6_write_68 rfl rfl ?_
      refine G_iload (x := x4) X dX6_write_69 rfl ?_
      refine G_ishr X dX6_write_71 ?_
      refine G_iconst (v := 1) X dX6_write_72 rfl ?_
      refine G_iand X dX6_write_73 ?_
      obtain ⟨I10, hk10, hf⟩ := obd hf
      refine G_callV (As := [vi (f6_at x1), vi ((x2 >>> (x4 &&& 31)) &&& 1)]) X (f6_push_ok E I (f6_at x1) ((x2 >>> (x4 &&& 31)) &&& 1) I10 hk10) cb_X6_78 vi_X6_push (ci := 5) rfl rfl (show SH[79]? = some (_, 0) from rfl) rfl rfl (Nat.le_of_ble_eq_true rfl) (by decide) (by decide) rfl (Nat.le_refl _) (Nat.le_refl _) dX6_write_74 ?_
      show G E κ _ _ _ [some (vr 79), some (vi x1), some (vi x2), some (vi x3), some (vi x4)] [] (mm I10)
      refine G_iinc (x := x4) (v := 1) X dX6_write_77 rfl rfl (ls' := [some (vr 79), some (vi x1), some (vi x2), some (vi x3), some (vi (x4 + 1))]) rfl ?_
      refine G_goto (tgt := 57) X dX6_write_80 (by decide) ?_
      exact ih I10 x1 x2 x3 (x4 + 1) _ _ hR hf

def f6_write (I : gI) (a0 : Int32) (a1 : Int32) (a2 : Int32) : Option (Int32 × gI) := (f6_isRow I a0).bind fun v1 => (if v1 = true then (if (f6_in a1 0 65535) = true then (if (f6_in a2 1 16) = true then if ib (f6_at a0) 48086 = true then (if ((I 80 ((f6_at a0).toNatClampNeg)) + a2) ≤ 600 then (f6_record I).bind fun I7 => f6_write_L57 FU I7 a0 a1 a2 0 else some ((-3), I)) else none else some ((-1), I)) else some ((-1), I)) else some ((-1), I))
set_option maxRecDepth 100000 in
set_option maxHeartbeats 4000000 in
theorem f6_write_ok (E : gEnv) (I : gI) (a0 : Int32) (a1 : Int32) (a2 : Int32) (r : Int32) (I' : gI) (hf : f6_write I a0 a1 a2 = some (r, I')) : Ctr E yX6_write cX6_write 5 (some .int) 5 0 0 [vr 79, vi a0, vi a1, vi a2] (mm I) (some (vi r)) (mm I') := by
  refine Ctr.mk (by decide +kernel) (Nat.le_of_ble_eq_true rfl) fun κ X hR _ => ?_
  have X : Cx E κ cX6_write 5 RX6 (some .int) 5 0 0 := X
  show G E κ 0 0 0 [some (vr 79), some (vi a0), some (vi a1), some (vi a2), none] [] (mm I)
  unfold f6_write at hf
  refine G_aload_n (x := some (79)) X dX6_write_0 rfl rfl ?_
  refine G_iload_n (x := a0) X dX6_write_1 rfl rfl ?_
  obtain ⟨v1, hk1, hf⟩ := obd hf
  refine G_callV (As := [vi a0]) X (f6_isRow_ok E I a0 v1 hk1) cb_X6_74 vi_X6_isRow (ci := 5) rfl rfl (show SH[79]? = some (_, 0) from rfl) rfl rfl (Nat.le_of_ble_eq_true rfl) (by decide) (by decide) rfl (Nat.le_refl _) (Nat.le_refl _) dX6_write_2 ?_
  show G E κ _ _ _ [some (vr 79), some (vi a0), some (vi a1), some (vi a2), none] [vi (b2i v1)] (mm I)
  refine G_if_eq (tgt := 28) X dX6_write_5 (by decide) (fun hc2 => ?_) (fun hc2 => ?_)
  · have hf := (if_neg (b2i_f hc2)).symm.trans hf
    refine G_iconst (v := (-1)) X dX6_write_28 rfl ?_
    obtain ⟨rfl, rfl⟩ := Prod.mk.inj (Option.some.inj hf)
    exact G_iret X hR rfl rfl dX6_write_29
  · have hf := (if_pos (b2i_t hc2)).symm.trans hf
    refine G_iload_n (x := a1) X dX6_write_8 rfl rfl ?_
    refine G_iconst (v := 0) X dX6_write_9 rfl ?_
    refine G_ldc (v := 65535) X kc_X6_81 dX6_write_10 ?_
    refine G_callS (As := [vi a1, vi 0, vi 65535]) X (f6_in_ok E I a1 0 65535 _ rfl) cb_X6_31 st_X6_in rfl rfl (Nat.le_of_ble_eq_true rfl) (by decide) (by decide) rfl (Nat.le_refl _) (Nat.le_refl _) dX6_write_12 ?_
    show G E κ _ _ _ [some (vr 79), some (vi a0), some (vi a1), some (vi a2), none] [vi (b2i (f6_in a1 0 65535))] (mm I)
    refine G_if_eq (tgt := 28) X dX6_write_15 (by decide) (fun hc3 => ?_) (fun hc3 => ?_)
    · have hf := (if_neg (b2i_f hc3)).symm.trans hf
      refine G_iconst (v := (-1)) X dX6_write_28 rfl ?_
      obtain ⟨rfl, rfl⟩ := Prod.mk.inj (Option.some.inj hf)
      exact G_iret X hR rfl rfl dX6_write_29
    · have hf := (if_pos (b2i_t hc3)).symm.trans hf
      refine G_iload_n (x := a2) X dX6_write_18 rfl rfl ?_
      refine G_iconst (v := 1) X dX6_write_19 rfl ?_
      refine G_bipush (v := 16) X dX6_write_20 rfl ?_
      refine G_callS (As := [vi a2, vi 1, vi 16]) X (f6_in_ok E I a2 1 16 _ rfl) cb_X6_31 st_X6_in rfl rfl (Nat.le_of_ble_eq_true rfl) (by decide) (by decide) rfl (Nat.le_refl _) (Nat.le_refl _) dX6_write_22 ?_
      show G E κ _ _ _ [some (vr 79), some (vi a0), some (vi a1), some (vi a2), none] [vi (b2i (f6_in a2 1 16))] (mm I)
      refine G_if_ne (tgt := 30) X dX6_write_25 (by decide) (fun hc4 => ?_) (fun hc4 => ?_)
      · have hf := (if_pos (b2i_t hc4)).symm.trans hf
        refine G_aload_n (x := some (79)) X dX6_write_30 rfl rfl ?_
        refine M_getR X fd_X6_8 rfl (show SH[79]? = some (_, 0) from rfl) rfl dX6_write_31 ?_
        refine G_iload_n (x := a0) X dX6_write_34 rfl rfl ?_
        refine G_callS (As := [vi a0]) X (f6_at_ok E I a0 _ rfl) cb_X6_71 st_X6_at rfl rfl (Nat.le_of_ble_eq_true rfl) (by decide) (by decide) rfl (Nat.le_refl _) (Nat.le_refl _) dX6_write_35 ?_
        show G E κ _ _ _ [some (vr 79), some (vi a0), some (vi a1), some (vi a2), none] [vi (f6_at a0), vr 80] (mm I)
        obtain ⟨hc5, hf⟩ := ock hf
        refine M_iald X (show SH[80]? = some (_, 48086) from rfl) hc5 dX6_write_38 ?_
        refine G_iload_n (x := a2) X dX6_write_39 rfl rfl ?_
        refine G_iadd X dX6_write_40 ?_
        refine G_sipush (v := 600) X dX6_write_41 rfl ?_
        refine G_icmp_le (tgt := 50) X dX6_write_44 (by decide) (fun hc6 => ?_) (fun hc6 => ?_)
        · have hf := (if_pos hc6).symm.trans hf
          refine G_aload_n (x := some (79)) X dX6_write_50 rfl rfl ?_
          obtain ⟨I7, hk7, hf⟩ := obd hf
          refine G_callV (As := []) X (f6_record_ok E I  I7 hk7) cb_X6_68 vi_X6_record (ci := 5) rfl rfl (show SH[79]? = some (_, 0) from rfl) rfl rfl (Nat.le_of_ble_eq_true rfl) (by decide) (by decide) rfl (Nat.le_refl _) (Nat.le_refl _) dX6_write_51 ?_
          show G E κ _ _ _ [some (vr 79), some (vi a0), some (vi a1), some (vi a2), none] [] (mm I7)
          refine G_iconst (v := 0) X dX6_write_54 rfl ?_
          refine G_istore X dX6_write_55 (Nat.le_of_ble_eq_true rfl) (ls' := [some (vr 79), some (vi a0), some (vi a1), some (vi a2), some (vi 0)]) rfl ?_
          exact f6_write_L57_ok X FU I7 a0 a1 a2 0 _ _ hR hf
        · have hf := (if_neg hc6).symm.trans hf
          refine G_bipush (v := (-3)) X dX6_write_47 rfl ?_
          obtain ⟨rfl, rfl⟩ := Prod.mk.inj (Option.some.inj hf)
          exact G_iret X hR rfl rfl dX6_write_49
      · have hf := (if_neg (b2i_f hc4)).symm.trans hf
        refine G_iconst (v := (-1)) X dX6_write_28 rfl ?_
        obtain ⟨rfl, rfl⟩ := Prod.mk.inj (Option.some.inj hf)
        exact G_iret X hR rfl rfl dX6_write_29

def f6_set (I : gI) (a0 : Int32) (a1 : Int32) (a2 : Int32) : Option (Int32 × gI) := (f6_isPlace I a0 a1 0).bind fun v1 => (if v1 = true then (if (f6_in a2 0 1) = true then (f6_record I).bind fun I4 => (f6_bitOf I4 (f6_at a0) a1).bind fun v5 => (f6_put I4 (f6_at a0) a1 a2).bind fun I6 => some (v5, I6) else some ((-1), I)) else some ((-1), I))
set_option maxRecDepth 100000 in
set_option maxHeartbeats 4000000 in
theorem f6_set_ok (E : gEnv) (I : gI) (a0 : Int32) (a1 : Int32) (a2 : Int32) (r : Int32) (I' : gI) (hf : f6_set I a0 a1 a2 = some (r, I')) : Ctr E yX6_set cX6_set 5 (some .int) 3 0 0 [vr 79, vi a0, vi a1, vi a2] (mm I) (some (vi r)) (mm I') := by
  refine Ctr.mk (by decide +kernel) (Nat.le_of_ble_eq_true rfl) fun κ X hR _ => ?_
  have X : Cx E κ cX6_set 5 RX6 (some .int) 3 0 0 := X
  show G E κ 0 0 0 [some (vr 79), some (vi a0), some (vi a1), some (vi a2), none] [] (mm I)
  unfold f6_set at hf
  refine G_aload_n (x := some (79)) X dX6_set_0 rfl rfl ?_
  refine G_iload_n (x := a0) X dX6_set_1 rfl rfl ?_
  refine G_iload_n (x := a1) X dX6_set_2 rfl rfl ?_
  refine G_iconst (v := 0) X dX6_set_3 rfl ?_
  obtain ⟨v1, hk1, hf⟩ := obd hf
  refine G_callV (As := [vi a0, vi a1, vi 0]) X (f6_isPlace_ok E I a0 a1 0 v1 hk1) cb_X6_85 vi_X6_isPlace (ci := 5) rfl rfl (show SH[79]? = some (_, 0) from rfl) rfl rfl (Nat.le_of_ble_eq_true rfl) (by decide) (by decide) rfl (Nat.le_refl _) (Nat.le_refl _) dX6_set_4 ?_
  show G E κ _ _ _ [some (vr 79), some (vi a0), some (vi a1), some (vi a2), none] [vi (b2i v1)] (mm I)
  refine G_if_eq (tgt := 19) X dX6_set_7 (by decide) (fun hc2 => ?_) (fun hc2 => ?_)
  · have hf := (if_neg (b2i_f hc2)).symm.trans hf
    refine G_iconst (v := (-1)) X dX6_set_19 rfl ?_
    obtain ⟨rfl, rfl⟩ := Prod.mk.inj (Option.some.inj hf)
    exact G_iret X hR rfl rfl dX6_set_20
  · have hf := (if_pos (b2i_t hc2)).symm.trans hf
    refine G_iload_n (x := a2) X dX6_set_10 rfl rfl ?_
    refine G_iconst (v := 0) X dX6_set_11 rfl ?_
    refine G_iconst (v := 1) X dX6_set_12 rfl ?_
    refine G_callS (As := [vi a2, vi 0, vi 1]) X (f6_in_ok E I a2 0 1 _ rfl) cb_X6_31 st_X6_in rfl rfl (Nat.le_of_ble_eq_true rfl) (by decide) (by decide) rfl (Nat.le_refl _) (Nat.le_refl _) dX6_set_13 ?_
    show G E κ _ _ _ [some (vr 79), some (vi a0), some (vi a1), some (vi a2), none] [vi (b2i (f6_in a2 0 1))] (mm I)
    refine G_if_ne (tgt := 21) X dX6_set_16 (by decide) (fun hc3 => ?_) (fun hc3 => ?_)
    · have hf := (if_pos (b2i_t hc3)).symm.trans hf
      refine G_aload_n (x := some (79)) X dX6_set_21 rfl rfl ?_
      obtain ⟨I4, hk4, hf⟩ := obd hf
      refine G_callV (As := []) X (f6_record_ok E I  I4 hk4) cb_X6_68 vi_X6_record (ci := 5) rfl rfl (show SH[79]? = some (_, 0) from rfl) rfl rfl (Nat.le_of_ble_eq_true rfl) (by decide) (by decide) rfl (Nat.le_refl _) (Nat.le_refl _) dX6_set_22 ?_
      show G E κ _ _ _ [some (vr 79), some (vi a0), some (vi a1), some (vi a2), none] [] (mm I4)
      refine G_aload_n (x := some (79)) X dX6_set_25 rfl rfl ?_
      refine G_iload_n (x := a0) X dX6_set_26 rfl rfl ?_
      refine G_callS (As := [vi a0]) X (f6_at_ok E I4 a0 _ rfl) cb_X6_71 st_X6_at rfl rfl (Nat.le_of_ble_eq_true rfl) (by decide) (by decide) rfl (Nat.le_refl _) (Nat.le_refl _) dX6_set_27 ?_
      show G E κ _ _ _ [some (vr 79), some (vi a0), some (vi a1), some (vi a2), none] [vi (f6_at a0), vr 79] (mm I4)
      refine G_iload_n (x := a1) X dX6_set_30 rfl rfl ?_
      obtain ⟨v5, hk5, hf⟩ := obd hf
      refine G_callV (As := [vi (f6_at a0), vi a1]) X (f6_bitOf_ok E I4 (f6_at a0) a1 v5 hk5) cb_X6_35 vi_X6_bitOf (ci := 5) rfl rfl (show SH[79]? = some (_, 0) from rfl) rfl rfl (Nat.le_of_ble_eq_true rfl) (by decide) (by decide) rfl (Nat.le_refl _) (Nat.le_refl _) dX6_set_31 ?_
      show G E κ _ _ _ [some (vr 79), some (vi a0), some (vi a1), some (vi a2), none] [vi v5] (mm I4)
      refine G_istore X dX6_set_34 (Nat.le_of_ble_eq_true rfl) (ls' := [some (vr 79), some (vi a0), some (vi a1), some (vi a2), some (vi v5)]) rfl ?_
      refine G_aload_n (x := some (79)) X dX6_set_36 rfl rfl ?_
      refine G_iload_n (x := a0) X dX6_set_37 rfl rfl ?_
      refine G_callS (As := [vi a0]) X (f6_at_ok E I4 a0 _ rfl) cb_X6_71 st_X6_at rfl rfl (Nat.le_of_ble_eq_true rfl) (by decide) (by decide) rfl (Nat.le_refl _) (Nat.le_refl _) dX6_set_38 ?_
      show G E κ _ _ _ [some (vr 79), some (vi a0), some (vi a1), some (vi a2), some (vi v5)] [vi (f6_at a0), vr 79] (mm I4)
      refine G_iload_n (x := a1) X dX6_set_41 rfl rfl ?_
      refine G_iload_n (x := a2) X dX6_set_42 rfl rfl ?_
      obtain ⟨I6, hk6, hf⟩ := obd hf
      refine G_callV (As := [vi (f6_at a0), vi a1, vi a2]) X (f6_put_ok E I4 (f6_at a0) a1 a2 I6 hk6) cb_X6_61 vi_X6_put (ci := 5) rfl rfl (show SH[79]? = some (_, 0) from rfl) rfl rfl (Nat.le_of_ble_eq_true rfl) (by decide) (by decide) rfl (Nat.le_refl _) (Nat.le_refl _) dX6_set_43 ?_
      show G E κ _ _ _ [some (vr 79), some (vi a0), some (vi a1), some (vi a2), some (vi v5)] [] (mm I6)
      refine G_iload (x := v5) X dX6_set_46 rfl ?_
      obtain ⟨rfl, rfl⟩ := Prod.mk.inj (Option.some.inj hf)
      exact G_iret X hR rfl rfl dX6_set_48
    · have hf := (if_neg (b2i_f hc3)).symm.trans hf
      refine G_iconst (v := (-1)) X dX6_set_19 rfl ?_
      obtain ⟨rfl, rfl⟩ := Prod.mk.inj (Option.some.inj hf)
      exact G_iret X hR rfl rfl dX6_set_20

def f6_resize_L38 : Nat → gI → Int32 → Int32 → Int32 → Int32 → Option (Int32 × gI)
  | 0, _, _, _, _, _ => none
  | k + 1, I, x1, x2, x3, x4 => (if x2 ≤ x4 then if ib (f6_at x1) 48086 = true then some (x3, uI I 80 (f6_at x1).toNatClampNeg x2) else none else (f6_put I (f6_at x1) x4 0).bind fun I8 => f6_resize_L38 k I8 x1 x2 x3 (x4 + 1))
set_option maxRecDepth 100000 in
set_option maxHeartbeats 4000000 in
theorem f6_resize_L38_ok {E : gEnv} {κ : gCtx} (X : Cx E κ cX6_resize 5 RX6 (some .int) 2 0 0) : ∀ (k : Nat) (I : gI) (x1 : Int32) (x2 : Int32) (x3 : Int32) (x4 : Int32) (r : Int32) (I' : gI) (hR : gRt E κ 0 0 (some (vi r)) (mm I')) (hf : f6_resize_L38 k I x1 x2 x3 x4 = some (r, I')), G E κ 0 0 38 [some (vr 79), some (vi x1), some (vi x2), some (vi x3), some (vi x4)] [] (mm I) := by
  intro k
  induction k with
  | zero =>
    intros
    rename_i hf
    cases hf
  | succ k ih =>
    intro I x1 x2 x3 x4 r I' hR hf
    refine G_iload (x := x4) X dX6_resize_38 rfl ?_
    refine G_iload_n (x := x2) X dX6_resize_40 rfl rfl ?_
    refine G_icmp_ge (tgt := 61) X dX6_resize_41 (by decide) (fun hc6 => ?_) (fun hc6 => ?_)
    · have hf := (if_pos hc6).symm.trans hf
      refine G_aload_n (x := some (79)) X dX6_resize_61 rfl rfl ?_
      refine M_getR X fd_X6_8 rfl (show SH[79]? = some (_, 0) from rfl) rfl dX6_resize_62 ?_
      refine G_iload_n (x := x1) X dX6_resize_65 rfl rfl ?_
      refine G_callS (As := [vi x1]) X (f6_at_ok E I x1 _ rfl) cb_X6_71 st_X6_at rfl rfl (Nat.le_of_ble_eq_true rfl) (by decide) (by decide) rfl (Nat.le_refl _) (Nat.le_refl _) dX6_resize_66 ?_
      show G E κ _ _ _ [some (vr 79), some (vi x1), some (vi x2), some (vi x3), some (vi x4)] [vi (f6_at x1), vr 80] (mm I)
      refine G_iload_n (x := x2) X dX6_resize_69 rfl rfl ?_
      obtain ⟨hc7, hf⟩ := ock hf
      refine M_iast X (show SH[80]? = some (_, 48086) from rfl) hc7 dX6_resize_70 ?_
      refine G_iload_n (x := x3) X dX6_resize_71 rfl rfl ?_
      obtain ⟨rfl, rfl⟩ := Prod.mk.inj (Option.some.inj hf)
      exact G_iret X hR rfl rfl dX6_resize_72
    · have hf := (if_neg hc6).symm.trans hf
      refine G_aload_n (x := some (79)) X dX6_resize_44 rfl rfl ?_
      refine G_iload_n (x := x1) X dX6_resize_45 rfl rfl ?_
      refine G_callS (As := [vi x1]) X (f6_at_ok E I x1 _ rfl) cb_X6_71 st_X6_at rfl rfl (Nat.le_of_ble_eq_true rfl) (by decide) (by decide) rfl (Nat.le_refl _) (Nat.le_refl _) dX6_resize_46 ?_
      show G E κ _ _ _ [some (vr 79), some (vi x1), some (vi x2), some (vi x3), some (vi x4)] [vi (f6_at x1), vr 79] (mm I)
      refine G_iload (x := x4) X dX6_resize_49 rfl ?_
      refine G_iconst (v := 0) X dX6_resize_51 rfl ?_
      obtain ⟨I8, hk8, hf⟩ := obd hf
      refine G_callV (As := [vi (f6_at x1), vi x4, vi 0]) X (f6_put_ok E I (f6_at x1) x4 0 I8 hk8) cb_X6_61 vi_X6_put (ci := 5) rfl rfl (show SH[79]? = some (_, 0) from rfl) rfl rfl (Nat.le_of_ble_eq_true rfl) (by decide) (by decide) rfl (Nat.le_refl _) (Nat.le_refl _) dX6_resize_52 ?_
      show G E κ _ _ _ [some (vr 79), some (vi x1), some (vi x2), some (vi x3), some (vi x4)] [] (mm I8)
      refine G_iinc (x := x4) (v := 1) X dX6_resize_55 rfl rfl (ls' := [some (vr 79), some (vi x1), some (vi x2), some (vi x3), some (vi (x4 + 1))]) rfl ?_
      refine G_goto (tgt := 38) X dX6_resize_58 (by decide) ?_
      exact ih I8 x1 x2 x3 (x4 + 1) _ _ hR hf

def f6_resize (I : gI) (a0 : Int32) (a1 : Int32) : Option (Int32 × gI) := (f6_isRow I a0).bind fun v1 => (if v1 = true then (if (f6_in a1 0 600) = true then (f6_record I).bind fun I4 => if ib (f6_at a0) 48086 = true then f6_resize_L38 FU I4 a0 a1 (I4 80 ((f6_at a0).toNatClampNeg)) (I4 80 ((f6_at a0).toNatClampNeg)) else none else some ((-1), I)) else some ((-1), I))
set_option maxRecDepth 100000 in
set_option maxHeartbeats 4000000 in
theorem f6_resize_ok (E : gEnv) (I : gI) (a0 : Int32) (a1 : Int32) (r : Int32) (I' : gI) (hf : f6_resize I a0 a1 = some (r, I')) : Ctr E yX6_resize cX6_resize 5 (some .int) 2 0 0 [vr 79, vi a0, vi a1] (mm I) (some (vi r)) (mm I') := by
  refine Ctr.mk (by decide +kernel) (Nat.le_of_ble_eq_true rfl) fun κ X hR _ => ?_
  have X : Cx E κ cX6_resize 5 RX6 (some .int) 2 0 0 := X
  show G E κ 0 0 0 [some (vr 79), some (vi a0), some (vi a1), none, none] [] (mm I)
  unfold f6_resize at hf
  refine G_aload_n (x := some (79)) X dX6_resize_0 rfl rfl ?_
  refine G_iload_n (x := a0) X dX6_resize_1 rfl rfl ?_
  obtain ⟨v1, hk1, hf⟩ := obd hf
  refine G_callV (As := [vi a0]) X (f6_isRow_ok E I a0 v1 hk1) cb_X6_74 vi_X6_isRow (ci := 5) rfl rfl (show SH[79]? = some (_, 0) from rfl) rfl rfl (Nat.le_of_ble_eq_true rfl) (by decide) (by decide) rfl (Nat.le_refl _) (Nat.le_refl _) dX6_resize_2 ?_
  show G E κ _ _ _ [some (vr 79), some (vi a0), some (vi a1), none, none] [vi (b2i v1)] (mm I)
  refine G_if_eq (tgt := 19) X dX6_resize_5 (by decide) (fun hc2 => ?_) (fun hc2 => ?_)
  · have hf := (if_neg (b2i_f hc2)).symm.trans hf
    refine G_iconst (v := (-1)) X dX6_resize_19 rfl ?_
    obtain ⟨rfl, rfl⟩ := Prod.mk.inj (Option.some.inj hf)
    exact G_iret X hR rfl rfl dX6_resize_20
  · have hf := (if_pos (b2i_t hc2)).symm.trans hf
    refine G_iload_n (x := a1) X dX6_resize_8 rfl rfl ?_
    refine G_iconst (v := 0) X dX6_resize_9 rfl ?_
    refine G_sipush (v := 600) X dX6_resize_10 rfl ?_
    refine G_callS (As := [vi a1, vi 0, vi 600]) X (f6_in_ok E I a1 0 600 _ rfl) cb_X6_31 st_X6_in rfl rfl (Nat.le_of_ble_eq_true rfl) (by decide) (by decide) rfl (Nat.le_refl _) (Nat.le_refl _) dX6_resize_13 ?_
    show G E κ _ _ _ [some (vr 79), some (vi a0), some (vi a1), none, none] [vi (b2i (f6_in a1 0 600))] (mm I)
    refine G_if_ne (tgt := 21) X dX6_resize_16 (by decide) (fun hc3 => ?_) (fun hc3 => ?_)
    · have hf := (if_pos (b2i_t hc3)).symm.trans hf
      refine G_aload_n (x := some (79)) X dX6_resize_21 rfl rfl ?_
      obtain ⟨I4, hk4, hf⟩ := obd hf
      refine G_callV (As := []) X (f6_record_ok E I  I4 hk4) cb_X6_68 vi_X6_record (ci := 5) rfl rfl (show SH[79]? = some (_, 0) from rfl) rfl rfl (Nat.le_of_ble_eq_true rfl) (by decide) (by decide) rfl (Nat.le_refl _) (Nat.le_refl _) dX6_resize_22 ?_
      show G E κ _ _ _ [some (vr 79), some (vi a0), some (vi a1), none, none] [] (mm I4)
      refine G_aload_n (x := some (79)) X dX6_resize_25 rfl rfl ?_
      refine M_getR X fd_X6_8 rfl (show SH[79]? = some (_, 0) from rfl) rfl dX6_resize_26 ?_
      refine G_iload_n (x := a0) X dX6_resize_29 rfl rfl ?_
      refine G_callS (As := [vi a0]) X (f6_at_ok E I4 a0 _ rfl) cb_X6_71 st_X6_at rfl rfl (Nat.le_of_ble_eq_true rfl) (by decide) (by decide) rfl (Nat.le_refl _) (Nat.le_refl _) dX6_resize_30 ?_
      show G E κ _ _ _ [some (vr 79), some (vi a0), some (vi a1), none, none] [vi (f6_at a0), vr 80] (mm I4)
      obtain ⟨hc5, hf⟩ := ock hf
      refine M_iald X (show SH[80]? = some (_, 48086) from rfl) hc5 dX6_resize_33 ?_
      refine G_istore_n X dX6_resize_34 rfl (Nat.le_of_ble_eq_true rfl) (ls' := [some (vr 79), some (vi a0), some (vi a1), some (vi (I4 80 ((f6_at a0).toNatClampNeg))), none]) rfl ?_
      refine G_iload_n (x := I4 80 ((f6_at a0).toNatClampNeg)) X dX6_resize_35 rfl rfl ?_
      refine G_istore X dX6_resize_36 (Nat.le_of_ble_eq_true rfl) (ls' := [some (vr 79), some (vi a0), some (vi a1), some (vi (I4 80 ((f6_at a0).toNatClampNeg))), some (vi (I4 80 ((f6_at a0).toNatClampNeg)))]) rfl ?_
      exact f6_resize_L38_ok X FU I4 a0 a1 (I4 80 ((f6_at a0).toNatClampNeg)) (I4 80 ((f6_at a0).toNatClampNeg)) _ _ hR hf
    · have hf := (if_neg (b2i_f hc3)).symm.trans hf
      refine G_iconst (v := (-1)) X dX6_resize_19 rfl ?_
      obtain ⟨rfl, rfl⟩ := Prod.mk.inj (Option.some.inj hf)
      exact G_iret X hR rfl rfl dX6_resize_20

def f6_operate (I : gI) (a0 : Int32) (a1 : Int32) (a2 : Int32) (a3 : Int32) : Option (Int32 × gI) := (f6_isRow I a0).bind fun v1 => (if v1 = true then (if (f6_in a1 0 3) = true then (f6_isRow I a2).bind fun v4 => (if v4 = true then (f6_isRow I a3).bind fun v6 => (if v6 = true then (f6_record I).bind fun I8 => (f6_workOf I8 (f6_at a2) (f6_at a3)).bind fun q9 => (f6_operateOn q9.2 a1 (f6_at a2) (f6_at a3) (f6_at a0)).bind fun I10 => some (q9.1, I10) else some ((-1), I)) else some ((-1), I)) else some ((-1), I)) else some ((-1), I))
set_option maxRecDepth 100000 in
set_option maxHeartbeats 4000000 in
theorem f6_operate_ok (E : gEnv) (I : gI) (a0 : Int32) (a1 : Int32) (a2 : Int32) (a3 : Int32) (r : Int32) (I' : gI) (hf : f6_operate I a0 a1 a2 a3 = some (r, I')) : Ctr E yX6_operate cX6_operate 6 (some .int) 5 0 0 [vr 79, vi a0, vi a1, vi a2, vi a3] (mm I) (some (vi r)) (mm I') := by
  refine Ctr.mk (by decide +kernel) (Nat.le_of_ble_eq_true rfl) fun κ X hR _ => ?_
  have X : Cx E κ cX6_operate 6 RX6 (some .int) 5 0 0 := X
  show G E κ 0 0 0 [some (vr 79), some (vi a0), some (vi a1), some (vi a2), some (vi a3), none] [] (mm I)
  unfold f6_operate at hf
  refine G_aload_n (x := some (79)) X dX6_operate_0 rfl rfl ?_
  refine G_iload_n (x := a0) X dX6_operate_1 rfl rfl ?_
  obtain ⟨v1, hk1, hf⟩ := obd hf
  refine G_callV (As := [vi a0]) X (f6_isRow_ok E I a0 v1 hk1) cb_X6_74 vi_X6_isRow (ci := 5) rfl rfl (show SH[79]? = some (_, 0) from rfl) rfl rfl (Nat.le_of_ble_eq_true rfl) (by decide) (by decide) rfl (Nat.le_refl _) (Nat.le_refl _) dX6_operate_2 ?_
  show G E κ _ _ _ [some (vr 79), some (vi a0), some (vi a1), some (vi a2), some (vi a3), none] [vi (b2i v1)] (mm I)
  refine G_if_eq (tgt := 34) X dX6_operate_5 (by decide) (fun hc2 => ?_) (fun hc2 => ?_)
  · have hf := (if_neg (b2i_f hc2)).symm.trans hf
    refine G_iconst (v := (-1)) X dX6_operate_34 rfl ?_
    obtain ⟨rfl, rfl⟩ := Prod.mk.inj (Option.some.inj hf)
    exact G_iret X hR rfl rfl dX6_operate_35
  · have hf := (if_pos (b2i_t hc2)).symm.trans hf
    refine G_iload_n (x := a1) X dX6_operate_8 rfl rfl ?_
    refine G_iconst (v := 0) X dX6_operate_9 rfl ?_
    refine G_iconst (v := 3) X dX6_operate_10 rfl ?_
    refine G_callS (As := [vi a1, vi 0, vi 3]) X (f6_in_ok E I a1 0 3 _ rfl) cb_X6_31 st_X6_in rfl rfl (Nat.le_of_ble_eq_true rfl) (by decide) (by decide) rfl (Nat.le_refl _) (Nat.le_refl _) dX6_operate_11 ?_
    show G E κ _ _ _ [some (vr 79), some (vi a0), some (vi a1), some (vi a2), some (vi a3), none] [vi (b2i (f6_in a1 0 3))] (mm I)
    refine G_if_eq (tgt := 34) X dX6_operate_14 (by decide) (fun hc3 => ?_) (fun hc3 => ?_)
    · have hf := (if_neg (b2i_f hc3)).symm.trans hf
      refine G_iconst (v := (-1)) X dX6_operate_34 rfl ?_
      obtain ⟨rfl, rfl⟩ := Prod.mk.inj (Option.some.inj hf)
      exact G_iret X hR rfl rfl dX6_operate_35
    · have hf := (if_pos (b2i_t hc3)).symm.trans hf
      refine G_aload_n (x := some (79)) X dX6_operate_17 rfl rfl ?_
      refine G_iload_n (x := a2) X dX6_operate_18 rfl rfl ?_
      obtain ⟨v4, hk4, hf⟩ := obd hf
      refine G_callV (As := [vi a2]) X (f6_isRow_ok E I a2 v4 hk4) cb_X6_74 vi_X6_isRow (ci := 5) rfl rfl (show SH[79]? = some (_, 0) from rfl) rfl rfl (Nat.le_of_ble_eq_true rfl) (by decide) (by decide) rfl (Nat.le_refl _) (Nat.le_refl _) dX6_operate_19 ?_
      show G E κ _ _ _ [some (vr 79), some (vi a0), some (vi a1), some (vi a2), some (vi a3), none] [vi (b2i v4)] (mm I)
      refine G_if_eq (tgt := 34) X dX6_operate_22 (by decide) (fun hc5 => ?_) (fun hc5 => ?_)
      · have hf := (if_neg (b2i_f hc5)).symm.trans hf
        refine G_iconst (v := (-1)) X dX6_operate_34 rfl ?_
        obtain ⟨rfl, rfl⟩ := Prod.mk.inj (Option.some.inj hf)
        exact G_iret X hR rfl rfl dX6_operate_35
      · have hf := (if_pos (b2i_t hc5)).symm.trans hf
        refine G_aload_n (x := some (79)) X dX6_operate_25 rfl rfl ?_
        refine G_iload (x := a3) X dX6_operate_26 rfl ?_
        obtain ⟨v6, hk6, hf⟩ := obd hf
        refine G_callV (As := [vi a3]) X (f6_isRow_ok E I a3 v6 hk6) cb_X6_74 vi_X6_isRow (ci := 5) rfl rfl (show SH[79]? = some (_, 0) from rfl) rfl rfl (Nat.le_of_ble_eq_true rfl) (by decide) (by decide) rfl (Nat.le_refl _) (Nat.le_refl _) dX6_operate_28 ?_
        show G E κ _ _ _ [some (vr 79), some (vi a0), some (vi a1), some (vi a2), some (vi a3), none] [vi (b2i v6)] (mm I)
        refine G_if_ne (tgt := 36) X dX6_operate_31 (by decide) (fun hc7 => ?_) (fun hc7 => ?_)
        · have hf := (if_pos (b2i_t hc7)).symm.trans hf
          refine G_aload_n (x := some (79)) X dX6_operate_36 rfl rfl ?_
          obtain ⟨I8, hk8, hf⟩ := obd hf
          refine G_callV (As := []) X (f6_record_ok E I  I8 hk8) cb_X6_68 vi_X6_record (ci := 5) rfl rfl (show SH[79]? = some (_, 0) from rfl) rfl rfl (Nat.le_of_ble_eq_true rfl) (by decide) (by decide) rfl (Nat.le_refl _) (Nat.le_refl _) dX6_operate_37 ?_
          show G E κ _ _ _ [some (vr 79), some (vi a0), some (vi a1), some (vi a2), some (vi a3), none] [] (mm I8)
          refine G_aload_n (x := some (79)) X dX6_operate_40 rfl rfl ?_
          refine G_iload_n (x := a2) X dX6_operate_41 rfl rfl ?_
          refine G_callS (As := [vi a2]) X (f6_at_ok E I8 a2 _ rfl) cb_X6_71 st_X6_at rfl rfl (Nat.le_of_ble_eq_true rfl) (by decide) (by decide) rfl (Nat.le_refl _) (Nat.le_refl _) dX6_operate_42 ?_
          show G E κ _ _ _ [some (vr 79), some (vi a0), some (vi a1), some (vi a2), some (vi a3), none] [vi (f6_at a2), vr 79] (mm I8)
          refine G_iload (x := a3) X dX6_operate_45 rfl ?_
          refine G_callS (As := [vi a3]) X (f6_at_ok E I8 a3 _ rfl) cb_X6_71 st_X6_at rfl rfl (Nat.le_of_ble_eq_true rfl) (by decide) (by decide) rfl (Nat.le_refl _) (Nat.le_refl _) dX6_operate_47 ?_
          show G E κ _ _ _ [some (vr 79), some (vi a0), some (vi a1), some (vi a2), some (vi a3), none] [vi (f6_at a3), vi (f6_at a2), vr 79] (mm I8)
          obtain ⟨⟨v9, I9⟩, hk9, hf⟩ := obd hf
          try dsimp only at hf
          refine G_callV (As := [vi (f6_at a2), vi (f6_at a3)]) X (f6_workOf_ok E I8 (f6_at a2) (f6_at a3) v9 I9 hk9) cb_X6_88 vi_X6_workOf (ci := 5) rfl rfl (show SH[79]? = some (_, 0) from rfl) rfl rfl (Nat.le_of_ble_eq_true rfl) (by decide) (by decide) rfl (Nat.le_refl _) (Nat.le_refl _) dX6_operate_50 ?_
          show G E κ _ _ _ [some (vr 79), some (vi a0), some (vi a1), some (vi a2), some (vi a3), none] [vi v9] (mm I9)
          refine G_istore X dX6_operate_53 (Nat.le_of_ble_eq_true rfl) (ls' := [some (vr 79), some (vi a0), some (vi a1), some (vi a2), some (vi a3), some (vi v9)]) rfl ?_
          refine G_aload_n (x := some (79)) X dX6_operate_55 rfl rfl ?_
          refine G_iload_n (x := a1) X dX6_operate_56 rfl rfl ?_
          refine G_iload_n (x := a2) X dX6_operate_57 rfl rfl ?_
          refine G_callS (As := [vi a2]) X (f6_at_ok E I9 a2 _ rfl) cb_X6_71 st_X6_at rfl rfl (Nat.le_of_ble_eq_true rfl) (by decide) (by decide) rfl (Nat.le_refl _) (Nat.le_refl _) dX6_operate_58 ?_
          show G E κ _ _ _ [some (vr 79), some (vi a0), some (vi a1), some (vi a2), some (vi a3), some (vi v9)] [vi (f6_at a2), vi a1, vr 79] (mm I9)
          refine G_iload (x := a3) X dX6_operate_61 rfl ?_
          refine G_callS (As := [vi a3]) X (f6_at_ok E I9 a3 _ rfl) cb_X6_71 st_X6_at rfl rfl (Nat.le_of_ble_eq_true rfl) (by decide) (by decide) rfl (Nat.le_refl _) (Nat.le_refl _) dX6_operate_63 ?_
          show G E κ _ _ _ [some (vr 79), some (vi a0), some (vi a1), some (vi a2), some (vi a3), some (vi v9)] [vi (f6_at a3), vi (f6_at a2), vi a1, vr 79] (mm I9)
          refine G_iload_n (x := a0) X dX6_operate_66 rfl rfl ?_
          refine G_callS (As := [vi a0]) X (f6_at_ok E I9 a0 _ rfl) cb_X6_71 st_X6_at rfl rfl (Nat.le_of_ble_eq_true rfl) (by decide) (by decide) rfl (Nat.le_refl _) (Nat.le_refl _) dX6_operate_67 ?_
          show G E κ _ _ _ [some (vr 79), some (vi a0), some (vi a1), some (vi a2), some (vi a3), some (vi v9)] [vi (f6_at a0), vi (f6_at a3), vi (f6_at a2), vi a1, vr 79] (mm I9)
          obtain ⟨I10, hk10, hf⟩ := obd hf
          refine G_callV (As := [vi a1, vi (f6_at a2), vi (f6_at a3), vi (f6_at a0)]) X (f6_operateOn_ok E I9 a1 (f6_at a2) (f6_at a3) (f6_at a0) I10 hk10) cb_X6_91 vi_X6_operateOn (ci := 5) rfl rfl (show SH[79]? = some (_, 0) from rfl) rfl rfl (Nat.le_of_ble_eq_true rfl) (by decide) (by decide) rfl (Nat.le_refl _) (Nat.le_refl _) dX6_operate_70 ?_
          show G E κ _ _ _ [some (vr 79), some (vi a0), some (vi a1), some (vi a2), some (vi a3), some (vi v9)] [] (mm I10)
          refine G_iload (x := v9) X dX6_operate_73 rfl ?_
          obtain ⟨rfl, rfl⟩ := Prod.mk.inj (Option.some.inj hf)
          exact G_iret X hR rfl rfl dX6_operate_75
        · have hf := (if_neg (b2i_f hc7)).symm.trans hf
          refine G_iconst (v := (-1)) X dX6_operate_34 rfl ?_
          obtain ⟨rfl, rfl⟩ := Prod.mk.inj (Option.some.inj hf)
          exact G_iret X hR rfl rfl dX6_operate_35

def f6_not (I : gI) (a0 : Int32) : Option (Int32 × gI) := (f6_isRow I a0).bind fun v1 => (if v1 = true then (f6_record I).bind fun I3 => (f6_turn I3 (f6_at a0)).bind fun I4 => (f6_ones I4 (f6_at a0)).bind fun v5 => some (v5, I4) else some ((-1), I))
set_option maxRecDepth 100000 in
set_option maxHeartbeats 4000000 in
theorem f6_not_ok (E : gEnv) (I : gI) (a0 : Int32) (r : Int32) (I' : gI) (hf : f6_not I a0 = some (r, I')) : Ctr E yX6_not cX6_not 2 (some .int) 2 0 0 [vr 79, vi a0] (mm I) (some (vi r)) (mm I') := by
  refine Ctr.mk (by decide +kernel) (Nat.le_of_ble_eq_true rfl) fun κ X hR _ => ?_
  have X : Cx E κ cX6_not 2 RX6 (some .int) 2 0 0 := X
  show G E κ 0 0 0 [some (vr 79), some (vi a0)] [] (mm I)
  unfold f6_not at hf
  refine G_aload_n (x := some (79)) X dX6_not_0 rfl rfl ?_
  refine G_iload_n (x := a0) X dX6_not_1 rfl rfl ?_
  obtain ⟨v1, hk1, hf⟩ := obd hf
  refine G_callV (As := [vi a0]) X (f6_isRow_ok E I a0 v1 hk1) cb_X6_74 vi_X6_isRow (ci := 5) rfl rfl (show SH[79]? = some (_, 0) from rfl) rfl rfl (Nat.le_of_ble_eq_true rfl) (by decide) (by decide) rfl (Nat.le_refl _) (Nat.le_refl _) dX6_not_2 ?_
  show G E κ _ _ _ [some (vr 79), some (vi a0)] [vi (b2i v1)] (mm I)
  refine G_if_ne (tgt := 10) X dX6_not_5 (by decide) (fun hc2 => ?_) (fun hc2 => ?_)
  · have hf := (if_pos (b2i_t hc2)).symm.trans hf
    refine G_aload_n (x := some (79)) X dX6_not_10 rfl rfl ?_
    obtain ⟨I3, hk3, hf⟩ := obd hf
    refine G_callV (As := []) X (f6_record_ok E I  I3 hk3) cb_X6_68 vi_X6_record (ci := 5) rfl rfl (show SH[79]? = some (_, 0) from rfl) rfl rfl (Nat.le_of_ble_eq_true rfl) (by decide) (by decide) rfl (Nat.le_refl _) (Nat.le_refl _) dX6_not_11 ?_
    show G E κ _ _ _ [some (vr 79), some (vi a0)] [] (mm I3)
    refine G_aload_n (x := some (79)) X dX6_not_14 rfl rfl ?_
    refine G_iload_n (x := a0) X dX6_not_15 rfl rfl ?_
    refine G_callS (As := [vi a0]) X (f6_at_ok E I3 a0 _ rfl) cb_X6_71 st_X6_at rfl rfl (Nat.le_of_ble_eq_true rfl) (by decide) (by decide) rfl (Nat.le_refl _) (Nat.le_refl _) dX6_not_16 ?_
    show G E κ _ _ _ [some (vr 79), some (vi a0)] [vi (f6_at a0), vr 79] (mm I3)
    obtain ⟨I4, hk4, hf⟩ := obd hf
    refine G_callV (As := [vi (f6_at a0)]) X (f6_turn_ok E I3 (f6_at a0) I4 hk4) cb_X6_95 vi_X6_turn (ci := 5) rfl rfl (show SH[79]? = some (_, 0) from rfl) rfl rfl (Nat.le_of_ble_eq_true rfl) (by decide) (by decide) rfl (Nat.le_refl _) (Nat.le_refl _) dX6_not_19 ?_
    show G E κ _ _ _ [some (vr 79), some (vi a0)] [] (mm I4)
    refine G_aload_n (x := some (79)) X dX6_not_22 rfl rfl ?_
    refine G_iload_n (x := a0) X dX6_not_23 rfl rfl ?_
    refine G_callS (As := [vi a0]) X (f6_at_ok E I4 a0 _ rfl) cb_X6_71 st_X6_at rfl rfl (Nat.le_of_ble_eq_true rfl) (by decide) (by decide) rfl (Nat.le_refl _) (Nat.le_refl _) dX6_not_24 ?_
    show G E κ _ _ _ [some (vr 79), some (vi a0)] [vi (f6_at a0), vr 79] (mm I4)
    obtain ⟨v5, hk5, hf⟩ := obd hf
    refine G_callV (As := [vi (f6_at a0)]) X (f6_ones_ok E I4 (f6_at a0) v5 hk5) cb_X6_99 vi_X6_ones (ci := 5) rfl rfl (show SH[79]? = some (_, 0) from rfl) rfl rfl (Nat.le_of_ble_eq_true rfl) (by decide) (by decide) rfl (Nat.le_refl _) (Nat.le_refl _) dX6_not_27 ?_
    show G E κ _ _ _ [some (vr 79), some (vi a0)] [vi v5] (mm I4)
    obtain ⟨rfl, rfl⟩ := Prod.mk.inj (Option.some.inj hf)
    exact G_iret X hR rfl rfl dX6_not_30
  · have hf := (if_neg (b2i_f hc2)).symm.trans hf
    refine G_iconst (v := (-1)) X dX6_not_8 rfl ?_
    obtain ⟨rfl, rfl⟩ := Prod.mk.inj (Option.some.inj hf)
    exact G_iret X hR rfl rfl dX6_not_9

def f6_shift (I : gI) (a0 : Int32) (a1 : Int32) : Option (Int32 × gI) := (f6_isRow I a0).bind fun v1 => (if v1 = true then (if (f6_in a1 ((-600)) 600) = true then (f6_record I).bind fun I4 => (f6_shiftOn I4 (f6_at a0) a1).bind fun I5 => if ib (f6_at a0) 48086 = true then some (I5 80 ((f6_at a0).toNatClampNeg), I5) else none else some ((-1), I)) else some ((-1), I))
set_option maxRecDepth 100000 in
set_option maxHeartbeats 4000000 in
theorem f6_shift_ok (E : gEnv) (I : gI) (a0 : Int32) (a1 : Int32) (r : Int32) (I' : gI) (hf : f6_shift I a0 a1 = some (r, I')) : Ctr E yX6_shift cX6_shift 3 (some .int) 2 0 0 [vr 79, vi a0, vi a1] (mm I) (some (vi r)) (mm I') := by
  refine Ctr.mk (by decide +kernel) (Nat.le_of_ble_eq_true rfl) fun κ X hR _ => ?_
  have X : Cx E κ cX6_shift 3 RX6 (some .int) 2 0 0 := X
  show G E κ 0 0 0 [some (vr 79), some (vi a0), some (vi a1)] [] (mm I)
  unfold f6_shift at hf
  refine G_aload_n (x := some (79)) X dX6_shift_0 rfl rfl ?_
  refine G_iload_n (x := a0) X dX6_shift_1 rfl rfl ?_
  obtain ⟨v1, hk1, hf⟩ := obd hf
  refine G_callV (As := [vi a0]) X (f6_isRow_ok E I a0 v1 hk1) cb_X6_74 vi_X6_isRow (ci := 5) rfl rfl (show SH[79]? = some (_, 0) from rfl) rfl rfl (Nat.le_of_ble_eq_true rfl) (by decide) (by decide) rfl (Nat.le_refl _) (Nat.le_refl _) dX6_shift_2 ?_
  show G E κ _ _ _ [some (vr 79), some (vi a0), some (vi a1)] [vi (b2i v1)] (mm I)
  refine G_if_eq (tgt := 21) X dX6_shift_5 (by decide) (fun hc2 => ?_) (fun hc2 => ?_)
  · have hf := (if_neg (b2i_f hc2)).symm.trans hf
    refine G_iconst (v := (-1)) X dX6_shift_21 rfl ?_
    obtain ⟨rfl, rfl⟩ := Prod.mk.inj (Option.some.inj hf)
    exact G_iret X hR rfl rfl dX6_shift_22
  · have hf := (if_pos (b2i_t hc2)).symm.trans hf
    refine G_iload_n (x := a1) X dX6_shift_8 rfl rfl ?_
    refine G_sipush (v := (-600)) X dX6_shift_9 rfl ?_
    refine G_sipush (v := 600) X dX6_shift_12 rfl ?_
    refine G_callS (As := [vi a1, vi ((-600)), vi 600]) X (f6_in_ok E I a1 ((-600)) 600 _ rfl) cb_X6_31 st_X6_in rfl rfl (Nat.le_of_ble_eq_true rfl) (by decide) (by decide) rfl (Nat.le_refl _) (Nat.le_refl _) dX6_shift_15 ?_
    show G E κ _ _ _ [some (vr 79), some (vi a0), some (vi a1)] [vi (b2i (f6_in a1 ((-600)) 600))] (mm I)
    refine G_if_ne (tgt := 23) X dX6_shift_18 (by decide) (fun hc3 => ?_) (fun hc3 => ?_)
    · have hf := (if_pos (b2i_t hc3)).symm.trans hf
      refine G_aload_n (x := some (79)) X dX6_shift_23 rfl rfl ?_
      obtain ⟨I4, hk4, hf⟩ := obd hf
      refine G_callV (As := []) X (f6_record_ok E I  I4 hk4) cb_X6_68 vi_X6_record (ci := 5) rfl rfl (show SH[79]? = some (_, 0) from rfl) rfl rfl (Nat.le_of_ble_eq_true rfl) (by decide) (by decide) rfl (Nat.le_refl _) (Nat.le_refl _) dX6_shift_24 ?_
      show G E κ _ _ _ [some (vr 79), some (vi a0), some (vi a1)] [] (mm I4)
      refine G_aload_n (x := some (79)) X dX6_shift_27 rfl rfl ?_
      refine G_iload_n (x := a0) X dX6_shift_28 rfl rfl ?_
      refine G_callS (As := [vi a0]) X (f6_at_ok E I4 a0 _ rfl) cb_X6_71 st_X6_at rfl rfl (Nat.le_of_ble_eq_true rfl) (by decide) (by decide) rfl (Nat.le_refl _) (Nat.le_refl _) dX6_shift_29 ?_
      show G E κ _ _ _ [some (vr 79), some (vi a0), some (vi a1)] [vi (f6_at a0), vr 79] (mm I4)
      refine G_iload_n (x := a1) X dX6_shift_32 rfl rfl ?_
      obtain ⟨I5, hk5, hf⟩ := obd hf
      refine G_callV (As := [vi (f6_at a0), vi a1]) X (f6_shiftOn_ok E I4 (f6_at a0) a1 I5 hk5) cb_X6_102 vi_X6_shiftOn (ci := 5) rfl rfl (show SH[79]? = some (_, 0) from rfl) rfl rfl (Nat.le_of_ble_eq_true rfl) (by decide) (by decide) rfl (Nat.le_refl _) (Nat.le_refl _) dX6_shift_33 ?_
      show G E κ _ _ _ [some (vr 79), some (vi a0), some (vi a1)] [] (mm I5)
      refine G_aload_n (x := some (79)) X dX6_shift_36 rfl rfl ?_
      refine M_getR X fd_X6_8 rfl (show SH[79]? = some (_, 0) from rfl) rfl dX6_shift_37 ?_
      refine G_iload_n (x := a0) X dX6_shift_40 rfl rfl ?_
      refine G_callS (As := [vi a0]) X (f6_at_ok E I5 a0 _ rfl) cb_X6_71 st_X6_at rfl rfl (Nat.le_of_ble_eq_true rfl) (by decide) (by decide) rfl (Nat.le_refl _) (Nat.le_refl _) dX6_shift_41 ?_
      show G E κ _ _ _ [some (vr 79), some (vi a0), some (vi a1)] [vi (f6_at a0), vr 80] (mm I5)
      obtain ⟨hc6, hf⟩ := ock hf
      refine M_iald X (show SH[80]? = some (_, 48086) from rfl) hc6 dX6_shift_44 ?_
      obtain ⟨rfl, rfl⟩ := Prod.mk.inj (Option.some.inj hf)
      exact G_iret X hR rfl rfl dX6_shift_45
    · have hf := (if_neg (b2i_f hc3)).symm.trans hf
      refine G_iconst (v := (-1)) X dX6_shift_21 rfl ?_
      obtain ⟨rfl, rfl⟩ := Prod.mk.inj (Option.some.inj hf)
      exact G_iret X hR rfl rfl dX6_shift_22

def f6_type (I : gI) (a0 : Int32) : Option (Int32 × gI) := (if (f6_in a0 1 255) = true then (if (I 79 3) = 100 then some ((-3), I) else if ib (I 79 3) 100 = true then some ((uI (uI I 81 (I 79 3).toNatClampNeg a0) 79 3 (((uI I 81 (I 79 3).toNatClampNeg a0) 79 3) + 1)) 79 3, uI (uI I 81 (I 79 3).toNatClampNeg a0) 79 3 (((uI I 81 (I 79 3).toNatClampNeg a0) 79 3) + 1)) else none) else some ((-1), I))
set_option maxRecDepth 100000 in
set_option maxHeartbeats 4000000 in
theorem f6_type_ok (E : gEnv) (I : gI) (a0 : Int32) (r : Int32) (I' : gI) (hf : f6_type I a0 = some (r, I')) : Ctr E yX6_type cX6_type 2 (some .int) 1 0 0 [vr 79, vi a0] (mm I) (some (vi r)) (mm I') := by
  refine Ctr.mk (by decide +kernel) (Nat.le_of_ble_eq_true rfl) fun κ X hR _ => ?_
  have X : Cx E κ cX6_type 2 RX6 (some .int) 1 0 0 := X
  show G E κ 0 0 0 [some (vr 79), some (vi a0)] [] (mm I)
  unfold f6_type at hf
  refine G_iload_n (x := a0) X dX6_type_0 rfl rfl ?_
  refine G_iconst (v := 1) X dX6_type_1 rfl ?_
  refine G_sipush (v := 255) X dX6_type_2 rfl ?_
  refine G_callS (As := [vi a0, vi 1, vi 255]) X (f6_in_ok E I a0 1 255 _ rfl) cb_X6_31 st_X6_in rfl rfl (Nat.le_of_ble_eq_true rfl) (by decide) (by decide) rfl (Nat.le_refl _) (Nat.le_refl _) dX6_type_5 ?_
  show G E κ _ _ _ [some (vr 79), some (vi a0)] [vi (b2i (f6_in a0 1 255))] (mm I)
  refine G_if_ne (tgt := 13) X dX6_type_8 (by decide) (fun hc1 => ?_) (fun hc1 => ?_)
  · have hf := (if_pos (b2i_t hc1)).symm.trans hf
    refine G_aload_n (x := some (79)) X dX6_type_13 rfl rfl ?_
    refine M_getI X fd_X6_105 rfl (show SH[79]? = some (_, 0) from rfl) dX6_type_14 ?_
    refine G_bipush (v := 100) X dX6_type_17 rfl ?_
    refine G_icmp_ne (tgt := 25) X dX6_type_19 (by decide) (fun hc2 => ?_) (fun hc2 => ?_)
    · have hf := (if_neg hc2).symm.trans hf
      refine G_aload_n (x := some (79)) X dX6_type_25 rfl rfl ?_
      refine M_getR X fd_X6_14 rfl (show SH[79]? = some (_, 0) from rfl) rfl dX6_type_26 ?_
      refine G_aload_n (x := some (79)) X dX6_type_29 rfl rfl ?_
      refine M_getI X fd_X6_105 rfl (show SH[79]? = some (_, 0) from rfl) dX6_type_30 ?_
      refine G_iload_n (x := a0) X dX6_type_33 rfl rfl ?_
      obtain ⟨hc3, hf⟩ := ock hf
      refine M_iast X (show SH[81]? = some (_, 100) from rfl) hc3 dX6_type_34 ?_
      refine G_aload_n (x := some (79)) X dX6_type_35 rfl rfl ?_
      refine G_dup X dX6_type_36 ?_
      refine M_getI X fd_X6_105 rfl (show SH[79]? = some (_, 0) from rfl) dX6_type_37 ?_
      refine G_iconst (v := 1) X dX6_type_40 rfl ?_
      refine G_iadd X dX6_type_41 ?_
      refine M_putI X fd_X6_105 rfl (show SH[79]? = some (_, 0) from rfl) rfl rfl dX6_type_42 ?_
      refine G_aload_n (x := some (79)) X dX6_type_45 rfl rfl ?_
      refine M_getI X fd_X6_105 rfl (show SH[79]? = some (_, 0) from rfl) dX6_type_46 ?_
      obtain ⟨rfl, rfl⟩ := Prod.mk.inj (Option.some.inj hf)
      exact G_iret X hR rfl rfl dX6_type_49
    · have hf := (if_pos hc2).symm.trans hf
      refine G_bipush (v := (-3)) X dX6_type_22 rfl ?_
      obtain ⟨rfl, rfl⟩ := Prod.mk.inj (Option.some.inj hf)
      exact G_iret X hR rfl rfl dX6_type_24
  · have hf := (if_neg (b2i_f hc1)).symm.trans hf
    refine G_iconst (v := (-1)) X dX6_type_11 rfl ?_
    obtain ⟨rfl, rfl⟩ := Prod.mk.inj (Option.some.inj hf)
    exact G_iret X hR rfl rfl dX6_type_12

def f6_clearText (I : gI)  : Option (Int32 × gI) := some (I 79 3, uI I 79 3 0)
set_option maxRecDepth 100000 in
set_option maxHeartbeats 4000000 in
theorem f6_clearText_ok (E : gEnv) (I : gI)  (r : Int32) (I' : gI) (hf : f6_clearText I  = some (r, I')) : Ctr E yX6_clearText cX6_clearText 2 (some .int) 0 0 0 [vr 79] (mm I) (some (vi r)) (mm I') := by
  refine Ctr.mk (by decide +kernel) (Nat.le_of_ble_eq_true rfl) fun κ X hR _ => ?_
  have X : Cx E κ cX6_clearText 2 RX6 (some .int) 0 0 0 := X
  show G E κ 0 0 0 [some (vr 79), none] [] (mm I)
  unfold f6_clearText at hf
  refine G_aload_n (x := some (79)) X dX6_clearText_0 rfl rfl ?_
  refine M_getI X fd_X6_105 rfl (show SH[79]? = some (_, 0) from rfl) dX6_clearText_1 ?_
  refine G_istore_n X dX6_clearText_4 rfl (Nat.le_of_ble_eq_true rfl) (ls' := [some (vr 79), some (vi (I 79 3))]) rfl ?_
  refine G_aload_n (x := some (79)) X dX6_clearText_5 rfl rfl ?_
  refine G_iconst (v := 0) X dX6_clearText_6 rfl ?_
  refine M_putI X fd_X6_105 rfl (show SH[79]? = some (_, 0) from rfl) rfl rfl dX6_clearText_7 ?_
  refine G_iload_n (x := I 79 3) X dX6_clearText_10 rfl rfl ?_
  obtain ⟨rfl, rfl⟩ := Prod.mk.inj (Option.some.inj hf)
  exact G_iret X hR rfl rfl dX6_clearText_11

def f6_evaluate (I : gI) (a0 : Int32) : Option (Int32 × gI) := (f6_isRow I a0).bind fun v1 => (if v1 = true then (f6_reads I 0).bind fun q3 => (if q3.1 = true then (if (q3.2 79 14) < 0 then (f6_record q3.2).bind fun I6 => (f6_reads I6 1).bind fun q7 => (f6_copy q7.2 (f6_asked 0) (f6_at a0)).bind fun I8 => (f6_words I8 (f6_at a0) 3).bind fun v9 => some (v9, I8) else (f6_fail q3.2 2 (q3.2 79 14) (q3.2 79 15)).bind fun q10 => some (q10.1, q10.2)) else (f6_fail q3.2 1 (q3.2 79 8) (q3.2 79 11)).bind fun q11 => some (q11.1, q11.2)) else some ((-1), I))
set_option maxRecDepth 100000 in
set_option maxHeartbeats 4000000 in
theorem f6_evaluate_ok (E : gEnv) (I : gI) (a0 : Int32) (r : Int32) (I' : gI) (hf : f6_evaluate I a0 = some (r, I')) : Ctr E yX6_evaluate cX6_evaluate 2 (some .int) 6 0 0 [vr 79, vi a0] (mm I) (some (vi r)) (mm I') := by
  refine Ctr.mk (by decide +kernel) (Nat.le_of_ble_eq_true rfl) fun κ X hR _ => ?_
  have X : Cx E κ cX6_evaluate 2 RX6 (some .int) 6 0 0 := X
  show G E κ 0 0 0 [some (vr 79), some (vi a0)] [] (mm I)
  unfold f6_evaluate at hf
  refine G_aload_n (x := some (79)) X dX6_evaluate_0 rfl rfl ?_
  refine G_iload_n (x := a0) X dX6_evaluate_1 rfl rfl ?_
  obtain ⟨v1, hk1, hf⟩ := obd hf
  refine G_callV (As := [vi a0]) X (f6_isRow_ok E I a0 v1 hk1) cb_X6_74 vi_X6_isRow (ci := 5) rfl rfl (show SH[79]? = some (_, 0) from rfl) rfl rfl (Nat.le_of_ble_eq_true rfl) (by decide) (by decide) rfl (Nat.le_refl _) (Nat.le_refl _) dX6_evaluate_2 ?_
  show G E κ _ _ _ [some (vr 79), some (vi a0)] [vi (b2i v1)] (mm I)
  refine G_if_ne (tgt := 10) X dX6_evaluate_5 (by decide) (fun hc2 => ?_) (fun hc2 => ?_)
  · have hf := (if_pos (b2i_t hc2)).symm.trans hf
    refine G_aload_n (x := some (79)) X dX6_evaluate_10 rfl rfl ?_
    refine G_iconst (v := 0) X dX6_evaluate_11 rfl ?_
    obtain ⟨⟨v3, I3⟩, hk3, hf⟩ := obd hf
    try dsimp only at hf
    refine G_callV (As := [vi 0]) X (f6_reads_ok E I 0 v3 I3 hk3) cb_X6_183 vi_X6_reads (ci := 5) rfl rfl (show SH[79]? = some (_, 0) from rfl) rfl rfl (Nat.le_of_ble_eq_true rfl) (by decide) (by decide) rfl (Nat.le_refl _) (Nat.le_refl _) dX6_evaluate_12 ?_
    show G E κ _ _ _ [some (vr 79), some (vi a0)] [vi (b2i v3)] (mm I3)
    refine G_if_ne (tgt := 32) X dX6_evaluate_15 (by decide) (fun hc4 => ?_) (fun hc4 => ?_)
    · have hf := (if_pos (b2i_t hc4)).symm.trans hf
      refine G_aload_n (x := some (79)) X dX6_evaluate_32 rfl rfl ?_
      refine M_getI X fd_X6_111 rfl (show SH[79]? = some (_, 0) from rfl) dX6_evaluate_33 ?_
      refine G_if_lt (tgt := 53) X dX6_evaluate_36 (by decide) (fun hc5 => ?_) (fun hc5 => ?_)
      · have hf := (if_pos hc5).symm.trans hf
        refine G_aload_n (x := some (79)) X dX6_evaluate_53 rfl rfl ?_
        obtain ⟨I6, hk6, hf⟩ := obd hf
        refine G_callV (As := []) X (f6_record_ok E I3  I6 hk6) cb_X6_68 vi_X6_record (ci := 5) rfl rfl (show SH[79]? = some (_, 0) from rfl) rfl rfl (Nat.le_of_ble_eq_true rfl) (by decide) (by decide) rfl (Nat.le_refl _) (Nat.le_refl _) dX6_evaluate_54 ?_
        show G E κ _ _ _ [some (vr 79), some (vi a0)] [] (mm I6)
        refine G_aload_n (x := some (79)) X dX6_evaluate_57 rfl rfl ?_
        refine G_iconst (v := 1) X dX6_evaluate_58 rfl ?_
        obtain ⟨⟨v7, I7⟩, hk7, hf⟩ := obd hf
        try dsimp only at hf
        refine G_callV (As := [vi 1]) X (f6_reads_ok E I6 1 v7 I7 hk7) cb_X6_183 vi_X6_reads (ci := 5) rfl rfl (show SH[79]? = some (_, 0) from rfl) rfl rfl (Nat.le_of_ble_eq_true rfl) (by decide) (by decide) rfl (Nat.le_refl _) (Nat.le_refl _) dX6_evaluate_59 ?_
        show G E κ _ _ _ [some (vr 79), some (vi a0)] [vi (b2i v7)] (mm I7)
        refine G_pop X dX6_evaluate_62 ?_
        refine G_aload_n (x := some (79)) X dX6_evaluate_63 rfl rfl ?_
        refine G_iconst (v := 0) X dX6_evaluate_64 rfl ?_
        refine G_callS (As := [vi 0]) X (f6_asked_ok E I7 0 _ rfl) cb_X6_54 st_X6_asked rfl rfl (Nat.le_of_ble_eq_true rfl) (by decide) (by decide) rfl (Nat.le_refl _) (Nat.le_refl _) dX6_evaluate_65 ?_
        show G E κ _ _ _ [some (vr 79), some (vi a0)] [vi (f6_asked 0), vr 79] (mm I7)
        refine G_iload_n (x := a0) X dX6_evaluate_68 rfl rfl ?_
        refine G_callS (As := [vi a0]) X (f6_at_ok E I7 a0 _ rfl) cb_X6_71 st_X6_at rfl rfl (Nat.le_of_ble_eq_true rfl) (by decide) (by decide) rfl (Nat.le_refl _) (Nat.le_refl _) dX6_evaluate_69 ?_
        show G E κ _ _ _ [some (vr 79), some (vi a0)] [vi (f6_at a0), vi (f6_asked 0), vr 79] (mm I7)
        obtain ⟨I8, hk8, hf⟩ := obd hf
        refine G_callV (As := [vi (f6_asked 0), vi (f6_at a0)]) X (f6_copy_ok E I7 (f6_asked 0) (f6_at a0) I8 hk8) cb_X6_65 vi_X6_copy (ci := 5) rfl rfl (show SH[79]? = some (_, 0) from rfl) rfl rfl (Nat.le_of_ble_eq_true rfl) (by decide) (by decide) rfl (Nat.le_refl _) (Nat.le_refl _) dX6_evaluate_72 ?_
        show G E κ _ _ _ [some (vr 79), some (vi a0)] [] (mm I8)
        refine G_aload_n (x := some (79)) X dX6_evaluate_75 rfl rfl ?_
        refine G_iload_n (x := a0) X dX6_evaluate_76 rfl rfl ?_
        refine G_callS (As := [vi a0]) X (f6_at_ok E I8 a0 _ rfl) cb_X6_71 st_X6_at rfl rfl (Nat.le_of_ble_eq_true rfl) (by decide) (by decide) rfl (Nat.le_refl _) (Nat.le_refl _) dX6_evaluate_77 ?_
        show G E κ _ _ _ [some (vr 79), some (vi a0)] [vi (f6_at a0), vr 79] (mm I8)
        refine G_iconst (v := 3) X dX6_evaluate_80 rfl ?_
        obtain ⟨v9, hk9, hf⟩ := obd hf
        refine G_callV (As := [vi (f6_at a0), vi 3]) X (f6_words_ok E I8 (f6_at a0) 3 v9 hk9) cb_X6_82 vi_X6_words (ci := 5) rfl rfl (show SH[79]? = some (_, 0) from rfl) rfl rfl (Nat.le_of_ble_eq_true rfl) (by decide) (by decide) rfl (Nat.le_refl _) (Nat.le_refl _) dX6_evaluate_81 ?_
        show G E κ _ _ _ [some (vr 79), some (vi a0)] [vi v9] (mm I8)
        obtain ⟨rfl, rfl⟩ := Prod.mk.inj (Option.some.inj hf)
        exact G_iret X hR rfl rfl dX6_evaluate_84
      · have hf := (if_neg hc5).symm.trans hf
        refine G_aload_n (x := some (79)) X dX6_evaluate_39 rfl rfl ?_
        refine G_iconst (v := 2) X dX6_evaluate_40 rfl ?_
        refine G_aload_n (x := some (79)) X dX6_evaluate_41 rfl rfl ?_
        refine M_getI X fd_X6_111 rfl (show SH[79]? = some (_, 0) from rfl) dX6_evaluate_42 ?_
        refine G_aload_n (x := some (79)) X dX6_evaluate_45 rfl rfl ?_
        refine M_getI X fd_X6_117 rfl (show SH[79]? = some (_, 0) from rfl) dX6_evaluate_46 ?_
        obtain ⟨⟨v10, I10⟩, hk10, hf⟩ := obd hf
        try dsimp only at hf
        refine G_callV (As := [vi 2, vi (I3 79 14), vi (I3 79 15)]) X (f6_fail_ok E I3 2 (I3 79 14) (I3 79 15) v10 I10 hk10) cb_X6_187 vi_X6_fail (ci := 5) rfl rfl (show SH[79]? = some (_, 0) from rfl) rfl rfl (Nat.le_of_ble_eq_true rfl) (by decide) (by decide) rfl (Nat.le_refl _) (Nat.le_refl _) dX6_evaluate_49 ?_
        show G E κ _ _ _ [some (vr 79), some (vi a0)] [vi v10] (mm I10)
        obtain ⟨rfl, rfl⟩ := Prod.mk.inj (Option.some.inj hf)
        exact G_iret X hR rfl rfl dX6_evaluate_52
    · have hf := (if_neg (b2i_f hc4)).symm.trans hf
      refine G_aload_n (x := some (79)) X dX6_evaluate_18 rfl rfl ?_
      refine G_iconst (v := 1) X dX6_evaluate_19 rfl ?_
      refine G_aload_n (x := some (79)) X dX6_evaluate_20 rfl rfl ?_
      refine M_getI X fd_X6_108 rfl (show SH[79]? = some (_, 0) from rfl) dX6_evaluate_21 ?_
      refine G_aload_n (x := some (79)) X dX6_evaluate_24 rfl rfl ?_
      refine M_getI X fd_X6_114 rfl (show SH[79]? = some (_, 0) from rfl) dX6_evaluate_25 ?_
      obtain ⟨⟨v11, I11⟩, hk11, hf⟩ := obd hf
      try dsimp only at hf
      refine G_callV (As := [vi 1, vi (I3 79 8), vi (I3 79 11)]) X (f6_fail_ok E I3 1 (I3 79 8) (I3 79 11) v11 I11 hk11) cb_X6_187 vi_X6_fail (ci := 5) rfl rfl (show SH[79]? = some (_, 0) from rfl) rfl rfl (Nat.le_of_ble_eq_true rfl) (by decide) (by decide) rfl (Nat.le_refl _) (Nat.le_refl _) dX6_evaluate_28 ?_
      show G E κ _ _ _ [some (vr 79), some (vi a0)] [vi v11] (mm I11)
      obtain ⟨rfl, rfl⟩ := Prod.mk.inj (Option.some.inj hf)
      exact G_iret X hR rfl rfl dX6_evaluate_31
  · have hf := (if_neg (b2i_f hc2)).symm.trans hf
    refine G_iconst (v := (-1)) X dX6_evaluate_8 rfl ?_
    obtain ⟨rfl, rfl⟩ := Prod.mk.inj (Option.some.inj hf)
    exact G_iret X hR rfl rfl dX6_evaluate_9

def f6_failure (I : gI) (a0 : Int32) : Int32 := (if (f6_in a0 0 2) = true then (if (I 79 5) = 0 then (-9) else (if a0 = 0 then I 79 5 else (if a0 = 1 then I 79 6 else I 79 7))) else (-1))
set_option maxRecDepth 100000 in
set_option maxHeartbeats 4000000 in
theorem f6_failure_ok (E : gEnv) (I : gI) (a0 : Int32) (r : Int32) (hf : f6_failure I a0 = r) : Ctr E yX6_failure cX6_failure 2 (some .int) 1 0 0 [vr 79, vi a0] (mm I) (some (vi r)) (mm I) := by
  refine Ctr.mk (by decide +kernel) (Nat.le_of_ble_eq_true rfl) fun κ X hR _ => ?_
  have X : Cx E κ cX6_failure 2 RX6 (some .int) 1 0 0 := X
  show G E κ 0 0 0 [some (vr 79), some (vi a0)] [] (mm I)
  unfold f6_failure at hf
  refine G_iload_n (x := a0) X dX6_failure_0 rfl rfl ?_
  refine G_iconst (v := 0) X dX6_failure_1 rfl ?_
  refine G_iconst (v := 2) X dX6_failure_2 rfl ?_
  refine G_callS (As := [vi a0, vi 0, vi 2]) X (f6_in_ok E I a0 0 2 _ rfl) cb_X6_31 st_X6_in rfl rfl (Nat.le_of_ble_eq_true rfl) (by decide) (by decide) rfl (Nat.le_refl _) (Nat.le_refl _) dX6_failure_3 ?_
  show G E κ _ _ _ [some (vr 79), some (vi a0)] [vi (b2i (f6_in a0 0 2))] (mm I)
  refine G_if_ne (tgt := 11) X dX6_failure_6 (by decide) (fun hc1 => ?_) (fun hc1 => ?_)
  · have hf := (if_pos (b2i_t hc1)).symm.trans hf
    refine G_aload_n (x := some (79)) X dX6_failure_11 rfl rfl ?_
    refine M_getI X fd_X6_174 rfl (show SH[79]? = some (_, 0) from rfl) dX6_failure_12 ?_
    refine G_if_ne (tgt := 23) X dX6_failure_15 (by decide) (fun hc2 => ?_) (fun hc2 => ?_)
    · have hf := (if_neg hc2).symm.trans hf
      refine G_iload_n (x := a0) X dX6_failure_23 rfl rfl ?_
      refine G_if_ne (tgt := 34) X dX6_failure_24 (by decide) (fun hc3 => ?_) (fun hc3 => ?_)
      · have hf := (if_neg hc3).symm.trans hf
        refine G_iload_n (x := a0) X dX6_failure_34 rfl rfl ?_
        refine G_iconst (v := 1) X dX6_failure_35 rfl ?_
        refine G_icmp_ne (tgt := 46) X dX6_failure_36 (by decide) (fun hc4 => ?_) (fun hc4 => ?_)
        · have hf := (if_neg hc4).symm.trans hf
          refine G_aload_n (x := some (79)) X dX6_failure_46 rfl rfl ?_
          refine M_getI X fd_X6_180 rfl (show SH[79]? = some (_, 0) from rfl) dX6_failure_47 ?_
          subst hf
          exact G_iret X hR rfl rfl dX6_failure_50
        · have hf := (if_pos hc4).symm.trans hf
          refine G_aload_n (x := some (79)) X dX6_failure_39 rfl rfl ?_
          refine M_getI X fd_X6_177 rfl (show SH[79]? = some (_, 0) from rfl) dX6_failure_40 ?_
          refine G_goto (tgt := 50) X dX6_failure_43 (by decide) ?_
          subst hf
          exact G_iret X hR rfl rfl dX6_failure_50
      · have hf := (if_pos hc3).symm.trans hf
        refine G_aload_n (x := some (79)) X dX6_failure_27 rfl rfl ?_
        refine M_getI X fd_X6_174 rfl (show SH[79]? = some (_, 0) from rfl) dX6_failure_28 ?_
        refine G_goto (tgt := 50) X dX6_failure_31 (by decide) ?_
        subst hf
        exact G_iret X hR rfl rfl dX6_failure_50
    · have hf := (if_pos hc2).symm.trans hf
      refine G_bipush (v := (-9)) X dX6_failure_18 rfl ?_
      refine G_goto (tgt := 50) X dX6_failure_20 (by decide) ?_
      subst hf
      exact G_iret X hR rfl rfl dX6_failure_50
  · have hf := (if_neg (b2i_f hc1)).symm.trans hf
    refine G_iconst (v := (-1)) X dX6_failure_9 rfl ?_
    subst hf
    exact G_iret X hR rfl rfl dX6_failure_10

def f6_count_L10 : Nat → gI → Int32 → Int32 → Int32 → Int32 → Int32 → Option Int32
  | 0, _, _, _, _, _, _ => none
  | k + 1, I, x1, x2, x3, x4, x5 => (if (I 80 4808) ≤ x5 then (if x1 = 0 then some (I 80 4808) else (if x1 = 1 then some x2 else (if x1 = 2 then some x3 else (if x1 = 3 then some x4 else (if x1 = 4 then some (I 79 1) else (if x1 = 5 then some (I 79 3) else some ((-1)))))))) else if ib (f6_at x5) 48086 = true then (f6_words I (f6_at x5) 3).bind fun v9 => (f6_ones I (f6_at x5)).bind fun v10 => f6_count_L10 k I x1 (x2 + (I 80 ((f6_at x5).toNatClampNeg))) (x3 + v9) (x4 + v10) (x5 + 1) else none)
set_option maxRecDepth 100000 in
set_option maxHeartbeats 4000000 in
theorem f6_count_L10_ok {E : gEnv} {κ : gCtx} (X : Cx E κ cX6_count 6 RX6 (some .int) 5 0 0) : ∀ (k : Nat) (I : gI) (x1 : Int32) (x2 : Int32) (x3 : Int32) (x4 : Int32) (x5 : Int32) (r : Int32) (hR : gRt E κ 0 0 (some (vi r)) (mm I)) (hf : f6_count_L10 k I x1 x2 x3 x4 x5 = some r), G E κ 0 0 10 [some (vr 79), some (vi x1), some (vi x2), some (vi x3), some (vi x4), some (vi x5)] [] (mm I) := by
  intro k
  induction k with
  | zero =>
    intros
    rename_i hf
    cases hf
  | succ k ih =>
    intro I x1 x2 x3 x4 x5 r hR hf
    refine G_iload (x := x5) X dX6_count_10 rfl ?_
    refine G_aload_n (x := some (79)) X dX6_count_12 rfl rfl ?_
    refine M_getR X fd_X6_8 rfl (show SH[79]? = some (_, 0) from rfl) rfl dX6_count_13 ?_
    refine G_sipush (v := 4808) X dX6_count_16 rfl ?_
    refine M_iald X (show SH[80]? = some (_, 48086) from rfl) (by decide) dX6_count_19 ?_
    show G E κ _ _ _ _ (vi (I 80 4808) :: _) _
    refine G_icmp_ge (tgt := 69) X dX6_count_20 (by decide) (fun hc1 => ?_) (fun hc1 => ?_)
    · have hf := (if_pos hc1).symm.trans hf
      refine G_iload_n (x := x1) X dX6_count_69 rfl rfl ?_
      by_cases hc2 : x1 = 0
      · have hf := (if_pos hc2).symm.trans hf
        refine G_tableJ (tgt := 108) X 0 dX6_count_70 hc2 (by decide) (by decide) rfl (by decide) ?_
        refine G_aload_n (x := some (79)) X dX6_count_108 rfl rfl ?_
        refine M_getR X fd_X6_8 rfl (show SH[79]? = some (_, 0) from rfl) rfl dX6_count_109 ?_
        refine G_sipush (v := 4808) X dX6_count_112 rfl ?_
        refine M_iald X (show SH[80]? = some (_, 48086) from rfl) (by decide) dX6_count_115 ?_
        show G E κ _ _ _ _ (vi (I 80 4808) :: _) _
        obtain rfl := Option.some.inj hf
        exact G_iret X hR rfl rfl dX6_count_116
      have hf := (if_neg hc2).symm.trans hf
      by_cases hc3 : x1 = 1
      · have hf := (if_pos hc3).symm.trans hf
        refine G_tableJ (tgt := 117) X 1 dX6_count_70 hc3 (by decide) (by decide) rfl (by decide) ?_
        refine G_iload_n (x := x2) X dX6_count_117 rfl rfl ?_
        obtain rfl := Option.some.inj hf
        exact G_iret X hR rfl rfl dX6_count_118
      have hf := (if_neg hc3).symm.trans hf
      by_cases hc4 : x1 = 2
      · have hf := (if_pos hc4).symm.trans hf
        refine G_tableJ (tgt := 119) X 2 dX6_count_70 hc4 (by decide) (by decide) rfl (by decide) ?_
        refine G_iload_n (x := x3) X dX6_count_119 rfl rfl ?_
        obtain rfl := Option.some.inj hf
        exact G_iret X hR rfl rfl dX6_count_120
      have hf := (if_neg hc4).symm.trans hf
      by_cases hc5 : x1 = 3
      · have hf := (if_pos hc5).symm.trans hf
        refine G_tableJ (tgt := 121) X 3 dX6_count_70 hc5 (by decide) (by decide) rfl (by decide) ?_
        refine G_iload (x := x4) X dX6_count_121 rfl ?_
        obtain rfl := Option.some.inj hf
        exact G_iret X hR rfl rfl dX6_count_123
      have hf := (if_neg hc5).symm.trans hf
      by_cases hc6 : x1 = 4
      · have hf := (if_pos hc6).symm.trans hf
        refine G_tableJ (tgt := 124) X 4 dX6_count_70 hc6 (by decide) (by decide) rfl (by decide) ?_
        refine G_aload_n (x := some (79)) X dX6_count_124 rfl rfl ?_
        refine M_getI X fd_X6_23 rfl (show SH[79]? = some (_, 0) from rfl) dX6_count_125 ?_
        obtain rfl := Option.some.inj hf
        exact G_iret X hR rfl rfl dX6_count_128
      have hf := (if_neg hc6).symm.trans hf
      by_cases hc7 : x1 = 5
      · have hf := (if_pos hc7).symm.trans hf
        refine G_tableJ (tgt := 129) X 5 dX6_count_70 hc7 (by decide) (by decide) rfl (by decide) ?_
        refine G_aload_n (x := some (79)) X dX6_count_129 rfl rfl ?_
        refine M_getI X fd_X6_105 rfl (show SH[79]? = some (_, 0) from rfl) dX6_count_130 ?_
        obtain rfl := Option.some.inj hf
        exact G_iret X hR rfl rfl dX6_count_133
      have hf := (if_neg hc7).symm.trans hf
      refine G_tableD (tgt := 134) X 6 dX6_count_70 (by decide) (lt_s (lt_s (lt_s (lt_s (lt_s (lt_s lt_0 hc2) hc3) hc4) hc5) hc6) hc7) (by decide) ?_
      refine G_iconst (v := (-1)) X dX6_count_134 rfl ?_
      obtain rfl := Option.some.inj hf
      exact G_iret X hR rfl rfl dX6_count_135
    · have hf := (if_neg hc1).symm.trans hf
      refine G_iload_n (x := x2) X dX6_count_23 rfl rfl ?_
      refine G_aload_n (x := some (79)) X dX6_count_24 rfl rfl ?_
      refine M_getR X fd_X6_8 rfl (show SH[79]? = some (_, 0) from rfl) rfl dX6_count_25 ?_
      refine G_iload (x := x5) X dX6_count_28 rfl ?_
      refine G_callS (As := [vi x5]) X (f6_at_ok E I x5 _ rfl) cb_X6_71 st_X6_at rfl rfl (Nat.le_of_ble_eq_true rfl) (by decide) (by decide) rfl (Nat.le_refl _) (Nat.le_refl _) dX6_count_30 ?_
      show G E κ _ _ _ [some (vr 79), some (vi x1), some (vi x2), some (vi x3), some (vi x4), some (vi x5)] [vi (f6_at x5), vr 80, vi x2] (mm I)
      obtain ⟨hc8, hf⟩ := ock hf
      refine M_iald X (show SH[80]? = some (_, 48086) from rfl) hc8 dX6_count_33 ?_
      refine G_iadd X dX6_count_34 ?_
      refine G_istore_n X dX6_count_35 rfl (Nat.le_of_ble_eq_true rfl) (ls' := [some (vr 79), some (vi x1), some (vi (x2 + (I 80 ((f6_at x5).toNatClampNeg)))), some (vi x3), some (vi x4), some (vi x5)]) rfl ?_
      refine G_iload_n (x := x3) X dX6_count_36 rfl rfl ?_
      refine G_aload_n (x := some (79)) X dX6_count_37 rfl rfl ?_
      refine G_iload (x := x5) X dX6_count_38 rfl ?_
      refine G_callS (As := [vi x5]) X (f6_at_ok E I x5 _ rfl) cb_X6_71 st_X6_at rfl rfl (Nat.le_of_ble_eq_true rfl) (by decide) (by decide) rfl (Nat.le_refl _) (Nat.le_refl _) dX6_count_40 ?_
      show G E κ _ _ _ [some (vr 79), some (vi x1), some (vi (x2 + (I 80 ((f6_at x5).toNatClampNeg)))), some (vi x3), some (vi x4), some (vi x5)] [vi (f6_at x5), vr 79, vi x3] (mm I)
      refine G_iconst (v := 3) X dX6_count_43 rfl ?_
      obtain ⟨v9, hk9, hf⟩ := obd hf
      refine G_callV (As := [vi (f6_at x5), vi 3]) X (f6_words_ok E I (f6_at x5) 3 v9 hk9) cb_X6_82 vi_X6_words (ci := 5) rfl rfl (show SH[79]? = some (_, 0) from rfl) rfl rfl (Nat.le_of_ble_eq_true rfl) (by decide) (by decide) rfl (Nat.le_refl _) (Nat.le_refl _) dX6_count_44 ?_
      show G E κ _ _ _ [some (vr 79), some (vi x1), some (vi (x2 + (I 80 ((f6_at x5).toNatClampNeg)))), some (vi x3), some (vi x4), some (vi x5)] [vi v9, vi x3] (mm I)
      refine G_iadd X dX6_count_47 ?_
      refine G_istore_n X dX6_count_48 rfl (Nat.le_of_ble_eq_true rfl) (ls' := [some (vr 79), some (vi x1), some (vi (x2 + (I 80 ((f6_at x5).toNatClampNeg)))), some (vi (x3 + v9)), some (vi x4), some (vi x5)]) rfl ?_
      refine G_iload (x := x4) X dX6_count_49 rfl ?_
      refine G_aload_n (x := some (79)) X dX6_count_51 rfl rfl ?_
      refine G_iload (x := x5) X dX6_count_52 rfl ?_
      refine G_callS (As := [vi x5]) X (f6_at_ok E I x5 _ rfl) cb_X6_71 st_X6_at rfl rfl (Nat.le_of_ble_eq_true rfl) (by decide) (by decide) rfl (Nat.le_refl _) (Nat.le_refl _) dX6_count_54 ?_
      show G E κ _ _ _ [some (vr 79), some (vi x1), some (vi (x2 + (I 80 ((f6_at x5).toNatClampNeg)))), some (vi (x3 + v9)), some (vi x4), some (vi x5)] [vi (f6_at x5), vr 79, vi x4] (mm I)
      obtain ⟨v10, hk10, hf⟩ := obd hf
      refine G_callV (As := [vi (f6_at x5)]) X (f6_ones_ok E I (f6_at x5) v10 hk10) cb_X6_99 vi_X6_ones (ci := 5) rfl rfl (show SH[79]? = some (_, 0) from rfl) rfl rfl (Nat.le_of_ble_eq_true rfl) (by decide) (by decide) rfl (Nat.le_refl _) (Nat.le_refl _) dX6_count_57 ?_
      show G E κ _ _ _ [some (vr 79), some (vi x1), some (vi (x2 + (I 80 ((f6_at x5).toNatClampNeg)))), some (vi (x3 + v9)), some (vi x4), some (vi x5)] [vi v10, vi x4] (mm I)
      refine G_iadd X dX6_count_60 ?_
      refine G_istore X dX6_count_61 (Nat.le_of_ble_eq_true rfl) (ls' := [some (vr 79), some (vi x1), some (vi (x2 + (I 80 ((f6_at x5).toNatClampNeg)))), some (vi (x3 + v9)), some (vi (x4 + v10)), some (vi x5)]) rfl ?_
      refine G_iinc (x := x5) (v := 1) X dX6_count_63 rfl rfl (ls' := [some (vr 79), some (vi x1), some (vi (x2 + (I 80 ((f6_at x5).toNatClampNeg)))), some (vi (x3 + v9)), some (vi (x4 + v10)), some (vi (x5 + 1))]) rfl ?_
      refine G_goto (tgt := 10) X dX6_count_66 (by decide) ?_
      exact ih I x1 (x2 + (I 80 ((f6_at x5).toNatClampNeg))) (x3 + v9) (x4 + v10) (x5 + 1) _ hR hf

def f6_count (I : gI) (a0 : Int32) : Option Int32 := f6_count_L10 FU I a0 0 0 0 0
set_option maxRecDepth 100000 in
set_option maxHeartbeats 4000000 in
theorem f6_count_ok (E : gEnv) (I : gI) (a0 : Int32) (r : Int32) (hf : f6_count I a0 = some r) : Ctr E yX6_count cX6_count 6 (some .int) 5 0 0 [vr 79, vi a0] (mm I) (some (vi r)) (mm I) := by
  refine Ctr.mk (by decide +kernel) (Nat.le_of_ble_eq_true rfl) fun κ X hR _ => ?_
  have X : Cx E κ cX6_count 6 RX6 (some .int) 5 0 0 := X
  show G E κ 0 0 0 [some (vr 79), some (vi a0), none, none, none, none] [] (mm I)
  unfold f6_count at hf
  refine G_iconst (v := 0) X dX6_count_0 rfl ?_
  refine G_istore_n X dX6_count_1 rfl (Nat.le_of_ble_eq_true rfl) (ls' := [some (vr 79), some (vi a0), some (vi 0), none, none, none]) rfl ?_
  refine G_iconst (v := 0) X dX6_count_2 rfl ?_
  refine G_istore_n X dX6_count_3 rfl (Nat.le_of_ble_eq_true rfl) (ls' := [some (vr 79), some (vi a0), some (vi 0), some (vi 0), none, none]) rfl ?_
  refine G_iconst (v := 0) X dX6_count_4 rfl ?_
  refine G_istore X dX6_count_5 (Nat.le_of_ble_eq_true rfl) (ls' := [some (vr 79), some (vi a0), some (vi 0), some (vi 0), some (vi 0), none]) rfl ?_
  refine G_iconst (v := 0) X dX6_count_7 rfl ?_
  refine G_istore X dX6_count_8 (Nat.le_of_ble_eq_true rfl) (ls' := [some (vr 79), some (vi a0), some (vi 0), some (vi 0), some (vi 0), some (vi 0)]) rfl ?_
  exact f6_count_L10_ok X FU I a0 0 0 0 0 _ hR hf

def f6_row (I : gI) (a0 : Int32) (a1 : Int32) : Option Int32 := (f6_isRow I a0).bind fun v1 => (if v1 = true then (if a1 = 0 then if ib (f6_at a0) 48086 = true then some (I 80 ((f6_at a0).toNatClampNeg)) else none else (if a1 = 1 then (f6_words I (f6_at a0) 3).bind fun v6 => some v6 else (if a1 = 2 then (f6_words I (f6_at a0) 2).bind fun v8 => some v8 else (if a1 = 3 then (f6_words I (f6_at a0) (a1 - 3)).bind fun v10 => some v10 else (if a1 = 4 then (f6_words I (f6_at a0) (a1 - 3)).bind fun v12 => some v12 else (if a1 = 5 then (f6_ones I (f6_at a0)).bind fun v14 => some v14 else (if a1 = 6 then (f6_placeOf I (f6_at a0) 0).bind fun v16 => some v16 else (if a1 = 7 then (f6_ones I (f6_at a0)).bind fun v18 => (if v18 = 0 then some ((-9)) else (f6_ones I (f6_at a0)).bind fun v20 => (f6_placeOf I (f6_at a0) (v20 - 1)).bind fun v21 => some v21) else some ((-1)))))))))) else some ((-1)))
set_option maxRecDepth 100000 in
set_option maxHeartbeats 4000000 in
theorem f6_row_ok (E : gEnv) (I : gI) (a0 : Int32) (a1 : Int32) (r : Int32) (hf : f6_row I a0 a1 = some r) : Ctr E yX6_row cX6_row 4 (some .int) 5 0 0 [vr 79, vi a0, vi a1] (mm I) (some (vi r)) (mm I) := by
  refine Ctr.mk (by decide +kernel) (Nat.le_of_ble_eq_true rfl) fun κ X hR _ => ?_
  have X : Cx E κ cX6_row 4 RX6 (some .int) 5 0 0 := X
  show G E κ 0 0 0 [some (vr 79), some (vi a0), some (vi a1), none] [] (mm I)
  unfold f6_row at hf
  refine G_aload_n (x := some (79)) X dX6_row_0 rfl rfl ?_
  refine G_iload_n (x := a0) X dX6_row_1 rfl rfl ?_
  obtain ⟨v1, hk1, hf⟩ := obd hf
  refine G_callV (As := [vi a0]) X (f6_isRow_ok E I a0 v1 hk1) cb_X6_74 vi_X6_isRow (ci := 5) rfl rfl (show SH[79]? = some (_, 0) from rfl) rfl rfl (Nat.le_of_ble_eq_true rfl) (by decide) (by decide) rfl (Nat.le_refl _) (Nat.le_refl _) dX6_row_2 ?_
  show G E κ _ _ _ [some (vr 79), some (vi a0), some (vi a1), none] [vi (b2i v1)] (mm I)
  refine G_if_ne (tgt := 10) X dX6_row_5 (by decide) (fun hc2 => ?_) (fun hc2 => ?_)
  · have hf := (if_pos (b2i_t hc2)).symm.trans hf
    refine G_iload_n (x := a0) X dX6_row_10 rfl rfl ?_
    refine G_callS (As := [vi a0]) X (f6_at_ok E I a0 _ rfl) cb_X6_71 st_X6_at rfl rfl (Nat.le_of_ble_eq_true rfl) (by decide) (by decide) rfl (Nat.le_refl _) (Nat.le_refl _) dX6_row_11 ?_
    show G E κ _ _ _ [some (vr 79), some (vi a0), some (vi a1), none] [vi (f6_at a0)] (mm I)
    refine G_istore_n X dX6_row_14 rfl (Nat.le_of_ble_eq_true rfl) (ls' := [some (vr 79), some (vi a0), some (vi a1), some (vi (f6_at a0))]) rfl ?_
    refine G_iload_n (x := a1) X dX6_row_15 rfl rfl ?_
    by_cases hc3 : a1 = 0
    · have hf := (if_pos hc3).symm.trans hf
      refine G_tableJ (tgt := 64) X 0 dX6_row_16 hc3 (by decide) (by decide) rfl (by decide) ?_
      refine G_aload_n (x := some (79)) X dX6_row_64 rfl rfl ?_
      refine M_getR X fd_X6_8 rfl (show SH[79]? = some (_, 0) from rfl) rfl dX6_row_65 ?_
      refine G_iload_n (x := f6_at a0) X dX6_row_68 rfl rfl ?_
      obtain ⟨hc4, hf⟩ := ock hf
      refine M_iald X (show SH[80]? = some (_, 48086) from rfl) hc4 dX6_row_69 ?_
      obtain rfl := Option.some.inj hf
      exact G_iret X hR rfl rfl dX6_row_70
    have hf := (if_neg hc3).symm.trans hf
    by_cases hc5 : a1 = 1
    · have hf := (if_pos hc5).symm.trans hf
      refine G_tableJ (tgt := 71) X 1 dX6_row_16 hc5 (by decide) (by decide) rfl (by decide) ?_
      refine G_aload_n (x := some (79)) X dX6_row_71 rfl rfl ?_
      refine G_iload_n (x := f6_at a0) X dX6_row_72 rfl rfl ?_
      refine G_iconst (v := 3) X dX6_row_73 rfl ?_
      obtain ⟨v6, hk6, hf⟩ := obd hf
      refine G_callV (As := [vi (f6_at a0), vi 3]) X (f6_words_ok E I (f6_at a0) 3 v6 hk6) cb_X6_82 vi_X6_words (ci := 5) rfl rfl (show SH[79]? = some (_, 0) from rfl) rfl rfl (Nat.le_of_ble_eq_true rfl) (by decide) (by decide) rfl (Nat.le_refl _) (Nat.le_refl _) dX6_row_74 ?_
      show G E κ _ _ _ [some (vr 79), some (vi a0), some (vi a1), some (vi (f6_at a0))] [vi v6] (mm I)
      obtain rfl := Option.some.inj hf
      exact G_iret X hR rfl rfl dX6_row_77
    have hf := (if_neg hc5).symm.trans hf
    by_cases hc7 : a1 = 2
    · have hf := (if_pos hc7).symm.trans hf
      refine G_tableJ (tgt := 78) X 2 dX6_row_16 hc7 (by decide) (by decide) rfl (by decide) ?_
      refine G_aload_n (x := some (79)) X dX6_row_78 rfl rfl ?_
      refine G_iload_n (x := f6_at a0) X dX6_row_79 rfl rfl ?_
      refine G_iconst (v := 2) X dX6_row_80 rfl ?_
      obtain ⟨v8, hk8, hf⟩ := obd hf
      refine G_callV (As := [vi (f6_at a0), vi 2]) X (f6_words_ok E I (f6_at a0) 2 v8 hk8) cb_X6_82 vi_X6_words (ci := 5) rfl rfl (show SH[79]? = some (_, 0) from rfl) rfl rfl (Nat.le_of_ble_eq_true rfl) (by decide) (by decide) rfl (Nat.le_refl _) (Nat.le_refl _) dX6_row_81 ?_
      show G E κ _ _ _ [some (vr 79), some (vi a0), some (vi a1), some (vi (f6_at a0))] [vi v8] (mm I)
      obtain rfl := Option.some.inj hf
      exact G_iret X hR rfl rfl dX6_row_84
    have hf := (if_neg hc7).symm.trans hf
    by_cases hc9 : a1 = 3
    · have hf := (if_pos hc9).symm.trans hf
      refine G_tableJ (tgt := 85) X 3 dX6_row_16 hc9 (by decide) (by decide) rfl (by decide) ?_
      refine G_aload_n (x := some (79)) X dX6_row_85 rfl rfl ?_
      refine G_iload_n (x := f6_at a0) X dX6_row_86 rfl rfl ?_
      refine G_iload_n (x := a1) X dX6_row_87 rfl rfl ?_
      refine G_iconst (v := 3) X dX6_row_88 rfl ?_
      refine G_isub X dX6_row_89 ?_
      obtain ⟨v10, hk10, hf⟩ := obd hf
      refine G_callV (As := [vi (f6_at a0), vi (a1 - 3)]) X (f6_words_ok E I (f6_at a0) (a1 - 3) v10 hk10) cb_X6_82 vi_X6_words (ci := 5) rfl rfl (show SH[79]? = some (_, 0) from rfl) rfl rfl (Nat.le_of_ble_eq_true rfl) (by decide) (by decide) rfl (Nat.le_refl _) (Nat.le_refl _) dX6_row_90 ?_
      show G E κ _ _ _ [some (vr 79), some (vi a0), some (vi a1), some (vi (f6_at a0))] [vi v10] (mm I)
      obtain rfl := Option.some.inj hf
      exact G_iret X hR rfl rfl dX6_row_93
    have hf := (if_neg hc9).symm.trans hf
    by_cases hc11 : a1 = 4
    · have hf := (if_pos hc11).symm.trans hf
      refine G_tableJ (tgt := 85) X 4 dX6_row_16 hc11 (by decide) (by decide) rfl (by decide) ?_
      refine G_aload_n (x := some (79)) X dX6_row_85 rfl rfl ?_
      refine G_iload_n (x := f6_at a0) X dX6_row_86 rfl rfl ?_
      refine G_iload_n (x := a1) X dX6_row_87 rfl rfl ?_
      refine G_iconst (v := 3) X dX6_row_88 rfl ?_
      refine G_isub X dX6_row_89 ?_
      obtain ⟨v12, hk12, hf⟩ := obd hf
      refine G_callV (As := [vi (f6_at a0), vi (a1 - 3)]) X (f6_words_ok E I (f6_at a0) (a1 - 3) v12 hk12) cb_X6_82 vi_X6_words (ci := 5) rfl rfl (show SH[79]? = some (_, 0) from rfl) rfl rfl (Nat.le_of_ble_eq_true rfl) (by decide) (by decide) rfl (Nat.le_refl _) (Nat.le_refl _) dX6_row_90 ?_
      show G E κ _ _ _ [some (vr 79), some (vi a0), some (vi a1), some (vi (f6_at a0))] [vi v12] (mm I)
      obtain rfl := Option.some.inj hf
      exact G_iret X hR rfl rfl dX6_row_93
    have hf := (if_neg hc11).symm.trans hf
    by_cases hc13 : a1 = 5
    · have hf := (if_pos hc13).symm.trans hf
      refine G_tableJ (tgt := 94) X 5 dX6_row_16 hc13 (by decide) (by decide) rfl (by decide) ?_
      refine G_aload_n (x := some (79)) X dX6_row_94 rfl rfl ?_
      refine G_iload_n (x := f6_at a0) X dX6_row_95 rfl rfl ?_
      obtain ⟨v14, hk14, hf⟩ := obd hf
      refine G_callV (As := [vi (f6_at a0)]) X (f6_ones_ok E I (f6_at a0) v14 hk14) cb_X6_99 vi_X6_ones (ci := 5) rfl rfl (show SH[79]? = some (_, 0) from rfl) rfl rfl (Nat.le_of_ble_eq_true rfl) (by decide) (by decide) rfl (Nat.le_refl _) (Nat.le_refl _) dX6_row_96 ?_
      show G E κ _ _ _ [some (vr 79), some (vi a0), some (vi a1), some (vi (f6_at a0))] [vi v14] (mm I)
      obtain rfl := Option.some.inj hf
      exact G_iret X hR rfl rfl dX6_row_99
    have hf := (if_neg hc13).symm.trans hf
    by_cases hc15 : a1 = 6
    · have hf := (if_pos hc15).symm.trans hf
      refine G_tableJ (tgt := 100) X 6 dX6_row_16 hc15 (by decide) (by decide) rfl (by decide) ?_
      refine G_aload_n (x := some (79)) X dX6_row_100 rfl rfl ?_
      refine G_iload_n (x := f6_at a0) X dX6_row_101 rfl rfl ?_
      refine G_iconst (v := 0) X dX6_row_102 rfl ?_
      obtain ⟨v16, hk16, hf⟩ := obd hf
      refine G_callV (As := [vi (f6_at a0), vi 0]) X (f6_placeOf_ok E I (f6_at a0) 0 v16 hk16) cb_X6_190 vi_X6_placeOf (ci := 5) rfl rfl (show SH[79]? = some (_, 0) from rfl) rfl rfl (Nat.le_of_ble_eq_true rfl) (by decide) (by decide) rfl (Nat.le_refl _) (Nat.le_refl _) dX6_row_103 ?_
      show G E κ _ _ _ [some (vr 79), some (vi a0), some (vi a1), some (vi (f6_at a0))] [vi v16] (mm I)
      obtain rfl := Option.some.inj hf
      exact G_iret X hR rfl rfl dX6_row_106
    have hf := (if_neg hc15).symm.trans hf
    by_cases hc17 : a1 = 7
    · have hf := (if_pos hc17).symm.trans hf
      refine G_tableJ (tgt := 107) X 7 dX6_row_16 hc17 (by decide) (by decide) rfl (by decide) ?_
      refine G_aload_n (x := some (79)) X dX6_row_107 rfl rfl ?_
      refine G_iload_n (x := f6_at a0) X dX6_row_108 rfl rfl ?_
      obtain ⟨v18, hk18, hf⟩ := obd hf
      refine G_callV (As := [vi (f6_at a0)]) X (f6_ones_ok E I (f6_at a0) v18 hk18) cb_X6_99 vi_X6_ones (ci := 5) rfl rfl (show SH[79]? = some (_, 0) from rfl) rfl rfl (Nat.le_of_ble_eq_true rfl) (by decide) (by decide) rfl (Nat.le_refl _) (Nat.le_refl _) dX6_row_109 ?_
      show G E κ _ _ _ [some (vr 79), some (vi a0), some (vi a1), some (vi (f6_at a0))] [vi v18] (mm I)
      refine G_if_ne (tgt := 120) X dX6_row_112 (by decide) (fun hc19 => ?_) (fun hc19 => ?_)
      · have hf := (if_neg hc19).symm.trans hf
        refine G_aload_n (x := some (79)) X dX6_row_120 rfl rfl ?_
        refine G_iload_n (x := f6_at a0) X dX6_row_121 rfl rfl ?_
        refine G_aload_n (x := some (79)) X dX6_row_122 rfl rfl ?_
        refine G_iload_n (x := f6_at a0) X dX6_row_123 rfl rfl ?_
        obtain ⟨v20, hk20, hf⟩ := obd hf
        refine G_callV (As := [vi (f6_at a0)]) X (f6_ones_ok E I (f6_at a0) v20 hk20) cb_X6_99 vi_X6_ones (ci := 5) rfl rfl (show SH[79]? = some (_, 0) from rfl) rfl rfl (Nat.le_of_ble_eq_true rfl) (by decide) (by decide) rfl (Nat.le_refl _) (Nat.le_refl _) dX6_row_124 ?_
        show G E κ _ _ _ [some (vr 79), some (vi a0), some (vi a1), some (vi (f6_at a0))] [vi v20, vi (f6_at a0), vr 79] (mm I)
        refine G_iconst (v := 1) X dX6_row_127 rfl ?_
        refine G_isub X dX6_row_128 ?_
        obtain ⟨v21, hk21, hf⟩ := obd hf
        refine G_callV (As := [vi (f6_at a0), vi (v20 - 1)]) X (f6_placeOf_ok E I (f6_at a0) (v20 - 1) v21 hk21) cb_X6_190 vi_X6_placeOf (ci := 5) rfl rfl (show SH[79]? = some (_, 0) from rfl) rfl rfl (Nat.le_of_ble_eq_true rfl) (by decide) (by decide) rfl (Nat.le_refl _) (Nat.le_refl _) dX6_row_129 ?_
        show G E κ _ _ _ [some (vr 79), some (vi a0), some (vi a1), some (vi (f6_at a0))] [vi v21] (mm I)
        obtain rfl := Option.some.inj hf
        exact G_iret X hR rfl rfl dX6_row_132
      · have hf := (if_pos hc19).symm.trans hf
        refine G_bipush (v := (-9)) X dX6_row_115 rfl ?_
        refine G_goto (tgt := 132) X dX6_row_117 (by decide) ?_
        obtain rfl := Option.some.inj hf
        exact G_iret X hR rfl rfl dX6_row_132
    have hf := (if_neg hc17).symm.trans hf
    refine G_tableD (tgt := 133) X 8 dX6_row_16 (by decide) (lt_s (lt_s (lt_s (lt_s (lt_s (lt_s (lt_s (lt_s lt_0 hc3) hc5) hc7) hc9) hc11) hc13) hc15) hc17) (by decide) ?_
    refine G_iconst (v := (-1)) X dX6_row_133 rfl ?_
    obtain rfl := Option.some.inj hf
    exact G_iret X hR rfl rfl dX6_row_134
  · have hf := (if_neg (b2i_f hc2)).symm.trans hf
    refine G_iconst (v := (-1)) X dX6_row_8 rfl ?_
    obtain rfl := Option.some.inj hf
    exact G_iret X hR rfl rfl dX6_row_9

def f6_word_L19 : Nat → gI → Int32 → Int32 → Int32 → Option Int32
  | 0, _, _, _, _ => none
  | k + 1, I, x1, x3, x4 => (f6_groups I (f6_at x1)).bind fun v4 => (if v4 ≤ x4 then some ((-9)) else (if x3 = 0 then (f6_codeAt I (f6_at x1) x4).bind fun v8 => some v8 else (f6_behind I (f6_at x1) x4).bind fun v7 => f6_word_L19 k I x1 (x3 + (-1)) v7))
set_option maxRecDepth 100000 in
set_option maxHeartbeats 4000000 in
theorem f6_word_L19_ok {E : gEnv} {κ : gCtx} (X : Cx E κ cX6_word 5 RX6 (some .int) 5 0 0) : ∀ (k : Nat) (I : gI) (x1 : Int32) (x3 : Int32) (x4 : Int32) (r : Int32) (hR : gRt E κ 0 0 (some (vi r)) (mm I)) (hf : f6_word_L19 k I x1 x3 x4 = some r), G E κ 0 0 19 [some (vr 79), some (vi x1), none, some (vi x3), some (vi x4)] [] (mm I) := by
  intro k
  induction k with
  | zero =>
    intros
    rename_i hf
    cases hf
  | succ k ih =>
    intro I x1 x3 x4 r hR hf
    refine G_iload (x := x4) X dX6_word_19 rfl ?_
    refine G_aload_n (x := some (79)) X dX6_word_21 rfl rfl ?_
    refine G_iload_n (x := x1) X dX6_word_22 rfl rfl ?_
    refine G_callS (As := [vi x1]) X (f6_at_ok E I x1 _ rfl) cb_X6_71 st_X6_at rfl rfl (Nat.le_of_ble_eq_true rfl) (by decide) (by decide) rfl (Nat.le_refl _) (Nat.le_refl _) dX6_word_23 ?_
    show G E κ _ _ _ [some (vr 79), some (vi x1), none, some (vi x3), some (vi x4)] [vi (f6_at x1), vr 79, vi x4] (mm I)
    obtain ⟨v4, hk4, hf⟩ := obd hf
    refine G_callV (As := [vi (f6_at x1)]) X (f6_groups_ok E I (f6_at x1) v4 hk4) cb_X6_45 vi_X6_groups (ci := 5) rfl rfl (show SH[79]? = some (_, 0) from rfl) rfl rfl (Nat.le_of_ble_eq_true rfl) (by decide) (by decide) rfl (Nat.le_refl _) (Nat.le_refl _) dX6_word_26 ?_
    show G E κ _ _ _ [some (vr 79), some (vi x1), none, some (vi x3), some (vi x4)] [vi v4, vi x4] (mm I)
    refine G_icmp_ge (tgt := 65) X dX6_word_29 (by decide) (fun hc5 => ?_) (fun hc5 => ?_)
    · have hf := (if_pos hc5).symm.trans hf
      refine G_bipush (v := (-9)) X dX6_word_65 rfl ?_
      obtain rfl := Option.some.inj hf
      exact G_iret X hR rfl rfl dX6_word_67
    · have hf := (if_neg hc5).symm.trans hf
      refine G_iload_n (x := x3) X dX6_word_32 rfl rfl ?_
      refine G_if_ne (tgt := 47) X dX6_word_33 (by decide) (fun hc6 => ?_) (fun hc6 => ?_)
      · have hf := (if_neg hc6).symm.trans hf
        refine G_iinc (x := x3) (v := (-1)) X dX6_word_47 rfl rfl (ls' := [some (vr 79), some (vi x1), none, some (vi (x3 + (-1))), some (vi x4)]) rfl ?_
        refine G_aload_n (x := some (79)) X dX6_word_50 rfl rfl ?_
        refine G_iload_n (x := x1) X dX6_word_51 rfl rfl ?_
        refine G_callS (As := [vi x1]) X (f6_at_ok E I x1 _ rfl) cb_X6_71 st_X6_at rfl rfl (Nat.le_of_ble_eq_true rfl) (by decide) (by decide) rfl (Nat.le_refl _) (Nat.le_refl _) dX6_word_52 ?_
        show G E κ _ _ _ [some (vr 79), some (vi x1), none, some (vi (x3 + (-1))), some (vi x4)] [vi (f6_at x1), vr 79] (mm I)
        refine G_iload (x := x4) X dX6_word_55 rfl ?_
        obtain ⟨v7, hk7, hf⟩ := obd hf
        refine G_callV (As := [vi (f6_at x1), vi x4]) X (f6_behind_ok E I (f6_at x1) x4 v7 hk7) cb_X6_49 vi_X6_behind (ci := 5) rfl rfl (show SH[79]? = some (_, 0) from rfl) rfl rfl (Nat.le_of_ble_eq_true rfl) (by decide) (by decide) rfl (Nat.le_refl _) (Nat.le_refl _) dX6_word_57 ?_
        show G E κ _ _ _ [some (vr 79), some (vi x1), none, some (vi (x3 + (-1))), some (vi x4)] [vi v7] (mm I)
        refine G_istore X dX6_word_60 (Nat.le_of_ble_eq_true rfl) (ls' := [some (vr 79), some (vi x1), none, some (vi (x3 + (-1))), some (vi v7)]) rfl ?_
        refine G_goto (tgt := 19) X dX6_word_62 (by decide) ?_
        exact ih I x1 (x3 + (-1)) v7 _ hR hf
      · have hf := (if_pos hc6).symm.trans hf
        refine G_aload_n (x := some (79)) X dX6_word_36 rfl rfl ?_
        refine G_iload_n (x := x1) X dX6_word_37 rfl rfl ?_
        refine G_callS (As := [vi x1]) X (f6_at_ok E I x1 _ rfl) cb_X6_71 st_X6_at rfl rfl (Nat.le_of_ble_eq_true rfl) (by decide) (by decide) rfl (Nat.le_refl _) (Nat.le_refl _) dX6_word_38 ?_
        show G E κ _ _ _ [some (vr 79), some (vi x1), none, some (vi x3), some (vi x4)] [vi (f6_at x1), vr 79] (mm I)
        refine G_iload (x := x4) X dX6_word_41 rfl ?_
        obtain ⟨v8, hk8, hf⟩ := obd hf
        refine G_callV (As := [vi (f6_at x1), vi x4]) X (f6_codeAt_ok E I (f6_at x1) x4 v8 hk8) cb_X6_193 vi_X6_codeAt (ci := 5) rfl rfl (show SH[79]? = some (_, 0) from rfl) rfl rfl (Nat.le_of_ble_eq_true rfl) (by decide) (by decide) rfl (Nat.le_refl _) (Nat.le_refl _) dX6_word_43 ?_
        show G E κ _ _ _ [some (vr 79), some (vi x1), none, some (vi x3), some (vi x4)] [vi v8] (mm I)
        obtain rfl := Option.some.inj hf
        exact G_iret X hR rfl rfl dX6_word_46

def f6_word (I : gI) (a0 : Int32) (a1 : Int32) : Option Int32 := (f6_isRow I a0).bind fun v1 => (if v1 = true then (if 0 ≤ a1 then f6_word_L19 FU I a0 a1 0 else some ((-1))) else some ((-1)))
set_option maxRecDepth 100000 in
set_option maxHeartbeats 4000000 in
theorem f6_word_ok (E : gEnv) (I : gI) (a0 : Int32) (a1 : Int32) (r : Int32) (hf : f6_word I a0 a1 = some r) : Ctr E yX6_word cX6_word 5 (some .int) 5 0 0 [vr 79, vi a0, vi a1] (mm I) (some (vi r)) (mm I) := by
  refine Ctr.mk (by decide +kernel) (Nat.le_of_ble_eq_true rfl) fun κ X hR _ => ?_
  have X : Cx E κ cX6_word 5 RX6 (some .int) 5 0 0 := X
  show G E κ 0 0 0 [some (vr 79), some (vi a0), some (vi a1), none, none] [] (mm I)
  unfold f6_word at hf
  refine G_aload_n (x := some (79)) X dX6_word_0 rfl rfl ?_
  refine G_iload_n (x := a0) X dX6_word_1 rfl rfl ?_
  obtain ⟨v1, hk1, hf⟩ := obd hf
  refine G_callV (As := [vi a0]) X (f6_isRow_ok E I a0 v1 hk1) cb_X6_74 vi_X6_isRow (ci := 5) rfl rfl (show SH[79]? = some (_, 0) from rfl) rfl rfl (Nat.le_of_ble_eq_true rfl) (by decide) (by decide) rfl (Nat.le_refl _) (Nat.le_refl _) dX6_word_2 ?_
  show G E κ _ _ _ [some (vr 79), some (vi a0), some (vi a1), none, none] [vi (b2i v1)] (mm I)
  refine G_if_eq (tgt := 12) X dX6_word_5 (by decide) (fun hc2 => ?_) (fun hc2 => ?_)
  · have hf := (if_neg (b2i_f hc2)).symm.trans hf
    refine G_iconst (v := (-1)) X dX6_word_12 rfl ?_
    obtain rfl := Option.some.inj hf
    exact G_iret X hR rfl rfl dX6_word_13
  · have hf := (if_pos (b2i_t hc2)).symm.trans hf
    refine G_iload_n (x := a1) X dX6_word_8 rfl rfl ?_
    refine G_if_ge (tgt := 14) X dX6_word_9 (by decide) (fun hc3 => ?_) (fun hc3 => ?_)
    · have hf := (if_pos hc3).symm.trans hf
      refine G_iload_n (x := a1) X dX6_word_14 rfl rfl ?_
      refine G_istore_n X dX6_word_15 rfl (Nat.le_of_ble_eq_true rfl) (ls' := [some (vr 79), some (vi a0), some (vi a1), some (vi a1), none]) rfl ?_
      refine G_iconst (v := 0) X dX6_word_16 rfl ?_
      refine G_istore X dX6_word_17 (Nat.le_of_ble_eq_true rfl) (ls' := [some (vr 79), some (vi a0), some (vi a1), some (vi a1), some (vi 0)]) rfl ?_
      refine G_weakL (ls' := [some (vr 79), some (vi a0), none, some (vi a1), some (vi 0)]) ⟨Or.inr rfl, ⟨Or.inr rfl, ⟨Or.inl rfl, ⟨Or.inr rfl, ⟨Or.inr rfl, trivial⟩⟩⟩⟩⟩ ?_
      exact f6_word_L19_ok X FU I a0 a1 0 _ hR hf
    · have hf := (if_neg hc3).symm.trans hf
      refine G_iconst (v := (-1)) X dX6_word_12 rfl ?_
      obtain rfl := Option.some.inj hf
      exact G_iret X hR rfl rfl dX6_word_13

def f6_bit (I : gI) (a0 : Int32) (a1 : Int32) : Option Int32 := (f6_isPlace I a0 a1 0).bind fun v1 => (if v1 = true then (f6_bitOf I (f6_at a0) a1).bind fun v3 => some v3 else some ((-1)))
set_option maxRecDepth 100000 in
set_option maxHeartbeats 4000000 in
theorem f6_bit_ok (E : gEnv) (I : gI) (a0 : Int32) (a1 : Int32) (r : Int32) (hf : f6_bit I a0 a1 = some r) : Ctr E yX6_bit cX6_bit 3 (some .int) 3 0 0 [vr 79, vi a0, vi a1] (mm I) (some (vi r)) (mm I) := by
  refine Ctr.mk (by decide +kernel) (Nat.le_of_ble_eq_true rfl) fun κ X hR _ => ?_
  have X : Cx E κ cX6_bit 3 RX6 (some .int) 3 0 0 := X
  show G E κ 0 0 0 [some (vr 79), some (vi a0), some (vi a1)] [] (mm I)
  unfold f6_bit at hf
  refine G_aload_n (x := some (79)) X dX6_bit_0 rfl rfl ?_
  refine G_iload_n (x := a0) X dX6_bit_1 rfl rfl ?_
  refine G_iload_n (x := a1) X dX6_bit_2 rfl rfl ?_
  refine G_iconst (v := 0) X dX6_bit_3 rfl ?_
  obtain ⟨v1, hk1, hf⟩ := obd hf
  refine G_callV (As := [vi a0, vi a1, vi 0]) X (f6_isPlace_ok E I a0 a1 0 v1 hk1) cb_X6_85 vi_X6_isPlace (ci := 5) rfl rfl (show SH[79]? = some (_, 0) from rfl) rfl rfl (Nat.le_of_ble_eq_true rfl) (by decide) (by decide) rfl (Nat.le_refl _) (Nat.le_refl _) dX6_bit_4 ?_
  show G E κ _ _ _ [some (vr 79), some (vi a0), some (vi a1)] [vi (b2i v1)] (mm I)
  refine G_if_eq (tgt := 22) X dX6_bit_7 (by decide) (fun hc2 => ?_) (fun hc2 => ?_)
  · have hf := (if_neg (b2i_f hc2)).symm.trans hf
    refine G_iconst (v := (-1)) X dX6_bit_22 rfl ?_
    obtain rfl := Option.some.inj hf
    exact G_iret X hR rfl rfl dX6_bit_23
  · have hf := (if_pos (b2i_t hc2)).symm.trans hf
    refine G_aload_n (x := some (79)) X dX6_bit_10 rfl rfl ?_
    refine G_iload_n (x := a0) X dX6_bit_11 rfl rfl ?_
    refine G_callS (As := [vi a0]) X (f6_at_ok E I a0 _ rfl) cb_X6_71 st_X6_at rfl rfl (Nat.le_of_ble_eq_true rfl) (by decide) (by decide) rfl (Nat.le_refl _) (Nat.le_refl _) dX6_bit_12 ?_
    show G E κ _ _ _ [some (vr 79), some (vi a0), some (vi a1)] [vi (f6_at a0), vr 79] (mm I)
    refine G_iload_n (x := a1) X dX6_bit_15 rfl rfl ?_
    obtain ⟨v3, hk3, hf⟩ := obd hf
    refine G_callV (As := [vi (f6_at a0), vi a1]) X (f6_bitOf_ok E I (f6_at a0) a1 v3 hk3) cb_X6_35 vi_X6_bitOf (ci := 5) rfl rfl (show SH[79]? = some (_, 0) from rfl) rfl rfl (Nat.le_of_ble_eq_true rfl) (by decide) (by decide) rfl (Nat.le_refl _) (Nat.le_refl _) dX6_bit_16 ?_
    show G E κ _ _ _ [some (vr 79), some (vi a0), some (vi a1)] [vi v3] (mm I)
    refine G_goto (tgt := 23) X dX6_bit_19 (by decide) ?_
    obtain rfl := Option.some.inj hf
    exact G_iret X hR rfl rfl dX6_bit_23

def f6_rank__L17 : Nat → gI → Int32 → Int32 → Int32 → Int32 → Option Int32
  | 0, _, _, _, _, _ => none
  | k + 1, I, x1, x2, x3, x4 => (if x2 ≤ x4 then some x3 else (f6_bitOf I (f6_at x1) x4).bind fun v4 => f6_rank__L17 k I x1 x2 (x3 + v4) (x4 + 1))
set_option maxRecDepth 100000 in
set_option maxHeartbeats 4000000 in
theorem f6_rank__L17_ok {E : gEnv} {κ : gCtx} (X : Cx E κ cX6_rank_ 5 RX6 (some .int) 3 0 0) : ∀ (k : Nat) (I : gI) (x1 : Int32) (x2 : Int32) (x3 : Int32) (x4 : Int32) (r : Int32) (hR : gRt E κ 0 0 (some (vi r)) (mm I)) (hf : f6_rank__L17 k I x1 x2 x3 x4 = some r), G E κ 0 0 17 [some (vr 79), some (vi x1), some (vi x2), some (vi x3), some (vi x4)] [] (mm I) := by
  intro k
  induction k with
  | zero =>
    intros
    rename_i hf
    cases hf
  | succ k ih =>
    intro I x1 x2 x3 x4 r hR hf
    refine G_iload (x := x4) X dX6_rank__17 rfl ?_
    refine G_iload_n (x := x2) X dX6_rank__19 rfl rfl ?_
    refine G_icmp_ge (tgt := 42) X dX6_rank__20 (by decide) (fun hc3 => ?_) (fun hc3 => ?_)
    · have hf := (if_pos hc3).symm.trans hf
      refine G_iload_n (x := x3) X dX6_rank__42 rfl rfl ?_
      obtain rfl := Option.some.inj hf
      exact G_iret X hR rfl rfl dX6_rank__43
    · have hf := (if_neg hc3).symm.trans hf
      refine G_iload_n (x := x3) X dX6_rank__23 rfl rfl ?_
      refine G_aload_n (x := some (79)) X dX6_rank__24 rfl rfl ?_
      refine G_iload_n (x := x1) X dX6_rank__25 rfl rfl ?_
      refine G_callS (As := [vi x1]) X (f6_at_ok E I x1 _ rfl) cb_X6_71 st_X6_at rfl rfl (Nat.le_of_ble_eq_true rfl) (by decide) (by decide) rfl (Nat.le_refl _) (Nat.le_refl _) dX6_rank__26 ?_
      show G E κ _ _ _ [some (vr 79), some (vi x1), some (vi x2), some (vi x3), some (vi x4)] [vi (f6_at x1), vr 79, vi x3] (mm I)
      refine G_iload (x := x4) X dX6_rank__29 rfl ?_
      obtain ⟨v4, hk4, hf⟩ := obd hf
      refine G_callV (As := [vi (f6_at x1), vi x4]) X (f6_bitOf_ok E I (f6_at x1) x4 v4 hk4) cb_X6_35 vi_X6_bitOf (ci := 5) rfl rfl (show SH[79]? = some (_, 0) from rfl) rfl rfl (Nat.le_of_ble_eq_true rfl) (by decide) (by decide) rfl (Nat.le_refl _) (Nat.le_refl _) dX6_rank__31 ?_
      show G E κ _ _ _ [some (vr 79), some (vi x1), some (vi x2), some (vi x3), some (vi x4)] [vi v4, vi x3] (mm I)
      refine G_iadd X dX6_rank__34 ?_
      refine G_istore_n X dX6_rank__35 rfl (Nat.le_of_ble_eq_true rfl) (ls' := [some (vr 79), some (vi x1), some (vi x2), some (vi (x3 + v4)), some (vi x4)]) rfl ?_
      refine G_iinc (x := x4) (v := 1) X dX6_rank__36 rfl rfl (ls' := [some (vr 79), some (vi x1), some (vi x2), some (vi (x3 + v4)), some (vi (x4 + 1))]) rfl ?_
      refine G_goto (tgt := 17) X dX6_rank__39 (by decide) ?_
      exact ih I x1 x2 (x3 + v4) (x4 + 1) _ hR hf

def f6_rank_ (I : gI) (a0 : Int32) (a1 : Int32) : Option Int32 := (f6_isPlace I a0 a1 1).bind fun v1 => (if v1 = true then f6_rank__L17 FU I a0 a1 0 0 else some ((-1)))
set_option maxRecDepth 100000 in
set_option maxHeartbeats 4000000 in
theorem f6_rank__ok (E : gEnv) (I : gI) (a0 : Int32) (a1 : Int32) (r : Int32) (hf : f6_rank_ I a0 a1 = some r) : Ctr E yX6_rank_ cX6_rank_ 5 (some .int) 3 0 0 [vr 79, vi a0, vi a1] (mm I) (some (vi r)) (mm I) := by
  refine Ctr.mk (by decide +kernel) (Nat.le_of_ble_eq_true rfl) fun κ X hR _ => ?_
  have X : Cx E κ cX6_rank_ 5 RX6 (some .int) 3 0 0 := X
  show G E κ 0 0 0 [some (vr 79), some (vi a0), some (vi a1), none, none] [] (mm I)
  unfold f6_rank_ at hf
  refine G_aload_n (x := some (79)) X dX6_rank__0 rfl rfl ?_
  refine G_iload_n (x := a0) X dX6_rank__1 rfl rfl ?_
  refine G_iload_n (x := a1) X dX6_rank__2 rfl rfl ?_
  refine G_iconst (v := 1) X dX6_rank__3 rfl ?_
  obtain ⟨v1, hk1, hf⟩ := obd hf
  refine G_callV (As := [vi a0, vi a1, vi 1]) X (f6_isPlace_ok E I a0 a1 1 v1 hk1) cb_X6_85 vi_X6_isPlace (ci := 5) rfl rfl (show SH[79]? = some (_, 0) from rfl) rfl rfl (Nat.le_of_ble_eq_true rfl) (by decide) (by decide) rfl (Nat.le_refl _) (Nat.le_refl _) dX6_rank__4 ?_
  show G E κ _ _ _ [some (vr 79), some (vi a0), some (vi a1), none, none] [vi (b2i v1)] (mm I)
  refine G_if_ne (tgt := 12) X dX6_rank__7 (by decide) (fun hc2 => ?_) (fun hc2 => ?_)
  · have hf := (if_pos (b2i_t hc2)).symm.trans hf
    refine G_iconst (v := 0) X dX6_rank__12 rfl ?_
    refine G_istore_n X dX6_rank__13 rfl (Nat.le_of_ble_eq_true rfl) (ls' := [some (vr 79), some (vi a0), some (vi a1), some (vi 0), none]) rfl ?_
    refine G_iconst (v := 0) X dX6_rank__14 rfl ?_
    refine G_istore X dX6_rank__15 (Nat.le_of_ble_eq_true rfl) (ls' := [some (vr 79), some (vi a0), some (vi a1), some (vi 0), some (vi 0)]) rfl ?_
    exact f6_rank__L17_ok X FU I a0 a1 0 0 _ hR hf
  · have hf := (if_neg (b2i_f hc2)).symm.trans hf
    refine G_iconst (v := (-1)) X dX6_rank__10 rfl ?_
    obtain rfl := Option.some.inj hf
    exact G_iret X hR rfl rfl dX6_rank__11

def f6_select (I : gI) (a0 : Int32) (a1 : Int32) : Option Int32 := (f6_isRow I a0).bind fun v1 => (if v1 = true then (if a1 < 0 then some ((-1)) else (f6_placeOf I (f6_at a0) a1).bind fun v4 => some v4) else some ((-1)))
set_option maxRecDepth 100000 in
set_option maxHeartbeats 4000000 in
theorem f6_select_ok (E : gEnv) (I : gI) (a0 : Int32) (a1 : Int32) (r : Int32) (hf : f6_select I a0 a1 = some r) : Ctr E yX6_select cX6_select 3 (some .int) 2 0 0 [vr 79, vi a0, vi a1] (mm I) (some (vi r)) (mm I) := by
  refine Ctr.mk (by decide +kernel) (Nat.le_of_ble_eq_true rfl) fun κ X hR _ => ?_
  have X : Cx E κ cX6_select 3 RX6 (some .int) 2 0 0 := X
  show G E κ 0 0 0 [some (vr 79), some (vi a0), some (vi a1)] [] (mm I)
  unfold f6_select at hf
  refine G_aload_n (x := some (79)) X dX6_select_0 rfl rfl ?_
  refine G_iload_n (x := a0) X dX6_select_1 rfl rfl ?_
  obtain ⟨v1, hk1, hf⟩ := obd hf
  refine G_callV (As := [vi a0]) X (f6_isRow_ok E I a0 v1 hk1) cb_X6_74 vi_X6_isRow (ci := 5) rfl rfl (show SH[79]? = some (_, 0) from rfl) rfl rfl (Nat.le_of_ble_eq_true rfl) (by decide) (by decide) rfl (Nat.le_refl _) (Nat.le_refl _) dX6_select_2 ?_
  show G E κ _ _ _ [some (vr 79), some (vi a0), some (vi a1)] [vi (b2i v1)] (mm I)
  refine G_if_eq (tgt := 24) X dX6_select_5 (by decide) (fun hc2 => ?_) (fun hc2 => ?_)
  · have hf := (if_neg (b2i_f hc2)).symm.trans hf
    refine G_iconst (v := (-1)) X dX6_select_24 rfl ?_
    obtain rfl := Option.some.inj hf
    exact G_iret X hR rfl rfl dX6_select_25
  · have hf := (if_pos (b2i_t hc2)).symm.trans hf
    refine G_iload_n (x := a1) X dX6_select_8 rfl rfl ?_
    refine G_if_lt (tgt := 24) X dX6_select_9 (by decide) (fun hc3 => ?_) (fun hc3 => ?_)
    · have hf := (if_pos hc3).symm.trans hf
      refine G_iconst (v := (-1)) X dX6_select_24 rfl ?_
      obtain rfl := Option.some.inj hf
      exact G_iret X hR rfl rfl dX6_select_25
    · have hf := (if_neg hc3).symm.trans hf
      refine G_aload_n (x := some (79)) X dX6_select_12 rfl rfl ?_
      refine G_iload_n (x := a0) X dX6_select_13 rfl rfl ?_
      refine G_callS (As := [vi a0]) X (f6_at_ok E I a0 _ rfl) cb_X6_71 st_X6_at rfl rfl (Nat.le_of_ble_eq_true rfl) (by decide) (by decide) rfl (Nat.le_refl _) (Nat.le_refl _) dX6_select_14 ?_
      show G E κ _ _ _ [some (vr 79), some (vi a0), some (vi a1)] [vi (f6_at a0), vr 79] (mm I)
      refine G_iload_n (x := a1) X dX6_select_17 rfl rfl ?_
      obtain ⟨v4, hk4, hf⟩ := obd hf
      refine G_callV (As := [vi (f6_at a0), vi a1]) X (f6_placeOf_ok E I (f6_at a0) a1 v4 hk4) cb_X6_190 vi_X6_placeOf (ci := 5) rfl rfl (show SH[79]? = some (_, 0) from rfl) rfl rfl (Nat.le_of_ble_eq_true rfl) (by decide) (by decide) rfl (Nat.le_refl _) (Nat.le_refl _) dX6_select_18 ?_
      show G E κ _ _ _ [some (vr 79), some (vi a0), some (vi a1)] [vi v4] (mm I)
      refine G_goto (tgt := 25) X dX6_select_21 (by decide) ?_
      obtain rfl := Option.some.inj hf
      exact G_iret X hR rfl rfl dX6_select_25

def f6_would (I : gI) (a0 : Int32) (a1 : Int32) (a2 : Int32) (a3 : Int32) : Option (Int32 × gI) := (if (f6_in a0 0 3) = true then (f6_isRow I a1).bind fun v2 => (if v2 = true then (f6_isRow I a2).bind fun v4 => (if v4 = true then (if (f6_in a3 0 2) = true then (f6_operateOn I a0 (f6_at a1) (f6_at a2) (f6_asked 0)).bind fun I7 => (if a3 = 0 then (f6_workOf I7 (f6_at a1) (f6_at a2)).bind fun q12 => some (q12.1, q12.2) else (if a3 = 1 then (f6_words I7 (f6_asked 0) 3).bind fun v11 => some (v11, I7) else (f6_ones I7 (f6_asked 0)).bind fun v10 => some (v10, I7))) else some ((-1), I)) else some ((-1), I)) else some ((-1), I)) else some ((-1), I))
set_option maxRecDepth 100000 in
set_option maxHeartbeats 4000000 in
theorem f6_would_ok (E : gEnv) (I : gI) (a0 : Int32) (a1 : Int32) (a2 : Int32) (a3 : Int32) (r : Int32) (I' : gI) (hf : f6_would I a0 a1 a2 a3 = some (r, I')) : Ctr E yX6_would cX6_would 5 (some .int) 5 0 0 [vr 79, vi a0, vi a1, vi a2, vi a3] (mm I) (some (vi r)) (mm I') := by
  refine Ctr.mk (by decide +kernel) (Nat.le_of_ble_eq_true rfl) fun κ X hR _ => ?_
  have X : Cx E κ cX6_would 5 RX6 (some .int) 5 0 0 := X
  show G E κ 0 0 0 [some (vr 79), some (vi a0), some (vi a1), some (vi a2), some (vi a3)] [] (mm I)
  unfold f6_would at hf
  refine G_iload_n (x := a0) X dX6_would_0 rfl rfl ?_
  refine G_iconst (v := 0) X dX6_would_1 rfl ?_
  refine G_iconst (v := 3) X dX6_would_2 rfl ?_
  refine G_callS (As := [vi a0, vi 0, vi 3]) X (f6_in_ok E I a0 0 3 _ rfl) cb_X6_31 st_X6_in rfl rfl (Nat.le_of_ble_eq_true rfl) (by decide) (by decide) rfl (Nat.le_refl _) (Nat.le_refl _) dX6_would_3 ?_
  show G E κ _ _ _ [some (vr 79), some (vi a0), some (vi a1), some (vi a2), some (vi a3)] [vi (b2i (f6_in a0 0 3))] (mm I)
  refine G_if_eq (tgt := 35) X dX6_would_6 (by decide) (fun hc1 => ?_) (fun hc1 => ?_)
  · have hf := (if_neg (b2i_f hc1)).symm.trans hf
    refine G_iconst (v := (-1)) X dX6_would_35 rfl ?_
    obtain ⟨rfl, rfl⟩ := Prod.mk.inj (Option.some.inj hf)
    exact G_iret X hR rfl rfl dX6_would_36
  · have hf := (if_pos (b2i_t hc1)).symm.trans hf
    refine G_aload_n (x := some (79)) X dX6_would_9 rfl rfl ?_
    refine G_iload_n (x := a1) X dX6_would_10 rfl rfl ?_
    obtain ⟨v2, hk2, hf⟩ := obd hf
    refine G_callV (As := [vi a1]) X (f6_isRow_ok E I a1 v2 hk2) cb_X6_74 vi_X6_isRow (ci := 5) rfl rfl (show SH[79]? = some (_, 0) from rfl) rfl rfl (Nat.le_of_ble_eq_true rfl) (by decide) (by decide) rfl (Nat.le_refl _) (Nat.le_refl _) dX6_would_11 ?_
    show G E κ _ _ _ [some (vr 79), some (vi a0), some (vi a1), some (vi a2), some (vi a3)] [vi (b2i v2)] (mm I)
    refine G_if_eq (tgt := 35) X dX6_would_14 (by decide) (fun hc3 => ?_) (fun hc3 => ?_)
    · have hf := (if_neg (b2i_f hc3)).symm.trans hf
      refine G_iconst (v := (-1)) X dX6_would_35 rfl ?_
      obtain ⟨rfl, rfl⟩ := Prod.mk.inj (Option.some.inj hf)
      exact G_iret X hR rfl rfl dX6_would_36
    · have hf := (if_pos (b2i_t hc3)).symm.trans hf
      refine G_aload_n (x := some (79)) X dX6_would_17 rfl rfl ?_
      refine G_iload_n (x := a2) X dX6_would_18 rfl rfl ?_
      obtain ⟨v4, hk4, hf⟩ := obd hf
      refine G_callV (As := [vi a2]) X (f6_isRow_ok E I a2 v4 hk4) cb_X6_74 vi_X6_isRow (ci := 5) rfl rfl (show SH[79]? = some (_, 0) from rfl) rfl rfl (Nat.le_of_ble_eq_true rfl) (by decide) (by decide) rfl (Nat.le_refl _) (Nat.le_refl _) dX6_would_19 ?_
      show G E κ _ _ _ [some (vr 79), some (vi a0), some (vi a1), some (vi a2), some (vi a3)] [vi (b2i v4)] (mm I)
      refine G_if_eq (tgt := 35) X dX6_would_22 (by decide) (fun hc5 => ?_) (fun hc5 => ?_)
      · have hf := (if_neg (b2i_f hc5)).symm.trans hf
        refine G_iconst (v := (-1)) X dX6_would_35 rfl ?_
        obtain ⟨rfl, rfl⟩ := Prod.mk.inj (Option.some.inj hf)
        exact G_iret X hR rfl rfl dX6_would_36
      · have hf := (if_pos (b2i_t hc5)).symm.trans hf
        refine G_iload (x := a3) X dX6_would_25 rfl ?_
        refine G_iconst (v := 0) X dX6_would_27 rfl ?_
        refine G_iconst (v := 2) X dX6_would_28 rfl ?_
        refine G_callS (As := [vi a3, vi 0, vi 2]) X (f6_in_ok E I a3 0 2 _ rfl) cb_X6_31 st_X6_in rfl rfl (Nat.le_of_ble_eq_true rfl) (by decide) (by decide) rfl (Nat.le_refl _) (Nat.le_refl _) dX6_would_29 ?_
        show G E κ _ _ _ [some (vr 79), some (vi a0), some (vi a1), some (vi a2), some (vi a3)] [vi (b2i (f6_in a3 0 2))] (mm I)
        refine G_if_ne (tgt := 37) X dX6_would_32 (by decide) (fun hc6 => ?_) (fun hc6 => ?_)
        · have hf := (if_pos (b2i_t hc6)).symm.trans hf
          refine G_aload_n (x := some (79)) X dX6_would_37 rfl rfl ?_
          refine G_iload_n (x := a0) X dX6_would_38 rfl rfl ?_
          refine G_iload_n (x := a1) X dX6_would_39 rfl rfl ?_
          refine G_callS (As := [vi a1]) X (f6_at_ok E I a1 _ rfl) cb_X6_71 st_X6_at rfl rfl (Nat.le_of_ble_eq_true rfl) (by decide) (by decide) rfl (Nat.le_refl _) (Nat.le_refl _) dX6_would_40 ?_
          show G E κ _ _ _ [some (vr 79), some (vi a0), some (vi a1), some (vi a2), some (vi a3)] [vi (f6_at a1), vi a0, vr 79] (mm I)
          refine G_iload_n (x := a2) X dX6_would_43 rfl rfl ?_
          refine G_callS (As := [vi a2]) X (f6_at_ok E I a2 _ rfl) cb_X6_71 st_X6_at rfl rfl (Nat.le_of_ble_eq_true rfl) (by decide) (by decide) rfl (Nat.le_refl _) (Nat.le_refl _) dX6_would_44 ?_
          show G E κ _ _ _ [some (vr 79), some (vi a0), some (vi a1), some (vi a2), some (vi a3)] [vi (f6_at a2), vi (f6_at a1), vi a0, vr 79] (mm I)
          refine G_iconst (v := 0) X dX6_would_47 rfl ?_
          refine G_callS (As := [vi 0]) X (f6_asked_ok E I 0 _ rfl) cb_X6_54 st_X6_asked rfl rfl (Nat.le_of_ble_eq_true rfl) (by decide) (by decide) rfl (Nat.le_refl _) (Nat.le_refl _) dX6_would_48 ?_
          show G E κ _ _ _ [some (vr 79), some (vi a0), some (vi a1), some (vi a2), some (vi a3)] [vi (f6_asked 0), vi (f6_at a2), vi (f6_at a1), vi a0, vr 79] (mm I)
          obtain ⟨I7, hk7, hf⟩ := obd hf
          refine G_callV (As := [vi a0, vi (f6_at a1), vi (f6_at a2), vi (f6_asked 0)]) X (f6_operateOn_ok E I a0 (f6_at a1) (f6_at a2) (f6_asked 0) I7 hk7) cb_X6_91 vi_X6_operateOn (ci := 5) rfl rfl (show SH[79]? = some (_, 0) from rfl) rfl rfl (Nat.le_of_ble_eq_true rfl) (by decide) (by decide) rfl (Nat.le_refl _) (Nat.le_refl _) dX6_would_51 ?_
          show G E κ _ _ _ [some (vr 79), some (vi a0), some (vi a1), some (vi a2), some (vi a3)] [] (mm I7)
          refine G_iload (x := a3) X dX6_would_54 rfl ?_
          refine G_if_ne (tgt := 74) X dX6_would_56 (by decide) (fun hc8 => ?_) (fun hc8 => ?_)
          · have hf := (if_neg hc8).symm.trans hf
            refine G_iload (x := a3) X dX6_would_74 rfl ?_
            refine G_iconst (v := 1) X dX6_would_76 rfl ?_
            refine G_icmp_ne (tgt := 92) X dX6_would_77 (by decide) (fun hc9 => ?_) (fun hc9 => ?_)
            · have hf := (if_neg hc9).symm.trans hf
              refine G_aload_n (x := some (79)) X dX6_would_92 rfl rfl ?_
              refine G_iconst (v := 0) X dX6_would_93 rfl ?_
              refine G_callS (As := [vi 0]) X (f6_asked_ok E I7 0 _ rfl) cb_X6_54 st_X6_asked rfl rfl (Nat.le_of_ble_eq_true rfl) (by decide) (by decide) rfl (Nat.le_refl _) (Nat.le_refl _) dX6_would_94 ?_
              show G E κ _ _ _ [some (vr 79), some (vi a0), some (vi a1), some (vi a2), some (vi a3)] [vi (f6_asked 0), vr 79] (mm I7)
              obtain ⟨v10, hk10, hf⟩ := obd hf
              refine G_callV (As := [vi (f6_asked 0)]) X (f6_ones_ok E I7 (f6_asked 0) v10 hk10) cb_X6_99 vi_X6_ones (ci := 5) rfl rfl (show SH[79]? = some (_, 0) from rfl) rfl rfl (Nat.le_of_ble_eq_true rfl) (by decide) (by decide) rfl (Nat.le_refl _) (Nat.le_refl _) dX6_would_97 ?_
              show G E κ _ _ _ [some (vr 79), some (vi a0), some (vi a1), some (vi a2), some (vi a3)] [vi v10] (mm I7)
              obtain ⟨rfl, rfl⟩ := Prod.mk.inj (Option.some.inj hf)
              exact G_iret X hR rfl rfl dX6_would_100
            · have hf := (if_pos hc9).symm.trans hf
              refine G_aload_n (x := some (79)) X dX6_would_80 rfl rfl ?_
              refine G_iconst (v := 0) X dX6_would_81 rfl ?_
              refine G_callS (As := [vi 0]) X (f6_asked_ok E I7 0 _ rfl) cb_X6_54 st_X6_asked rfl rfl (Nat.le_of_ble_eq_true rfl) (by decide) (by decide) rfl (Nat.le_refl _) (Nat.le_refl _) dX6_would_82 ?_
              show G E κ _ _ _ [some (vr 79), some (vi a0), some (vi a1), some (vi a2), some (vi a3)] [vi (f6_asked 0), vr 79] (mm I7)
              refine G_iconst (v := 3) X dX6_would_85 rfl ?_
              obtain ⟨v11, hk11, hf⟩ := obd hf
              refine G_callV (As := [vi (f6_asked 0), vi 3]) X (f6_words_ok E I7 (f6_asked 0) 3 v11 hk11) cb_X6_82 vi_X6_words (ci := 5) rfl rfl (show SH[79]? = some (_, 0) from rfl) rfl rfl (Nat.le_of_ble_eq_true rfl) (by decide) (by decide) rfl (Nat.le_refl _) (Nat.le_refl _) dX6_would_86 ?_
              show G E κ _ _ _ [some (vr 79), some (vi a0), some (vi a1), some (vi a2), some (vi a3)] [vi v11] (mm I7)
              refine G_goto (tgt := 100) X dX6_would_89 (by decide) ?_
              obtain ⟨rfl, rfl⟩ := Prod.mk.inj (Option.some.inj hf)
              exact G_iret X hR rfl rfl dX6_would_100
          · have hf := (if_pos hc8).symm.trans hf
            refine G_aload_n (x := some (79)) X dX6_would_59 rfl rfl ?_
            refine G_iload_n (x := a1) X dX6_would_60 rfl rfl ?_
            refine G_callS (As := [vi a1]) X (f6_at_ok E I7 a1 _ rfl) cb_X6_71 st_X6_at rfl rfl (Nat.le_of_ble_eq_true rfl) (by decide) (by decide) rfl (Nat.le_refl _) (Nat.le_refl _) dX6_would_61 ?_
            show G E κ _ _ _ [some (vr 79), some (vi a0), some (vi a1), some (vi a2), some (vi a3)] [vi (f6_at a1), vr 79] (mm I7)
            refine G_iload_n (x := a2) X dX6_would_64 rfl rfl ?_
            refine G_callS (As := [vi a2]) X (f6_at_ok E I7 a2 _ rfl) cb_X6_71 st_X6_at rfl rfl (Nat.le_of_ble_eq_true rfl) (by decide) (by decide) rfl (Nat.le_refl _) (Nat.le_refl _) dX6_would_65 ?_
            show G E κ _ _ _ [some (vr 79), some (vi a0), some (vi a1), some (vi a2), some (vi a3)] [vi (f6_at a2), vi (f6_at a1), vr 79] (mm I7)
            obtain ⟨⟨v12, I12⟩, hk12, hf⟩ := obd hf
            try dsimp only at hf
            refine G_callV (As := [vi (f6_at a1), vi (f6_at a2)]) X (f6_workOf_ok E I7 (f6_at a1) (f6_at a2) v12 I12 hk12) cb_X6_88 vi_X6_workOf (ci := 5) rfl rfl (show SH[79]? = some (_, 0) from rfl) rfl rfl (Nat.le_of_ble_eq_true rfl) (by decide) (by decide) rfl (Nat.le_refl _) (Nat.le_refl _) dX6_would_68 ?_
            show G E κ _ _ _ [some (vr 79), some (vi a0), some (vi a1), some (vi a2), some (vi a3)] [vi v12] (mm I12)
            refine G_goto (tgt := 100) X dX6_would_71 (by decide) ?_
            obtain ⟨rfl, rfl⟩ := Prod.mk.inj (Option.some.inj hf)
            exact G_iret X hR rfl rfl dX6_would_100
        · have hf := (if_neg (b2i_f hc6)).symm.trans hf
          refine G_iconst (v := (-1)) X dX6_would_35 rfl ?_
          obtain ⟨rfl, rfl⟩ := Prod.mk.inj (Option.some.inj hf)
          exact G_iret X hR rfl rfl dX6_would_36

def f6_same_L12 : Nat → gI → Int32 → Int32 → Option Int32
  | 0, _, _, _ => none
  | k + 1, I, x1, x2 => (f6_areSame I (f6_at x2) (f6_at x1)).bind fun v3 => (if v3 = true then some x2 else f6_same_L12 k I x1 (x2 + 1))
set_option maxRecDepth 100000 in
set_option maxHeartbeats 4000000 in
theorem f6_same_L12_ok {E : gEnv} {κ : gCtx} (X : Cx E κ cX6_same 3 RX6 (some .int) 2 0 0) : ∀ (k : Nat) (I : gI) (x1 : Int32) (x2 : Int32) (r : Int32) (hR : gRt E κ 0 0 (some (vi r)) (mm I)) (hf : f6_same_L12 k I x1 x2 = some r), G E κ 0 0 12 [some (vr 79), some (vi x1), some (vi x2)] [] (mm I) := by
  intro k
  induction k with
  | zero =>
    intros
    rename_i hf
    cases hf
  | succ k ih =>
    intro I x1 x2 r hR hf
    refine G_aload_n (x := some (79)) X dX6_same_12 rfl rfl ?_
    refine G_iload_n (x := x2) X dX6_same_13 rfl rfl ?_
    refine G_callS (As := [vi x2]) X (f6_at_ok E I x2 _ rfl) cb_X6_71 st_X6_at rfl rfl (Nat.le_of_ble_eq_true rfl) (by decide) (by decide) rfl (Nat.le_refl _) (Nat.le_refl _) dX6_same_14 ?_
    show G E κ _ _ _ [some (vr 79), some (vi x1), some (vi x2)] [vi (f6_at x2), vr 79] (mm I)
    refine G_iload_n (x := x1) X dX6_same_17 rfl rfl ?_
    refine G_callS (As := [vi x1]) X (f6_at_ok E I x1 _ rfl) cb_X6_71 st_X6_at rfl rfl (Nat.le_of_ble_eq_true rfl) (by decide) (by decide) rfl (Nat.le_refl _) (Nat.le_refl _) dX6_same_18 ?_
    show G E κ _ _ _ [some (vr 79), some (vi x1), some (vi x2)] [vi (f6_at x1), vi (f6_at x2), vr 79] (mm I)
    obtain ⟨v3, hk3, hf⟩ := obd hf
    refine G_callV (As := [vi (f6_at x2), vi (f6_at x1)]) X (f6_areSame_ok E I (f6_at x2) (f6_at x1) v3 hk3) cb_X6_196 vi_X6_areSame (ci := 5) rfl rfl (show SH[79]? = some (_, 0) from rfl) rfl rfl (Nat.le_of_ble_eq_true rfl) (by decide) (by decide) rfl (Nat.le_refl _) (Nat.le_refl _) dX6_same_21 ?_
    show G E κ _ _ _ [some (vr 79), some (vi x1), some (vi x2)] [vi (b2i v3)] (mm I)
    refine G_if_ne (tgt := 33) X dX6_same_24 (by decide) (fun hc4 => ?_) (fun hc4 => ?_)
    · have hf := (if_pos (b2i_t hc4)).symm.trans hf
      refine G_iload_n (x := x2) X dX6_same_33 rfl rfl ?_
      obtain rfl := Option.some.inj hf
      exact G_iret X hR rfl rfl dX6_same_34
    · have hf := (if_neg (b2i_f hc4)).symm.trans hf
      refine G_iinc (x := x2) (v := 1) X dX6_same_27 rfl rfl (ls' := [some (vr 79), some (vi x1), some (vi (x2 + 1))]) rfl ?_
      refine G_goto (tgt := 12) X dX6_same_30 (by decide) ?_
      exact ih I x1 (x2 + 1) _ hR hf

def f6_same (I : gI) (a0 : Int32) : Option Int32 := (f6_isRow I a0).bind fun v1 => (if v1 = true then f6_same_L12 FU I a0 0 else some ((-1)))
set_option maxRecDepth 100000 in
set_option maxHeartbeats 4000000 in
theorem f6_same_ok (E : gEnv) (I : gI) (a0 : Int32) (r : Int32) (hf : f6_same I a0 = some r) : Ctr E yX6_same cX6_same 3 (some .int) 2 0 0 [vr 79, vi a0] (mm I) (some (vi r)) (mm I) := by
  refine Ctr.mk (by decide +kernel) (Nat.le_of_ble_eq_true rfl) fun κ X hR _ => ?_
  have X : Cx E κ cX6_same 3 RX6 (some .int) 2 0 0 := X
  show G E κ 0 0 0 [some (vr 79), some (vi a0), none] [] (mm I)
  unfold f6_same at hf
  refine G_aload_n (x := some (79)) X dX6_same_0 rfl rfl ?_
  refine G_iload_n (x := a0) X dX6_same_1 rfl rfl ?_
  obtain ⟨v1, hk1, hf⟩ := obd hf
  refine G_callV (As := [vi a0]) X (f6_isRow_ok E I a0 v1 hk1) cb_X6_74 vi_X6_isRow (ci := 5) rfl rfl (show SH[79]? = some (_, 0) from rfl) rfl rfl (Nat.le_of_ble_eq_true rfl) (by decide) (by decide) rfl (Nat.le_refl _) (Nat.le_refl _) dX6_same_2 ?_
  show G E κ _ _ _ [some (vr 79), some (vi a0), none] [vi (b2i v1)] (mm I)
  refine G_if_ne (tgt := 10) X dX6_same_5 (by decide) (fun hc2 => ?_) (fun hc2 => ?_)
  · have hf := (if_pos (b2i_t hc2)).symm.trans hf
    refine G_iconst (v := 0) X dX6_same_10 rfl ?_
    refine G_istore_n X dX6_same_11 rfl (Nat.le_of_ble_eq_true rfl) (ls' := [some (vr 79), some (vi a0), some (vi 0)]) rfl ?_
    exact f6_same_L12_ok X FU I a0 0 _ hR hf
  · have hf := (if_neg (b2i_f hc2)).symm.trans hf
    refine G_iconst (v := (-1)) X dX6_same_8 rfl ?_
    obtain rfl := Option.some.inj hf
    exact G_iret X hR rfl rfl dX6_same_9

def f6_bestShift_L17 : Nat → gI → Int32 → Int32 → Int32 → Int32 → Option (Int32 × gI)
  | 0, _, _, _, _, _ => none
  | k + 1, I, x1, x2, x3, x4 => (if 15 ≤ x4 then some (x2, I) else (f6_copy I (f6_at x1) (f6_asked 0)).bind fun I4 => (f6_shiftOn I4 (f6_asked 0) x4).bind fun I5 => (f6_words I5 (f6_asked 0) 3).bind fun v6 => (if x4 = 0 then (if x4 = 0 then f6_bestShift_L17 k I5 x1 x4 v6 (x4 + 1) else (if x3 ≤ v6 then f6_bestShift_L17 k I5 x1 x4 x3 (x4 + 1) else f6_bestShift_L17 k I5 x1 x4 v6 (x4 + 1))) else (if x3 ≤ v6 then (if x4 = 0 then f6_bestShift_L17 k I5 x1 x2 v6 (x4 + 1) else (if x3 ≤ v6 then f6_bestShift_L17 k I5 x1 x2 x3 (x4 + 1) else f6_bestShift_L17 k I5 x1 x2 v6 (x4 + 1))) else (if x4 = 0 then f6_bestShift_L17 k I5 x1 x4 v6 (x4 + 1) else (if x3 ≤ v6 then f6_bestShift_L17 k I5 x1 x4 x3 (x4 + 1) else f6_bestShift_L17 k I5 x1 x4 v6 (x4 + 1))))))
set_option maxRecDepth 100000 in
set_option maxHeartbeats 4000000 in
theorem f6_bestShift_L17_ok {E : gEnv} {κ : gCtx} (X : Cx E κ cX6_bestShift 6 RX6 (some .int) 5 0 0) : ∀ (k : Nat) (I : gI) (x1 : Int32) (x2 : Int32) (x3 : Int32) (x4 : Int32) (r : Int32) (I' : gI) (hR : gRt E κ 0 0 (some (vi r)) (mm I')) (hf : f6_bestShift_L17 k I x1 x2 x3 x4 = some (r, I')), G E κ 0 0 17 [some (vr 79), some (vi x1), some (vi x2), some (vi x3), some (vi x4), none] [] (mm I) := by
  intro k
  induction k with
  | zero =>
    intros
    rename_i hf
    cases hf
  | succ k ih =>
    intro I x1 x2 x3 x4 r I' hR hf
    refine G_iload (x := x4) X dX6_bestShift_17 rfl ?_
    refine G_bipush (v := 15) X dX6_bestShift_19 rfl ?_
    refine G_icmp_ge (tgt := 99) X dX6_bestShift_21 (by decide) (fun hc3 => ?_) (fun hc3 => ?_)
    · have hf := (if_pos hc3).symm.trans hf
      refine G_iload_n (x := x2) X dX6_bestShift_99 rfl rfl ?_
      obtain ⟨rfl, rfl⟩ := Prod.mk.inj (Option.some.inj hf)
      exact G_iret X hR rfl rfl dX6_bestShift_100
    · have hf := (if_neg hc3).symm.trans hf
      refine G_aload_n (x := some (79)) X dX6_bestShift_24 rfl rfl ?_
      refine G_iload_n (x := x1) X dX6_bestShift_25 rfl rfl ?_
      refine G_callS (As := [vi x1]) X (f6_at_ok E I x1 _ rfl) cb_X6_71 st_X6_at rfl rfl (Nat.le_of_ble_eq_true rfl) (by decide) (by decide) rfl (Nat.le_refl _) (Nat.le_refl _) dX6_bestShift_26 ?_
      show G E κ _ _ _ [some (vr 79), some (vi x1), some (vi x2), some (vi x3), some (vi x4), none] [vi (f6_at x1), vr 79] (mm I)
      refine G_iconst (v := 0) X dX6_bestShift_29 rfl ?_
      refine G_callS (As := [vi 0]) X (f6_asked_ok E I 0 _ rfl) cb_X6_54 st_X6_asked rfl rfl (Nat.le_of_ble_eq_true rfl) (by decide) (by decide) rfl (Nat.le_refl _) (Nat.le_refl _) dX6_bestShift_30 ?_
      show G E κ _ _ _ [some (vr 79), some (vi x1), some (vi x2), some (vi x3), some (vi x4), none] [vi (f6_asked 0), vi (f6_at x1), vr 79] (mm I)
      obtain ⟨I4, hk4, hf⟩ := obd hf
      refine G_callV (As := [vi (f6_at x1), vi (f6_asked 0)]) X (f6_copy_ok E I (f6_at x1) (f6_asked 0) I4 hk4) cb_X6_65 vi_X6_copy (ci := 5) rfl rfl (show SH[79]? = some (_, 0) from rfl) rfl rfl (Nat.le_of_ble_eq_true rfl) (by decide) (by decide) rfl (Nat.le_refl _) (Nat.le_refl _) dX6_bestShift_33 ?_
      show G E κ _ _ _ [some (vr 79), some (vi x1), some (vi x2), some (vi x3), some (vi x4), none] [] (mm I4)
      refine G_aload_n (x := some (79)) X dX6_bestShift_36 rfl rfl ?_
      refine G_iconst (v := 0) X dX6_bestShift_37 rfl ?_
      refine G_callS (As := [vi 0]) X (f6_asked_ok E I4 0 _ rfl) cb_X6_54 st_X6_asked rfl rfl (Nat.le_of_ble_eq_true rfl) (by decide) (by decide) rfl (Nat.le_refl _) (Nat.le_refl _) dX6_bestShift_38 ?_
      show G E κ _ _ _ [some (vr 79), some (vi x1), some (vi x2), some (vi x3), some (vi x4), none] [vi (f6_asked 0), vr 79] (mm I4)
      refine G_iload (x := x4) X dX6_bestShift_41 rfl ?_
      obtain ⟨I5, hk5, hf⟩ := obd hf
      refine G_callV (As := [vi (f6_asked 0), vi x4]) X (f6_shiftOn_ok E I4 (f6_asked 0) x4 I5 hk5) cb_X6_102 vi_X6_shiftOn (ci := 5) rfl rfl (show SH[79]? = some (_, 0) from rfl) rfl rfl (Nat.le_of_ble_eq_true rfl) (by decide) (by decide) rfl (Nat.le_refl _) (Nat.le_refl _) dX6_bestShift_43 ?_
      show G E κ _ _ _ [some (vr 79), some (vi x1), some (vi x2), some (vi x3), some (vi x4), none] [] (mm I5)
      refine G_aload_n (x := some (79)) X dX6_bestShift_46 rfl rfl ?_
      refine G_iconst (v := 0) X dX6_bestShift_47 rfl ?_
      refine G_callS (As := [vi 0]) X (f6_asked_ok E I5 0 _ rfl) cb_X6_54 st_X6_asked rfl rfl (Nat.le_of_ble_eq_true rfl) (by decide) (by decide) rfl (Nat.le_refl _) (Nat.le_refl _) dX6_bestShift_48 ?_
      show G E κ _ _ _ [some (vr 79), some (vi x1), some (vi x2), some (vi x3), some (vi x4), none] [vi (f6_asked 0), vr 79] (mm I5)
      refine G_iconst (v := 3) X dX6_bestShift_51 rfl ?_
      obtain ⟨v6, hk6, hf⟩ := obd hf
      refine G_callV (As := [vi (f6_asked 0), vi 3]) X (f6_words_ok E I5 (f6_asked 0) 3 v6 hk6) cb_X6_82 vi_X6_words (ci := 5) rfl rfl (show SH[79]? = some (_, 0) from rfl) rfl rfl (Nat.le_of_ble_eq_true rfl) (by decide) (by decide) rfl (Nat.le_refl _) (Nat.le_refl _) dX6_bestShift_52 ?_
      show G E κ _ _ _ [some (vr 79), some (vi x1), some (vi x2), some (vi x3), some (vi x4), none] [vi v6] (mm I5)
      refine G_istore X dX6_bestShift_55 (Nat.le_of_ble_eq_true rfl) (ls' := [some (vr 79), some (vi x1), some (vi x2), some (vi x3), some (vi x4), some (vi v6)]) rfl ?_
      refine G_iload (x := x4) X dX6_bestShift_57 rfl ?_
      refine G_if_eq (tgt := 68) X dX6_bestShift_59 (by decide) (fun hc7 => ?_) (fun hc7 => ?_)
      · have hf := (if_pos hc7).symm.trans hf
        refine G_iload (x := x4) X dX6_bestShift_68 rfl ?_
        refine G_goto (tgt := 74) X dX6_bestShift_70 (by decide) ?_
        refine G_istore_n X dX6_bestShift_74 rfl (Nat.le_of_ble_eq_true rfl) (ls' := [some (vr 79), some (vi x1), some (vi x4), some (vi x3), some (vi x4), some (vi v6)]) rfl ?_
        refine G_iload (x := x4) X dX6_bestShift_75 rfl ?_
        refine G_if_eq (tgt := 86) X dX6_bestShift_77 (by decide) (fun hc8 => ?_) (fun hc8 => ?_)
        · have hf := (if_pos hc8).symm.trans hf
          refine G_iload (x := v6) X dX6_bestShift_86 rfl ?_
          refine G_goto (tgt := 92) X dX6_bestShift_88 (by decide) ?_
          refine G_istore_n X dX6_bestShift_92 rfl (Nat.le_of_ble_eq_true rfl) (ls' := [some (vr 79), some (vi x1), some (vi x4), some (vi v6), some (vi x4), some (vi v6)]) rfl ?_
          refine G_iinc (x := x4) (v := 1) X dX6_bestShift_93 rfl rfl (ls' := [some (vr 79), some (vi x1), some (vi x4), some (vi v6), some (vi (x4 + 1)), some (vi v6)]) rfl ?_
          refine G_goto (tgt := 17) X dX6_bestShift_96 (by decide) ?_
          refine G_weakL (ls' := [some (vr 79), some (vi x1), some (vi x4), some (vi v6), some (vi (x4 + 1)), none]) ⟨Or.inr rfl, ⟨Or.inr rfl, ⟨Or.inr rfl, ⟨Or.inr rfl, ⟨Or.inr rfl, ⟨Or.inl rfl, trivial⟩⟩⟩⟩⟩⟩ ?_
          exact ih I5 x1 x4 v6 (x4 + 1) _ _ hR hf
        · have hf := (if_neg hc8).symm.trans hf
          refine G_iload (x := v6) X dX6_bestShift_80 rfl ?_
          refine G_iload_n (x := x3) X dX6_bestShift_82 rfl rfl ?_
          refine G_icmp_ge (tgt := 91) X dX6_bestShift_83 (by decide) (fun hc9 => ?_) (fun hc9 => ?_)
          · have hf := (if_pos hc9).symm.trans hf
            refine G_iload_n (x := x3) X dX6_bestShift_91 rfl rfl ?_
            refine G_istore_n X dX6_bestShift_92 rfl (Nat.le_of_ble_eq_true rfl) (ls' := [some (vr 79), some (vi x1), some (vi x4), some (vi x3), some (vi x4), some (vi v6)]) rfl ?_
            refine G_iinc (x := x4) (v := 1) X dX6_bestShift_93 rfl rfl (ls' := [some (vr 79), some (vi x1), some (vi x4), some (vi x3), some (vi (x4 + 1)), some (vi v6)]) rfl ?_
            refine G_goto (tgt := 17) X dX6_bestShift_96 (by decide) ?_
            refine G_weakL (ls' := [some (vr 79), some (vi x1), some (vi x4), some (vi x3), some (vi (x4 + 1)), none]) ⟨Or.inr rfl, ⟨Or.inr rfl, ⟨Or.inr rfl, ⟨Or.inr rfl, ⟨Or.inr rfl, ⟨Or.inl rfl, trivial⟩⟩⟩⟩⟩⟩ ?_
            exact ih I5 x1 x4 x3 (x4 + 1) _ _ hR hf
          · have hf := (if_neg hc9).symm.trans hf
            refine G_iload (x := v6) X dX6_bestShift_86 rfl ?_
            refine G_goto (tgt := 92) X dX6_bestShift_88 (by decide) ?_
            refine G_istore_n X dX6_bestShift_92 rfl (Nat.le_of_ble_eq_true rfl) (ls' := [some (vr 79), some (vi x1), some (vi x4), some (vi v6), some (vi x4), some (vi v6)]) rfl ?_
            refine G_iinc (x := x4) (v := 1) X dX6_bestShift_93 rfl rfl (ls' := [some (vr 79), some (vi x1), some (vi x4), some (vi v6), some (vi (x4 + 1)), some (vi v6)]) rfl ?_
            refine G_goto (tgt := 17) X dX6_bestShift_96 (by decide) ?_
            refine G_weakL (ls' := [some (vr 79), some (vi x1), some (vi x4), some (vi v6), some (vi (x4 + 1)), none]) ⟨Or.inr rfl, ⟨Or.inr rfl, ⟨Or.inr rfl, ⟨Or.inr rfl, ⟨Or.inr rfl, ⟨Or.inl rfl, trivial⟩⟩⟩⟩⟩⟩ ?_
            exact ih I5 x1 x4 v6 (x4 + 1) _ _ hR hf
      · have hf := (if_neg hc7).symm.trans hf
        refine G_iload (x := v6) X dX6_bestShift_62 rfl ?_
        refine G_iload_n (x := x3) X dX6_bestShift_64 rfl rfl ?_
        refine G_icmp_ge (tgt := 73) X dX6_bestShift_65 (by decide) (fun hc10 => ?_) (fun hc10 => ?_)
        · have hf := (if_pos hc10).symm.trans hf
          refine G_iload_n (x := x2) X dX6_bestShift_73 rfl rfl ?_
          refine G_istore_n X dX6_bestShift_74 rfl (Nat.le_of_ble_eq_true rfl) (ls' := [some (vr 79), some (vi x1), some (vi x2), some (vi x3), some (vi x4), some (vi v6)]) rfl ?_
          refine G_iload (x := x4) X dX6_bestShift_75 rfl ?_
          refine G_if_eq (tgt := 86) X dX6_bestShift_77 (by decide) (fun hc11 => ?_) (fun hc11 => ?_)
          · have hf := (if_pos hc11).symm.trans hf
            refine G_iload (x := v6) X dX6_bestShift_86 rfl ?_
            refine G_goto (tgt := 92) X dX6_bestShift_88 (by decide) ?_
            refine G_istore_n X dX6_bestShift_92 rfl (Nat.le_of_ble_eq_true rfl) (ls' := [some (vr 79), some (vi x1), some (vi x2), some (vi v6), some (vi x4), some (vi v6)]) rfl ?_
            refine G_iinc (x := x4) (v := 1) X dX6_bestShift_93 rfl rfl (ls' := [some (vr 79), some (vi x1), some (vi x2), some (vi v6), some (vi (x4 + 1)), some (vi v6)]) rfl ?_
            refine G_goto (tgt := 17) X dX6_bestShift_96 (by decide) ?_
            refine G_weakL (ls' := [some (vr 79), some (vi x1), some (vi x2), some (vi v6), some (vi (x4 + 1)), none]) ⟨Or.inr rfl, ⟨Or.inr rfl, ⟨Or.inr rfl, ⟨Or.inr rfl, ⟨Or.inr rfl, ⟨Or.inl rfl, trivial⟩⟩⟩⟩⟩⟩ ?_
            exact ih I5 x1 x2 v6 (x4 + 1) _ _ hR hf
          · have hf := (if_neg hc11).symm.trans hf
            refine G_iload (x := v6) X dX6_bestShift_80 rfl ?_
            refine G_iload_n (x := x3) X dX6_bestShift_82 rfl rfl ?_
            refine G_icmp_ge (tgt := 91) X dX6_bestShift_83 (by decide) (fun hc12 => ?_) (fun hc12 => ?_)
            · have hf := (if_pos hc12).symm.trans hf
              refine G_iload_n (x := x3) X dX6_bestShift_91 rfl rfl ?_
              refine G_istore_n X dX6_bestShift_92 rfl (Nat.le_of_ble_eq_true rfl) (ls' := [some (vr 79), some (vi x1), some (vi x2), some (vi x3), some (vi x4), some (vi v6)]) rfl ?_
              refine G_iinc (x := x4) (v := 1) X dX6_bestShift_93 rfl rfl (ls' := [some (vr 79), some (vi x1), some (vi x2), some (vi x3), some (vi (x4 + 1)), some (vi v6)]) rfl ?_
              refine G_goto (tgt := 17) X dX6_bestShift_96 (by decide) ?_
              refine G_weakL (ls' := [some (vr 79), some (vi x1), some (vi x2), some (vi x3), some (vi (x4 + 1)), none]) ⟨Or.inr rfl, ⟨Or.inr rfl, ⟨Or.inr rfl, ⟨Or.inr rfl, ⟨Or.inr rfl, ⟨Or.inl rfl, trivial⟩⟩⟩⟩⟩⟩ ?_
              exact ih I5 x1 x2 x3 (x4 + 1) _ _ hR hf
            · have hf := (if_neg hc12).symm.trans hf
              refine G_iload (x := v6) X dX6_bestShift_86 rfl ?_
              refine G_goto (tgt := 92) X dX6_bestShift_88 (by decide) ?_
              refine G_istore_n X dX6_bestShift_92 rfl (Nat.le_of_ble_eq_true rfl) (ls' := [some (vr 79), some (vi x1), some (vi x2), some (vi v6), some (vi x4), some (vi v6)]) rfl ?_
              refine G_iinc (x := x4) (v := 1) X dX6_bestShift_93 rfl rfl (ls' := [some (vr 79), some (vi x1), some (vi x2), some (vi v6), some (vi (x4 + 1)), some (vi v6)]) rfl ?_
              refine G_goto (tgt := 17) X dX6_bestShift_96 (by decide) ?_
              refine G_weakL (ls' := [some (vr 79), some (vi x1), some (vi x2), some (vi v6), some (vi (x4 + 1)), none]) ⟨Or.inr rfl, ⟨Or.inr rfl, ⟨Or.inr rfl, ⟨Or.inr rfl, ⟨Or.inr rfl, ⟨Or.inl rfl, trivial⟩⟩⟩⟩⟩⟩ ?_
              exact ih I5 x1 x2 v6 (x4 + 1) _ _ hR hf
        · have hf := (if_neg hc10).symm.trans hf
          refine G_iload (x := x4) X dX6_bestShift_68 rfl ?_
          refine G_goto (tgt := 74) X dX6_bestShift_70 (by decide) ?_
          refine G_istore_n X dX6_bestShift_74 rfl (Nat.le_of_ble_eq_true rfl) (ls' := [some (vr 79), some (vi x1), some (vi x4), some (vi x3), some (vi x4), some (vi v6)]) rfl ?_
          refine G_iload (x := x4) X dX6_bestShift_75 rfl ?_
          refine G_if_eq (tgt := 86) X dX6_bestShift_77 (by decide) (fun hc13 => ?_) (fun hc13 => ?_)
          · have hf := (if_pos hc13).symm.trans hf
            refine G_iload (x := v6) X dX6_bestShift_86 rfl ?_
            refine G_goto (tgt := 92) X dX6_bestShift_88 (by decide) ?_
            refine G_istore_n X dX6_bestShift_92 rfl (Nat.le_of_ble_eq_true rfl) (ls' := [some (vr 79), some (vi x1), some (vi x4), some (vi v6), some (vi x4), some (vi v6)]) rfl ?_
            refine G_iinc (x := x4) (v := 1) X dX6_bestShift_93 rfl rfl (ls' := [some (vr 79), some (vi x1), some (vi x4), some (vi v6), some (vi (x4 + 1)), some (vi v6)]) rfl ?_
            refine G_goto (tgt := 17) X dX6_bestShift_96 (by decide) ?_
            refine G_weakL (ls' := [some (vr 79), some (vi x1), some (vi x4), some (vi v6), some (vi (x4 + 1)), none]) ⟨Or.inr rfl, ⟨Or.inr rfl, ⟨Or.inr rfl, ⟨Or.inr rfl, ⟨Or.inr rfl, ⟨Or.inl rfl, trivial⟩⟩⟩⟩⟩⟩ ?_
            exact ih I5 x1 x4 v6 (x4 + 1) _ _ hR hf
          · have hf := (if_neg hc13).symm.trans hf
            refine G_iload (x := v6) X dX6_bestShift_80 rfl ?_
            refine G_iload_n (x := x3) X dX6_bestShift_82 rfl rfl ?_
            refine G_icmp_ge (tgt := 91) X dX6_bestShift_83 (by decide) (fun hc14 => ?_) (fun hc14 => ?_)
            · have hf := (if_pos hc14).symm.trans hf
              refine G_iload_n (x := x3) X dX6_bestShift_91 rfl rfl ?_
              refine G_istore_n X dX6_bestShift_92 rfl (Nat.le_of_ble_eq_true rfl) (ls' := [some (vr 79), some (vi x1), some (vi x4), some (vi x3), some (vi x4), some (vi v6)]) rfl ?_
              refine G_iinc (x := x4) (v := 1) X dX6_bestShift_93 rfl rfl (ls' := [some (vr 79), some (vi x1), some (vi x4), some (vi x3), some (vi (x4 + 1)), some (vi v6)]) rfl ?_
              refine G_goto (tgt := 17) X dX6_bestShift_96 (by decide) ?_
              refine G_weakL (ls' := [some (vr 79), some (vi x1), some (vi x4), some (vi x3), some (vi (x4 + 1)), none]) ⟨Or.inr rfl, ⟨Or.inr rfl, ⟨Or.inr rfl, ⟨Or.inr rfl, ⟨Or.inr rfl, ⟨Or.inl rfl, trivial⟩⟩⟩⟩⟩⟩ ?_
              exact ih I5 x1 x4 x3 (x4 + 1) _ _ hR hf
            · have hf := (if_neg hc14).symm.trans hf
              refine G_iload (x := v6) X dX6_bestShift_86 rfl ?_
              refine G_goto (tgt := 92) X dX6_bestShift_88 (by decide) ?_
              refine G_istore_n X dX6_bestShift_92 rfl (Nat.le_of_ble_eq_true rfl) (ls' := [some (vr 79), some (vi x1), some (vi x4), some (vi v6), some (vi x4), some (vi v6)]) rfl ?_
              refine G_iinc (x := x4) (v := 1) X dX6_bestShift_93 rfl rfl (ls' := [some (vr 79), some (vi x1), some (vi x4), some (vi v6), some (vi (x4 + 1)), some (vi v6)]) rfl ?_
              refine G_goto (tgt := 17) X dX6_bestShift_96 (by decide) ?_
              refine G_weakL (ls' := [some (vr 79), some (vi x1), some (vi x4), some (vi v6), some (vi (x4 + 1)), none]) ⟨Or.inr rfl, ⟨Or.inr rfl, ⟨Or.inr rfl, ⟨Or.inr rfl, ⟨Or.inr rfl, ⟨Or.inl rfl, trivial⟩⟩⟩⟩⟩⟩ ?_
              exact ih I5 x1 x4 v6 (x4 + 1) _ _ hR hf

def f6_bestShift (I : gI) (a0 : Int32) : Option (Int32 × gI) := (f6_isRow I a0).bind fun v1 => (if v1 = true then f6_bestShift_L17 FU I a0 0 0 0 else some ((-1), I))
set_option maxRecDepth 100000 in
set_option maxHeartbeats 4000000 in
theorem f6_bestShift_ok (E : gEnv) (I : gI) (a0 : Int32) (r : Int32) (I' : gI) (hf : f6_bestShift I a0 = some (r, I')) : Ctr E yX6_bestShift cX6_bestShift 6 (some .int) 5 0 0 [vr 79, vi a0] (mm I) (some (vi r)) (mm I') := by
  refine Ctr.mk (by decide +kernel) (Nat.le_of_ble_eq_true rfl) fun κ X hR _ => ?_
  have X : Cx E κ cX6_bestShift 6 RX6 (some .int) 5 0 0 := X
  show G E κ 0 0 0 [some (vr 79), some (vi a0), none, none, none, none] [] (mm I)
  unfold f6_bestShift at hf
  refine G_aload_n (x := some (79)) X dX6_bestShift_0 rfl rfl ?_
  refine G_iload_n (x := a0) X dX6_bestShift_1 rfl rfl ?_
  obtain ⟨v1, hk1, hf⟩ := obd hf
  refine G_callV (As := [vi a0]) X (f6_isRow_ok E I a0 v1 hk1) cb_X6_74 vi_X6_isRow (ci := 5) rfl rfl (show SH[79]? = some (_, 0) from rfl) rfl rfl (Nat.le_of_ble_eq_true rfl) (by decide) (by decide) rfl (Nat.le_refl _) (Nat.le_refl _) dX6_bestShift_2 ?_
  show G E κ _ _ _ [some (vr 79), some (vi a0), none, none, none, none] [vi (b2i v1)] (mm I)
  refine G_if_ne (tgt := 10) X dX6_bestShift_5 (by decide) (fun hc2 => ?_) (fun hc2 => ?_)
  · have hf := (if_pos (b2i_t hc2)).symm.trans hf
    refine G_iconst (v := 0) X dX6_bestShift_10 rfl ?_
    refine G_istore_n X dX6_bestShift_11 rfl (Nat.le_of_ble_eq_true rfl) (ls' := [some (vr 79), some (vi a0), some (vi 0), none, none, none]) rfl ?_
    refine G_iconst (v := 0) X dX6_bestShift_12 rfl ?_
    refine G_istore_n X dX6_bestShift_13 rfl (Nat.le_of_ble_eq_true rfl) (ls' := [some (vr 79), some (vi a0), some (vi 0), some (vi 0), none, none]) rfl ?_
    refine G_iconst (v := 0) X dX6_bestShift_14 rfl ?_
    refine G_istore X dX6_bestShift_15 (Nat.le_of_ble_eq_true rfl) (ls' := [some (vr 79), some (vi a0), some (vi 0), some (vi 0), some (vi 0), none]) rfl ?_
    exact f6_bestShift_L17_ok X FU I a0 0 0 0 _ _ hR hf
  · have hf := (if_neg (b2i_f hc2)).symm.trans hf
    refine G_iconst (v := (-1)) X dX6_bestShift_8 rfl ?_
    obtain ⟨rfl, rfl⟩ := Prod.mk.inj (Option.some.inj hf)
    exact G_iret X hR rfl rfl dX6_bestShift_9

