def f5_record (I : gI) (a0 : Int32) : Option gI := if ib a0 8 = true then (f3_add I (I 0 1) a0 (63 + 2 * a0.toNatClampNeg)).bind fun I2 => some I2 else none
set_option maxRecDepth 100000 in
set_option maxHeartbeats 4000000 in
theorem f5_record_ok (E : gEnv) (I : gI) (a0 : Int32) (I' : gI) (hf : f5_record I a0 = some I') : Ctr E yX5_record cX5_record 2 none 3 0 0 [vr 0, vi a0] (mm I) (none) (mm I') := by
  refine Ctr.mk (by decide +kernel) rfl (Nat.le_of_ble_eq_true rfl) fun κ X hR _ => ?_
  have X : Cx E κ cX5_record 2 RX5 none 3 0 0 := X
  show G E κ 0 0 0 [some (vr 0), some (vi a0)] [] (mm I)
  unfold f5_record at hf
  refine G_aload_n (x := some (0)) X dX5_record_0 rfl rfl ?_
  refine M_getR X fd_X5_18 rfl (show SH[0]? = some (_, 0) from rfl) rfl dX5_record_1 ?_
  refine G_aload_n (x := some (0)) X dX5_record_4 rfl rfl ?_
  refine M_getI X fd_X5_34 rfl (show SH[0]? = some (_, 0) from rfl) dX5_record_5 ?_
  refine G_iload_n (x := a0) X dX5_record_8 rfl rfl ?_
  refine G_aload_n (x := some (0)) X dX5_record_9 rfl rfl ?_
  refine M_getR X fd_X5_11 rfl (show SH[0]? = some (_, 0) from rfl) rfl dX5_record_10 ?_
  refine G_iload_n (x := a0) X dX5_record_13 rfl rfl ?_
  obtain ⟨hc1, hf⟩ := ock hf
  refine M_aald (r := 63 + 2 * a0.toNatClampNeg) X (show SH[1]? = some (12, 8) from rfl) (by decide) hc1 (p_row (ib_lt hc1)) dX5_record_14 ?_
  obtain ⟨I2, hk2, hf⟩ := obd hf
  refine G_callV (As := [vi (I 0 1), vi a0, vr (63 + 2 * a0.toNatClampNeg)]) X (f3_add_ok E I (I 0 1) a0 (63 + 2 * a0.toNatClampNeg) (rB_is (ib_lt hc1)) I2 hk2) cb_X5_168 vi_X3_add (ci := 3) rfl rfl (show SH[2]? = some (_, 0) from rfl) rfl rfl (Nat.le_of_ble_eq_true rfl) (by decide) (by decide) rfl (Nat.le_refl _) (Nat.le_refl _) dX5_record_15 ?_
  show G E κ _ _ _ [some (vr 0), some (vi a0)] [] (mm I2)
  obtain rfl := Option.some.inj hf
  exact G_vret X hR rfl dX5_record_18

def f5_make (I : gI)  : Option (Int32 × gI) := (if (I 0 1) < 8 then (f5_record I (I 0 1)).bind fun I2 => if ib (I 0 1) 8 = true then (f0_cutTo I2 (63 + 2 * (I 0 1).toNatClampNeg) 0).bind fun I4 => some (I 0 1, uI I4 0 1 ((I4 0 1) + 1)) else none else some ((-3), I))
set_option maxRecDepth 100000 in
set_option maxHeartbeats 4000000 in
theorem f5_make_ok (E : gEnv) (I : gI)  (r : Int32) (I' : gI) (hf : f5_make I  = some (r, I')) : Ctr E yX5_make cX5_make 2 (some .int) 4 0 0 [vr 0] (mm I) (some (vi r)) (mm I') := by
  refine Ctr.mk (by decide +kernel) rfl (Nat.le_of_ble_eq_true rfl) fun κ X hR _ => ?_
  have X : Cx E κ cX5_make 2 RX5 (some .int) 4 0 0 := X
  show G E κ 0 0 0 [some (vr 0), none] [] (mm I)
  unfold f5_make at hf
  refine G_aload_n (x := some (0)) X dX5_make_0 rfl rfl ?_
  refine M_getI X fd_X5_34 rfl (show SH[0]? = some (_, 0) from rfl) dX5_make_1 ?_
  refine G_bipush (v := 8) X dX5_make_4 rfl ?_
  refine G_icmp_lt (tgt := 12) X dX5_make_6 (by decide) (fun hc1 => ?_) (fun hc1 => ?_)
  · have hf := (if_pos hc1).symm.trans hf
    refine G_aload_n (x := some (0)) X dX5_make_12 rfl rfl ?_
    refine M_getI X fd_X5_34 rfl (show SH[0]? = some (_, 0) from rfl) dX5_make_13 ?_
    refine G_istore_n X dX5_make_16 rfl rfl (ls' := [some (vr 0), some (vi (I 0 1))]) rfl ?_
    refine G_aload_n (x := some (0)) X dX5_make_17 rfl rfl ?_
    refine G_iload_n (x := I 0 1) X dX5_make_18 rfl rfl ?_
    obtain ⟨I2, hk2, hf⟩ := obd hf
    refine G_callV (As := [vi (I 0 1)]) X (f5_record_ok E I (I 0 1) I2 hk2) cb_X5_38 vi_X5_record (ci := 4) rfl rfl (show SH[0]? = some (_, 0) from rfl) rfl rfl (Nat.le_of_ble_eq_true rfl) (by decide) (by decide) rfl (Nat.le_refl _) (Nat.le_refl _) dX5_make_19 ?_
    show G E κ _ _ _ [some (vr 0), some (vi (I 0 1))] [] (mm I2)
    refine G_aload_n (x := some (0)) X dX5_make_22 rfl rfl ?_
    refine M_getR X fd_X5_11 rfl (show SH[0]? = some (_, 0) from rfl) rfl dX5_make_23 ?_
    refine G_iload_n (x := I 0 1) X dX5_make_26 rfl rfl ?_
    obtain ⟨hc3, hf⟩ := ock hf
    refine M_aald (r := 63 + 2 * (I 0 1).toNatClampNeg) X (show SH[1]? = some (12, 8) from rfl) (by decide) hc3 (p_row (ib_lt hc3)) dX5_make_27 ?_
    refine G_iconst (v := 0) X dX5_make_28 rfl ?_
    obtain ⟨I4, hk4, hf⟩ := obd hf
    refine G_callV (As := [vi 0]) X (f0_cutTo_ok E I2 (63 + 2 * (I 0 1).toNatClampNeg) (rB_is (ib_lt hc3)) 0 I4 hk4) cb_X5_42 vi_X0_cutTo (ci := 0) rfl rfl (show SH[63 + 2 * (I 0 1).toNatClampNeg]? = some (_, 0) from (rB_is (ib_lt hc3)).1) rfl rfl (Nat.le_of_ble_eq_true rfl) (by decide) (by decide) rfl (Nat.le_refl _) (Nat.le_refl _) dX5_make_29 ?_
    show G E κ _ _ _ [some (vr 0), some (vi (I 0 1))] [] (mm I4)
    refine G_aload_n (x := some (0)) X dX5_make_32 rfl rfl ?_
    refine G_dup X rfl dX5_make_33 ?_
    refine M_getI X fd_X5_34 rfl (show SH[0]? = some (_, 0) from rfl) dX5_make_34 ?_
    refine G_iconst (v := 1) X dX5_make_37 rfl ?_
    refine G_iadd X dX5_make_38 ?_
    refine M_putI X fd_X5_34 rfl (show SH[0]? = some (_, 0) from rfl) rfl rfl dX5_make_39 ?_
    refine G_iload_n (x := I 0 1) X dX5_make_42 rfl rfl ?_
    obtain ⟨rfl, rfl⟩ := Prod.mk.inj (Option.some.inj hf)
    exact G_iret X hR rfl rfl dX5_make_43
  · have hf := (if_neg hc1).symm.trans hf
    refine G_bipush (v := (-3)) X dX5_make_9 rfl ?_
    obtain ⟨rfl, rfl⟩ := Prod.mk.inj (Option.some.inj hf)
    exact G_iret X hR rfl rfl dX5_make_11

def f5_isWithin (a0 : Int32) (a1 : Int32) (a2 : Int32) : Bool := (if a0 < a1 then false else (if a2 < a0 then false else true))
set_option maxRecDepth 100000 in
set_option maxHeartbeats 4000000 in
theorem f5_isWithin_ok (E : gEnv) (I : gI) (a0 : Int32) (a1 : Int32) (a2 : Int32) (r : Bool) (hf : f5_isWithin  a0 a1 a2 = r) : Ctr E yX5_isWithin cX5_isWithin 3 (some .boolean) 0 0 0 [vi a0, vi a1, vi a2] (mm I) (some (vi (b2i r))) (mm I) := by
  refine Ctr.mk (by decide +kernel) rfl (Nat.le_of_ble_eq_true rfl) fun κ X hR _ => ?_
  have X : Cx E κ cX5_isWithin 3 RX5 (some .boolean) 0 0 0 := X
  show G E κ 0 0 0 [some (vi a0), some (vi a1), some (vi a2)] [] (mm I)
  unfold f5_isWithin at hf
  refine G_iload_n (x := a0) X dX5_isWithin_0 rfl rfl ?_
  refine G_iload_n (x := a1) X dX5_isWithin_1 rfl rfl ?_
  refine G_icmp_lt (tgt := 14) X dX5_isWithin_2 (by decide) (fun hc1 => ?_) (fun hc1 => ?_)
  · have hf := (if_pos hc1).symm.trans hf
    refine G_iconst (v := 0) X dX5_isWithin_14 rfl ?_
    subst hf
    exact G_iret X hR rfl (nar_b2i false) dX5_isWithin_15
  · have hf := (if_neg hc1).symm.trans hf
    refine G_iload_n (x := a0) X dX5_isWithin_5 rfl rfl ?_
    refine G_iload_n (x := a2) X dX5_isWithin_6 rfl rfl ?_
    refine G_icmp_gt (tgt := 14) X dX5_isWithin_7 (by decide) (fun hc2 => ?_) (fun hc2 => ?_)
    · have hf := (if_pos hc2).symm.trans hf
      refine G_iconst (v := 0) X dX5_isWithin_14 rfl ?_
      subst hf
      exact G_iret X hR rfl (nar_b2i false) dX5_isWithin_15
    · have hf := (if_neg hc2).symm.trans hf
      refine G_iconst (v := 1) X dX5_isWithin_10 rfl ?_
      refine G_goto (tgt := 15) X dX5_isWithin_11 (by decide) ?_
      subst hf
      exact G_iret X hR rfl (nar_b2i true) dX5_isWithin_15

def f5_isRow (I : gI) (a0 : Int32) : Bool := (f5_isWithin a0 0 ((I 0 1) - 1))
set_option maxRecDepth 100000 in
set_option maxHeartbeats 4000000 in
theorem f5_isRow_ok (E : gEnv) (I : gI) (a0 : Int32) (r : Bool) (hf : f5_isRow I a0 = r) : Ctr E yX5_isRow cX5_isRow 2 (some .boolean) 1 0 0 [vr 0, vi a0] (mm I) (some (vi (b2i r))) (mm I) := by
  refine Ctr.mk (by decide +kernel) rfl (Nat.le_of_ble_eq_true rfl) fun κ X hR _ => ?_
  have X : Cx E κ cX5_isRow 2 RX5 (some .boolean) 1 0 0 := X
  show G E κ 0 0 0 [some (vr 0), some (vi a0)] [] (mm I)
  unfold f5_isRow at hf
  refine G_iload_n (x := a0) X dX5_isRow_0 rfl rfl ?_
  refine G_iconst (v := 0) X dX5_isRow_1 rfl ?_
  refine G_aload_n (x := some (0)) X dX5_isRow_2 rfl rfl ?_
  refine M_getI X fd_X5_34 rfl (show SH[0]? = some (_, 0) from rfl) dX5_isRow_3 ?_
  refine G_iconst (v := 1) X dX5_isRow_6 rfl ?_
  refine G_isub X dX5_isRow_7 ?_
  refine G_callS (As := [vi a0, vi 0, vi ((I 0 1) - 1)]) X (f5_isWithin_ok E I a0 0 ((I 0 1) - 1) _ rfl) cb_X5_52 st_X5_isWithin rfl rfl (Nat.le_of_ble_eq_true rfl) (by decide) (by decide) rfl (Nat.le_refl _) (Nat.le_refl _) dX5_isRow_8 ?_
  show G E κ _ _ _ [some (vr 0), some (vi a0)] [vi (b2i (f5_isWithin a0 0 ((I 0 1) - 1)))] (mm I)
  subst hf
  exact G_iret X hR rfl (nar_b2i (f5_isWithin a0 0 ((I 0 1) - 1))) dX5_isRow_11

def f5_isBit (a0 : Int32) : Bool := (f5_isWithin a0 0 1)
set_option maxRecDepth 100000 in
set_option maxHeartbeats 4000000 in
theorem f5_isBit_ok (E : gEnv) (I : gI) (a0 : Int32) (r : Bool) (hf : f5_isBit  a0 = r) : Ctr E yX5_isBit cX5_isBit 1 (some .boolean) 1 0 0 [vi a0] (mm I) (some (vi (b2i r))) (mm I) := by
  refine Ctr.mk (by decide +kernel) rfl (Nat.le_of_ble_eq_true rfl) fun κ X hR _ => ?_
  have X : Cx E κ cX5_isBit 1 RX5 (some .boolean) 1 0 0 := X
  show G E κ 0 0 0 [some (vi a0)] [] (mm I)
  unfold f5_isBit at hf
  refine G_iload_n (x := a0) X dX5_isBit_0 rfl rfl ?_
  refine G_iconst (v := 0) X dX5_isBit_1 rfl ?_
  refine G_iconst (v := 1) X dX5_isBit_2 rfl ?_
  refine G_callS (As := [vi a0, vi 0, vi 1]) X (f5_isWithin_ok E I a0 0 1 _ rfl) cb_X5_52 st_X5_isWithin rfl rfl (Nat.le_of_ble_eq_true rfl) (by decide) (by decide) rfl (Nat.le_refl _) (Nat.le_refl _) dX5_isBit_3 ?_
  show G E κ _ _ _ [some (vi a0)] [vi (b2i (f5_isWithin a0 0 1))] (mm I)
  subst hf
  exact G_iret X hR rfl (nar_b2i (f5_isWithin a0 0 1)) dX5_isBit_6

def f5_append (I : gI) (a0 : Int32) (a1 : Int32) (a2 : Int32) : Option (Int32 × gI) := (if (f5_isRow I a0) = true then (if (f5_isBit a1) = true then (if (f5_isWithin a2 1 600) = true then if ib a0 8 = true then (if ((I (63 + 2 * a0.toNatClampNeg) 1) + a2) ≤ 600 then (f5_record I a0).bind fun I6 => if ib a0 8 = true then (f0_addRun I6 (63 + 2 * a0.toNatClampNeg) a1 a2).bind fun I8 => if ib a0 8 = true then some (I8 (63 + 2 * a0.toNatClampNeg) 1, I8) else none else none else some ((-3), I)) else none else some ((-1), I)) else some ((-1), I)) else some ((-1), I))
set_option maxRecDepth 100000 in
set_option maxHeartbeats 4000000 in
theorem f5_append_ok (E : gEnv) (I : gI) (a0 : Int32) (a1 : Int32) (a2 : Int32) (r : Int32) (I' : gI) (hf : f5_append I a0 a1 a2 = some (r, I')) : Ctr E yX5_append cX5_append 4 (some .int) 4 0 0 [vr 0, vi a0, vi a1, vi a2] (mm I) (some (vi r)) (mm I') := by
  refine Ctr.mk (by decide +kernel) rfl (Nat.le_of_ble_eq_true rfl) fun κ X hR _ => ?_
  have X : Cx E κ cX5_append 4 RX5 (some .int) 4 0 0 := X
  show G E κ 0 0 0 [some (vr 0), some (vi a0), some (vi a1), some (vi a2)] [] (mm I)
  unfold f5_append at hf
  refine G_aload_n (x := some (0)) X dX5_append_0 rfl rfl ?_
  refine G_iload_n (x := a0) X dX5_append_1 rfl rfl ?_
  refine G_callV (As := [vi a0]) X (f5_isRow_ok E I a0 _ rfl) cb_X5_45 vi_X5_isRow (ci := 4) rfl rfl (show SH[0]? = some (_, 0) from rfl) rfl rfl (Nat.le_of_ble_eq_true rfl) (by decide) (by decide) rfl (Nat.le_refl _) (Nat.le_refl _) dX5_append_2 ?_
  show G E κ _ _ _ [some (vr 0), some (vi a0), some (vi a1), some (vi a2)] [vi (b2i (f5_isRow I a0))] (mm I)
  refine G_if_eq (tgt := 26) X dX5_append_5 (by decide) (fun hc1 => ?_) (fun hc1 => ?_)
  · have hf := (if_neg (b2i_f hc1)).symm.trans hf
    refine G_iconst (v := (-1)) X dX5_append_26 rfl ?_
    obtain ⟨rfl, rfl⟩ := Prod.mk.inj (Option.some.inj hf)
    exact G_iret X hR rfl rfl dX5_append_27
  · have hf := (if_pos (b2i_t hc1)).symm.trans hf
    refine G_iload_n (x := a1) X dX5_append_8 rfl rfl ?_
    refine G_callS (As := [vi a1]) X (f5_isBit_ok E I a1 _ rfl) cb_X5_49 st_X5_isBit rfl rfl (Nat.le_of_ble_eq_true rfl) (by decide) (by decide) rfl (Nat.le_refl _) (Nat.le_refl _) dX5_append_9 ?_
    show G E κ _ _ _ [some (vr 0), some (vi a0), some (vi a1), some (vi a2)] [vi (b2i (f5_isBit a1))] (mm I)
    refine G_if_eq (tgt := 26) X dX5_append_12 (by decide) (fun hc2 => ?_) (fun hc2 => ?_)
    · have hf := (if_neg (b2i_f hc2)).symm.trans hf
      refine G_iconst (v := (-1)) X dX5_append_26 rfl ?_
      obtain ⟨rfl, rfl⟩ := Prod.mk.inj (Option.some.inj hf)
      exact G_iret X hR rfl rfl dX5_append_27
    · have hf := (if_pos (b2i_t hc2)).symm.trans hf
      refine G_iload_n (x := a2) X dX5_append_15 rfl rfl ?_
      refine G_iconst (v := 1) X dX5_append_16 rfl ?_
      refine G_sipush (v := 600) X dX5_append_17 rfl ?_
      refine G_callS (As := [vi a2, vi 1, vi 600]) X (f5_isWithin_ok E I a2 1 600 _ rfl) cb_X5_52 st_X5_isWithin rfl rfl (Nat.le_of_ble_eq_true rfl) (by decide) (by decide) rfl (Nat.le_refl _) (Nat.le_refl _) dX5_append_20 ?_
      show G E κ _ _ _ [some (vr 0), some (vi a0), some (vi a1), some (vi a2)] [vi (b2i (f5_isWithin a2 1 600))] (mm I)
      refine G_if_ne (tgt := 28) X dX5_append_23 (by decide) (fun hc3 => ?_) (fun hc3 => ?_)
      · have hf := (if_pos (b2i_t hc3)).symm.trans hf
        refine G_aload_n (x := some (0)) X dX5_append_28 rfl rfl ?_
        refine M_getR X fd_X5_11 rfl (show SH[0]? = some (_, 0) from rfl) rfl dX5_append_29 ?_
        refine G_iload_n (x := a0) X dX5_append_32 rfl rfl ?_
        obtain ⟨hc4, hf⟩ := ock hf
        refine M_aald (r := 63 + 2 * a0.toNatClampNeg) X (show SH[1]? = some (12, 8) from rfl) (by decide) hc4 (p_row (ib_lt hc4)) dX5_append_33 ?_
        refine M_getI X fd_X5_56 rfl (show SH[63 + 2 * a0.toNatClampNeg]? = some (_, 0) from (rB_is (ib_lt hc4)).1) dX5_append_34 ?_
        refine G_iload_n (x := a2) X dX5_append_37 rfl rfl ?_
        refine G_iadd X dX5_append_38 ?_
        refine G_sipush (v := 600) X dX5_append_39 rfl ?_
        refine G_icmp_le (tgt := 48) X dX5_append_42 (by decide) (fun hc5 => ?_) (fun hc5 => ?_)
        · have hf := (if_pos hc5).symm.trans hf
          refine G_aload_n (x := some (0)) X dX5_append_48 rfl rfl ?_
          refine G_iload_n (x := a0) X dX5_append_49 rfl rfl ?_
          obtain ⟨I6, hk6, hf⟩ := obd hf
          refine G_callV (As := [vi a0]) X (f5_record_ok E I a0 I6 hk6) cb_X5_38 vi_X5_record (ci := 4) rfl rfl (show SH[0]? = some (_, 0) from rfl) rfl rfl (Nat.le_of_ble_eq_true rfl) (by decide) (by decide) rfl (Nat.le_refl _) (Nat.le_refl _) dX5_append_50 ?_
          show G E κ _ _ _ [some (vr 0), some (vi a0), some (vi a1), some (vi a2)] [] (mm I6)
          refine G_aload_n (x := some (0)) X dX5_append_53 rfl rfl ?_
          refine M_getR X fd_X5_11 rfl (show SH[0]? = some (_, 0) from rfl) rfl dX5_append_54 ?_
          refine G_iload_n (x := a0) X dX5_append_57 rfl rfl ?_
          obtain ⟨hc7, hf⟩ := ock hf
          refine M_aald (r := 63 + 2 * a0.toNatClampNeg) X (show SH[1]? = some (12, 8) from rfl) (by decide) hc7 (p_row (ib_lt hc7)) dX5_append_58 ?_
          refine G_iload_n (x := a1) X dX5_append_59 rfl rfl ?_
          refine G_iload_n (x := a2) X dX5_append_60 rfl rfl ?_
          obtain ⟨I8, hk8, hf⟩ := obd hf
          refine G_callV (As := [vi a1, vi a2]) X (f0_addRun_ok E I6 (63 + 2 * a0.toNatClampNeg) (rB_is (ib_lt hc7)) a1 a2 I8 hk8) cb_X5_59 vi_X0_addRun (ci := 0) rfl rfl (show SH[63 + 2 * a0.toNatClampNeg]? = some (_, 0) from (rB_is (ib_lt hc7)).1) rfl rfl (Nat.le_of_ble_eq_true rfl) (by decide) (by decide) rfl (Nat.le_refl _) (Nat.le_refl _) dX5_append_61 ?_
          show G E κ _ _ _ [some (vr 0), some (vi a0), some (vi a1), some (vi a2)] [] (mm I8)
          refine G_aload_n (x := some (0)) X dX5_append_64 rfl rfl ?_
          refine M_getR X fd_X5_11 rfl (show SH[0]? = some (_, 0) from rfl) rfl dX5_append_65 ?_
          refine G_iload_n (x := a0) X dX5_append_68 rfl rfl ?_
          obtain ⟨hc9, hf⟩ := ock hf
          refine M_aald (r := 63 + 2 * a0.toNatClampNeg) X (show SH[1]? = some (12, 8) from rfl) (by decide) hc9 (p_row (ib_lt hc9)) dX5_append_69 ?_
          refine M_getI X fd_X5_56 rfl (show SH[63 + 2 * a0.toNatClampNeg]? = some (_, 0) from (rB_is (ib_lt hc9)).1) dX5_append_70 ?_
          obtain ⟨rfl, rfl⟩ := Prod.mk.inj (Option.some.inj hf)
          exact G_iret X hR rfl rfl dX5_append_73
        · have hf := (if_neg hc5).symm.trans hf
          refine G_bipush (v := (-3)) X dX5_append_45 rfl ?_
          obtain ⟨rfl, rfl⟩ := Prod.mk.inj (Option.some.inj hf)
          exact G_iret X hR rfl rfl dX5_append_47
      · have hf := (if_neg (b2i_f hc3)).symm.trans hf
        refine G_iconst (v := (-1)) X dX5_append_26 rfl ?_
        obtain ⟨rfl, rfl⟩ := Prod.mk.inj (Option.some.inj hf)
        exact G_iret X hR rfl rfl dX5_append_27

def f5_write (I : gI) (a0 : Int32) (a1 : Int32) (a2 : Int32) : Option (Int32 × gI) := (if (f5_isRow I a0) = true then (if (f5_isWithin a1 0 65535) = true then (if (f5_isWithin a2 1 16) = true then if ib a0 8 = true then (if ((I (63 + 2 * a0.toNatClampNeg) 1) + a2) ≤ 600 then (f5_record I a0).bind fun I6 => if ib a0 8 = true then (f0_addNumber I6 (63 + 2 * a0.toNatClampNeg) a1 a2).bind fun I8 => if ib a0 8 = true then (f4_size I8 (63 + 2 * a0.toNatClampNeg)).bind fun v10 => some (v10, I8) else none else none else some ((-3), I)) else none else some ((-1), I)) else some ((-1), I)) else some ((-1), I))
set_option maxRecDepth 100000 in
set_option maxHeartbeats 4000000 in
theorem f5_write_ok (E : gEnv) (I : gI) (a0 : Int32) (a1 : Int32) (a2 : Int32) (r : Int32) (I' : gI) (hf : f5_write I a0 a1 a2 = some (r, I')) : Ctr E yX5_write cX5_write 4 (some .int) 4 0 0 [vr 0, vi a0, vi a1, vi a2] (mm I) (some (vi r)) (mm I') := by
  refine Ctr.mk (by decide +kernel) rfl (Nat.le_of_ble_eq_true rfl) fun κ X hR _ => ?_
  have X : Cx E κ cX5_write 4 RX5 (some .int) 4 0 0 := X
  show G E κ 0 0 0 [some (vr 0), some (vi a0), some (vi a1), some (vi a2)] [] (mm I)
  unfold f5_write at hf
  refine G_aload_n (x := some (0)) X dX5_write_0 rfl rfl ?_
  refine G_iload_n (x := a0) X dX5_write_1 rfl rfl ?_
  refine G_callV (As := [vi a0]) X (f5_isRow_ok E I a0 _ rfl) cb_X5_45 vi_X5_isRow (ci := 4) rfl rfl (show SH[0]? = some (_, 0) from rfl) rfl rfl (Nat.le_of_ble_eq_true rfl) (by decide) (by decide) rfl (Nat.le_refl _) (Nat.le_refl _) dX5_write_2 ?_
  show G E κ _ _ _ [some (vr 0), some (vi a0), some (vi a1), some (vi a2)] [vi (b2i (f5_isRow I a0))] (mm I)
  refine G_if_eq (tgt := 28) X dX5_write_5 (by decide) (fun hc1 => ?_) (fun hc1 => ?_)
  · have hf := (if_neg (b2i_f hc1)).symm.trans hf
    refine G_iconst (v := (-1)) X dX5_write_28 rfl ?_
    obtain ⟨rfl, rfl⟩ := Prod.mk.inj (Option.some.inj hf)
    exact G_iret X hR rfl rfl dX5_write_29
  · have hf := (if_pos (b2i_t hc1)).symm.trans hf
    refine G_iload_n (x := a1) X dX5_write_8 rfl rfl ?_
    refine G_iconst (v := 0) X dX5_write_9 rfl ?_
    refine G_ldc (v := 65535) X kc_X5_63 dX5_write_10 ?_
    refine G_callS (As := [vi a1, vi 0, vi 65535]) X (f5_isWithin_ok E I a1 0 65535 _ rfl) cb_X5_52 st_X5_isWithin rfl rfl (Nat.le_of_ble_eq_true rfl) (by decide) (by decide) rfl (Nat.le_refl _) (Nat.le_refl _) dX5_write_12 ?_
    show G E κ _ _ _ [some (vr 0), some (vi a0), some (vi a1), some (vi a2)] [vi (b2i (f5_isWithin a1 0 65535))] (mm I)
    refine G_if_eq (tgt := 28) X dX5_write_15 (by decide) (fun hc2 => ?_) (fun hc2 => ?_)
    · have hf := (if_neg (b2i_f hc2)).symm.trans hf
      refine G_iconst (v := (-1)) X dX5_write_28 rfl ?_
      obtain ⟨rfl, rfl⟩ := Prod.mk.inj (Option.some.inj hf)
      exact G_iret X hR rfl rfl dX5_write_29
    · have hf := (if_pos (b2i_t hc2)).symm.trans hf
      refine G_iload_n (x := a2) X dX5_write_18 rfl rfl ?_
      refine G_iconst (v := 1) X dX5_write_19 rfl ?_
      refine G_bipush (v := 16) X dX5_write_20 rfl ?_
      refine G_callS (As := [vi a2, vi 1, vi 16]) X (f5_isWithin_ok E I a2 1 16 _ rfl) cb_X5_52 st_X5_isWithin rfl rfl (Nat.le_of_ble_eq_true rfl) (by decide) (by decide) rfl (Nat.le_refl _) (Nat.le_refl _) dX5_write_22 ?_
      show G E κ _ _ _ [some (vr 0), some (vi a0), some (vi a1), some (vi a2)] [vi (b2i (f5_isWithin a2 1 16))] (mm I)
      refine G_if_ne (tgt := 30) X dX5_write_25 (by decide) (fun hc3 => ?_) (fun hc3 => ?_)
      · have hf := (if_pos (b2i_t hc3)).symm.trans hf
        refine G_aload_n (x := some (0)) X dX5_write_30 rfl rfl ?_
        refine M_getR X fd_X5_11 rfl (show SH[0]? = some (_, 0) from rfl) rfl dX5_write_31 ?_
        refine G_iload_n (x := a0) X dX5_write_34 rfl rfl ?_
        obtain ⟨hc4, hf⟩ := ock hf
        refine M_aald (r := 63 + 2 * a0.toNatClampNeg) X (show SH[1]? = some (12, 8) from rfl) (by decide) hc4 (p_row (ib_lt hc4)) dX5_write_35 ?_
        refine M_getI X fd_X5_56 rfl (show SH[63 + 2 * a0.toNatClampNeg]? = some (_, 0) from (rB_is (ib_lt hc4)).1) dX5_write_36 ?_
        refine G_iload_n (x := a2) X dX5_write_39 rfl rfl ?_
        refine G_iadd X dX5_write_40 ?_
        refine G_sipush (v := 600) X dX5_write_41 rfl ?_
        refine G_icmp_le (tgt := 50) X dX5_write_44 (by decide) (fun hc5 => ?_) (fun hc5 => ?_)
        · have hf := (if_pos hc5).symm.trans hf
          refine G_aload_n (x := some (0)) X dX5_write_50 rfl rfl ?_
          refine G_iload_n (x := a0) X dX5_write_51 rfl rfl ?_
          obtain ⟨I6, hk6, hf⟩ := obd hf
          refine G_callV (As := [vi a0]) X (f5_record_ok E I a0 I6 hk6) cb_X5_38 vi_X5_record (ci := 4) rfl rfl (show SH[0]? = some (_, 0) from rfl) rfl rfl (Nat.le_of_ble_eq_true rfl) (by decide) (by decide) rfl (Nat.le_refl _) (Nat.le_refl _) dX5_write_52 ?_
          show G E κ _ _ _ [some (vr 0), some (vi a0), some (vi a1), some (vi a2)] [] (mm I6)
          refine G_aload_n (x := some (0)) X dX5_write_55 rfl rfl ?_
          refine M_getR X fd_X5_11 rfl (show SH[0]? = some (_, 0) from rfl) rfl dX5_write_56 ?_
          refine G_iload_n (x := a0) X dX5_write_59 rfl rfl ?_
          obtain ⟨hc7, hf⟩ := ock hf
          refine M_aald (r := 63 + 2 * a0.toNatClampNeg) X (show SH[1]? = some (12, 8) from rfl) (by decide) hc7 (p_row (ib_lt hc7)) dX5_write_60 ?_
          refine G_iload_n (x := a1) X dX5_write_61 rfl rfl ?_
          refine G_iload_n (x := a2) X dX5_write_62 rfl rfl ?_
          obtain ⟨I8, hk8, hf⟩ := obd hf
          refine G_callV (As := [vi a1, vi a2]) X (f0_addNumber_ok E I6 (63 + 2 * a0.toNatClampNeg) (rB_is (ib_lt hc7)) a1 a2 I8 hk8) cb_X5_64 vi_X0_addNumber (ci := 0) rfl rfl (show SH[63 + 2 * a0.toNatClampNeg]? = some (_, 0) from (rB_is (ib_lt hc7)).1) rfl rfl (Nat.le_of_ble_eq_true rfl) (by decide) (by decide) rfl (Nat.le_refl _) (Nat.le_refl _) dX5_write_63 ?_
          show G E κ _ _ _ [some (vr 0), some (vi a0), some (vi a1), some (vi a2)] [] (mm I8)
          refine G_aload_n (x := some (0)) X dX5_write_66 rfl rfl ?_
          refine M_getR X fd_X5_11 rfl (show SH[0]? = some (_, 0) from rfl) rfl dX5_write_67 ?_
          refine G_iload_n (x := a0) X dX5_write_70 rfl rfl ?_
          obtain ⟨hc9, hf⟩ := ock hf
          refine M_aald (r := 63 + 2 * a0.toNatClampNeg) X (show SH[1]? = some (12, 8) from rfl) (by decide) hc9 (p_row (ib_lt hc9)) dX5_write_71 ?_
          obtain ⟨v10, hk10, hf⟩ := obd hf
          refine G_callS (As := [vr (63 + 2 * a0.toNatClampNeg)]) X (f4_size_ok E I8 (63 + 2 * a0.toNatClampNeg) (rB_is (ib_lt hc9)) v10 hk10) cb_X5_67 st_X4_size rfl rfl (Nat.le_of_ble_eq_true rfl) (by decide) (by decide) rfl (Nat.le_refl _) (Nat.le_refl _) dX5_write_72 ?_
          show G E κ _ _ _ [some (vr 0), some (vi a0), some (vi a1), some (vi a2)] [vi v10] (mm I8)
          obtain ⟨rfl, rfl⟩ := Prod.mk.inj (Option.some.inj hf)
          exact G_iret X hR rfl rfl dX5_write_75
        · have hf := (if_neg hc5).symm.trans hf
          refine G_bipush (v := (-3)) X dX5_write_47 rfl ?_
          obtain ⟨rfl, rfl⟩ := Prod.mk.inj (Option.some.inj hf)
          exact G_iret X hR rfl rfl dX5_write_49
      · have hf := (if_neg (b2i_f hc3)).symm.trans hf
        refine G_iconst (v := (-1)) X dX5_write_28 rfl ?_
        obtain ⟨rfl, rfl⟩ := Prod.mk.inj (Option.some.inj hf)
        exact G_iret X hR rfl rfl dX5_write_29

def f5_isPlace (I : gI) (a0 : Int32) (a1 : Int32) : Option Bool := if ib a0 8 = true then some ((f5_isWithin a1 0 ((I (63 + 2 * a0.toNatClampNeg) 1) - 1))) else none
set_option maxRecDepth 100000 in
set_option maxHeartbeats 4000000 in
theorem f5_isPlace_ok (E : gEnv) (I : gI) (a0 : Int32) (a1 : Int32) (r : Bool) (hf : f5_isPlace I a0 a1 = some r) : Ctr E yX5_isPlace cX5_isPlace 3 (some .boolean) 1 0 0 [vr 0, vi a0, vi a1] (mm I) (some (vi (b2i r))) (mm I) := by
  refine Ctr.mk (by decide +kernel) rfl (Nat.le_of_ble_eq_true rfl) fun κ X hR _ => ?_
  have X : Cx E κ cX5_isPlace 3 RX5 (some .boolean) 1 0 0 := X
  show G E κ 0 0 0 [some (vr 0), some (vi a0), some (vi a1)] [] (mm I)
  unfold f5_isPlace at hf
  refine G_iload_n (x := a1) X dX5_isPlace_0 rfl rfl ?_
  refine G_iconst (v := 0) X dX5_isPlace_1 rfl ?_
  refine G_aload_n (x := some (0)) X dX5_isPlace_2 rfl rfl ?_
  refine M_getR X fd_X5_11 rfl (show SH[0]? = some (_, 0) from rfl) rfl dX5_isPlace_3 ?_
  refine G_iload_n (x := a0) X dX5_isPlace_6 rfl rfl ?_
  obtain ⟨hc1, hf⟩ := ock hf
  refine M_aald (r := 63 + 2 * a0.toNatClampNeg) X (show SH[1]? = some (12, 8) from rfl) (by decide) hc1 (p_row (ib_lt hc1)) dX5_isPlace_7 ?_
  refine M_getI X fd_X5_56 rfl (show SH[63 + 2 * a0.toNatClampNeg]? = some (_, 0) from (rB_is (ib_lt hc1)).1) dX5_isPlace_8 ?_
  refine G_iconst (v := 1) X dX5_isPlace_11 rfl ?_
  refine G_isub X dX5_isPlace_12 ?_
  refine G_callS (As := [vi a1, vi 0, vi ((I (63 + 2 * a0.toNatClampNeg) 1) - 1)]) X (f5_isWithin_ok E I a1 0 ((I (63 + 2 * a0.toNatClampNeg) 1) - 1) _ rfl) cb_X5_52 st_X5_isWithin rfl rfl (Nat.le_of_ble_eq_true rfl) (by decide) (by decide) rfl (Nat.le_refl _) (Nat.le_refl _) dX5_isPlace_13 ?_
  show G E κ _ _ _ [some (vr 0), some (vi a0), some (vi a1)] [vi (b2i (f5_isWithin a1 0 ((I (63 + 2 * a0.toNatClampNeg) 1) - 1)))] (mm I)
  obtain rfl := Option.some.inj hf
  exact G_iret X hR rfl (nar_b2i (f5_isWithin a1 0 ((I (63 + 2 * a0.toNatClampNeg) 1) - 1))) dX5_isPlace_16

def f5_set (I : gI) (a0 : Int32) (a1 : Int32) (a2 : Int32) : Option (Int32 × gI) := (if (f5_isRow I a0) = true then (f5_isPlace I a0 a1).bind fun v2 => (if v2 = true then (if (f5_isBit a2) = true then (f5_record I a0).bind fun I5 => if ib a0 8 = true then (f0_valueAt I5 (63 + 2 * a0.toNatClampNeg) a1).bind fun v7 => if ib a0 8 = true then (f0_putAt I5 (63 + 2 * a0.toNatClampNeg) a1 a2).bind fun I9 => some (v7, I9) else none else none else some ((-1), I)) else some ((-1), I)) else some ((-1), I))
set_option maxRecDepth 100000 in
set_option maxHeartbeats 4000000 in
theorem f5_set_ok (E : gEnv) (I : gI) (a0 : Int32) (a1 : Int32) (a2 : Int32) (r : Int32) (I' : gI) (hf : f5_set I a0 a1 a2 = some (r, I')) : Ctr E yX5_set cX5_set 5 (some .int) 4 0 0 [vr 0, vi a0, vi a1, vi a2] (mm I) (some (vi r)) (mm I') := by
  refine Ctr.mk (by decide +kernel) rfl (Nat.le_of_ble_eq_true rfl) fun κ X hR _ => ?_
  have X : Cx E κ cX5_set 5 RX5 (some .int) 4 0 0 := X
  show G E κ 0 0 0 [some (vr 0), some (vi a0), some (vi a1), some (vi a2), none] [] (mm I)
  unfold f5_set at hf
  refine G_aload_n (x := some (0)) X dX5_set_0 rfl rfl ?_
  refine G_iload_n (x := a0) X dX5_set_1 rfl rfl ?_
  refine G_callV (As := [vi a0]) X (f5_isRow_ok E I a0 _ rfl) cb_X5_45 vi_X5_isRow (ci := 4) rfl rfl (show SH[0]? = some (_, 0) from rfl) rfl rfl (Nat.le_of_ble_eq_true rfl) (by decide) (by decide) rfl (Nat.le_refl _) (Nat.le_refl _) dX5_set_2 ?_
  show G E κ _ _ _ [some (vr 0), some (vi a0), some (vi a1), some (vi a2), none] [vi (b2i (f5_isRow I a0))] (mm I)
  refine G_if_eq (tgt := 24) X dX5_set_5 (by decide) (fun hc1 => ?_) (fun hc1 => ?_)
  · have hf := (if_neg (b2i_f hc1)).symm.trans hf
    refine G_iconst (v := (-1)) X dX5_set_24 rfl ?_
    obtain ⟨rfl, rfl⟩ := Prod.mk.inj (Option.some.inj hf)
    exact G_iret X hR rfl rfl dX5_set_25
  · have hf := (if_pos (b2i_t hc1)).symm.trans hf
    refine G_aload_n (x := some (0)) X dX5_set_8 rfl rfl ?_
    refine G_iload_n (x := a0) X dX5_set_9 rfl rfl ?_
    refine G_iload_n (x := a1) X dX5_set_10 rfl rfl ?_
    obtain ⟨v2, hk2, hf⟩ := obd hf
    refine G_callV (As := [vi a0, vi a1]) X (f5_isPlace_ok E I a0 a1 v2 hk2) cb_X5_73 vi_X5_isPlace (ci := 4) rfl rfl (show SH[0]? = some (_, 0) from rfl) rfl rfl (Nat.le_of_ble_eq_true rfl) (by decide) (by decide) rfl (Nat.le_refl _) (Nat.le_refl _) dX5_set_11 ?_
    show G E κ _ _ _ [some (vr 0), some (vi a0), some (vi a1), some (vi a2), none] [vi (b2i v2)] (mm I)
    refine G_if_eq (tgt := 24) X dX5_set_14 (by decide) (fun hc3 => ?_) (fun hc3 => ?_)
    · have hf := (if_neg (b2i_f hc3)).symm.trans hf
      refine G_iconst (v := (-1)) X dX5_set_24 rfl ?_
      obtain ⟨rfl, rfl⟩ := Prod.mk.inj (Option.some.inj hf)
      exact G_iret X hR rfl rfl dX5_set_25
    · have hf := (if_pos (b2i_t hc3)).symm.trans hf
      refine G_iload_n (x := a2) X dX5_set_17 rfl rfl ?_
      refine G_callS (As := [vi a2]) X (f5_isBit_ok E I a2 _ rfl) cb_X5_49 st_X5_isBit rfl rfl (Nat.le_of_ble_eq_true rfl) (by decide) (by decide) rfl (Nat.le_refl _) (Nat.le_refl _) dX5_set_18 ?_
      show G E κ _ _ _ [some (vr 0), some (vi a0), some (vi a1), some (vi a2), none] [vi (b2i (f5_isBit a2))] (mm I)
      refine G_if_ne (tgt := 26) X dX5_set_21 (by decide) (fun hc4 => ?_) (fun hc4 => ?_)
      · have hf := (if_pos (b2i_t hc4)).symm.trans hf
        refine G_aload_n (x := some (0)) X dX5_set_26 rfl rfl ?_
        refine G_iload_n (x := a0) X dX5_set_27 rfl rfl ?_
        obtain ⟨I5, hk5, hf⟩ := obd hf
        refine G_callV (As := [vi a0]) X (f5_record_ok E I a0 I5 hk5) cb_X5_38 vi_X5_record (ci := 4) rfl rfl (show SH[0]? = some (_, 0) from rfl) rfl rfl (Nat.le_of_ble_eq_true rfl) (by decide) (by decide) rfl (Nat.le_refl _) (Nat.le_refl _) dX5_set_28 ?_
        show G E κ _ _ _ [some (vr 0), some (vi a0), some (vi a1), some (vi a2), none] [] (mm I5)
        refine G_aload_n (x := some (0)) X dX5_set_31 rfl rfl ?_
        refine M_getR X fd_X5_11 rfl (show SH[0]? = some (_, 0) from rfl) rfl dX5_set_32 ?_
        refine G_iload_n (x := a0) X dX5_set_35 rfl rfl ?_
        obtain ⟨hc6, hf⟩ := ock hf
        refine M_aald (r := 63 + 2 * a0.toNatClampNeg) X (show SH[1]? = some (12, 8) from rfl) (by decide) hc6 (p_row (ib_lt hc6)) dX5_set_36 ?_
        refine G_iload_n (x := a1) X dX5_set_37 rfl rfl ?_
        obtain ⟨v7, hk7, hf⟩ := obd hf
        refine G_callV (As := [vi a1]) X (f0_valueAt_ok E I5 (63 + 2 * a0.toNatClampNeg) (rB_is (ib_lt hc6)) a1 v7 hk7) cb_X5_77 vi_X0_valueAt (ci := 0) rfl rfl (show SH[63 + 2 * a0.toNatClampNeg]? = some (_, 0) from (rB_is (ib_lt hc6)).1) rfl rfl (Nat.le_of_ble_eq_true rfl) (by decide) (by decide) rfl (Nat.le_refl _) (Nat.le_refl _) dX5_set_38 ?_
        show G E κ _ _ _ [some (vr 0), some (vi a0), some (vi a1), some (vi a2), none] [vi v7] (mm I5)
        refine G_istore X dX5_set_41 rfl (ls' := [some (vr 0), some (vi a0), some (vi a1), some (vi a2), some (vi v7)]) rfl ?_
        refine G_aload_n (x := some (0)) X dX5_set_43 rfl rfl ?_
        refine M_getR X fd_X5_11 rfl (show SH[0]? = some (_, 0) from rfl) rfl dX5_set_44 ?_
        refine G_iload_n (x := a0) X dX5_set_47 rfl rfl ?_
        obtain ⟨hc8, hf⟩ := ock hf
        refine M_aald (r := 63 + 2 * a0.toNatClampNeg) X (show SH[1]? = some (12, 8) from rfl) (by decide) hc8 (p_row (ib_lt hc8)) dX5_set_48 ?_
        refine G_iload_n (x := a1) X dX5_set_49 rfl rfl ?_
        refine G_iload_n (x := a2) X dX5_set_50 rfl rfl ?_
        obtain ⟨I9, hk9, hf⟩ := obd hf
        refine G_callV (As := [vi a1, vi a2]) X (f0_putAt_ok E I5 (63 + 2 * a0.toNatClampNeg) (rB_is (ib_lt hc8)) a1 a2 I9 hk9) cb_X5_81 vi_X0_putAt (ci := 0) rfl rfl (show SH[63 + 2 * a0.toNatClampNeg]? = some (_, 0) from (rB_is (ib_lt hc8)).1) rfl rfl (Nat.le_of_ble_eq_true rfl) (by decide) (by decide) rfl (Nat.le_refl _) (Nat.le_refl _) dX5_set_51 ?_
        show G E κ _ _ _ [some (vr 0), some (vi a0), some (vi a1), some (vi a2), some (vi v7)] [] (mm I9)
        refine G_iload (x := v7) X dX5_set_54 rfl ?_
        obtain ⟨rfl, rfl⟩ := Prod.mk.inj (Option.some.inj hf)
        exact G_iret X hR rfl rfl dX5_set_56
      · have hf := (if_neg (b2i_f hc4)).symm.trans hf
        refine G_iconst (v := (-1)) X dX5_set_24 rfl ?_
        obtain ⟨rfl, rfl⟩ := Prod.mk.inj (Option.some.inj hf)
        exact G_iret X hR rfl rfl dX5_set_25

def f5_resize (I : gI) (a0 : Int32) (a1 : Int32) : Option (Int32 × gI) := (if (f5_isRow I a0) = true then (if (f5_isWithin a1 0 600) = true then (f5_record I a0).bind fun I3 => if ib a0 8 = true then if ib a0 8 = true then (f0_cutTo I3 (63 + 2 * a0.toNatClampNeg) a1).bind fun I6 => some (I3 (63 + 2 * a0.toNatClampNeg) 1, I6) else none else none else some ((-1), I)) else some ((-1), I))
set_option maxRecDepth 100000 in
set_option maxHeartbeats 4000000 in
theorem f5_resize_ok (E : gEnv) (I : gI) (a0 : Int32) (a1 : Int32) (r : Int32) (I' : gI) (hf : f5_resize I a0 a1 = some (r, I')) : Ctr E yX5_resize cX5_resize 4 (some .int) 4 0 0 [vr 0, vi a0, vi a1] (mm I) (some (vi r)) (mm I') := by
  refine Ctr.mk (by decide +kernel) rfl (Nat.le_of_ble_eq_true rfl) fun κ X hR _ => ?_
  have X : Cx E κ cX5_resize 4 RX5 (some .int) 4 0 0 := X
  show G E κ 0 0 0 [some (vr 0), some (vi a0), some (vi a1), none] [] (mm I)
  unfold f5_resize at hf
  refine G_aload_n (x := some (0)) X dX5_resize_0 rfl rfl ?_
  refine G_iload_n (x := a0) X dX5_resize_1 rfl rfl ?_
  refine G_callV (As := [vi a0]) X (f5_isRow_ok E I a0 _ rfl) cb_X5_45 vi_X5_isRow (ci := 4) rfl rfl (show SH[0]? = some (_, 0) from rfl) rfl rfl (Nat.le_of_ble_eq_true rfl) (by decide) (by decide) rfl (Nat.le_refl _) (Nat.le_refl _) dX5_resize_2 ?_
  show G E κ _ _ _ [some (vr 0), some (vi a0), some (vi a1), none] [vi (b2i (f5_isRow I a0))] (mm I)
  refine G_if_eq (tgt := 19) X dX5_resize_5 (by decide) (fun hc1 => ?_) (fun hc1 => ?_)
  · have hf := (if_neg (b2i_f hc1)).symm.trans hf
    refine G_iconst (v := (-1)) X dX5_resize_19 rfl ?_
    obtain ⟨rfl, rfl⟩ := Prod.mk.inj (Option.some.inj hf)
    exact G_iret X hR rfl rfl dX5_resize_20
  · have hf := (if_pos (b2i_t hc1)).symm.trans hf
    refine G_iload_n (x := a1) X dX5_resize_8 rfl rfl ?_
    refine G_iconst (v := 0) X dX5_resize_9 rfl ?_
    refine G_sipush (v := 600) X dX5_resize_10 rfl ?_
    refine G_callS (As := [vi a1, vi 0, vi 600]) X (f5_isWithin_ok E I a1 0 600 _ rfl) cb_X5_52 st_X5_isWithin rfl rfl (Nat.le_of_ble_eq_true rfl) (by decide) (by decide) rfl (Nat.le_refl _) (Nat.le_refl _) dX5_resize_13 ?_
    show G E κ _ _ _ [some (vr 0), some (vi a0), some (vi a1), none] [vi (b2i (f5_isWithin a1 0 600))] (mm I)
    refine G_if_ne (tgt := 21) X dX5_resize_16 (by decide) (fun hc2 => ?_) (fun hc2 => ?_)
    · have hf := (if_pos (b2i_t hc2)).symm.trans hf
      refine G_aload_n (x := some (0)) X dX5_resize_21 rfl rfl ?_
      refine G_iload_n (x := a0) X dX5_resize_22 rfl rfl ?_
      obtain ⟨I3, hk3, hf⟩ := obd hf
      refine G_callV (As := [vi a0]) X (f5_record_ok E I a0 I3 hk3) cb_X5_38 vi_X5_record (ci := 4) rfl rfl (show SH[0]? = some (_, 0) from rfl) rfl rfl (Nat.le_of_ble_eq_true rfl) (by decide) (by decide) rfl (Nat.le_refl _) (Nat.le_refl _) dX5_resize_23 ?_
      show G E κ _ _ _ [some (vr 0), some (vi a0), some (vi a1), none] [] (mm I3)
      refine G_aload_n (x := some (0)) X dX5_resize_26 rfl rfl ?_
      refine M_getR X fd_X5_11 rfl (show SH[0]? = some (_, 0) from rfl) rfl dX5_resize_27 ?_
      refine G_iload_n (x := a0) X dX5_resize_30 rfl rfl ?_
      obtain ⟨hc4, hf⟩ := ock hf
      refine M_aald (r := 63 + 2 * a0.toNatClampNeg) X (show SH[1]? = some (12, 8) from rfl) (by decide) hc4 (p_row (ib_lt hc4)) dX5_resize_31 ?_
      refine M_getI X fd_X5_56 rfl (show SH[63 + 2 * a0.toNatClampNeg]? = some (_, 0) from (rB_is (ib_lt hc4)).1) dX5_resize_32 ?_
      refine G_istore_n X dX5_resize_35 rfl rfl (ls' := [some (vr 0), some (vi a0), some (vi a1), some (vi (I3 (63 + 2 * a0.toNatClampNeg) 1))]) rfl ?_
      refine G_aload_n (x := some (0)) X dX5_resize_36 rfl rfl ?_
      refine M_getR X fd_X5_11 rfl (show SH[0]? = some (_, 0) from rfl) rfl dX5_resize_37 ?_
      refine G_iload_n (x := a0) X dX5_resize_40 rfl rfl ?_
      obtain ⟨hc5, hf⟩ := ock hf
      refine M_aald (r := 63 + 2 * a0.toNatClampNeg) X (show SH[1]? = some (12, 8) from rfl) (by decide) hc5 (p_row (ib_lt hc5)) dX5_resize_41 ?_
      refine G_iload_n (x := a1) X dX5_resize_42 rfl rfl ?_
      obtain ⟨I6, hk6, hf⟩ := obd hf
      refine G_callV (As := [vi a1]) X (f0_cutTo_ok E I3 (63 + 2 * a0.toNatClampNeg) (rB_is (ib_lt hc5)) a1 I6 hk6) cb_X5_42 vi_X0_cutTo (ci := 0) rfl rfl (show SH[63 + 2 * a0.toNatClampNeg]? = some (_, 0) from (rB_is (ib_lt hc5)).1) rfl rfl (Nat.le_of_ble_eq_true rfl) (by decide) (by decide) rfl (Nat.le_refl _) (Nat.le_refl _) dX5_resize_43 ?_
      show G E κ _ _ _ [some (vr 0), some (vi a0), some (vi a1), some (vi (I3 (63 + 2 * a0.toNatClampNeg) 1))] [] (mm I6)
      refine G_iload_n (x := I3 (63 + 2 * a0.toNatClampNeg) 1) X dX5_resize_46 rfl rfl ?_
      obtain ⟨rfl, rfl⟩ := Prod.mk.inj (Option.some.inj hf)
      exact G_iret X hR rfl rfl dX5_resize_47
    · have hf := (if_neg (b2i_f hc2)).symm.trans hf
      refine G_iconst (v := (-1)) X dX5_resize_19 rfl ?_
      obtain ⟨rfl, rfl⟩ := Prod.mk.inj (Option.some.inj hf)
      exact G_iret X hR rfl rfl dX5_resize_20

def f5_isOperation (a0 : Int32) : Bool := (f5_isWithin a0 0 3)
set_option maxRecDepth 100000 in
set_option maxHeartbeats 4000000 in
theorem f5_isOperation_ok (E : gEnv) (I : gI) (a0 : Int32) (r : Bool) (hf : f5_isOperation  a0 = r) : Ctr E yX5_isOperation cX5_isOperation 1 (some .boolean) 1 0 0 [vi a0] (mm I) (some (vi (b2i r))) (mm I) := by
  refine Ctr.mk (by decide +kernel) rfl (Nat.le_of_ble_eq_true rfl) fun κ X hR _ => ?_
  have X : Cx E κ cX5_isOperation 1 RX5 (some .boolean) 1 0 0 := X
  show G E κ 0 0 0 [some (vi a0)] [] (mm I)
  unfold f5_isOperation at hf
  refine G_iload_n (x := a0) X dX5_isOperation_0 rfl rfl ?_
  refine G_iconst (v := 0) X dX5_isOperation_1 rfl ?_
  refine G_iconst (v := 3) X dX5_isOperation_2 rfl ?_
  refine G_callS (As := [vi a0, vi 0, vi 3]) X (f5_isWithin_ok E I a0 0 3 _ rfl) cb_X5_52 st_X5_isWithin rfl rfl (Nat.le_of_ble_eq_true rfl) (by decide) (by decide) rfl (Nat.le_refl _) (Nat.le_refl _) dX5_isOperation_3 ?_
  show G E κ _ _ _ [some (vi a0)] [vi (b2i (f5_isWithin a0 0 3))] (mm I)
  subst hf
  exact G_iret X hR rfl (nar_b2i (f5_isWithin a0 0 3)) dX5_isOperation_6

def f5_operate (I : gI) (a0 : Int32) (a1 : Int32) (a2 : Int32) (a3 : Int32) : Option (Int32 × gI) := (if (f5_isRow I a0) = true then (if (f5_isOperation a1) = true then (if (f5_isRow I a2) = true then (if (f5_isRow I a3) = true then (f5_record I a0).bind fun I5 => if ib a2 8 = true then if ib a3 8 = true then (f4_work I5 (63 + 2 * a2.toNatClampNeg) (63 + 2 * a3.toNatClampNeg)).bind fun v8 => if ib a0 8 = true then if ib a2 8 = true then if ib a3 8 = true then (f0_combine I5 (63 + 2 * a0.toNatClampNeg) a1 (63 + 2 * a2.toNatClampNeg) (63 + 2 * a3.toNatClampNeg)).bind fun I12 => some (v8, I12) else none else none else none else none else none else some ((-1), I)) else some ((-1), I)) else some ((-1), I)) else some ((-1), I))
set_option maxRecDepth 100000 in
set_option maxHeartbeats 4000000 in
theorem f5_operate_ok (E : gEnv) (I : gI) (a0 : Int32) (a1 : Int32) (a2 : Int32) (a3 : Int32) (r : Int32) (I' : gI) (hf : f5_operate I a0 a1 a2 a3 = some (r, I')) : Ctr E yX5_operate cX5_operate 6 (some .int) 4 0 0 [vr 0, vi a0, vi a1, vi a2, vi a3] (mm I) (some (vi r)) (mm I') := by
  refine Ctr.mk (by decide +kernel) rfl (Nat.le_of_ble_eq_true rfl) fun κ X hR _ => ?_
  have X : Cx E κ cX5_operate 6 RX5 (some .int) 4 0 0 := X
  show G E κ 0 0 0 [some (vr 0), some (vi a0), some (vi a1), some (vi a2), some (vi a3), none] [] (mm I)
  unfold f5_operate at hf
  refine G_aload_n (x := some (0)) X dX5_operate_0 rfl rfl ?_
  refine G_iload_n (x := a0) X dX5_operate_1 rfl rfl ?_
  refine G_callV (As := [vi a0]) X (f5_isRow_ok E I a0 _ rfl) cb_X5_45 vi_X5_isRow (ci := 4) rfl rfl (show SH[0]? = some (_, 0) from rfl) rfl rfl (Nat.le_of_ble_eq_true rfl) (by decide) (by decide) rfl (Nat.le_refl _) (Nat.le_refl _) dX5_operate_2 ?_
  show G E κ _ _ _ [some (vr 0), some (vi a0), some (vi a1), some (vi a2), some (vi a3), none] [vi (b2i (f5_isRow I a0))] (mm I)
  refine G_if_eq (tgt := 32) X dX5_operate_5 (by decide) (fun hc1 => ?_) (fun hc1 => ?_)
  · have hf := (if_neg (b2i_f hc1)).symm.trans hf
    refine G_iconst (v := (-1)) X dX5_operate_32 rfl ?_
    obtain ⟨rfl, rfl⟩ := Prod.mk.inj (Option.some.inj hf)
    exact G_iret X hR rfl rfl dX5_operate_33
  · have hf := (if_pos (b2i_t hc1)).symm.trans hf
    refine G_iload_n (x := a1) X dX5_operate_8 rfl rfl ?_
    refine G_callS (As := [vi a1]) X (f5_isOperation_ok E I a1 _ rfl) cb_X5_84 st_X5_isOperation rfl rfl (Nat.le_of_ble_eq_true rfl) (by decide) (by decide) rfl (Nat.le_refl _) (Nat.le_refl _) dX5_operate_9 ?_
    show G E κ _ _ _ [some (vr 0), some (vi a0), some (vi a1), some (vi a2), some (vi a3), none] [vi (b2i (f5_isOperation a1))] (mm I)
    refine G_if_eq (tgt := 32) X dX5_operate_12 (by decide) (fun hc2 => ?_) (fun hc2 => ?_)
    · have hf := (if_neg (b2i_f hc2)).symm.trans hf
      refine G_iconst (v := (-1)) X dX5_operate_32 rfl ?_
      obtain ⟨rfl, rfl⟩ := Prod.mk.inj (Option.some.inj hf)
      exact G_iret X hR rfl rfl dX5_operate_33
    · have hf := (if_pos (b2i_t hc2)).symm.trans hf
      refine G_aload_n (x := some (0)) X dX5_operate_15 rfl rfl ?_
      refine G_iload_n (x := a2) X dX5_operate_16 rfl rfl ?_
      refine G_callV (As := [vi a2]) X (f5_isRow_ok E I a2 _ rfl) cb_X5_45 vi_X5_isRow (ci := 4) rfl rfl (show SH[0]? = some (_, 0) from rfl) rfl rfl (Nat.le_of_ble_eq_true rfl) (by decide) (by decide) rfl (Nat.le_refl _) (Nat.le_refl _) dX5_operate_17 ?_
      show G E κ _ _ _ [some (vr 0), some (vi a0), some (vi a1), some (vi a2), some (vi a3), none] [vi (b2i (f5_isRow I a2))] (mm I)
      refine G_if_eq (tgt := 32) X dX5_operate_20 (by decide) (fun hc3 => ?_) (fun hc3 => ?_)
      · have hf := (if_neg (b2i_f hc3)).symm.trans hf
        refine G_iconst (v := (-1)) X dX5_operate_32 rfl ?_
        obtain ⟨rfl, rfl⟩ := Prod.mk.inj (Option.some.inj hf)
        exact G_iret X hR rfl rfl dX5_operate_33
      · have hf := (if_pos (b2i_t hc3)).symm.trans hf
        refine G_aload_n (x := some (0)) X dX5_operate_23 rfl rfl ?_
        refine G_iload (x := a3) X dX5_operate_24 rfl ?_
        refine G_callV (As := [vi a3]) X (f5_isRow_ok E I a3 _ rfl) cb_X5_45 vi_X5_isRow (ci := 4) rfl rfl (show SH[0]? = some (_, 0) from rfl) rfl rfl (Nat.le_of_ble_eq_true rfl) (by decide) (by decide) rfl (Nat.le_refl _) (Nat.le_refl _) dX5_operate_26 ?_
        show G E κ _ _ _ [some (vr 0), some (vi a0), some (vi a1), some (vi a2), some (vi a3), none] [vi (b2i (f5_isRow I a3))] (mm I)
        refine G_if_ne (tgt := 34) X dX5_operate_29 (by decide) (fun hc4 => ?_) (fun hc4 => ?_)
        · have hf := (if_pos (b2i_t hc4)).symm.trans hf
          refine G_aload_n (x := some (0)) X dX5_operate_34 rfl rfl ?_
          refine G_iload_n (x := a0) X dX5_operate_35 rfl rfl ?_
          obtain ⟨I5, hk5, hf⟩ := obd hf
          refine G_callV (As := [vi a0]) X (f5_record_ok E I a0 I5 hk5) cb_X5_38 vi_X5_record (ci := 4) rfl rfl (show SH[0]? = some (_, 0) from rfl) rfl rfl (Nat.le_of_ble_eq_true rfl) (by decide) (by decide) rfl (Nat.le_refl _) (Nat.le_refl _) dX5_operate_36 ?_
          show G E κ _ _ _ [some (vr 0), some (vi a0), some (vi a1), some (vi a2), some (vi a3), none] [] (mm I5)
          refine G_aload_n (x := some (0)) X dX5_operate_39 rfl rfl ?_
          refine M_getR X fd_X5_11 rfl (show SH[0]? = some (_, 0) from rfl) rfl dX5_operate_40 ?_
          refine G_iload_n (x := a2) X dX5_operate_43 rfl rfl ?_
          obtain ⟨hc6, hf⟩ := ock hf
          refine M_aald (r := 63 + 2 * a2.toNatClampNeg) X (show SH[1]? = some (12, 8) from rfl) (by decide) hc6 (p_row (ib_lt hc6)) dX5_operate_44 ?_
          refine G_aload_n (x := some (0)) X dX5_operate_45 rfl rfl ?_
          refine M_getR X fd_X5_11 rfl (show SH[0]? = some (_, 0) from rfl) rfl dX5_operate_46 ?_
          refine G_iload (x := a3) X dX5_operate_49 rfl ?_
          obtain ⟨hc7, hf⟩ := ock hf
          refine M_aald (r := 63 + 2 * a3.toNatClampNeg) X (show SH[1]? = some (12, 8) from rfl) (by decide) hc7 (p_row (ib_lt hc7)) dX5_operate_51 ?_
          obtain ⟨v8, hk8, hf⟩ := obd hf
          refine G_callS (As := [vr (63 + 2 * a2.toNatClampNeg), vr (63 + 2 * a3.toNatClampNeg)]) X (f4_work_ok E I5 (63 + 2 * a2.toNatClampNeg) (rB_is (ib_lt hc6)) (63 + 2 * a3.toNatClampNeg) (rB_is (ib_lt hc7)) v8 hk8) cb_X5_87 st_X4_work rfl rfl (Nat.le_of_ble_eq_true rfl) (by decide) (by decide) rfl (Nat.le_refl _) (Nat.le_refl _) dX5_operate_52 ?_
          show G E κ _ _ _ [some (vr 0), some (vi a0), some (vi a1), some (vi a2), some (vi a3), none] [vi v8] (mm I5)
          refine G_istore X dX5_operate_55 rfl (ls' := [some (vr 0), some (vi a0), some (vi a1), some (vi a2), some (vi a3), some (vi v8)]) rfl ?_
          refine G_aload_n (x := some (0)) X dX5_operate_57 rfl rfl ?_
          refine M_getR X fd_X5_11 rfl (show SH[0]? = some (_, 0) from rfl) rfl dX5_operate_58 ?_
          refine G_iload_n (x := a0) X dX5_operate_61 rfl rfl ?_
          obtain ⟨hc9, hf⟩ := ock hf
          refine M_aald (r := 63 + 2 * a0.toNatClampNeg) X (show SH[1]? = some (12, 8) from rfl) (by decide) hc9 (p_row (ib_lt hc9)) dX5_operate_62 ?_
          refine G_iload_n (x := a1) X dX5_operate_63 rfl rfl ?_
          refine G_aload_n (x := some (0)) X dX5_operate_64 rfl rfl ?_
          refine M_getR X fd_X5_11 rfl (show SH[0]? = some (_, 0) from rfl) rfl dX5_operate_65 ?_
          refine G_iload_n (x := a2) X dX5_operate_68 rfl rfl ?_
          obtain ⟨hc10, hf⟩ := ock hf
          refine M_aald (r := 63 + 2 * a2.toNatClampNeg) X (show SH[1]? = some (12, 8) from rfl) (by decide) hc10 (p_row (ib_lt hc10)) dX5_operate_69 ?_
          refine G_aload_n (x := some (0)) X dX5_operate_70 rfl rfl ?_
          refine M_getR X fd_X5_11 rfl (show SH[0]? = some (_, 0) from rfl) rfl dX5_operate_71 ?_
          refine G_iload (x := a3) X dX5_operate_74 rfl ?_
          obtain ⟨hc11, hf⟩ := ock hf
          refine M_aald (r := 63 + 2 * a3.toNatClampNeg) X (show SH[1]? = some (12, 8) from rfl) (by decide) hc11 (p_row (ib_lt hc11)) dX5_operate_76 ?_
          obtain ⟨I12, hk12, hf⟩ := obd hf
          refine G_callV (As := [vi a1, vr (63 + 2 * a2.toNatClampNeg), vr (63 + 2 * a3.toNatClampNeg)]) X (f0_combine_ok E I5 (63 + 2 * a0.toNatClampNeg) (rB_is (ib_lt hc9)) a1 (63 + 2 * a2.toNatClampNeg) (rB_is (ib_lt hc10)) (63 + 2 * a3.toNatClampNeg) (rB_is (ib_lt hc11)) I12 hk12) cb_X5_91 vi_X0_combine (ci := 0) rfl rfl (show SH[63 + 2 * a0.toNatClampNeg]? = some (_, 0) from (rB_is (ib_lt hc9)).1) rfl rfl (Nat.le_of_ble_eq_true rfl) (by decide) (by decide) rfl (Nat.le_refl _) (Nat.le_refl _) dX5_operate_77 ?_
          show G E κ _ _ _ [some (vr 0), some (vi a0), some (vi a1), some (vi a2), some (vi a3), some (vi v8)] [] (mm I12)
          refine G_iload (x := v8) X dX5_operate_80 rfl ?_
          obtain ⟨rfl, rfl⟩ := Prod.mk.inj (Option.some.inj hf)
          exact G_iret X hR rfl rfl dX5_operate_82
        · have hf := (if_neg (b2i_f hc4)).symm.trans hf
          refine G_iconst (v := (-1)) X dX5_operate_32 rfl ?_
          obtain ⟨rfl, rfl⟩ := Prod.mk.inj (Option.some.inj hf)
          exact G_iret X hR rfl rfl dX5_operate_33

def f5_not (I : gI) (a0 : Int32) : Option (Int32 × gI) := (if (f5_isRow I a0) = true then (f5_record I a0).bind fun I2 => if ib a0 8 = true then (f0_invert I2 (63 + 2 * a0.toNatClampNeg)).bind fun I4 => if ib a0 8 = true then (f0_ones I4 (63 + 2 * a0.toNatClampNeg)).bind fun v6 => some (v6, I4) else none else none else some ((-1), I))
set_option maxRecDepth 100000 in
set_option maxHeartbeats 4000000 in
theorem f5_not_ok (E : gEnv) (I : gI) (a0 : Int32) (r : Int32) (I' : gI) (hf : f5_not I a0 = some (r, I')) : Ctr E yX5_not cX5_not 2 (some .int) 4 0 0 [vr 0, vi a0] (mm I) (some (vi r)) (mm I') := by
  refine Ctr.mk (by decide +kernel) rfl (Nat.le_of_ble_eq_true rfl) fun κ X hR _ => ?_
  have X : Cx E κ cX5_not 2 RX5 (some .int) 4 0 0 := X
  show G E κ 0 0 0 [some (vr 0), some (vi a0)] [] (mm I)
  unfold f5_not at hf
  refine G_aload_n (x := some (0)) X dX5_not_0 rfl rfl ?_
  refine G_iload_n (x := a0) X dX5_not_1 rfl rfl ?_
  refine G_callV (As := [vi a0]) X (f5_isRow_ok E I a0 _ rfl) cb_X5_45 vi_X5_isRow (ci := 4) rfl rfl (show SH[0]? = some (_, 0) from rfl) rfl rfl (Nat.le_of_ble_eq_true rfl) (by decide) (by decide) rfl (Nat.le_refl _) (Nat.le_refl _) dX5_not_2 ?_
  show G E κ _ _ _ [some (vr 0), some (vi a0)] [vi (b2i (f5_isRow I a0))] (mm I)
  refine G_if_ne (tgt := 10) X dX5_not_5 (by decide) (fun hc1 => ?_) (fun hc1 => ?_)
  · have hf := (if_pos (b2i_t hc1)).symm.trans hf
    refine G_aload_n (x := some (0)) X dX5_not_10 rfl rfl ?_
    refine G_iload_n (x := a0) X dX5_not_11 rfl rfl ?_
    obtain ⟨I2, hk2, hf⟩ := obd hf
    refine G_callV (As := [vi a0]) X (f5_record_ok E I a0 I2 hk2) cb_X5_38 vi_X5_record (ci := 4) rfl rfl (show SH[0]? = some (_, 0) from rfl) rfl rfl (Nat.le_of_ble_eq_true rfl) (by decide) (by decide) rfl (Nat.le_refl _) (Nat.le_refl _) dX5_not_12 ?_
    show G E κ _ _ _ [some (vr 0), some (vi a0)] [] (mm I2)
    refine G_aload_n (x := some (0)) X dX5_not_15 rfl rfl ?_
    refine M_getR X fd_X5_11 rfl (show SH[0]? = some (_, 0) from rfl) rfl dX5_not_16 ?_
    refine G_iload_n (x := a0) X dX5_not_19 rfl rfl ?_
    obtain ⟨hc3, hf⟩ := ock hf
    refine M_aald (r := 63 + 2 * a0.toNatClampNeg) X (show SH[1]? = some (12, 8) from rfl) (by decide) hc3 (p_row (ib_lt hc3)) dX5_not_20 ?_
    obtain ⟨I4, hk4, hf⟩ := obd hf
    refine G_callV (As := []) X (f0_invert_ok E I2 (63 + 2 * a0.toNatClampNeg) (rB_is (ib_lt hc3)) I4 hk4) cb_X5_95 vi_X0_invert (ci := 0) rfl rfl (show SH[63 + 2 * a0.toNatClampNeg]? = some (_, 0) from (rB_is (ib_lt hc3)).1) rfl rfl (Nat.le_of_ble_eq_true rfl) (by decide) (by decide) rfl (Nat.le_refl _) (Nat.le_refl _) dX5_not_21 ?_
    show G E κ _ _ _ [some (vr 0), some (vi a0)] [] (mm I4)
    refine G_aload_n (x := some (0)) X dX5_not_24 rfl rfl ?_
    refine M_getR X fd_X5_11 rfl (show SH[0]? = some (_, 0) from rfl) rfl dX5_not_25 ?_
    refine G_iload_n (x := a0) X dX5_not_28 rfl rfl ?_
    obtain ⟨hc5, hf⟩ := ock hf
    refine M_aald (r := 63 + 2 * a0.toNatClampNeg) X (show SH[1]? = some (12, 8) from rfl) (by decide) hc5 (p_row (ib_lt hc5)) dX5_not_29 ?_
    obtain ⟨v6, hk6, hf⟩ := obd hf
    refine G_callV (As := []) X (f0_ones_ok E I4 (63 + 2 * a0.toNatClampNeg) (rB_is (ib_lt hc5)) v6 hk6) cb_X5_98 vi_X0_ones (ci := 0) rfl rfl (show SH[63 + 2 * a0.toNatClampNeg]? = some (_, 0) from (rB_is (ib_lt hc5)).1) rfl rfl (Nat.le_of_ble_eq_true rfl) (by decide) (by decide) rfl (Nat.le_refl _) (Nat.le_refl _) dX5_not_30 ?_
    show G E κ _ _ _ [some (vr 0), some (vi a0)] [vi v6] (mm I4)
    obtain ⟨rfl, rfl⟩ := Prod.mk.inj (Option.some.inj hf)
    exact G_iret X hR rfl rfl dX5_not_33
  · have hf := (if_neg (b2i_f hc1)).symm.trans hf
    refine G_iconst (v := (-1)) X dX5_not_8 rfl ?_
    obtain ⟨rfl, rfl⟩ := Prod.mk.inj (Option.some.inj hf)
    exact G_iret X hR rfl rfl dX5_not_9

def f5_shift (I : gI) (a0 : Int32) (a1 : Int32) : Option (Int32 × gI) := (if (f5_isRow I a0) = true then (if (f5_isWithin a1 ((-600)) 600) = true then (f5_record I a0).bind fun I3 => if ib a0 8 = true then (f0_moveFrom I3 61 (63 + 2 * a0.toNatClampNeg) a1).bind fun I5 => if ib a0 8 = true then (f0_copyFrom I5 (63 + 2 * a0.toNatClampNeg) 61).bind fun I7 => if ib a0 8 = true then some (I7 (63 + 2 * a0.toNatClampNeg) 1, I7) else none else none else none else some ((-1), I)) else some ((-1), I))
set_option maxRecDepth 100000 in
set_option maxHeartbeats 4000000 in
theorem f5_shift_ok (E : gEnv) (I : gI) (a0 : Int32) (a1 : Int32) (r : Int32) (I' : gI) (hf : f5_shift I a0 a1 = some (r, I')) : Ctr E yX5_shift cX5_shift 3 (some .int) 4 0 0 [vr 0, vi a0, vi a1] (mm I) (some (vi r)) (mm I') := by
  refine Ctr.mk (by decide +kernel) rfl (Nat.le_of_ble_eq_true rfl) fun κ X hR _ => ?_
  have X : Cx E κ cX5_shift 3 RX5 (some .int) 4 0 0 := X
  show G E κ 0 0 0 [some (vr 0), some (vi a0), some (vi a1)] [] (mm I)
  unfold f5_shift at hf
  refine G_aload_n (x := some (0)) X dX5_shift_0 rfl rfl ?_
  refine G_iload_n (x := a0) X dX5_shift_1 rfl rfl ?_
  refine G_callV (As := [vi a0]) X (f5_isRow_ok E I a0 _ rfl) cb_X5_45 vi_X5_isRow (ci := 4) rfl rfl (show SH[0]? = some (_, 0) from rfl) rfl rfl (Nat.le_of_ble_eq_true rfl) (by decide) (by decide) rfl (Nat.le_refl _) (Nat.le_refl _) dX5_shift_2 ?_
  show G E κ _ _ _ [some (vr 0), some (vi a0), some (vi a1)] [vi (b2i (f5_isRow I a0))] (mm I)
  refine G_if_eq (tgt := 21) X dX5_shift_5 (by decide) (fun hc1 => ?_) (fun hc1 => ?_)
  · have hf := (if_neg (b2i_f hc1)).symm.trans hf
    refine G_iconst (v := (-1)) X dX5_shift_21 rfl ?_
    obtain ⟨rfl, rfl⟩ := Prod.mk.inj (Option.some.inj hf)
    exact G_iret X hR rfl rfl dX5_shift_22
  · have hf := (if_pos (b2i_t hc1)).symm.trans hf
    refine G_iload_n (x := a1) X dX5_shift_8 rfl rfl ?_
    refine G_sipush (v := (-600)) X dX5_shift_9 rfl ?_
    refine G_sipush (v := 600) X dX5_shift_12 rfl ?_
    refine G_callS (As := [vi a1, vi ((-600)), vi 600]) X (f5_isWithin_ok E I a1 ((-600)) 600 _ rfl) cb_X5_52 st_X5_isWithin rfl rfl (Nat.le_of_ble_eq_true rfl) (by decide) (by decide) rfl (Nat.le_refl _) (Nat.le_refl _) dX5_shift_15 ?_
    show G E κ _ _ _ [some (vr 0), some (vi a0), some (vi a1)] [vi (b2i (f5_isWithin a1 ((-600)) 600))] (mm I)
    refine G_if_ne (tgt := 23) X dX5_shift_18 (by decide) (fun hc2 => ?_) (fun hc2 => ?_)
    · have hf := (if_pos (b2i_t hc2)).symm.trans hf
      refine G_aload_n (x := some (0)) X dX5_shift_23 rfl rfl ?_
      refine G_iload_n (x := a0) X dX5_shift_24 rfl rfl ?_
      obtain ⟨I3, hk3, hf⟩ := obd hf
      refine G_callV (As := [vi a0]) X (f5_record_ok E I a0 I3 hk3) cb_X5_38 vi_X5_record (ci := 4) rfl rfl (show SH[0]? = some (_, 0) from rfl) rfl rfl (Nat.le_of_ble_eq_true rfl) (by decide) (by decide) rfl (Nat.le_refl _) (Nat.le_refl _) dX5_shift_25 ?_
      show G E κ _ _ _ [some (vr 0), some (vi a0), some (vi a1)] [] (mm I3)
      refine G_aload_n (x := some (0)) X dX5_shift_28 rfl rfl ?_
      refine M_getR X fd_X5_30 rfl (show SH[0]? = some (_, 0) from rfl) rfl dX5_shift_29 ?_
      refine G_aload_n (x := some (0)) X dX5_shift_32 rfl rfl ?_
      refine M_getR X fd_X5_11 rfl (show SH[0]? = some (_, 0) from rfl) rfl dX5_shift_33 ?_
      refine G_iload_n (x := a0) X dX5_shift_36 rfl rfl ?_
      obtain ⟨hc4, hf⟩ := ock hf
      refine M_aald (r := 63 + 2 * a0.toNatClampNeg) X (show SH[1]? = some (12, 8) from rfl) (by decide) hc4 (p_row (ib_lt hc4)) dX5_shift_37 ?_
      refine G_iload_n (x := a1) X dX5_shift_38 rfl rfl ?_
      obtain ⟨I5, hk5, hf⟩ := obd hf
      refine G_callV (As := [vr (63 + 2 * a0.toNatClampNeg), vi a1]) X (f0_moveFrom_ok E I3 61 sB_is (63 + 2 * a0.toNatClampNeg) (rB_is (ib_lt hc4)) a1 I5 hk5) cb_X5_102 vi_X0_moveFrom (ci := 0) rfl rfl (show SH[61]? = some (_, 0) from sB_is.1) rfl rfl (Nat.le_of_ble_eq_true rfl) (by decide) (by decide) rfl (Nat.le_refl _) (Nat.le_refl _) dX5_shift_39 ?_
      show G E κ _ _ _ [some (vr 0), some (vi a0), some (vi a1)] [] (mm I5)
      refine G_aload_n (x := some (0)) X dX5_shift_42 rfl rfl ?_
      refine M_getR X fd_X5_11 rfl (show SH[0]? = some (_, 0) from rfl) rfl dX5_shift_43 ?_
      refine G_iload_n (x := a0) X dX5_shift_46 rfl rfl ?_
      obtain ⟨hc6, hf⟩ := ock hf
      refine M_aald (r := 63 + 2 * a0.toNatClampNeg) X (show SH[1]? = some (12, 8) from rfl) (by decide) hc6 (p_row (ib_lt hc6)) dX5_shift_47 ?_
      refine G_aload_n (x := some (0)) X dX5_shift_48 rfl rfl ?_
      refine M_getR X fd_X5_30 rfl (show SH[0]? = some (_, 0) from rfl) rfl dX5_shift_49 ?_
      obtain ⟨I7, hk7, hf⟩ := obd hf
      refine G_callV (As := [vr 61]) X (f0_copyFrom_ok E I5 (63 + 2 * a0.toNatClampNeg) (rB_is (ib_lt hc6)) 61 sB_is I7 hk7) cb_X5_106 vi_X0_copyFrom (ci := 0) rfl rfl (show SH[63 + 2 * a0.toNatClampNeg]? = some (_, 0) from (rB_is (ib_lt hc6)).1) rfl rfl (Nat.le_of_ble_eq_true rfl) (by decide) (by decide) rfl (Nat.le_refl _) (Nat.le_refl _) dX5_shift_52 ?_
      show G E κ _ _ _ [some (vr 0), some (vi a0), some (vi a1)] [] (mm I7)
      refine G_aload_n (x := some (0)) X dX5_shift_55 rfl rfl ?_
      refine M_getR X fd_X5_11 rfl (show SH[0]? = some (_, 0) from rfl) rfl dX5_shift_56 ?_
      refine G_iload_n (x := a0) X dX5_shift_59 rfl rfl ?_
      obtain ⟨hc8, hf⟩ := ock hf
      refine M_aald (r := 63 + 2 * a0.toNatClampNeg) X (show SH[1]? = some (12, 8) from rfl) (by decide) hc8 (p_row (ib_lt hc8)) dX5_shift_60 ?_
      refine M_getI X fd_X5_56 rfl (show SH[63 + 2 * a0.toNatClampNeg]? = some (_, 0) from (rB_is (ib_lt hc8)).1) dX5_shift_61 ?_
      obtain ⟨rfl, rfl⟩ := Prod.mk.inj (Option.some.inj hf)
      exact G_iret X hR rfl rfl dX5_shift_64
    · have hf := (if_neg (b2i_f hc2)).symm.trans hf
      refine G_iconst (v := (-1)) X dX5_shift_21 rfl ?_
      obtain ⟨rfl, rfl⟩ := Prod.mk.inj (Option.some.inj hf)
      exact G_iret X hR rfl rfl dX5_shift_22

def f5_undo (I : gI)  : Option (Int32 × gI) := (if (I 2 1) = 0 then some ((-2), I) else (f3_removeLatest I).bind fun q2 => if isCb q2.1 = true then if ib ((uI q2.2 0 1 (q2.2 q2.1 1)) q2.1 2) 8 = true then (f0_copyFrom (uI q2.2 0 1 (q2.2 q2.1 1)) (63 + 2 * ((uI q2.2 0 1 (q2.2 q2.1 1)) q2.1 2).toNatClampNeg) (q2.1 + 1)).bind fun I5 => some (I5 2 1, I5) else none else none)
set_option maxRecDepth 100000 in
set_option maxHeartbeats 4000000 in
theorem f5_undo_ok (E : gEnv) (I : gI)  (r : Int32) (I' : gI) (hf : f5_undo I  = some (r, I')) : Ctr E yX5_undo cX5_undo 2 (some .int) 2 0 0 [vr 0] (mm I) (some (vi r)) (mm I') := by
  refine Ctr.mk (by decide +kernel) rfl (Nat.le_of_ble_eq_true rfl) fun κ X hR _ => ?_
  have X : Cx E κ cX5_undo 2 RX5 (some .int) 2 0 0 := X
  show G E κ 0 0 0 [some (vr 0), none] [] (mm I)
  unfold f5_undo at hf
  refine G_aload_n (x := some (0)) X dX5_undo_0 rfl rfl ?_
  refine M_getR X fd_X5_18 rfl (show SH[0]? = some (_, 0) from rfl) rfl dX5_undo_1 ?_
  refine M_getI X fd_X5_110 rfl (show SH[2]? = some (_, 0) from rfl) dX5_undo_4 ?_
  refine G_if_ne (tgt := 13) X dX5_undo_7 (by decide) (fun hc1 => ?_) (fun hc1 => ?_)
  · have hf := (if_neg hc1).symm.trans hf
    refine G_aload_n (x := some (0)) X dX5_undo_13 rfl rfl ?_
    refine M_getR X fd_X5_18 rfl (show SH[0]? = some (_, 0) from rfl) rfl dX5_undo_14 ?_
    obtain ⟨⟨v2, I2⟩, hk2, hf⟩ := obd hf
    try dsimp only at hf
    refine G_callV (As := []) X (f3_removeLatest_ok E I  v2 I2 hk2) cb_X5_113 vi_X3_removeLatest (ci := 3) rfl rfl (show SH[2]? = some (_, 0) from rfl) rfl rfl (Nat.le_of_ble_eq_true rfl) (by decide) (by decide) rfl (Nat.le_refl _) (Nat.le_refl _) dX5_undo_17 ?_
    obtain ⟨hc3, hf⟩ := ock hf
    show G E κ _ _ _ [some (vr 0), none] [vr v2] (mm I2)
    refine G_astore_n X dX5_undo_20 rfl rfl (ls' := [some (vr 0), some (vr v2)]) rfl ?_
    refine G_aload_n (x := some (0)) X dX5_undo_21 rfl rfl ?_
    refine G_aload_n (x := some (v2)) X dX5_undo_22 rfl rfl ?_
    refine M_getI X fd_X5_117 rfl (show SH[v2]? = some (_, 0) from (isCb_isC hc3).1) dX5_undo_23 ?_
    refine M_putI X fd_X5_34 rfl (show SH[0]? = some (_, 0) from rfl) rfl rfl dX5_undo_26 ?_
    refine G_aload_n (x := some (0)) X dX5_undo_29 rfl rfl ?_
    refine M_getR X fd_X5_11 rfl (show SH[0]? = some (_, 0) from rfl) rfl dX5_undo_30 ?_
    refine G_aload_n (x := some (v2)) X dX5_undo_33 rfl rfl ?_
    refine M_getI X fd_X5_120 rfl (show SH[v2]? = some (_, 0) from (isCb_isC hc3).1) dX5_undo_34 ?_
    obtain ⟨hc4, hf⟩ := ock hf
    refine M_aald (r := 63 + 2 * ((uI I2 0 1 (I2 v2 1)) v2 2).toNatClampNeg) X (show SH[1]? = some (12, 8) from rfl) (by decide) hc4 (p_row (ib_lt hc4)) dX5_undo_37 ?_
    refine G_aload_n (x := some (v2)) X dX5_undo_38 rfl rfl ?_
    refine M_getR X fd_X5_123 rfl (show SH[v2]? = some (_, 0) from (isCb_isC hc3).1) (isC_p (isCb_isC hc3)) dX5_undo_39 ?_
    obtain ⟨I5, hk5, hf⟩ := obd hf
    refine G_callV (As := [vr (v2 + 1)]) X (f0_copyFrom_ok E (uI I2 0 1 (I2 v2 1)) (63 + 2 * ((uI I2 0 1 (I2 v2 1)) v2 2).toNatClampNeg) (rB_is (ib_lt hc4)) (v2 + 1) ((isCb_isC hc3).2) I5 hk5) cb_X5_106 vi_X0_copyFrom (ci := 0) rfl rfl (show SH[63 + 2 * ((uI I2 0 1 (I2 v2 1)) v2 2).toNatClampNeg]? = some (_, 0) from (rB_is (ib_lt hc4)).1) rfl rfl (Nat.le_of_ble_eq_true rfl) (by decide) (by decide) rfl (Nat.le_refl _) (Nat.le_refl _) dX5_undo_42 ?_
    show G E κ _ _ _ [some (vr 0), some (vr v2)] [] (mm I5)
    refine G_aload_n (x := some (0)) X dX5_undo_45 rfl rfl ?_
    refine M_getR X fd_X5_18 rfl (show SH[0]? = some (_, 0) from rfl) rfl dX5_undo_46 ?_
    refine M_getI X fd_X5_110 rfl (show SH[2]? = some (_, 0) from rfl) dX5_undo_49 ?_
    obtain ⟨rfl, rfl⟩ := Prod.mk.inj (Option.some.inj hf)
    exact G_iret X hR rfl rfl dX5_undo_52
  · have hf := (if_pos hc1).symm.trans hf
    refine G_bipush (v := (-2)) X dX5_undo_10 rfl ?_
    obtain ⟨rfl, rfl⟩ := Prod.mk.inj (Option.some.inj hf)
    exact G_iret X hR rfl rfl dX5_undo_12

def f5_type (I : gI) (a0 : Int32) : Option (Int32 × gI) := (if (f5_isWithin a0 1 255) = true then (if (I 19 1) < 100 then (f2_addSign I ((a0.toUInt32 % 65536).toInt32)).bind fun I3 => some (I3 19 1, I3) else some ((-3), I)) else some ((-1), I))
set_option maxRecDepth 100000 in
set_option maxHeartbeats 4000000 in
theorem f5_type_ok (E : gEnv) (I : gI) (a0 : Int32) (r : Int32) (I' : gI) (hf : f5_type I a0 = some (r, I')) : Ctr E yX5_type cX5_type 2 (some .int) 1 0 0 [vr 0, vi a0] (mm I) (some (vi r)) (mm I') := by
  refine Ctr.mk (by decide +kernel) rfl (Nat.le_of_ble_eq_true rfl) fun κ X hR _ => ?_
  have X : Cx E κ cX5_type 2 RX5 (some .int) 1 0 0 := X
  show G E κ 0 0 0 [some (vr 0), some (vi a0)] [] (mm I)
  unfold f5_type at hf
  refine G_iload_n (x := a0) X dX5_type_0 rfl rfl ?_
  refine G_iconst (v := 1) X dX5_type_1 rfl ?_
  refine G_sipush (v := 255) X dX5_type_2 rfl ?_
  refine G_callS (As := [vi a0, vi 1, vi 255]) X (f5_isWithin_ok E I a0 1 255 _ rfl) cb_X5_52 st_X5_isWithin rfl rfl (Nat.le_of_ble_eq_true rfl) (by decide) (by decide) rfl (Nat.le_refl _) (Nat.le_refl _) dX5_type_5 ?_
  show G E κ _ _ _ [some (vr 0), some (vi a0)] [vi (b2i (f5_isWithin a0 1 255))] (mm I)
  refine G_if_ne (tgt := 13) X dX5_type_8 (by decide) (fun hc1 => ?_) (fun hc1 => ?_)
  · have hf := (if_pos (b2i_t hc1)).symm.trans hf
    refine G_aload_n (x := some (0)) X dX5_type_13 rfl rfl ?_
    refine M_getR X fd_X5_25 rfl (show SH[0]? = some (_, 0) from rfl) rfl dX5_type_14 ?_
    refine M_getI X fd_X5_126 rfl (show SH[19]? = some (_, 0) from rfl) dX5_type_17 ?_
    refine G_bipush (v := 100) X dX5_type_20 rfl ?_
    refine G_icmp_lt (tgt := 28) X dX5_type_22 (by decide) (fun hc2 => ?_) (fun hc2 => ?_)
    · have hf := (if_pos hc2).symm.trans hf
      refine G_aload_n (x := some (0)) X dX5_type_28 rfl rfl ?_
      refine M_getR X fd_X5_25 rfl (show SH[0]? = some (_, 0) from rfl) rfl dX5_type_29 ?_
      refine G_iload_n (x := a0) X dX5_type_32 rfl rfl ?_
      refine G_i2c X dX5_type_33 ?_
      obtain ⟨I3, hk3, hf⟩ := obd hf
      refine G_callV (As := [vi ((a0.toUInt32 % 65536).toInt32)]) X (f2_addSign_ok E I ((a0.toUInt32 % 65536).toInt32) I3 hk3) cb_X5_127 vi_X2_addSign (ci := 2) rfl rfl (show SH[19]? = some (_, 0) from rfl) rfl rfl (Nat.le_of_ble_eq_true rfl) (by decide) (by decide) rfl (Nat.le_refl _) (Nat.le_refl _) dX5_type_34 ?_
      show G E κ _ _ _ [some (vr 0), some (vi a0)] [] (mm I3)
      refine G_aload_n (x := some (0)) X dX5_type_37 rfl rfl ?_
      refine M_getR X fd_X5_25 rfl (show SH[0]? = some (_, 0) from rfl) rfl dX5_type_38 ?_
      refine M_getI X fd_X5_126 rfl (show SH[19]? = some (_, 0) from rfl) dX5_type_41 ?_
      obtain ⟨rfl, rfl⟩ := Prod.mk.inj (Option.some.inj hf)
      exact G_iret X hR rfl rfl dX5_type_44
    · have hf := (if_neg hc2).symm.trans hf
      refine G_bipush (v := (-3)) X dX5_type_25 rfl ?_
      obtain ⟨rfl, rfl⟩ := Prod.mk.inj (Option.some.inj hf)
      exact G_iret X hR rfl rfl dX5_type_27
  · have hf := (if_neg (b2i_f hc1)).symm.trans hf
    refine G_iconst (v := (-1)) X dX5_type_11 rfl ?_
    obtain ⟨rfl, rfl⟩ := Prod.mk.inj (Option.some.inj hf)
    exact G_iret X hR rfl rfl dX5_type_12

def f5_clearText (I : gI)  : Option (Int32 × gI) := some (I 19 1, uI I 19 1 0)
set_option maxRecDepth 100000 in
set_option maxHeartbeats 4000000 in
theorem f5_clearText_ok (E : gEnv) (I : gI)  (r : Int32) (I' : gI) (hf : f5_clearText I  = some (r, I')) : Ctr E yX5_clearText cX5_clearText 2 (some .int) 0 0 0 [vr 0] (mm I) (some (vi r)) (mm I') := by
  refine Ctr.mk (by decide +kernel) rfl (Nat.le_of_ble_eq_true rfl) fun κ X hR _ => ?_
  have X : Cx E κ cX5_clearText 2 RX5 (some .int) 0 0 0 := X
  show G E κ 0 0 0 [some (vr 0), none] [] (mm I)
  unfold f5_clearText at hf
  refine G_aload_n (x := some (0)) X dX5_clearText_0 rfl rfl ?_
  refine M_getR X fd_X5_25 rfl (show SH[0]? = some (_, 0) from rfl) rfl dX5_clearText_1 ?_
  refine M_getI X fd_X5_126 rfl (show SH[19]? = some (_, 0) from rfl) dX5_clearText_4 ?_
  refine G_istore_n X dX5_clearText_7 rfl rfl (ls' := [some (vr 0), some (vi (I 19 1))]) rfl ?_
  refine G_aload_n (x := some (0)) X dX5_clearText_8 rfl rfl ?_
  refine M_getR X fd_X5_25 rfl (show SH[0]? = some (_, 0) from rfl) rfl dX5_clearText_9 ?_
  refine G_iconst (v := 0) X dX5_clearText_12 rfl ?_
  refine M_putI X fd_X5_126 rfl (show SH[19]? = some (_, 0) from rfl) rfl rfl dX5_clearText_13 ?_
  refine G_iload_n (x := I 19 1) X dX5_clearText_16 rfl rfl ?_
  obtain ⟨rfl, rfl⟩ := Prod.mk.inj (Option.some.inj hf)
  exact G_iret X hR rfl rfl dX5_clearText_17

def f5_evaluate (I : gI) (a0 : Int32) : Option (Int32 × gI) := (if (f5_isRow I a0) = true then (f2_read I (I 0 1)).bind fun q2 => (if q2.1 = true then (f5_record q2.2 a0).bind fun I4 => if ib a0 8 = true then (f2_result I4).bind fun v6 => if isBb v6 = true then (f0_copyFrom I4 (63 + 2 * a0.toNatClampNeg) v6).bind fun I8 => if ib a0 8 = true then (f4_size I8 (63 + 2 * a0.toNatClampNeg)).bind fun v10 => some (v10, I8) else none else none else none else some (((-1000)) - (q2.2 19 3), q2.2)) else some ((-1), I))
set_option maxRecDepth 100000 in
set_option maxHeartbeats 4000000 in
theorem f5_evaluate_ok (E : gEnv) (I : gI) (a0 : Int32) (r : Int32) (I' : gI) (hf : f5_evaluate I a0 = some (r, I')) : Ctr E yX5_evaluate cX5_evaluate 2 (some .int) 96 0 0 [vr 0, vi a0] (mm I) (some (vi r)) (mm I') := by
  refine Ctr.mk (by decide +kernel) rfl (Nat.le_of_ble_eq_true rfl) fun κ X hR _ => ?_
  have X : Cx E κ cX5_evaluate 2 RX5 (some .int) 96 0 0 := X
  show G E κ 0 0 0 [some (vr 0), some (vi a0)] [] (mm I)
  unfold f5_evaluate at hf
  refine G_aload_n (x := some (0)) X dX5_evaluate_0 rfl rfl ?_
  refine G_iload_n (x := a0) X dX5_evaluate_1 rfl rfl ?_
  refine G_callV (As := [vi a0]) X (f5_isRow_ok E I a0 _ rfl) cb_X5_45 vi_X5_isRow (ci := 4) rfl rfl (show SH[0]? = some (_, 0) from rfl) rfl rfl (Nat.le_of_ble_eq_true rfl) (by decide) (by decide) rfl (Nat.le_refl _) (Nat.le_refl _) dX5_evaluate_2 ?_
  show G E κ _ _ _ [some (vr 0), some (vi a0)] [vi (b2i (f5_isRow I a0))] (mm I)
  refine G_if_ne (tgt := 10) X dX5_evaluate_5 (by decide) (fun hc1 => ?_) (fun hc1 => ?_)
  · have hf := (if_pos (b2i_t hc1)).symm.trans hf
    refine G_aload_n (x := some (0)) X dX5_evaluate_10 rfl rfl ?_
    refine M_getR X fd_X5_25 rfl (show SH[0]? = some (_, 0) from rfl) rfl dX5_evaluate_11 ?_
    refine G_aload_n (x := some (0)) X dX5_evaluate_14 rfl rfl ?_
    refine M_getR X fd_X5_11 rfl (show SH[0]? = some (_, 0) from rfl) rfl dX5_evaluate_15 ?_
    refine G_aload_n (x := some (0)) X dX5_evaluate_18 rfl rfl ?_
    refine M_getI X fd_X5_34 rfl (show SH[0]? = some (_, 0) from rfl) dX5_evaluate_19 ?_
    obtain ⟨⟨v2, I2⟩, hk2, hf⟩ := obd hf
    try dsimp only at hf
    refine G_callV (As := [vr 1, vi (I 0 1)]) X (f2_read_ok E I (I 0 1) v2 I2 hk2) cb_X5_131 vi_X2_read (ci := 2) rfl rfl (show SH[19]? = some (_, 0) from rfl) rfl rfl (Nat.le_of_ble_eq_true rfl) (by decide) (by decide) rfl (Nat.le_refl _) (Nat.le_refl _) dX5_evaluate_22 ?_
    show G E κ _ _ _ [some (vr 0), some (vi a0)] [vi (b2i v2)] (mm I2)
    refine G_if_ne (tgt := 40) X dX5_evaluate_25 (by decide) (fun hc3 => ?_) (fun hc3 => ?_)
    · have hf := (if_pos (b2i_t hc3)).symm.trans hf
      refine G_aload_n (x := some (0)) X dX5_evaluate_40 rfl rfl ?_
      refine G_iload_n (x := a0) X dX5_evaluate_41 rfl rfl ?_
      obtain ⟨I4, hk4, hf⟩ := obd hf
      refine G_callV (As := [vi a0]) X (f5_record_ok E I2 a0 I4 hk4) cb_X5_38 vi_X5_record (ci := 4) rfl rfl (show SH[0]? = some (_, 0) from rfl) rfl rfl (Nat.le_of_ble_eq_true rfl) (by decide) (by decide) rfl (Nat.le_refl _) (Nat.le_refl _) dX5_evaluate_42 ?_
      show G E κ _ _ _ [some (vr 0), some (vi a0)] [] (mm I4)
      refine G_aload_n (x := some (0)) X dX5_evaluate_45 rfl rfl ?_
      refine M_getR X fd_X5_11 rfl (show SH[0]? = some (_, 0) from rfl) rfl dX5_evaluate_46 ?_
      refine G_iload_n (x := a0) X dX5_evaluate_49 rfl rfl ?_
      obtain ⟨hc5, hf⟩ := ock hf
      refine M_aald (r := 63 + 2 * a0.toNatClampNeg) X (show SH[1]? = some (12, 8) from rfl) (by decide) hc5 (p_row (ib_lt hc5)) dX5_evaluate_50 ?_
      refine G_aload_n (x := some (0)) X dX5_evaluate_51 rfl rfl ?_
      refine M_getR X fd_X5_25 rfl (show SH[0]? = some (_, 0) from rfl) rfl dX5_evaluate_52 ?_
      obtain ⟨v6, hk6, hf⟩ := obd hf
      refine G_callV (As := []) X (f2_result_ok E I4  v6 hk6) cb_X5_138 vi_X2_result (ci := 2) rfl rfl (show SH[19]? = some (_, 0) from rfl) rfl rfl (Nat.le_of_ble_eq_true rfl) (by decide) (by decide) rfl (Nat.le_refl _) (Nat.le_refl _) dX5_evaluate_55 ?_
      obtain ⟨hc7, hf⟩ := ock hf
      show G E κ _ _ _ [some (vr 0), some (vi a0)] [vr v6, vr (63 + 2 * a0.toNatClampNeg)] (mm I4)
      obtain ⟨I8, hk8, hf⟩ := obd hf
      refine G_callV (As := [vr v6]) X (f0_copyFrom_ok E I4 (63 + 2 * a0.toNatClampNeg) (rB_is (ib_lt hc5)) v6 (isBb_isB hc7) I8 hk8) cb_X5_106 vi_X0_copyFrom (ci := 0) rfl rfl (show SH[63 + 2 * a0.toNatClampNeg]? = some (_, 0) from (rB_is (ib_lt hc5)).1) rfl rfl (Nat.le_of_ble_eq_true rfl) (by decide) (by decide) rfl (Nat.le_refl _) (Nat.le_refl _) dX5_evaluate_58 ?_
      show G E κ _ _ _ [some (vr 0), some (vi a0)] [] (mm I8)
      refine G_aload_n (x := some (0)) X dX5_evaluate_61 rfl rfl ?_
      refine M_getR X fd_X5_11 rfl (show SH[0]? = some (_, 0) from rfl) rfl dX5_evaluate_62 ?_
      refine G_iload_n (x := a0) X dX5_evaluate_65 rfl rfl ?_
      obtain ⟨hc9, hf⟩ := ock hf
      refine M_aald (r := 63 + 2 * a0.toNatClampNeg) X (show SH[1]? = some (12, 8) from rfl) (by decide) hc9 (p_row (ib_lt hc9)) dX5_evaluate_66 ?_
      obtain ⟨v10, hk10, hf⟩ := obd hf
      refine G_callS (As := [vr (63 + 2 * a0.toNatClampNeg)]) X (f4_size_ok E I8 (63 + 2 * a0.toNatClampNeg) (rB_is (ib_lt hc9)) v10 hk10) cb_X5_67 st_X4_size rfl rfl (Nat.le_of_ble_eq_true rfl) (by decide) (by decide) rfl (Nat.le_refl _) (Nat.le_refl _) dX5_evaluate_67 ?_
      show G E κ _ _ _ [some (vr 0), some (vi a0)] [vi v10] (mm I8)
      obtain ⟨rfl, rfl⟩ := Prod.mk.inj (Option.some.inj hf)
      exact G_iret X hR rfl rfl dX5_evaluate_70
    · have hf := (if_neg (b2i_f hc3)).symm.trans hf
      refine G_sipush (v := (-1000)) X dX5_evaluate_28 rfl ?_
      refine G_aload_n (x := some (0)) X dX5_evaluate_31 rfl rfl ?_
      refine M_getR X fd_X5_25 rfl (show SH[0]? = some (_, 0) from rfl) rfl dX5_evaluate_32 ?_
      refine M_getI X fd_X5_135 rfl (show SH[19]? = some (_, 0) from rfl) dX5_evaluate_35 ?_
      refine G_isub X dX5_evaluate_38 ?_
      obtain ⟨rfl, rfl⟩ := Prod.mk.inj (Option.some.inj hf)
      exact G_iret X hR rfl rfl dX5_evaluate_39
  · have hf := (if_neg (b2i_f hc1)).symm.trans hf
    refine G_iconst (v := (-1)) X dX5_evaluate_8 rfl ?_
    obtain ⟨rfl, rfl⟩ := Prod.mk.inj (Option.some.inj hf)
    exact G_iret X hR rfl rfl dX5_evaluate_9

def f5_failure (I : gI) (a0 : Int32) : Int32 := (if (f5_isWithin a0 0 2) = true then (if (I 19 2) = 0 then (-9) else (if a0 = 0 then I 19 2 else (if a0 = 1 then I 19 3 else I 19 4))) else (-1))
set_option maxRecDepth 100000 in
set_option maxHeartbeats 4000000 in
theorem f5_failure_ok (E : gEnv) (I : gI) (a0 : Int32) (r : Int32) (hf : f5_failure I a0 = r) : Ctr E yX5_failure cX5_failure 2 (some .int) 1 0 0 [vr 0, vi a0] (mm I) (some (vi r)) (mm I) := by
  refine Ctr.mk (by decide +kernel) rfl (Nat.le_of_ble_eq_true rfl) fun κ X hR _ => ?_
  have X : Cx E κ cX5_failure 2 RX5 (some .int) 1 0 0 := X
  show G E κ 0 0 0 [some (vr 0), some (vi a0)] [] (mm I)
  unfold f5_failure at hf
  refine G_iload_n (x := a0) X dX5_failure_0 rfl rfl ?_
  refine G_iconst (v := 0) X dX5_failure_1 rfl ?_
  refine G_iconst (v := 2) X dX5_failure_2 rfl ?_
  refine G_callS (As := [vi a0, vi 0, vi 2]) X (f5_isWithin_ok E I a0 0 2 _ rfl) cb_X5_52 st_X5_isWithin rfl rfl (Nat.le_of_ble_eq_true rfl) (by decide) (by decide) rfl (Nat.le_refl _) (Nat.le_refl _) dX5_failure_3 ?_
  show G E κ _ _ _ [some (vr 0), some (vi a0)] [vi (b2i (f5_isWithin a0 0 2))] (mm I)
  refine G_if_ne (tgt := 11) X dX5_failure_6 (by decide) (fun hc1 => ?_) (fun hc1 => ?_)
  · have hf := (if_pos (b2i_t hc1)).symm.trans hf
    refine G_aload_n (x := some (0)) X dX5_failure_11 rfl rfl ?_
    refine M_getR X fd_X5_25 rfl (show SH[0]? = some (_, 0) from rfl) rfl dX5_failure_12 ?_
    refine M_getI X fd_X5_142 rfl (show SH[19]? = some (_, 0) from rfl) dX5_failure_15 ?_
    refine G_if_ne (tgt := 24) X dX5_failure_18 (by decide) (fun hc2 => ?_) (fun hc2 => ?_)
    · have hf := (if_neg hc2).symm.trans hf
      refine G_iload_n (x := a0) X dX5_failure_24 rfl rfl ?_
      by_cases hc3 : a0 = 0
      · have hf := (if_pos hc3).symm.trans hf
        refine G_lookup (tgt := 52) (off := 27) X dX5_failure_25 (by decide) (by rw [hc3]; decide) (by decide) ?_
        refine G_aload_n (x := some (0)) X dX5_failure_52 rfl rfl ?_
        refine M_getR X fd_X5_25 rfl (show SH[0]? = some (_, 0) from rfl) rfl dX5_failure_53 ?_
        refine M_getI X fd_X5_142 rfl (show SH[19]? = some (_, 0) from rfl) dX5_failure_56 ?_
        subst hf
        exact G_iret X hR rfl rfl dX5_failure_59
      have hf := (if_neg hc3).symm.trans hf
      by_cases hc4 : a0 = 1
      · have hf := (if_pos hc4).symm.trans hf
        refine G_lookup (tgt := 60) (off := 35) X dX5_failure_25 (by decide) (by rw [hc4]; decide) (by decide) ?_
        refine G_aload_n (x := some (0)) X dX5_failure_60 rfl rfl ?_
        refine M_getR X fd_X5_25 rfl (show SH[0]? = some (_, 0) from rfl) rfl dX5_failure_61 ?_
        refine M_getI X fd_X5_135 rfl (show SH[19]? = some (_, 0) from rfl) dX5_failure_64 ?_
        subst hf
        exact G_iret X hR rfl rfl dX5_failure_67
      have hf := (if_neg hc4).symm.trans hf
      refine G_lookup (tgt := 68) (off := 43) X dX5_failure_25 (by decide) (by show Op.lookupswitch.offset [(0, 27), (1, 35)] 43 _ = _; rw [lv_osw (k := 0) hc3 (by decide), lv_osw (k := 1) hc4 (by decide)]; rfl) (by decide) ?_
      refine G_aload_n (x := some (0)) X dX5_failure_68 rfl rfl ?_
      refine M_getR X fd_X5_25 rfl (show SH[0]? = some (_, 0) from rfl) rfl dX5_failure_69 ?_
      refine M_getI X fd_X5_145 rfl (show SH[19]? = some (_, 0) from rfl) dX5_failure_72 ?_
      subst hf
      exact G_iret X hR rfl rfl dX5_failure_75
    · have hf := (if_pos hc2).symm.trans hf
      refine G_bipush (v := (-9)) X dX5_failure_21 rfl ?_
      subst hf
      exact G_iret X hR rfl rfl dX5_failure_23
  · have hf := (if_neg (b2i_f hc1)).symm.trans hf
    refine G_iconst (v := (-1)) X dX5_failure_9 rfl ?_
    subst hf
    exact G_iret X hR rfl rfl dX5_failure_10

def f5_property (I : gI) (b0 : Nat) (a1 : Int32) : Option Int32 := (if a1 = 0 then some (I b0 1) else (if a1 = 1 then (f4_size I b0).bind fun v3 => some v3 else (if a1 = 2 then (f4_literals I b0).bind fun v5 => some v5 else (if a1 = 3 then (f4_fillsOf I b0 0).bind fun v7 => some v7 else (if a1 = 4 then (f4_fillsOf I b0 32767).bind fun v9 => some v9 else (if a1 = 5 then (f0_ones I b0).bind fun v11 => some v11 else (if a1 = 6 then (f0_placeOfOne I b0 0).bind fun v13 => some v13 else (f0_ones I b0).bind fun v14 => (f0_placeOfOne I b0 (v14 - 1)).bind fun v15 => some v15)))))))
set_option maxRecDepth 100000 in
set_option maxHeartbeats 4000000 in
theorem f5_property_ok (E : gEnv) (I : gI) (b0 : Nat) (hb0 : isB b0) (a1 : Int32) (r : Int32) (hf : f5_property I b0 a1 = some r) : Ctr E yX5_property cX5_property 2 (some .int) 4 0 0 [vr b0, vi a1] (mm I) (some (vi r)) (mm I) := by
  refine Ctr.mk (by decide +kernel) rfl (Nat.le_of_ble_eq_true rfl) fun κ X hR _ => ?_
  have X : Cx E κ cX5_property 2 RX5 (some .int) 4 0 0 := X
  show G E κ 0 0 0 [some (vr b0), some (vi a1)] [] (mm I)
  unfold f5_property at hf
  refine G_iload_n (x := a1) X dX5_property_0 rfl rfl ?_
  by_cases hc1 : a1 = 0
  · have hf := (if_pos hc1).symm.trans hf
    refine G_tableJ (tgt := 44) X 0 dX5_property_1 hc1 (by decide) (by decide) rfl (by decide) ?_
    refine G_aload_n (x := some (b0)) X dX5_property_44 rfl rfl ?_
    refine M_getI X fd_X5_56 rfl (show SH[b0]? = some (_, 0) from hb0.1) dX5_property_45 ?_
    obtain rfl := Option.some.inj hf
    exact G_iret X hR rfl rfl dX5_property_48
  have hf := (if_neg hc1).symm.trans hf
  by_cases hc2 : a1 = 1
  · have hf := (if_pos hc2).symm.trans hf
    refine G_tableJ (tgt := 49) X 1 dX5_property_1 hc2 (by decide) (by decide) rfl (by decide) ?_
    refine G_aload_n (x := some (b0)) X dX5_property_49 rfl rfl ?_
    obtain ⟨v3, hk3, hf⟩ := obd hf
    refine G_callS (As := [vr b0]) X (f4_size_ok E I b0 hb0 v3 hk3) cb_X5_67 st_X4_size rfl rfl (Nat.le_of_ble_eq_true rfl) (by decide) (by decide) rfl (Nat.le_refl _) (Nat.le_refl _) dX5_property_50 ?_
    show G E κ _ _ _ [some (vr b0), some (vi a1)] [vi v3] (mm I)
    obtain rfl := Option.some.inj hf
    exact G_iret X hR rfl rfl dX5_property_53
  have hf := (if_neg hc2).symm.trans hf
  by_cases hc4 : a1 = 2
  · have hf := (if_pos hc4).symm.trans hf
    refine G_tableJ (tgt := 54) X 2 dX5_property_1 hc4 (by decide) (by decide) rfl (by decide) ?_
    refine G_aload_n (x := some (b0)) X dX5_property_54 rfl rfl ?_
    obtain ⟨v5, hk5, hf⟩ := obd hf
    refine G_callS (As := [vr b0]) X (f4_literals_ok E I b0 hb0 v5 hk5) cb_X5_172 st_X4_literals rfl rfl (Nat.le_of_ble_eq_true rfl) (by decide) (by decide) rfl (Nat.le_refl _) (Nat.le_refl _) dX5_property_55 ?_
    show G E κ _ _ _ [some (vr b0), some (vi a1)] [vi v5] (mm I)
    obtain rfl := Option.some.inj hf
    exact G_iret X hR rfl rfl dX5_property_58
  have hf := (if_neg hc4).symm.trans hf
  by_cases hc6 : a1 = 3
  · have hf := (if_pos hc6).symm.trans hf
    refine G_tableJ (tgt := 59) X 3 dX5_property_1 hc6 (by decide) (by decide) rfl (by decide) ?_
    refine G_aload_n (x := some (b0)) X dX5_property_59 rfl rfl ?_
    refine G_iconst (v := 0) X dX5_property_60 rfl ?_
    obtain ⟨v7, hk7, hf⟩ := obd hf
    refine G_callS (As := [vr b0, vi 0]) X (f4_fillsOf_ok E I b0 hb0 0 v7 hk7) cb_X5_175 st_X4_fillsOf rfl rfl (Nat.le_of_ble_eq_true rfl) (by decide) (by decide) rfl (Nat.le_refl _) (Nat.le_refl _) dX5_property_61 ?_
    show G E κ _ _ _ [some (vr b0), some (vi a1)] [vi v7] (mm I)
    obtain rfl := Option.some.inj hf
    exact G_iret X hR rfl rfl dX5_property_64
  have hf := (if_neg hc6).symm.trans hf
  by_cases hc8 : a1 = 4
  · have hf := (if_pos hc8).symm.trans hf
    refine G_tableJ (tgt := 65) X 4 dX5_property_1 hc8 (by decide) (by decide) rfl (by decide) ?_
    refine G_aload_n (x := some (b0)) X dX5_property_65 rfl rfl ?_
    refine G_sipush (v := 32767) X dX5_property_66 rfl ?_
    obtain ⟨v9, hk9, hf⟩ := obd hf
    refine G_callS (As := [vr b0, vi 32767]) X (f4_fillsOf_ok E I b0 hb0 32767 v9 hk9) cb_X5_175 st_X4_fillsOf rfl rfl (Nat.le_of_ble_eq_true rfl) (by decide) (by decide) rfl (Nat.le_refl _) (Nat.le_refl _) dX5_property_69 ?_
    show G E κ _ _ _ [some (vr b0), some (vi a1)] [vi v9] (mm I)
    obtain rfl := Option.some.inj hf
    exact G_iret X hR rfl rfl dX5_property_72
  have hf := (if_neg hc8).symm.trans hf
  by_cases hc10 : a1 = 5
  · have hf := (if_pos hc10).symm.trans hf
    refine G_tableJ (tgt := 73) X 5 dX5_property_1 hc10 (by decide) (by decide) rfl (by decide) ?_
    refine G_aload_n (x := some (b0)) X dX5_property_73 rfl rfl ?_
    obtain ⟨v11, hk11, hf⟩ := obd hf
    refine G_callV (As := []) X (f0_ones_ok E I b0 hb0 v11 hk11) cb_X5_98 vi_X0_ones (ci := 0) rfl rfl (show SH[b0]? = some (_, 0) from hb0.1) rfl rfl (Nat.le_of_ble_eq_true rfl) (by decide) (by decide) rfl (Nat.le_refl _) (Nat.le_refl _) dX5_property_74 ?_
    show G E κ _ _ _ [some (vr b0), some (vi a1)] [vi v11] (mm I)
    obtain rfl := Option.some.inj hf
    exact G_iret X hR rfl rfl dX5_property_77
  have hf := (if_neg hc10).symm.trans hf
  by_cases hc12 : a1 = 6
  · have hf := (if_pos hc12).symm.trans hf
    refine G_tableJ (tgt := 78) X 6 dX5_property_1 hc12 (by decide) (by decide) rfl (by decide) ?_
    refine G_aload_n (x := some (b0)) X dX5_property_78 rfl rfl ?_
    refine G_iconst (v := 0) X dX5_property_79 rfl ?_
    obtain ⟨v13, hk13, hf⟩ := obd hf
    refine G_callV (As := [vi 0]) X (f0_placeOfOne_ok E I b0 hb0 0 v13 hk13) cb_X5_161 vi_X0_placeOfOne (ci := 0) rfl rfl (show SH[b0]? = some (_, 0) from hb0.1) rfl rfl (Nat.le_of_ble_eq_true rfl) (by decide) (by decide) rfl (Nat.le_refl _) (Nat.le_refl _) dX5_property_80 ?_
    show G E κ _ _ _ [some (vr b0), some (vi a1)] [vi v13] (mm I)
    obtain rfl := Option.some.inj hf
    exact G_iret X hR rfl rfl dX5_property_83
  have hf := (if_neg hc12).symm.trans hf
  refine G_tableD (tgt := 84) X 7 dX5_property_1 (by decide) (lt_s (lt_s (lt_s (lt_s (lt_s (lt_s (lt_s lt_0 hc1) hc2) hc4) hc6) hc8) hc10) hc12) (by decide) ?_
  refine G_aload_n (x := some (b0)) X dX5_property_84 rfl rfl ?_
  refine G_aload_n (x := some (b0)) X dX5_property_85 rfl rfl ?_
  obtain ⟨v14, hk14, hf⟩ := obd hf
  refine G_callV (As := []) X (f0_ones_ok E I b0 hb0 v14 hk14) cb_X5_98 vi_X0_ones (ci := 0) rfl rfl (show SH[b0]? = some (_, 0) from hb0.1) rfl rfl (Nat.le_of_ble_eq_true rfl) (by decide) (by decide) rfl (Nat.le_refl _) (Nat.le_refl _) dX5_property_86 ?_
  show G E κ _ _ _ [some (vr b0), some (vi a1)] [vi v14, vr b0] (mm I)
  refine G_iconst (v := 1) X dX5_property_89 rfl ?_
  refine G_isub X dX5_property_90 ?_
  obtain ⟨v15, hk15, hf⟩ := obd hf
  refine G_callV (As := [vi (v14 - 1)]) X (f0_placeOfOne_ok E I b0 hb0 (v14 - 1) v15 hk15) cb_X5_161 vi_X0_placeOfOne (ci := 0) rfl rfl (show SH[b0]? = some (_, 0) from hb0.1) rfl rfl (Nat.le_of_ble_eq_true rfl) (by decide) (by decide) rfl (Nat.le_refl _) (Nat.le_refl _) dX5_property_91 ?_
  show G E κ _ _ _ [some (vr b0), some (vi a1)] [vi v15] (mm I)
  obtain rfl := Option.some.inj hf
  exact G_iret X hR rfl rfl dX5_property_94

def f5_sum_L4 : Nat → gI → Int32 → Int32 → Int32 → Option Int32
  | 0, _, _, _, _ => none
  | k + 1, I, x1, x2, x3 => (if (I 0 1) ≤ x3 then some x2 else if ib x3 8 = true then (f5_property I (63 + 2 * x3.toNatClampNeg) x1).bind fun v3 => f5_sum_L4 k I x1 (x2 + v3) (x3 + 1) else none)
set_option maxRecDepth 100000 in
set_option maxHeartbeats 4000000 in
theorem f5_sum_L4_ok {E : gEnv} {κ : gCtx} (X : Cx E κ cX5_sum 4 RX5 (some .int) 5 0 0) : ∀ (k : Nat) (I : gI) (x1 : Int32) (x2 : Int32) (x3 : Int32) (r : Int32) (hR : gRt E κ 0 0 (some (vi r)) (mm I)) (hf : f5_sum_L4 k I x1 x2 x3 = some r), G E κ 0 0 4 [some (vr 0), some (vi x1), some (vi x2), some (vi x3)] [] (mm I) := by
  intro k
  induction k with
  | zero =>
    intros
    rename_i hf
    cases hf
  | succ k ih =>
    intro I x1 x2 x3 r hR hf
    refine G_iload_n (x := x3) X dX5_sum_4 rfl rfl ?_
    refine G_aload_n (x := some (0)) X dX5_sum_5 rfl rfl ?_
    refine M_getI X fd_X5_34 rfl (show SH[0]? = some (_, 0) from rfl) dX5_sum_6 ?_
    refine G_icmp_ge (tgt := 31) X dX5_sum_9 (by decide) (fun hc1 => ?_) (fun hc1 => ?_)
    · have hf := (if_pos hc1).symm.trans hf
      refine G_iload_n (x := x2) X dX5_sum_31 rfl rfl ?_
      obtain rfl := Option.some.inj hf
      exact G_iret X hR rfl rfl dX5_sum_32
    · have hf := (if_neg hc1).symm.trans hf
      refine G_iload_n (x := x2) X dX5_sum_12 rfl rfl ?_
      refine G_aload_n (x := some (0)) X dX5_sum_13 rfl rfl ?_
      refine M_getR X fd_X5_11 rfl (show SH[0]? = some (_, 0) from rfl) rfl dX5_sum_14 ?_
      refine G_iload_n (x := x3) X dX5_sum_17 rfl rfl ?_
      obtain ⟨hc2, hf⟩ := ock hf
      refine M_aald (r := 63 + 2 * x3.toNatClampNeg) X (show SH[1]? = some (12, 8) from rfl) (by decide) hc2 (p_row (ib_lt hc2)) dX5_sum_18 ?_
      refine G_iload_n (x := x1) X dX5_sum_19 rfl rfl ?_
      obtain ⟨v3, hk3, hf⟩ := obd hf
      refine G_callS (As := [vr (63 + 2 * x3.toNatClampNeg), vi x1]) X (f5_property_ok E I (63 + 2 * x3.toNatClampNeg) (rB_is (ib_lt hc2)) x1 v3 hk3) cb_X5_151 st_X5_property rfl rfl (Nat.le_of_ble_eq_true rfl) (by decide) (by decide) rfl (Nat.le_refl _) (Nat.le_refl _) dX5_sum_20 ?_
      show G E κ _ _ _ [some (vr 0), some (vi x1), some (vi x2), some (vi x3)] [vi v3, vi x2] (mm I)
      refine G_iadd X dX5_sum_23 ?_
      refine G_istore_n X dX5_sum_24 rfl rfl (ls' := [some (vr 0), some (vi x1), some (vi (x2 + v3)), some (vi x3)]) rfl ?_
      refine G_iinc (x := x3) (v := 1) X dX5_sum_25 rfl rfl rfl (ls' := [some (vr 0), some (vi x1), some (vi (x2 + v3)), some (vi (x3 + 1))]) rfl ?_
      refine G_goto (tgt := 4) X dX5_sum_28 (by decide) ?_
      exact ih I x1 (x2 + v3) (x3 + 1) _ hR hf

def f5_sum (I : gI) (a0 : Int32) : Option Int32 := f5_sum_L4 FU I a0 0 0
set_option maxRecDepth 100000 in
set_option maxHeartbeats 4000000 in
theorem f5_sum_ok (E : gEnv) (I : gI) (a0 : Int32) (r : Int32) (hf : f5_sum I a0 = some r) : Ctr E yX5_sum cX5_sum 4 (some .int) 5 0 0 [vr 0, vi a0] (mm I) (some (vi r)) (mm I) := by
  refine Ctr.mk (by decide +kernel) rfl (Nat.le_of_ble_eq_true rfl) fun κ X hR _ => ?_
  have X : Cx E κ cX5_sum 4 RX5 (some .int) 5 0 0 := X
  show G E κ 0 0 0 [some (vr 0), some (vi a0), none, none] [] (mm I)
  unfold f5_sum at hf
  refine G_iconst (v := 0) X dX5_sum_0 rfl ?_
  refine G_istore_n X dX5_sum_1 rfl rfl (ls' := [some (vr 0), some (vi a0), some (vi 0), none]) rfl ?_
  refine G_iconst (v := 0) X dX5_sum_2 rfl ?_
  refine G_istore_n X dX5_sum_3 rfl rfl (ls' := [some (vr 0), some (vi a0), some (vi 0), some (vi 0)]) rfl ?_
  exact f5_sum_L4_ok X FU I a0 0 0 _ hR hf

def f5_count (I : gI) (a0 : Int32) : Option Int32 := (if a0 = 0 then some (I 0 1) else (if a0 = 1 then (f5_sum I 0).bind fun v3 => some v3 else (if a0 = 2 then (f5_sum I 1).bind fun v5 => some v5 else (if a0 = 3 then (f5_sum I 5).bind fun v7 => some v7 else (if a0 = 4 then some (I 2 1) else (if a0 = 5 then some (I 19 1) else some ((-1))))))))
set_option maxRecDepth 100000 in
set_option maxHeartbeats 4000000 in
theorem f5_count_ok (E : gEnv) (I : gI) (a0 : Int32) (r : Int32) (hf : f5_count I a0 = some r) : Ctr E yX5_count cX5_count 2 (some .int) 6 0 0 [vr 0, vi a0] (mm I) (some (vi r)) (mm I) := by
  refine Ctr.mk (by decide +kernel) rfl (Nat.le_of_ble_eq_true rfl) fun κ X hR _ => ?_
  have X : Cx E κ cX5_count 2 RX5 (some .int) 6 0 0 := X
  show G E κ 0 0 0 [some (vr 0), some (vi a0)] [] (mm I)
  unfold f5_count at hf
  refine G_iload_n (x := a0) X dX5_count_0 rfl rfl ?_
  by_cases hc1 : a0 = 0
  · have hf := (if_pos hc1).symm.trans hf
    refine G_tableJ (tgt := 40) X 0 dX5_count_1 hc1 (by decide) (by decide) rfl (by decide) ?_
    refine G_aload_n (x := some (0)) X dX5_count_40 rfl rfl ?_
    refine M_getI X fd_X5_34 rfl (show SH[0]? = some (_, 0) from rfl) dX5_count_41 ?_
    obtain rfl := Option.some.inj hf
    exact G_iret X hR rfl rfl dX5_count_44
  have hf := (if_neg hc1).symm.trans hf
  by_cases hc2 : a0 = 1
  · have hf := (if_pos hc2).symm.trans hf
    refine G_tableJ (tgt := 45) X 1 dX5_count_1 hc2 (by decide) (by decide) rfl (by decide) ?_
    refine G_aload_n (x := some (0)) X dX5_count_45 rfl rfl ?_
    refine G_iconst (v := 0) X dX5_count_46 rfl ?_
    obtain ⟨v3, hk3, hf⟩ := obd hf
    refine G_callV (As := [vi 0]) X (f5_sum_ok E I 0 v3 hk3) cb_X5_148 vi_X5_sum (ci := 4) rfl rfl (show SH[0]? = some (_, 0) from rfl) rfl rfl (Nat.le_of_ble_eq_true rfl) (by decide) (by decide) rfl (Nat.le_refl _) (Nat.le_refl _) dX5_count_47 ?_
    show G E κ _ _ _ [some (vr 0), some (vi a0)] [vi v3] (mm I)
    obtain rfl := Option.some.inj hf
    exact G_iret X hR rfl rfl dX5_count_50
  have hf := (if_neg hc2).symm.trans hf
  by_cases hc4 : a0 = 2
  · have hf := (if_pos hc4).symm.trans hf
    refine G_tableJ (tgt := 51) X 2 dX5_count_1 hc4 (by decide) (by decide) rfl (by decide) ?_
    refine G_aload_n (x := some (0)) X dX5_count_51 rfl rfl ?_
    refine G_iconst (v := 1) X dX5_count_52 rfl ?_
    obtain ⟨v5, hk5, hf⟩ := obd hf
    refine G_callV (As := [vi 1]) X (f5_sum_ok E I 1 v5 hk5) cb_X5_148 vi_X5_sum (ci := 4) rfl rfl (show SH[0]? = some (_, 0) from rfl) rfl rfl (Nat.le_of_ble_eq_true rfl) (by decide) (by decide) rfl (Nat.le_refl _) (Nat.le_refl _) dX5_count_53 ?_
    show G E κ _ _ _ [some (vr 0), some (vi a0)] [vi v5] (mm I)
    obtain rfl := Option.some.inj hf
    exact G_iret X hR rfl rfl dX5_count_56
  have hf := (if_neg hc4).symm.trans hf
  by_cases hc6 : a0 = 3
  · have hf := (if_pos hc6).symm.trans hf
    refine G_tableJ (tgt := 57) X 3 dX5_count_1 hc6 (by decide) (by decide) rfl (by decide) ?_
    refine G_aload_n (x := some (0)) X dX5_count_57 rfl rfl ?_
    refine G_iconst (v := 5) X dX5_count_58 rfl ?_
    obtain ⟨v7, hk7, hf⟩ := obd hf
    refine G_callV (As := [vi 5]) X (f5_sum_ok E I 5 v7 hk7) cb_X5_148 vi_X5_sum (ci := 4) rfl rfl (show SH[0]? = some (_, 0) from rfl) rfl rfl (Nat.le_of_ble_eq_true rfl) (by decide) (by decide) rfl (Nat.le_refl _) (Nat.le_refl _) dX5_count_59 ?_
    show G E κ _ _ _ [some (vr 0), some (vi a0)] [vi v7] (mm I)
    obtain rfl := Option.some.inj hf
    exact G_iret X hR rfl rfl dX5_count_62
  have hf := (if_neg hc6).symm.trans hf
  by_cases hc8 : a0 = 4
  · have hf := (if_pos hc8).symm.trans hf
    refine G_tableJ (tgt := 63) X 4 dX5_count_1 hc8 (by decide) (by decide) rfl (by decide) ?_
    refine G_aload_n (x := some (0)) X dX5_count_63 rfl rfl ?_
    refine M_getR X fd_X5_18 rfl (show SH[0]? = some (_, 0) from rfl) rfl dX5_count_64 ?_
    refine M_getI X fd_X5_110 rfl (show SH[2]? = some (_, 0) from rfl) dX5_count_67 ?_
    obtain rfl := Option.some.inj hf
    exact G_iret X hR rfl rfl dX5_count_70
  have hf := (if_neg hc8).symm.trans hf
  by_cases hc9 : a0 = 5
  · have hf := (if_pos hc9).symm.trans hf
    refine G_tableJ (tgt := 71) X 5 dX5_count_1 hc9 (by decide) (by decide) rfl (by decide) ?_
    refine G_aload_n (x := some (0)) X dX5_count_71 rfl rfl ?_
    refine M_getR X fd_X5_25 rfl (show SH[0]? = some (_, 0) from rfl) rfl dX5_count_72 ?_
    refine M_getI X fd_X5_126 rfl (show SH[19]? = some (_, 0) from rfl) dX5_count_75 ?_
    obtain rfl := Option.some.inj hf
    exact G_iret X hR rfl rfl dX5_count_78
  have hf := (if_neg hc9).symm.trans hf
  refine G_tableD (tgt := 79) X 6 dX5_count_1 (by decide) (lt_s (lt_s (lt_s (lt_s (lt_s (lt_s lt_0 hc1) hc2) hc4) hc6) hc8) hc9) (by decide) ?_
  refine G_iconst (v := (-1)) X dX5_count_79 rfl ?_
  obtain rfl := Option.some.inj hf
  exact G_iret X hR rfl rfl dX5_count_80

def f5_row (I : gI) (a0 : Int32) (a1 : Int32) : Option Int32 := (if (f5_isRow I a0) = true then (if (f5_isWithin a1 0 7) = true then if ib a0 8 = true then (f5_property I (63 + 2 * a0.toNatClampNeg) a1).bind fun v4 => some v4 else none else some ((-1))) else some ((-1)))
set_option maxRecDepth 100000 in
set_option maxHeartbeats 4000000 in
theorem f5_row_ok (E : gEnv) (I : gI) (a0 : Int32) (a1 : Int32) (r : Int32) (hf : f5_row I a0 a1 = some r) : Ctr E yX5_row cX5_row 3 (some .int) 5 0 0 [vr 0, vi a0, vi a1] (mm I) (some (vi r)) (mm I) := by
  refine Ctr.mk (by decide +kernel) rfl (Nat.le_of_ble_eq_true rfl) fun κ X hR _ => ?_
  have X : Cx E κ cX5_row 3 RX5 (some .int) 5 0 0 := X
  show G E κ 0 0 0 [some (vr 0), some (vi a0), some (vi a1)] [] (mm I)
  unfold f5_row at hf
  refine G_aload_n (x := some (0)) X dX5_row_0 rfl rfl ?_
  refine G_iload_n (x := a0) X dX5_row_1 rfl rfl ?_
  refine G_callV (As := [vi a0]) X (f5_isRow_ok E I a0 _ rfl) cb_X5_45 vi_X5_isRow (ci := 4) rfl rfl (show SH[0]? = some (_, 0) from rfl) rfl rfl (Nat.le_of_ble_eq_true rfl) (by decide) (by decide) rfl (Nat.le_refl _) (Nat.le_refl _) dX5_row_2 ?_
  show G E κ _ _ _ [some (vr 0), some (vi a0), some (vi a1)] [vi (b2i (f5_isRow I a0))] (mm I)
  refine G_if_eq (tgt := 18) X dX5_row_5 (by decide) (fun hc1 => ?_) (fun hc1 => ?_)
  · have hf := (if_neg (b2i_f hc1)).symm.trans hf
    refine G_iconst (v := (-1)) X dX5_row_18 rfl ?_
    obtain rfl := Option.some.inj hf
    exact G_iret X hR rfl rfl dX5_row_19
  · have hf := (if_pos (b2i_t hc1)).symm.trans hf
    refine G_iload_n (x := a1) X dX5_row_8 rfl rfl ?_
    refine G_iconst (v := 0) X dX5_row_9 rfl ?_
    refine G_bipush (v := 7) X dX5_row_10 rfl ?_
    refine G_callS (As := [vi a1, vi 0, vi 7]) X (f5_isWithin_ok E I a1 0 7 _ rfl) cb_X5_52 st_X5_isWithin rfl rfl (Nat.le_of_ble_eq_true rfl) (by decide) (by decide) rfl (Nat.le_refl _) (Nat.le_refl _) dX5_row_12 ?_
    show G E κ _ _ _ [some (vr 0), some (vi a0), some (vi a1)] [vi (b2i (f5_isWithin a1 0 7))] (mm I)
    refine G_if_ne (tgt := 20) X dX5_row_15 (by decide) (fun hc2 => ?_) (fun hc2 => ?_)
    · have hf := (if_pos (b2i_t hc2)).symm.trans hf
      refine G_aload_n (x := some (0)) X dX5_row_20 rfl rfl ?_
      refine M_getR X fd_X5_11 rfl (show SH[0]? = some (_, 0) from rfl) rfl dX5_row_21 ?_
      refine G_iload_n (x := a0) X dX5_row_24 rfl rfl ?_
      obtain ⟨hc3, hf⟩ := ock hf
      refine M_aald (r := 63 + 2 * a0.toNatClampNeg) X (show SH[1]? = some (12, 8) from rfl) (by decide) hc3 (p_row (ib_lt hc3)) dX5_row_25 ?_
      refine G_iload_n (x := a1) X dX5_row_26 rfl rfl ?_
      obtain ⟨v4, hk4, hf⟩ := obd hf
      refine G_callS (As := [vr (63 + 2 * a0.toNatClampNeg), vi a1]) X (f5_property_ok E I (63 + 2 * a0.toNatClampNeg) (rB_is (ib_lt hc3)) a1 v4 hk4) cb_X5_151 st_X5_property rfl rfl (Nat.le_of_ble_eq_true rfl) (by decide) (by decide) rfl (Nat.le_refl _) (Nat.le_refl _) dX5_row_27 ?_
      show G E κ _ _ _ [some (vr 0), some (vi a0), some (vi a1)] [vi v4] (mm I)
      obtain rfl := Option.some.inj hf
      exact G_iret X hR rfl rfl dX5_row_30
    · have hf := (if_neg (b2i_f hc2)).symm.trans hf
      refine G_iconst (v := (-1)) X dX5_row_18 rfl ?_
      obtain rfl := Option.some.inj hf
      exact G_iret X hR rfl rfl dX5_row_19

def f5_word (I : gI) (a0 : Int32) (a1 : Int32) : Option Int32 := (if (f5_isRow I a0) = true then (if 0 ≤ a1 then if ib a0 8 = true then (f4_codeOf I (63 + 2 * a0.toNatClampNeg) a1).bind fun v4 => some v4 else none else some ((-1))) else some ((-1)))
set_option maxRecDepth 100000 in
set_option maxHeartbeats 4000000 in
theorem f5_word_ok (E : gEnv) (I : gI) (a0 : Int32) (a1 : Int32) (r : Int32) (hf : f5_word I a0 a1 = some r) : Ctr E yX5_word cX5_word 3 (some .int) 3 0 0 [vr 0, vi a0, vi a1] (mm I) (some (vi r)) (mm I) := by
  refine Ctr.mk (by decide +kernel) rfl (Nat.le_of_ble_eq_true rfl) fun κ X hR _ => ?_
  have X : Cx E κ cX5_word 3 RX5 (some .int) 3 0 0 := X
  show G E κ 0 0 0 [some (vr 0), some (vi a0), some (vi a1)] [] (mm I)
  unfold f5_word at hf
  refine G_aload_n (x := some (0)) X dX5_word_0 rfl rfl ?_
  refine G_iload_n (x := a0) X dX5_word_1 rfl rfl ?_
  refine G_callV (As := [vi a0]) X (f5_isRow_ok E I a0 _ rfl) cb_X5_45 vi_X5_isRow (ci := 4) rfl rfl (show SH[0]? = some (_, 0) from rfl) rfl rfl (Nat.le_of_ble_eq_true rfl) (by decide) (by decide) rfl (Nat.le_refl _) (Nat.le_refl _) dX5_word_2 ?_
  show G E κ _ _ _ [some (vr 0), some (vi a0), some (vi a1)] [vi (b2i (f5_isRow I a0))] (mm I)
  refine G_if_eq (tgt := 12) X dX5_word_5 (by decide) (fun hc1 => ?_) (fun hc1 => ?_)
  · have hf := (if_neg (b2i_f hc1)).symm.trans hf
    refine G_iconst (v := (-1)) X dX5_word_12 rfl ?_
    obtain rfl := Option.some.inj hf
    exact G_iret X hR rfl rfl dX5_word_13
  · have hf := (if_pos (b2i_t hc1)).symm.trans hf
    refine G_iload_n (x := a1) X dX5_word_8 rfl rfl ?_
    refine G_if_ge (tgt := 14) X dX5_word_9 (by decide) (fun hc2 => ?_) (fun hc2 => ?_)
    · have hf := (if_pos hc2).symm.trans hf
      refine G_aload_n (x := some (0)) X dX5_word_14 rfl rfl ?_
      refine M_getR X fd_X5_11 rfl (show SH[0]? = some (_, 0) from rfl) rfl dX5_word_15 ?_
      refine G_iload_n (x := a0) X dX5_word_18 rfl rfl ?_
      obtain ⟨hc3, hf⟩ := ock hf
      refine M_aald (r := 63 + 2 * a0.toNatClampNeg) X (show SH[1]? = some (12, 8) from rfl) (by decide) hc3 (p_row (ib_lt hc3)) dX5_word_19 ?_
      refine G_iload_n (x := a1) X dX5_word_20 rfl rfl ?_
      obtain ⟨v4, hk4, hf⟩ := obd hf
      refine G_callS (As := [vr (63 + 2 * a0.toNatClampNeg), vi a1]) X (f4_codeOf_ok E I (63 + 2 * a0.toNatClampNeg) (rB_is (ib_lt hc3)) a1 v4 hk4) cb_X5_155 st_X4_codeOf rfl rfl (Nat.le_of_ble_eq_true rfl) (by decide) (by decide) rfl (Nat.le_refl _) (Nat.le_refl _) dX5_word_21 ?_
      show G E κ _ _ _ [some (vr 0), some (vi a0), some (vi a1)] [vi v4] (mm I)
      obtain rfl := Option.some.inj hf
      exact G_iret X hR rfl rfl dX5_word_24
    · have hf := (if_neg hc2).symm.trans hf
      refine G_iconst (v := (-1)) X dX5_word_12 rfl ?_
      obtain rfl := Option.some.inj hf
      exact G_iret X hR rfl rfl dX5_word_13

def f5_bit (I : gI) (a0 : Int32) (a1 : Int32) : Option Int32 := (if (f5_isRow I a0) = true then (f5_isPlace I a0 a1).bind fun v2 => (if v2 = true then if ib a0 8 = true then (f0_valueAt I (63 + 2 * a0.toNatClampNeg) a1).bind fun v5 => some v5 else none else some ((-1))) else some ((-1)))
set_option maxRecDepth 100000 in
set_option maxHeartbeats 4000000 in
theorem f5_bit_ok (E : gEnv) (I : gI) (a0 : Int32) (a1 : Int32) (r : Int32) (hf : f5_bit I a0 a1 = some r) : Ctr E yX5_bit cX5_bit 3 (some .int) 2 0 0 [vr 0, vi a0, vi a1] (mm I) (some (vi r)) (mm I) := by
  refine Ctr.mk (by decide +kernel) rfl (Nat.le_of_ble_eq_true rfl) fun κ X hR _ => ?_
  have X : Cx E κ cX5_bit 3 RX5 (some .int) 2 0 0 := X
  show G E κ 0 0 0 [some (vr 0), some (vi a0), some (vi a1)] [] (mm I)
  unfold f5_bit at hf
  refine G_aload_n (x := some (0)) X dX5_bit_0 rfl rfl ?_
  refine G_iload_n (x := a0) X dX5_bit_1 rfl rfl ?_
  refine G_callV (As := [vi a0]) X (f5_isRow_ok E I a0 _ rfl) cb_X5_45 vi_X5_isRow (ci := 4) rfl rfl (show SH[0]? = some (_, 0) from rfl) rfl rfl (Nat.le_of_ble_eq_true rfl) (by decide) (by decide) rfl (Nat.le_refl _) (Nat.le_refl _) dX5_bit_2 ?_
  show G E κ _ _ _ [some (vr 0), some (vi a0), some (vi a1)] [vi (b2i (f5_isRow I a0))] (mm I)
  refine G_if_eq (tgt := 17) X dX5_bit_5 (by decide) (fun hc1 => ?_) (fun hc1 => ?_)
  · have hf := (if_neg (b2i_f hc1)).symm.trans hf
    refine G_iconst (v := (-1)) X dX5_bit_17 rfl ?_
    obtain rfl := Option.some.inj hf
    exact G_iret X hR rfl rfl dX5_bit_18
  · have hf := (if_pos (b2i_t hc1)).symm.trans hf
    refine G_aload_n (x := some (0)) X dX5_bit_8 rfl rfl ?_
    refine G_iload_n (x := a0) X dX5_bit_9 rfl rfl ?_
    refine G_iload_n (x := a1) X dX5_bit_10 rfl rfl ?_
    obtain ⟨v2, hk2, hf⟩ := obd hf
    refine G_callV (As := [vi a0, vi a1]) X (f5_isPlace_ok E I a0 a1 v2 hk2) cb_X5_73 vi_X5_isPlace (ci := 4) rfl rfl (show SH[0]? = some (_, 0) from rfl) rfl rfl (Nat.le_of_ble_eq_true rfl) (by decide) (by decide) rfl (Nat.le_refl _) (Nat.le_refl _) dX5_bit_11 ?_
    show G E κ _ _ _ [some (vr 0), some (vi a0), some (vi a1)] [vi (b2i v2)] (mm I)
    refine G_if_ne (tgt := 19) X dX5_bit_14 (by decide) (fun hc3 => ?_) (fun hc3 => ?_)
    · have hf := (if_pos (b2i_t hc3)).symm.trans hf
      refine G_aload_n (x := some (0)) X dX5_bit_19 rfl rfl ?_
      refine M_getR X fd_X5_11 rfl (show SH[0]? = some (_, 0) from rfl) rfl dX5_bit_20 ?_
      refine G_iload_n (x := a0) X dX5_bit_23 rfl rfl ?_
      obtain ⟨hc4, hf⟩ := ock hf
      refine M_aald (r := 63 + 2 * a0.toNatClampNeg) X (show SH[1]? = some (12, 8) from rfl) (by decide) hc4 (p_row (ib_lt hc4)) dX5_bit_24 ?_
      refine G_iload_n (x := a1) X dX5_bit_25 rfl rfl ?_
      obtain ⟨v5, hk5, hf⟩ := obd hf
      refine G_callV (As := [vi a1]) X (f0_valueAt_ok E I (63 + 2 * a0.toNatClampNeg) (rB_is (ib_lt hc4)) a1 v5 hk5) cb_X5_77 vi_X0_valueAt (ci := 0) rfl rfl (show SH[63 + 2 * a0.toNatClampNeg]? = some (_, 0) from (rB_is (ib_lt hc4)).1) rfl rfl (Nat.le_of_ble_eq_true rfl) (by decide) (by decide) rfl (Nat.le_refl _) (Nat.le_refl _) dX5_bit_26 ?_
      show G E κ _ _ _ [some (vr 0), some (vi a0), some (vi a1)] [vi v5] (mm I)
      obtain rfl := Option.some.inj hf
      exact G_iret X hR rfl rfl dX5_bit_29
    · have hf := (if_neg (b2i_f hc3)).symm.trans hf
      refine G_iconst (v := (-1)) X dX5_bit_17 rfl ?_
      obtain rfl := Option.some.inj hf
      exact G_iret X hR rfl rfl dX5_bit_18

def f5_rank (I : gI) (a0 : Int32) (a1 : Int32) : Option Int32 := (if (f5_isRow I a0) = true then if ib a0 8 = true then (if (f5_isWithin a1 0 (I (63 + 2 * a0.toNatClampNeg) 1)) = true then if ib a0 8 = true then (f0_onesBefore I (63 + 2 * a0.toNatClampNeg) a1).bind fun v5 => some v5 else none else some ((-1))) else none else some ((-1)))
set_option maxRecDepth 100000 in
set_option maxHeartbeats 4000000 in
theorem f5_rank_ok (E : gEnv) (I : gI) (a0 : Int32) (a1 : Int32) (r : Int32) (hf : f5_rank I a0 a1 = some r) : Ctr E yX5_rank cX5_rank 3 (some .int) 3 0 0 [vr 0, vi a0, vi a1] (mm I) (some (vi r)) (mm I) := by
  refine Ctr.mk (by decide +kernel) rfl (Nat.le_of_ble_eq_true rfl) fun κ X hR _ => ?_
  have X : Cx E κ cX5_rank 3 RX5 (some .int) 3 0 0 := X
  show G E κ 0 0 0 [some (vr 0), some (vi a0), some (vi a1)] [] (mm I)
  unfold f5_rank at hf
  refine G_aload_n (x := some (0)) X dX5_rank_0 rfl rfl ?_
  refine G_iload_n (x := a0) X dX5_rank_1 rfl rfl ?_
  refine G_callV (As := [vi a0]) X (f5_isRow_ok E I a0 _ rfl) cb_X5_45 vi_X5_isRow (ci := 4) rfl rfl (show SH[0]? = some (_, 0) from rfl) rfl rfl (Nat.le_of_ble_eq_true rfl) (by decide) (by decide) rfl (Nat.le_refl _) (Nat.le_refl _) dX5_rank_2 ?_
  show G E κ _ _ _ [some (vr 0), some (vi a0), some (vi a1)] [vi (b2i (f5_isRow I a0))] (mm I)
  refine G_if_eq (tgt := 25) X dX5_rank_5 (by decide) (fun hc1 => ?_) (fun hc1 => ?_)
  · have hf := (if_neg (b2i_f hc1)).symm.trans hf
    refine G_iconst (v := (-1)) X dX5_rank_25 rfl ?_
    obtain rfl := Option.some.inj hf
    exact G_iret X hR rfl rfl dX5_rank_26
  · have hf := (if_pos (b2i_t hc1)).symm.trans hf
    refine G_iload_n (x := a1) X dX5_rank_8 rfl rfl ?_
    refine G_iconst (v := 0) X dX5_rank_9 rfl ?_
    refine G_aload_n (x := some (0)) X dX5_rank_10 rfl rfl ?_
    refine M_getR X fd_X5_11 rfl (show SH[0]? = some (_, 0) from rfl) rfl dX5_rank_11 ?_
    refine G_iload_n (x := a0) X dX5_rank_14 rfl rfl ?_
    obtain ⟨hc2, hf⟩ := ock hf
    refine M_aald (r := 63 + 2 * a0.toNatClampNeg) X (show SH[1]? = some (12, 8) from rfl) (by decide) hc2 (p_row (ib_lt hc2)) dX5_rank_15 ?_
    refine M_getI X fd_X5_56 rfl (show SH[63 + 2 * a0.toNatClampNeg]? = some (_, 0) from (rB_is (ib_lt hc2)).1) dX5_rank_16 ?_
    refine G_callS (As := [vi a1, vi 0, vi (I (63 + 2 * a0.toNatClampNeg) 1)]) X (f5_isWithin_ok E I a1 0 (I (63 + 2 * a0.toNatClampNeg) 1) _ rfl) cb_X5_52 st_X5_isWithin rfl rfl (Nat.le_of_ble_eq_true rfl) (by decide) (by decide) rfl (Nat.le_refl _) (Nat.le_refl _) dX5_rank_19 ?_
    show G E κ _ _ _ [some (vr 0), some (vi a0), some (vi a1)] [vi (b2i (f5_isWithin a1 0 (I (63 + 2 * a0.toNatClampNeg) 1)))] (mm I)
    refine G_if_ne (tgt := 27) X dX5_rank_22 (by decide) (fun hc3 => ?_) (fun hc3 => ?_)
    · have hf := (if_pos (b2i_t hc3)).symm.trans hf
      refine G_aload_n (x := some (0)) X dX5_rank_27 rfl rfl ?_
      refine M_getR X fd_X5_11 rfl (show SH[0]? = some (_, 0) from rfl) rfl dX5_rank_28 ?_
      refine G_iload_n (x := a0) X dX5_rank_31 rfl rfl ?_
      obtain ⟨hc4, hf⟩ := ock hf
      refine M_aald (r := 63 + 2 * a0.toNatClampNeg) X (show SH[1]? = some (12, 8) from rfl) (by decide) hc4 (p_row (ib_lt hc4)) dX5_rank_32 ?_
      refine G_iload_n (x := a1) X dX5_rank_33 rfl rfl ?_
      obtain ⟨v5, hk5, hf⟩ := obd hf
      refine G_callV (As := [vi a1]) X (f0_onesBefore_ok E I (63 + 2 * a0.toNatClampNeg) (rB_is (ib_lt hc4)) a1 v5 hk5) cb_X5_158 vi_X0_onesBefore (ci := 0) rfl rfl (show SH[63 + 2 * a0.toNatClampNeg]? = some (_, 0) from (rB_is (ib_lt hc4)).1) rfl rfl (Nat.le_of_ble_eq_true rfl) (by decide) (by decide) rfl (Nat.le_refl _) (Nat.le_refl _) dX5_rank_34 ?_
      show G E κ _ _ _ [some (vr 0), some (vi a0), some (vi a1)] [vi v5] (mm I)
      obtain rfl := Option.some.inj hf
      exact G_iret X hR rfl rfl dX5_rank_37
    · have hf := (if_neg (b2i_f hc3)).symm.trans hf
      refine G_iconst (v := (-1)) X dX5_rank_25 rfl ?_
      obtain rfl := Option.some.inj hf
      exact G_iret X hR rfl rfl dX5_rank_26

def f5_select (I : gI) (a0 : Int32) (a1 : Int32) : Option Int32 := (if (f5_isRow I a0) = true then (if 0 ≤ a1 then if ib a0 8 = true then (f0_placeOfOne I (63 + 2 * a0.toNatClampNeg) a1).bind fun v4 => some v4 else none else some ((-1))) else some ((-1)))
set_option maxRecDepth 100000 in
set_option maxHeartbeats 4000000 in
theorem f5_select_ok (E : gEnv) (I : gI) (a0 : Int32) (a1 : Int32) (r : Int32) (hf : f5_select I a0 a1 = some r) : Ctr E yX5_select cX5_select 3 (some .int) 2 0 0 [vr 0, vi a0, vi a1] (mm I) (some (vi r)) (mm I) := by
  refine Ctr.mk (by decide +kernel) rfl (Nat.le_of_ble_eq_true rfl) fun κ X hR _ => ?_
  have X : Cx E κ cX5_select 3 RX5 (some .int) 2 0 0 := X
  show G E κ 0 0 0 [some (vr 0), some (vi a0), some (vi a1)] [] (mm I)
  unfold f5_select at hf
  refine G_aload_n (x := some (0)) X dX5_select_0 rfl rfl ?_
  refine G_iload_n (x := a0) X dX5_select_1 rfl rfl ?_
  refine G_callV (As := [vi a0]) X (f5_isRow_ok E I a0 _ rfl) cb_X5_45 vi_X5_isRow (ci := 4) rfl rfl (show SH[0]? = some (_, 0) from rfl) rfl rfl (Nat.le_of_ble_eq_true rfl) (by decide) (by decide) rfl (Nat.le_refl _) (Nat.le_refl _) dX5_select_2 ?_
  show G E κ _ _ _ [some (vr 0), some (vi a0), some (vi a1)] [vi (b2i (f5_isRow I a0))] (mm I)
  refine G_if_eq (tgt := 12) X dX5_select_5 (by decide) (fun hc1 => ?_) (fun hc1 => ?_)
  · have hf := (if_neg (b2i_f hc1)).symm.trans hf
    refine G_iconst (v := (-1)) X dX5_select_12 rfl ?_
    obtain rfl := Option.some.inj hf
    exact G_iret X hR rfl rfl dX5_select_13
  · have hf := (if_pos (b2i_t hc1)).symm.trans hf
    refine G_iload_n (x := a1) X dX5_select_8 rfl rfl ?_
    refine G_if_ge (tgt := 14) X dX5_select_9 (by decide) (fun hc2 => ?_) (fun hc2 => ?_)
    · have hf := (if_pos hc2).symm.trans hf
      refine G_aload_n (x := some (0)) X dX5_select_14 rfl rfl ?_
      refine M_getR X fd_X5_11 rfl (show SH[0]? = some (_, 0) from rfl) rfl dX5_select_15 ?_
      refine G_iload_n (x := a0) X dX5_select_18 rfl rfl ?_
      obtain ⟨hc3, hf⟩ := ock hf
      refine M_aald (r := 63 + 2 * a0.toNatClampNeg) X (show SH[1]? = some (12, 8) from rfl) (by decide) hc3 (p_row (ib_lt hc3)) dX5_select_19 ?_
      refine G_iload_n (x := a1) X dX5_select_20 rfl rfl ?_
      obtain ⟨v4, hk4, hf⟩ := obd hf
      refine G_callV (As := [vi a1]) X (f0_placeOfOne_ok E I (63 + 2 * a0.toNatClampNeg) (rB_is (ib_lt hc3)) a1 v4 hk4) cb_X5_161 vi_X0_placeOfOne (ci := 0) rfl rfl (show SH[63 + 2 * a0.toNatClampNeg]? = some (_, 0) from (rB_is (ib_lt hc3)).1) rfl rfl (Nat.le_of_ble_eq_true rfl) (by decide) (by decide) rfl (Nat.le_refl _) (Nat.le_refl _) dX5_select_21 ?_
      show G E κ _ _ _ [some (vr 0), some (vi a0), some (vi a1)] [vi v4] (mm I)
      obtain rfl := Option.some.inj hf
      exact G_iret X hR rfl rfl dX5_select_24
    · have hf := (if_neg hc2).symm.trans hf
      refine G_iconst (v := (-1)) X dX5_select_12 rfl ?_
      obtain rfl := Option.some.inj hf
      exact G_iret X hR rfl rfl dX5_select_13

def f5_would (I : gI) (a0 : Int32) (a1 : Int32) (a2 : Int32) (a3 : Int32) : Option (Int32 × gI) := (if (f5_isOperation a0) = true then (if (f5_isRow I a1) = true then (if (f5_isRow I a2) = true then (if (f5_isWithin a3 0 2) = true then (if a3 = 0 then if ib a1 8 = true then if ib a2 8 = true then (f4_work I (63 + 2 * a1.toNatClampNeg) (63 + 2 * a2.toNatClampNeg)).bind fun v14 => some (v14, I) else none else none else if ib a1 8 = true then if ib a2 8 = true then (f0_combine I 61 a0 (63 + 2 * a1.toNatClampNeg) (63 + 2 * a2.toNatClampNeg)).bind fun I8 => (if a3 = 1 then (f4_size I8 61).bind fun v11 => some (v11, I8) else (f0_ones I8 61).bind fun v10 => some (v10, I8)) else none else none) else some ((-1), I)) else some ((-1), I)) else some ((-1), I)) else some ((-1), I))
set_option maxRecDepth 100000 in
set_option maxHeartbeats 4000000 in
theorem f5_would_ok (E : gEnv) (I : gI) (a0 : Int32) (a1 : Int32) (a2 : Int32) (a3 : Int32) (r : Int32) (I' : gI) (hf : f5_would I a0 a1 a2 a3 = some (r, I')) : Ctr E yX5_would cX5_would 5 (some .int) 4 0 0 [vr 0, vi a0, vi a1, vi a2, vi a3] (mm I) (some (vi r)) (mm I') := by
  refine Ctr.mk (by decide +kernel) rfl (Nat.le_of_ble_eq_true rfl) fun κ X hR _ => ?_
  have X : Cx E κ cX5_would 5 RX5 (some .int) 4 0 0 := X
  show G E κ 0 0 0 [some (vr 0), some (vi a0), some (vi a1), some (vi a2), some (vi a3)] [] (mm I)
  unfold f5_would at hf
  refine G_iload_n (x := a0) X dX5_would_0 rfl rfl ?_
  refine G_callS (As := [vi a0]) X (f5_isOperation_ok E I a0 _ rfl) cb_X5_84 st_X5_isOperation rfl rfl (Nat.le_of_ble_eq_true rfl) (by decide) (by decide) rfl (Nat.le_refl _) (Nat.le_refl _) dX5_would_1 ?_
  show G E κ _ _ _ [some (vr 0), some (vi a0), some (vi a1), some (vi a2), some (vi a3)] [vi (b2i (f5_isOperation a0))] (mm I)
  refine G_if_eq (tgt := 33) X dX5_would_4 (by decide) (fun hc1 => ?_) (fun hc1 => ?_)
  · have hf := (if_neg (b2i_f hc1)).symm.trans hf
    refine G_iconst (v := (-1)) X dX5_would_33 rfl ?_
    obtain ⟨rfl, rfl⟩ := Prod.mk.inj (Option.some.inj hf)
    exact G_iret X hR rfl rfl dX5_would_34
  · have hf := (if_pos (b2i_t hc1)).symm.trans hf
    refine G_aload_n (x := some (0)) X dX5_would_7 rfl rfl ?_
    refine G_iload_n (x := a1) X dX5_would_8 rfl rfl ?_
    refine G_callV (As := [vi a1]) X (f5_isRow_ok E I a1 _ rfl) cb_X5_45 vi_X5_isRow (ci := 4) rfl rfl (show SH[0]? = some (_, 0) from rfl) rfl rfl (Nat.le_of_ble_eq_true rfl) (by decide) (by decide) rfl (Nat.le_refl _) (Nat.le_refl _) dX5_would_9 ?_
    show G E κ _ _ _ [some (vr 0), some (vi a0), some (vi a1), some (vi a2), some (vi a3)] [vi (b2i (f5_isRow I a1))] (mm I)
    refine G_if_eq (tgt := 33) X dX5_would_12 (by decide) (fun hc2 => ?_) (fun hc2 => ?_)
    · have hf := (if_neg (b2i_f hc2)).symm.trans hf
      refine G_iconst (v := (-1)) X dX5_would_33 rfl ?_
      obtain ⟨rfl, rfl⟩ := Prod.mk.inj (Option.some.inj hf)
      exact G_iret X hR rfl rfl dX5_would_34
    · have hf := (if_pos (b2i_t hc2)).symm.trans hf
      refine G_aload_n (x := some (0)) X dX5_would_15 rfl rfl ?_
      refine G_iload_n (x := a2) X dX5_would_16 rfl rfl ?_
      refine G_callV (As := [vi a2]) X (f5_isRow_ok E I a2 _ rfl) cb_X5_45 vi_X5_isRow (ci := 4) rfl rfl (show SH[0]? = some (_, 0) from rfl) rfl rfl (Nat.le_of_ble_eq_true rfl) (by decide) (by decide) rfl (Nat.le_refl _) (Nat.le_refl _) dX5_would_17 ?_
      show G E κ _ _ _ [some (vr 0), some (vi a0), some (vi a1), some (vi a2), some (vi a3)] [vi (b2i (f5_isRow I a2))] (mm I)
      refine G_if_eq (tgt := 33) X dX5_would_20 (by decide) (fun hc3 => ?_) (fun hc3 => ?_)
      · have hf := (if_neg (b2i_f hc3)).symm.trans hf
        refine G_iconst (v := (-1)) X dX5_would_33 rfl ?_
        obtain ⟨rfl, rfl⟩ := Prod.mk.inj (Option.some.inj hf)
        exact G_iret X hR rfl rfl dX5_would_34
      · have hf := (if_pos (b2i_t hc3)).symm.trans hf
        refine G_iload (x := a3) X dX5_would_23 rfl ?_
        refine G_iconst (v := 0) X dX5_would_25 rfl ?_
        refine G_iconst (v := 2) X dX5_would_26 rfl ?_
        refine G_callS (As := [vi a3, vi 0, vi 2]) X (f5_isWithin_ok E I a3 0 2 _ rfl) cb_X5_52 st_X5_isWithin rfl rfl (Nat.le_of_ble_eq_true rfl) (by decide) (by decide) rfl (Nat.le_refl _) (Nat.le_refl _) dX5_would_27 ?_
        show G E κ _ _ _ [some (vr 0), some (vi a0), some (vi a1), some (vi a2), some (vi a3)] [vi (b2i (f5_isWithin a3 0 2))] (mm I)
        refine G_if_ne (tgt := 35) X dX5_would_30 (by decide) (fun hc4 => ?_) (fun hc4 => ?_)
        · have hf := (if_pos (b2i_t hc4)).symm.trans hf
          refine G_iload (x := a3) X dX5_would_35 rfl ?_
          refine G_if_ne (tgt := 56) X dX5_would_37 (by decide) (fun hc5 => ?_) (fun hc5 => ?_)
          · have hf := (if_neg hc5).symm.trans hf
            refine G_aload_n (x := some (0)) X dX5_would_56 rfl rfl ?_
            refine M_getR X fd_X5_30 rfl (show SH[0]? = some (_, 0) from rfl) rfl dX5_would_57 ?_
            refine G_iload_n (x := a0) X dX5_would_60 rfl rfl ?_
            refine G_aload_n (x := some (0)) X dX5_would_61 rfl rfl ?_
            refine M_getR X fd_X5_11 rfl (show SH[0]? = some (_, 0) from rfl) rfl dX5_would_62 ?_
            refine G_iload_n (x := a1) X dX5_would_65 rfl rfl ?_
            obtain ⟨hc6, hf⟩ := ock hf
            refine M_aald (r := 63 + 2 * a1.toNatClampNeg) X (show SH[1]? = some (12, 8) from rfl) (by decide) hc6 (p_row (ib_lt hc6)) dX5_would_66 ?_
            refine G_aload_n (x := some (0)) X dX5_would_67 rfl rfl ?_
            refine M_getR X fd_X5_11 rfl (show SH[0]? = some (_, 0) from rfl) rfl dX5_would_68 ?_
            refine G_iload_n (x := a2) X dX5_would_71 rfl rfl ?_
            obtain ⟨hc7, hf⟩ := ock hf
            refine M_aald (r := 63 + 2 * a2.toNatClampNeg) X (show SH[1]? = some (12, 8) from rfl) (by decide) hc7 (p_row (ib_lt hc7)) dX5_would_72 ?_
            obtain ⟨I8, hk8, hf⟩ := obd hf
            refine G_callV (As := [vi a0, vr (63 + 2 * a1.toNatClampNeg), vr (63 + 2 * a2.toNatClampNeg)]) X (f0_combine_ok E I 61 sB_is a0 (63 + 2 * a1.toNatClampNeg) (rB_is (ib_lt hc6)) (63 + 2 * a2.toNatClampNeg) (rB_is (ib_lt hc7)) I8 hk8) cb_X5_91 vi_X0_combine (ci := 0) rfl rfl (show SH[61]? = some (_, 0) from sB_is.1) rfl rfl (Nat.le_of_ble_eq_true rfl) (by decide) (by decide) rfl (Nat.le_refl _) (Nat.le_refl _) dX5_would_73 ?_
            show G E κ _ _ _ [some (vr 0), some (vi a0), some (vi a1), some (vi a2), some (vi a3)] [] (mm I8)
            refine G_iload (x := a3) X dX5_would_76 rfl ?_
            refine G_iconst (v := 1) X dX5_would_78 rfl ?_
            refine G_icmp_ne (tgt := 92) X dX5_would_79 (by decide) (fun hc9 => ?_) (fun hc9 => ?_)
            · have hf := (if_neg hc9).symm.trans hf
              refine G_aload_n (x := some (0)) X dX5_would_92 rfl rfl ?_
              refine M_getR X fd_X5_30 rfl (show SH[0]? = some (_, 0) from rfl) rfl dX5_would_93 ?_
              obtain ⟨v10, hk10, hf⟩ := obd hf
              refine G_callV (As := []) X (f0_ones_ok E I8 61 sB_is v10 hk10) cb_X5_98 vi_X0_ones (ci := 0) rfl rfl (show SH[61]? = some (_, 0) from sB_is.1) rfl rfl (Nat.le_of_ble_eq_true rfl) (by decide) (by decide) rfl (Nat.le_refl _) (Nat.le_refl _) dX5_would_96 ?_
              show G E κ _ _ _ [some (vr 0), some (vi a0), some (vi a1), some (vi a2), some (vi a3)] [vi v10] (mm I8)
              obtain ⟨rfl, rfl⟩ := Prod.mk.inj (Option.some.inj hf)
              exact G_iret X hR rfl rfl dX5_would_99
            · have hf := (if_pos hc9).symm.trans hf
              refine G_aload_n (x := some (0)) X dX5_would_82 rfl rfl ?_
              refine M_getR X fd_X5_30 rfl (show SH[0]? = some (_, 0) from rfl) rfl dX5_would_83 ?_
              obtain ⟨v11, hk11, hf⟩ := obd hf
              refine G_callS (As := [vr 61]) X (f4_size_ok E I8 61 sB_is v11 hk11) cb_X5_67 st_X4_size rfl rfl (Nat.le_of_ble_eq_true rfl) (by decide) (by decide) rfl (Nat.le_refl _) (Nat.le_refl _) dX5_would_86 ?_
              show G E κ _ _ _ [some (vr 0), some (vi a0), some (vi a1), some (vi a2), some (vi a3)] [vi v11] (mm I8)
              refine G_goto (tgt := 99) X dX5_would_89 (by decide) ?_
              obtain ⟨rfl, rfl⟩ := Prod.mk.inj (Option.some.inj hf)
              exact G_iret X hR rfl rfl dX5_would_99
          · have hf := (if_pos hc5).symm.trans hf
            refine G_aload_n (x := some (0)) X dX5_would_40 rfl rfl ?_
            refine M_getR X fd_X5_11 rfl (show SH[0]? = some (_, 0) from rfl) rfl dX5_would_41 ?_
            refine G_iload_n (x := a1) X dX5_would_44 rfl rfl ?_
            obtain ⟨hc12, hf⟩ := ock hf
            refine M_aald (r := 63 + 2 * a1.toNatClampNeg) X (show SH[1]? = some (12, 8) from rfl) (by decide) hc12 (p_row (ib_lt hc12)) dX5_would_45 ?_
            refine G_aload_n (x := some (0)) X dX5_would_46 rfl rfl ?_
            refine M_getR X fd_X5_11 rfl (show SH[0]? = some (_, 0) from rfl) rfl dX5_would_47 ?_
            refine G_iload_n (x := a2) X dX5_would_50 rfl rfl ?_
            obtain ⟨hc13, hf⟩ := ock hf
            refine M_aald (r := 63 + 2 * a2.toNatClampNeg) X (show SH[1]? = some (12, 8) from rfl) (by decide) hc13 (p_row (ib_lt hc13)) dX5_would_51 ?_
            obtain ⟨v14, hk14, hf⟩ := obd hf
            refine G_callS (As := [vr (63 + 2 * a1.toNatClampNeg), vr (63 + 2 * a2.toNatClampNeg)]) X (f4_work_ok E I (63 + 2 * a1.toNatClampNeg) (rB_is (ib_lt hc12)) (63 + 2 * a2.toNatClampNeg) (rB_is (ib_lt hc13)) v14 hk14) cb_X5_87 st_X4_work rfl rfl (Nat.le_of_ble_eq_true rfl) (by decide) (by decide) rfl (Nat.le_refl _) (Nat.le_refl _) dX5_would_52 ?_
            show G E κ _ _ _ [some (vr 0), some (vi a0), some (vi a1), some (vi a2), some (vi a3)] [vi v14] (mm I)
            obtain ⟨rfl, rfl⟩ := Prod.mk.inj (Option.some.inj hf)
            exact G_iret X hR rfl rfl dX5_would_55
        · have hf := (if_neg (b2i_f hc4)).symm.trans hf
          refine G_iconst (v := (-1)) X dX5_would_33 rfl ?_
          obtain ⟨rfl, rfl⟩ := Prod.mk.inj (Option.some.inj hf)
          exact G_iret X hR rfl rfl dX5_would_34

def f5_same_L12 : Nat → gI → Int32 → Int32 → Option Int32
  | 0, _, _, _ => none
  | k + 1, I, x1, x2 => (if x1 ≤ x2 then some x1 else if ib x2 8 = true then if ib x1 8 = true then (f0_matches I (63 + 2 * x2.toNatClampNeg) (63 + 2 * x1.toNatClampNeg)).bind fun v5 => (if v5 = true then some x2 else f5_same_L12 k I x1 (x2 + 1)) else none else none)
set_option maxRecDepth 100000 in
set_option maxHeartbeats 4000000 in
theorem f5_same_L12_ok {E : gEnv} {κ : gCtx} (X : Cx E κ cX5_same 3 RX5 (some .int) 2 0 0) : ∀ (k : Nat) (I : gI) (x1 : Int32) (x2 : Int32) (r : Int32) (hR : gRt E κ 0 0 (some (vi r)) (mm I)) (hf : f5_same_L12 k I x1 x2 = some r), G E κ 0 0 12 [some (vr 0), some (vi x1), some (vi x2)] [] (mm I) := by
  intro k
  induction k with
  | zero =>
    intros
    rename_i hf
    cases hf
  | succ k ih =>
    intro I x1 x2 r hR hf
    refine G_iload_n (x := x2) X dX5_same_12 rfl rfl ?_
    refine G_iload_n (x := x1) X dX5_same_13 rfl rfl ?_
    refine G_icmp_ge (tgt := 43) X dX5_same_14 (by decide) (fun hc2 => ?_) (fun hc2 => ?_)
    · have hf := (if_pos hc2).symm.trans hf
      refine G_iload_n (x := x1) X dX5_same_43 rfl rfl ?_
      obtain rfl := Option.some.inj hf
      exact G_iret X hR rfl rfl dX5_same_44
    · have hf := (if_neg hc2).symm.trans hf
      refine G_aload_n (x := some (0)) X dX5_same_17 rfl rfl ?_
      refine M_getR X fd_X5_11 rfl (show SH[0]? = some (_, 0) from rfl) rfl dX5_same_18 ?_
      refine G_iload_n (x := x2) X dX5_same_21 rfl rfl ?_
      obtain ⟨hc3, hf⟩ := ock hf
      refine M_aald (r := 63 + 2 * x2.toNatClampNeg) X (show SH[1]? = some (12, 8) from rfl) (by decide) hc3 (p_row (ib_lt hc3)) dX5_same_22 ?_
      refine G_aload_n (x := some (0)) X dX5_same_23 rfl rfl ?_
      refine M_getR X fd_X5_11 rfl (show SH[0]? = some (_, 0) from rfl) rfl dX5_same_24 ?_
      refine G_iload_n (x := x1) X dX5_same_27 rfl rfl ?_
      obtain ⟨hc4, hf⟩ := ock hf
      refine M_aald (r := 63 + 2 * x1.toNatClampNeg) X (show SH[1]? = some (12, 8) from rfl) (by decide) hc4 (p_row (ib_lt hc4)) dX5_same_28 ?_
      obtain ⟨v5, hk5, hf⟩ := obd hf
      refine G_callV (As := [vr (63 + 2 * x1.toNatClampNeg)]) X (f0_matches_ok E I (63 + 2 * x2.toNatClampNeg) (rB_is (ib_lt hc3)) (63 + 2 * x1.toNatClampNeg) (rB_is (ib_lt hc4)) v5 hk5) cb_X5_164 vi_X0_matches (ci := 0) rfl rfl (show SH[63 + 2 * x2.toNatClampNeg]? = some (_, 0) from (rB_is (ib_lt hc3)).1) rfl rfl (Nat.le_of_ble_eq_true rfl) (by decide) (by decide) rfl (Nat.le_refl _) (Nat.le_refl _) dX5_same_29 ?_
      show G E κ _ _ _ [some (vr 0), some (vi x1), some (vi x2)] [vi (b2i v5)] (mm I)
      refine G_if_eq (tgt := 37) X dX5_same_32 (by decide) (fun hc6 => ?_) (fun hc6 => ?_)
      · have hf := (if_neg (b2i_f hc6)).symm.trans hf
        refine G_iinc (x := x2) (v := 1) X dX5_same_37 rfl rfl rfl (ls' := [some (vr 0), some (vi x1), some (vi (x2 + 1))]) rfl ?_
        refine G_goto (tgt := 12) X dX5_same_40 (by decide) ?_
        exact ih I x1 (x2 + 1) _ hR hf
      · have hf := (if_pos (b2i_t hc6)).symm.trans hf
        refine G_iload_n (x := x2) X dX5_same_35 rfl rfl ?_
        obtain rfl := Option.some.inj hf
        exact G_iret X hR rfl rfl dX5_same_36

def f5_same (I : gI) (a0 : Int32) : Option Int32 := (if (f5_isRow I a0) = true then f5_same_L12 FU I a0 0 else some ((-1)))
set_option maxRecDepth 100000 in
set_option maxHeartbeats 4000000 in
theorem f5_same_ok (E : gEnv) (I : gI) (a0 : Int32) (r : Int32) (hf : f5_same I a0 = some r) : Ctr E yX5_same cX5_same 3 (some .int) 2 0 0 [vr 0, vi a0] (mm I) (some (vi r)) (mm I) := by
  refine Ctr.mk (by decide +kernel) rfl (Nat.le_of_ble_eq_true rfl) fun κ X hR _ => ?_
  have X : Cx E κ cX5_same 3 RX5 (some .int) 2 0 0 := X
  show G E κ 0 0 0 [some (vr 0), some (vi a0), none] [] (mm I)
  unfold f5_same at hf
  refine G_aload_n (x := some (0)) X dX5_same_0 rfl rfl ?_
  refine G_iload_n (x := a0) X dX5_same_1 rfl rfl ?_
  refine G_callV (As := [vi a0]) X (f5_isRow_ok E I a0 _ rfl) cb_X5_45 vi_X5_isRow (ci := 4) rfl rfl (show SH[0]? = some (_, 0) from rfl) rfl rfl (Nat.le_of_ble_eq_true rfl) (by decide) (by decide) rfl (Nat.le_refl _) (Nat.le_refl _) dX5_same_2 ?_
  show G E κ _ _ _ [some (vr 0), some (vi a0), none] [vi (b2i (f5_isRow I a0))] (mm I)
  refine G_if_ne (tgt := 10) X dX5_same_5 (by decide) (fun hc1 => ?_) (fun hc1 => ?_)
  · have hf := (if_pos (b2i_t hc1)).symm.trans hf
    refine G_iconst (v := 0) X dX5_same_10 rfl ?_
    refine G_istore_n X dX5_same_11 rfl rfl (ls' := [some (vr 0), some (vi a0), some (vi 0)]) rfl ?_
    exact f5_same_L12_ok X FU I a0 0 _ hR hf
  · have hf := (if_neg (b2i_f hc1)).symm.trans hf
    refine G_iconst (v := (-1)) X dX5_same_8 rfl ?_
    obtain rfl := Option.some.inj hf
    exact G_iret X hR rfl rfl dX5_same_9

def f5_bestShift_L25 : Nat → gI → Int32 → Int32 → Int32 → Int32 → Option (Int32 × gI)
  | 0, _, _, _, _, _ => none
  | k + 1, I, x1, x2, x3, x4 => (if 15 ≤ x4 then some (x2, I) else if ib x1 8 = true then (f0_moveFrom I 61 (63 + 2 * x1.toNatClampNeg) x4).bind fun I6 => (f4_size I6 61).bind fun v7 => (if x3 ≤ v7 then f5_bestShift_L25 k I6 x1 x2 x3 (x4 + 1) else f5_bestShift_L25 k I6 x1 x4 v7 (x4 + 1)) else none)
set_option maxRecDepth 100000 in
set_option maxHeartbeats 4000000 in
theorem f5_bestShift_L25_ok {E : gEnv} {κ : gCtx} (X : Cx E κ cX5_bestShift 6 RX5 (some .int) 4 0 0) : ∀ (k : Nat) (I : gI) (x1 : Int32) (x2 : Int32) (x3 : Int32) (x4 : Int32) (r : Int32) (I' : gI) (hR : gRt E κ 0 0 (some (vi r)) (mm I')) (hf : f5_bestShift_L25 k I x1 x2 x3 x4 = some (r, I')), G E κ 0 0 25 [some (vr 0), some (vi x1), some (vi x2), some (vi x3), some (vi x4), none] [] (mm I) := by
  intro k
  induction k with
  | zero =>
    intros
    rename_i hf
    cases hf
  | succ k ih =>
    intro I x1 x2 x3 x4 r I' hR hf
    refine G_iload (x := x4) X dX5_bestShift_25 rfl ?_
    refine G_bipush (v := 15) X dX5_bestShift_27 rfl ?_
    refine G_icmp_ge (tgt := 74) X dX5_bestShift_29 (by decide) (fun hc4 => ?_) (fun hc4 => ?_)
    · have hf := (if_pos hc4).symm.trans hf
      refine G_iload_n (x := x2) X dX5_bestShift_74 rfl rfl ?_
      obtain ⟨rfl, rfl⟩ := Prod.mk.inj (Option.some.inj hf)
      exact G_iret X hR rfl rfl dX5_bestShift_75
    · have hf := (if_neg hc4).symm.trans hf
      refine G_aload_n (x := some (0)) X dX5_bestShift_32 rfl rfl ?_
      refine M_getR X fd_X5_30 rfl (show SH[0]? = some (_, 0) from rfl) rfl dX5_bestShift_33 ?_
      refine G_aload_n (x := some (0)) X dX5_bestShift_36 rfl rfl ?_
      refine M_getR X fd_X5_11 rfl (show SH[0]? = some (_, 0) from rfl) rfl dX5_bestShift_37 ?_
      refine G_iload_n (x := x1) X dX5_bestShift_40 rfl rfl ?_
      obtain ⟨hc5, hf⟩ := ock hf
      refine M_aald (r := 63 + 2 * x1.toNatClampNeg) X (show SH[1]? = some (12, 8) from rfl) (by decide) hc5 (p_row (ib_lt hc5)) dX5_bestShift_41 ?_
      refine G_iload (x := x4) X dX5_bestShift_42 rfl ?_
      obtain ⟨I6, hk6, hf⟩ := obd hf
      refine G_callV (As := [vr (63 + 2 * x1.toNatClampNeg), vi x4]) X (f0_moveFrom_ok E I 61 sB_is (63 + 2 * x1.toNatClampNeg) (rB_is (ib_lt hc5)) x4 I6 hk6) cb_X5_102 vi_X0_moveFrom (ci := 0) rfl rfl (show SH[61]? = some (_, 0) from sB_is.1) rfl rfl (Nat.le_of_ble_eq_true rfl) (by decide) (by decide) rfl (Nat.le_refl _) (Nat.le_refl _) dX5_bestShift_44 ?_
      show G E κ _ _ _ [some (vr 0), some (vi x1), some (vi x2), some (vi x3), some (vi x4), none] [] (mm I6)
      refine G_aload_n (x := some (0)) X dX5_bestShift_47 rfl rfl ?_
      refine M_getR X fd_X5_30 rfl (show SH[0]? = some (_, 0) from rfl) rfl dX5_bestShift_48 ?_
      obtain ⟨v7, hk7, hf⟩ := obd hf
      refine G_callS (As := [vr 61]) X (f4_size_ok E I6 61 sB_is v7 hk7) cb_X5_67 st_X4_size rfl rfl (Nat.le_of_ble_eq_true rfl) (by decide) (by decide) rfl (Nat.le_refl _) (Nat.le_refl _) dX5_bestShift_51 ?_
      show G E κ _ _ _ [some (vr 0), some (vi x1), some (vi x2), some (vi x3), some (vi x4), none] [vi v7] (mm I6)
      refine G_istore X dX5_bestShift_54 rfl (ls' := [some (vr 0), some (vi x1), some (vi x2), some (vi x3), some (vi x4), some (vi v7)]) rfl ?_
      refine G_iload (x := v7) X dX5_bestShift_56 rfl ?_
      refine G_iload_n (x := x3) X dX5_bestShift_58 rfl rfl ?_
      refine G_icmp_ge (tgt := 68) X dX5_bestShift_59 (by decide) (fun hc8 => ?_) (fun hc8 => ?_)
      · have hf := (if_pos hc8).symm.trans hf
        refine G_iinc (x := x4) (v := 1) X dX5_bestShift_68 rfl rfl rfl (ls' := [some (vr 0), some (vi x1), some (vi x2), some (vi x3), some (vi (x4 + 1)), some (vi v7)]) rfl ?_
        refine G_goto (tgt := 25) X dX5_bestShift_71 (by decide) ?_
        refine G_weakL (ls' := [some (vr 0), some (vi x1), some (vi x2), some (vi x3), some (vi (x4 + 1)), none]) ⟨Or.inr rfl, ⟨Or.inr rfl, ⟨Or.inr rfl, ⟨Or.inr rfl, ⟨Or.inr rfl, ⟨Or.inl rfl, trivial⟩⟩⟩⟩⟩⟩ ?_
        exact ih I6 x1 x2 x3 (x4 + 1) _ _ hR hf
      · have hf := (if_neg hc8).symm.trans hf
        refine G_iload (x := v7) X dX5_bestShift_62 rfl ?_
        refine G_istore_n X dX5_bestShift_64 rfl rfl (ls' := [some (vr 0), some (vi x1), some (vi x2), some (vi v7), some (vi x4), some (vi v7)]) rfl ?_
        refine G_iload (x := x4) X dX5_bestShift_65 rfl ?_
        refine G_istore_n X dX5_bestShift_67 rfl rfl (ls' := [some (vr 0), some (vi x1), some (vi x4), some (vi v7), some (vi x4), some (vi v7)]) rfl ?_
        refine G_iinc (x := x4) (v := 1) X dX5_bestShift_68 rfl rfl rfl (ls' := [some (vr 0), some (vi x1), some (vi x4), some (vi v7), some (vi (x4 + 1)), some (vi v7)]) rfl ?_
        refine G_goto (tgt := 25) X dX5_bestShift_71 (by decide) ?_
        refine G_weakL (ls' := [some (vr 0), some (vi x1), some (vi x4), some (vi v7), some (vi (x4 + 1)), none]) ⟨Or.inr rfl, ⟨Or.inr rfl, ⟨Or.inr rfl, ⟨Or.inr rfl, ⟨Or.inr rfl, ⟨Or.inl rfl, trivial⟩⟩⟩⟩⟩⟩ ?_
        exact ih I6 x1 x4 v7 (x4 + 1) _ _ hR hf

def f5_bestShift (I : gI) (a0 : Int32) : Option (Int32 × gI) := (if (f5_isRow I a0) = true then if ib a0 8 = true then (f4_size I (63 + 2 * a0.toNatClampNeg)).bind fun v3 => f5_bestShift_L25 FU I a0 0 v3 1 else none else some ((-1), I))
set_option maxRecDepth 100000 in
set_option maxHeartbeats 4000000 in
theorem f5_bestShift_ok (E : gEnv) (I : gI) (a0 : Int32) (r : Int32) (I' : gI) (hf : f5_bestShift I a0 = some (r, I')) : Ctr E yX5_bestShift cX5_bestShift 6 (some .int) 4 0 0 [vr 0, vi a0] (mm I) (some (vi r)) (mm I') := by
  refine Ctr.mk (by decide +kernel) rfl (Nat.le_of_ble_eq_true rfl) fun κ X hR _ => ?_
  have X : Cx E κ cX5_bestShift 6 RX5 (some .int) 4 0 0 := X
  show G E κ 0 0 0 [some (vr 0), some (vi a0), none, none, none, none] [] (mm I)
  unfold f5_bestShift at hf
  refine G_aload_n (x := some (0)) X dX5_bestShift_0 rfl rfl ?_
  refine G_iload_n (x := a0) X dX5_bestShift_1 rfl rfl ?_
  refine G_callV (As := [vi a0]) X (f5_isRow_ok E I a0 _ rfl) cb_X5_45 vi_X5_isRow (ci := 4) rfl rfl (show SH[0]? = some (_, 0) from rfl) rfl rfl (Nat.le_of_ble_eq_true rfl) (by decide) (by decide) rfl (Nat.le_refl _) (Nat.le_refl _) dX5_bestShift_2 ?_
  show G E κ _ _ _ [some (vr 0), some (vi a0), none, none, none, none] [vi (b2i (f5_isRow I a0))] (mm I)
  refine G_if_ne (tgt := 10) X dX5_bestShift_5 (by decide) (fun hc1 => ?_) (fun hc1 => ?_)
  · have hf := (if_pos (b2i_t hc1)).symm.trans hf
    refine G_iconst (v := 0) X dX5_bestShift_10 rfl ?_
    refine G_istore_n X dX5_bestShift_11 rfl rfl (ls' := [some (vr 0), some (vi a0), some (vi 0), none, none, none]) rfl ?_
    refine G_aload_n (x := some (0)) X dX5_bestShift_12 rfl rfl ?_
    refine M_getR X fd_X5_11 rfl (show SH[0]? = some (_, 0) from rfl) rfl dX5_bestShift_13 ?_
    refine G_iload_n (x := a0) X dX5_bestShift_16 rfl rfl ?_
    obtain ⟨hc2, hf⟩ := ock hf
    refine M_aald (r := 63 + 2 * a0.toNatClampNeg) X (show SH[1]? = some (12, 8) from rfl) (by decide) hc2 (p_row (ib_lt hc2)) dX5_bestShift_17 ?_
    obtain ⟨v3, hk3, hf⟩ := obd hf
    refine G_callS (As := [vr (63 + 2 * a0.toNatClampNeg)]) X (f4_size_ok E I (63 + 2 * a0.toNatClampNeg) (rB_is (ib_lt hc2)) v3 hk3) cb_X5_67 st_X4_size rfl rfl (Nat.le_of_ble_eq_true rfl) (by decide) (by decide) rfl (Nat.le_refl _) (Nat.le_refl _) dX5_bestShift_18 ?_
    show G E κ _ _ _ [some (vr 0), some (vi a0), some (vi 0), none, none, none] [vi v3] (mm I)
    refine G_istore_n X dX5_bestShift_21 rfl rfl (ls' := [some (vr 0), some (vi a0), some (vi 0), some (vi v3), none, none]) rfl ?_
    refine G_iconst (v := 1) X dX5_bestShift_22 rfl ?_
    refine G_istore X dX5_bestShift_23 rfl (ls' := [some (vr 0), some (vi a0), some (vi 0), some (vi v3), some (vi 1), none]) rfl ?_
    exact f5_bestShift_L25_ok X FU I a0 0 v3 1 _ _ hR hf
  · have hf := (if_neg (b2i_f hc1)).symm.trans hf
    refine G_iconst (v := (-1)) X dX5_bestShift_8 rfl ?_
    obtain ⟨rfl, rfl⟩ := Prod.mk.inj (Option.some.inj hf)
    exact G_iret X hR rfl rfl dX5_bestShift_9

