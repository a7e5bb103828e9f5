def f2_addSign (I : gI) (a0 : Int32) : Option gI := (if 100 ≤ (I 19 1) then some I else if ib (I 19 1) 100 = true then some (uI (uI I 20 (I 19 1).toNatClampNeg (vp_nar .char a0)) 19 1 (((uI I 20 (I 19 1).toNatClampNeg (vp_nar .char a0)) 19 1) + 1)) else none)
set_option maxRecDepth 100000 in
set_option maxHeartbeats 4000000 in
theorem f2_addSign_ok (E : gEnv) (I : gI) (a0 : Int32) (I' : gI) (hf : f2_addSign I a0 = some I') : Ctr E yX2_addSign cX2_addSign 2 none 0 0 0 [vr 19, vi a0] (mm I) (none) (mm I') := by
  refine Ctr.mk (by decide +kernel) rfl (Nat.le_of_ble_eq_true rfl) fun κ X hR _ => ?_
  have X : Cx E κ cX2_addSign 2 RX2 none 0 0 0 := X
  show G E κ 0 0 0 [some (vr 19), some (vi a0)] [] (mm I)
  unfold f2_addSign at hf
  refine G_aload_n (x := some (19)) X dX2_addSign_0 rfl rfl ?_
  refine M_getI X fd_X2_25 rfl (show SH[19]? = some (_, 0) from rfl) dX2_addSign_1 ?_
  refine G_aload_n (x := some (19)) X dX2_addSign_4 rfl rfl ?_
  refine M_getR X fd_X2_9 rfl (show SH[19]? = some (_, 0) from rfl) rfl dX2_addSign_5 ?_
  refine M_alen (v := 100) X (show SH[20]? = some (_, 100) from rfl) (by decide) dX2_addSign_8 rfl ?_
  refine G_icmp_ge (tgt := 32) X dX2_addSign_9 (by decide) (fun hc1 => ?_) (fun hc1 => ?_)
  · have hf := (if_pos hc1).symm.trans hf
    obtain rfl := Option.some.inj hf
    exact G_vret X hR rfl dX2_addSign_32
  · have hf := (if_neg hc1).symm.trans hf
    refine G_aload_n (x := some (19)) X dX2_addSign_12 rfl rfl ?_
    refine M_getR X fd_X2_9 rfl (show SH[19]? = some (_, 0) from rfl) rfl dX2_addSign_13 ?_
    refine G_aload_n (x := some (19)) X dX2_addSign_16 rfl rfl ?_
    refine M_getI X fd_X2_25 rfl (show SH[19]? = some (_, 0) from rfl) dX2_addSign_17 ?_
    refine G_iload_n (x := a0) X dX2_addSign_20 rfl rfl ?_
    obtain ⟨hc2, hf⟩ := ock hf
    refine M_cast X (show SH[20]? = some (_, 100) from rfl) hc2 dX2_addSign_21 ?_
    refine G_aload_n (x := some (19)) X dX2_addSign_22 rfl rfl ?_
    refine G_dup X rfl dX2_addSign_23 ?_
    refine M_getI X fd_X2_25 rfl (show SH[19]? = some (_, 0) from rfl) dX2_addSign_24 ?_
    refine G_iconst (v := 1) X dX2_addSign_27 rfl ?_
    refine G_iadd X dX2_addSign_28 ?_
    refine M_putI X fd_X2_25 rfl (show SH[19]? = some (_, 0) from rfl) rfl rfl dX2_addSign_29 ?_
    obtain rfl := Option.some.inj hf
    exact G_vret X hR rfl dX2_addSign_32

def f2_result (I : gI)  : Option Nat := some (23 + 2 * 0)
set_option maxRecDepth 100000 in
set_option maxHeartbeats 4000000 in
theorem f2_result_ok (E : gEnv) (I : gI)  (r : Nat) (hf : f2_result I  = some r) : Ctr E yX2_result cX2_result 1 (some (.object "PackedBits$Bits")) 0 0 0 [vr 19] (mm I) (some (vr r)) (mm I) := by
  refine Ctr.mk (by decide +kernel) rfl (Nat.le_of_ble_eq_true rfl) fun κ X hR _ => ?_
  have X : Cx E κ cX2_result 1 RX2 (some (.object "PackedBits$Bits")) 0 0 0 := X
  show G E κ 0 0 0 [some (vr 19)] [] (mm I)
  unfold f2_result at hf
  refine G_aload_n (x := some (19)) X dX2_result_0 rfl rfl ?_
  refine M_getR X fd_X2_17 rfl (show SH[19]? = some (_, 0) from rfl) rfl dX2_result_1 ?_
  refine G_iconst (v := 0) X dX2_result_4 rfl ?_
  refine M_aald (r := 23 + 2 * 0) X (show SH[21]? = some (12, 19) from rfl) (by decide) (by decide) (p_val (by decide : 0 < 19)) dX2_result_5 ?_
  obtain rfl := Option.some.inj hf
  exact G_aret X hR rfl dX2_result_6

def f2_signHere (I : gI)  : Option Int32 := (if (I 19 1) ≤ (I 19 8) then some 0 else (if 100 ≤ (I 19 8) then some 0 else if ib (I 19 8) 100 = true then if cb (I 20 ((I 19 8).toNatClampNeg)) = true then some (I 20 ((I 19 8).toNatClampNeg)) else none else none))
set_option maxRecDepth 100000 in
set_option maxHeartbeats 4000000 in
theorem f2_signHere_ok (E : gEnv) (I : gI)  (r : Int32) (hf : f2_signHere I  = some r) : Ctr E yX2_signHere cX2_signHere 1 (some .char) 0 0 0 [vr 19] (mm I) (some (vi r)) (mm I) := by
  refine Ctr.mk (by decide +kernel) rfl (Nat.le_of_ble_eq_true rfl) fun κ X hR _ => ?_
  have X : Cx E κ cX2_signHere 1 RX2 (some .char) 0 0 0 := X
  show G E κ 0 0 0 [some (vr 19)] [] (mm I)
  unfold f2_signHere at hf
  refine G_aload_n (x := some (19)) X dX2_signHere_0 rfl rfl ?_
  refine M_getI X fd_X2_32 rfl (show SH[19]? = some (_, 0) from rfl) dX2_signHere_1 ?_
  refine G_aload_n (x := some (19)) X dX2_signHere_4 rfl rfl ?_
  refine M_getI X fd_X2_25 rfl (show SH[19]? = some (_, 0) from rfl) dX2_signHere_5 ?_
  refine G_icmp_ge (tgt := 35) X dX2_signHere_8 (by decide) (fun hc1 => ?_) (fun hc1 => ?_)
  · have hf := (if_pos hc1).symm.trans hf
    refine G_iconst (v := 0) X dX2_signHere_35 rfl ?_
    obtain rfl := Option.some.inj hf
    exact G_iret X hR rfl (by decide +kernel) dX2_signHere_36
  · have hf := (if_neg hc1).symm.trans hf
    refine G_aload_n (x := some (19)) X dX2_signHere_11 rfl rfl ?_
    refine M_getI X fd_X2_32 rfl (show SH[19]? = some (_, 0) from rfl) dX2_signHere_12 ?_
    refine G_aload_n (x := some (19)) X dX2_signHere_15 rfl rfl ?_
    refine M_getR X fd_X2_9 rfl (show SH[19]? = some (_, 0) from rfl) rfl dX2_signHere_16 ?_
    refine M_alen (v := 100) X (show SH[20]? = some (_, 100) from rfl) (by decide) dX2_signHere_19 rfl ?_
    refine G_icmp_ge (tgt := 35) X dX2_signHere_20 (by decide) (fun hc2 => ?_) (fun hc2 => ?_)
    · have hf := (if_pos hc2).symm.trans hf
      refine G_iconst (v := 0) X dX2_signHere_35 rfl ?_
      obtain rfl := Option.some.inj hf
      exact G_iret X hR rfl (by decide +kernel) dX2_signHere_36
    · have hf := (if_neg hc2).symm.trans hf
      refine G_aload_n (x := some (19)) X dX2_signHere_23 rfl rfl ?_
      refine M_getR X fd_X2_9 rfl (show SH[19]? = some (_, 0) from rfl) rfl dX2_signHere_24 ?_
      refine G_aload_n (x := some (19)) X dX2_signHere_27 rfl rfl ?_
      refine M_getI X fd_X2_32 rfl (show SH[19]? = some (_, 0) from rfl) dX2_signHere_28 ?_
      obtain ⟨hc3, hf⟩ := ock hf
      refine M_cald X (show SH[20]? = some (_, 100) from rfl) hc3 dX2_signHere_31 ?_
      refine G_goto (tgt := 36) X dX2_signHere_32 (by decide) ?_
      obtain ⟨hc4, hf⟩ := ock hf
      obtain rfl := Option.some.inj hf
      exact G_iret X hR rfl (nar_cb hc4) dX2_signHere_36

def f2_nextSign_L0 : Nat → gI → Option (Int32 × gI)
  | 0, _ => none
  | k + 1, I => (if (I 19 1) ≤ (I 19 8) then (f2_signHere I).bind fun v2 => if cb v2 = true then some (v2, I) else none else (f2_signHere I).bind fun v4 => (if v4 = 32 then f2_nextSign_L0 k (uI I 19 8 ((I 19 8) + 1)) else (f2_signHere I).bind fun v6 => if cb v6 = true then some (v6, I) else none))
set_option maxRecDepth 100000 in
set_option maxHeartbeats 4000000 in
theorem f2_nextSign_L0_ok {E : gEnv} {κ : gCtx} (X : Cx E κ cX2_nextSign 1 RX2 (some .char) 1 0 0) : ∀ (k : Nat) (I : gI) (r : Int32) (I' : gI) (hR : gRt E κ 0 0 (some (vi r)) (mm I')) (hf : f2_nextSign_L0 k I = some (r, I')), G E κ 0 0 0 [some (vr 19)] [] (mm I) := by
  intro k
  induction k with
  | zero =>
    intros
    rename_i hf
    cases hf
  | succ k ih =>
    intro I r I' hR hf
    refine G_aload_n (x := some (19)) X dX2_nextSign_0 rfl rfl ?_
    refine M_getI X fd_X2_32 rfl (show SH[19]? = some (_, 0) from rfl) dX2_nextSign_1 ?_
    refine G_aload_n (x := some (19)) X dX2_nextSign_4 rfl rfl ?_
    refine M_getI X fd_X2_25 rfl (show SH[19]? = some (_, 0) from rfl) dX2_nextSign_5 ?_
    refine G_icmp_ge (tgt := 33) X dX2_nextSign_8 (by decide) (fun hc1 => ?_) (fun hc1 => ?_)
    · have hf := (if_pos hc1).symm.trans hf
      refine G_aload_n (x := some (19)) X dX2_nextSign_33 rfl rfl ?_
      obtain ⟨v2, hk2, hf⟩ := obd hf
      refine G_callV (As := []) X (f2_signHere_ok E I v2 hk2) cb_X2_86 vi_X2_signHere (ci := 2) rfl rfl (show SH[19]? = some (_, 0) from rfl) rfl rfl (Nat.le_of_ble_eq_true rfl) (by decide) (by decide) rfl (Nat.le_refl _) (Nat.le_refl _) dX2_nextSign_34 ?_
      show G E κ _ _ _ [some (vr 19)] [vi v2] (mm I)
      obtain ⟨hc3, hf⟩ := ock hf
      obtain ⟨rfl, rfl⟩ := Prod.mk.inj (Option.some.inj hf)
      exact G_iret X hR rfl (nar_cb hc3) dX2_nextSign_37
    · have hf := (if_neg hc1).symm.trans hf
      refine G_aload_n (x := some (19)) X dX2_nextSign_11 rfl rfl ?_
      obtain ⟨v4, hk4, hf⟩ := obd hf
      refine G_callV (As := []) X (f2_signHere_ok E I v4 hk4) cb_X2_86 vi_X2_signHere (ci := 2) rfl rfl (show SH[19]? = some (_, 0) from rfl) rfl rfl (Nat.le_of_ble_eq_true rfl) (by decide) (by decide) rfl (Nat.le_refl _) (Nat.le_refl _) dX2_nextSign_12 ?_
      show G E κ _ _ _ [some (vr 19)] [vi v4] (mm I)
      refine G_bipush (v := 32) X dX2_nextSign_15 rfl ?_
      refine G_icmp_ne (tgt := 33) X dX2_nextSign_17 (by decide) (fun hc5 => ?_) (fun hc5 => ?_)
      · have hf := (if_neg hc5).symm.trans hf
        refine G_aload_n (x := some (19)) X dX2_nextSign_33 rfl rfl ?_
        obtain ⟨v6, hk6, hf⟩ := obd hf
        refine G_callV (As := []) X (f2_signHere_ok E I v6 hk6) cb_X2_86 vi_X2_signHere (ci := 2) rfl rfl (show SH[19]? = some (_, 0) from rfl) rfl rfl (Nat.le_of_ble_eq_true rfl) (by decide) (by decide) rfl (Nat.le_refl _) (Nat.le_refl _) dX2_nextSign_34 ?_
        show G E κ _ _ _ [some (vr 19)] [vi v6] (mm I)
        obtain ⟨hc7, hf⟩ := ock hf
        obtain ⟨rfl, rfl⟩ := Prod.mk.inj (Option.some.inj hf)
        exact G_iret X hR rfl (nar_cb hc7) dX2_nextSign_37
      · have hf := (if_pos hc5).symm.trans hf
        refine G_aload_n (x := some (19)) X dX2_nextSign_20 rfl rfl ?_
        refine G_dup X rfl dX2_nextSign_21 ?_
        refine M_getI X fd_X2_32 rfl (show SH[19]? = some (_, 0) from rfl) dX2_nextSign_22 ?_
        refine G_iconst (v := 1) X dX2_nextSign_25 rfl ?_
        refine G_iadd X dX2_nextSign_26 ?_
        refine M_putI X fd_X2_32 rfl (show SH[19]? = some (_, 0) from rfl) rfl rfl dX2_nextSign_27 ?_
        refine G_goto (tgt := 0) X dX2_nextSign_30 (by decide) ?_
        exact ih (uI I 19 8 ((I 19 8) + 1)) _ _ hR hf

def f2_nextSign (I : gI)  : Option (Int32 × gI) := f2_nextSign_L0 FU I
set_option maxRecDepth 100000 in
set_option maxHeartbeats 4000000 in
theorem f2_nextSign_ok (E : gEnv) (I : gI)  (r : Int32) (I' : gI) (hf : f2_nextSign I  = some (r, I')) : Ctr E yX2_nextSign cX2_nextSign 1 (some .char) 1 0 0 [vr 19] (mm I) (some (vi r)) (mm I') := by
  refine Ctr.mk (by decide +kernel) rfl (Nat.le_of_ble_eq_true rfl) fun κ X hR _ => ?_
  have X : Cx E κ cX2_nextSign 1 RX2 (some .char) 1 0 0 := X
  show G E κ 0 0 0 [some (vr 19)] [] (mm I)
  unfold f2_nextSign at hf
  exact f2_nextSign_L0_ok X FU I _ _ hR hf

def f2_combineAt (I : gI) (a0 : Int32) (a1 : Int32) : Option gI := (if a0 < 0 then some I else (if 19 ≤ (a0 + 1) then some I else if ib a0 19 = true then if ib a0 19 = true then if ib (a0 + 1) 19 = true then (f0_combine I (23 + 2 * a0.toNatClampNeg) a1 (23 + 2 * a0.toNatClampNeg) (23 + 2 * (a0 + 1).toNatClampNeg)).bind fun I6 => some I6 else none else none else none))
set_option maxRecDepth 100000 in
set_option maxHeartbeats 4000000 in
theorem f2_combineAt_ok (E : gEnv) (I : gI) (a0 : Int32) (a1 : Int32) (I' : gI) (hf : f2_combineAt I a0 a1 = some I') : Ctr E yX2_combineAt cX2_combineAt 3 none 2 0 0 [vr 19, vi a0, vi a1] (mm I) (none) (mm I') := by
  refine Ctr.mk (by decide +kernel) rfl (Nat.le_of_ble_eq_true rfl) fun κ X hR _ => ?_
  have X : Cx E κ cX2_combineAt 3 RX2 none 2 0 0 := X
  show G E κ 0 0 0 [some (vr 19), some (vi a0), some (vi a1)] [] (mm I)
  unfold f2_combineAt at hf
  refine G_iload_n (x := a0) X dX2_combineAt_0 rfl rfl ?_
  refine G_if_lt (tgt := 39) X dX2_combineAt_1 (by decide) (fun hc1 => ?_) (fun hc1 => ?_)
  · have hf := (if_pos hc1).symm.trans hf
    obtain rfl := Option.some.inj hf
    exact G_vret X hR rfl dX2_combineAt_39
  · have hf := (if_neg hc1).symm.trans hf
    refine G_iload_n (x := a0) X dX2_combineAt_4 rfl rfl ?_
    refine G_iconst (v := 1) X dX2_combineAt_5 rfl ?_
    refine G_iadd X dX2_combineAt_6 ?_
    refine G_aload_n (x := some (19)) X dX2_combineAt_7 rfl rfl ?_
    refine M_getR X fd_X2_17 rfl (show SH[19]? = some (_, 0) from rfl) rfl dX2_combineAt_8 ?_
    refine M_alen (v := 19) X (show SH[21]? = some (_, 19) from rfl) (by decide) dX2_combineAt_11 rfl ?_
    refine G_icmp_ge (tgt := 39) X dX2_combineAt_12 (by decide) (fun hc2 => ?_) (fun hc2 => ?_)
    · have hf := (if_pos hc2).symm.trans hf
      obtain rfl := Option.some.inj hf
      exact G_vret X hR rfl dX2_combineAt_39
    · have hf := (if_neg hc2).symm.trans hf
      refine G_aload_n (x := some (19)) X dX2_combineAt_15 rfl rfl ?_
      refine M_getR X fd_X2_17 rfl (show SH[19]? = some (_, 0) from rfl) rfl dX2_combineAt_16 ?_
      refine G_iload_n (x := a0) X dX2_combineAt_19 rfl rfl ?_
      obtain ⟨hc3, hf⟩ := ock hf
      refine M_aald (r := 23 + 2 * a0.toNatClampNeg) X (show SH[21]? = some (12, 19) from rfl) (by decide) hc3 (p_val (ib_lt hc3)) dX2_combineAt_20 ?_
      refine G_iload_n (x := a1) X dX2_combineAt_21 rfl rfl ?_
      refine G_aload_n (x := some (19)) X dX2_combineAt_22 rfl rfl ?_
      refine M_getR X fd_X2_17 rfl (show SH[19]? = some (_, 0) from rfl) rfl dX2_combineAt_23 ?_
      refine G_iload_n (x := a0) X dX2_combineAt_26 rfl rfl ?_
      obtain ⟨hc4, hf⟩ := ock hf
      refine M_aald (r := 23 + 2 * a0.toNatClampNeg) X (show SH[21]? = some (12, 19) from rfl) (by decide) hc4 (p_val (ib_lt hc4)) dX2_combineAt_27 ?_
      refine G_aload_n (x := some (19)) X dX2_combineAt_28 rfl rfl ?_
      refine M_getR X fd_X2_17 rfl (show SH[19]? = some (_, 0) from rfl) rfl dX2_combineAt_29 ?_
      refine G_iload_n (x := a0) X dX2_combineAt_32 rfl rfl ?_
      refine G_iconst (v := 1) X dX2_combineAt_33 rfl ?_
      refine G_iadd X dX2_combineAt_34 ?_
      obtain ⟨hc5, hf⟩ := ock hf
      refine M_aald (r := 23 + 2 * (a0 + 1).toNatClampNeg) X (show SH[21]? = some (12, 19) from rfl) (by decide) hc5 (p_val (ib_lt hc5)) dX2_combineAt_35 ?_
      obtain ⟨I6, hk6, hf⟩ := obd hf
      refine G_callV (As := [vi a1, vr (23 + 2 * a0.toNatClampNeg), vr (23 + 2 * (a0 + 1).toNatClampNeg)]) X (f0_combine_ok E I (23 + 2 * a0.toNatClampNeg) (vB_is (ib_lt hc3)) a1 (23 + 2 * a0.toNatClampNeg) (vB_is (ib_lt hc4)) (23 + 2 * (a0 + 1).toNatClampNeg) (vB_is (ib_lt hc5)) I6 hk6) cb_X2_61 vi_X0_combine (ci := 0) rfl rfl (show SH[23 + 2 * a0.toNatClampNeg]? = some (_, 0) from (vB_is (ib_lt hc3)).1) rfl rfl (Nat.le_of_ble_eq_true rfl) (by decide) (by decide) rfl (Nat.le_refl _) (Nat.le_refl _) dX2_combineAt_36 ?_
      show G E κ _ _ _ [some (vr 19), some (vi a0), some (vi a1)] [] (mm I6)
      obtain rfl := Option.some.inj hf
      exact G_vret X hR rfl dX2_combineAt_39

def f2_fail (I : gI) (a0 : Int32) (a1 : Int32) (a2 : Int32) : Option gI := some (uI (uI (uI (uI I 19 9 1) 19 2 a0) 19 3 a1) 19 4 a2)
set_option maxRecDepth 100000 in
set_option maxHeartbeats 4000000 in
theorem f2_fail_ok (E : gEnv) (I : gI) (a0 : Int32) (a1 : Int32) (a2 : Int32) (I' : gI) (hf : f2_fail I a0 a1 a2 = some I') : Ctr E yX2_fail cX2_fail 4 none 0 0 0 [vr 19, vi a0, vi a1, vi a2] (mm I) (none) (mm I') := by
  refine Ctr.mk (by decide +kernel) rfl (Nat.le_of_ble_eq_true rfl) fun κ X hR _ => ?_
  have X : Cx E κ cX2_fail 4 RX2 none 0 0 0 := X
  show G E κ 0 0 0 [some (vr 19), some (vi a0), some (vi a1), some (vi a2)] [] (mm I)
  unfold f2_fail at hf
  refine G_aload_n (x := some (19)) X dX2_fail_0 rfl rfl ?_
  refine G_iconst (v := 1) X dX2_fail_1 rfl ?_
  refine M_putI X fd_X2_35 rfl (show SH[19]? = some (_, 0) from rfl) (nar_b2i true) (fit_b2i true) dX2_fail_2 ?_
  refine G_aload_n (x := some (19)) X dX2_fail_5 rfl rfl ?_
  refine G_iload_n (x := a0) X dX2_fail_6 rfl rfl ?_
  refine M_putI X fd_X2_93 rfl (show SH[19]? = some (_, 0) from rfl) rfl rfl dX2_fail_7 ?_
  refine G_aload_n (x := some (19)) X dX2_fail_10 rfl rfl ?_
  refine G_iload_n (x := a1) X dX2_fail_11 rfl rfl ?_
  refine M_putI X fd_X2_96 rfl (show SH[19]? = some (_, 0) from rfl) rfl rfl dX2_fail_12 ?_
  refine G_aload_n (x := some (19)) X dX2_fail_15 rfl rfl ?_
  refine G_iload_n (x := a2) X dX2_fail_16 rfl rfl ?_
  refine M_putI X fd_X2_99 rfl (show SH[19]? = some (_, 0) from rfl) rfl rfl dX2_fail_17 ?_
  obtain rfl := Option.some.inj hf
  exact G_vret X hR rfl dX2_fail_20

def f2_breakOff (I : gI) (a0 : Int32) : Option (Bool × gI) := (f2_fail I 1 (I 19 8) a0).bind fun I1 => some (false, I1)
set_option maxRecDepth 100000 in
set_option maxHeartbeats 4000000 in
theorem f2_breakOff_ok (E : gEnv) (I : gI) (a0 : Int32) (r : Bool) (I' : gI) (hf : f2_breakOff I a0 = some (r, I')) : Ctr E yX2_breakOff cX2_breakOff 2 (some .boolean) 1 0 0 [vr 19, vi a0] (mm I) (some (vi (b2i r))) (mm I') := by
  refine Ctr.mk (by decide +kernel) rfl (Nat.le_of_ble_eq_true rfl) fun κ X hR _ => ?_
  have X : Cx E κ cX2_breakOff 2 RX2 (some .boolean) 1 0 0 := X
  show G E κ 0 0 0 [some (vr 19), some (vi a0)] [] (mm I)
  unfold f2_breakOff at hf
  refine G_aload_n (x := some (19)) X dX2_breakOff_0 rfl rfl ?_
  refine G_iconst (v := 1) X dX2_breakOff_1 rfl ?_
  refine G_aload_n (x := some (19)) X dX2_breakOff_2 rfl rfl ?_
  refine M_getI X fd_X2_32 rfl (show SH[19]? = some (_, 0) from rfl) dX2_breakOff_3 ?_
  refine G_iload_n (x := a0) X dX2_breakOff_6 rfl rfl ?_
  obtain ⟨I1, hk1, hf⟩ := obd hf
  refine G_callV (As := [vi 1, vi (I 19 8), vi a0]) X (f2_fail_ok E I 1 (I 19 8) a0 I1 hk1) cb_X2_89 vi_X2_fail (ci := 2) rfl rfl (show SH[19]? = some (_, 0) from rfl) rfl rfl (Nat.le_of_ble_eq_true rfl) (by decide) (by decide) rfl (Nat.le_refl _) (Nat.le_refl _) dX2_breakOff_7 ?_
  show G E κ _ _ _ [some (vr 19), some (vi a0)] [] (mm I1)
  refine G_iconst (v := 0) X dX2_breakOff_10 rfl ?_
  obtain ⟨rfl, rfl⟩ := Prod.mk.inj (Option.some.inj hf)
  exact G_iret X hR rfl (nar_b2i false) dX2_breakOff_11

def f2_isDigit (a0 : Int32) : Bool := (if a0 < 48 then false else (if 57 < a0 then false else true))
set_option maxRecDepth 100000 in
set_option maxHeartbeats 4000000 in
theorem f2_isDigit_ok (E : gEnv) (I : gI) (a0 : Int32) (r : Bool) (hf : f2_isDigit  a0 = r) : Ctr E yX2_isDigit cX2_isDigit 1 (some .boolean) 0 0 0 [vi a0] (mm I) (some (vi (b2i r))) (mm I) := by
  refine Ctr.mk (by decide +kernel) rfl (Nat.le_of_ble_eq_true rfl) fun κ X hR _ => ?_
  have X : Cx E κ cX2_isDigit 1 RX2 (some .boolean) 0 0 0 := X
  show G E κ 0 0 0 [some (vi a0)] [] (mm I)
  unfold f2_isDigit at hf
  refine G_iload_n (x := a0) X dX2_isDigit_0 rfl rfl ?_
  refine G_bipush (v := 48) X dX2_isDigit_1 rfl ?_
  refine G_icmp_lt (tgt := 16) X dX2_isDigit_3 (by decide) (fun hc1 => ?_) (fun hc1 => ?_)
  · have hf := (if_pos hc1).symm.trans hf
    refine G_iconst (v := 0) X dX2_isDigit_16 rfl ?_
    subst hf
    exact G_iret X hR rfl (nar_b2i false) dX2_isDigit_17
  · have hf := (if_neg hc1).symm.trans hf
    refine G_iload_n (x := a0) X dX2_isDigit_6 rfl rfl ?_
    refine G_bipush (v := 57) X dX2_isDigit_7 rfl ?_
    refine G_icmp_gt (tgt := 16) X dX2_isDigit_9 (by decide) (fun hc2 => ?_) (fun hc2 => ?_)
    · have hf := (if_pos hc2).symm.trans hf
      refine G_iconst (v := 0) X dX2_isDigit_16 rfl ?_
      subst hf
      exact G_iret X hR rfl (nar_b2i false) dX2_isDigit_17
    · have hf := (if_neg hc2).symm.trans hf
      refine G_iconst (v := 1) X dX2_isDigit_12 rfl ?_
      refine G_goto (tgt := 17) X dX2_isDigit_13 (by decide) ?_
      subst hf
      exact G_iret X hR rfl (nar_b2i true) dX2_isDigit_17

def f2_readNumber_L30 : Nat → gI → Int32 → Int32 → Int32 → Int32 → Int32 → Option (Int32 × gI)
  | 0, _, _, _, _, _, _ => none
  | k + 1, I, x1, x2, x3, x4, x5 => (if 3 ≤ x5 then (f2_signHere I).bind fun v4 => (if (f2_isDigit v4) = true then (f2_breakOff I x1).bind fun q9 => some ((-9), q9.2) else (if x4 ≤ x2 then some (x4, I) else (if (I 19 9) = 0 then (f2_fail I 2 x3 x1).bind fun I8 => some (x4, I8) else some (x4, I)))) else (f2_signHere I).bind fun v10 => (if (f2_isDigit v10) = true then (if x5 = 1 then (if x4 = 0 then (f2_signHere I).bind fun v22 => (if (f2_isDigit v22) = true then (f2_breakOff I x1).bind fun q27 => some ((-9), q27.2) else (if x4 ≤ x2 then some (x4, I) else (if (I 19 9) = 0 then (f2_fail I 2 x3 x1).bind fun I26 => some (x4, I26) else some (x4, I)))) else (f2_signHere I).bind fun v21 => f2_readNumber_L30 k (uI I 19 8 ((I 19 8) + 1)) x1 x2 x3 ((x4 * 10) + (v21 - 48)) (x5 + 1)) else (f2_signHere I).bind fun v19 => f2_readNumber_L30 k (uI I 19 8 ((I 19 8) + 1)) x1 x2 x3 ((x4 * 10) + (v19 - 48)) (x5 + 1)) else (f2_signHere I).bind fun v12 => (if (f2_isDigit v12) = true then (f2_breakOff I x1).bind fun q17 => some ((-9), q17.2) else (if x4 ≤ x2 then some (x4, I) else (if (I 19 9) = 0 then (f2_fail I 2 x3 x1).bind fun I16 => some (x4, I16) else some (x4, I))))))
set_option maxRecDepth 100000 in
set_option maxHeartbeats 4000000 in
theorem f2_readNumber_L30_ok {E : gEnv} {κ : gCtx} (X : Cx E κ cX2_readNumber 6 RX2 (some .int) 2 0 0) : ∀ (k : Nat) (I : gI) (x1 : Int32) (x2 : Int32) (x3 : Int32) (x4 : Int32) (x5 : Int32) (r : Int32) (I' : gI) (hR : gRt E κ 0 0 (some (vi r)) (mm I')) (hf : f2_readNumber_L30 k I x1 x2 x3 x4 x5 = some (r, I')), G E κ 0 0 30 [some (vr 19), some (vi x1), some (vi x2), some (vi x3), some (vi x4), some (vi x5)] [] (mm I) := by
  intro k
  induction k with
  | zero =>
    intros
    rename_i hf
    cases hf
  | succ k ih =>
    intro I x1 x2 x3 x4 x5 r I' hR hf
    refine G_iload (x := x5) X dX2_readNumber_30 rfl ?_
    refine G_iconst (v := 3) X dX2_readNumber_32 rfl ?_
    refine G_icmp_ge (tgt := 91) X dX2_readNumber_33 (by decide) (fun hc3 => ?_) (fun hc3 => ?_)
    · have hf := (if_pos hc3).symm.trans hf
      refine G_aload_n (x := some (19)) X dX2_readNumber_91 rfl rfl ?_
      obtain ⟨v4, hk4, hf⟩ := obd hf
      refine G_callV (As := []) X (f2_signHere_ok E I v4 hk4) cb_X2_86 vi_X2_signHere (ci := 2) rfl rfl (show SH[19]? = some (_, 0) from rfl) rfl rfl (Nat.le_of_ble_eq_true rfl) (by decide) (by decide) rfl (Nat.le_refl _) (Nat.le_refl _) dX2_readNumber_92 ?_
      show G E κ _ _ _ [some (vr 19), some (vi x1), some (vi x2), some (vi x3), some (vi x4), some (vi x5)] [vi v4] (mm I)
      refine G_callS (As := [vi v4]) X (f2_isDigit_ok E I v4 _ rfl) cb_X2_82 st_X2_isDigit rfl rfl (Nat.le_of_ble_eq_true rfl) (by decide) (by decide) rfl (Nat.le_refl _) (Nat.le_refl _) dX2_readNumber_95 ?_
      show G E κ _ _ _ [some (vr 19), some (vi x1), some (vi x2), some (vi x3), some (vi x4), some (vi x5)] [vi (b2i (f2_isDigit v4))] (mm I)
      refine G_if_eq (tgt := 110) X dX2_readNumber_98 (by decide) (fun hc5 => ?_) (fun hc5 => ?_)
      · have hf := (if_neg (b2i_f hc5)).symm.trans hf
        refine G_iload (x := x4) X dX2_readNumber_110 rfl ?_
        refine G_iload_n (x := x2) X dX2_readNumber_112 rfl rfl ?_
        refine G_icmp_le (tgt := 130) X dX2_readNumber_113 (by decide) (fun hc6 => ?_) (fun hc6 => ?_)
        · have hf := (if_pos hc6).symm.trans hf
          refine G_iload (x := x4) X dX2_readNumber_130 rfl ?_
          obtain ⟨rfl, rfl⟩ := Prod.mk.inj (Option.some.inj hf)
          exact G_iret X hR rfl rfl dX2_readNumber_132
        · have hf := (if_neg hc6).symm.trans hf
          refine G_aload_n (x := some (19)) X dX2_readNumber_116 rfl rfl ?_
          refine M_getI X fd_X2_35 rfl (show SH[19]? = some (_, 0) from rfl) dX2_readNumber_117 ?_
          refine G_if_ne (tgt := 130) X dX2_readNumber_120 (by decide) (fun hc7 => ?_) (fun hc7 => ?_)
          · have hf := (if_neg hc7).symm.trans hf
            refine G_iload (x := x4) X dX2_readNumber_130 rfl ?_
            obtain ⟨rfl, rfl⟩ := Prod.mk.inj (Option.some.inj hf)
            exact G_iret X hR rfl rfl dX2_readNumber_132
          · have hf := (if_pos hc7).symm.trans hf
            refine G_aload_n (x := some (19)) X dX2_readNumber_123 rfl rfl ?_
            refine G_iconst (v := 2) X dX2_readNumber_124 rfl ?_
            refine G_iload_n (x := x3) X dX2_readNumber_125 rfl rfl ?_
            refine G_iload_n (x := x1) X dX2_readNumber_126 rfl rfl ?_
            obtain ⟨I8, hk8, hf⟩ := obd hf
            refine G_callV (As := [vi 2, vi x3, vi x1]) X (f2_fail_ok E I 2 x3 x1 I8 hk8) cb_X2_89 vi_X2_fail (ci := 2) rfl rfl (show SH[19]? = some (_, 0) from rfl) rfl rfl (Nat.le_of_ble_eq_true rfl) (by decide) (by decide) rfl (Nat.le_refl _) (Nat.le_refl _) dX2_readNumber_127 ?_
            show G E κ _ _ _ [some (vr 19), some (vi x1), some (vi x2), some (vi x3), some (vi x4), some (vi x5)] [] (mm I8)
            refine G_iload (x := x4) X dX2_readNumber_130 rfl ?_
            obtain ⟨rfl, rfl⟩ := Prod.mk.inj (Option.some.inj hf)
            exact G_iret X hR rfl rfl dX2_readNumber_132
      · have hf := (if_pos (b2i_t hc5)).symm.trans hf
        refine G_aload_n (x := some (19)) X dX2_readNumber_101 rfl rfl ?_
        refine G_iload_n (x := x1) X dX2_readNumber_102 rfl rfl ?_
        obtain ⟨⟨v9, I9⟩, hk9, hf⟩ := obd hf
        try dsimp only at hf
        refine G_callV (As := [vi x1]) X (f2_breakOff_ok E I x1 v9 I9 hk9) cb_X2_47 vi_X2_breakOff (ci := 2) rfl rfl (show SH[19]? = some (_, 0) from rfl) rfl rfl (Nat.le_of_ble_eq_true rfl) (by decide) (by decide) rfl (Nat.le_refl _) (Nat.le_refl _) dX2_readNumber_103 ?_
        show G E κ _ _ _ [some (vr 19), some (vi x1), some (vi x2), some (vi x3), some (vi x4), some (vi x5)] [vi (b2i v9)] (mm I9)
        refine G_pop X rfl dX2_readNumber_106 ?_
        refine G_bipush (v := (-9)) X dX2_readNumber_107 rfl ?_
        obtain ⟨rfl, rfl⟩ := Prod.mk.inj (Option.some.inj hf)
        exact G_iret X hR rfl rfl dX2_readNumber_109
    · have hf := (if_neg hc3).symm.trans hf
      refine G_aload_n (x := some (19)) X dX2_readNumber_36 rfl rfl ?_
      obtain ⟨v10, hk10, hf⟩ := obd hf
      refine G_callV (As := []) X (f2_signHere_ok E I v10 hk10) cb_X2_86 vi_X2_signHere (ci := 2) rfl rfl (show SH[19]? = some (_, 0) from rfl) rfl rfl (Nat.le_of_ble_eq_true rfl) (by decide) (by decide) rfl (Nat.le_refl _) (Nat.le_refl _) dX2_readNumber_37 ?_
      show G E κ _ _ _ [some (vr 19), some (vi x1), some (vi x2), some (vi x3), some (vi x4), some (vi x5)] [vi v10] (mm I)
      refine G_callS (As := [vi v10]) X (f2_isDigit_ok E I v10 _ rfl) cb_X2_82 st_X2_isDigit rfl rfl (Nat.le_of_ble_eq_true rfl) (by decide) (by decide) rfl (Nat.le_refl _) (Nat.le_refl _) dX2_readNumber_40 ?_
      show G E κ _ _ _ [some (vr 19), some (vi x1), some (vi x2), some (vi x3), some (vi x4), some (vi x5)] [vi (b2i (f2_isDigit v10))] (mm I)
      refine G_if_eq (tgt := 91) X dX2_readNumber_43 (by decide) (fun hc11 => ?_) (fun hc11 => ?_)
      · have hf := (if_neg (b2i_f hc11)).symm.trans hf
        refine G_aload_n (x := some (19)) X dX2_readNumber_91 rfl rfl ?_
        obtain ⟨v12, hk12, hf⟩ := obd hf
        refine G_callV (As := []) X (f2_signHere_ok E I v12 hk12) cb_X2_86 vi_X2_signHere (ci := 2) rfl rfl (show SH[19]? = some (_, 0) from rfl) rfl rfl (Nat.le_of_ble_eq_true rfl) (by decide) (by decide) rfl (Nat.le_refl _) (Nat.le_refl _) dX2_readNumber_92 ?_
        show G E κ _ _ _ [some (vr 19), some (vi x1), some (vi x2), some (vi x3), some (vi x4), some (vi x5)] [vi v12] (mm I)
        refine G_callS (As := [vi v12]) X (f2_isDigit_ok E I v12 _ rfl) cb_X2_82 st_X2_isDigit rfl rfl (Nat.le_of_ble_eq_true rfl) (by decide) (by decide) rfl (Nat.le_refl _) (Nat.le_refl _) dX2_readNumber_95 ?_
        show G E κ _ _ _ [some (vr 19), some (vi x1), some (vi x2), some (vi x3), some (vi x4), some (vi x5)] [vi (b2i (f2_isDigit v12))] (mm I)
        refine G_if_eq (tgt := 110) X dX2_readNumber_98 (by decide) (fun hc13 => ?_) (fun hc13 => ?_)
        · have hf := (if_neg (b2i_f hc13)).symm.trans hf
          refine G_iload (x := x4) X dX2_readNumber_110 rfl ?_
          refine G_iload_n (x := x2) X dX2_readNumber_112 rfl rfl ?_
          refine G_icmp_le (tgt := 130) X dX2_readNumber_113 (by decide) (fun hc14 => ?_) (fun hc14 => ?_)
          · have hf := (if_pos hc14).symm.trans hf
            refine G_iload (x := x4) X dX2_readNumber_130 rfl ?_
            obtain ⟨rfl, rfl⟩ := Prod.mk.inj (Option.some.inj hf)
            exact G_iret X hR rfl rfl dX2_readNumber_132
          · have hf := (if_neg hc14).symm.trans hf
            refine G_aload_n (x := some (19)) X dX2_readNumber_116 rfl rfl ?_
            refine M_getI X fd_X2_35 rfl (show SH[19]? = some (_, 0) from rfl) dX2_readNumber_117 ?_
            refine G_if_ne (tgt := 130) X dX2_readNumber_120 (by decide) (fun hc15 => ?_) (fun hc15 => ?_)
            · have hf := (if_neg hc15).symm.trans hf
              refine G_iload (x := x4) X dX2_readNumber_130 rfl ?_
              obtain ⟨rfl, rfl⟩ := Prod.mk.inj (Option.some.inj hf)
              exact G_iret X hR rfl rfl dX2_readNumber_132
            · have hf := (if_pos hc15).symm.trans hf
              refine G_aload_n (x := some (19)) X dX2_readNumber_123 rfl rfl ?_
              refine G_iconst (v := 2) X dX2_readNumber_124 rfl ?_
              refine G_iload_n (x := x3) X dX2_readNumber_125 rfl rfl ?_
              refine G_iload_n (x := x1) X dX2_readNumber_126 rfl rfl ?_
              obtain ⟨I16, hk16, hf⟩ := obd hf
              refine G_callV (As := [vi 2, vi x3, vi x1]) X (f2_fail_ok E I 2 x3 x1 I16 hk16) cb_X2_89 vi_X2_fail (ci := 2) rfl rfl (show SH[19]? = some (_, 0) from rfl) rfl rfl (Nat.le_of_ble_eq_true rfl) (by decide) (by decide) rfl (Nat.le_refl _) (Nat.le_refl _) dX2_readNumber_127 ?_
              show G E κ _ _ _ [some (vr 19), some (vi x1), some (vi x2), some (vi x3), some (vi x4), some (vi x5)] [] (mm I16)
              refine G_iload (x := x4) X dX2_readNumber_130 rfl ?_
              obtain ⟨rfl, rfl⟩ := Prod.mk.inj (Option.some.inj hf)
              exact G_iret X hR rfl rfl dX2_readNumber_132
        · have hf := (if_pos (b2i_t hc13)).symm.trans hf
          refine G_aload_n (x := some (19)) X dX2_readNumber_101 rfl rfl ?_
          refine G_iload_n (x := x1) X dX2_readNumber_102 rfl rfl ?_
          obtain ⟨⟨v17, I17⟩, hk17, hf⟩ := obd hf
          try dsimp only at hf
          refine G_callV (As := [vi x1]) X (f2_breakOff_ok E I x1 v17 I17 hk17) cb_X2_47 vi_X2_breakOff (ci := 2) rfl rfl (show SH[19]? = some (_, 0) from rfl) rfl rfl (Nat.le_of_ble_eq_true rfl) (by decide) (by decide) rfl (Nat.le_refl _) (Nat.le_refl _) dX2_readNumber_103 ?_
          show G E κ _ _ _ [some (vr 19), some (vi x1), some (vi x2), some (vi x3), some (vi x4), some (vi x5)] [vi (b2i v17)] (mm I17)
          refine G_pop X rfl dX2_readNumber_106 ?_
          refine G_bipush (v := (-9)) X dX2_readNumber_107 rfl ?_
          obtain ⟨rfl, rfl⟩ := Prod.mk.inj (Option.some.inj hf)
          exact G_iret X hR rfl rfl dX2_readNumber_109
      · have hf := (if_pos (b2i_t hc11)).symm.trans hf
        refine G_iload (x := x5) X dX2_readNumber_46 rfl ?_
        refine G_iconst (v := 1) X dX2_readNumber_48 rfl ?_
        refine G_icmp_ne (tgt := 60) X dX2_readNumber_49 (by decide) (fun hc18 => ?_) (fun hc18 => ?_)
        · have hf := (if_neg hc18).symm.trans hf
          refine G_iload (x := x4) X dX2_readNumber_60 rfl ?_
          refine G_bipush (v := 10) X dX2_readNumber_62 rfl ?_
          refine G_imul X dX2_readNumber_64 ?_
          refine G_aload_n (x := some (19)) X dX2_readNumber_65 rfl rfl ?_
          obtain ⟨v19, hk19, hf⟩ := obd hf
          refine G_callV (As := []) X (f2_signHere_ok E I v19 hk19) cb_X2_86 vi_X2_signHere (ci := 2) rfl rfl (show SH[19]? = some (_, 0) from rfl) rfl rfl (Nat.le_of_ble_eq_true rfl) (by decide) (by decide) rfl (Nat.le_refl _) (Nat.le_refl _) dX2_readNumber_66 ?_
          show G E κ _ _ _ [some (vr 19), some (vi x1), some (vi x2), some (vi x3), some (vi x4), some (vi x5)] [vi v19, vi (x4 * 10)] (mm I)
          refine G_bipush (v := 48) X dX2_readNumber_69 rfl ?_
          refine G_isub X dX2_readNumber_71 ?_
          refine G_iadd X dX2_readNumber_72 ?_
          refine G_istore X dX2_readNumber_73 rfl (ls' := [some (vr 19), some (vi x1), some (vi x2), some (vi x3), some (vi ((x4 * 10) + (v19 - 48))), some (vi x5)]) rfl ?_
          refine G_aload_n (x := some (19)) X dX2_readNumber_75 rfl rfl ?_
          refine G_dup X rfl dX2_readNumber_76 ?_
          refine M_getI X fd_X2_32 rfl (show SH[19]? = some (_, 0) from rfl) dX2_readNumber_77 ?_
          refine G_iconst (v := 1) X dX2_readNumber_80 rfl ?_
          refine G_iadd X dX2_readNumber_81 ?_
          refine M_putI X fd_X2_32 rfl (show SH[19]? = some (_, 0) from rfl) rfl rfl dX2_readNumber_82 ?_
          refine G_iinc (x := x5) (v := 1) X dX2_readNumber_85 rfl rfl rfl (ls' := [some (vr 19), some (vi x1), some (vi x2), some (vi x3), some (vi ((x4 * 10) + (v19 - 48))), some (vi (x5 + 1))]) rfl ?_
          refine G_goto (tgt := 30) X dX2_readNumber_88 (by decide) ?_
          exact ih (uI I 19 8 ((I 19 8) + 1)) x1 x2 x3 ((x4 * 10) + (v19 - 48)) (x5 + 1) _ _ hR hf
        · have hf := (if_pos hc18).symm.trans hf
          refine G_iload (x := x4) X dX2_readNumber_52 rfl ?_
          refine G_if_ne (tgt := 60) X dX2_readNumber_54 (by decide) (fun hc20 => ?_) (fun hc20 => ?_)
          · have hf := (if_neg hc20).symm.trans hf
            refine G_iload (x := x4) X dX2_readNumber_60 rfl ?_
            refine G_bipush (v := 10) X dX2_readNumber_62 rfl ?_
            refine G_imul X dX2_readNumber_64 ?_
            refine G_aload_n (x := some (19)) X dX2_readNumber_65 rfl rfl ?_
            obtain ⟨v21, hk21, hf⟩ := obd hf
            refine G_callV (As := []) X (f2_signHere_ok E I v21 hk21) cb_X2_86 vi_X2_signHere (ci := 2) rfl rfl (show SH[19]? = some (_, 0) from rfl) rfl rfl (Nat.le_of_ble_eq_true rfl) (by decide) (by decide) rfl (Nat.le_refl _) (Nat.le_refl _) dX2_readNumber_66 ?_
            show G E κ _ _ _ [some (vr 19), some (vi x1), some (vi x2), some (vi x3), some (vi x4), some (vi x5)] [vi v21, vi (x4 * 10)] (mm I)
            refine G_bipush (v := 48) X dX2_readNumber_69 rfl ?_
            refine G_isub X dX2_readNumber_71 ?_
            refine G_iadd X dX2_readNumber_72 ?_
            refine G_istore X dX2_readNumber_73 rfl (ls' := [some (vr 19), some (vi x1), some (vi x2), some (vi x3), some (vi ((x4 * 10) + (v21 - 48))), some (vi x5)]) rfl ?_
            refine G_aload_n (x := some (19)) X dX2_readNumber_75 rfl rfl ?_
            refine G_dup X rfl dX2_readNumber_76 ?_
            refine M_getI X fd_X2_32 rfl (show SH[19]? = some (_, 0) from rfl) dX2_readNumber_77 ?_
            refine G_iconst (v := 1) X dX2_readNumber_80 rfl ?_
            refine G_iadd X dX2_readNumber_81 ?_
            refine M_putI X fd_X2_32 rfl (show SH[19]? = some (_, 0) from rfl) rfl rfl dX2_readNumber_82 ?_
            refine G_iinc (x := x5) (v := 1) X dX2_readNumber_85 rfl rfl rfl (ls' := [some (vr 19), some (vi x1), some (vi x2), some (vi x3), some (vi ((x4 * 10) + (v21 - 48))), some (vi (x5 + 1))]) rfl ?_
            refine G_goto (tgt := 30) X dX2_readNumber_88 (by decide) ?_
            exact ih (uI I 19 8 ((I 19 8) + 1)) x1 x2 x3 ((x4 * 10) + (v21 - 48)) (x5 + 1) _ _ hR hf
          · have hf := (if_pos hc20).symm.trans hf
            refine G_goto (tgt := 91) X dX2_readNumber_57 (by decide) ?_
            refine G_aload_n (x := some (19)) X dX2_readNumber_91 rfl rfl ?_
            obtain ⟨v22, hk22, hf⟩ := obd hf
            refine G_callV (As := []) X (f2_signHere_ok E I v22 hk22) cb_X2_86 vi_X2_signHere (ci := 2) rfl rfl (show SH[19]? = some (_, 0) from rfl) rfl rfl (Nat.le_of_ble_eq_true rfl) (by decide) (by decide) rfl (Nat.le_refl _) (Nat.le_refl _) dX2_readNumber_92 ?_
            show G E κ _ _ _ [some (vr 19), some (vi x1), some (vi x2), some (vi x3), some (vi x4), some (vi x5)] [vi v22] (mm I)
            refine G_callS (As := [vi v22]) X (f2_isDigit_ok E I v22 _ rfl) cb_X2_82 st_X2_isDigit rfl rfl (Nat.le_of_ble_eq_true rfl) (by decide) (by decide) rfl (Nat.le_refl _) (Nat.le_refl _) dX2_readNumber_95 ?_
            show G E κ _ _ _ [some (vr 19), some (vi x1), some (vi x2), some (vi x3), some (vi x4), some (vi x5)] [vi (b2i (f2_isDigit v22))] (mm I)
            refine G_if_eq (tgt := 110) X dX2_readNumber_98 (by decide) (fun hc23 => ?_) (fun hc23 => ?_)
            · have hf := (if_neg (b2i_f hc23)).symm.trans hf
              refine G_iload (x := x4) X dX2_readNumber_110 rfl ?_
              refine G_iload_n (x := x2) X dX2_readNumber_112 rfl rfl ?_
              refine G_icmp_le (tgt := 130) X dX2_readNumber_113 (by decide) (fun hc24 => ?_) (fun hc24 => ?_)
              · have hf := (if_pos hc24).symm.trans hf
                refine G_iload (x := x4) X dX2_readNumber_130 rfl ?_
                obtain ⟨rfl, rfl⟩ := Prod.mk.inj (Option.some.inj hf)
                exact G_iret X hR rfl rfl dX2_readNumber_132
              · have hf := (if_neg hc24).symm.trans hf
                refine G_aload_n (x := some (19)) X dX2_readNumber_116 rfl rfl ?_
                refine M_getI X fd_X2_35 rfl (show SH[19]? = some (_, 0) from rfl) dX2_readNumber_117 ?_
                refine G_if_ne (tgt := 130) X dX2_readNumber_120 (by decide) (fun hc25 => ?_) (fun hc25 => ?_)
                · have hf := (if_neg hc25).symm.trans hf
                  refine G_iload (x := x4) X dX2_readNumber_130 rfl ?_
                  obtain ⟨rfl, rfl⟩ := Prod.mk.inj (Option.some.inj hf)
                  exact G_iret X hR rfl rfl dX2_readNumber_132
                · have hf := (if_pos hc25).symm.trans hf
                  refine G_aload_n (x := some (19)) X dX2_readNumber_123 rfl rfl ?_
                  refine G_iconst (v := 2) X dX2_readNumber_124 rfl ?_
                  refine G_iload_n (x := x3) X dX2_readNumber_125 rfl rfl ?_
                  refine G_iload_n (x := x1) X dX2_readNumber_126 rfl rfl ?_
                  obtain ⟨I26, hk26, hf⟩ := obd hf
                  refine G_callV (As := [vi 2, vi x3, vi x1]) X (f2_fail_ok E I 2 x3 x1 I26 hk26) cb_X2_89 vi_X2_fail (ci := 2) rfl rfl (show SH[19]? = some (_, 0) from rfl) rfl rfl (Nat.le_of_ble_eq_true rfl) (by decide) (by decide) rfl (Nat.le_refl _) (Nat.le_refl _) dX2_readNumber_127 ?_
                  show G E κ _ _ _ [some (vr 19), some (vi x1), some (vi x2), some (vi x3), some (vi x4), some (vi x5)] [] (mm I26)
                  refine G_iload (x := x4) X dX2_readNumber_130 rfl ?_
                  obtain ⟨rfl, rfl⟩ := Prod.mk.inj (Option.some.inj hf)
                  exact G_iret X hR rfl rfl dX2_readNumber_132
            · have hf := (if_pos (b2i_t hc23)).symm.trans hf
              refine G_aload_n (x := some (19)) X dX2_readNumber_101 rfl rfl ?_
              refine G_iload_n (x := x1) X dX2_readNumber_102 rfl rfl ?_
              obtain ⟨⟨v27, I27⟩, hk27, hf⟩ := obd hf
              try dsimp only at hf
              refine G_callV (As := [vi x1]) X (f2_breakOff_ok E I x1 v27 I27 hk27) cb_X2_47 vi_X2_breakOff (ci := 2) rfl rfl (show SH[19]? = some (_, 0) from rfl) rfl rfl (Nat.le_of_ble_eq_true rfl) (by decide) (by decide) rfl (Nat.le_refl _) (Nat.le_refl _) dX2_readNumber_103 ?_
              show G E κ _ _ _ [some (vr 19), some (vi x1), some (vi x2), some (vi x3), some (vi x4), some (vi x5)] [vi (b2i v27)] (mm I27)
              refine G_pop X rfl dX2_readNumber_106 ?_
              refine G_bipush (v := (-9)) X dX2_readNumber_107 rfl ?_
              obtain ⟨rfl, rfl⟩ := Prod.mk.inj (Option.some.inj hf)
              exact G_iret X hR rfl rfl dX2_readNumber_109

def f2_readNumber (I : gI) (a0 : Int32) (a1 : Int32) : Option (Int32 × gI) := (f2_nextSign I).bind fun q1 => (if (f2_isDigit q1.1) = true then f2_readNumber_L30 FU q1.2 a0 a1 (q1.2 19 8) 0 0 else (f2_breakOff q1.2 a0).bind fun q28 => some ((-9), q28.2))
set_option maxRecDepth 100000 in
set_option maxHeartbeats 4000000 in
theorem f2_readNumber_ok (E : gEnv) (I : gI) (a0 : Int32) (a1 : Int32) (r : Int32) (I' : gI) (hf : f2_readNumber I a0 a1 = some (r, I')) : Ctr E yX2_readNumber cX2_readNumber 6 (some .int) 2 0 0 [vr 19, vi a0, vi a1] (mm I) (some (vi r)) (mm I') := by
  refine Ctr.mk (by decide +kernel) rfl (Nat.le_of_ble_eq_true rfl) fun κ X hR _ => ?_
  have X : Cx E κ cX2_readNumber 6 RX2 (some .int) 2 0 0 := X
  show G E κ 0 0 0 [some (vr 19), some (vi a0), some (vi a1), none, none, none] [] (mm I)
  unfold f2_readNumber at hf
  refine G_aload_n (x := some (19)) X dX2_readNumber_0 rfl rfl ?_
  obtain ⟨⟨v1, I1⟩, hk1, hf⟩ := obd hf
  try dsimp only at hf
  refine G_callV (As := []) X (f2_nextSign_ok E I  v1 I1 hk1) cb_X2_43 vi_X2_nextSign (ci := 2) rfl rfl (show SH[19]? = some (_, 0) from rfl) rfl rfl (Nat.le_of_ble_eq_true rfl) (by decide) (by decide) rfl (Nat.le_refl _) (Nat.le_refl _) dX2_readNumber_1 ?_
  show G E κ _ _ _ [some (vr 19), some (vi a0), some (vi a1), none, none, none] [vi v1] (mm I1)
  refine G_callS (As := [vi v1]) X (f2_isDigit_ok E I1 v1 _ rfl) cb_X2_82 st_X2_isDigit rfl rfl (Nat.le_of_ble_eq_true rfl) (by decide) (by decide) rfl (Nat.le_refl _) (Nat.le_refl _) dX2_readNumber_4 ?_
  show G E κ _ _ _ [some (vr 19), some (vi a0), some (vi a1), none, none, none] [vi (b2i (f2_isDigit v1))] (mm I1)
  refine G_if_ne (tgt := 19) X dX2_readNumber_7 (by decide) (fun hc2 => ?_) (fun hc2 => ?_)
  · have hf := (if_pos (b2i_t hc2)).symm.trans hf
    refine G_aload_n (x := some (19)) X dX2_readNumber_19 rfl rfl ?_
    refine M_getI X fd_X2_32 rfl (show SH[19]? = some (_, 0) from rfl) dX2_readNumber_20 ?_
    refine G_istore_n X dX2_readNumber_23 rfl rfl (ls' := [some (vr 19), some (vi a0), some (vi a1), some (vi (I1 19 8)), none, none]) rfl ?_
    refine G_iconst (v := 0) X dX2_readNumber_24 rfl ?_
    refine G_istore X dX2_readNumber_25 rfl (ls' := [some (vr 19), some (vi a0), some (vi a1), some (vi (I1 19 8)), some (vi 0), none]) rfl ?_
    refine G_iconst (v := 0) X dX2_readNumber_27 rfl ?_
    refine G_istore X dX2_readNumber_28 rfl (ls' := [some (vr 19), some (vi a0), some (vi a1), some (vi (I1 19 8)), some (vi 0), some (vi 0)]) rfl ?_
    exact f2_readNumber_L30_ok X FU I1 a0 a1 (I1 19 8) 0 0 _ _ hR hf
  · have hf := (if_neg (b2i_f hc2)).symm.trans hf
    refine G_aload_n (x := some (19)) X dX2_readNumber_10 rfl rfl ?_
    refine G_iload_n (x := a0) X dX2_readNumber_11 rfl rfl ?_
    obtain ⟨⟨v28, I28⟩, hk28, hf⟩ := obd hf
    try dsimp only at hf
    refine G_callV (As := [vi a0]) X (f2_breakOff_ok E I1 a0 v28 I28 hk28) cb_X2_47 vi_X2_breakOff (ci := 2) rfl rfl (show SH[19]? = some (_, 0) from rfl) rfl rfl (Nat.le_of_ble_eq_true rfl) (by decide) (by decide) rfl (Nat.le_refl _) (Nat.le_refl _) dX2_readNumber_12 ?_
    show G E κ _ _ _ [some (vr 19), some (vi a0), some (vi a1), none, none, none] [vi (b2i v28)] (mm I28)
    refine G_pop X rfl dX2_readNumber_15 ?_
    refine G_bipush (v := (-9)) X dX2_readNumber_16 rfl ?_
    obtain ⟨rfl, rfl⟩ := Prod.mk.inj (Option.some.inj hf)
    exact G_iret X hR rfl rfl dX2_readNumber_18

def f2_readRow (I : gI) (a0 : Int32) (a1 : Int32) : Option (Bool × gI) := (f2_readNumber I a1 ((I 19 7) - 1)).bind fun q1 => (if 0 ≤ q1.1 then (f2_nextSign q1.2).bind fun q3 => (if q3.1 = 60 then (f2_readNumber (uI q3.2 19 8 ((q3.2 19 8) + 1)) a1 600).bind fun q5 => (if 0 ≤ q5.1 then (if (q5.2 19 9) = 0 then if q5.2 19 6 = 1 then (if 8 ≤ q1.1 then some (true, q5.2) else (if 19 ≤ a0 then some (true, q5.2) else if ib a0 19 = true then if q5.2 19 6 = 1 then if ib q1.1 8 = true then (if q3.1 = 62 then (f0_moveFrom q5.2 (23 + 2 * a0.toNatClampNeg) (63 + 2 * q1.1.toNatClampNeg) (-q5.1)).bind fun I16 => some (true, I16) else (f0_moveFrom q5.2 (23 + 2 * a0.toNatClampNeg) (63 + 2 * q1.1.toNatClampNeg) q5.1).bind fun I15 => some (true, I15)) else none else none else none)) else none else some (true, q5.2)) else some (false, q5.2)) else (if q3.1 = 62 then (f2_readNumber (uI q3.2 19 8 ((q3.2 19 8) + 1)) a1 600).bind fun q28 => (if 0 ≤ q28.1 then (if (q28.2 19 9) = 0 then if q28.2 19 6 = 1 then (if 8 ≤ q1.1 then some (true, q28.2) else (if 19 ≤ a0 then some (true, q28.2) else if ib a0 19 = true then if q28.2 19 6 = 1 then if ib q1.1 8 = true then (if q3.1 = 62 then (f0_moveFrom q28.2 (23 + 2 * a0.toNatClampNeg) (63 + 2 * q1.1.toNatClampNeg) (-q28.1)).bind fun I39 => some (true, I39) else (f0_moveFrom q28.2 (23 + 2 * a0.toNatClampNeg) (63 + 2 * q1.1.toNatClampNeg) q28.1).bind fun I38 => some (true, I38)) else none else none else none)) else none else some (true, q28.2)) else some (false, q28.2)) else (if (q3.2 19 9) = 0 then if q3.2 19 6 = 1 then (if 8 ≤ q1.1 then some (true, q3.2) else (if 19 ≤ a0 then some (true, q3.2) else if ib a0 19 = true then if q3.2 19 6 = 1 then if ib q1.1 8 = true then (if q3.1 = 62 then (f0_moveFrom q3.2 (23 + 2 * a0.toNatClampNeg) (63 + 2 * q1.1.toNatClampNeg) (-0)).bind fun I27 => some (true, I27) else (f0_moveFrom q3.2 (23 + 2 * a0.toNatClampNeg) (63 + 2 * q1.1.toNatClampNeg) 0).bind fun I26 => some (true, I26)) else none else none else none)) else none else some (true, q3.2)))) else some (false, q1.2))
set_option maxRecDepth 100000 in
set_option maxHeartbeats 4000000 in
theorem f2_readRow_ok (E : gEnv) (I : gI) (a0 : Int32) (a1 : Int32) (r : Bool) (I' : gI) (hf : f2_readRow I a0 a1 = some (r, I')) : Ctr E yX2_readRow cX2_readRow 6 (some .boolean) 3 0 0 [vr 19, vi a0, vi a1] (mm I) (some (vi (b2i r))) (mm I') := by
  refine Ctr.mk (by decide +kernel) rfl (Nat.le_of_ble_eq_true rfl) fun κ X hR _ => ?_
  have X : Cx E κ cX2_readRow 6 RX2 (some .boolean) 3 0 0 := X
  show G E κ 0 0 0 [some (vr 19), some (vi a0), some (vi a1), none, none, none] [] (mm I)
  unfold f2_readRow at hf
  refine G_aload_n (x := some (19)) X dX2_readRow_0 rfl rfl ?_
  refine G_iload_n (x := a1) X dX2_readRow_1 rfl rfl ?_
  refine G_aload_n (x := some (19)) X dX2_readRow_2 rfl rfl ?_
  refine M_getI X fd_X2_29 rfl (show SH[19]? = some (_, 0) from rfl) dX2_readRow_3 ?_
  refine G_iconst (v := 1) X dX2_readRow_6 rfl ?_
  refine G_isub X dX2_readRow_7 ?_
  obtain ⟨⟨v1, I1⟩, hk1, hf⟩ := obd hf
  try dsimp only at hf
  refine G_callV (As := [vi a1, vi ((I 19 7) - 1)]) X (f2_readNumber_ok E I a1 ((I 19 7) - 1) v1 I1 hk1) cb_X2_74 vi_X2_readNumber (ci := 2) rfl rfl (show SH[19]? = some (_, 0) from rfl) rfl rfl (Nat.le_of_ble_eq_true rfl) (by decide) (by decide) rfl (Nat.le_refl _) (Nat.le_refl _) dX2_readRow_8 ?_
  show G E κ _ _ _ [some (vr 19), some (vi a0), some (vi a1), none, none, none] [vi v1] (mm I1)
  refine G_istore_n X dX2_readRow_11 rfl rfl (ls' := [some (vr 19), some (vi a0), some (vi a1), some (vi v1), none, none]) rfl ?_
  refine G_iload_n (x := v1) X dX2_readRow_12 rfl rfl ?_
  refine G_if_ge (tgt := 18) X dX2_readRow_13 (by decide) (fun hc2 => ?_) (fun hc2 => ?_)
  · have hf := (if_pos hc2).symm.trans hf
    refine G_aload_n (x := some (19)) X dX2_readRow_18 rfl rfl ?_
    obtain ⟨⟨v3, I3⟩, hk3, hf⟩ := obd hf
    try dsimp only at hf
    refine G_callV (As := []) X (f2_nextSign_ok E I1  v3 I3 hk3) cb_X2_43 vi_X2_nextSign (ci := 2) rfl rfl (show SH[19]? = some (_, 0) from rfl) rfl rfl (Nat.le_of_ble_eq_true rfl) (by decide) (by decide) rfl (Nat.le_refl _) (Nat.le_refl _) dX2_readRow_19 ?_
    show G E κ _ _ _ [some (vr 19), some (vi a0), some (vi a1), some (vi v1), none, none] [vi v3] (mm I3)
    refine G_istore X dX2_readRow_22 rfl (ls' := [some (vr 19), some (vi a0), some (vi a1), some (vi v1), some (vi v3), none]) rfl ?_
    refine G_iconst (v := 0) X dX2_readRow_24 rfl ?_
    refine G_istore X dX2_readRow_25 rfl (ls' := [some (vr 19), some (vi a0), some (vi a1), some (vi v1), some (vi v3), some (vi 0)]) rfl ?_
    refine G_iload (x := v3) X dX2_readRow_27 rfl ?_
    refine G_bipush (v := 60) X dX2_readRow_29 rfl ?_
    refine G_icmp_eq (tgt := 41) X dX2_readRow_31 (by decide) (fun hc4 => ?_) (fun hc4 => ?_)
    · have hf := (if_pos hc4).symm.trans hf
      refine G_aload_n (x := some (19)) X dX2_readRow_41 rfl rfl ?_
      refine G_dup X rfl dX2_readRow_42 ?_
      refine M_getI X fd_X2_32 rfl (show SH[19]? = some (_, 0) from rfl) dX2_readRow_43 ?_
      refine G_iconst (v := 1) X dX2_readRow_46 rfl ?_
      refine G_iadd X dX2_readRow_47 ?_
      refine M_putI X fd_X2_32 rfl (show SH[19]? = some (_, 0) from rfl) rfl rfl dX2_readRow_48 ?_
      refine G_aload_n (x := some (19)) X dX2_readRow_51 rfl rfl ?_
      refine G_iload_n (x := a1) X dX2_readRow_52 rfl rfl ?_
      refine G_sipush (v := 600) X dX2_readRow_53 rfl ?_
      obtain ⟨⟨v5, I5⟩, hk5, hf⟩ := obd hf
      try dsimp only at hf
      refine G_callV (As := [vi a1, vi 600]) X (f2_readNumber_ok E (uI I3 19 8 ((I3 19 8) + 1)) a1 600 v5 I5 hk5) cb_X2_74 vi_X2_readNumber (ci := 2) rfl rfl (show SH[19]? = some (_, 0) from rfl) rfl rfl (Nat.le_of_ble_eq_true rfl) (by decide) (by decide) rfl (Nat.le_refl _) (Nat.le_refl _) dX2_readRow_56 ?_
      show G E κ _ _ _ [some (vr 19), some (vi a0), some (vi a1), some (vi v1), some (vi v3), some (vi 0)] [vi v5] (mm I5)
      refine G_istore X dX2_readRow_59 rfl (ls' := [some (vr 19), some (vi a0), some (vi a1), some (vi v1), some (vi v3), some (vi v5)]) rfl ?_
      refine G_iload (x := v5) X dX2_readRow_61 rfl ?_
      refine G_if_ge (tgt := 68) X dX2_readRow_63 (by decide) (fun hc6 => ?_) (fun hc6 => ?_)
      · have hf := (if_pos hc6).symm.trans hf
        refine G_aload_n (x := some (19)) X dX2_readRow_68 rfl rfl ?_
        refine M_getI X fd_X2_35 rfl (show SH[19]? = some (_, 0) from rfl) dX2_readRow_69 ?_
        refine G_if_ne (tgt := 123) X dX2_readRow_72 (by decide) (fun hc7 => ?_) (fun hc7 => ?_)
        · have hf := (if_neg hc7).symm.trans hf
          refine G_iconst (v := 1) X dX2_readRow_123 rfl ?_
          obtain ⟨rfl, rfl⟩ := Prod.mk.inj (Option.some.inj hf)
          exact G_iret X hR rfl (nar_b2i true) dX2_readRow_124
        · have hf := (if_pos hc7).symm.trans hf
          refine G_iload_n (x := v1) X dX2_readRow_75 rfl rfl ?_
          refine G_aload_n (x := some (19)) X dX2_readRow_76 rfl rfl ?_
          obtain ⟨hc8, hf⟩ := ock hf
          refine M_getR X fd_X2_21 rfl (show SH[19]? = some (_, 0) from rfl) (p_rw hc8) dX2_readRow_77 ?_
          refine M_alen (v := 8) X (show SH[1]? = some (_, 8) from rfl) (by decide) dX2_readRow_80 rfl ?_
          refine G_icmp_ge (tgt := 123) X dX2_readRow_81 (by decide) (fun hc9 => ?_) (fun hc9 => ?_)
          · have hf := (if_pos hc9).symm.trans hf
            refine G_iconst (v := 1) X dX2_readRow_123 rfl ?_
            obtain ⟨rfl, rfl⟩ := Prod.mk.inj (Option.some.inj hf)
            exact G_iret X hR rfl (nar_b2i true) dX2_readRow_124
          · have hf := (if_neg hc9).symm.trans hf
            refine G_iload_n (x := a0) X dX2_readRow_84 rfl rfl ?_
            refine G_aload_n (x := some (19)) X dX2_readRow_85 rfl rfl ?_
            refine M_getR X fd_X2_17 rfl (show SH[19]? = some (_, 0) from rfl) rfl dX2_readRow_86 ?_
            refine M_alen (v := 19) X (show SH[21]? = some (_, 19) from rfl) (by decide) dX2_readRow_89 rfl ?_
            refine G_icmp_ge (tgt := 123) X dX2_readRow_90 (by decide) (fun hc10 => ?_) (fun hc10 => ?_)
            · have hf := (if_pos hc10).symm.trans hf
              refine G_iconst (v := 1) X dX2_readRow_123 rfl ?_
              obtain ⟨rfl, rfl⟩ := Prod.mk.inj (Option.some.inj hf)
              exact G_iret X hR rfl (nar_b2i true) dX2_readRow_124
            · have hf := (if_neg hc10).symm.trans hf
              refine G_aload_n (x := some (19)) X dX2_readRow_93 rfl rfl ?_
              refine M_getR X fd_X2_17 rfl (show SH[19]? = some (_, 0) from rfl) rfl dX2_readRow_94 ?_
              refine G_iload_n (x := a0) X dX2_readRow_97 rfl rfl ?_
              obtain ⟨hc11, hf⟩ := ock hf
              refine M_aald (r := 23 + 2 * a0.toNatClampNeg) X (show SH[21]? = some (12, 19) from rfl) (by decide) hc11 (p_val (ib_lt hc11)) dX2_readRow_98 ?_
              refine G_aload_n (x := some (19)) X dX2_readRow_99 rfl rfl ?_
              obtain ⟨hc12, hf⟩ := ock hf
              refine M_getR X fd_X2_21 rfl (show SH[19]? = some (_, 0) from rfl) (p_rw hc12) dX2_readRow_100 ?_
              refine G_iload_n (x := v1) X dX2_readRow_103 rfl rfl ?_
              obtain ⟨hc13, hf⟩ := ock hf
              refine M_aald (r := 63 + 2 * v1.toNatClampNeg) X (show SH[1]? = some (12, 8) from rfl) (by decide) hc13 (p_row (ib_lt hc13)) dX2_readRow_104 ?_
              refine G_iload (x := v3) X dX2_readRow_105 rfl ?_
              refine G_bipush (v := 62) X dX2_readRow_107 rfl ?_
              refine G_icmp_ne (tgt := 118) X dX2_readRow_109 (by decide) (fun hc14 => ?_) (fun hc14 => ?_)
              · have hf := (if_neg hc14).symm.trans hf
                refine G_iload (x := v5) X dX2_readRow_118 rfl ?_
                obtain ⟨I15, hk15, hf⟩ := obd hf
                refine G_callV (As := [vr (63 + 2 * v1.toNatClampNeg), vi v5]) X (f0_moveFrom_ok E I5 (23 + 2 * a0.toNatClampNeg) (vB_is (ib_lt hc11)) (63 + 2 * v1.toNatClampNeg) (rB_is (ib_lt hc13)) v5 I15 hk15) cb_X2_78 vi_X0_moveFrom (ci := 0) rfl rfl (show SH[23 + 2 * a0.toNatClampNeg]? = some (_, 0) from (vB_is (ib_lt hc11)).1) rfl rfl (Nat.le_of_ble_eq_true rfl) (by decide) (by decide) rfl (Nat.le_refl _) (Nat.le_refl _) dX2_readRow_120 ?_
                show G E κ _ _ _ [some (vr 19), some (vi a0), some (vi a1), some (vi v1), some (vi v3), some (vi v5)] [] (mm I15)
                refine G_iconst (v := 1) X dX2_readRow_123 rfl ?_
                obtain ⟨rfl, rfl⟩ := Prod.mk.inj (Option.some.inj hf)
                exact G_iret X hR rfl (nar_b2i true) dX2_readRow_124
              · have hf := (if_pos hc14).symm.trans hf
                refine G_iload (x := v5) X dX2_readRow_112 rfl ?_
                refine G_ineg X dX2_readRow_114 ?_
                refine G_goto (tgt := 120) X dX2_readRow_115 (by decide) ?_
                obtain ⟨I16, hk16, hf⟩ := obd hf
                refine G_callV (As := [vr (63 + 2 * v1.toNatClampNeg), vi (-v5)]) X (f0_moveFrom_ok E I5 (23 + 2 * a0.toNatClampNeg) (vB_is (ib_lt hc11)) (63 + 2 * v1.toNatClampNeg) (rB_is (ib_lt hc13)) (-v5) I16 hk16) cb_X2_78 vi_X0_moveFrom (ci := 0) rfl rfl (show SH[23 + 2 * a0.toNatClampNeg]? = some (_, 0) from (vB_is (ib_lt hc11)).1) rfl rfl (Nat.le_of_ble_eq_true rfl) (by decide) (by decide) rfl (Nat.le_refl _) (Nat.le_refl _) dX2_readRow_120 ?_
                show G E κ _ _ _ [some (vr 19), some (vi a0), some (vi a1), some (vi v1), some (vi v3), some (vi v5)] [] (mm I16)
                refine G_iconst (v := 1) X dX2_readRow_123 rfl ?_
                obtain ⟨rfl, rfl⟩ := Prod.mk.inj (Option.some.inj hf)
                exact G_iret X hR rfl (nar_b2i true) dX2_readRow_124
      · have hf := (if_neg hc6).symm.trans hf
        refine G_iconst (v := 0) X dX2_readRow_66 rfl ?_
        obtain ⟨rfl, rfl⟩ := Prod.mk.inj (Option.some.inj hf)
        exact G_iret X hR rfl (nar_b2i false) dX2_readRow_67
    · have hf := (if_neg hc4).symm.trans hf
      refine G_iload (x := v3) X dX2_readRow_34 rfl ?_
      refine G_bipush (v := 62) X dX2_readRow_36 rfl ?_
      refine G_icmp_ne (tgt := 68) X dX2_readRow_38 (by decide) (fun hc17 => ?_) (fun hc17 => ?_)
      · have hf := (if_neg hc17).symm.trans hf
        refine G_aload_n (x := some (19)) X dX2_readRow_68 rfl rfl ?_
        refine M_getI X fd_X2_35 rfl (show SH[19]? = some (_, 0) from rfl) dX2_readRow_69 ?_
        refine G_if_ne (tgt := 123) X dX2_readRow_72 (by decide) (fun hc18 => ?_) (fun hc18 => ?_)
        · have hf := (if_neg hc18).symm.trans hf
          refine G_iconst (v := 1) X dX2_readRow_123 rfl ?_
          obtain ⟨rfl, rfl⟩ := Prod.mk.inj (Option.some.inj hf)
          exact G_iret X hR rfl (nar_b2i true) dX2_readRow_124
        · have hf := (if_pos hc18).symm.trans hf
          refine G_iload_n (x := v1) X dX2_readRow_75 rfl rfl ?_
          refine G_aload_n (x := some (19)) X dX2_readRow_76 rfl rfl ?_
          obtain ⟨hc19, hf⟩ := ock hf
          refine M_getR X fd_X2_21 rfl (show SH[19]? = some (_, 0) from rfl) (p_rw hc19) dX2_readRow_77 ?_
          refine M_alen (v := 8) X (show SH[1]? = some (_, 8) from rfl) (by decide) dX2_readRow_80 rfl ?_
          refine G_icmp_ge (tgt := 123) X dX2_readRow_81 (by decide) (fun hc20 => ?_) (fun hc20 => ?_)
          · have hf := (if_pos hc20).symm.trans hf
            refine G_iconst (v := 1) X dX2_readRow_123 rfl ?_
            obtain ⟨rfl, rfl⟩ := Prod.mk.inj (Option.some.inj hf)
            exact G_iret X hR rfl (nar_b2i true) dX2_readRow_124
          · have hf := (if_neg hc20).symm.trans hf
            refine G_iload_n (x := a0) X dX2_readRow_84 rfl rfl ?_
            refine G_aload_n (x := some (19)) X dX2_readRow_85 rfl rfl ?_
            refine M_getR X fd_X2_17 rfl (show SH[19]? = some (_, 0) from rfl) rfl dX2_readRow_86 ?_
            refine M_alen (v := 19) X (show SH[21]? = some (_, 19) from rfl) (by decide) dX2_readRow_89 rfl ?_
            refine G_icmp_ge (tgt := 123) X dX2_readRow_90 (by decide) (fun hc21 => ?_) (fun hc21 => ?_)
            · have hf := (if_pos hc21).symm.trans hf
              refine G_iconst (v := 1) X dX2_readRow_123 rfl ?_
              obtain ⟨rfl, rfl⟩ := Prod.mk.inj (Option.some.inj hf)
              exact G_iret X hR rfl (nar_b2i true) dX2_readRow_124
            · have hf := (if_neg hc21).symm.trans hf
              refine G_aload_n (x := some (19)) X dX2_readRow_93 rfl rfl ?_
              refine M_getR X fd_X2_17 rfl (show SH[19]? = some (_, 0) from rfl) rfl dX2_readRow_94 ?_
              refine G_iload_n (x := a0) X dX2_readRow_97 rfl rfl ?_
              obtain ⟨hc22, hf⟩ := ock hf
              refine M_aald (r := 23 + 2 * a0.toNatClampNeg) X (show SH[21]? = some (12, 19) from rfl) (by decide) hc22 (p_val (ib_lt hc22)) dX2_readRow_98 ?_
              refine G_aload_n (x := some (19)) X dX2_readRow_99 rfl rfl ?_
              obtain ⟨hc23, hf⟩ := ock hf
              refine M_getR X fd_X2_21 rfl (show SH[19]? = some (_, 0) from rfl) (p_rw hc23) dX2_readRow_100 ?_
              refine G_iload_n (x := v1) X dX2_readRow_103 rfl rfl ?_
              obtain ⟨hc24, hf⟩ := ock hf
              refine M_aald (r := 63 + 2 * v1.toNatClampNeg) X (show SH[1]? = some (12, 8) from rfl) (by decide) hc24 (p_row (ib_lt hc24)) dX2_readRow_104 ?_
              refine G_iload (x := v3) X dX2_readRow_105 rfl ?_
              refine G_bipush (v := 62) X dX2_readRow_107 rfl ?_
              refine G_icmp_ne (tgt := 118) X dX2_readRow_109 (by decide) (fun hc25 => ?_) (fun hc25 => ?_)
              · have hf := (if_neg hc25).symm.trans hf
                refine G_iload (x := 0) X dX2_readRow_118 rfl ?_
                obtain ⟨I26, hk26, hf⟩ := obd hf
                refine G_callV (As := [vr (63 + 2 * v1.toNatClampNeg), vi 0]) X (f0_moveFrom_ok E I3 (23 + 2 * a0.toNatClampNeg) (vB_is (ib_lt hc22)) (63 + 2 * v1.toNatClampNeg) (rB_is (ib_lt hc24)) 0 I26 hk26) cb_X2_78 vi_X0_moveFrom (ci := 0) rfl rfl (show SH[23 + 2 * a0.toNatClampNeg]? = some (_, 0) from (vB_is (ib_lt hc22)).1) rfl rfl (Nat.le_of_ble_eq_true rfl) (by decide) (by decide) rfl (Nat.le_refl _) (Nat.le_refl _) dX2_readRow_120 ?_
                show G E κ _ _ _ [some (vr 19), some (vi a0), some (vi a1), some (vi v1), some (vi v3), some (vi 0)] [] (mm I26)
                refine G_iconst (v := 1) X dX2_readRow_123 rfl ?_
                obtain ⟨rfl, rfl⟩ := Prod.mk.inj (Option.some.inj hf)
                exact G_iret X hR rfl (nar_b2i true) dX2_readRow_124
              · have hf := (if_pos hc25).symm.trans hf
                refine G_iload (x := 0) X dX2_readRow_112 rfl ?_
                refine G_ineg X dX2_readRow_114 ?_
                refine G_goto (tgt := 120) X dX2_readRow_115 (by decide) ?_
                obtain ⟨I27, hk27, hf⟩ := obd hf
                refine G_callV (As := [vr (63 + 2 * v1.toNatClampNeg), vi (-0)]) X (f0_moveFrom_ok E I3 (23 + 2 * a0.toNatClampNeg) (vB_is (ib_lt hc22)) (63 + 2 * v1.toNatClampNeg) (rB_is (ib_lt hc24)) (-0) I27 hk27) cb_X2_78 vi_X0_moveFrom (ci := 0) rfl rfl (show SH[23 + 2 * a0.toNatClampNeg]? = some (_, 0) from (vB_is (ib_lt hc22)).1) rfl rfl (Nat.le_of_ble_eq_true rfl) (by decide) (by decide) rfl (Nat.le_refl _) (Nat.le_refl _) dX2_readRow_120 ?_
                show G E κ _ _ _ [some (vr 19), some (vi a0), some (vi a1), some (vi v1), some (vi v3), some (vi 0)] [] (mm I27)
                refine G_iconst (v := 1) X dX2_readRow_123 rfl ?_
                obtain ⟨rfl, rfl⟩ := Prod.mk.inj (Option.some.inj hf)
                exact G_iret X hR rfl (nar_b2i true) dX2_readRow_124
      · have hf := (if_pos hc17).symm.trans hf
        refine G_aload_n (x := some (19)) X dX2_readRow_41 rfl rfl ?_
        refine G_dup X rfl dX2_readRow_42 ?_
        refine M_getI X fd_X2_32 rfl (show SH[19]? = some (_, 0) from rfl) dX2_readRow_43 ?_
        refine G_iconst (v := 1) X dX2_readRow_46 rfl ?_
        refine G_iadd X dX2_readRow_47 ?_
        refine M_putI X fd_X2_32 rfl (show SH[19]? = some (_, 0) from rfl) rfl rfl dX2_readRow_48 ?_
        refine G_aload_n (x := some (19)) X dX2_readRow_51 rfl rfl ?_
        refine G_iload_n (x := a1) X dX2_readRow_52 rfl rfl ?_
        refine G_sipush (v := 600) X dX2_readRow_53 rfl ?_
        obtain ⟨⟨v28, I28⟩, hk28, hf⟩ := obd hf
        try dsimp only at hf
        refine G_callV (As := [vi a1, vi 600]) X (f2_readNumber_ok E (uI I3 19 8 ((I3 19 8) + 1)) a1 600 v28 I28 hk28) cb_X2_74 vi_X2_readNumber (ci := 2) rfl rfl (show SH[19]? = some (_, 0) from rfl) rfl rfl (Nat.le_of_ble_eq_true rfl) (by decide) (by decide) rfl (Nat.le_refl _) (Nat.le_refl _) dX2_readRow_56 ?_
        show G E κ _ _ _ [some (vr 19), some (vi a0), some (vi a1), some (vi v1), some (vi v3), some (vi 0)] [vi v28] (mm I28)
        refine G_istore X dX2_readRow_59 rfl (ls' := [some (vr 19), some (vi a0), some (vi a1), some (vi v1), some (vi v3), some (vi v28)]) rfl ?_
        refine G_iload (x := v28) X dX2_readRow_61 rfl ?_
        refine G_if_ge (tgt := 68) X dX2_readRow_63 (by decide) (fun hc29 => ?_) (fun hc29 => ?_)
        · have hf := (if_pos hc29).symm.trans hf
          refine G_aload_n (x := some (19)) X dX2_readRow_68 rfl rfl ?_
          refine M_getI X fd_X2_35 rfl (show SH[19]? = some (_, 0) from rfl) dX2_readRow_69 ?_
          refine G_if_ne (tgt := 123) X dX2_readRow_72 (by decide) (fun hc30 => ?_) (fun hc30 => ?_)
          · have hf := (if_neg hc30).symm.trans hf
            refine G_iconst (v := 1) X dX2_readRow_123 rfl ?_
            obtain ⟨rfl, rfl⟩ := Prod.mk.inj (Option.some.inj hf)
            exact G_iret X hR rfl (nar_b2i true) dX2_readRow_124
          · have hf := (if_pos hc30).symm.trans hf
            refine G_iload_n (x := v1) X dX2_readRow_75 rfl rfl ?_
            refine G_aload_n (x := some (19)) X dX2_readRow_76 rfl rfl ?_
            obtain ⟨hc31, hf⟩ := ock hf
            refine M_getR X fd_X2_21 rfl (show SH[19]? = some (_, 0) from rfl) (p_rw hc31) dX2_readRow_77 ?_
            refine M_alen (v := 8) X (show SH[1]? = some (_, 8) from rfl) (by decide) dX2_readRow_80 rfl ?_
            refine G_icmp_ge (tgt := 123) X dX2_readRow_81 (by decide) (fun hc32 => ?_) (fun hc32 => ?_)
            · have hf := (if_pos hc32).symm.trans hf
              refine G_iconst (v := 1) X dX2_readRow_123 rfl ?_
              obtain ⟨rfl, rfl⟩ := Prod.mk.inj (Option.some.inj hf)
              exact G_iret X hR rfl (nar_b2i true) dX2_readRow_124
            · have hf := (if_neg hc32).symm.trans hf
              refine G_iload_n (x := a0) X dX2_readRow_84 rfl rfl ?_
              refine G_aload_n (x := some (19)) X dX2_readRow_85 rfl rfl ?_
              refine M_getR X fd_X2_17 rfl (show SH[19]? = some (_, 0) from rfl) rfl dX2_readRow_86 ?_
              refine M_alen (v := 19) X (show SH[21]? = some (_, 19) from rfl) (by decide) dX2_readRow_89 rfl ?_
              refine G_icmp_ge (tgt := 123) X dX2_readRow_90 (by decide) (fun hc33 => ?_) (fun hc33 => ?_)
              · have hf := (if_pos hc33).symm.trans hf
                refine G_iconst (v := 1) X dX2_readRow_123 rfl ?_
                obtain ⟨rfl, rfl⟩ := Prod.mk.inj (Option.some.inj hf)
                exact G_iret X hR rfl (nar_b2i true) dX2_readRow_124
              · have hf := (if_neg hc33).symm.trans hf
                refine G_aload_n (x := some (19)) X dX2_readRow_93 rfl rfl ?_
                refine M_getR X fd_X2_17 rfl (show SH[19]? = some (_, 0) from rfl) rfl dX2_readRow_94 ?_
                refine G_iload_n (x := a0) X dX2_readRow_97 rfl rfl ?_
                obtain ⟨hc34, hf⟩ := ock hf
                refine M_aald (r := 23 + 2 * a0.toNatClampNeg) X (show SH[21]? = some (12, 19) from rfl) (by decide) hc34 (p_val (ib_lt hc34)) dX2_readRow_98 ?_
                refine G_aload_n (x := some (19)) X dX2_readRow_99 rfl rfl ?_
                obtain ⟨hc35, hf⟩ := ock hf
                refine M_getR X fd_X2_21 rfl (show SH[19]? = some (_, 0) from rfl) (p_rw hc35) dX2_readRow_100 ?_
                refine G_iload_n (x := v1) X dX2_readRow_103 rfl rfl ?_
                obtain ⟨hc36, hf⟩ := ock hf
                refine M_aald (r := 63 + 2 * v1.toNatClampNeg) X (show SH[1]? = some (12, 8) from rfl) (by decide) hc36 (p_row (ib_lt hc36)) dX2_readRow_104 ?_
                refine G_iload (x := v3) X dX2_readRow_105 rfl ?_
                refine G_bipush (v := 62) X dX2_readRow_107 rfl ?_
                refine G_icmp_ne (tgt := 118) X dX2_readRow_109 (by decide) (fun hc37 => ?_) (fun hc37 => ?_)
                · have hf := (if_neg hc37).symm.trans hf
                  refine G_iload (x := v28) X dX2_readRow_118 rfl ?_
                  obtain ⟨I38, hk38, hf⟩ := obd hf
                  refine G_callV (As := [vr (63 + 2 * v1.toNatClampNeg), vi v28]) X (f0_moveFrom_ok E I28 (23 + 2 * a0.toNatClampNeg) (vB_is (ib_lt hc34)) (63 + 2 * v1.toNatClampNeg) (rB_is (ib_lt hc36)) v28 I38 hk38) cb_X2_78 vi_X0_moveFrom (ci := 0) rfl rfl (show SH[23 + 2 * a0.toNatClampNeg]? = some (_, 0) from (vB_is (ib_lt hc34)).1) rfl rfl (Nat.le_of_ble_eq_true rfl) (by decide) (by decide) rfl (Nat.le_refl _) (Nat.le_refl _) dX2_readRow_120 ?_
                  show G E κ _ _ _ [some (vr 19), some (vi a0), some (vi a1), some (vi v1), some (vi v3), some (vi v28)] [] (mm I38)
                  refine G_iconst (v := 1) X dX2_readRow_123 rfl ?_
                  obtain ⟨rfl, rfl⟩ := Prod.mk.inj (Option.some.inj hf)
                  exact G_iret X hR rfl (nar_b2i true) dX2_readRow_124
                · have hf := (if_pos hc37).symm.trans hf
                  refine G_iload (x := v28) X dX2_readRow_112 rfl ?_
                  refine G_ineg X dX2_readRow_114 ?_
                  refine G_goto (tgt := 120) X dX2_readRow_115 (by decide) ?_
                  obtain ⟨I39, hk39, hf⟩ := obd hf
                  refine G_callV (As := [vr (63 + 2 * v1.toNatClampNeg), vi (-v28)]) X (f0_moveFrom_ok E I28 (23 + 2 * a0.toNatClampNeg) (vB_is (ib_lt hc34)) (63 + 2 * v1.toNatClampNeg) (rB_is (ib_lt hc36)) (-v28) I39 hk39) cb_X2_78 vi_X0_moveFrom (ci := 0) rfl rfl (show SH[23 + 2 * a0.toNatClampNeg]? = some (_, 0) from (vB_is (ib_lt hc34)).1) rfl rfl (Nat.le_of_ble_eq_true rfl) (by decide) (by decide) rfl (Nat.le_refl _) (Nat.le_refl _) dX2_readRow_120 ?_
                  show G E κ _ _ _ [some (vr 19), some (vi a0), some (vi a1), some (vi v1), some (vi v3), some (vi v28)] [] (mm I39)
                  refine G_iconst (v := 1) X dX2_readRow_123 rfl ?_
                  obtain ⟨rfl, rfl⟩ := Prod.mk.inj (Option.some.inj hf)
                  exact G_iret X hR rfl (nar_b2i true) dX2_readRow_124
        · have hf := (if_neg hc29).symm.trans hf
          refine G_iconst (v := 0) X dX2_readRow_66 rfl ?_
          obtain ⟨rfl, rfl⟩ := Prod.mk.inj (Option.some.inj hf)
          exact G_iret X hR rfl (nar_b2i false) dX2_readRow_67
  · have hf := (if_neg hc2).symm.trans hf
    refine G_iconst (v := 0) X dX2_readRow_16 rfl ?_
    obtain ⟨rfl, rfl⟩ := Prod.mk.inj (Option.some.inj hf)
    exact G_iret X hR rfl (nar_b2i false) dX2_readRow_17

def f2_readProduct_L13 (R_readFactor : gI → Int32 → Int32 → Option (Bool × gI)) : Nat → gI → Int32 → Int32 → Int32 → Option (Bool × gI)
  | 0, _, _, _, _ => none
  | k + 1, I, x1, x2, x3 => (if 100 < x3 then some (true, I) else (f2_nextSign I).bind fun q4 => (if q4.1 = 38 then (R_readFactor (uI q4.2 19 8 ((q4.2 19 8) + 1)) (x1 + 1) x2).bind fun q6 => (if q6.1 = true then (if q4.1 = 38 then (f2_combineAt q6.2 x1 0).bind fun I10 => f2_readProduct_L13 R_readFactor k I10 x1 x2 (x3 + 1) else (f2_combineAt q6.2 x1 2).bind fun I9 => f2_readProduct_L13 R_readFactor k I9 x1 x2 (x3 + 1)) else some (false, q6.2)) else (if q4.1 = 45 then (R_readFactor (uI q4.2 19 8 ((q4.2 19 8) + 1)) (x1 + 1) x2).bind fun q12 => (if q12.1 = true then (if q4.1 = 38 then (f2_combineAt q12.2 x1 0).bind fun I16 => f2_readProduct_L13 R_readFactor k I16 x1 x2 (x3 + 1) else (f2_combineAt q12.2 x1 2).bind fun I15 => f2_readProduct_L13 R_readFactor k I15 x1 x2 (x3 + 1)) else some (false, q12.2)) else some (true, q4.2))))
set_option maxRecDepth 100000 in
set_option maxHeartbeats 4000000 in
theorem f2_readProduct_L13_ok (R_readFactor : gI → Int32 → Int32 → Option (Bool × gI)) (d : Nat) (h12 : 12 ≤ d) {E : gEnv} (d_readFactor : Nat) (hd_readFactor : d_readFactor + 1 ≤ d) (h_readFactor : ∀ (I : gI) (a0 a1 : Int32) (r : Bool) (I' : gI), R_readFactor I a0 a1 = some (r, I') → Ctr E yX2_readFactor cX2_readFactor 4 (some .boolean) d_readFactor 0 0 [vr 19, vi a0, vi a1] (mm I) (some (vi (b2i r))) (mm I')) {κ : gCtx} (X : Cx E κ cX2_readProduct 5 RX2 (some .boolean) d 0 0) : ∀ (k : Nat) (I : gI) (x1 : Int32) (x2 : Int32) (x3 : Int32) (r : Bool) (I' : gI) (hR : gRt E κ 0 0 (some (vi (b2i r))) (mm I')) (hf : f2_readProduct_L13 R_readFactor k I x1 x2 x3 = some (r, I')), G E κ 0 0 13 [some (vr 19), some (vi x1), some (vi x2), some (vi x3), none] [] (mm I) := by
  intro k
  induction k with
  | zero =>
    intros
    rename_i hf
    cases hf
  | succ k ih =>
    intro I x1 x2 x3 r I' hR hf
    refine G_iload_n (x := x3) X dX2_readProduct_13 rfl rfl ?_
    refine G_bipush (v := 100) X dX2_readProduct_14 rfl ?_
    refine G_icmp_gt (tgt := 87) X dX2_readProduct_16 (by decide) (fun hc3 => ?_) (fun hc3 => ?_)
    · have hf := (if_pos hc3).symm.trans hf
      refine G_iconst (v := 1) X dX2_readProduct_87 rfl ?_
      obtain ⟨rfl, rfl⟩ := Prod.mk.inj (Option.some.inj hf)
      exact G_iret X hR rfl (nar_b2i true) dX2_readProduct_88
    · have hf := (if_neg hc3).symm.trans hf
      refine G_aload_n (x := some (19)) X dX2_readProduct_19 rfl rfl ?_
      obtain ⟨⟨v4, I4⟩, hk4, hf⟩ := obd hf
      try dsimp only at hf
      refine G_callV (As := []) X (f2_nextSign_ok E I v4 I4 hk4) cb_X2_43 vi_X2_nextSign (ci := 2) rfl rfl (show SH[19]? = some (_, 0) from rfl) rfl rfl (Nat.le_of_ble_eq_true rfl) (by omega) (by decide) rfl (Nat.le_refl _) (Nat.le_refl _) dX2_readProduct_20 ?_
      show G E κ _ _ _ [some (vr 19), some (vi x1), some (vi x2), some (vi x3), none] [vi v4] (mm I4)
      refine G_istore X dX2_readProduct_23 rfl (ls' := [some (vr 19), some (vi x1), some (vi x2), some (vi x3), some (vi v4)]) rfl ?_
      refine G_iload (x := v4) X dX2_readProduct_25 rfl ?_
      refine G_bipush (v := 38) X dX2_readProduct_27 rfl ?_
      refine G_icmp_eq (tgt := 41) X dX2_readProduct_29 (by decide) (fun hc5 => ?_) (fun hc5 => ?_)
      · have hf := (if_pos hc5).symm.trans hf
        refine G_aload_n (x := some (19)) X dX2_readProduct_41 rfl rfl ?_
        refine G_dup X rfl dX2_readProduct_42 ?_
        refine M_getI X fd_X2_32 rfl (show SH[19]? = some (_, 0) from rfl) dX2_readProduct_43 ?_
        refine G_iconst (v := 1) X dX2_readProduct_46 rfl ?_
        refine G_iadd X dX2_readProduct_47 ?_
        refine M_putI X fd_X2_32 rfl (show SH[19]? = some (_, 0) from rfl) rfl rfl dX2_readProduct_48 ?_
        refine G_aload_n (x := some (19)) X dX2_readProduct_51 rfl rfl ?_
        refine G_iload_n (x := x1) X dX2_readProduct_52 rfl rfl ?_
        refine G_iconst (v := 1) X dX2_readProduct_53 rfl ?_
        refine G_iadd X dX2_readProduct_54 ?_
        refine G_iload_n (x := x2) X dX2_readProduct_55 rfl rfl ?_
        obtain ⟨⟨v6, I6⟩, hk6, hf⟩ := obd hf
        try dsimp only at hf
        refine G_callV (As := [vi (x1 + 1), vi x2]) X (h_readFactor (uI I4 19 8 ((I4 19 8) + 1)) (x1 + 1) x2 v6 I6 hk6) cb_X2_58 vi_X2_readFactor (ci := 2) rfl rfl (show SH[19]? = some (_, 0) from rfl) rfl rfl (Nat.le_of_ble_eq_true rfl) (by omega) (by decide) rfl (Nat.le_refl _) (Nat.le_refl _) dX2_readProduct_56 ?_
        show G E κ _ _ _ [some (vr 19), some (vi x1), some (vi x2), some (vi x3), some (vi v4)] [vi (b2i v6)] (mm I6)
        refine G_if_ne (tgt := 64) X dX2_readProduct_59 (by decide) (fun hc7 => ?_) (fun hc7 => ?_)
        · have hf := (if_pos (b2i_t hc7)).symm.trans hf
          refine G_aload_n (x := some (19)) X dX2_readProduct_64 rfl rfl ?_
          refine G_iload_n (x := x1) X dX2_readProduct_65 rfl rfl ?_
          refine G_iload (x := v4) X dX2_readProduct_66 rfl ?_
          refine G_bipush (v := 38) X dX2_readProduct_68 rfl ?_
          refine G_icmp_ne (tgt := 77) X dX2_readProduct_70 (by decide) (fun hc8 => ?_) (fun hc8 => ?_)
          · have hf := (if_neg hc8).symm.trans hf
            refine G_iconst (v := 2) X dX2_readProduct_77 rfl ?_
            obtain ⟨I9, hk9, hf⟩ := obd hf
            refine G_callV (As := [vi x1, vi 2]) X (f2_combineAt_ok E I6 x1 2 I9 hk9) cb_X2_54 vi_X2_combineAt (ci := 2) rfl rfl (show SH[19]? = some (_, 0) from rfl) rfl rfl (Nat.le_of_ble_eq_true rfl) (by omega) (by decide) rfl (Nat.le_refl _) (Nat.le_refl _) dX2_readProduct_78 ?_
            show G E κ _ _ _ [some (vr 19), some (vi x1), some (vi x2), some (vi x3), some (vi v4)] [] (mm I9)
            refine G_iinc (x := x3) (v := 1) X dX2_readProduct_81 rfl rfl rfl (ls' := [some (vr 19), some (vi x1), some (vi x2), some (vi (x3 + 1)), some (vi v4)]) rfl ?_
            refine G_goto (tgt := 13) X dX2_readProduct_84 (by decide) ?_
            refine G_weakL (ls' := [some (vr 19), some (vi x1), some (vi x2), some (vi (x3 + 1)), none]) ⟨Or.inr rfl, ⟨Or.inr rfl, ⟨Or.inr rfl, ⟨Or.inr rfl, ⟨Or.inl rfl, trivial⟩⟩⟩⟩⟩ ?_
            exact ih I9 x1 x2 (x3 + 1) _ _ hR hf
          · have hf := (if_pos hc8).symm.trans hf
            refine G_iconst (v := 0) X dX2_readProduct_73 rfl ?_
            refine G_goto (tgt := 78) X dX2_readProduct_74 (by decide) ?_
            obtain ⟨I10, hk10, hf⟩ := obd hf
            refine G_callV (As := [vi x1, vi 0]) X (f2_combineAt_ok E I6 x1 0 I10 hk10) cb_X2_54 vi_X2_combineAt (ci := 2) rfl rfl (show SH[19]? = some (_, 0) from rfl) rfl rfl (Nat.le_of_ble_eq_true rfl) (by omega) (by decide) rfl (Nat.le_refl _) (Nat.le_refl _) dX2_readProduct_78 ?_
            show G E κ _ _ _ [some (vr 19), some (vi x1), some (vi x2), some (vi x3), some (vi v4)] [] (mm I10)
            refine G_iinc (x := x3) (v := 1) X dX2_readProduct_81 rfl rfl rfl (ls' := [some (vr 19), some (vi x1), some (vi x2), some (vi (x3 + 1)), some (vi v4)]) rfl ?_
            refine G_goto (tgt := 13) X dX2_readProduct_84 (by decide) ?_
            refine G_weakL (ls' := [some (vr 19), some (vi x1), some (vi x2), some (vi (x3 + 1)), none]) ⟨Or.inr rfl, ⟨Or.inr rfl, ⟨Or.inr rfl, ⟨Or.inr rfl, ⟨Or.inl rfl, trivial⟩⟩⟩⟩⟩ ?_
            exact ih I10 x1 x2 (x3 + 1) _ _ hR hf
        · have hf := (if_neg (b2i_f hc7)).symm.trans hf
          refine G_iconst (v := 0) X dX2_readProduct_62 rfl ?_
          obtain ⟨rfl, rfl⟩ := Prod.mk.inj (Option.some.inj hf)
          exact G_iret X hR rfl (nar_b2i false) dX2_readProduct_63
      · have hf := (if_neg hc5).symm.trans hf
        refine G_iload (x := v4) X dX2_readProduct_32 rfl ?_
        refine G_bipush (v := 45) X dX2_readProduct_34 rfl ?_
        refine G_icmp_eq (tgt := 41) X dX2_readProduct_36 (by decide) (fun hc11 => ?_) (fun hc11 => ?_)
        · have hf := (if_pos hc11).symm.trans hf
          refine G_aload_n (x := some (19)) X dX2_readProduct_41 rfl rfl ?_
          refine G_dup X rfl dX2_readProduct_42 ?_
          refine M_getI X fd_X2_32 rfl (show SH[19]? = some (_, 0) from rfl) dX2_readProduct_43 ?_
          refine G_iconst (v := 1) X dX2_readProduct_46 rfl ?_
          refine G_iadd X dX2_readProduct_47 ?_
          refine M_putI X fd_X2_32 rfl (show SH[19]? = some (_, 0) from rfl) rfl rfl dX2_readProduct_48 ?_
          refine G_aload_n (x := some (19)) X dX2_readProduct_51 rfl rfl ?_
          refine G_iload_n (x := x1) X dX2_readProduct_52 rfl rfl ?_
          refine G_iconst (v := 1) X dX2_readProduct_53 rfl ?_
          refine G_iadd X dX2_readProduct_54 ?_
          refine G_iload_n (x := x2) X dX2_readProduct_55 rfl rfl ?_
          obtain ⟨⟨v12, I12⟩, hk12, hf⟩ := obd hf
          try dsimp only at hf
          refine G_callV (As := [vi (x1 + 1), vi x2]) X (h_readFactor (uI I4 19 8 ((I4 19 8) + 1)) (x1 + 1) x2 v12 I12 hk12) cb_X2_58 vi_X2_readFactor (ci := 2) rfl rfl (show SH[19]? = some (_, 0) from rfl) rfl rfl (Nat.le_of_ble_eq_true rfl) (by omega) (by decide) rfl (Nat.le_refl _) (Nat.le_refl _) dX2_readProduct_56 ?_
          show G E κ _ _ _ [some (vr 19), some (vi x1), some (vi x2), some (vi x3), some (vi v4)] [vi (b2i v12)] (mm I12)
          refine G_if_ne (tgt := 64) X dX2_readProduct_59 (by decide) (fun hc13 => ?_) (fun hc13 => ?_)
          · have hf := (if_pos (b2i_t hc13)).symm.trans hf
            refine G_aload_n (x := some (19)) X dX2_readProduct_64 rfl rfl ?_
            refine G_iload_n (x := x1) X dX2_readProduct_65 rfl rfl ?_
            refine G_iload (x := v4) X dX2_readProduct_66 rfl ?_
            refine G_bipush (v := 38) X dX2_readProduct_68 rfl ?_
            refine G_icmp_ne (tgt := 77) X dX2_readProduct_70 (by decide) (fun hc14 => ?_) (fun hc14 => ?_)
            · have hf := (if_neg hc14).symm.trans hf
              refine G_iconst (v := 2) X dX2_readProduct_77 rfl ?_
              obtain ⟨I15, hk15, hf⟩ := obd hf
              refine G_callV (As := [vi x1, vi 2]) X (f2_combineAt_ok E I12 x1 2 I15 hk15) cb_X2_54 vi_X2_combineAt (ci := 2) rfl rfl (show SH[19]? = some (_, 0) from rfl) rfl rfl (Nat.le_of_ble_eq_true rfl) (by omega) (by decide) rfl (Nat.le_refl _) (Nat.le_refl _) dX2_readProduct_78 ?_
              show G E κ _ _ _ [some (vr 19), some (vi x1), some (vi x2), some (vi x3), some (vi v4)] [] (mm I15)
              refine G_iinc (x := x3) (v := 1) X dX2_readProduct_81 rfl rfl rfl (ls' := [some (vr 19), some (vi x1), some (vi x2), some (vi (x3 + 1)), some (vi v4)]) rfl ?_
              refine G_goto (tgt := 13) X dX2_readProduct_84 (by decide) ?_
              refine G_weakL (ls' := [some (vr 19), some (vi x1), some (vi x2), some (vi (x3 + 1)), none]) ⟨Or.inr rfl, ⟨Or.inr rfl, ⟨Or.inr rfl, ⟨Or.inr rfl, ⟨Or.inl rfl, trivial⟩⟩⟩⟩⟩ ?_
              exact ih I15 x1 x2 (x3 + 1) _ _ hR hf
            · have hf := (if_pos hc14).symm.trans hf
              refine G_iconst (v := 0) X dX2_readProduct_73 rfl ?_
              refine G_goto (tgt := 78) X dX2_readProduct_74 (by decide) ?_
              obtain ⟨I16, hk16, hf⟩ := obd hf
              refine G_callV (As := [vi x1, vi 0]) X (f2_combineAt_ok E I12 x1 0 I16 hk16) cb_X2_54 vi_X2_combineAt (ci := 2) rfl rfl (show SH[19]? = some (_, 0) from rfl) rfl rfl (Nat.le_of_ble_eq_true rfl) (by omega) (by decide) rfl (Nat.le_refl _) (Nat.le_refl _) dX2_readProduct_78 ?_
              show G E κ _ _ _ [some (vr 19), some (vi x1), some (vi x2), some (vi x3), some (vi v4)] [] (mm I16)
              refine G_iinc (x := x3) (v := 1) X dX2_readProduct_81 rfl rfl rfl (ls' := [some (vr 19), some (vi x1), some (vi x2), some (vi (x3 + 1)), some (vi v4)]) rfl ?_
              refine G_goto (tgt := 13) X dX2_readProduct_84 (by decide) ?_
              refine G_weakL (ls' := [some (vr 19), some (vi x1), some (vi x2), some (vi (x3 + 1)), none]) ⟨Or.inr rfl, ⟨Or.inr rfl, ⟨Or.inr rfl, ⟨Or.inr rfl, ⟨Or.inl rfl, trivial⟩⟩⟩⟩⟩ ?_
              exact ih I16 x1 x2 (x3 + 1) _ _ hR hf
          · have hf := (if_neg (b2i_f hc13)).symm.trans hf
            refine G_iconst (v := 0) X dX2_readProduct_62 rfl ?_
            obtain ⟨rfl, rfl⟩ := Prod.mk.inj (Option.some.inj hf)
            exact G_iret X hR rfl (nar_b2i false) dX2_readProduct_63
        · have hf := (if_neg hc11).symm.trans hf
          refine G_iconst (v := 1) X dX2_readProduct_39 rfl ?_
          obtain ⟨rfl, rfl⟩ := Prod.mk.inj (Option.some.inj hf)
          exact G_iret X hR rfl (nar_b2i true) dX2_readProduct_40

def f2_readProduct (R_readFactor : gI → Int32 → Int32 → Option (Bool × gI)) (I : gI) (a0 : Int32) (a1 : Int32) : Option (Bool × gI) := (R_readFactor I a0 a1).bind fun q1 => (if q1.1 = true then f2_readProduct_L13 R_readFactor FU q1.2 a0 a1 1 else some (false, q1.2))
set_option maxRecDepth 100000 in
set_option maxHeartbeats 4000000 in
theorem f2_readProduct_ok (R_readFactor : gI → Int32 → Int32 → Option (Bool × gI)) (d : Nat) (h12 : 12 ≤ d) {E : gEnv} (d_readFactor : Nat) (hd_readFactor : d_readFactor + 1 ≤ d) (h_readFactor : ∀ (I : gI) (a0 a1 : Int32) (r : Bool) (I' : gI), R_readFactor I a0 a1 = some (r, I') → Ctr E yX2_readFactor cX2_readFactor 4 (some .boolean) d_readFactor 0 0 [vr 19, vi a0, vi a1] (mm I) (some (vi (b2i r))) (mm I')) (I : gI) (a0 : Int32) (a1 : Int32) (r : Bool) (I' : gI) (hf : f2_readProduct R_readFactor I a0 a1 = some (r, I')) : Ctr E yX2_readProduct cX2_readProduct 5 (some .boolean) d 0 0 [vr 19, vi a0, vi a1] (mm I) (some (vi (b2i r))) (mm I') := by
  refine Ctr.mk (by decide +kernel) rfl (Nat.le_of_ble_eq_true rfl) fun κ X hR _ => ?_
  have X : Cx E κ cX2_readProduct 5 RX2 (some .boolean) d 0 0 := X
  show G E κ 0 0 0 [some (vr 19), some (vi a0), some (vi a1), none, none] [] (mm I)
  unfold f2_readProduct at hf
  refine G_aload_n (x := some (19)) X dX2_readProduct_0 rfl rfl ?_
  refine G_iload_n (x := a0) X dX2_readProduct_1 rfl rfl ?_
  refine G_iload_n (x := a1) X dX2_readProduct_2 rfl rfl ?_
  obtain ⟨⟨v1, I1⟩, hk1, hf⟩ := obd hf
  try dsimp only at hf
  refine G_callV (As := [vi a0, vi a1]) X (h_readFactor I a0 a1 v1 I1 hk1) cb_X2_58 vi_X2_readFactor (ci := 2) rfl rfl (show SH[19]? = some (_, 0) from rfl) rfl rfl (Nat.le_of_ble_eq_true rfl) (by omega) (by decide) rfl (Nat.le_refl _) (Nat.le_refl _) dX2_readProduct_3 ?_
  show G E κ _ _ _ [some (vr 19), some (vi a0), some (vi a1), none, none] [vi (b2i v1)] (mm I1)
  refine G_if_ne (tgt := 11) X dX2_readProduct_6 (by decide) (fun hc2 => ?_) (fun hc2 => ?_)
  · have hf := (if_pos (b2i_t hc2)).symm.trans hf
    refine G_iconst (v := 1) X dX2_readProduct_11 rfl ?_
    refine G_istore_n X dX2_readProduct_12 rfl rfl (ls' := [some (vr 19), some (vi a0), some (vi a1), some (vi 1), none]) rfl ?_
    exact f2_readProduct_L13_ok R_readFactor d h12 d_readFactor hd_readFactor h_readFactor X FU I1 a0 a1 1 _ _ hR hf
  · have hf := (if_neg (b2i_f hc2)).symm.trans hf
    refine G_iconst (v := 0) X dX2_readProduct_9 rfl ?_
    obtain ⟨rfl, rfl⟩ := Prod.mk.inj (Option.some.inj hf)
    exact G_iret X hR rfl (nar_b2i false) dX2_readProduct_10

def f2_readSum_L13 (R_readProduct : gI → Int32 → Int32 → Option (Bool × gI)) : Nat → gI → Int32 → Int32 → Int32 → Option (Bool × gI)
  | 0, _, _, _, _ => none
  | k + 1, I, x1, x2, x3 => (if 100 < x3 then some (true, I) else (f2_nextSign I).bind fun q4 => (if q4.1 = 124 then (R_readProduct (uI q4.2 19 8 ((q4.2 19 8) + 1)) (x1 + 1) x2).bind fun q6 => (if q6.1 = true then (if q4.1 = 124 then (f2_combineAt q6.2 x1 1).bind fun I10 => f2_readSum_L13 R_readProduct k I10 x1 x2 (x3 + 1) else (f2_combineAt q6.2 x1 3).bind fun I9 => f2_readSum_L13 R_readProduct k I9 x1 x2 (x3 + 1)) else some (false, q6.2)) else (if q4.1 = 94 then (R_readProduct (uI q4.2 19 8 ((q4.2 19 8) + 1)) (x1 + 1) x2).bind fun q12 => (if q12.1 = true then (if q4.1 = 124 then (f2_combineAt q12.2 x1 1).bind fun I16 => f2_readSum_L13 R_readProduct k I16 x1 x2 (x3 + 1) else (f2_combineAt q12.2 x1 3).bind fun I15 => f2_readSum_L13 R_readProduct k I15 x1 x2 (x3 + 1)) else some (false, q12.2)) else some (true, q4.2))))
set_option maxRecDepth 100000 in
set_option maxHeartbeats 4000000 in
theorem f2_readSum_L13_ok (R_readProduct : gI → Int32 → Int32 → Option (Bool × gI)) (d : Nat) (h12 : 12 ≤ d) {E : gEnv} (d_readProduct : Nat) (hd_readProduct : d_readProduct + 1 ≤ d) (h_readProduct : ∀ (I : gI) (a0 a1 : Int32) (r : Bool) (I' : gI), R_readProduct I a0 a1 = some (r, I') → Ctr E yX2_readProduct cX2_readProduct 5 (some .boolean) d_readProduct 0 0 [vr 19, vi a0, vi a1] (mm I) (some (vi (b2i r))) (mm I')) {κ : gCtx} (X : Cx E κ cX2_readSum 5 RX2 (some .boolean) d 0 0) : ∀ (k : Nat) (I : gI) (x1 : Int32) (x2 : Int32) (x3 : Int32) (r : Bool) (I' : gI) (hR : gRt E κ 0 0 (some (vi (b2i r))) (mm I')) (hf : f2_readSum_L13 R_readProduct k I x1 x2 x3 = some (r, I')), G E κ 0 0 13 [some (vr 19), some (vi x1), some (vi x2), some (vi x3), none] [] (mm I) := by
  intro k
  induction k with
  | zero =>
    intros
    rename_i hf
    cases hf
  | succ k ih =>
    intro I x1 x2 x3 r I' hR hf
    refine G_iload_n (x := x3) X dX2_readSum_13 rfl rfl ?_
    refine G_bipush (v := 100) X dX2_readSum_14 rfl ?_
    refine G_icmp_gt (tgt := 87) X dX2_readSum_16 (by decide) (fun hc3 => ?_) (fun hc3 => ?_)
    · have hf := (if_pos hc3).symm.trans hf
      refine G_iconst (v := 1) X dX2_readSum_87 rfl ?_
      obtain ⟨rfl, rfl⟩ := Prod.mk.inj (Option.some.inj hf)
      exact G_iret X hR rfl (nar_b2i true) dX2_readSum_88
    · have hf := (if_neg hc3).symm.trans hf
      refine G_aload_n (x := some (19)) X dX2_readSum_19 rfl rfl ?_
      obtain ⟨⟨v4, I4⟩, hk4, hf⟩ := obd hf
      try dsimp only at hf
      refine G_callV (As := []) X (f2_nextSign_ok E I v4 I4 hk4) cb_X2_43 vi_X2_nextSign (ci := 2) rfl rfl (show SH[19]? = some (_, 0) from rfl) rfl rfl (Nat.le_of_ble_eq_true rfl) (by omega) (by decide) rfl (Nat.le_refl _) (Nat.le_refl _) dX2_readSum_20 ?_
      show G E κ _ _ _ [some (vr 19), some (vi x1), some (vi x2), some (vi x3), none] [vi v4] (mm I4)
      refine G_istore X dX2_readSum_23 rfl (ls' := [some (vr 19), some (vi x1), some (vi x2), some (vi x3), some (vi v4)]) rfl ?_
      refine G_iload (x := v4) X dX2_readSum_25 rfl ?_
      refine G_bipush (v := 124) X dX2_readSum_27 rfl ?_
      refine G_icmp_eq (tgt := 41) X dX2_readSum_29 (by decide) (fun hc5 => ?_) (fun hc5 => ?_)
      · have hf := (if_pos hc5).symm.trans hf
        refine G_aload_n (x := some (19)) X dX2_readSum_41 rfl rfl ?_
        refine G_dup X rfl dX2_readSum_42 ?_
        refine M_getI X fd_X2_32 rfl (show SH[19]? = some (_, 0) from rfl) dX2_readSum_43 ?_
        refine G_iconst (v := 1) X dX2_readSum_46 rfl ?_
        refine G_iadd X dX2_readSum_47 ?_
        refine M_putI X fd_X2_32 rfl (show SH[19]? = some (_, 0) from rfl) rfl rfl dX2_readSum_48 ?_
        refine G_aload_n (x := some (19)) X dX2_readSum_51 rfl rfl ?_
        refine G_iload_n (x := x1) X dX2_readSum_52 rfl rfl ?_
        refine G_iconst (v := 1) X dX2_readSum_53 rfl ?_
        refine G_iadd X dX2_readSum_54 ?_
        refine G_iload_n (x := x2) X dX2_readSum_55 rfl rfl ?_
        obtain ⟨⟨v6, I6⟩, hk6, hf⟩ := obd hf
        try dsimp only at hf
        refine G_callV (As := [vi (x1 + 1), vi x2]) X (h_readProduct (uI I4 19 8 ((I4 19 8) + 1)) (x1 + 1) x2 v6 I6 hk6) cb_X2_51 vi_X2_readProduct (ci := 2) rfl rfl (show SH[19]? = some (_, 0) from rfl) rfl rfl (Nat.le_of_ble_eq_true rfl) (by omega) (by decide) rfl (Nat.le_refl _) (Nat.le_refl _) dX2_readSum_56 ?_
        show G E κ _ _ _ [some (vr 19), some (vi x1), some (vi x2), some (vi x3), some (vi v4)] [vi (b2i v6)] (mm I6)
        refine G_if_ne (tgt := 64) X dX2_readSum_59 (by decide) (fun hc7 => ?_) (fun hc7 => ?_)
        · have hf := (if_pos (b2i_t hc7)).symm.trans hf
          refine G_aload_n (x := some (19)) X dX2_readSum_64 rfl rfl ?_
          refine G_iload_n (x := x1) X dX2_readSum_65 rfl rfl ?_
          refine G_iload (x := v4) X dX2_readSum_66 rfl ?_
          refine G_bipush (v := 124) X dX2_readSum_68 rfl ?_
          refine G_icmp_ne (tgt := 77) X dX2_readSum_70 (by decide) (fun hc8 => ?_) (fun hc8 => ?_)
          · have hf := (if_neg hc8).symm.trans hf
            refine G_iconst (v := 3) X dX2_readSum_77 rfl ?_
            obtain ⟨I9, hk9, hf⟩ := obd hf
            refine G_callV (As := [vi x1, vi 3]) X (f2_combineAt_ok E I6 x1 3 I9 hk9) cb_X2_54 vi_X2_combineAt (ci := 2) rfl rfl (show SH[19]? = some (_, 0) from rfl) rfl rfl (Nat.le_of_ble_eq_true rfl) (by omega) (by decide) rfl (Nat.le_refl _) (Nat.le_refl _) dX2_readSum_78 ?_
            show G E κ _ _ _ [some (vr 19), some (vi x1), some (vi x2), some (vi x3), some (vi v4)] [] (mm I9)
            refine G_iinc (x := x3) (v := 1) X dX2_readSum_81 rfl rfl rfl (ls' := [some (vr 19), some (vi x1), some (vi x2), some (vi (x3 + 1)), some (vi v4)]) rfl ?_
            refine G_goto (tgt := 13) X dX2_readSum_84 (by decide) ?_
            refine G_weakL (ls' := [some (vr 19), some (vi x1), some (vi x2), some (vi (x3 + 1)), none]) ⟨Or.inr rfl, ⟨Or.inr rfl, ⟨Or.inr rfl, ⟨Or.inr rfl, ⟨Or.inl rfl, trivial⟩⟩⟩⟩⟩ ?_
            exact ih I9 x1 x2 (x3 + 1) _ _ hR hf
          · have hf := (if_pos hc8).symm.trans hf
            refine G_iconst (v := 1) X dX2_readSum_73 rfl ?_
            refine G_goto (tgt := 78) X dX2_readSum_74 (by decide) ?_
            obtain ⟨I10, hk10, hf⟩ := obd hf
            refine G_callV (As := [vi x1, vi 1]) X (f2_combineAt_ok E I6 x1 1 I10 hk10) cb_X2_54 vi_X2_combineAt (ci := 2) rfl rfl (show SH[19]? = some (_, 0) from rfl) rfl rfl (Nat.le_of_ble_eq_true rfl) (by omega) (by decide) rfl (Nat.le_refl _) (Nat.le_refl _) dX2_readSum_78 ?_
            show G E κ _ _ _ [some (vr 19), some (vi x1), some (vi x2), some (vi x3), some (vi v4)] [] (mm I10)
            refine G_iinc (x := x3) (v := 1) X dX2_readSum_81 rfl rfl rfl (ls' := [some (vr 19), some (vi x1), some (vi x2), some (vi (x3 + 1)), some (vi v4)]) rfl ?_
            refine G_goto (tgt := 13) X dX2_readSum_84 (by decide) ?_
            refine G_weakL (ls' := [some (vr 19), some (vi x1), some (vi x2), some (vi (x3 + 1)), none]) ⟨Or.inr rfl, ⟨Or.inr rfl, ⟨Or.inr rfl, ⟨Or.inr rfl, ⟨Or.inl rfl, trivial⟩⟩⟩⟩⟩ ?_
            exact ih I10 x1 x2 (x3 + 1) _ _ hR hf
        · have hf := (if_neg (b2i_f hc7)).symm.trans hf
          refine G_iconst (v := 0) X dX2_readSum_62 rfl ?_
          obtain ⟨rfl, rfl⟩ := Prod.mk.inj (Option.some.inj hf)
          exact G_iret X hR rfl (nar_b2i false) dX2_readSum_63
      · have hf := (if_neg hc5).symm.trans hf
        refine G_iload (x := v4) X dX2_readSum_32 rfl ?_
        refine G_bipush (v := 94) X dX2_readSum_34 rfl ?_
        refine G_icmp_eq (tgt := 41) X dX2_readSum_36 (by decide) (fun hc11 => ?_) (fun hc11 => ?_)
        · have hf := (if_pos hc11).symm.trans hf
          refine G_aload_n (x := some (19)) X dX2_readSum_41 rfl rfl ?_
          refine G_dup X rfl dX2_readSum_42 ?_
          refine M_getI X fd_X2_32 rfl (show SH[19]? = some (_, 0) from rfl) dX2_readSum_43 ?_
          refine G_iconst (v := 1) X dX2_readSum_46 rfl ?_
          refine G_iadd X dX2_readSum_47 ?_
          refine M_putI X fd_X2_32 rfl (show SH[19]? = some (_, 0) from rfl) rfl rfl dX2_readSum_48 ?_
          refine G_aload_n (x := some (19)) X dX2_readSum_51 rfl rfl ?_
          refine G_iload_n (x := x1) X dX2_readSum_52 rfl rfl ?_
          refine G_iconst (v := 1) X dX2_readSum_53 rfl ?_
          refine G_iadd X dX2_readSum_54 ?_
          refine G_iload_n (x := x2) X dX2_readSum_55 rfl rfl ?_
          obtain ⟨⟨v12, I12⟩, hk12, hf⟩ := obd hf
          try dsimp only at hf
          refine G_callV (As := [vi (x1 + 1), vi x2]) X (h_readProduct (uI I4 19 8 ((I4 19 8) + 1)) (x1 + 1) x2 v12 I12 hk12) cb_X2_51 vi_X2_readProduct (ci := 2) rfl rfl (show SH[19]? = some (_, 0) from rfl) rfl rfl (Nat.le_of_ble_eq_true rfl) (by omega) (by decide) rfl (Nat.le_refl _) (Nat.le_refl _) dX2_readSum_56 ?_
          show G E κ _ _ _ [some (vr 19), some (vi x1), some (vi x2), some (vi x3), some (vi v4)] [vi (b2i v12)] (mm I12)
          refine G_if_ne (tgt := 64) X dX2_readSum_59 (by decide) (fun hc13 => ?_) (fun hc13 => ?_)
          · have hf := (if_pos (b2i_t hc13)).symm.trans hf
            refine G_aload_n (x := some (19)) X dX2_readSum_64 rfl rfl ?_
            refine G_iload_n (x := x1) X dX2_readSum_65 rfl rfl ?_
            refine G_iload (x := v4) X dX2_readSum_66 rfl ?_
            refine G_bipush (v := 124) X dX2_readSum_68 rfl ?_
            refine G_icmp_ne (tgt := 77) X dX2_readSum_70 (by decide) (fun hc14 => ?_) (fun hc14 => ?_)
            · have hf := (if_neg hc14).symm.trans hf
              refine G_iconst (v := 3) X dX2_readSum_77 rfl ?_
              obtain ⟨I15, hk15, hf⟩ := obd hf
              refine G_callV (As := [vi x1, vi 3]) X (f2_combineAt_ok E I12 x1 3 I15 hk15) cb_X2_54 vi_X2_combineAt (ci := 2) rfl rfl (show SH[19]? = some (_, 0) from rfl) rfl rfl (Nat.le_of_ble_eq_true rfl) (by omega) (by decide) rfl (Nat.le_refl _) (Nat.le_refl _) dX2_readSum_78 ?_
              show G E κ _ _ _ [some (vr 19), some (vi x1), some (vi x2), some (vi x3), some (vi v4)] [] (mm I15)
              refine G_iinc (x := x3) (v := 1) X dX2_readSum_81 rfl rfl rfl (ls' := [some (vr 19), some (vi x1), some (vi x2), some (vi (x3 + 1)), some (vi v4)]) rfl ?_
              refine G_goto (tgt := 13) X dX2_readSum_84 (by decide) ?_
              refine G_weakL (ls' := [some (vr 19), some (vi x1), some (vi x2), some (vi (x3 + 1)), none]) ⟨Or.inr rfl, ⟨Or.inr rfl, ⟨Or.inr rfl, ⟨Or.inr rfl, ⟨Or.inl rfl, trivial⟩⟩⟩⟩⟩ ?_
              exact ih I15 x1 x2 (x3 + 1) _ _ hR hf
            · have hf := (if_pos hc14).symm.trans hf
              refine G_iconst (v := 1) X dX2_readSum_73 rfl ?_
              refine G_goto (tgt := 78) X dX2_readSum_74 (by decide) ?_
              obtain ⟨I16, hk16, hf⟩ := obd hf
              refine G_callV (As := [vi x1, vi 1]) X (f2_combineAt_ok E I12 x1 1 I16 hk16) cb_X2_54 vi_X2_combineAt (ci := 2) rfl rfl (show SH[19]? = some (_, 0) from rfl) rfl rfl (Nat.le_of_ble_eq_true rfl) (by omega) (by decide) rfl (Nat.le_refl _) (Nat.le_refl _) dX2_readSum_78 ?_
              show G E κ _ _ _ [some (vr 19), some (vi x1), some (vi x2), some (vi x3), some (vi v4)] [] (mm I16)
              refine G_iinc (x := x3) (v := 1) X dX2_readSum_81 rfl rfl rfl (ls' := [some (vr 19), some (vi x1), some (vi x2), some (vi (x3 + 1)), some (vi v4)]) rfl ?_
              refine G_goto (tgt := 13) X dX2_readSum_84 (by decide) ?_
              refine G_weakL (ls' := [some (vr 19), some (vi x1), some (vi x2), some (vi (x3 + 1)), none]) ⟨Or.inr rfl, ⟨Or.inr rfl, ⟨Or.inr rfl, ⟨Or.inr rfl, ⟨Or.inl rfl, trivial⟩⟩⟩⟩⟩ ?_
              exact ih I16 x1 x2 (x3 + 1) _ _ hR hf
          · have hf := (if_neg (b2i_f hc13)).symm.trans hf
            refine G_iconst (v := 0) X dX2_readSum_62 rfl ?_
            obtain ⟨rfl, rfl⟩ := Prod.mk.inj (Option.some.inj hf)
            exact G_iret X hR rfl (nar_b2i false) dX2_readSum_63
        · have hf := (if_neg hc11).symm.trans hf
          refine G_iconst (v := 1) X dX2_readSum_39 rfl ?_
          obtain ⟨rfl, rfl⟩ := Prod.mk.inj (Option.some.inj hf)
          exact G_iret X hR rfl (nar_b2i true) dX2_readSum_40

def f2_readSum (R_readProduct : gI → Int32 → Int32 → Option (Bool × gI)) (I : gI) (a0 : Int32) (a1 : Int32) : Option (Bool × gI) := (R_readProduct I a0 a1).bind fun q1 => (if q1.1 = true then f2_readSum_L13 R_readProduct FU q1.2 a0 a1 1 else some (false, q1.2))
set_option maxRecDepth 100000 in
set_option maxHeartbeats 4000000 in
theorem f2_readSum_ok (R_readProduct : gI → Int32 → Int32 → Option (Bool × gI)) (d : Nat) (h12 : 12 ≤ d) {E : gEnv} (d_readProduct : Nat) (hd_readProduct : d_readProduct + 1 ≤ d) (h_readProduct : ∀ (I : gI) (a0 a1 : Int32) (r : Bool) (I' : gI), R_readProduct I a0 a1 = some (r, I') → Ctr E yX2_readProduct cX2_readProduct 5 (some .boolean) d_readProduct 0 0 [vr 19, vi a0, vi a1] (mm I) (some (vi (b2i r))) (mm I')) (I : gI) (a0 : Int32) (a1 : Int32) (r : Bool) (I' : gI) (hf : f2_readSum R_readProduct I a0 a1 = some (r, I')) : Ctr E yX2_readSum cX2_readSum 5 (some .boolean) d 0 0 [vr 19, vi a0, vi a1] (mm I) (some (vi (b2i r))) (mm I') := by
  refine Ctr.mk (by decide +kernel) rfl (Nat.le_of_ble_eq_true rfl) fun κ X hR _ => ?_
  have X : Cx E κ cX2_readSum 5 RX2 (some .boolean) d 0 0 := X
  show G E κ 0 0 0 [some (vr 19), some (vi a0), some (vi a1), none, none] [] (mm I)
  unfold f2_readSum at hf
  refine G_aload_n (x := some (19)) X dX2_readSum_0 rfl rfl ?_
  refine G_iload_n (x := a0) X dX2_readSum_1 rfl rfl ?_
  refine G_iload_n (x := a1) X dX2_readSum_2 rfl rfl ?_
  obtain ⟨⟨v1, I1⟩, hk1, hf⟩ := obd hf
  try dsimp only at hf
  refine G_callV (As := [vi a0, vi a1]) X (h_readProduct I a0 a1 v1 I1 hk1) cb_X2_51 vi_X2_readProduct (ci := 2) rfl rfl (show SH[19]? = some (_, 0) from rfl) rfl rfl (Nat.le_of_ble_eq_true rfl) (by omega) (by decide) rfl (Nat.le_refl _) (Nat.le_refl _) dX2_readSum_3 ?_
  show G E κ _ _ _ [some (vr 19), some (vi a0), some (vi a1), none, none] [vi (b2i v1)] (mm I1)
  refine G_if_ne (tgt := 11) X dX2_readSum_6 (by decide) (fun hc2 => ?_) (fun hc2 => ?_)
  · have hf := (if_pos (b2i_t hc2)).symm.trans hf
    refine G_iconst (v := 1) X dX2_readSum_11 rfl ?_
    refine G_istore_n X dX2_readSum_12 rfl rfl (ls' := [some (vr 19), some (vi a0), some (vi a1), some (vi 1), none]) rfl ?_
    exact f2_readSum_L13_ok R_readProduct d h12 d_readProduct hd_readProduct h_readProduct X FU I1 a0 a1 1 _ _ hR hf
  · have hf := (if_neg (b2i_f hc2)).symm.trans hf
    refine G_iconst (v := 0) X dX2_readSum_9 rfl ?_
    obtain ⟨rfl, rfl⟩ := Prod.mk.inj (Option.some.inj hf)
    exact G_iret X hR rfl (nar_b2i false) dX2_readSum_10

def f2_readBracket (R_readSum : gI → Int32 → Int32 → Option (Bool × gI)) (I : gI) (a0 : Int32) (a1 : Int32) : Option (Bool × gI) := (R_readSum I a0 a1).bind fun q1 => (if q1.1 = true then (f2_nextSign q1.2).bind fun q3 => (if q3.1 = 41 then some (true, uI q3.2 19 8 ((q3.2 19 8) + 1)) else (f2_breakOff q3.2 a1).bind fun q5 => some (q5.1, q5.2)) else some (false, q1.2))
set_option maxRecDepth 100000 in
set_option maxHeartbeats 4000000 in
theorem f2_readBracket_ok (R_readSum : gI → Int32 → Int32 → Option (Bool × gI)) (d : Nat) (h12 : 12 ≤ d) {E : gEnv} (d_readSum : Nat) (hd_readSum : d_readSum + 1 ≤ d) (h_readSum : ∀ (I : gI) (a0 a1 : Int32) (r : Bool) (I' : gI), R_readSum I a0 a1 = some (r, I') → Ctr E yX2_readSum cX2_readSum 5 (some .boolean) d_readSum 0 0 [vr 19, vi a0, vi a1] (mm I) (some (vi (b2i r))) (mm I')) (I : gI) (a0 : Int32) (a1 : Int32) (r : Bool) (I' : gI) (hf : f2_readBracket R_readSum I a0 a1 = some (r, I')) : Ctr E yX2_readBracket cX2_readBracket 3 (some .boolean) d 0 0 [vr 19, vi a0, vi a1] (mm I) (some (vi (b2i r))) (mm I') := by
  refine Ctr.mk (by decide +kernel) rfl (Nat.le_of_ble_eq_true rfl) fun κ X hR _ => ?_
  have X : Cx E κ cX2_readBracket 3 RX2 (some .boolean) d 0 0 := X
  show G E κ 0 0 0 [some (vr 19), some (vi a0), some (vi a1)] [] (mm I)
  unfold f2_readBracket at hf
  refine G_aload_n (x := some (19)) X dX2_readBracket_0 rfl rfl ?_
  refine G_iload_n (x := a0) X dX2_readBracket_1 rfl rfl ?_
  refine G_iload_n (x := a1) X dX2_readBracket_2 rfl rfl ?_
  obtain ⟨⟨v1, I1⟩, hk1, hf⟩ := obd hf
  try dsimp only at hf
  refine G_callV (As := [vi a0, vi a1]) X (h_readSum I a0 a1 v1 I1 hk1) cb_X2_39 vi_X2_readSum (ci := 2) rfl rfl (show SH[19]? = some (_, 0) from rfl) rfl rfl (Nat.le_of_ble_eq_true rfl) (by omega) (by decide) rfl (Nat.le_refl _) (Nat.le_refl _) dX2_readBracket_3 ?_
  show G E κ _ _ _ [some (vr 19), some (vi a0), some (vi a1)] [vi (b2i v1)] (mm I1)
  refine G_if_ne (tgt := 11) X dX2_readBracket_6 (by decide) (fun hc2 => ?_) (fun hc2 => ?_)
  · have hf := (if_pos (b2i_t hc2)).symm.trans hf
    refine G_aload_n (x := some (19)) X dX2_readBracket_11 rfl rfl ?_
    obtain ⟨⟨v3, I3⟩, hk3, hf⟩ := obd hf
    try dsimp only at hf
    refine G_callV (As := []) X (f2_nextSign_ok E I1  v3 I3 hk3) cb_X2_43 vi_X2_nextSign (ci := 2) rfl rfl (show SH[19]? = some (_, 0) from rfl) rfl rfl (Nat.le_of_ble_eq_true rfl) (by omega) (by decide) rfl (Nat.le_refl _) (Nat.le_refl _) dX2_readBracket_12 ?_
    show G E κ _ _ _ [some (vr 19), some (vi a0), some (vi a1)] [vi v3] (mm I3)
    refine G_bipush (v := 41) X dX2_readBracket_15 rfl ?_
    refine G_icmp_eq (tgt := 26) X dX2_readBracket_17 (by decide) (fun hc4 => ?_) (fun hc4 => ?_)
    · have hf := (if_pos hc4).symm.trans hf
      refine G_aload_n (x := some (19)) X dX2_readBracket_26 rfl rfl ?_
      refine G_dup X rfl dX2_readBracket_27 ?_
      refine M_getI X fd_X2_32 rfl (show SH[19]? = some (_, 0) from rfl) dX2_readBracket_28 ?_
      refine G_iconst (v := 1) X dX2_readBracket_31 rfl ?_
      refine G_iadd X dX2_readBracket_32 ?_
      refine M_putI X fd_X2_32 rfl (show SH[19]? = some (_, 0) from rfl) rfl rfl dX2_readBracket_33 ?_
      refine G_iconst (v := 1) X dX2_readBracket_36 rfl ?_
      obtain ⟨rfl, rfl⟩ := Prod.mk.inj (Option.some.inj hf)
      exact G_iret X hR rfl (nar_b2i true) dX2_readBracket_37
    · have hf := (if_neg hc4).symm.trans hf
      refine G_aload_n (x := some (19)) X dX2_readBracket_20 rfl rfl ?_
      refine G_iload_n (x := a1) X dX2_readBracket_21 rfl rfl ?_
      obtain ⟨⟨v5, I5⟩, hk5, hf⟩ := obd hf
      try dsimp only at hf
      refine G_callV (As := [vi a1]) X (f2_breakOff_ok E I3 a1 v5 I5 hk5) cb_X2_47 vi_X2_breakOff (ci := 2) rfl rfl (show SH[19]? = some (_, 0) from rfl) rfl rfl (Nat.le_of_ble_eq_true rfl) (by omega) (by decide) rfl (Nat.le_refl _) (Nat.le_refl _) dX2_readBracket_22 ?_
      show G E κ _ _ _ [some (vr 19), some (vi a0), some (vi a1)] [vi (b2i v5)] (mm I5)
      obtain ⟨rfl, rfl⟩ := Prod.mk.inj (Option.some.inj hf)
      exact G_iret X hR rfl (nar_b2i v5) dX2_readBracket_25
  · have hf := (if_neg (b2i_f hc2)).symm.trans hf
    refine G_iconst (v := 0) X dX2_readBracket_9 rfl ?_
    obtain ⟨rfl, rfl⟩ := Prod.mk.inj (Option.some.inj hf)
    exact G_iret X hR rfl (nar_b2i false) dX2_readBracket_10

def f2_readFactor (R_readBracket : gI → Int32 → Int32 → Option (Bool × gI)) (R_readFactor : gI → Int32 → Int32 → Option (Bool × gI)) (I : gI) (a0 : Int32) (a1 : Int32) : Option (Bool × gI) := (f2_nextSign I).bind fun q1 => (if q1.1 = 126 then (if 8 ≤ a1 then (f2_breakOff q1.2 a1).bind fun q4 => some (q4.1, q4.2) else (if a0 < 19 then (if q1.1 = 40 then (R_readBracket (uI q1.2 19 8 ((q1.2 19 8) + 1)) a0 (a1 + 1)).bind fun q11 => some (q11.1, q11.2) else (R_readFactor (uI q1.2 19 8 ((q1.2 19 8) + 1)) a0 (a1 + 1)).bind fun q7 => (if q7.1 = true then if ib a0 19 = true then (f0_invert q7.2 (23 + 2 * a0.toNatClampNeg)).bind fun I10 => some (true, I10) else none else some (false, q7.2))) else (f2_breakOff q1.2 a1).bind fun q12 => some (q12.1, q12.2))) else (if q1.1 = 40 then (if 8 ≤ a1 then (f2_breakOff q1.2 a1).bind fun q15 => some (q15.1, q15.2) else (if a0 < 19 then (if q1.1 = 40 then (R_readBracket (uI q1.2 19 8 ((q1.2 19 8) + 1)) a0 (a1 + 1)).bind fun q22 => some (q22.1, q22.2) else (R_readFactor (uI q1.2 19 8 ((q1.2 19 8) + 1)) a0 (a1 + 1)).bind fun q18 => (if q18.1 = true then if ib a0 19 = true then (f0_invert q18.2 (23 + 2 * a0.toNatClampNeg)).bind fun I21 => some (true, I21) else none else some (false, q18.2))) else (f2_breakOff q1.2 a1).bind fun q23 => some (q23.1, q23.2))) else (f2_readRow q1.2 a0 a1).bind fun q24 => some (q24.1, q24.2)))
set_option maxRecDepth 100000 in
set_option maxHeartbeats 4000000 in
theorem f2_readFactor_ok (R_readBracket : gI → Int32 → Int32 → Option (Bool × gI)) (R_readFactor : gI → Int32 → Int32 → Option (Bool × gI)) (d : Nat) (h12 : 12 ≤ d) {E : gEnv} (d_readBracket : Nat) (hd_readBracket : d_readBracket + 1 ≤ d) (h_readBracket : ∀ (I : gI) (a0 a1 : Int32) (r : Bool) (I' : gI), R_readBracket I a0 a1 = some (r, I') → Ctr E yX2_readBracket cX2_readBracket 3 (some .boolean) d_readBracket 0 0 [vr 19, vi a0, vi a1] (mm I) (some (vi (b2i r))) (mm I')) (d_readFactor : Nat) (hd_readFactor : d_readFactor + 1 ≤ d) (h_readFactor : ∀ (I : gI) (a0 a1 : Int32) (r : Bool) (I' : gI), R_readFactor I a0 a1 = some (r, I') → Ctr E yX2_readFactor cX2_readFactor 4 (some .boolean) d_readFactor 0 0 [vr 19, vi a0, vi a1] (mm I) (some (vi (b2i r))) (mm I')) (I : gI) (a0 : Int32) (a1 : Int32) (r : Bool) (I' : gI) (hf : f2_readFactor R_readBracket R_readFactor I a0 a1 = some (r, I')) : Ctr E yX2_readFactor cX2_readFactor 4 (some .boolean) d 0 0 [vr 19, vi a0, vi a1] (mm I) (some (vi (b2i r))) (mm I') := by
  refine Ctr.mk (by decide +kernel) rfl (Nat.le_of_ble_eq_true rfl) fun κ X hR _ => ?_
  have X : Cx E κ cX2_readFactor 4 RX2 (some .boolean) d 0 0 := X
  show G E κ 0 0 0 [some (vr 19), some (vi a0), some (vi a1), none] [] (mm I)
  unfold f2_readFactor at hf
  refine G_aload_n (x := some (19)) X dX2_readFactor_0 rfl rfl ?_
  obtain ⟨⟨v1, I1⟩, hk1, hf⟩ := obd hf
  try dsimp only at hf
  refine G_callV (As := []) X (f2_nextSign_ok E I  v1 I1 hk1) cb_X2_43 vi_X2_nextSign (ci := 2) rfl rfl (show SH[19]? = some (_, 0) from rfl) rfl rfl (Nat.le_of_ble_eq_true rfl) (by omega) (by decide) rfl (Nat.le_refl _) (Nat.le_refl _) dX2_readFactor_1 ?_
  show G E κ _ _ _ [some (vr 19), some (vi a0), some (vi a1), none] [vi v1] (mm I1)
  refine G_istore_n X dX2_readFactor_4 rfl rfl (ls' := [some (vr 19), some (vi a0), some (vi a1), some (vi v1)]) rfl ?_
  refine G_iload_n (x := v1) X dX2_readFactor_5 rfl rfl ?_
  refine G_bipush (v := 126) X dX2_readFactor_6 rfl ?_
  refine G_icmp_eq (tgt := 24) X dX2_readFactor_8 (by decide) (fun hc2 => ?_) (fun hc2 => ?_)
  · have hf := (if_pos hc2).symm.trans hf
    refine G_iload_n (x := a1) X dX2_readFactor_24 rfl rfl ?_
    refine G_bipush (v := 8) X dX2_readFactor_25 rfl ?_
    refine G_icmp_ge (tgt := 39) X dX2_readFactor_27 (by decide) (fun hc3 => ?_) (fun hc3 => ?_)
    · have hf := (if_pos hc3).symm.trans hf
      refine G_aload_n (x := some (19)) X dX2_readFactor_39 rfl rfl ?_
      refine G_iload_n (x := a1) X dX2_readFactor_40 rfl rfl ?_
      obtain ⟨⟨v4, I4⟩, hk4, hf⟩ := obd hf
      try dsimp only at hf
      refine G_callV (As := [vi a1]) X (f2_breakOff_ok E I1 a1 v4 I4 hk4) cb_X2_47 vi_X2_breakOff (ci := 2) rfl rfl (show SH[19]? = some (_, 0) from rfl) rfl rfl (Nat.le_of_ble_eq_true rfl) (by omega) (by decide) rfl (Nat.le_refl _) (Nat.le_refl _) dX2_readFactor_41 ?_
      show G E κ _ _ _ [some (vr 19), some (vi a0), some (vi a1), some (vi v1)] [vi (b2i v4)] (mm I4)
      obtain ⟨rfl, rfl⟩ := Prod.mk.inj (Option.some.inj hf)
      exact G_iret X hR rfl (nar_b2i v4) dX2_readFactor_44
    · have hf := (if_neg hc3).symm.trans hf
      refine G_iload_n (x := a0) X dX2_readFactor_30 rfl rfl ?_
      refine G_aload_n (x := some (19)) X dX2_readFactor_31 rfl rfl ?_
      refine M_getR X fd_X2_17 rfl (show SH[19]? = some (_, 0) from rfl) rfl dX2_readFactor_32 ?_
      refine M_alen (v := 19) X (show SH[21]? = some (_, 19) from rfl) (by decide) dX2_readFactor_35 rfl ?_
      refine G_icmp_lt (tgt := 45) X dX2_readFactor_36 (by decide) (fun hc5 => ?_) (fun hc5 => ?_)
      · have hf := (if_pos hc5).symm.trans hf
        refine G_aload_n (x := some (19)) X dX2_readFactor_45 rfl rfl ?_
        refine G_dup X rfl dX2_readFactor_46 ?_
        refine M_getI X fd_X2_32 rfl (show SH[19]? = some (_, 0) from rfl) dX2_readFactor_47 ?_
        refine G_iconst (v := 1) X dX2_readFactor_50 rfl ?_
        refine G_iadd X dX2_readFactor_51 ?_
        refine M_putI X fd_X2_32 rfl (show SH[19]? = some (_, 0) from rfl) rfl rfl dX2_readFactor_52 ?_
        refine G_iload_n (x := v1) X dX2_readFactor_55 rfl rfl ?_
        refine G_bipush (v := 40) X dX2_readFactor_56 rfl ?_
        refine G_icmp_ne (tgt := 70) X dX2_readFactor_58 (by decide) (fun hc6 => ?_) (fun hc6 => ?_)
        · have hf := (if_neg hc6).symm.trans hf
          refine G_aload_n (x := some (19)) X dX2_readFactor_70 rfl rfl ?_
          refine G_iload_n (x := a0) X dX2_readFactor_71 rfl rfl ?_
          refine G_iload_n (x := a1) X dX2_readFactor_72 rfl rfl ?_
          refine G_iconst (v := 1) X dX2_readFactor_73 rfl ?_
          refine G_iadd X dX2_readFactor_74 ?_
          obtain ⟨⟨v7, I7⟩, hk7, hf⟩ := obd hf
          try dsimp only at hf
          refine G_callV (As := [vi a0, vi (a1 + 1)]) X (h_readFactor (uI I1 19 8 ((I1 19 8) + 1)) a0 (a1 + 1) v7 I7 hk7) cb_X2_58 vi_X2_readFactor (ci := 2) rfl rfl (show SH[19]? = some (_, 0) from rfl) rfl rfl (Nat.le_of_ble_eq_true rfl) (by omega) (by decide) rfl (Nat.le_refl _) (Nat.le_refl _) dX2_readFactor_75 ?_
          show G E κ _ _ _ [some (vr 19), some (vi a0), some (vi a1), some (vi v1)] [vi (b2i v7)] (mm I7)
          refine G_if_ne (tgt := 83) X dX2_readFactor_78 (by decide) (fun hc8 => ?_) (fun hc8 => ?_)
          · have hf := (if_pos (b2i_t hc8)).symm.trans hf
            refine G_aload_n (x := some (19)) X dX2_readFactor_83 rfl rfl ?_
            refine M_getR X fd_X2_17 rfl (show SH[19]? = some (_, 0) from rfl) rfl dX2_readFactor_84 ?_
            refine G_iload_n (x := a0) X dX2_readFactor_87 rfl rfl ?_
            obtain ⟨hc9, hf⟩ := ock hf
            refine M_aald (r := 23 + 2 * a0.toNatClampNeg) X (show SH[21]? = some (12, 19) from rfl) (by decide) hc9 (p_val (ib_lt hc9)) dX2_readFactor_88 ?_
            obtain ⟨I10, hk10, hf⟩ := obd hf
            refine G_callV (As := []) X (f0_invert_ok E I7 (23 + 2 * a0.toNatClampNeg) (vB_is (ib_lt hc9)) I10 hk10) cb_X2_71 vi_X0_invert (ci := 0) rfl rfl (show SH[23 + 2 * a0.toNatClampNeg]? = some (_, 0) from (vB_is (ib_lt hc9)).1) rfl rfl (Nat.le_of_ble_eq_true rfl) (by omega) (by decide) rfl (Nat.le_refl _) (Nat.le_refl _) dX2_readFactor_89 ?_
            show G E κ _ _ _ [some (vr 19), some (vi a0), some (vi a1), some (vi v1)] [] (mm I10)
            refine G_iconst (v := 1) X dX2_readFactor_92 rfl ?_
            obtain ⟨rfl, rfl⟩ := Prod.mk.inj (Option.some.inj hf)
            exact G_iret X hR rfl (nar_b2i true) dX2_readFactor_93
          · have hf := (if_neg (b2i_f hc8)).symm.trans hf
            refine G_iconst (v := 0) X dX2_readFactor_81 rfl ?_
            obtain ⟨rfl, rfl⟩ := Prod.mk.inj (Option.some.inj hf)
            exact G_iret X hR rfl (nar_b2i false) dX2_readFactor_82
        · have hf := (if_pos hc6).symm.trans hf
          refine G_aload_n (x := some (19)) X dX2_readFactor_61 rfl rfl ?_
          refine G_iload_n (x := a0) X dX2_readFactor_62 rfl rfl ?_
          refine G_iload_n (x := a1) X dX2_readFactor_63 rfl rfl ?_
          refine G_iconst (v := 1) X dX2_readFactor_64 rfl ?_
          refine G_iadd X dX2_readFactor_65 ?_
          obtain ⟨⟨v11, I11⟩, hk11, hf⟩ := obd hf
          try dsimp only at hf
          refine G_callV (As := [vi a0, vi (a1 + 1)]) X (h_readBracket (uI I1 19 8 ((I1 19 8) + 1)) a0 (a1 + 1) v11 I11 hk11) cb_X2_68 vi_X2_readBracket (ci := 2) rfl rfl (show SH[19]? = some (_, 0) from rfl) rfl rfl (Nat.le_of_ble_eq_true rfl) (by omega) (by decide) rfl (Nat.le_refl _) (Nat.le_refl _) dX2_readFactor_66 ?_
          show G E κ _ _ _ [some (vr 19), some (vi a0), some (vi a1), some (vi v1)] [vi (b2i v11)] (mm I11)
          obtain ⟨rfl, rfl⟩ := Prod.mk.inj (Option.some.inj hf)
          exact G_iret X hR rfl (nar_b2i v11) dX2_readFactor_69
      · have hf := (if_neg hc5).symm.trans hf
        refine G_aload_n (x := some (19)) X dX2_readFactor_39 rfl rfl ?_
        refine G_iload_n (x := a1) X dX2_readFactor_40 rfl rfl ?_
        obtain ⟨⟨v12, I12⟩, hk12, hf⟩ := obd hf
        try dsimp only at hf
        refine G_callV (As := [vi a1]) X (f2_breakOff_ok E I1 a1 v12 I12 hk12) cb_X2_47 vi_X2_breakOff (ci := 2) rfl rfl (show SH[19]? = some (_, 0) from rfl) rfl rfl (Nat.le_of_ble_eq_true rfl) (by omega) (by decide) rfl (Nat.le_refl _) (Nat.le_refl _) dX2_readFactor_41 ?_
        show G E κ _ _ _ [some (vr 19), some (vi a0), some (vi a1), some (vi v1)] [vi (b2i v12)] (mm I12)
        obtain ⟨rfl, rfl⟩ := Prod.mk.inj (Option.some.inj hf)
        exact G_iret X hR rfl (nar_b2i v12) dX2_readFactor_44
  · have hf := (if_neg hc2).symm.trans hf
    refine G_iload_n (x := v1) X dX2_readFactor_11 rfl rfl ?_
    refine G_bipush (v := 40) X dX2_readFactor_12 rfl ?_
    refine G_icmp_eq (tgt := 24) X dX2_readFactor_14 (by decide) (fun hc13 => ?_) (fun hc13 => ?_)
    · have hf := (if_pos hc13).symm.trans hf
      refine G_iload_n (x := a1) X dX2_readFactor_24 rfl rfl ?_
      refine G_bipush (v := 8) X dX2_readFactor_25 rfl ?_
      refine G_icmp_ge (tgt := 39) X dX2_readFactor_27 (by decide) (fun hc14 => ?_) (fun hc14 => ?_)
      · have hf := (if_pos hc14).symm.trans hf
        refine G_aload_n (x := some (19)) X dX2_readFactor_39 rfl rfl ?_
        refine G_iload_n (x := a1) X dX2_readFactor_40 rfl rfl ?_
        obtain ⟨⟨v15, I15⟩, hk15, hf⟩ := obd hf
        try dsimp only at hf
        refine G_callV (As := [vi a1]) X (f2_breakOff_ok E I1 a1 v15 I15 hk15) cb_X2_47 vi_X2_breakOff (ci := 2) rfl rfl (show SH[19]? = some (_, 0) from rfl) rfl rfl (Nat.le_of_ble_eq_true rfl) (by omega) (by decide) rfl (Nat.le_refl _) (Nat.le_refl _) dX2_readFactor_41 ?_
        show G E κ _ _ _ [some (vr 19), some (vi a0), some (vi a1), some (vi v1)] [vi (b2i v15)] (mm I15)
        obtain ⟨rfl, rfl⟩ := Prod.mk.inj (Option.some.inj hf)
        exact G_iret X hR rfl (nar_b2i v15) dX2_readFactor_44
      · have hf := (if_neg hc14).symm.trans hf
        refine G_iload_n (x := a0) X dX2_readFactor_30 rfl rfl ?_
        refine G_aload_n (x := some (19)) X dX2_readFactor_31 rfl rfl ?_
        refine M_getR X fd_X2_17 rfl (show SH[19]? = some (_, 0) from rfl) rfl dX2_readFactor_32 ?_
        refine M_alen (v := 19) X (show SH[21]? = some (_, 19) from rfl) (by decide) dX2_readFactor_35 rfl ?_
        refine G_icmp_lt (tgt := 45) X dX2_readFactor_36 (by decide) (fun hc16 => ?_) (fun hc16 => ?_)
        · have hf := (if_pos hc16).symm.trans hf
          refine G_aload_n (x := some (19)) X dX2_readFactor_45 rfl rfl ?_
          refine G_dup X rfl dX2_readFactor_46 ?_
          refine M_getI X fd_X2_32 rfl (show SH[19]? = some (_, 0) from rfl) dX2_readFactor_47 ?_
          refine G_iconst (v := 1) X dX2_readFactor_50 rfl ?_
          refine G_iadd X dX2_readFactor_51 ?_
          refine M_putI X fd_X2_32 rfl (show SH[19]? = some (_, 0) from rfl) rfl rfl dX2_readFactor_52 ?_
          refine G_iload_n (x := v1) X dX2_readFactor_55 rfl rfl ?_
          refine G_bipush (v := 40) X dX2_readFactor_56 rfl ?_
          refine G_icmp_ne (tgt := 70) X dX2_readFactor_58 (by decide) (fun hc17 => ?_) (fun hc17 => ?_)
          · have hf := (if_neg hc17).symm.trans hf
            refine G_aload_n (x := some (19)) X dX2_readFactor_70 rfl rfl ?_
            refine G_iload_n (x := a0) X dX2_readFactor_71 rfl rfl ?_
            refine G_iload_n (x := a1) X dX2_readFactor_72 rfl rfl ?_
            refine G_iconst (v := 1) X dX2_readFactor_73 rfl ?_
            refine G_iadd X dX2_readFactor_74 ?_
            obtain ⟨⟨v18, I18⟩, hk18, hf⟩ := obd hf
            try dsimp only at hf
            refine G_callV (As := [vi a0, vi (a1 + 1)]) X (h_readFactor (uI I1 19 8 ((I1 19 8) + 1)) a0 (a1 + 1) v18 I18 hk18) cb_X2_58 vi_X2_readFactor (ci := 2) rfl rfl (show SH[19]? = some (_, 0) from rfl) rfl rfl (Nat.le_of_ble_eq_true rfl) (by omega) (by decide) rfl (Nat.le_refl _) (Nat.le_refl _) dX2_readFactor_75 ?_
            show G E κ _ _ _ [some (vr 19), some (vi a0), some (vi a1), some (vi v1)] [vi (b2i v18)] (mm I18)
            refine G_if_ne (tgt := 83) X dX2_readFactor_78 (by decide) (fun hc19 => ?_) (fun hc19 => ?_)
            · have hf := (if_pos (b2i_t hc19)).symm.trans hf
              refine G_aload_n (x := some (19)) X dX2_readFactor_83 rfl rfl ?_
              refine M_getR X fd_X2_17 rfl (show SH[19]? = some (_, 0) from rfl) rfl dX2_readFactor_84 ?_
              refine G_iload_n (x := a0) X dX2_readFactor_87 rfl rfl ?_
              obtain ⟨hc20, hf⟩ := ock hf
              refine M_aald (r := 23 + 2 * a0.toNatClampNeg) X (show SH[21]? = some (12, 19) from rfl) (by decide) hc20 (p_val (ib_lt hc20)) dX2_readFactor_88 ?_
              obtain ⟨I21, hk21, hf⟩ := obd hf
              refine G_callV (As := []) X (f0_invert_ok E I18 (23 + 2 * a0.toNatClampNeg) (vB_is (ib_lt hc20)) I21 hk21) cb_X2_71 vi_X0_invert (ci := 0) rfl rfl (show SH[23 + 2 * a0.toNatClampNeg]? = some (_, 0) from (vB_is (ib_lt hc20)).1) rfl rfl (Nat.le_of_ble_eq_true rfl) (by omega) (by decide) rfl (Nat.le_refl _) (Nat.le_refl _) dX2_readFactor_89 ?_
              show G E κ _ _ _ [some (vr 19), some (vi a0), some (vi a1), some (vi v1)] [] (mm I21)
              refine G_iconst (v := 1) X dX2_readFactor_92 rfl ?_
              obtain ⟨rfl, rfl⟩ := Prod.mk.inj (Option.some.inj hf)
              exact G_iret X hR rfl (nar_b2i true) dX2_readFactor_93
            · have hf := (if_neg (b2i_f hc19)).symm.trans hf
              refine G_iconst (v := 0) X dX2_readFactor_81 rfl ?_
              obtain ⟨rfl, rfl⟩ := Prod.mk.inj (Option.some.inj hf)
              exact G_iret X hR rfl (nar_b2i false) dX2_readFactor_82
          · have hf := (if_pos hc17).symm.trans hf
            refine G_aload_n (x := some (19)) X dX2_readFactor_61 rfl rfl ?_
            refine G_iload_n (x := a0) X dX2_readFactor_62 rfl rfl ?_
            refine G_iload_n (x := a1) X dX2_readFactor_63 rfl rfl ?_
            refine G_iconst (v := 1) X dX2_readFactor_64 rfl ?_
            refine G_iadd X dX2_readFactor_65 ?_
            obtain ⟨⟨v22, I22⟩, hk22, hf⟩ := obd hf
            try dsimp only at hf
            refine G_callV (As := [vi a0, vi (a1 + 1)]) X (h_readBracket (uI I1 19 8 ((I1 19 8) + 1)) a0 (a1 + 1) v22 I22 hk22) cb_X2_68 vi_X2_readBracket (ci := 2) rfl rfl (show SH[19]? = some (_, 0) from rfl) rfl rfl (Nat.le_of_ble_eq_true rfl) (by omega) (by decide) rfl (Nat.le_refl _) (Nat.le_refl _) dX2_readFactor_66 ?_
            show G E κ _ _ _ [some (vr 19), some (vi a0), some (vi a1), some (vi v1)] [vi (b2i v22)] (mm I22)
            obtain ⟨rfl, rfl⟩ := Prod.mk.inj (Option.some.inj hf)
            exact G_iret X hR rfl (nar_b2i v22) dX2_readFactor_69
        · have hf := (if_neg hc16).symm.trans hf
          refine G_aload_n (x := some (19)) X dX2_readFactor_39 rfl rfl ?_
          refine G_iload_n (x := a1) X dX2_readFactor_40 rfl rfl ?_
          obtain ⟨⟨v23, I23⟩, hk23, hf⟩ := obd hf
          try dsimp only at hf
          refine G_callV (As := [vi a1]) X (f2_breakOff_ok E I1 a1 v23 I23 hk23) cb_X2_47 vi_X2_breakOff (ci := 2) rfl rfl (show SH[19]? = some (_, 0) from rfl) rfl rfl (Nat.le_of_ble_eq_true rfl) (by omega) (by decide) rfl (Nat.le_refl _) (Nat.le_refl _) dX2_readFactor_41 ?_
          show G E κ _ _ _ [some (vr 19), some (vi a0), some (vi a1), some (vi v1)] [vi (b2i v23)] (mm I23)
          obtain ⟨rfl, rfl⟩ := Prod.mk.inj (Option.some.inj hf)
          exact G_iret X hR rfl (nar_b2i v23) dX2_readFactor_44
    · have hf := (if_neg hc13).symm.trans hf
      refine G_aload_n (x := some (19)) X dX2_readFactor_17 rfl rfl ?_
      refine G_iload_n (x := a0) X dX2_readFactor_18 rfl rfl ?_
      refine G_iload_n (x := a1) X dX2_readFactor_19 rfl rfl ?_
      obtain ⟨⟨v24, I24⟩, hk24, hf⟩ := obd hf
      try dsimp only at hf
      refine G_callV (As := [vi a0, vi a1]) X (f2_readRow_ok E I1 a0 a1 v24 I24 hk24) cb_X2_65 vi_X2_readRow (ci := 2) rfl rfl (show SH[19]? = some (_, 0) from rfl) rfl rfl (Nat.le_of_ble_eq_true rfl) (by omega) (by decide) rfl (Nat.le_refl _) (Nat.le_refl _) dX2_readFactor_20 ?_
      show G E κ _ _ _ [some (vr 19), some (vi a0), some (vi a1), some (vi v1)] [vi (b2i v24)] (mm I24)
      obtain ⟨rfl, rfl⟩ := Prod.mk.inj (Option.some.inj hf)
      exact G_iret X hR rfl (nar_b2i v24) dX2_readFactor_23

def rdF : Nat → gI → Int32 → Int32 → Option (Bool × gI)
  | 0 => fun _ _ _ => none
  | k + 1 => f2_readFactor (f2_readBracket (f2_readSum (f2_readProduct (rdF k)))) (rdF k)
theorem rdF_ok (E : gEnv) : ∀ (k : Nat) (I : gI) (a0 a1 : Int32) (r : Bool) (I' : gI), rdF k I a0 a1 = some (r, I') → Ctr E yX2_readFactor cX2_readFactor 4 (some .boolean) (12 + 4 * k) 0 0 [vr 19, vi a0, vi a1] (mm I) (some (vi (b2i r))) (mm I') := by
  intro k
  induction k with
  | zero =>
    intro I a0 a1 r I' h
    cases h
  | succ k ih =>
    intro I a0 a1 r I' h
    have hP : ∀ (I : gI) (a0 a1 : Int32) (r : Bool) (I' : gI), f2_readProduct (rdF k) I a0 a1 = some (r, I') → Ctr E yX2_readProduct cX2_readProduct 5 (some .boolean) (12 + 4 * k + 1) 0 0 [vr 19, vi a0, vi a1] (mm I) (some (vi (b2i r))) (mm I') :=
      fun I a0 a1 r I' h => f2_readProduct_ok (rdF k) (12 + 4 * k + 1) (by omega) (12 + 4 * k) (by omega) ih I a0 a1 r I' h
    have hS : ∀ (I : gI) (a0 a1 : Int32) (r : Bool) (I' : gI), f2_readSum (f2_readProduct (rdF k)) I a0 a1 = some (r, I') → Ctr E yX2_readSum cX2_readSum 5 (some .boolean) (12 + 4 * k + 2) 0 0 [vr 19, vi a0, vi a1] (mm I) (some (vi (b2i r))) (mm I') :=
      fun I a0 a1 r I' h => f2_readSum_ok (f2_readProduct (rdF k)) (12 + 4 * k + 2) (by omega) (12 + 4 * k + 1) (by omega) hP I a0 a1 r I' h
    have hB : ∀ (I : gI) (a0 a1 : Int32) (r : Bool) (I' : gI), f2_readBracket (f2_readSum (f2_readProduct (rdF k))) I a0 a1 = some (r, I') → Ctr E yX2_readBracket cX2_readBracket 3 (some .boolean) (12 + 4 * k + 3) 0 0 [vr 19, vi a0, vi a1] (mm I) (some (vi (b2i r))) (mm I') :=
      fun I a0 a1 r I' h => f2_readBracket_ok (f2_readSum (f2_readProduct (rdF k))) (12 + 4 * k + 3) (by omega) (12 + 4 * k + 2) (by omega) hS I a0 a1 r I' h
    exact f2_readFactor_ok (f2_readBracket (f2_readSum (f2_readProduct (rdF k)))) (rdF k) (12 + 4 * k + 4) (by omega) (12 + 4 * k + 3) (by omega) hB (12 + 4 * k) (by omega) ih I a0 a1 r I' h
def fR_readSum (I : gI) (a0 a1 : Int32) : Option (Bool × gI) := f2_readSum (f2_readProduct (rdF 20)) I a0 a1
theorem fR_readSum_ok (E : gEnv) (I : gI) (a0 a1 : Int32) (r : Bool) (I' : gI) (h : fR_readSum I a0 a1 = some (r, I')) : Ctr E yX2_readSum cX2_readSum 5 (some .boolean) 94 0 0 [vr 19, vi a0, vi a1] (mm I) (some (vi (b2i r))) (mm I') :=
  f2_readSum_ok (f2_readProduct (rdF 20)) 94 (by omega) 93 (by omega) (fun I a0 a1 r I' h => f2_readProduct_ok (rdF 20) 93 (by omega) 92 (by omega) (rdF_ok E 20) I a0 a1 r I' h) I a0 a1 r I' h

def f2_read (I : gI) (a1 : Int32) : Option (Bool × gI) := (fR_readSum (uI (uI (uI (uI I 19 6 1) 19 7 a1) 19 8 0) 19 9 0) 0 0).bind fun q1 => (if q1.1 = true then (f2_nextSign q1.2).bind fun q4 => (if q4.1 = 0 then (if (q4.2 19 9) = 0 then some (true, q4.2) else some (false, q4.2)) else (f2_breakOff q4.2 0).bind fun q7 => (if (q7.2 19 9) = 0 then some (true, q7.2) else some (false, q7.2))) else (if (q1.2 19 9) = 0 then some (true, q1.2) else some (false, q1.2)))
set_option maxRecDepth 100000 in
set_option maxHeartbeats 4000000 in
theorem f2_read_ok (E : gEnv) (I : gI) (a1 : Int32) (r : Bool) (I' : gI) (hf : f2_read I a1 = some (r, I')) : Ctr E yX2_read cX2_read 3 (some .boolean) 95 0 0 [vr 19, vr 1, vi a1] (mm I) (some (vi (b2i r))) (mm I') := by
  refine Ctr.mk (by decide +kernel) rfl (Nat.le_of_ble_eq_true rfl) fun κ X hR _ => ?_
  have X : Cx E κ cX2_read 3 RX2 (some .boolean) 95 0 0 := X
  show G E κ 0 0 0 [some (vr 19), some (vr 1), some (vi a1)] [] (mm I)
  unfold f2_read at hf
  refine G_aload_n (x := some (19)) X dX2_read_0 rfl rfl ?_
  refine G_aload_n (x := some (1)) X dX2_read_1 rfl rfl ?_
  refine M_putRw X fd_X2_21 (fun _ => rfl) (fun _ => rfl) dX2_read_2 ?_
  refine G_aload_n (x := some (19)) X dX2_read_5 rfl rfl ?_
  refine G_iload_n (x := a1) X dX2_read_6 rfl rfl ?_
  refine M_putI X fd_X2_29 rfl (show SH[19]? = some (_, 0) from rfl) rfl rfl dX2_read_7 ?_
  refine G_aload_n (x := some (19)) X dX2_read_10 rfl rfl ?_
  refine G_iconst (v := 0) X dX2_read_11 rfl ?_
  refine M_putI X fd_X2_32 rfl (show SH[19]? = some (_, 0) from rfl) rfl rfl dX2_read_12 ?_
  refine G_aload_n (x := some (19)) X dX2_read_15 rfl rfl ?_
  refine G_iconst (v := 0) X dX2_read_16 rfl ?_
  refine M_putI X fd_X2_35 rfl (show SH[19]? = some (_, 0) from rfl) (nar_b2i false) (fit_b2i false) dX2_read_17 ?_
  refine G_aload_n (x := some (19)) X dX2_read_20 rfl rfl ?_
  refine G_iconst (v := 0) X dX2_read_21 rfl ?_
  refine G_iconst (v := 0) X dX2_read_22 rfl ?_
  obtain ⟨⟨v1, I1⟩, hk1, hf⟩ := obd hf
  try dsimp only at hf
  refine G_callV (As := [vi 0, vi 0]) X (fR_readSum_ok E (uI (uI (uI (uI I 19 6 1) 19 7 a1) 19 8 0) 19 9 0) 0 0 v1 I1 hk1) cb_X2_39 vi_X2_readSum (ci := 2) rfl rfl (show SH[19]? = some (_, 0) from rfl) rfl rfl (Nat.le_of_ble_eq_true rfl) (by decide) (by decide) rfl (Nat.le_refl _) (Nat.le_refl _) dX2_read_23 ?_
  show G E κ _ _ _ [some (vr 19), some (vr 1), some (vi a1)] [vi (b2i v1)] (mm I1)
  refine G_if_eq (tgt := 42) X dX2_read_26 (by decide) (fun hc2 => ?_) (fun hc2 => ?_)
  · have hf := (if_neg (b2i_f hc2)).symm.trans hf
    refine G_aload_n (x := some (19)) X dX2_read_42 rfl rfl ?_
    refine M_getI X fd_X2_35 rfl (show SH[19]? = some (_, 0) from rfl) dX2_read_43 ?_
    refine G_if_ne (tgt := 53) X dX2_read_46 (by decide) (fun hc3 => ?_) (fun hc3 => ?_)
    · have hf := (if_neg hc3).symm.trans hf
      refine G_iconst (v := 0) X dX2_read_53 rfl ?_
      obtain ⟨rfl, rfl⟩ := Prod.mk.inj (Option.some.inj hf)
      exact G_iret X hR rfl (nar_b2i false) dX2_read_54
    · have hf := (if_pos hc3).symm.trans hf
      refine G_iconst (v := 1) X dX2_read_49 rfl ?_
      refine G_goto (tgt := 54) X dX2_read_50 (by decide) ?_
      obtain ⟨rfl, rfl⟩ := Prod.mk.inj (Option.some.inj hf)
      exact G_iret X hR rfl (nar_b2i true) dX2_read_54
  · have hf := (if_pos (b2i_t hc2)).symm.trans hf
    refine G_aload_n (x := some (19)) X dX2_read_29 rfl rfl ?_
    obtain ⟨⟨v4, I4⟩, hk4, hf⟩ := obd hf
    try dsimp only at hf
    refine G_callV (As := []) X (f2_nextSign_ok E I1  v4 I4 hk4) cb_X2_43 vi_X2_nextSign (ci := 2) rfl rfl (show SH[19]? = some (_, 0) from rfl) rfl rfl (Nat.le_of_ble_eq_true rfl) (by decide) (by decide) rfl (Nat.le_refl _) (Nat.le_refl _) dX2_read_30 ?_
    show G E κ _ _ _ [some (vr 19), some (vr 1), some (vi a1)] [vi v4] (mm I4)
    refine G_if_eq (tgt := 42) X dX2_read_33 (by decide) (fun hc5 => ?_) (fun hc5 => ?_)
    · have hf := (if_pos hc5).symm.trans hf
      refine G_aload_n (x := some (19)) X dX2_read_42 rfl rfl ?_
      refine M_getI X fd_X2_35 rfl (show SH[19]? = some (_, 0) from rfl) dX2_read_43 ?_
      refine G_if_ne (tgt := 53) X dX2_read_46 (by decide) (fun hc6 => ?_) (fun hc6 => ?_)
      · have hf := (if_neg hc6).symm.trans hf
        refine G_iconst (v := 0) X dX2_read_53 rfl ?_
        obtain ⟨rfl, rfl⟩ := Prod.mk.inj (Option.some.inj hf)
        exact G_iret X hR rfl (nar_b2i false) dX2_read_54
      · have hf := (if_pos hc6).symm.trans hf
        refine G_iconst (v := 1) X dX2_read_49 rfl ?_
        refine G_goto (tgt := 54) X dX2_read_50 (by decide) ?_
        obtain ⟨rfl, rfl⟩ := Prod.mk.inj (Option.some.inj hf)
        exact G_iret X hR rfl (nar_b2i true) dX2_read_54
    · have hf := (if_neg hc5).symm.trans hf
      refine G_aload_n (x := some (19)) X dX2_read_36 rfl rfl ?_
      refine G_iconst (v := 0) X dX2_read_37 rfl ?_
      obtain ⟨⟨v7, I7⟩, hk7, hf⟩ := obd hf
      try dsimp only at hf
      refine G_callV (As := [vi 0]) X (f2_breakOff_ok E I4 0 v7 I7 hk7) cb_X2_47 vi_X2_breakOff (ci := 2) rfl rfl (show SH[19]? = some (_, 0) from rfl) rfl rfl (Nat.le_of_ble_eq_true rfl) (by decide) (by decide) rfl (Nat.le_refl _) (Nat.le_refl _) dX2_read_38 ?_
      show G E κ _ _ _ [some (vr 19), some (vr 1), some (vi a1)] [vi (b2i v7)] (mm I7)
      refine G_pop X rfl dX2_read_41 ?_
      refine G_aload_n (x := some (19)) X dX2_read_42 rfl rfl ?_
      refine M_getI X fd_X2_35 rfl (show SH[19]? = some (_, 0) from rfl) dX2_read_43 ?_
      refine G_if_ne (tgt := 53) X dX2_read_46 (by decide) (fun hc8 => ?_) (fun hc8 => ?_)
      · have hf := (if_neg hc8).symm.trans hf
        refine G_iconst (v := 0) X dX2_read_53 rfl ?_
        obtain ⟨rfl, rfl⟩ := Prod.mk.inj (Option.some.inj hf)
        exact G_iret X hR rfl (nar_b2i false) dX2_read_54
      · have hf := (if_pos hc8).symm.trans hf
        refine G_iconst (v := 1) X dX2_read_49 rfl ?_
        refine G_goto (tgt := 54) X dX2_read_50 (by decide) ?_
        obtain ⟨rfl, rfl⟩ := Prod.mk.inj (Option.some.inj hf)
        exact G_iret X hR rfl (nar_b2i true) dX2_read_54

