def f6_code_L0 : Nat → gI → Option (Int32 × gI)
  | 0, _ => none
  | k + 1, I => (if (I 79 3) ≤ (I 79 8) then (if (I 79 3) ≤ (I 79 8) then some (0, I) else if ib (I 79 8) 100 = true then some (I 81 ((I 79 8).toNatClampNeg), I) else none) else if ib (I 79 8) 100 = true then (if (I 81 ((I 79 8).toNatClampNeg)) = 32 then f6_code_L0 k (uI I 79 8 ((I 79 8) + 1)) else (if (I 79 3) ≤ (I 79 8) then some (0, I) else if ib (I 79 8) 100 = true then some (I 81 ((I 79 8).toNatClampNeg), I) else none)) else none)
set_option maxRecDepth 100000 in
set_option maxHeartbeats 4000000 in
theorem f6_code_L0_ok {E : gEnv} {κ : gCtx} (X : Cx E κ cX6_code 1 RX6 (some .int) 0 0 0) : ∀ (k : Nat) (I : gI)  (r : Int32) (I' : gI) (hR : gRt E κ 0 0 (some (vi r)) (mm I')) (hf : f6_code_L0 k I  = some (r, I')), G E κ 0 0 0 [some (vr 79)] [] (mm I) := by
  intro k
  induction k with
  | zero =>
    intros
    rename_i hf
    cases hf
  | succ k ih =>
    intro I  r I' hR hf
    refine G_aload_n (x := some (79)) X dX6_code_0 rfl rfl ?_
    refine M_getI X fd_X6_108 rfl (show SH[79]? = some (_, 0) from rfl) dX6_code_1 ?_
    refine G_aload_n (x := some (79)) X dX6_code_4 rfl rfl ?_
    refine M_getI X fd_X6_105 rfl (show SH[79]? = some (_, 0) from rfl) dX6_code_5 ?_
    refine G_icmp_ge (tgt := 38) X dX6_code_8 (by decide) (fun hc1 => ?_) (fun hc1 => ?_)
    · have hf := (if_pos hc1).symm.trans hf
      refine G_aload_n (x := some (79)) X dX6_code_38 rfl rfl ?_
      refine M_getI X fd_X6_108 rfl (show SH[79]? = some (_, 0) from rfl) dX6_code_39 ?_
      refine G_aload_n (x := some (79)) X dX6_code_42 rfl rfl ?_
      refine M_getI X fd_X6_105 rfl (show SH[79]? = some (_, 0) from rfl) dX6_code_43 ?_
      refine G_icmp_ge (tgt := 61) X dX6_code_46 (by decide) (fun hc2 => ?_) (fun hc2 => ?_)
      · have hf := (if_pos hc2).symm.trans hf
        refine G_iconst (v := 0) X dX6_code_61 rfl ?_
        obtain ⟨rfl, rfl⟩ := Prod.mk.inj (Option.some.inj hf)
        exact G_iret X hR rfl rfl dX6_code_62
      · have hf := (if_neg hc2).symm.trans hf
        refine G_aload_n (x := some (79)) X dX6_code_49 rfl rfl ?_
        refine M_getR X fd_X6_14 rfl (show SH[79]? = some (_, 0) from rfl) rfl dX6_code_50 ?_
        refine G_aload_n (x := some (79)) X dX6_code_53 rfl rfl ?_
        refine M_getI X fd_X6_108 rfl (show SH[79]? = some (_, 0) from rfl) dX6_code_54 ?_
        obtain ⟨hc3, hf⟩ := ock hf
        refine M_iald X (show SH[81]? = some (_, 100) from rfl) hc3 dX6_code_57 ?_
        refine G_goto (tgt := 62) X dX6_code_58 (by decide) ?_
        obtain ⟨rfl, rfl⟩ := Prod.mk.inj (Option.some.inj hf)
        exact G_iret X hR rfl rfl dX6_code_62
    · have hf := (if_neg hc1).symm.trans hf
      refine G_aload_n (x := some (79)) X dX6_code_11 rfl rfl ?_
      refine M_getR X fd_X6_14 rfl (show SH[79]? = some (_, 0) from rfl) rfl dX6_code_12 ?_
      refine G_aload_n (x := some (79)) X dX6_code_15 rfl rfl ?_
      refine M_getI X fd_X6_108 rfl (show SH[79]? = some (_, 0) from rfl) dX6_code_16 ?_
      obtain ⟨hc4, hf⟩ := ock hf
      refine M_iald X (show SH[81]? = some (_, 100) from rfl) hc4 dX6_code_19 ?_
      refine G_bipush (v := 32) X dX6_code_20 rfl ?_
      refine G_icmp_ne (tgt := 38) X dX6_code_22 (by decide) (fun hc5 => ?_) (fun hc5 => ?_)
      · have hf := (if_neg hc5).symm.trans hf
        refine G_aload_n (x := some (79)) X dX6_code_38 rfl rfl ?_
        refine M_getI X fd_X6_108 rfl (show SH[79]? = some (_, 0) from rfl) dX6_code_39 ?_
        refine G_aload_n (x := some (79)) X dX6_code_42 rfl rfl ?_
        refine M_getI X fd_X6_105 rfl (show SH[79]? = some (_, 0) from rfl) dX6_code_43 ?_
        refine G_icmp_ge (tgt := 61) X dX6_code_46 (by decide) (fun hc6 => ?_) (fun hc6 => ?_)
        · have hf := (if_pos hc6).symm.trans hf
          refine G_iconst (v := 0) X dX6_code_61 rfl ?_
          obtain ⟨rfl, rfl⟩ := Prod.mk.inj (Option.some.inj hf)
          exact G_iret X hR rfl rfl dX6_code_62
        · have hf := (if_neg hc6).symm.trans hf
          refine G_aload_n (x := some (79)) X dX6_code_49 rfl rfl ?_
          refine M_getR X fd_X6_14 rfl (show SH[79]? = some (_, 0) from rfl) rfl dX6_code_50 ?_
          refine G_aload_n (x := some (79)) X dX6_code_53 rfl rfl ?_
          refine M_getI X fd_X6_108 rfl (show SH[79]? = some (_, 0) from rfl) dX6_code_54 ?_
          obtain ⟨hc7, hf⟩ := ock hf
          refine M_iald X (show SH[81]? = some (_, 100) from rfl) hc7 dX6_code_57 ?_
          refine G_goto (tgt := 62) X dX6_code_58 (by decide) ?_
          obtain ⟨rfl, rfl⟩ := Prod.mk.inj (Option.some.inj hf)
          exact G_iret X hR rfl rfl dX6_code_62
      · have hf := (if_pos hc5).symm.trans hf
        refine G_aload_n (x := some (79)) X dX6_code_25 rfl rfl ?_
        refine G_dup X dX6_code_26 ?_
        refine M_getI X fd_X6_108 rfl (show SH[79]? = some (_, 0) from rfl) dX6_code_27 ?_
        refine G_iconst (v := 1) X dX6_code_30 rfl ?_
        refine G_iadd X dX6_code_31 ?_
        refine M_putI X fd_X6_108 rfl (show SH[79]? = some (_, 0) from rfl) rfl rfl dX6_code_32 ?_
        refine G_goto (tgt := 0) X dX6_code_35 (by decide) ?_
        exact ih (uI I 79 8 ((I 79 8) + 1))  _ _ hR hf

def f6_code (I : gI)  : Option (Int32 × gI) := f6_code_L0 FU I
set_option maxRecDepth 100000 in
set_option maxHeartbeats 4000000 in
theorem f6_code_ok (E : gEnv) (I : gI)  (r : Int32) (I' : gI) (hf : f6_code I  = some (r, I')) : Ctr E yX6_code cX6_code 1 (some .int) 0 0 0 [vr 79] (mm I) (some (vi r)) (mm I') := by
  refine Ctr.mk (by decide +kernel) (Nat.le_of_ble_eq_true rfl) fun κ X hR _ => ?_
  have X : Cx E κ cX6_code 1 RX6 (some .int) 0 0 0 := X
  show G E κ 0 0 0 [some (vr 79)] [] (mm I)
  unfold f6_code at hf
  exact f6_code_L0_ok X FU I  _ _ hR hf

def f6_wrong (I : gI) (a0 : Int32) (a1 : Int32) : Option gI := (if a0 = 0 then some I else (if 0 ≤ (I 79 14) then some I else some (uI (uI I 79 14 a1) 79 15 ((uI I 79 14 a1) 79 11))))
set_option maxRecDepth 100000 in
set_option maxHeartbeats 4000000 in
theorem f6_wrong_ok (E : gEnv) (I : gI) (a0 : Int32) (a1 : Int32) (I' : gI) (hf : f6_wrong I a0 a1 = some I') : Ctr E yX6_wrong cX6_wrong 3 none 0 0 0 [vr 79, vi a0, vi a1] (mm I) (none) (mm I') := by
  refine Ctr.mk (by decide +kernel) (Nat.le_of_ble_eq_true rfl) fun κ X hR _ => ?_
  have X : Cx E κ cX6_wrong 3 RX6 none 0 0 0 := X
  show G E κ 0 0 0 [some (vr 79), some (vi a0), some (vi a1)] [] (mm I)
  unfold f6_wrong at hf
  refine G_iload_n (x := a0) X dX6_wrong_0 rfl rfl ?_
  refine G_if_eq (tgt := 24) X dX6_wrong_1 (by decide) (fun hc1 => ?_) (fun hc1 => ?_)
  · have hf := (if_pos hc1).symm.trans hf
    obtain rfl := Option.some.inj hf
    exact G_vret X hR rfl dX6_wrong_24
  · have hf := (if_neg hc1).symm.trans hf
    refine G_aload_n (x := some (79)) X dX6_wrong_4 rfl rfl ?_
    refine M_getI X fd_X6_111 rfl (show SH[79]? = some (_, 0) from rfl) dX6_wrong_5 ?_
    refine G_if_ge (tgt := 24) X dX6_wrong_8 (by decide) (fun hc2 => ?_) (fun hc2 => ?_)
    · have hf := (if_pos hc2).symm.trans hf
      obtain rfl := Option.some.inj hf
      exact G_vret X hR rfl dX6_wrong_24
    · have hf := (if_neg hc2).symm.trans hf
      refine G_aload_n (x := some (79)) X dX6_wrong_11 rfl rfl ?_
      refine G_iload_n (x := a1) X dX6_wrong_12 rfl rfl ?_
      refine M_putI X fd_X6_111 rfl (show SH[79]? = some (_, 0) from rfl) rfl rfl dX6_wrong_13 ?_
      refine G_aload_n (x := some (79)) X dX6_wrong_16 rfl rfl ?_
      refine G_aload_n (x := some (79)) X dX6_wrong_17 rfl rfl ?_
      refine M_getI X fd_X6_114 rfl (show SH[79]? = some (_, 0) from rfl) dX6_wrong_18 ?_
      refine M_putI X fd_X6_117 rfl (show SH[79]? = some (_, 0) from rfl) rfl rfl dX6_wrong_21 ?_
      obtain rfl := Option.some.inj hf
      exact G_vret X hR rfl dX6_wrong_24

def f6_readsNumber_L26 : Nat → gI → Int32 → Option (Bool × gI)
  | 0, _, _ => none
  | k + 1, I, x1 => (if (I 79 3) ≤ (I 79 8) then (if (I 79 8) = (I 79 3) then some (true, I) else if ib (I 79 8) 100 = true then (if (f6_in (I 81 ((I 79 8).toNatClampNeg)) 48 57) = true then some (false, I) else some (true, I)) else none) else if ib (I 79 8) 100 = true then (if (f6_in (I 81 ((I 79 8).toNatClampNeg)) 48 57) = true then (if 3 ≤ ((I 79 8) - x1) then (if (I 79 8) = (I 79 3) then some (true, I) else if ib (I 79 8) 100 = true then (if (f6_in (I 81 ((I 79 8).toNatClampNeg)) 48 57) = true then some (false, I) else some (true, I)) else none) else (if (I 79 8) = x1 then if ib (I 79 8) 100 = true then f6_readsNumber_L26 k (uI (uI I 79 16 (((10 * (I 79 16)) + (I 81 ((I 79 8).toNatClampNeg))) - 48)) 79 8 (((uI I 79 16 (((10 * (I 79 16)) + (I 81 ((I 79 8).toNatClampNeg))) - 48)) 79 8) + 1)) x1 else none else (if (I 79 16) ≤ 0 then (if (I 79 8) = (I 79 3) then some (true, I) else if ib (I 79 8) 100 = true then (if (f6_in (I 81 ((I 79 8).toNatClampNeg)) 48 57) = true then some (false, I) else some (true, I)) else none) else if ib (I 79 8) 100 = true then f6_readsNumber_L26 k (uI (uI I 79 16 (((10 * (I 79 16)) + (I 81 ((I 79 8).toNatClampNeg))) - 48)) 79 8 (((uI I 79 16 (((10 * (I 79 16)) + (I 81 ((I 79 8).toNatClampNeg))) - 48)) 79 8) + 1)) x1 else none))) else (if (I 79 8) = (I 79 3) then some (true, I) else if ib (I 79 8) 100 = true then (if (f6_in (I 81 ((I 79 8).toNatClampNeg)) 48 57) = true then some (false, I) else some (true, I)) else none)) else none)
set_option maxRecDepth 100000 in
set_option maxHeartbeats 4000000 in
theorem f6_readsNumber_L26_ok {E : gEnv} {κ : gCtx} (X : Cx E κ cX6_readsNumber 2 RX6 (some .boolean) 1 0 0) : ∀ (k : Nat) (I : gI) (x1 : Int32) (r : Bool) (I' : gI) (hR : gRt E κ 0 0 (some (vi (b2i r))) (mm I')) (hf : f6_readsNumber_L26 k I x1 = some (r, I')), G E κ 0 0 26 [some (vr 79), some (vi x1)] [] (mm I) := by
  intro k
  induction k with
  | zero =>
    intros
    rename_i hf
    cases hf
  | succ k ih =>
    intro I x1 r I' hR hf
    refine G_aload_n (x := some (79)) X dX6_readsNumber_26 rfl rfl ?_
    refine M_getI X fd_X6_108 rfl (show SH[79]? = some (_, 0) from rfl) dX6_readsNumber_27 ?_
    refine G_aload_n (x := some (79)) X dX6_readsNumber_30 rfl rfl ?_
    refine M_getI X fd_X6_105 rfl (show SH[79]? = some (_, 0) from rfl) dX6_readsNumber_31 ?_
    refine G_icmp_ge (tgt := 118) X dX6_readsNumber_34 (by decide) (fun hc3 => ?_) (fun hc3 => ?_)
    · have hf := (if_pos hc3).symm.trans hf
      refine G_aload_n (x := some (79)) X dX6_readsNumber_118 rfl rfl ?_
      refine M_getI X fd_X6_108 rfl (show SH[79]? = some (_, 0) from rfl) dX6_readsNumber_119 ?_
      refine G_aload_n (x := some (79)) X dX6_readsNumber_122 rfl rfl ?_
      refine M_getI X fd_X6_105 rfl (show SH[79]? = some (_, 0) from rfl) dX6_readsNumber_123 ?_
      refine G_icmp_eq (tgt := 148) X dX6_readsNumber_126 (by decide) (fun hc4 => ?_) (fun hc4 => ?_)
      · have hf := (if_pos hc4).symm.trans hf
        refine G_iconst (v := 1) X dX6_readsNumber_148 rfl ?_
        refine G_goto (tgt := 153) X dX6_readsNumber_149 (by decide) ?_
        obtain ⟨rfl, rfl⟩ := Prod.mk.inj (Option.some.inj hf)
        exact G_iret X hR rfl (nar_b2i true) dX6_readsNumber_153
      · have hf := (if_neg hc4).symm.trans hf
        refine G_aload_n (x := some (79)) X dX6_readsNumber_129 rfl rfl ?_
        refine M_getR X fd_X6_14 rfl (show SH[79]? = some (_, 0) from rfl) rfl dX6_readsNumber_130 ?_
        refine G_aload_n (x := some (79)) X dX6_readsNumber_133 rfl rfl ?_
        refine M_getI X fd_X6_108 rfl (show SH[79]? = some (_, 0) from rfl) dX6_readsNumber_134 ?_
        obtain ⟨hc5, hf⟩ := ock hf
        refine M_iald X (show SH[81]? = some (_, 100) from rfl) hc5 dX6_readsNumber_137 ?_
        refine G_bipush (v := 48) X dX6_readsNumber_138 rfl ?_
        refine G_bipush (v := 57) X dX6_readsNumber_140 rfl ?_
        refine G_callS (As := [vi (I 81 ((I 79 8).toNatClampNeg)), vi 48, vi 57]) X (f6_in_ok E I (I 81 ((I 79 8).toNatClampNeg)) 48 57 _ rfl) cb_X6_31 st_X6_in rfl rfl (Nat.le_of_ble_eq_true rfl) (by decide) (by decide) rfl (Nat.le_refl _) (Nat.le_refl _) dX6_readsNumber_142 ?_
        show G E κ _ _ _ [some (vr 79), some (vi x1)] [vi (b2i (f6_in (I 81 ((I 79 8).toNatClampNeg)) 48 57))] (mm I)
        refine G_if_ne (tgt := 152) X dX6_readsNumber_145 (by decide) (fun hc6 => ?_) (fun hc6 => ?_)
        · have hf := (if_pos (b2i_t hc6)).symm.trans hf
          refine G_iconst (v := 0) X dX6_readsNumber_152 rfl ?_
          obtain ⟨rfl, rfl⟩ := Prod.mk.inj (Option.some.inj hf)
          exact G_iret X hR rfl (nar_b2i false) dX6_readsNumber_153
        · have hf := (if_neg (b2i_f hc6)).symm.trans hf
          refine G_iconst (v := 1) X dX6_readsNumber_148 rfl ?_
          refine G_goto (tgt := 153) X dX6_readsNumber_149 (by decide) ?_
          obtain ⟨rfl, rfl⟩ := Prod.mk.inj (Option.some.inj hf)
          exact G_iret X hR rfl (nar_b2i true) dX6_readsNumber_153
    · have hf := (if_neg hc3).symm.trans hf
      refine G_aload_n (x := some (79)) X dX6_readsNumber_37 rfl rfl ?_
      refine M_getR X fd_X6_14 rfl (show SH[79]? = some (_, 0) from rfl) rfl dX6_readsNumber_38 ?_
      refine G_aload_n (x := some (79)) X dX6_readsNumber_41 rfl rfl ?_
      refine M_getI X fd_X6_108 rfl (show SH[79]? = some (_, 0) from rfl) dX6_readsNumber_42 ?_
      obtain ⟨hc7, hf⟩ := ock hf
      refine M_iald X (show SH[81]? = some (_, 100) from rfl) hc7 dX6_readsNumber_45 ?_
      refine G_bipush (v := 48) X dX6_readsNumber_46 rfl ?_
      refine G_bipush (v := 57) X dX6_readsNumber_48 rfl ?_
      refine G_callS (As := [vi (I 81 ((I 79 8).toNatClampNeg)), vi 48, vi 57]) X (f6_in_ok E I (I 81 ((I 79 8).toNatClampNeg)) 48 57 _ rfl) cb_X6_31 st_X6_in rfl rfl (Nat.le_of_ble_eq_true rfl) (by decide) (by decide) rfl (Nat.le_refl _) (Nat.le_refl _) dX6_readsNumber_50 ?_
      show G E κ _ _ _ [some (vr 79), some (vi x1)] [vi (b2i (f6_in (I 81 ((I 79 8).toNatClampNeg)) 48 57))] (mm I)
      refine G_if_eq (tgt := 118) X dX6_readsNumber_53 (by decide) (fun hc8 => ?_) (fun hc8 => ?_)
      · have hf := (if_neg (b2i_f hc8)).symm.trans hf
        refine G_aload_n (x := some (79)) X dX6_readsNumber_118 rfl rfl ?_
        refine M_getI X fd_X6_108 rfl (show SH[79]? = some (_, 0) from rfl) dX6_readsNumber_119 ?_
        refine G_aload_n (x := some (79)) X dX6_readsNumber_122 rfl rfl ?_
        refine M_getI X fd_X6_105 rfl (show SH[79]? = some (_, 0) from rfl) dX6_readsNumber_123 ?_
        refine G_icmp_eq (tgt := 148) X dX6_readsNumber_126 (by decide) (fun hc9 => ?_) (fun hc9 => ?_)
        · have hf := (if_pos hc9).symm.trans hf
          refine G_iconst (v := 1) X dX6_readsNumber_148 rfl ?_
          refine G_goto (tgt := 153) X dX6_readsNumber_149 (by decide) ?_
          obtain ⟨rfl, rfl⟩ := Prod.mk.inj (Option.some.inj hf)
          exact G_iret X hR rfl (nar_b2i true) dX6_readsNumber_153
        · have hf := (if_neg hc9).symm.trans hf
          refine G_aload_n (x := some (79)) X dX6_readsNumber_129 rfl rfl ?_
          refine M_getR X fd_X6_14 rfl (show SH[79]? = some (_, 0) from rfl) rfl dX6_readsNumber_130 ?_
          refine G_aload_n (x := some (79)) X dX6_readsNumber_133 rfl rfl ?_
          refine M_getI X fd_X6_108 rfl (show SH[79]? = some (_, 0) from rfl) dX6_readsNumber_134 ?_
          obtain ⟨hc10, hf⟩ := ock hf
          refine M_iald X (show SH[81]? = some (_, 100) from rfl) hc10 dX6_readsNumber_137 ?_
          refine G_bipush (v := 48) X dX6_readsNumber_138 rfl ?_
          refine G_bipush (v := 57) X dX6_readsNumber_140 rfl ?_
          refine G_callS (As := [vi (I 81 ((I 79 8).toNatClampNeg)), vi 48, vi 57]) X (f6_in_ok E I (I 81 ((I 79 8).toNatClampNeg)) 48 57 _ rfl) cb_X6_31 st_X6_in rfl rfl (Nat.le_of_ble_eq_true rfl) (by decide) (by decide) rfl (Nat.le_refl _) (Nat.le_refl _) dX6_readsNumber_142 ?_
          show G E κ _ _ _ [some (vr 79), some (vi x1)] [vi (b2i (f6_in (I 81 ((I 79 8).toNatClampNeg)) 48 57))] (mm I)
          refine G_if_ne (tgt := 152) X dX6_readsNumber_145 (by decide) (fun hc11 => ?_) (fun hc11 => ?_)
          · have hf := (if_pos (b2i_t hc11)).symm.trans hf
            refine G_iconst (v := 0) X dX6_readsNumber_152 rfl ?_
            obtain ⟨rfl, rfl⟩ := Prod.mk.inj (Option.some.inj hf)
            exact G_iret X hR rfl (nar_b2i false) dX6_readsNumber_153
          · have hf := (if_neg (b2i_f hc11)).symm.trans hf
            refine G_iconst (v := 1) X dX6_readsNumber_148 rfl ?_
            refine G_goto (tgt := 153) X dX6_readsNumber_149 (by decide) ?_
            obtain ⟨rfl, rfl⟩ := Prod.mk.inj (Option.some.inj hf)
            exact G_iret X hR rfl (nar_b2i true) dX6_readsNumber_153
      · have hf := (if_pos (b2i_t hc8)).symm.trans hf
        refine G_aload_n (x := some (79)) X dX6_readsNumber_56 rfl rfl ?_
        refine M_getI X fd_X6_108 rfl (show SH[79]? = some (_, 0) from rfl) dX6_readsNumber_57 ?_
        refine G_iload_n (x := x1) X dX6_readsNumber_60 rfl rfl ?_
        refine G_isub X dX6_readsNumber_61 ?_
        refine G_iconst (v := 3) X dX6_readsNumber_62 rfl ?_
        refine G_icmp_ge (tgt := 118) X dX6_readsNumber_63 (by decide) (fun hc12 => ?_) (fun hc12 => ?_)
        · have hf := (if_pos hc12).symm.trans hf
          refine G_aload_n (x := some (79)) X dX6_readsNumber_118 rfl rfl ?_
          refine M_getI X fd_X6_108 rfl (show SH[79]? = some (_, 0) from rfl) dX6_readsNumber_119 ?_
          refine G_aload_n (x := some (79)) X dX6_readsNumber_122 rfl rfl ?_
          refine M_getI X fd_X6_105 rfl (show SH[79]? = some (_, 0) from rfl) dX6_readsNumber_123 ?_
          refine G_icmp_eq (tgt := 148) X dX6_readsNumber_126 (by decide) (fun hc13 => ?_) (fun hc13 => ?_)
          · have hf := (if_pos hc13).symm.trans hf
            refine G_iconst (v := 1) X dX6_readsNumber_148 rfl ?_
            refine G_goto (tgt := 153) X dX6_readsNumber_149 (by decide) ?_
            obtain ⟨rfl, rfl⟩ := Prod.mk.inj (Option.some.inj hf)
            exact G_iret X hR rfl (nar_b2i true) dX6_readsNumber_153
          · have hf := (if_neg hc13).symm.trans hf
            refine G_aload_n (x := some (79)) X dX6_readsNumber_129 rfl rfl ?_
            refine M_getR X fd_X6_14 rfl (show SH[79]? = some (_, 0) from rfl) rfl dX6_readsNumber_130 ?_
            refine G_aload_n (x := some (79)) X dX6_readsNumber_133 rfl rfl ?_
            refine M_getI X fd_X6_108 rfl (show SH[79]? = some (_, 0) from rfl) dX6_readsNumber_134 ?_
            obtain ⟨hc14, hf⟩ := ock hf
            refine M_iald X (show SH[81]? = some (_, 100) from rfl) hc14 dX6_readsNumber_137 ?_
            refine G_bipush (v := 48) X dX6_readsNumber_138 rfl ?_
            refine G_bipush (v := 57) X dX6_readsNumber_140 rfl ?_
            refine G_callS (As := [vi (I 81 ((I 79 8).toNatClampNeg)), vi 48, vi 57]) X (f6_in_ok E I (I 81 ((I 79 8).toNatClampNeg)) 48 57 _ rfl) cb_X6_31 st_X6_in rfl rfl (Nat.le_of_ble_eq_true rfl) (by decide) (by decide) rfl (Nat.le_refl _) (Nat.le_refl _) dX6_readsNumber_142 ?_
            show G E κ _ _ _ [some (vr 79), some (vi x1)] [vi (b2i (f6_in (I 81 ((I 79 8).toNatClampNeg)) 48 57))] (mm I)
            refine G_if_ne (tgt := 152) X dX6_readsNumber_145 (by decide) (fun hc15 => ?_) (fun hc15 => ?_)
            · have hf := (if_pos (b2i_t hc15)).symm.trans hf
              refine G_iconst (v := 0) X dX6_readsNumber_152 rfl ?_
              obtain ⟨rfl, rfl⟩ := Prod.mk.inj (Option.some.inj hf)
              exact G_iret X hR rfl (nar_b2i false) dX6_readsNumber_153
            · have hf := (if_neg (b2i_f hc15)).symm.trans hf
              refine G_iconst (v := 1) X dX6_readsNumber_148 rfl ?_
              refine G_goto (tgt := 153) X dX6_readsNumber_149 (by decide) ?_
              obtain ⟨rfl, rfl⟩ := Prod.mk.inj (Option.some.inj hf)
              exact G_iret X hR rfl (nar_b2i true) dX6_readsNumber_153
        · have hf := (if_neg hc12).symm.trans hf
          refine G_aload_n (x := some (79)) X dX6_readsNumber_66 rfl rfl ?_
          refine M_getI X fd_X6_108 rfl (show SH[79]? = some (_, 0) from rfl) dX6_readsNumber_67 ?_
          refine G_iload_n (x := x1) X dX6_readsNumber_70 rfl rfl ?_
          refine G_icmp_eq (tgt := 81) X dX6_readsNumber_71 (by decide) (fun hc16 => ?_) (fun hc16 => ?_)
          · have hf := (if_pos hc16).symm.trans hf
            refine G_aload_n (x := some (79)) X dX6_readsNumber_81 rfl rfl ?_
            refine G_bipush (v := 10) X dX6_readsNumber_82 rfl ?_
            refine G_aload_n (x := some (79)) X dX6_readsNumber_84 rfl rfl ?_
            refine M_getI X fd_X6_124 rfl (show SH[79]? = some (_, 0) from rfl) dX6_readsNumber_85 ?_
            refine G_imul X dX6_readsNumber_88 ?_
            refine G_aload_n (x := some (79)) X dX6_readsNumber_89 rfl rfl ?_
            refine M_getR X fd_X6_14 rfl (show SH[79]? = some (_, 0) from rfl) rfl dX6_readsNumber_90 ?_
            refine G_aload_n (x := some (79)) X dX6_readsNumber_93 rfl rfl ?_
            refine M_getI X fd_X6_108 rfl (show SH[79]? = some (_, 0) from rfl) dX6_readsNumber_94 ?_
            obtain ⟨hc17, hf⟩ := ock hf
            refine M_iald X (show SH[81]? = some (_, 100) from rfl) hc17 dX6_readsNumber_97 ?_
            refine G_iadd X dX6_readsNumber_98 ?_
            refine G_bipush (v := 48) X dX6_readsNumber_99 rfl ?_
            refine G_isub X dX6_readsNumber_101 ?_
            refine M_putI X fd_X6_124 rfl (show SH[79]? = some (_, 0) from rfl) rfl rfl dX6_readsNumber_102 ?_
            refine G_aload_n (x := some (79)) X dX6_readsNumber_105 rfl rfl ?_
            refine G_dup X dX6_readsNumber_106 ?_
            refine M_getI X fd_X6_108 rfl (show SH[79]? = some (_, 0) from rfl) dX6_readsNumber_107 ?_
            refine G_iconst (v := 1) X dX6_readsNumber_110 rfl ?_
            refine G_iadd X dX6_readsNumber_111 ?_
            refine M_putI X fd_X6_108 rfl (show SH[79]? = some (_, 0) from rfl) rfl rfl dX6_readsNumber_112 ?_
            refine G_goto (tgt := 26) X dX6_readsNumber_115 (by decide) ?_
            exact ih (uI (uI I 79 16 (((10 * (I 79 16)) + (I 81 ((I 79 8).toNatClampNeg))) - 48)) 79 8 (((uI I 79 16 (((10 * (I 79 16)) + (I 81 ((I 79 8).toNatClampNeg))) - 48)) 79 8) + 1)) x1 _ _ hR hf
          · have hf := (if_neg hc16).symm.trans hf
            refine G_aload_n (x := some (79)) X dX6_readsNumber_74 rfl rfl ?_
            refine M_getI X fd_X6_124 rfl (show SH[79]? = some (_, 0) from rfl) dX6_readsNumber_75 ?_
            refine G_if_le (tgt := 118) X dX6_readsNumber_78 (by decide) (fun hc18 => ?_) (fun hc18 => ?_)
            · have hf := (if_pos hc18).symm.trans hf
              refine G_aload_n (x := some (79)) X dX6_readsNumber_118 rfl rfl ?_
              refine M_getI X fd_X6_108 rfl (show SH[79]? = some (_, 0) from rfl) dX6_readsNumber_119 ?_
              refine G_aload_n (x := some (79)) X dX6_readsNumber_122 rfl rfl ?_
              refine M_getI X fd_X6_105 rfl (show SH[79]? = some (_, 0) from rfl) dX6_readsNumber_123 ?_
              refine G_icmp_eq (tgt := 148) X dX6_readsNumber_126 (by decide) (fun hc19 => ?_) (fun hc19 => ?_)
              · have hf := (if_pos hc19).symm.trans hf
                refine G_iconst (v := 1) X dX6_readsNumber_148 rfl ?_
                refine G_goto (tgt := 153) X dX6_readsNumber_149 (by decide) ?_
                obtain ⟨rfl, rfl⟩ := Prod.mk.inj (Option.some.inj hf)
                exact G_iret X hR rfl (nar_b2i true) dX6_readsNumber_153
              · have hf := (if_neg hc19).symm.trans hf
                refine G_aload_n (x := some (79)) X dX6_readsNumber_129 rfl rfl ?_
                refine M_getR X fd_X6_14 rfl (show SH[79]? = some (_, 0) from rfl) rfl dX6_readsNumber_130 ?_
                refine G_aload_n (x := some (79)) X dX6_readsNumber_133 rfl rfl ?_
                refine M_getI X fd_X6_108 rfl (show SH[79]? = some (_, 0) from rfl) dX6_readsNumber_134 ?_
                obtain ⟨hc20, hf⟩ := ock hf
                refine M_iald X (show SH[81]? = some (_, 100) from rfl) hc20 dX6_readsNumber_137 ?_
                refine G_bipush (v := 48) X dX6_readsNumber_138 rfl ?_
                refine G_bipush (v := 57) X dX6_readsNumber_140 rfl ?_
                refine G_callS (As := [vi (I 81 ((I 79 8).toNatClampNeg)), vi 48, vi 57]) X (f6_in_ok E I (I 81 ((I 79 8).toNatClampNeg)) 48 57 _ rfl) cb_X6_31 st_X6_in rfl rfl (Nat.le_of_ble_eq_true rfl) (by decide) (by decide) rfl (Nat.le_refl _) (Nat.le_refl _) dX6_readsNumber_142 ?_
                show G E κ _ _ _ [some (vr 79), some (vi x1)] [vi (b2i (f6_in (I 81 ((I 79 8).toNatClampNeg)) 48 57))] (mm I)
                refine G_if_ne (tgt := 152) X dX6_readsNumber_145 (by decide) (fun hc21 => ?_) (fun hc21 => ?_)
                · have hf := (if_pos (b2i_t hc21)).symm.trans hf
                  refine G_iconst (v := 0) X dX6_readsNumber_152 rfl ?_
                  obtain ⟨rfl, rfl⟩ := Prod.mk.inj (Option.some.inj hf)
                  exact G_iret X hR rfl (nar_b2i false) dX6_readsNumber_153
                · have hf := (if_neg (b2i_f hc21)).symm.trans hf
                  refine G_iconst (v := 1) X dX6_readsNumber_148 rfl ?_
                  refine G_goto (tgt := 153) X dX6_readsNumber_149 (by decide) ?_
                  obtain ⟨rfl, rfl⟩ := Prod.mk.inj (Option.some.inj hf)
                  exact G_iret X hR rfl (nar_b2i true) dX6_readsNumber_153
            · have hf := (if_neg hc18).symm.trans hf
              refine G_aload_n (x := some (79)) X dX6_readsNumber_81 rfl rfl ?_
              refine G_bipush (v := 10) X dX6_readsNumber_82 rfl ?_
              refine G_aload_n (x := some (79)) X dX6_readsNumber_84 rfl rfl ?_
              refine M_getI X fd_X6_124 rfl (show SH[79]? = some (_, 0) from rfl) dX6_readsNumber_85 ?_
              refine G_imul X dX6_readsNumber_88 ?_
              refine G_aload_n (x := some (79)) X dX6_readsNumber_89 rfl rfl ?_
              refine M_getR X fd_X6_14 rfl (show SH[79]? = some (_, 0) from rfl) rfl dX6_readsNumber_90 ?_
              refine G_aload_n (x := some (79)) X dX6_readsNumber_93 rfl rfl ?_
              refine M_getI X fd_X6_108 rfl (show SH[79]? = some (_, 0) from rfl) dX6_readsNumber_94 ?_
              obtain ⟨hc22, hf⟩ := ock hf
              refine M_iald X (show SH[81]? = some (_, 100) from rfl) hc22 dX6_readsNumber_97 ?_
              refine G_iadd X dX6_readsNumber_98 ?_
              refine G_bipush (v := 48) X dX6_readsNumber_99 rfl ?_
              refine G_isub X dX6_readsNumber_101 ?_
              refine M_putI X fd_X6_124 rfl (show SH[79]? = some (_, 0) from rfl) rfl rfl dX6_readsNumber_102 ?_
              refine G_aload_n (x := some (79)) X dX6_readsNumber_105 rfl rfl ?_
              refine G_dup X dX6_readsNumber_106 ?_
              refine M_getI X fd_X6_108 rfl (show SH[79]? = some (_, 0) from rfl) dX6_readsNumber_107 ?_
              refine G_iconst (v := 1) X dX6_readsNumber_110 rfl ?_
              refine G_iadd X dX6_readsNumber_111 ?_
              refine M_putI X fd_X6_108 rfl (show SH[79]? = some (_, 0) from rfl) rfl rfl dX6_readsNumber_112 ?_
              refine G_goto (tgt := 26) X dX6_readsNumber_115 (by decide) ?_
              exact ih (uI (uI I 79 16 (((10 * (I 79 16)) + (I 81 ((I 79 8).toNatClampNeg))) - 48)) 79 8 (((uI I 79 16 (((10 * (I 79 16)) + (I 81 ((I 79 8).toNatClampNeg))) - 48)) 79 8) + 1)) x1 _ _ hR hf

def f6_readsNumber (I : gI)  : Option (Bool × gI) := (f6_code I).bind fun q1 => (if (f6_in q1.1 48 57) = true then f6_readsNumber_L26 FU (uI q1.2 79 16 0) (q1.2 79 8) else some (false, q1.2))
set_option maxRecDepth 100000 in
set_option maxHeartbeats 4000000 in
theorem f6_readsNumber_ok (E : gEnv) (I : gI)  (r : Bool) (I' : gI) (hf : f6_readsNumber I  = some (r, I')) : Ctr E yX6_readsNumber cX6_readsNumber 2 (some .boolean) 1 0 0 [vr 79] (mm I) (some (vi (b2i r))) (mm I') := by
  refine Ctr.mk (by decide +kernel) (Nat.le_of_ble_eq_true rfl) fun κ X hR _ => ?_
  have X : Cx E κ cX6_readsNumber 2 RX6 (some .boolean) 1 0 0 := X
  show G E κ 0 0 0 [some (vr 79), none] [] (mm I)
  unfold f6_readsNumber at hf
  refine G_aload_n (x := some (79)) X dX6_readsNumber_0 rfl rfl ?_
  obtain ⟨⟨v1, I1⟩, hk1, hf⟩ := obd hf
  try dsimp only at hf
  refine G_callV (As := []) X (f6_code_ok E I  v1 I1 hk1) cb_X6_120 vi_X6_code (ci := 5) rfl rfl (show SH[79]? = some (_, 0) from rfl) rfl rfl (Nat.le_of_ble_eq_true rfl) (by decide) (by decide) rfl (Nat.le_refl _) (Nat.le_refl _) dX6_readsNumber_1 ?_
  show G E κ _ _ _ [some (vr 79), none] [vi v1] (mm I1)
  refine G_bipush (v := 48) X dX6_readsNumber_4 rfl ?_
  refine G_bipush (v := 57) X dX6_readsNumber_6 rfl ?_
  refine G_callS (As := [vi v1, vi 48, vi 57]) X (f6_in_ok E I1 v1 48 57 _ rfl) cb_X6_31 st_X6_in rfl rfl (Nat.le_of_ble_eq_true rfl) (by decide) (by decide) rfl (Nat.le_refl _) (Nat.le_refl _) dX6_readsNumber_8 ?_
  show G E κ _ _ _ [some (vr 79), none] [vi (b2i (f6_in v1 48 57))] (mm I1)
  refine G_if_ne (tgt := 16) X dX6_readsNumber_11 (by decide) (fun hc2 => ?_) (fun hc2 => ?_)
  · have hf := (if_pos (b2i_t hc2)).symm.trans hf
    refine G_aload_n (x := some (79)) X dX6_readsNumber_16 rfl rfl ?_
    refine M_getI X fd_X6_108 rfl (show SH[79]? = some (_, 0) from rfl) dX6_readsNumber_17 ?_
    refine G_istore_n X dX6_readsNumber_20 rfl (Nat.le_of_ble_eq_true rfl) (ls' := [some (vr 79), some (vi (I1 79 8))]) rfl ?_
    refine G_aload_n (x := some (79)) X dX6_readsNumber_21 rfl rfl ?_
    refine G_iconst (v := 0) X dX6_readsNumber_22 rfl ?_
    refine M_putI X fd_X6_124 rfl (show SH[79]? = some (_, 0) from rfl) rfl rfl dX6_readsNumber_23 ?_
    exact f6_readsNumber_L26_ok X FU (uI I1 79 16 0) (I1 79 8) _ _ hR hf
  · have hf := (if_neg (b2i_f hc2)).symm.trans hf
    refine G_iconst (v := 0) X dX6_readsNumber_14 rfl ?_
    obtain ⟨rfl, rfl⟩ := Prod.mk.inj (Option.some.inj hf)
    exact G_iret X hR rfl (nar_b2i false) dX6_readsNumber_15

def f6_push_ (I : gI) (a0 : Int32) : Option gI := if ib (I 79 10) 40 = true then (if a0 = 40 then some (uI (uI (uI I 83 (I 79 10).toNatClampNeg a0) 79 10 (((uI I 83 (I 79 10).toNatClampNeg a0) 79 10) + 1)) 79 11 (((uI (uI I 83 (I 79 10).toNatClampNeg a0) 79 10 (((uI I 83 (I 79 10).toNatClampNeg a0) 79 10) + 1)) 79 11) + 1)) else (if a0 = 126 then some (uI (uI (uI I 83 (I 79 10).toNatClampNeg a0) 79 10 (((uI I 83 (I 79 10).toNatClampNeg a0) 79 10) + 1)) 79 11 (((uI (uI I 83 (I 79 10).toNatClampNeg a0) 79 10 (((uI I 83 (I 79 10).toNatClampNeg a0) 79 10) + 1)) 79 11) + 1)) else some (uI (uI (uI I 83 (I 79 10).toNatClampNeg a0) 79 10 (((uI I 83 (I 79 10).toNatClampNeg a0) 79 10) + 1)) 79 11 (((uI (uI I 83 (I 79 10).toNatClampNeg a0) 79 10 (((uI I 83 (I 79 10).toNatClampNeg a0) 79 10) + 1)) 79 11) + 0)))) else none
set_option maxRecDepth 100000 in
set_option maxHeartbeats 4000000 in
theorem f6_push__ok (E : gEnv) (I : gI) (a0 : Int32) (I' : gI) (hf : f6_push_ I a0 = some I') : Ctr E yX6_push_ cX6_push_ 2 none 0 0 0 [vr 79, vi a0] (mm I) (none) (mm I') := by
  refine Ctr.mk (by decide +kernel) (Nat.le_of_ble_eq_true rfl) fun κ X hR _ => ?_
  have X : Cx E κ cX6_push_ 2 RX6 none 0 0 0 := X
  show G E κ 0 0 0 [some (vr 79), some (vi a0)] [] (mm I)
  unfold f6_push_ at hf
  refine G_aload_n (x := some (79)) X dX6_push__0 rfl rfl ?_
  refine M_getR X fd_X6_20 rfl (show SH[79]? = some (_, 0) from rfl) rfl dX6_push__1 ?_
  refine G_aload_n (x := some (79)) X dX6_push__4 rfl rfl ?_
  refine M_getI X fd_X6_127 rfl (show SH[79]? = some (_, 0) from rfl) dX6_push__5 ?_
  refine G_iload_n (x := a0) X dX6_push__8 rfl rfl ?_
  obtain ⟨hc1, hf⟩ := ock hf
  refine M_iast X (show SH[83]? = some (_, 40) from rfl) hc1 dX6_push__9 ?_
  refine G_aload_n (x := some (79)) X dX6_push__10 rfl rfl ?_
  refine G_dup X dX6_push__11 ?_
  refine M_getI X fd_X6_127 rfl (show SH[79]? = some (_, 0) from rfl) dX6_push__12 ?_
  refine G_iconst (v := 1) X dX6_push__15 rfl ?_
  refine G_iadd X dX6_push__16 ?_
  refine M_putI X fd_X6_127 rfl (show SH[79]? = some (_, 0) from rfl) rfl rfl dX6_push__17 ?_
  refine G_aload_n (x := some (79)) X dX6_push__20 rfl rfl ?_
  refine G_dup X dX6_push__21 ?_
  refine M_getI X fd_X6_114 rfl (show SH[79]? = some (_, 0) from rfl) dX6_push__22 ?_
  refine G_iload_n (x := a0) X dX6_push__25 rfl rfl ?_
  refine G_bipush (v := 40) X dX6_push__26 rfl ?_
  refine G_icmp_eq (tgt := 37) X dX6_push__28 (by decide) (fun hc2 => ?_) (fun hc2 => ?_)
  · have hf := (if_pos hc2).symm.trans hf
    refine G_iconst (v := 1) X dX6_push__37 rfl ?_
    refine G_goto (tgt := 42) X dX6_push__38 (by decide) ?_
    refine G_iadd X dX6_push__42 ?_
    refine M_putI X fd_X6_114 rfl (show SH[79]? = some (_, 0) from rfl) rfl rfl dX6_push__43 ?_
    obtain rfl := Option.some.inj hf
    exact G_vret X hR rfl dX6_push__46
  · have hf := (if_neg hc2).symm.trans hf
    refine G_iload_n (x := a0) X dX6_push__31 rfl rfl ?_
    refine G_bipush (v := 126) X dX6_push__32 rfl ?_
    refine G_icmp_ne (tgt := 41) X dX6_push__34 (by decide) (fun hc3 => ?_) (fun hc3 => ?_)
    · have hf := (if_neg hc3).symm.trans hf
      refine G_iconst (v := 0) X dX6_push__41 rfl ?_
      refine G_iadd X dX6_push__42 ?_
      refine M_putI X fd_X6_114 rfl (show SH[79]? = some (_, 0) from rfl) rfl rfl dX6_push__43 ?_
      obtain rfl := Option.some.inj hf
      exact G_vret X hR rfl dX6_push__46
    · have hf := (if_pos hc3).symm.trans hf
      refine G_iconst (v := 1) X dX6_push__37 rfl ?_
      refine G_goto (tgt := 42) X dX6_push__38 (by decide) ?_
      refine G_iadd X dX6_push__42 ?_
      refine M_putI X fd_X6_114 rfl (show SH[79]? = some (_, 0) from rfl) rfl rfl dX6_push__43 ?_
      obtain rfl := Option.some.inj hf
      exact G_vret X hR rfl dX6_push__46

def f6_pop (I : gI)  : Option (Int32 × gI) := if ib ((uI I 79 10 ((I 79 10) - 1)) 79 10) 40 = true then (if ((uI I 79 10 ((I 79 10) - 1)) 83 (((uI I 79 10 ((I 79 10) - 1)) 79 10).toNatClampNeg)) = 40 then if ib ((uI (uI I 79 10 ((I 79 10) - 1)) 79 11 (((uI I 79 10 ((I 79 10) - 1)) 79 11) - 1)) 79 10) 40 = true then some ((uI (uI I 79 10 ((I 79 10) - 1)) 79 11 (((uI I 79 10 ((I 79 10) - 1)) 79 11) - 1)) 83 (((uI (uI I 79 10 ((I 79 10) - 1)) 79 11 (((uI I 79 10 ((I 79 10) - 1)) 79 11) - 1)) 79 10).toNatClampNeg), uI (uI I 79 10 ((I 79 10) - 1)) 79 11 (((uI I 79 10 ((I 79 10) - 1)) 79 11) - 1)) else none else if ib ((uI I 79 10 ((I 79 10) - 1)) 79 10) 40 = true then (if ((uI I 79 10 ((I 79 10) - 1)) 83 (((uI I 79 10 ((I 79 10) - 1)) 79 10).toNatClampNeg)) = 126 then if ib ((uI (uI I 79 10 ((I 79 10) - 1)) 79 11 (((uI I 79 10 ((I 79 10) - 1)) 79 11) - 1)) 79 10) 40 = true then some ((uI (uI I 79 10 ((I 79 10) - 1)) 79 11 (((uI I 79 10 ((I 79 10) - 1)) 79 11) - 1)) 83 (((uI (uI I 79 10 ((I 79 10) - 1)) 79 11 (((uI I 79 10 ((I 79 10) - 1)) 79 11) - 1)) 79 10).toNatClampNeg), uI (uI I 79 10 ((I 79 10) - 1)) 79 11 (((uI I 79 10 ((I 79 10) - 1)) 79 11) - 1)) else none else if ib ((uI (uI I 79 10 ((I 79 10) - 1)) 79 11 (((uI I 79 10 ((I 79 10) - 1)) 79 11) - 0)) 79 10) 40 = true then some ((uI (uI I 79 10 ((I 79 10) - 1)) 79 11 (((uI I 79 10 ((I 79 10) - 1)) 79 11) - 0)) 83 (((uI (uI I 79 10 ((I 79 10) - 1)) 79 11 (((uI I 79 10 ((I 79 10) - 1)) 79 11) - 0)) 79 10).toNatClampNeg), uI (uI I 79 10 ((I 79 10) - 1)) 79 11 (((uI I 79 10 ((I 79 10) - 1)) 79 11) - 0)) else none) else none) else none
set_option maxRecDepth 100000 in
set_option maxHeartbeats 4000000 in
theorem f6_pop_ok (E : gEnv) (I : gI)  (r : Int32) (I' : gI) (hf : f6_pop I  = some (r, I')) : Ctr E yX6_pop cX6_pop 1 (some .int) 0 0 0 [vr 79] (mm I) (some (vi r)) (mm I') := by
  refine Ctr.mk (by decide +kernel) (Nat.le_of_ble_eq_true rfl) fun κ X hR _ => ?_
  have X : Cx E κ cX6_pop 1 RX6 (some .int) 0 0 0 := X
  show G E κ 0 0 0 [some (vr 79)] [] (mm I)
  unfold f6_pop at hf
  refine G_aload_n (x := some (79)) X dX6_pop_0 rfl rfl ?_
  refine G_dup X dX6_pop_1 ?_
  refine M_getI X fd_X6_127 rfl (show SH[79]? = some (_, 0) from rfl) dX6_pop_2 ?_
  refine G_iconst (v := 1) X dX6_pop_5 rfl ?_
  refine G_isub X dX6_pop_6 ?_
  refine M_putI X fd_X6_127 rfl (show SH[79]? = some (_, 0) from rfl) rfl rfl dX6_pop_7 ?_
  refine G_aload_n (x := some (79)) X dX6_pop_10 rfl rfl ?_
  refine G_dup X dX6_pop_11 ?_
  refine M_getI X fd_X6_114 rfl (show SH[79]? = some (_, 0) from rfl) dX6_pop_12 ?_
  refine G_aload_n (x := some (79)) X dX6_pop_15 rfl rfl ?_
  refine M_getR X fd_X6_20 rfl (show SH[79]? = some (_, 0) from rfl) rfl dX6_pop_16 ?_
  refine G_aload_n (x := some (79)) X dX6_pop_19 rfl rfl ?_
  refine M_getI X fd_X6_127 rfl (show SH[79]? = some (_, 0) from rfl) dX6_pop_20 ?_
  obtain ⟨hc1, hf⟩ := ock hf
  refine M_iald X (show SH[83]? = some (_, 40) from rfl) hc1 dX6_pop_23 ?_
  refine G_bipush (v := 40) X dX6_pop_24 rfl ?_
  refine G_icmp_eq (tgt := 43) X dX6_pop_26 (by decide) (fun hc2 => ?_) (fun hc2 => ?_)
  · have hf := (if_pos hc2).symm.trans hf
    refine G_iconst (v := 1) X dX6_pop_43 rfl ?_
    refine G_goto (tgt := 48) X dX6_pop_44 (by decide) ?_
    refine G_isub X dX6_pop_48 ?_
    refine M_putI X fd_X6_114 rfl (show SH[79]? = some (_, 0) from rfl) rfl rfl dX6_pop_49 ?_
    refine G_aload_n (x := some (79)) X dX6_pop_52 rfl rfl ?_
    refine M_getR X fd_X6_20 rfl (show SH[79]? = some (_, 0) from rfl) rfl dX6_pop_53 ?_
    refine G_aload_n (x := some (79)) X dX6_pop_56 rfl rfl ?_
    refine M_getI X fd_X6_127 rfl (show SH[79]? = some (_, 0) from rfl) dX6_pop_57 ?_
    obtain ⟨hc3, hf⟩ := ock hf
    refine M_iald X (show SH[83]? = some (_, 40) from rfl) hc3 dX6_pop_60 ?_
    obtain ⟨rfl, rfl⟩ := Prod.mk.inj (Option.some.inj hf)
    exact G_iret X hR rfl rfl dX6_pop_61
  · have hf := (if_neg hc2).symm.trans hf
    refine G_aload_n (x := some (79)) X dX6_pop_29 rfl rfl ?_
    refine M_getR X fd_X6_20 rfl (show SH[79]? = some (_, 0) from rfl) rfl dX6_pop_30 ?_
    refine G_aload_n (x := some (79)) X dX6_pop_33 rfl rfl ?_
    refine M_getI X fd_X6_127 rfl (show SH[79]? = some (_, 0) from rfl) dX6_pop_34 ?_
    obtain ⟨hc4, hf⟩ := ock hf
    refine M_iald X (show SH[83]? = some (_, 40) from rfl) hc4 dX6_pop_37 ?_
    refine G_bipush (v := 126) X dX6_pop_38 rfl ?_
    refine G_icmp_ne (tgt := 47) X dX6_pop_40 (by decide) (fun hc5 => ?_) (fun hc5 => ?_)
    · have hf := (if_neg hc5).symm.trans hf
      refine G_iconst (v := 0) X dX6_pop_47 rfl ?_
      refine G_isub X dX6_pop_48 ?_
      refine M_putI X fd_X6_114 rfl (show SH[79]? = some (_, 0) from rfl) rfl rfl dX6_pop_49 ?_
      refine G_aload_n (x := some (79)) X dX6_pop_52 rfl rfl ?_
      refine M_getR X fd_X6_20 rfl (show SH[79]? = some (_, 0) from rfl) rfl dX6_pop_53 ?_
      refine G_aload_n (x := some (79)) X dX6_pop_56 rfl rfl ?_
      refine M_getI X fd_X6_127 rfl (show SH[79]? = some (_, 0) from rfl) dX6_pop_57 ?_
      obtain ⟨hc6, hf⟩ := ock hf
      refine M_iald X (show SH[83]? = some (_, 40) from rfl) hc6 dX6_pop_60 ?_
      obtain ⟨rfl, rfl⟩ := Prod.mk.inj (Option.some.inj hf)
      exact G_iret X hR rfl rfl dX6_pop_61
    · have hf := (if_pos hc5).symm.trans hf
      refine G_iconst (v := 1) X dX6_pop_43 rfl ?_
      refine G_goto (tgt := 48) X dX6_pop_44 (by decide) ?_
      refine G_isub X dX6_pop_48 ?_
      refine M_putI X fd_X6_114 rfl (show SH[79]? = some (_, 0) from rfl) rfl rfl dX6_pop_49 ?_
      refine G_aload_n (x := some (79)) X dX6_pop_52 rfl rfl ?_
      refine M_getR X fd_X6_20 rfl (show SH[79]? = some (_, 0) from rfl) rfl dX6_pop_53 ?_
      refine G_aload_n (x := some (79)) X dX6_pop_56 rfl rfl ?_
      refine M_getI X fd_X6_127 rfl (show SH[79]? = some (_, 0) from rfl) dX6_pop_57 ?_
      obtain ⟨hc7, hf⟩ := ock hf
      refine M_iald X (show SH[83]? = some (_, 40) from rfl) hc7 dX6_pop_60 ?_
      obtain ⟨rfl, rfl⟩ := Prod.mk.inj (Option.some.inj hf)
      exact G_iret X hR rfl rfl dX6_pop_61

def f6_top (I : gI)  : Option Int32 := (if (I 79 10) = 0 then some 0 else if ib ((I 79 10) - 1) 40 = true then some (I 83 (((I 79 10) - 1).toNatClampNeg)) else none)
set_option maxRecDepth 100000 in
set_option maxHeartbeats 4000000 in
theorem f6_top_ok (E : gEnv) (I : gI)  (r : Int32) (hf : f6_top I  = some r) : Ctr E yX6_top cX6_top 1 (some .int) 0 0 0 [vr 79] (mm I) (some (vi r)) (mm I) := by
  refine Ctr.mk (by decide +kernel) (Nat.le_of_ble_eq_true rfl) fun κ X hR _ => ?_
  have X : Cx E κ cX6_top 1 RX6 (some .int) 0 0 0 := X
  show G E κ 0 0 0 [some (vr 79)] [] (mm I)
  unfold f6_top at hf
  refine G_aload_n (x := some (79)) X dX6_top_0 rfl rfl ?_
  refine M_getI X fd_X6_127 rfl (show SH[79]? = some (_, 0) from rfl) dX6_top_1 ?_
  refine G_if_ne (tgt := 11) X dX6_top_4 (by decide) (fun hc1 => ?_) (fun hc1 => ?_)
  · have hf := (if_neg hc1).symm.trans hf
    refine G_aload_n (x := some (79)) X dX6_top_11 rfl rfl ?_
    refine M_getR X fd_X6_20 rfl (show SH[79]? = some (_, 0) from rfl) rfl dX6_top_12 ?_
    refine G_aload_n (x := some (79)) X dX6_top_15 rfl rfl ?_
    refine M_getI X fd_X6_127 rfl (show SH[79]? = some (_, 0) from rfl) dX6_top_16 ?_
    refine G_iconst (v := 1) X dX6_top_19 rfl ?_
    refine G_isub X dX6_top_20 ?_
    obtain ⟨hc2, hf⟩ := ock hf
    refine M_iald X (show SH[83]? = some (_, 40) from rfl) hc2 dX6_top_21 ?_
    obtain rfl := Option.some.inj hf
    exact G_iret X hR rfl rfl dX6_top_22
  · have hf := (if_pos hc1).symm.trans hf
    refine G_iconst (v := 0) X dX6_top_7 rfl ?_
    refine G_goto (tgt := 22) X dX6_top_8 (by decide) ?_
    obtain rfl := Option.some.inj hf
    exact G_iret X hR rfl rfl dX6_top_22

def f6_rank (a0 : Int32) : Int32 := (if a0 = 124 then 1 else (if a0 = 94 then 1 else (if a0 = 38 then 2 else (if a0 = 45 then 2 else 0))))
set_option maxRecDepth 100000 in
set_option maxHeartbeats 4000000 in
theorem f6_rank_ok (E : gEnv) (I : gI) (a0 : Int32) (r : Int32) (hf : f6_rank  a0 = r) : Ctr E yX6_rank cX6_rank 1 (some .int) 0 0 0 [vi a0] (mm I) (some (vi r)) (mm I) := by
  refine Ctr.mk (by decide +kernel) (Nat.le_of_ble_eq_true rfl) fun κ X hR _ => ?_
  have X : Cx E κ cX6_rank 1 RX6 (some .int) 0 0 0 := X
  show G E κ 0 0 0 [some (vi a0)] [] (mm I)
  unfold f6_rank at hf
  refine G_iload_n (x := a0) X dX6_rank_0 rfl rfl ?_
  refine G_bipush (v := 124) X dX6_rank_1 rfl ?_
  refine G_icmp_eq (tgt := 12) X dX6_rank_3 (by decide) (fun hc1 => ?_) (fun hc1 => ?_)
  · have hf := (if_pos hc1).symm.trans hf
    refine G_iconst (v := 1) X dX6_rank_12 rfl ?_
    refine G_goto (tgt := 33) X dX6_rank_13 (by decide) ?_
    subst hf
    exact G_iret X hR rfl rfl dX6_rank_33
  · have hf := (if_neg hc1).symm.trans hf
    refine G_iload_n (x := a0) X dX6_rank_6 rfl rfl ?_
    refine G_bipush (v := 94) X dX6_rank_7 rfl ?_
    refine G_icmp_ne (tgt := 16) X dX6_rank_9 (by decide) (fun hc2 => ?_) (fun hc2 => ?_)
    · have hf := (if_neg hc2).symm.trans hf
      refine G_iload_n (x := a0) X dX6_rank_16 rfl rfl ?_
      refine G_bipush (v := 38) X dX6_rank_17 rfl ?_
      refine G_icmp_eq (tgt := 28) X dX6_rank_19 (by decide) (fun hc3 => ?_) (fun hc3 => ?_)
      · have hf := (if_pos hc3).symm.trans hf
        refine G_iconst (v := 2) X dX6_rank_28 rfl ?_
        refine G_goto (tgt := 33) X dX6_rank_29 (by decide) ?_
        subst hf
        exact G_iret X hR rfl rfl dX6_rank_33
      · have hf := (if_neg hc3).symm.trans hf
        refine G_iload_n (x := a0) X dX6_rank_22 rfl rfl ?_
        refine G_bipush (v := 45) X dX6_rank_23 rfl ?_
        refine G_icmp_ne (tgt := 32) X dX6_rank_25 (by decide) (fun hc4 => ?_) (fun hc4 => ?_)
        · have hf := (if_neg hc4).symm.trans hf
          refine G_iconst (v := 0) X dX6_rank_32 rfl ?_
          subst hf
          exact G_iret X hR rfl rfl dX6_rank_33
        · have hf := (if_pos hc4).symm.trans hf
          refine G_iconst (v := 2) X dX6_rank_28 rfl ?_
          refine G_goto (tgt := 33) X dX6_rank_29 (by decide) ?_
          subst hf
          exact G_iret X hR rfl rfl dX6_rank_33
    · have hf := (if_pos hc2).symm.trans hf
      refine G_iconst (v := 1) X dX6_rank_12 rfl ?_
      refine G_goto (tgt := 33) X dX6_rank_13 (by decide) ?_
      subst hf
      exact G_iret X hR rfl rfl dX6_rank_33

def f6_operationOf (a0 : Int32) : Int32 := (if a0 = 38 then 0 else (if a0 = 124 then 1 else (if a0 = 45 then 2 else 3)))
set_option maxRecDepth 100000 in
set_option maxHeartbeats 4000000 in
theorem f6_operationOf_ok (E : gEnv) (I : gI) (a0 : Int32) (r : Int32) (hf : f6_operationOf  a0 = r) : Ctr E yX6_operationOf cX6_operationOf 1 (some .int) 0 0 0 [vi a0] (mm I) (some (vi r)) (mm I) := by
  refine Ctr.mk (by decide +kernel) (Nat.le_of_ble_eq_true rfl) fun κ X hR _ => ?_
  have X : Cx E κ cX6_operationOf 1 RX6 (some .int) 0 0 0 := X
  show G E κ 0 0 0 [some (vi a0)] [] (mm I)
  unfold f6_operationOf at hf
  refine G_iload_n (x := a0) X dX6_operationOf_0 rfl rfl ?_
  refine G_bipush (v := 38) X dX6_operationOf_1 rfl ?_
  refine G_icmp_ne (tgt := 10) X dX6_operationOf_3 (by decide) (fun hc1 => ?_) (fun hc1 => ?_)
  · have hf := (if_neg hc1).symm.trans hf
    refine G_iload_n (x := a0) X dX6_operationOf_10 rfl rfl ?_
    refine G_bipush (v := 124) X dX6_operationOf_11 rfl ?_
    refine G_icmp_ne (tgt := 20) X dX6_operationOf_13 (by decide) (fun hc2 => ?_) (fun hc2 => ?_)
    · have hf := (if_neg hc2).symm.trans hf
      refine G_iload_n (x := a0) X dX6_operationOf_20 rfl rfl ?_
      refine G_bipush (v := 45) X dX6_operationOf_21 rfl ?_
      refine G_icmp_ne (tgt := 30) X dX6_operationOf_23 (by decide) (fun hc3 => ?_) (fun hc3 => ?_)
      · have hf := (if_neg hc3).symm.trans hf
        refine G_iconst (v := 3) X dX6_operationOf_30 rfl ?_
        subst hf
        exact G_iret X hR rfl rfl dX6_operationOf_31
      · have hf := (if_pos hc3).symm.trans hf
        refine G_iconst (v := 2) X dX6_operationOf_26 rfl ?_
        refine G_goto (tgt := 31) X dX6_operationOf_27 (by decide) ?_
        subst hf
        exact G_iret X hR rfl rfl dX6_operationOf_31
    · have hf := (if_pos hc2).symm.trans hf
      refine G_iconst (v := 1) X dX6_operationOf_16 rfl ?_
      refine G_goto (tgt := 31) X dX6_operationOf_17 (by decide) ?_
      subst hf
      exact G_iret X hR rfl rfl dX6_operationOf_31
  · have hf := (if_pos hc1).symm.trans hf
    refine G_iconst (v := 0) X dX6_operationOf_6 rfl ?_
    refine G_goto (tgt := 31) X dX6_operationOf_7 (by decide) ?_
    subst hf
    exact G_iret X hR rfl rfl dX6_operationOf_31

def f6_doTo_L0 : Nat → gI → Int32 → Option gI
  | 0, _, _ => none
  | k + 1, I, x1 => (f6_top I).bind fun v1 => (if (f6_rank v1) < x1 then some I else (f6_pop I).bind fun q3 => (if ((uI q3.2 79 12 ((q3.2 79 12) - 1)) 79 13) = 0 then f6_doTo_L0 k (uI q3.2 79 12 ((q3.2 79 12) - 1)) x1 else (f6_operateOn (uI q3.2 79 12 ((q3.2 79 12) - 1)) (f6_operationOf q3.1) (f6_asked (((uI q3.2 79 12 ((q3.2 79 12) - 1)) 79 12) - 1)) (f6_asked ((uI q3.2 79 12 ((q3.2 79 12) - 1)) 79 12)) (f6_asked (((uI q3.2 79 12 ((q3.2 79 12) - 1)) 79 12) - 1))).bind fun I5 => f6_doTo_L0 k I5 x1))
set_option maxRecDepth 100000 in
set_option maxHeartbeats 4000000 in
theorem f6_doTo_L0_ok {E : gEnv} {κ : gCtx} (X : Cx E κ cX6_doTo 3 RX6 none 2 0 0) : ∀ (k : Nat) (I : gI) (x1 : Int32) (I' : gI) (hR : gRt E κ 0 0 (none) (mm I')) (hf : f6_doTo_L0 k I x1 = some I'), G E κ 0 0 0 [some (vr 79), some (vi x1), none] [] (mm I) := by
  intro k
  induction k with
  | zero =>
    intros
    rename_i hf
    cases hf
  | succ k ih =>
    intro I x1 I' hR hf
    refine G_aload_n (x := some (79)) X dX6_doTo_0 rfl rfl ?_
    obtain ⟨v1, hk1, hf⟩ := obd hf
    refine G_callV (As := []) X (f6_top_ok E I  v1 hk1) cb_X6_130 vi_X6_top (ci := 5) rfl rfl (show SH[79]? = some (_, 0) from rfl) rfl rfl (Nat.le_of_ble_eq_true rfl) (by decide) (by decide) rfl (Nat.le_refl _) (Nat.le_refl _) dX6_doTo_1 ?_
    show G E κ _ _ _ [some (vr 79), some (vi x1), none] [vi v1] (mm I)
    refine G_callS (As := [vi v1]) X (f6_rank_ok E I v1 _ rfl) cb_X6_133 st_X6_rank rfl rfl (Nat.le_of_ble_eq_true rfl) (by decide) (by decide) rfl (Nat.le_refl _) (Nat.le_refl _) dX6_doTo_4 ?_
    show G E κ _ _ _ [some (vr 79), some (vi x1), none] [vi (f6_rank v1)] (mm I)
    refine G_iload_n (x := x1) X dX6_doTo_7 rfl rfl ?_
    refine G_icmp_lt (tgt := 69) X dX6_doTo_8 (by decide) (fun hc2 => ?_) (fun hc2 => ?_)
    · have hf := (if_pos hc2).symm.trans hf
      obtain rfl := Option.some.inj hf
      exact G_vret X hR rfl dX6_doTo_69
    · have hf := (if_neg hc2).symm.trans hf
      refine G_aload_n (x := some (79)) X dX6_doTo_11 rfl rfl ?_
      obtain ⟨⟨v3, I3⟩, hk3, hf⟩ := obd hf
      try dsimp only at hf
      refine G_callV (As := []) X (f6_pop_ok E I  v3 I3 hk3) cb_X6_136 vi_X6_pop (ci := 5) rfl rfl (show SH[79]? = some (_, 0) from rfl) rfl rfl (Nat.le_of_ble_eq_true rfl) (by decide) (by decide) rfl (Nat.le_refl _) (Nat.le_refl _) dX6_doTo_12 ?_
      show G E κ _ _ _ [some (vr 79), some (vi x1), none] [vi v3] (mm I3)
      refine G_istore_n X dX6_doTo_15 rfl (Nat.le_of_ble_eq_true rfl) (ls' := [some (vr 79), some (vi x1), some (vi v3)]) rfl ?_
      refine G_aload_n (x := some (79)) X dX6_doTo_16 rfl rfl ?_
      refine G_dup X dX6_doTo_17 ?_
      refine M_getI X fd_X6_139 rfl (show SH[79]? = some (_, 0) from rfl) dX6_doTo_18 ?_
      refine G_iconst (v := 1) X dX6_doTo_21 rfl ?_
      refine G_isub X dX6_doTo_22 ?_
      refine M_putI X fd_X6_139 rfl (show SH[79]? = some (_, 0) from rfl) rfl rfl dX6_doTo_23 ?_
      refine G_aload_n (x := some (79)) X dX6_doTo_26 rfl rfl ?_
      refine M_getI X fd_X6_142 rfl (show SH[79]? = some (_, 0) from rfl) dX6_doTo_27 ?_
      refine G_if_eq (tgt := 66) X dX6_doTo_30 (by decide) (fun hc4 => ?_) (fun hc4 => ?_)
      · have hf := (if_pos hc4).symm.trans hf
        refine G_goto (tgt := 0) X dX6_doTo_66 (by decide) ?_
        refine G_weakL (ls' := [some (vr 79), some (vi x1), none]) ⟨Or.inr rfl, ⟨Or.inr rfl, ⟨Or.inl rfl, trivial⟩⟩⟩ ?_
        exact ih (uI I3 79 12 ((I3 79 12) - 1)) x1 _ hR hf
      · have hf := (if_neg hc4).symm.trans hf
        refine G_aload_n (x := some (79)) X dX6_doTo_33 rfl rfl ?_
        refine G_iload_n (x := v3) X dX6_doTo_34 rfl rfl ?_
        refine G_callS (As := [vi v3]) X (f6_operationOf_ok E (uI I3 79 12 ((I3 79 12) - 1)) v3 _ rfl) cb_X6_146 st_X6_operationOf rfl rfl (Nat.le_of_ble_eq_true rfl) (by decide) (by decide) rfl (Nat.le_refl _) (Nat.le_refl _) dX6_doTo_35 ?_
        show G E κ _ _ _ [some (vr 79), some (vi x1), some (vi v3)] [vi (f6_operationOf v3), vr 79] (mm (uI I3 79 12 ((I3 79 12) - 1)))
        refine G_aload_n (x := some (79)) X dX6_doTo_38 rfl rfl ?_
        refine M_getI X fd_X6_139 rfl (show SH[79]? = some (_, 0) from rfl) dX6_doTo_39 ?_
        refine G_iconst (v := 1) X dX6_doTo_42 rfl ?_
        refine G_isub X dX6_doTo_43 ?_
        refine G_callS (As := [vi (((uI I3 79 12 ((I3 79 12) - 1)) 79 12) - 1)]) X (f6_asked_ok E (uI I3 79 12 ((I3 79 12) - 1)) (((uI I3 79 12 ((I3 79 12) - 1)) 79 12) - 1) _ rfl) cb_X6_54 st_X6_asked rfl rfl (Nat.le_of_ble_eq_true rfl) (by decide) (by decide) rfl (Nat.le_refl _) (Nat.le_refl _) dX6_doTo_44 ?_
        show G E κ _ _ _ [some (vr 79), some (vi x1), some (vi v3)] [vi (f6_asked (((uI I3 79 12 ((I3 79 12) - 1)) 79 12) - 1)), vi (f6_operationOf v3), vr 79] (mm (uI I3 79 12 ((I3 79 12) - 1)))
        refine G_aload_n (x := some (79)) X dX6_doTo_47 rfl rfl ?_
        refine M_getI X fd_X6_139 rfl (show SH[79]? = some (_, 0) from rfl) dX6_doTo_48 ?_
        refine G_callS (As := [vi ((uI I3 79 12 ((I3 79 12) - 1)) 79 12)]) X (f6_asked_ok E (uI I3 79 12 ((I3 79 12) - 1)) ((uI I3 79 12 ((I3 79 12) - 1)) 79 12) _ rfl) cb_X6_54 st_X6_asked rfl rfl (Nat.le_of_ble_eq_true rfl) (by decide) (by decide) rfl (Nat.le_refl _) (Nat.le_refl _) dX6_doTo_51 ?_
        show G E κ _ _ _ [some (vr 79), some (vi x1), some (vi v3)] [vi (f6_asked ((uI I3 79 12 ((I3 79 12) - 1)) 79 12)), vi (f6_asked (((uI I3 79 12 ((I3 79 12) - 1)) 79 12) - 1)), vi (f6_operationOf v3), vr 79] (mm (uI I3 79 12 ((I3 79 12) - 1)))
        refine G_aload_n (x := some (79)) X dX6_doTo_54 rfl rfl ?_
        refine M_getI X fd_X6_139 rfl (show SH[79]? = some (_, 0) from rfl) dX6_doTo_55 ?_
        refine G_iconst (v := 1) X dX6_doTo_58 rfl ?_
        refine G_isub X dX6_doTo_59 ?_
        refine G_callS (As := [vi (((uI I3 79 12 ((I3 79 12) - 1)) 79 12) - 1)]) X (f6_asked_ok E (uI I3 79 12 ((I3 79 12) - 1)) (((uI I3 79 12 ((I3 79 12) - 1)) 79 12) - 1) _ rfl) cb_X6_54 st_X6_asked rfl rfl (Nat.le_of_ble_eq_true rfl) (by decide) (by decide) rfl (Nat.le_refl _) (Nat.le_refl _) dX6_doTo_60 ?_
        show G E κ _ _ _ [some (vr 79), some (vi x1), some (vi v3)] [vi (f6_asked (((uI I3 79 12 ((I3 79 12) - 1)) 79 12) - 1)), vi (f6_asked ((uI I3 79 12 ((I3 79 12) - 1)) 79 12)), vi (f6_asked (((uI I3 79 12 ((I3 79 12) - 1)) 79 12) - 1)), vi (f6_operationOf v3), vr 79] (mm (uI I3 79 12 ((I3 79 12) - 1)))
        obtain ⟨I5, hk5, hf⟩ := obd hf
        refine G_callV (As := [vi (f6_operationOf v3), vi (f6_asked (((uI I3 79 12 ((I3 79 12) - 1)) 79 12) - 1)), vi (f6_asked ((uI I3 79 12 ((I3 79 12) - 1)) 79 12)), vi (f6_asked (((uI I3 79 12 ((I3 79 12) - 1)) 79 12) - 1))]) X (f6_operateOn_ok E (uI I3 79 12 ((I3 79 12) - 1)) (f6_operationOf v3) (f6_asked (((uI I3 79 12 ((I3 79 12) - 1)) 79 12) - 1)) (f6_asked ((uI I3 79 12 ((I3 79 12) - 1)) 79 12)) (f6_asked (((uI I3 79 12 ((I3 79 12) - 1)) 79 12) - 1)) I5 hk5) cb_X6_91 vi_X6_operateOn (ci := 5) rfl rfl (show SH[79]? = some (_, 0) from rfl) rfl rfl (Nat.le_of_ble_eq_true rfl) (by decide) (by decide) rfl (Nat.le_refl _) (Nat.le_refl _) dX6_doTo_63 ?_
        show G E κ _ _ _ [some (vr 79), some (vi x1), some (vi v3)] [] (mm I5)
        refine G_goto (tgt := 0) X dX6_doTo_66 (by decide) ?_
        refine G_weakL (ls' := [some (vr 79), some (vi x1), none]) ⟨Or.inr rfl, ⟨Or.inr rfl, ⟨Or.inl rfl, trivial⟩⟩⟩ ?_
        exact ih I5 x1 _ hR hf

def f6_doTo (I : gI) (a0 : Int32) : Option gI := f6_doTo_L0 FU I a0
set_option maxRecDepth 100000 in
set_option maxHeartbeats 4000000 in
theorem f6_doTo_ok (E : gEnv) (I : gI) (a0 : Int32) (I' : gI) (hf : f6_doTo I a0 = some I') : Ctr E yX6_doTo cX6_doTo 3 none 2 0 0 [vr 79, vi a0] (mm I) (none) (mm I') := by
  refine Ctr.mk (by decide +kernel) (Nat.le_of_ble_eq_true rfl) fun κ X hR _ => ?_
  have X : Cx E κ cX6_doTo 3 RX6 none 2 0 0 := X
  show G E κ 0 0 0 [some (vr 79), some (vi a0), none] [] (mm I)
  unfold f6_doTo at hf
  exact f6_doTo_L0_ok X FU I a0 _ hR hf

def f6_closeFactor_L0 : Nat → gI → Option gI
  | 0, _ => none
  | k + 1, I => (f6_top I).bind fun v1 => (if v1 = 126 then (f6_pop I).bind fun q3 => (if (q3.2 79 13) = 0 then f6_closeFactor_L0 k q3.2 else (f6_turn q3.2 (f6_asked ((q3.2 79 12) - 1))).bind fun I5 => f6_closeFactor_L0 k I5) else some I)
set_option maxRecDepth 100000 in
set_option maxHeartbeats 4000000 in
theorem f6_closeFactor_L0_ok {E : gEnv} {κ : gCtx} (X : Cx E κ cX6_closeFactor 1 RX6 none 2 0 0) : ∀ (k : Nat) (I : gI)  (I' : gI) (hR : gRt E κ 0 0 (none) (mm I')) (hf : f6_closeFactor_L0 k I  = some I'), G E κ 0 0 0 [some (vr 79)] [] (mm I) := by
  intro k
  induction k with
  | zero =>
    intros
    rename_i hf
    cases hf
  | succ k ih =>
    intro I  I' hR hf
    refine G_aload_n (x := some (79)) X dX6_closeFactor_0 rfl rfl ?_
    obtain ⟨v1, hk1, hf⟩ := obd hf
    refine G_callV (As := []) X (f6_top_ok E I  v1 hk1) cb_X6_130 vi_X6_top (ci := 5) rfl rfl (show SH[79]? = some (_, 0) from rfl) rfl rfl (Nat.le_of_ble_eq_true rfl) (by decide) (by decide) rfl (Nat.le_refl _) (Nat.le_refl _) dX6_closeFactor_1 ?_
    show G E κ _ _ _ [some (vr 79)] [vi v1] (mm I)
    refine G_bipush (v := 126) X dX6_closeFactor_4 rfl ?_
    refine G_icmp_ne (tgt := 37) X dX6_closeFactor_6 (by decide) (fun hc2 => ?_) (fun hc2 => ?_)
    · have hf := (if_neg hc2).symm.trans hf
      obtain rfl := Option.some.inj hf
      exact G_vret X hR rfl dX6_closeFactor_37
    · have hf := (if_pos hc2).symm.trans hf
      refine G_aload_n (x := some (79)) X dX6_closeFactor_9 rfl rfl ?_
      obtain ⟨⟨v3, I3⟩, hk3, hf⟩ := obd hf
      try dsimp only at hf
      refine G_callV (As := []) X (f6_pop_ok E I  v3 I3 hk3) cb_X6_136 vi_X6_pop (ci := 5) rfl rfl (show SH[79]? = some (_, 0) from rfl) rfl rfl (Nat.le_of_ble_eq_true rfl) (by decide) (by decide) rfl (Nat.le_refl _) (Nat.le_refl _) dX6_closeFactor_10 ?_
      show G E κ _ _ _ [some (vr 79)] [vi v3] (mm I3)
      refine G_pop X dX6_closeFactor_13 ?_
      refine G_aload_n (x := some (79)) X dX6_closeFactor_14 rfl rfl ?_
      refine M_getI X fd_X6_142 rfl (show SH[79]? = some (_, 0) from rfl) dX6_closeFactor_15 ?_
      refine G_if_eq (tgt := 0) X dX6_closeFactor_18 (by decide) (fun hc4 => ?_) (fun hc4 => ?_)
      · have hf := (if_pos hc4).symm.trans hf
        exact ih I3  _ hR hf
      · have hf := (if_neg hc4).symm.trans hf
        refine G_aload_n (x := some (79)) X dX6_closeFactor_21 rfl rfl ?_
        refine G_aload_n (x := some (79)) X dX6_closeFactor_22 rfl rfl ?_
        refine M_getI X fd_X6_139 rfl (show SH[79]? = some (_, 0) from rfl) dX6_closeFactor_23 ?_
        refine G_iconst (v := 1) X dX6_closeFactor_26 rfl ?_
        refine G_isub X dX6_closeFactor_27 ?_
        refine G_callS (As := [vi ((I3 79 12) - 1)]) X (f6_asked_ok E I3 ((I3 79 12) - 1) _ rfl) cb_X6_54 st_X6_asked rfl rfl (Nat.le_of_ble_eq_true rfl) (by decide) (by decide) rfl (Nat.le_refl _) (Nat.le_refl _) dX6_closeFactor_28 ?_
        show G E κ _ _ _ [some (vr 79)] [vi (f6_asked ((I3 79 12) - 1)), vr 79] (mm I3)
        obtain ⟨I5, hk5, hf⟩ := obd hf
        refine G_callV (As := [vi (f6_asked ((I3 79 12) - 1))]) X (f6_turn_ok E I3 (f6_asked ((I3 79 12) - 1)) I5 hk5) cb_X6_95 vi_X6_turn (ci := 5) rfl rfl (show SH[79]? = some (_, 0) from rfl) rfl rfl (Nat.le_of_ble_eq_true rfl) (by decide) (by decide) rfl (Nat.le_refl _) (Nat.le_refl _) dX6_closeFactor_31 ?_
        show G E κ _ _ _ [some (vr 79)] [] (mm I5)
        refine G_goto (tgt := 0) X dX6_closeFactor_34 (by decide) ?_
        exact ih I5  _ hR hf

def f6_closeFactor (I : gI)  : Option gI := f6_closeFactor_L0 FU I
set_option maxRecDepth 100000 in
set_option maxHeartbeats 4000000 in
theorem f6_closeFactor_ok (E : gEnv) (I : gI)  (I' : gI) (hf : f6_closeFactor I  = some I') : Ctr E yX6_closeFactor cX6_closeFactor 1 none 2 0 0 [vr 79] (mm I) (none) (mm I') := by
  refine Ctr.mk (by decide +kernel) (Nat.le_of_ble_eq_true rfl) fun κ X hR _ => ?_
  have X : Cx E κ cX6_closeFactor 1 RX6 none 2 0 0 := X
  show G E κ 0 0 0 [some (vr 79)] [] (mm I)
  unfold f6_closeFactor at hf
  exact f6_closeFactor_L0_ok X FU I  _ hR hf

def f6_readsRow (I : gI)  : Option (Bool × gI) := (f6_readsNumber I).bind fun q1 => (if q1.1 = true then (f6_isRow q1.2 (q1.2 79 16)).bind fun v3 => (if v3 = true then (f6_wrong q1.2 0 (I 79 8)).bind fun I5 => (if (I5 79 13) = 0 then (f6_code (uI I5 79 12 ((I5 79 12) + 1))).bind fun q7 => (if q7.1 = 60 then (f6_code (uI q7.2 79 8 ((q7.2 79 8) + 1))).bind fun q9 => (f6_readsNumber q9.2).bind fun q10 => (if q10.1 = true then (if (q10.2 79 16) ≤ 600 then (f6_wrong q10.2 0 (q9.2 79 8)).bind fun I13 => (if (I13 79 13) = 0 then (f6_closeFactor I13).bind fun I15 => some (true, I15) else (if q7.1 = 60 then (f6_shiftOn I13 (f6_asked ((I13 79 12) - 1)) (I13 79 16)).bind fun I19 => (f6_closeFactor I19).bind fun I20 => some (true, I20) else (f6_shiftOn I13 (f6_asked ((I13 79 12) - 1)) (-(I13 79 16))).bind fun I17 => (f6_closeFactor I17).bind fun I18 => some (true, I18))) else (f6_wrong q10.2 1 (q9.2 79 8)).bind fun I21 => (if (I21 79 13) = 0 then (f6_closeFactor I21).bind fun I23 => some (true, I23) else (if q7.1 = 60 then (f6_shiftOn I21 (f6_asked ((I21 79 12) - 1)) (I21 79 16)).bind fun I27 => (f6_closeFactor I27).bind fun I28 => some (true, I28) else (f6_shiftOn I21 (f6_asked ((I21 79 12) - 1)) (-(I21 79 16))).bind fun I25 => (f6_closeFactor I25).bind fun I26 => some (true, I26)))) else some (false, q10.2)) else (if q7.1 = 62 then (f6_code (uI q7.2 79 8 ((q7.2 79 8) + 1))).bind fun q31 => (f6_readsNumber q31.2).bind fun q32 => (if q32.1 = true then (if (q32.2 79 16) ≤ 600 then (f6_wrong q32.2 0 (q31.2 79 8)).bind fun I35 => (if (I35 79 13) = 0 then (f6_closeFactor I35).bind fun I37 => some (true, I37) else (if q7.1 = 60 then (f6_shiftOn I35 (f6_asked ((I35 79 12) - 1)) (I35 79 16)).bind fun I41 => (f6_closeFactor I41).bind fun I42 => some (true, I42) else (f6_shiftOn I35 (f6_asked ((I35 79 12) - 1)) (-(I35 79 16))).bind fun I39 => (f6_closeFactor I39).bind fun I40 => some (true, I40))) else (f6_wrong q32.2 1 (q31.2 79 8)).bind fun I43 => (if (I43 79 13) = 0 then (f6_closeFactor I43).bind fun I45 => some (true, I45) else (if q7.1 = 60 then (f6_shiftOn I43 (f6_asked ((I43 79 12) - 1)) (I43 79 16)).bind fun I49 => (f6_closeFactor I49).bind fun I50 => some (true, I50) else (f6_shiftOn I43 (f6_asked ((I43 79 12) - 1)) (-(I43 79 16))).bind fun I47 => (f6_closeFactor I47).bind fun I48 => some (true, I48)))) else some (false, q32.2)) else (f6_closeFactor q7.2).bind fun I30 => some (true, I30))) else (f6_copy I5 (f6_at (I5 79 16)) (f6_asked (I5 79 12))).bind fun I51 => (f6_code (uI I51 79 12 ((I51 79 12) + 1))).bind fun q52 => (if q52.1 = 60 then (f6_code (uI q52.2 79 8 ((q52.2 79 8) + 1))).bind fun q54 => (f6_readsNumber q54.2).bind fun q55 => (if q55.1 = true then (if (q55.2 79 16) ≤ 600 then (f6_wrong q55.2 0 (q54.2 79 8)).bind fun I58 => (if (I58 79 13) = 0 then (f6_closeFactor I58).bind fun I60 => some (true, I60) else (if q52.1 = 60 then (f6_shiftOn I58 (f6_asked ((I58 79 12) - 1)) (I58 79 16)).bind fun I64 => (f6_closeFactor I64).bind fun I65 => some (true, I65) else (f6_shiftOn I58 (f6_asked ((I58 79 12) - 1)) (-(I58 79 16))).bind fun I62 => (f6_closeFactor I62).bind fun I63 => some (true, I63))) else (f6_wrong q55.2 1 (q54.2 79 8)).bind fun I66 => (if (I66 79 13) = 0 then (f6_closeFactor I66).bind fun I68 => some (true, I68) else (if q52.1 = 60 then (f6_shiftOn I66 (f6_asked ((I66 79 12) - 1)) (I66 79 16)).bind fun I72 => (f6_closeFactor I72).bind fun I73 => some (true, I73) else (f6_shiftOn I66 (f6_asked ((I66 79 12) - 1)) (-(I66 79 16))).bind fun I70 => (f6_closeFactor I70).bind fun I71 => some (true, I71)))) else some (false, q55.2)) else (if q52.1 = 62 then (f6_code (uI q52.2 79 8 ((q52.2 79 8) + 1))).bind fun q76 => (f6_readsNumber q76.2).bind fun q77 => (if q77.1 = true then (if (q77.2 79 16) ≤ 600 then (f6_wrong q77.2 0 (q76.2 79 8)).bind fun I80 => (if (I80 79 13) = 0 then (f6_closeFactor I80).bind fun I82 => some (true, I82) else (if q52.1 = 60 then (f6_shiftOn I80 (f6_asked ((I80 79 12) - 1)) (I80 79 16)).bind fun I86 => (f6_closeFactor I86).bind fun I87 => some (true, I87) else (f6_shiftOn I80 (f6_asked ((I80 79 12) - 1)) (-(I80 79 16))).bind fun I84 => (f6_closeFactor I84).bind fun I85 => some (true, I85))) else (f6_wrong q77.2 1 (q76.2 79 8)).bind fun I88 => (if (I88 79 13) = 0 then (f6_closeFactor I88).bind fun I90 => some (true, I90) else (if q52.1 = 60 then (f6_shiftOn I88 (f6_asked ((I88 79 12) - 1)) (I88 79 16)).bind fun I94 => (f6_closeFactor I94).bind fun I95 => some (true, I95) else (f6_shiftOn I88 (f6_asked ((I88 79 12) - 1)) (-(I88 79 16))).bind fun I92 => (f6_closeFactor I92).bind fun I93 => some (true, I93)))) else some (false, q77.2)) else (f6_closeFactor q52.2).bind fun I75 => some (true, I75)))) else (f6_wrong q1.2 1 (I 79 8)).bind fun I96 => (if (I96 79 13) = 0 then (f6_code (uI I96 79 12 ((I96 79 12) + 1))).bind fun q98 => (if q98.1 = 60 then (f6_code (uI q98.2 79 8 ((q98.2 79 8) + 1))).bind fun q100 => (f6_readsNumber q100.2).bind fun q101 => (if q101.1 = true then (if (q101.2 79 16) ≤ 600 then (f6_wrong q101.2 0 (q100.2 79 8)).bind fun I104 => (if (I104 79 13) = 0 then (f6_closeFactor I104).bind fun I106 => some (true, I106) else (if q98.1 = 60 then (f6_shiftOn I104 (f6_asked ((I104 79 12) - 1)) (I104 79 16)).bind fun I110 => (f6_closeFactor I110).bind fun I111 => some (true, I111) else (f6_shiftOn I104 (f6_asked ((I104 79 12) - 1)) (-(I104 79 16))).bind fun I108 => (f6_closeFactor I108).bind fun I109 => some (true, I109))) else (f6_wrong q101.2 1 (q100.2 79 8)).bind fun I112 => (if (I112 79 13) = 0 then (f6_closeFactor I112).bind fun I114 => some (true, I114) else (if q98.1 = 60 then (f6_shiftOn I112 (f6_asked ((I112 79 12) - 1)) (I112 79 16)).bind fun I118 => (f6_closeFactor I118).bind fun I119 => some (true, I119) else (f6_shiftOn I112 (f6_asked ((I112 79 12) - 1)) (-(I112 79 16))).bind fun I116 => (f6_closeFactor I116).bind fun I117 => some (true, I117)))) else some (false, q101.2)) else (if q98.1 = 62 then (f6_code (uI q98.2 79 8 ((q98.2 79 8) + 1))).bind fun q122 => (f6_readsNumber q122.2).bind fun q123 => (if q123.1 = true then (if (q123.2 79 16) ≤ 600 then (f6_wrong q123.2 0 (q122.2 79 8)).bind fun I126 => (if (I126 79 13) = 0 then (f6_closeFactor I126).bind fun I128 => some (true, I128) else (if q98.1 = 60 then (f6_shiftOn I126 (f6_asked ((I126 79 12) - 1)) (I126 79 16)).bind fun I132 => (f6_closeFactor I132).bind fun I133 => some (true, I133) else (f6_shiftOn I126 (f6_asked ((I126 79 12) - 1)) (-(I126 79 16))).bind fun I130 => (f6_closeFactor I130).bind fun I131 => some (true, I131))) else (f6_wrong q123.2 1 (q122.2 79 8)).bind fun I134 => (if (I134 79 13) = 0 then (f6_closeFactor I134).bind fun I136 => some (true, I136) else (if q98.1 = 60 then (f6_shiftOn I134 (f6_asked ((I134 79 12) - 1)) (I134 79 16)).bind fun I140 => (f6_closeFactor I140).bind fun I141 => some (true, I141) else (f6_shiftOn I134 (f6_asked ((I134 79 12) - 1)) (-(I134 79 16))).bind fun I138 => (f6_closeFactor I138).bind fun I139 => some (true, I139)))) else some (false, q123.2)) else (f6_closeFactor q98.2).bind fun I121 => some (true, I121))) else (f6_copy I96 (f6_at (I96 79 16)) (f6_asked (I96 79 12))).bind fun I142 => (f6_code (uI I142 79 12 ((I142 79 12) + 1))).bind fun q143 => (if q143.1 = 60 then (f6_code (uI q143.2 79 8 ((q143.2 79 8) + 1))).bind fun q145 => (f6_readsNumber q145.2).bind fun q146 => (if q146.1 = true then (if (q146.2 79 16) ≤ 600 then (f6_wrong q146.2 0 (q145.2 79 8)).bind fun I149 => (if (I149 79 13) = 0 then (f6_closeFactor I149).bind fun I151 => some (true, I151) else (if q143.1 = 60 then (f6_shiftOn I149 (f6_asked ((I149 79 12) - 1)) (I149 79 16)).bind fun I155 => (f6_closeFactor I155).bind fun I156 => some (true, I156) else (f6_shiftOn I149 (f6_asked ((I149 79 12) - 1)) (-(I149 79 16))).bind fun I153 => (f6_closeFactor I153).bind fun I154 => some (true, I154))) else (f6_wrong q146.2 1 (q145.2 79 8)).bind fun I157 => (if (I157 79 13) = 0 then (f6_closeFactor I157).bind fun I159 => some (true, I159) else (if q143.1 = 60 then (f6_shiftOn I157 (f6_asked ((I157 79 12) - 1)) (I157 79 16)).bind fun I163 => (f6_closeFactor I163).bind fun I164 => some (true, I164) else (f6_shiftOn I157 (f6_asked ((I157 79 12) - 1)) (-(I157 79 16))).bind fun I161 => (f6_closeFactor I161).bind fun I162 => some (true, I162)))) else some (false, q146.2)) else (if q143.1 = 62 then (f6_code (uI q143.2 79 8 ((q143.2 79 8) + 1))).bind fun q167 => (f6_readsNumber q167.2).bind fun q168 => (if q168.1 = true then (if (q168.2 79 16) ≤ 600 then (f6_wrong q168.2 0 (q167.2 79 8)).bind fun I171 => (if (I171 79 13) = 0 then (f6_closeFactor I171).bind fun I173 => some (true, I173) else (if q143.1 = 60 then (f6_shiftOn I171 (f6_asked ((I171 79 12) - 1)) (I171 79 16)).bind fun I177 => (f6_closeFactor I177).bind fun I178 => some (true, I178) else (f6_shiftOn I171 (f6_asked ((I171 79 12) - 1)) (-(I171 79 16))).bind fun I175 => (f6_closeFactor I175).bind fun I176 => some (true, I176))) else (f6_wrong q168.2 1 (q167.2 79 8)).bind fun I179 => (if (I179 79 13) = 0 then (f6_closeFactor I179).bind fun I181 => some (true, I181) else (if q143.1 = 60 then (f6_shiftOn I179 (f6_asked ((I179 79 12) - 1)) (I179 79 16)).bind fun I185 => (f6_closeFactor I185).bind fun I186 => some (true, I186) else (f6_shiftOn I179 (f6_asked ((I179 79 12) - 1)) (-(I179 79 16))).bind fun I183 => (f6_closeFactor I183).bind fun I184 => some (true, I184)))) else some (false, q168.2)) else (f6_closeFactor q143.2).bind fun I166 => some (true, I166))))) else some (false, q1.2))
set_option maxRecDepth 100000 in
set_option maxHeartbeats 4000000 in
theorem f6_readsRow_ok (E : gEnv) (I : gI)  (r : Bool) (I' : gI) (hf : f6_readsRow I  = some (r, I')) : Ctr E yX6_readsRow cX6_readsRow 3 (some .boolean) 3 0 0 [vr 79] (mm I) (some (vi (b2i r))) (mm I') := by
  refine Ctr.mk (by decide +kernel) (Nat.le_of_ble_eq_true rfl) fun κ X hR _ => ?_
  have X : Cx E κ cX6_readsRow 3 RX6 (some .boolean) 3 0 0 := X
  show G E κ 0 0 0 [some (vr 79), none, none] [] (mm I)
  unfold f6_readsRow at hf
  refine G_aload_n (x := some (79)) X dX6_readsRow_0 rfl rfl ?_
  refine M_getI X fd_X6_108 rfl (show SH[79]? = some (_, 0) from rfl) dX6_readsRow_1 ?_
  refine G_istore_n X dX6_readsRow_4 rfl (Nat.le_of_ble_eq_true rfl) (ls' := [some (vr 79), some (vi (I 79 8)), none]) rfl ?_
  refine G_aload_n (x := some (79)) X dX6_readsRow_5 rfl rfl ?_
  obtain ⟨⟨v1, I1⟩, hk1, hf⟩ := obd hf
  try dsimp only at hf
  refine G_callV (As := []) X (f6_readsNumber_ok E I  v1 I1 hk1) cb_X6_149 vi_X6_readsNumber (ci := 5) rfl rfl (show SH[79]? = some (_, 0) from rfl) rfl rfl (Nat.le_of_ble_eq_true rfl) (by decide) (by decide) rfl (Nat.le_refl _) (Nat.le_refl _) dX6_readsRow_6 ?_
  show G E κ _ _ _ [some (vr 79), some (vi (I 79 8)), none] [vi (b2i v1)] (mm I1)
  refine G_if_ne (tgt := 14) X dX6_readsRow_9 (by decide) (fun hc2 => ?_) (fun hc2 => ?_)
  · have hf := (if_pos (b2i_t hc2)).symm.trans hf
    refine G_aload_n (x := some (79)) X dX6_readsRow_14 rfl rfl ?_
    refine G_aload_n (x := some (79)) X dX6_readsRow_15 rfl rfl ?_
    refine G_aload_n (x := some (79)) X dX6_readsRow_16 rfl rfl ?_
    refine M_getI X fd_X6_124 rfl (show SH[79]? = some (_, 0) from rfl) dX6_readsRow_17 ?_
    obtain ⟨v3, hk3, hf⟩ := obd hf
    refine G_callV (As := [vi (I1 79 16)]) X (f6_isRow_ok E I1 (I1 79 16) v3 hk3) cb_X6_74 vi_X6_isRow (ci := 5) rfl rfl (show SH[79]? = some (_, 0) from rfl) rfl rfl (Nat.le_of_ble_eq_true rfl) (by decide) (by decide) rfl (Nat.le_refl _) (Nat.le_refl _) dX6_readsRow_20 ?_
    show G E κ _ _ _ [some (vr 79), some (vi (I 79 8)), none] [vi (b2i v3), vr 79] (mm I1)
    refine G_if_ne (tgt := 30) X dX6_readsRow_23 (by decide) (fun hc4 => ?_) (fun hc4 => ?_)
    · have hf := (if_pos (b2i_t hc4)).symm.trans hf
      refine G_iconst (v := 0) X dX6_readsRow_30 rfl ?_
      refine G_iload_n (x := I 79 8) X dX6_readsRow_31 rfl rfl ?_
      obtain ⟨I5, hk5, hf⟩ := obd hf
      refine G_callV (As := [vi 0, vi (I 79 8)]) X (f6_wrong_ok E I1 0 (I 79 8) I5 hk5) cb_X6_153 vi_X6_wrong (ci := 5) rfl rfl (show SH[79]? = some (_, 0) from rfl) rfl rfl (Nat.le_of_ble_eq_true rfl) (by decide) (by decide) rfl (Nat.le_refl _) (Nat.le_refl _) dX6_readsRow_32 ?_
      show G E κ _ _ _ [some (vr 79), some (vi (I 79 8)), none] [] (mm I5)
      refine G_aload_n (x := some (79)) X dX6_readsRow_35 rfl rfl ?_
      refine M_getI X fd_X6_142 rfl (show SH[79]? = some (_, 0) from rfl) dX6_readsRow_36 ?_
      refine G_if_eq (tgt := 60) X dX6_readsRow_39 (by decide) (fun hc6 => ?_) (fun hc6 => ?_)
      · have hf := (if_pos hc6).symm.trans hf
        refine G_aload_n (x := some (79)) X dX6_readsRow_60 rfl rfl ?_
        refine G_dup X dX6_readsRow_61 ?_
        refine M_getI X fd_X6_139 rfl (show SH[79]? = some (_, 0) from rfl) dX6_readsRow_62 ?_
        refine G_iconst (v := 1) X dX6_readsRow_65 rfl ?_
        refine G_iadd X dX6_readsRow_66 ?_
        refine M_putI X fd_X6_139 rfl (show SH[79]? = some (_, 0) from rfl) rfl rfl dX6_readsRow_67 ?_
        refine G_aload_n (x := some (79)) X dX6_readsRow_70 rfl rfl ?_
        obtain ⟨⟨v7, I7⟩, hk7, hf⟩ := obd hf
        try dsimp only at hf
        refine G_callV (As := []) X (f6_code_ok E (uI I5 79 12 ((I5 79 12) + 1))  v7 I7 hk7) cb_X6_120 vi_X6_code (ci := 5) rfl rfl (show SH[79]? = some (_, 0) from rfl) rfl rfl (Nat.le_of_ble_eq_true rfl) (by decide) (by decide) rfl (Nat.le_refl _) (Nat.le_refl _) dX6_readsRow_71 ?_
        show G E κ _ _ _ [some (vr 79), some (vi (I 79 8)), none] [vi v7] (mm I7)
        refine G_istore_n X dX6_readsRow_74 rfl (Nat.le_of_ble_eq_true rfl) (ls' := [some (vr 79), some (vi (I 79 8)), some (vi v7)]) rfl ?_
        refine G_iload_n (x := v7) X dX6_readsRow_75 rfl rfl ?_
        refine G_bipush (v := 60) X dX6_readsRow_76 rfl ?_
        refine G_icmp_eq (tgt := 87) X dX6_readsRow_78 (by decide) (fun hc8 => ?_) (fun hc8 => ?_)
        · have hf := (if_pos hc8).symm.trans hf
          refine G_aload_n (x := some (79)) X dX6_readsRow_87 rfl rfl ?_
          refine G_dup X dX6_readsRow_88 ?_
          refine M_getI X fd_X6_108 rfl (show SH[79]? = some (_, 0) from rfl) dX6_readsRow_89 ?_
          refine G_iconst (v := 1) X dX6_readsRow_92 rfl ?_
          refine G_iadd X dX6_readsRow_93 ?_
          refine M_putI X fd_X6_108 rfl (show SH[79]? = some (_, 0) from rfl) rfl rfl dX6_readsRow_94 ?_
          refine G_aload_n (x := some (79)) X dX6_readsRow_97 rfl rfl ?_
          obtain ⟨⟨v9, I9⟩, hk9, hf⟩ := obd hf
          try dsimp only at hf
          refine G_callV (As := []) X (f6_code_ok E (uI I7 79 8 ((I7 79 8) + 1))  v9 I9 hk9) cb_X6_120 vi_X6_code (ci := 5) rfl rfl (show SH[79]? = some (_, 0) from rfl) rfl rfl (Nat.le_of_ble_eq_true rfl) (by decide) (by decide) rfl (Nat.le_refl _) (Nat.le_refl _) dX6_readsRow_98 ?_
          show G E κ _ _ _ [some (vr 79), some (vi (I 79 8)), some (vi v7)] [vi v9] (mm I9)
          refine G_pop X dX6_readsRow_101 ?_
          refine G_aload_n (x := some (79)) X dX6_readsRow_102 rfl rfl ?_
          refine M_getI X fd_X6_108 rfl (show SH[79]? = some (_, 0) from rfl) dX6_readsRow_103 ?_
          refine G_istore_n X dX6_readsRow_106 rfl (Nat.le_of_ble_eq_true rfl) (ls' := [some (vr 79), some (vi (I9 79 8)), some (vi v7)]) rfl ?_
          refine G_aload_n (x := some (79)) X dX6_readsRow_107 rfl rfl ?_
          obtain ⟨⟨v10, I10⟩, hk10, hf⟩ := obd hf
          try dsimp only at hf
          refine G_callV (As := []) X (f6_readsNumber_ok E I9  v10 I10 hk10) cb_X6_149 vi_X6_readsNumber (ci := 5) rfl rfl (show SH[79]? = some (_, 0) from rfl) rfl rfl (Nat.le_of_ble_eq_true rfl) (by decide) (by decide) rfl (Nat.le_refl _) (Nat.le_refl _) dX6_readsRow_108 ?_
          show G E κ _ _ _ [some (vr 79), some (vi (I9 79 8)), some (vi v7)] [vi (b2i v10)] (mm I10)
          refine G_if_ne (tgt := 116) X dX6_readsRow_111 (by decide) (fun hc11 => ?_) (fun hc11 => ?_)
          · have hf := (if_pos (b2i_t hc11)).symm.trans hf
            refine G_aload_n (x := some (79)) X dX6_readsRow_116 rfl rfl ?_
            refine G_aload_n (x := some (79)) X dX6_readsRow_117 rfl rfl ?_
            refine M_getI X fd_X6_124 rfl (show SH[79]? = some (_, 0) from rfl) dX6_readsRow_118 ?_
            refine G_sipush (v := 600) X dX6_readsRow_121 rfl ?_
            refine G_icmp_le (tgt := 131) X dX6_readsRow_124 (by decide) (fun hc12 => ?_) (fun hc12 => ?_)
            · have hf := (if_pos hc12).symm.trans hf
              refine G_iconst (v := 0) X dX6_readsRow_131 rfl ?_
              refine G_iload_n (x := I9 79 8) X dX6_readsRow_132 rfl rfl ?_
              obtain ⟨I13, hk13, hf⟩ := obd hf
              refine G_callV (As := [vi 0, vi (I9 79 8)]) X (f6_wrong_ok E I10 0 (I9 79 8) I13 hk13) cb_X6_153 vi_X6_wrong (ci := 5) rfl rfl (show SH[79]? = some (_, 0) from rfl) rfl rfl (Nat.le_of_ble_eq_true rfl) (by decide) (by decide) rfl (Nat.le_refl _) (Nat.le_refl _) dX6_readsRow_133 ?_
              show G E κ _ _ _ [some (vr 79), some (vi (I9 79 8)), some (vi v7)] [] (mm I13)
              refine G_aload_n (x := some (79)) X dX6_readsRow_136 rfl rfl ?_
              refine M_getI X fd_X6_142 rfl (show SH[79]? = some (_, 0) from rfl) dX6_readsRow_137 ?_
              refine G_if_eq (tgt := 174) X dX6_readsRow_140 (by decide) (fun hc14 => ?_) (fun hc14 => ?_)
              · have hf := (if_pos hc14).symm.trans hf
                refine G_aload_n (x := some (79)) X dX6_readsRow_174 rfl rfl ?_
                obtain ⟨I15, hk15, hf⟩ := obd hf
                refine G_callV (As := []) X (f6_closeFactor_ok E I13  I15 hk15) cb_X6_157 vi_X6_closeFactor (ci := 5) rfl rfl (show SH[79]? = some (_, 0) from rfl) rfl rfl (Nat.le_of_ble_eq_true rfl) (by decide) (by decide) rfl (Nat.le_refl _) (Nat.le_refl _) dX6_readsRow_175 ?_
                show G E κ _ _ _ [some (vr 79), some (vi (I9 79 8)), some (vi v7)] [] (mm I15)
                refine G_iconst (v := 1) X dX6_readsRow_178 rfl ?_
                obtain ⟨rfl, rfl⟩ := Prod.mk.inj (Option.some.inj hf)
                exact G_iret X hR rfl (nar_b2i true) dX6_readsRow_179
              · have hf := (if_neg hc14).symm.trans hf
                refine G_aload_n (x := some (79)) X dX6_readsRow_143 rfl rfl ?_
                refine G_aload_n (x := some (79)) X dX6_readsRow_144 rfl rfl ?_
                refine M_getI X fd_X6_139 rfl (show SH[79]? = some (_, 0) from rfl) dX6_readsRow_145 ?_
                refine G_iconst (v := 1) X dX6_readsRow_148 rfl ?_
                refine G_isub X dX6_readsRow_149 ?_
                refine G_callS (As := [vi ((I13 79 12) - 1)]) X (f6_asked_ok E I13 ((I13 79 12) - 1) _ rfl) cb_X6_54 st_X6_asked rfl rfl (Nat.le_of_ble_eq_true rfl) (by decide) (by decide) rfl (Nat.le_refl _) (Nat.le_refl _) dX6_readsRow_150 ?_
                show G E κ _ _ _ [some (vr 79), some (vi (I9 79 8)), some (vi v7)] [vi (f6_asked ((I13 79 12) - 1)), vr 79] (mm I13)
                refine G_iload_n (x := v7) X dX6_readsRow_153 rfl rfl ?_
                refine G_bipush (v := 60) X dX6_readsRow_154 rfl ?_
                refine G_icmp_ne (tgt := 166) X dX6_readsRow_156 (by decide) (fun hc16 => ?_) (fun hc16 => ?_)
                · have hf := (if_neg hc16).symm.trans hf
                  refine G_aload_n (x := some (79)) X dX6_readsRow_166 rfl rfl ?_
                  refine M_getI X fd_X6_124 rfl (show SH[79]? = some (_, 0) from rfl) dX6_readsRow_167 ?_
                  refine G_ineg X dX6_readsRow_170 ?_
                  obtain ⟨I17, hk17, hf⟩ := obd hf
                  refine G_callV (As := [vi (f6_asked ((I13 79 12) - 1)), vi (-(I13 79 16))]) X (f6_shiftOn_ok E I13 (f6_asked ((I13 79 12) - 1)) (-(I13 79 16)) I17 hk17) cb_X6_102 vi_X6_shiftOn (ci := 5) rfl rfl (show SH[79]? = some (_, 0) from rfl) rfl rfl (Nat.le_of_ble_eq_true rfl) (by decide) (by decide) rfl (Nat.le_refl _) (Nat.le_refl _) dX6_readsRow_171 ?_
                  show G E κ _ _ _ [some (vr 79), some (vi (I9 79 8)), some (vi v7)] [] (mm I17)
                  refine G_aload_n (x := some (79)) X dX6_readsRow_174 rfl rfl ?_
                  obtain ⟨I18, hk18, hf⟩ := obd hf
                  refine G_callV (As := []) X (f6_closeFactor_ok E I17  I18 hk18) cb_X6_157 vi_X6_closeFactor (ci := 5) rfl rfl (show SH[79]? = some (_, 0) from rfl) rfl rfl (Nat.le_of_ble_eq_true rfl) (by decide) (by decide) rfl (Nat.le_refl _) (Nat.le_refl _) dX6_readsRow_175 ?_
                  show G E κ _ _ _ [some (vr 79), some (vi (I9 79 8)), some (vi v7)] [] (mm I18)
                  refine G_iconst (v := 1) X dX6_readsRow_178 rfl ?_
                  obtain ⟨rfl, rfl⟩ := Prod.mk.inj (Option.some.inj hf)
                  exact G_iret X hR rfl (nar_b2i true) dX6_readsRow_179
                · have hf := (if_pos hc16).symm.trans hf
                  refine G_aload_n (x := some (79)) X dX6_readsRow_159 rfl rfl ?_
                  refine M_getI X fd_X6_124 rfl (show SH[79]? = some (_, 0) from rfl) dX6_readsRow_160 ?_
                  refine G_goto (tgt := 171) X dX6_readsRow_163 (by decide) ?_
                  obtain ⟨I19, hk19, hf⟩ := obd hf
                  refine G_callV (As := [vi (f6_asked ((I13 79 12) - 1)), vi (I13 79 16)]) X (f6_shiftOn_ok E I13 (f6_asked ((I13 79 12) - 1)) (I13 79 16) I19 hk19) cb_X6_102 vi_X6_shiftOn (ci := 5) rfl rfl (show SH[79]? = some (_, 0) from rfl) rfl rfl (Nat.le_of_ble_eq_true rfl) (by decide) (by decide) rfl (Nat.le_refl _) (Nat.le_refl _) dX6_readsRow_171 ?_
                  show G E κ _ _ _ [some (vr 79), some (vi (I9 79 8)), some (vi v7)] [] (mm I19)
                  refine G_aload_n (x := some (79)) X dX6_readsRow_174 rfl rfl ?_
                  obtain ⟨I20, hk20, hf⟩ := obd hf
                  refine G_callV (As := []) X (f6_closeFactor_ok E I19  I20 hk20) cb_X6_157 vi_X6_closeFactor (ci := 5) rfl rfl (show SH[79]? = some (_, 0) from rfl) rfl rfl (Nat.le_of_ble_eq_true rfl) (by decide) (by decide) rfl (Nat.le_refl _) (Nat.le_refl _) dX6_readsRow_175 ?_
                  show G E κ _ _ _ [some (vr 79), some (vi (I9 79 8)), some (vi v7)] [] (mm I20)
                  refine G_iconst (v := 1) X dX6_readsRow_178 rfl ?_
                  obtain ⟨rfl, rfl⟩ := Prod.mk.inj (Option.some.inj hf)
                  exact G_iret X hR rfl (nar_b2i true) dX6_readsRow_179
            · have hf := (if_neg hc12).symm.trans hf
              refine G_iconst (v := 1) X dX6_readsRow_127 rfl ?_
              refine G_goto (tgt := 132) X dX6_readsRow_128 (by decide) ?_
              refine G_iload_n (x := I9 79 8) X dX6_readsRow_132 rfl rfl ?_
              obtain ⟨I21, hk21, hf⟩ := obd hf
              refine G_callV (As := [vi 1, vi (I9 79 8)]) X (f6_wrong_ok E I10 1 (I9 79 8) I21 hk21) cb_X6_153 vi_X6_wrong (ci := 5) rfl rfl (show SH[79]? = some (_, 0) from rfl) rfl rfl (Nat.le_of_ble_eq_true rfl) (by decide) (by decide) rfl (Nat.le_refl _) (Nat.le_refl _) dX6_readsRow_133 ?_
              show G E κ _ _ _ [some (vr 79), some (vi (I9 79 8)), some (vi v7)] [] (mm I21)
              refine G_aload_n (x := some (79)) X dX6_readsRow_136 rfl rfl ?_
              refine M_getI X fd_X6_142 rfl (show SH[79]? = some (_, 0) from rfl) dX6_readsRow_137 ?_
              refine G_if_eq (tgt := 174) X dX6_readsRow_140 (by decide) (fun hc22 => ?_) (fun hc22 => ?_)
              · have hf := (if_pos hc22).symm.trans hf
                refine G_aload_n (x := some (79)) X dX6_readsRow_174 rfl rfl ?_
                obtain ⟨I23, hk23, hf⟩ := obd hf
                refine G_callV (As := []) X (f6_closeFactor_ok E I21  I23 hk23) cb_X6_157 vi_X6_closeFactor (ci := 5) rfl rfl (show SH[79]? = some (_, 0) from rfl) rfl rfl (Nat.le_of_ble_eq_true rfl) (by decide) (by decide) rfl (Nat.le_refl _) (Nat.le_refl _) dX6_readsRow_175 ?_
                show G E κ _ _ _ [some (vr 79), some (vi (I9 79 8)), some (vi v7)] [] (mm I23)
                refine G_iconst (v := 1) X dX6_readsRow_178 rfl ?_
                obtain ⟨rfl, rfl⟩ := Prod.mk.inj (Option.some.inj hf)
                exact G_iret X hR rfl (nar_b2i true) dX6_readsRow_179
              · have hf := (if_neg hc22).symm.trans hf
                refine G_aload_n (x := some (79)) X dX6_readsRow_143 rfl rfl ?_
                refine G_aload_n (x := some (79)) X dX6_readsRow_144 rfl rfl ?_
                refine M_getI X fd_X6_139 rfl (show SH[79]? = some (_, 0) from rfl) dX6_readsRow_145 ?_
                refine G_iconst (v := 1) X dX6_readsRow_148 rfl ?_
                refine G_isub X dX6_readsRow_149 ?_
                refine G_callS (As := [vi ((I21 79 12) - 1)]) X (f6_asked_ok E I21 ((I21 79 12) - 1) _ rfl) cb_X6_54 st_X6_asked rfl rfl (Nat.le_of_ble_eq_true rfl) (by decide) (by decide) rfl (Nat.le_refl _) (Nat.le_refl _) dX6_readsRow_150 ?_
                show G E κ _ _ _ [some (vr 79), some (vi (I9 79 8)), some (vi v7)] [vi (f6_asked ((I21 79 12) - 1)), vr 79] (mm I21)
                refine G_iload_n (x := v7) X dX6_readsRow_153 rfl rfl ?_
                refine G_bipush (v := 60) X dX6_readsRow_154 rfl ?_
                refine G_icmp_ne (tgt := 166) X dX6_readsRow_156 (by decide) (fun hc24 => ?_) (fun hc24 => ?_)
                · have hf := (if_neg hc24).symm.trans hf
                  refine G_aload_n (x := some (79)) X dX6_readsRow_166 rfl rfl ?_
                  refine M_getI X fd_X6_124 rfl (show SH[79]? = some (_, 0) from rfl) dX6_readsRow_167 ?_
                  refine G_ineg X dX6_readsRow_170 ?_
                  obtain ⟨I25, hk25, hf⟩ := obd hf
                  refine G_callV (As := [vi (f6_asked ((I21 79 12) - 1)), vi (-(I21 79 16))]) X (f6_shiftOn_ok E I21 (f6_asked ((I21 79 12) - 1)) (-(I21 79 16)) I25 hk25) cb_X6_102 vi_X6_shiftOn (ci := 5) rfl rfl (show SH[79]? = some (_, 0) from rfl) rfl rfl (Nat.le_of_ble_eq_true rfl) (by decide) (by decide) rfl (Nat.le_refl _) (Nat.le_refl _) dX6_readsRow_171 ?_
                  show G E κ _ _ _ [some (vr 79), some (vi (I9 79 8)), some (vi v7)] [] (mm I25)
                  refine G_aload_n (x := some (79)) X dX6_readsRow_174 rfl rfl ?_
                  obtain ⟨I26, hk26, hf⟩ := obd hf
                  refine G_callV (As := []) X (f6_closeFactor_ok E I25  I26 hk26) cb_X6_157 vi_X6_closeFactor (ci := 5) rfl rfl (show SH[79]? = some (_, 0) from rfl) rfl rfl (Nat.le_of_ble_eq_true rfl) (by decide) (by decide) rfl (Nat.le_refl _) (Nat.le_refl _) dX6_readsRow_175 ?_
                  show G E κ _ _ _ [some (vr 79), some (vi (I9 79 8)), some (vi v7)] [] (mm I26)
                  refine G_iconst (v := 1) X dX6_readsRow_178 rfl ?_
                  obtain ⟨rfl, rfl⟩ := Prod.mk.inj (Option.some.inj hf)
                  exact G_iret X hR rfl (nar_b2i true) dX6_readsRow_179
                · have hf := (if_pos hc24).symm.trans hf
                  refine G_aload_n (x := some (79)) X dX6_readsRow_159 rfl rfl ?_
                  refine M_getI X fd_X6_124 rfl (show SH[79]? = some (_, 0) from rfl) dX6_readsRow_160 ?_
                  refine G_goto (tgt := 171) X dX6_readsRow_163 (by decide) ?_
                  obtain ⟨I27, hk27, hf⟩ := obd hf
                  refine G_callV (As := [vi (f6_asked ((I21 79 12) - 1)), vi (I21 79 16)]) X (f6_shiftOn_ok E I21 (f6_asked ((I21 79 12) - 1)) (I21 79 16) I27 hk27) cb_X6_102 vi_X6_shiftOn (ci := 5) rfl rfl (show SH[79]? = some (_, 0) from rfl) rfl rfl (Nat.le_of_ble_eq_true rfl) (by decide) (by decide) rfl (Nat.le_refl _) (Nat.le_refl _) dX6_readsRow_171 ?_
                  show G E κ _ _ _ [some (vr 79), some (vi (I9 79 8)), some (vi v7)] [] (mm I27)
                  refine G_aload_n (x := some (79)) X dX6_readsRow_174 rfl rfl ?_
                  obtain ⟨I28, hk28, hf⟩ := obd hf
                  refine G_callV (As := []) X (f6_closeFactor_ok E I27  I28 hk28) cb_X6_157 vi_X6_closeFactor (ci := 5) rfl rfl (show SH[79]? = some (_, 0) from rfl) rfl rfl (Nat.le_of_ble_eq_true rfl) (by decide) (by decide) rfl (Nat.le_refl _) (Nat.le_refl _) dX6_readsRow_175 ?_
                  show G E κ _ _ _ [some (vr 79), some (vi (I9 79 8)), some (vi v7)] [] (mm I28)
                  refine G_iconst (v := 1) X dX6_readsRow_178 rfl ?_
                  obtain ⟨rfl, rfl⟩ := Prod.mk.inj (Option.some.inj hf)
                  exact G_iret X hR rfl (nar_b2i true) dX6_readsRow_179
          · have hf := (if_neg (b2i_f hc11)).symm.trans hf
            refine G_iconst (v := 0) X dX6_readsRow_114 rfl ?_
            obtain ⟨rfl, rfl⟩ := Prod.mk.inj (Option.some.inj hf)
            exact G_iret X hR rfl (nar_b2i false) dX6_readsRow_115
        · have hf := (if_neg hc8).symm.trans hf
          refine G_iload_n (x := v7) X dX6_readsRow_81 rfl rfl ?_
          refine G_bipush (v := 62) X dX6_readsRow_82 rfl ?_
          refine G_icmp_ne (tgt := 174) X dX6_readsRow_84 (by decide) (fun hc29 => ?_) (fun hc29 => ?_)
          · have hf := (if_neg hc29).symm.trans hf
            refine G_aload_n (x := some (79)) X dX6_readsRow_174 rfl rfl ?_
            obtain ⟨I30, hk30, hf⟩ := obd hf
            refine G_callV (As := []) X (f6_closeFactor_ok E I7  I30 hk30) cb_X6_157 vi_X6_closeFactor (ci := 5) rfl rfl (show SH[79]? = some (_, 0) from rfl) rfl rfl (Nat.le_of_ble_eq_true rfl) (by decide) (by decide) rfl (Nat.le_refl _) (Nat.le_refl _) dX6_readsRow_175 ?_
            show G E κ _ _ _ [some (vr 79), some (vi (I 79 8)), some (vi v7)] [] (mm I30)
            refine G_iconst (v := 1) X dX6_readsRow_178 rfl ?_
            obtain ⟨rfl, rfl⟩ := Prod.mk.inj (Option.some.inj hf)
            exact G_iret X hR rfl (nar_b2i true) dX6_readsRow_179
          · have hf := (if_pos hc29).symm.trans hf
            refine G_aload_n (x := some (79)) X dX6_readsRow_87 rfl rfl ?_
            refine G_dup X dX6_readsRow_88 ?_
            refine M_getI X fd_X6_108 rfl (show SH[79]? = some (_, 0) from rfl) dX6_readsRow_89 ?_
            refine G_iconst (v := 1) X dX6_readsRow_92 rfl ?_
            refine G_iadd X dX6_readsRow_93 ?_
            refine M_putI X fd_X6_108 rfl (show SH[79]? = some (_, 0) from rfl) rfl rfl dX6_readsRow_94 ?_
            refine G_aload_n (x := some (79)) X dX6_readsRow_97 rfl rfl ?_
            obtain ⟨⟨v31, I31⟩, hk31, hf⟩ := obd hf
            try dsimp only at hf
            refine G_callV (As := []) X (f6_code_ok E (uI I7 79 8 ((I7 79 8) + 1))  v31 I31 hk31) cb_X6_120 vi_X6_code (ci := 5) rfl rfl (show SH[79]? = some (_, 0) from rfl) rfl rfl (Nat.le_of_ble_eq_true rfl) (by decide) (by decide) rfl (Nat.le_refl _) (Nat.le_refl _) dX6_readsRow_98 ?_
            show G E κ _ _ _ [some (vr 79), some (vi (I 79 8)), some (vi v7)] [vi v31] (mm I31)
            refine G_pop X dX6_readsRow_101 ?_
            refine G_aload_n (x := some (79)) X dX6_readsRow_102 rfl rfl ?_
            refine M_getI X fd_X6_108 rfl (show SH[79]? = some (_, 0) from rfl) dX6_readsRow_103 ?_
            refine G_istore_n X dX6_readsRow_106 rfl (Nat.le_of_ble_eq_true rfl) (ls' := [some (vr 79), some (vi (I31 79 8)), some (vi v7)]) rfl ?_
            refine G_aload_n (x := some (79)) X dX6_readsRow_107 rfl rfl ?_
            obtain ⟨⟨v32, I32⟩, hk32, hf⟩ := obd hf
            try dsimp only at hf
            refine G_callV (As := []) X (f6_readsNumber_ok E I31  v32 I32 hk32) cb_X6_149 vi_X6_readsNumber (ci := 5) rfl rfl (show SH[79]? = some (_, 0) from rfl) rfl rfl (Nat.le_of_ble_eq_true rfl) (by decide) (by decide) rfl (Nat.le_refl _) (Nat.le_refl _) dX6_readsRow_108 ?_
            show G E κ _ _ _ [some (vr 79), some (vi (I31 79 8)), some (vi v7)] [vi (b2i v32)] (mm I32)
            refine G_if_ne (tgt := 116) X dX6_readsRow_111 (by decide) (fun hc33 => ?_) (fun hc33 => ?_)
            · have hf := (if_pos (b2i_t hc33)).symm.trans hf
              refine G_aload_n (x := some (79)) X dX6_readsRow_116 rfl rfl ?_
              refine G_aload_n (x := some (79)) X dX6_readsRow_117 rfl rfl ?_
              refine M_getI X fd_X6_124 rfl (show SH[79]? = some (_, 0) from rfl) dX6_readsRow_118 ?_
              refine G_sipush (v := 600) X dX6_readsRow_121 rfl ?_
              refine G_icmp_le (tgt := 131) X dX6_readsRow_124 (by decide) (fun hc34 => ?_) (fun hc34 => ?_)
              · have hf := (if_pos hc34).symm.trans hf
                refine G_iconst (v := 0) X dX6_readsRow_131 rfl ?_
                refine G_iload_n (x := I31 79 8) X dX6_readsRow_132 rfl rfl ?_
                obtain ⟨I35, hk35, hf⟩ := obd hf
                refine G_callV (As := [vi 0, vi (I31 79 8)]) X (f6_wrong_ok E I32 0 (I31 79 8) I35 hk35) cb_X6_153 vi_X6_wrong (ci := 5) rfl rfl (show SH[79]? = some (_, 0) from rfl) rfl rfl (Nat.le_of_ble_eq_true rfl) (by decide) (by decide) rfl (Nat.le_refl _) (Nat.le_refl _) dX6_readsRow_133 ?_
                show G E κ _ _ _ [some (vr 79), some (vi (I31 79 8)), some (vi v7)] [] (mm I35)
                refine G_aload_n (x := some (79)) X dX6_readsRow_136 rfl rfl ?_
                refine M_getI X fd_X6_142 rfl (show SH[79]? = some (_, 0) from rfl) dX6_readsRow_137 ?_
                refine G_if_eq (tgt := 174) X dX6_readsRow_140 (by decide) (fun hc36 => ?_) (fun hc36 => ?_)
                · have hf := (if_pos hc36).symm.trans hf
                  refine G_aload_n (x := some (79)) X dX6_readsRow_174 rfl rfl ?_
                  obtain ⟨I37, hk37, hf⟩ := obd hf
                  refine G_callV (As := []) X (f6_closeFactor_ok E I35  I37 hk37) cb_X6_157 vi_X6_closeFactor (ci := 5) rfl rfl (show SH[79]? = some (_, 0) from rfl) rfl rfl (Nat.le_of_ble_eq_true rfl) (by decide) (by decide) rfl (Nat.le_refl _) (Nat.le_refl _) dX6_readsRow_175 ?_
                  show G E κ _ _ _ [some (vr 79), some (vi (I31 79 8)), some (vi v7)] [] (mm I37)
                  refine G_iconst (v := 1) X dX6_readsRow_178 rfl ?_
                  obtain ⟨rfl, rfl⟩ := Prod.mk.inj (Option.some.inj hf)
                  exact G_iret X hR rfl (nar_b2i true) dX6_readsRow_179
                · have hf := (if_neg hc36).symm.trans hf
                  refine G_aload_n (x := some (79)) X dX6_readsRow_143 rfl rfl ?_
                  refine G_aload_n (x := some (79)) X dX6_readsRow_144 rfl rfl ?_
                  refine M_getI X fd_X6_139 rfl (show SH[79]? = some (_, 0) from rfl) dX6_readsRow_145 ?_
                  refine G_iconst (v := 1) X dX6_readsRow_148 rfl ?_
                  refine G_isub X dX6_readsRow_149 ?_
                  refine G_callS (As := [vi ((I35 79 12) - 1)]) X (f6_asked_ok E I35 ((I35 79 12) - 1) _ rfl) cb_X6_54 st_X6_asked rfl rfl (Nat.le_of_ble_eq_true rfl) (by decide) (by decide) rfl (Nat.le_refl _) (Nat.le_refl _) dX6_readsRow_150 ?_
                  show G E κ _ _ _ [some (vr 79), some (vi (I31 79 8)), some (vi v7)] [vi (f6_asked ((I35 79 12) - 1)), vr 79] (mm I35)
                  refine G_iload_n (x := v7) X dX6_readsRow_153 rfl rfl ?_
                  refine G_bipush (v := 60) X dX6_readsRow_154 rfl ?_
                  refine G_icmp_ne (tgt := 166) X dX6_readsRow_156 (by decide) (fun hc38 => ?_) (fun hc38 => ?_)
                  · have hf := (if_neg hc38).symm.trans hf
                    refine G_aload_n (x := some (79)) X dX6_readsRow_166 rfl rfl ?_
                    refine M_getI X fd_X6_124 rfl (show SH[79]? = some (_, 0) from rfl) dX6_readsRow_167 ?_
                    refine G_ineg X dX6_readsRow_170 ?_
                    obtain ⟨I39, hk39, hf⟩ := obd hf
                    refine G_callV (As := [vi (f6_asked ((I35 79 12) - 1)), vi (-(I35 79 16))]) X (f6_shiftOn_ok E I35 (f6_asked ((I35 79 12) - 1)) (-(I35 79 16)) I39 hk39) cb_X6_102 vi_X6_shiftOn (ci := 5) rfl rfl (show SH[79]? = some (_, 0) from rfl) rfl rfl (Nat.le_of_ble_eq_true rfl) (by decide) (by decide) rfl (Nat.le_refl _) (Nat.le_refl _) dX6_readsRow_171 ?_
                    show G E κ _ _ _ [some (vr 79), some (vi (I31 79 8)), some (vi v7)] [] (mm I39)
                    refine G_aload_n (x := some (79)) X dX6_readsRow_174 rfl rfl ?_
                    obtain ⟨I40, hk40, hf⟩ := obd hf
                    refine G_callV (As := []) X (f6_closeFactor_ok E I39  I40 hk40) cb_X6_157 vi_X6_closeFactor (ci := 5) rfl rfl (show SH[79]? = some (_, 0) from rfl) rfl rfl (Nat.le_of_ble_eq_true rfl) (by decide) (by decide) rfl (Nat.le_refl _) (Nat.le_refl _) dX6_readsRow_175 ?_
                    show G E κ _ _ _ [some (vr 79), some (vi (I31 79 8)), some (vi v7)] [] (mm I40)
                    refine G_iconst (v := 1) X dX6_readsRow_178 rfl ?_
                    obtain ⟨rfl, rfl⟩ := Prod.mk.inj (Option.some.inj hf)
                    exact G_iret X hR rfl (nar_b2i true) dX6_readsRow_179
                  · have hf := (if_pos hc38).symm.trans hf
                    refine G_aload_n (x := some (79)) X dX6_readsRow_159 rfl rfl ?_
                    refine M_getI X fd_X6_124 rfl (show SH[79]? = some (_, 0) from rfl) dX6_readsRow_160 ?_
                    refine G_goto (tgt := 171) X dX6_readsRow_163 (by decide) ?_
                    obtain ⟨I41, hk41, hf⟩ := obd hf
                    refine G_callV (As := [vi (f6_asked ((I35 79 12) - 1)), vi (I35 79 16)]) X (f6_shiftOn_ok E I35 (f6_asked ((I35 79 12) - 1)) (I35 79 16) I41 hk41) cb_X6_102 vi_X6_shiftOn (ci := 5) rfl rfl (show SH[79]? = some (_, 0) from rfl) rfl rfl (Nat.le_of_ble_eq_true rfl) (by decide) (by decide) rfl (Nat.le_refl _) (Nat.le_refl _) dX6_readsRow_171 ?_
                    show G E κ _ _ _ [some (vr 79), some (vi (I31 79 8)), some (vi v7)] [] (mm I41)
                    refine G_aload_n (x := some (79)) X dX6_readsRow_174 rfl rfl ?_
                    obtain ⟨I42, hk42, hf⟩ := obd hf
                    refine G_callV (As := []) X (f6_closeFactor_ok E I41  I42 hk42) cb_X6_157 vi_X6_closeFactor (ci := 5) rfl rfl (show SH[79]? = some (_, 0) from rfl) rfl rfl (Nat.le_of_ble_eq_true rfl) (by decide) (by decide) rfl (Nat.le_refl _) (Nat.le_refl _) dX6_readsRow_175 ?_
                    show G E κ _ _ _ [some (vr 79), some (vi (I31 79 8)), some (vi v7)] [] (mm I42)
                    refine G_iconst (v := 1) X dX6_readsRow_178 rfl ?_
                    obtain ⟨rfl, rfl⟩ := Prod.mk.inj (Option.some.inj hf)
                    exact G_iret X hR rfl (nar_b2i true) dX6_readsRow_179
              · have hf := (if_neg hc34).symm.trans hf
                refine G_iconst (v := 1) X dX6_readsRow_127 rfl ?_
                refine G_goto (tgt := 132) X dX6_readsRow_128 (by decide) ?_
                refine G_iload_n (x := I31 79 8) X dX6_readsRow_132 rfl rfl ?_
                obtain ⟨I43, hk43, hf⟩ := obd hf
                refine G_callV (As := [vi 1, vi (I31 79 8)]) X (f6_wrong_ok E I32 1 (I31 79 8) I43 hk43) cb_X6_153 vi_X6_wrong (ci := 5) rfl rfl (show SH[79]? = some (_, 0) from rfl) rfl rfl (Nat.le_of_ble_eq_true rfl) (by decide) (by decide) rfl (Nat.le_refl _) (Nat.le_refl _) dX6_readsRow_133 ?_
                show G E κ _ _ _ [some (vr 79), some (vi (I31 79 8)), some (vi v7)] [] (mm I43)
                refine G_aload_n (x := some (79)) X dX6_readsRow_136 rfl rfl ?_
                refine M_getI X fd_X6_142 rfl (show SH[79]? = some (_, 0) from rfl) dX6_readsRow_137 ?_
                refine G_if_eq (tgt := 174) X dX6_readsRow_140 (by decide) (fun hc44 => ?_) (fun hc44 => ?_)
                · have hf := (if_pos hc44).symm.trans hf
                  refine G_aload_n (x := some (79)) X dX6_readsRow_174 rfl rfl ?_
                  obtain ⟨I45, hk45, hf⟩ := obd hf
                  refine G_callV (As := []) X (f6_closeFactor_ok E I43  I45 hk45) cb_X6_157 vi_X6_closeFactor (ci := 5) rfl rfl (show SH[79]? = some (_, 0) from rfl) rfl rfl (Nat.le_of_ble_eq_true rfl) (by decide) (by decide) rfl (Nat.le_refl _) (Nat.le_refl _) dX6_readsRow_175 ?_
                  show G E κ _ _ _ [some (vr 79), some (vi (I31 79 8)), some (vi v7)] [] (mm I45)
                  refine G_iconst (v := 1) X dX6_readsRow_178 rfl ?_
                  obtain ⟨rfl, rfl⟩ := Prod.mk.inj (Option.some.inj hf)
                  exact G_iret X hR rfl (nar_b2i true) dX6_readsRow_179
                · have hf := (if_neg hc44).symm.trans hf
                  refine G_aload_n (x := some (79)) X dX6_readsRow_143 rfl rfl ?_
                  refine G_aload_n (x := some (79)) X dX6_readsRow_144 rfl rfl ?_
                  refine M_getI X fd_X6_139 rfl (show SH[79]? = some (_, 0) from rfl) dX6_readsRow_145 ?_
                  refine G_iconst (v := 1) X dX6_readsRow_148 rfl ?_
                  refine G_isub X dX6_readsRow_149 ?_
                  refine G_callS (As := [vi ((I43 79 12) - 1)]) X (f6_asked_ok E I43 ((I43 79 12) - 1) _ rfl) cb_X6_54 st_X6_asked rfl rfl (Nat.le_of_ble_eq_true rfl) (by decide) (by decide) rfl (Nat.le_refl _) (Nat.le_refl _) dX6_readsRow_150 ?_
                  show G E κ _ _ _ [some (vr 79), some (vi (I31 79 8)), some (vi v7)] [vi (f6_asked ((I43 79 12) - 1)), vr 79] (mm I43)
                  refine G_iload_n (x := v7) X dX6_readsRow_153 rfl rfl ?_
                  refine G_bipush (v := 60) X dX6_readsRow_154 rfl ?_
                  refine G_icmp_ne (tgt := 166) X dX6_readsRow_156 (by decide) (fun hc46 => ?_) (fun hc46 => ?_)
                  · have hf := (if_neg hc46).symm.trans hf
                    refine G_aload_n (x := some (79)) X dX6_readsRow_166 rfl rfl ?_
                    refine M_getI X fd_X6_124 rfl (show SH[79]? = some (_, 0) from rfl) dX6_readsRow_167 ?_
                    refine G_ineg X dX6_readsRow_170 ?_
                    obtain ⟨I47, hk47, hf⟩ := obd hf
                    refine G_callV (As := [vi (f6_asked ((I43 79 12) - 1)), vi (-(I43 79 16))]) X (f6_shiftOn_ok E I43 (f6_asked ((I43 79 12) - 1)) (-(I43 79 16)) I47 hk47) cb_X6_102 vi_X6_shiftOn (ci := 5) rfl rfl (show SH[79]? = some (_, 0) from rfl) rfl rfl (Nat.le_of_ble_eq_true rfl) (by decide) (by decide) rfl (Nat.le_refl _) (Nat.le_refl _) dX6_readsRow_171 ?_
                    show G E κ _ _ _ [some (vr 79), some (vi (I31 79 8)), some (vi v7)] [] (mm I47)
                    refine G_aload_n (x := some (79)) X dX6_readsRow_174 rfl rfl ?_
                    obtain ⟨I48, hk48, hf⟩ := obd hf
                    refine G_callV (As := []) X (f6_closeFactor_ok E I47  I48 hk48) cb_X6_157 vi_X6_closeFactor (ci := 5) rfl rfl (show SH[79]? = some (_, 0) from rfl) rfl rfl (Nat.le_of_ble_eq_true rfl) (by decide) (by decide) rfl (Nat.le_refl _) (Nat.le_refl _) dX6_readsRow_175 ?_
                    show G E κ _ _ _ [some (vr 79), some (vi (I31 79 8)), some (vi v7)] [] (mm I48)
                    refine G_iconst (v := 1) X dX6_readsRow_178 rfl ?_
                    obtain ⟨rfl, rfl⟩ := Prod.mk.inj (Option.some.inj hf)
                    exact G_iret X hR rfl (nar_b2i true) dX6_readsRow_179
                  · have hf := (if_pos hc46).symm.trans hf
                    refine G_aload_n (x := some (79)) X dX6_readsRow_159 rfl rfl ?_
                    refine M_getI X fd_X6_124 rfl (show SH[79]? = some (_, 0) from rfl) dX6_readsRow_160 ?_
                    refine G_goto (tgt := 171) X dX6_readsRow_163 (by decide) ?_
                    obtain ⟨I49, hk49, hf⟩ := obd hf
                    refine G_callV (As := [vi (f6_asked ((I43 79 12) - 1)), vi (I43 79 16)]) X (f6_shiftOn_ok E I43 (f6_asked ((I43 79 12) - 1)) (I43 79 16) I49 hk49) cb_X6_102 vi_X6_shiftOn (ci := 5) rfl rfl (show SH[79]? = some (_, 0) from rfl) rfl rfl (Nat.le_of_ble_eq_true rfl) (by decide) (by decide) rfl (Nat.le_refl _) (Nat.le_refl _) dX6_readsRow_171 ?_
                    show G E κ _ _ _ [some (vr 79), some (vi (I31 79 8)), some (vi v7)] [] (mm I49)
                    refine G_aload_n (x := some (79)) X dX6_readsRow_174 rfl rfl ?_
                    obtain ⟨I50, hk50, hf⟩ := obd hf
                    refine G_callV (As := []) X (f6_closeFactor_ok E I49  I50 hk50) cb_X6_157 vi_X6_closeFactor (ci := 5) rfl rfl (show SH[79]? = some (_, 0) from rfl) rfl rfl (Nat.le_of_ble_eq_true rfl) (by decide) (by decide) rfl (Nat.le_refl _) (Nat.le_refl _) dX6_readsRow_175 ?_
                    show G E κ _ _ _ [some (vr 79), some (vi (I31 79 8)), some (vi v7)] [] (mm I50)
                    refine G_iconst (v := 1) X dX6_readsRow_178 rfl ?_
                    obtain ⟨rfl, rfl⟩ := Prod.mk.inj (Option.some.inj hf)
                    exact G_iret X hR rfl (nar_b2i true) dX6_readsRow_179
            · have hf := (if_neg (b2i_f hc33)).symm.trans hf
              refine G_iconst (v := 0) X dX6_readsRow_114 rfl ?_
              obtain ⟨rfl, rfl⟩ := Prod.mk.inj (Option.some.inj hf)
              exact G_iret X hR rfl (nar_b2i false) dX6_readsRow_115
      · have hf := (if_neg hc6).symm.trans hf
        refine G_aload_n (x := some (79)) X dX6_readsRow_42 rfl rfl ?_
        refine G_aload_n (x := some (79)) X dX6_readsRow_43 rfl rfl ?_
        refine M_getI X fd_X6_124 rfl (show SH[79]? = some (_, 0) from rfl) dX6_readsRow_44 ?_
        refine G_callS (As := [vi (I5 79 16)]) X (f6_at_ok E I5 (I5 79 16) _ rfl) cb_X6_71 st_X6_at rfl rfl (Nat.le_of_ble_eq_true rfl) (by decide) (by decide) rfl (Nat.le_refl _) (Nat.le_refl _) dX6_readsRow_47 ?_
        show G E κ _ _ _ [some (vr 79), some (vi (I 79 8)), none] [vi (f6_at (I5 79 16)), vr 79] (mm I5)
        refine G_aload_n (x := some (79)) X dX6_readsRow_50 rfl rfl ?_
        refine M_getI X fd_X6_139 rfl (show SH[79]? = some (_, 0) from rfl) dX6_readsRow_51 ?_
        refine G_callS (As := [vi (I5 79 12)]) X (f6_asked_ok E I5 (I5 79 12) _ rfl) cb_X6_54 st_X6_asked rfl rfl (Nat.le_of_ble_eq_true rfl) (by decide) (by decide) rfl (Nat.le_refl _) (Nat.le_refl _) dX6_readsRow_54 ?_
        show G E κ _ _ _ [some (vr 79), some (vi (I 79 8)), none] [vi (f6_asked (I5 79 12)), vi (f6_at (I5 79 16)), vr 79] (mm I5)
        obtain ⟨I51, hk51, hf⟩ := obd hf
        refine G_callV (As := [vi (f6_at (I5 79 16)), vi (f6_asked (I5 79 12))]) X (f6_copy_ok E I5 (f6_at (I5 79 16)) (f6_asked (I5 79 12)) I51 hk51) cb_X6_65 vi_X6_copy (ci := 5) rfl rfl (show SH[79]? = some (_, 0) from rfl) rfl rfl (Nat.le_of_ble_eq_true rfl) (by decide) (by decide) rfl (Nat.le_refl _) (Nat.le_refl _) dX6_readsRow_57 ?_
        show G E κ _ _ _ [some (vr 79), some (vi (I 79 8)), none] [] (mm I51)
        refine G_aload_n (x := some (79)) X dX6_readsRow_60 rfl rfl ?_
        refine G_dup X dX6_readsRow_61 ?_
        refine M_getI X fd_X6_139 rfl (show SH[79]? = some (_, 0) from rfl) dX6_readsRow_62 ?_
        refine G_iconst (v := 1) X dX6_readsRow_65 rfl ?_
        refine G_iadd X dX6_readsRow_66 ?_
        refine M_putI X fd_X6_139 rfl (show SH[79]? = some (_, 0) from rfl) rfl rfl dX6_readsRow_67 ?_
        refine G_aload_n (x := some (79)) X dX6_readsRow_70 rfl rfl ?_
        obtain ⟨⟨v52, I52⟩, hk52, hf⟩ := obd hf
        try dsimp only at hf
        refine G_callV (As := []) X (f6_code_ok E (uI I51 79 12 ((I51 79 12) + 1))  v52 I52 hk52) cb_X6_120 vi_X6_code (ci := 5) rfl rfl (show SH[79]? = some (_, 0) from rfl) rfl rfl (Nat.le_of_ble_eq_true rfl) (by decide) (by decide) rfl (Nat.le_refl _) (Nat.le_refl _) dX6_readsRow_71 ?_
        show G E κ _ _ _ [some (vr 79), some (vi (I 79 8)), none] [vi v52] (mm I52)
        refine G_istore_n X dX6_readsRow_74 rfl (Nat.le_of_ble_eq_true rfl) (ls' := [some (vr 79), some (vi (I 79 8)), some (vi v52)]) rfl ?_
        refine G_iload_n (x := v52) X dX6_readsRow_75 rfl rfl ?_
        refine G_bipush (v := 60) X dX6_readsRow_76 rfl ?_
        refine G_icmp_eq (tgt := 87) X dX6_readsRow_78 (by decide) (fun hc53 => ?_) (fun hc53 => ?_)
        · have hf := (if_pos hc53).symm.trans hf
          refine G_aload_n (x := some (79)) X dX6_readsRow_87 rfl rfl ?_
          refine G_dup X dX6_readsRow_88 ?_
          refine M_getI X fd_X6_108 rfl (show SH[79]? = some (_, 0) from rfl) dX6_readsRow_89 ?_
          refine G_iconst (v := 1) X dX6_readsRow_92 rfl ?_
          refine G_iadd X dX6_readsRow_93 ?_
          refine M_putI X fd_X6_108 rfl (show SH[79]? = some (_, 0) from rfl) rfl rfl dX6_readsRow_94 ?_
          refine G_aload_n (x := some (79)) X dX6_readsRow_97 rfl rfl ?_
          obtain ⟨⟨v54, I54⟩, hk54, hf⟩ := obd hf
          try dsimp only at hf
          refine G_callV (As := []) X (f6_code_ok E (uI I52 79 8 ((I52 79 8) + 1))  v54 I54 hk54) cb_X6_120 vi_X6_code (ci := 5) rfl rfl (show SH[79]? = some (_, 0) from rfl) rfl rfl (Nat.le_of_ble_eq_true rfl) (by decide) (by decide) rfl (Nat.le_refl _) (Nat.le_refl _) dX6_readsRow_98 ?_
          show G E κ _ _ _ [some (vr 79), some (vi (I 79 8)), some (vi v52)] [vi v54] (mm I54)
          refine G_pop X dX6_readsRow_101 ?_
          refine G_aload_n (x := some (79)) X dX6_readsRow_102 rfl rfl ?_
          refine M_getI X fd_X6_108 rfl (show SH[79]? = some (_, 0) from rfl) dX6_readsRow_103 ?_
          refine G_istore_n X dX6_readsRow_106 rfl (Nat.le_of_ble_eq_true rfl) (ls' := [some (vr 79), some (vi (I54 79 8)), some (vi v52)]) rfl ?_
          refine G_aload_n (x := some (79)) X dX6_readsRow_107 rfl rfl ?_
          obtain ⟨⟨v55, I55⟩, hk55, hf⟩ := obd hf
          try dsimp only at hf
          refine G_callV (As := []) X (f6_readsNumber_ok E I54  v55 I55 hk55) cb_X6_149 vi_X6_readsNumber (ci := 5) rfl rfl (show SH[79]? = some (_, 0) from rfl) rfl rfl (Nat.le_of_ble_eq_true rfl) (by decide) (by decide) rfl (Nat.le_refl _) (Nat.le_refl _) dX6_readsRow_108 ?_
          show G E κ _ _ _ [some (vr 79), some (vi (I54 79 8)), some (vi v52)] [vi (b2i v55)] (mm I55)
          refine G_if_ne (tgt := 116) X dX6_readsRow_111 (by decide) (fun hc56 => ?_) (fun hc56 => ?_)
          · have hf := (if_pos (b2i_t hc56)).symm.trans hf
            refine G_aload_n (x := some (79)) X dX6_readsRow_116 rfl rfl ?_
            refine G_aload_n (x := some (79)) X dX6_readsRow_117 rfl rfl ?_
            refine M_getI X fd_X6_124 rfl (show SH[79]? = some (_, 0) from rfl) dX6_readsRow_118 ?_
            refine G_sipush (v := 600) X dX6_readsRow_121 rfl ?_
            refine G_icmp_le (tgt := 131) X dX6_readsRow_124 (by decide) (fun hc57 => ?_) (fun hc57 => ?_)
            · have hf := (if_pos hc57).symm.trans hf
              refine G_iconst (v := 0) X dX6_readsRow_131 rfl ?_
              refine G_iload_n (x := I54 79 8) X dX6_readsRow_132 rfl rfl ?_
              obtain ⟨I58, hk58, hf⟩ := obd hf
              refine G_callV (As := [vi 0, vi (I54 79 8)]) X (f6_wrong_ok E I55 0 (I54 79 8) I58 hk58) cb_X6_153 vi_X6_wrong (ci := 5) rfl rfl (show SH[79]? = some (_, 0) from rfl) rfl rfl (Nat.le_of_ble_eq_true rfl) (by decide) (by decide) rfl (Nat.le_refl _) (Nat.le_refl _) dX6_readsRow_133 ?_
              show G E κ _ _ _ [some (vr 79), some (vi (I54 79 8)), some (vi v52)] [] (mm I58)
              refine G_aload_n (x := some (79)) X dX6_readsRow_136 rfl rfl ?_
              refine M_getI X fd_X6_142 rfl (show SH[79]? = some (_, 0) from rfl) dX6_readsRow_137 ?_
              refine G_if_eq (tgt := 174) X dX6_readsRow_140 (by decide) (fun hc59 => ?_) (fun hc59 => ?_)
              · have hf := (if_pos hc59).symm.trans hf
                refine G_aload_n (x := some (79)) X dX6_readsRow_174 rfl rfl ?_
                obtain ⟨I60, hk60, hf⟩ := obd hf
                refine G_callV (As := []) X (f6_closeFactor_ok E I58  I60 hk60) cb_X6_157 vi_X6_closeFactor (ci := 5) rfl rfl (show SH[79]? = some (_, 0) from rfl) rfl rfl (Nat.le_of_ble_eq_true rfl) (by decide) (by decide) rfl (Nat.le_refl _) (Nat.le_refl _) dX6_readsRow_175 ?_
                show G E κ _ _ _ [some (vr 79), some (vi (I54 79 8)), some (vi v52)] [] (mm I60)
                refine G_iconst (v := 1) X dX6_readsRow_178 rfl ?_
                obtain ⟨rfl, rfl⟩ := Prod.mk.inj (Option.some.inj hf)
                exact G_iret X hR rfl (nar_b2i true) dX6_readsRow_179
              · have hf := (if_neg hc59).symm.trans hf
                refine G_aload_n (x := some (79)) X dX6_readsRow_143 rfl rfl ?_
                refine G_aload_n (x := some (79)) X dX6_readsRow_144 rfl rfl ?_
                refine M_getI X fd_X6_139 rfl (show SH[79]? = some (_, 0) from rfl) dX6_readsRow_145 ?_
                refine G_iconst (v := 1) X dX6_readsRow_148 rfl ?_
                refine G_isub X dX6_readsRow_149 ?_
                refine G_callS (As := [vi ((I58 79 12) - 1)]) X (f6_asked_ok E I58 ((I58 79 12) - 1) _ rfl) cb_X6_54 st_X6_asked rfl rfl (Nat.le_of_ble_eq_true rfl) (by decide) (by decide) rfl (Nat.le_refl _) (Nat.le_refl _) dX6_readsRow_150 ?_
                show G E κ _ _ _ [some (vr 79), some (vi (I54 79 8)), some (vi v52)] [vi (f6_asked ((I58 79 12) - 1)), vr 79] (mm I58)
                refine G_iload_n (x := v52) X dX6_readsRow_153 rfl rfl ?_
                refine G_bipush (v := 60) X dX6_readsRow_154 rfl ?_
                refine G_icmp_ne (tgt := 166) X dX6_readsRow_156 (by decide) (fun hc61 => ?_) (fun hc61 => ?_)
                · have hf := (if_neg hc61).symm.trans hf
                  refine G_aload_n (x := some (79)) X dX6_readsRow_166 rfl rfl ?_
                  refine M_getI X fd_X6_124 rfl (show SH[79]? = some (_, 0) from rfl) dX6_readsRow_167 ?_
                  refine G_ineg X dX6_readsRow_170 ?_
                  obtain ⟨I62, hk62, hf⟩ := obd hf
                  refine G_callV (As := [vi (f6_asked ((I58 79 12) - 1)), vi (-(I58 79 16))]) X (f6_shiftOn_ok E I58 (f6_asked ((I58 79 12) - 1)) (-(I58 79 16)) I62 hk62) cb_X6_102 vi_X6_shiftOn (ci := 5) rfl rfl (show SH[79]? = some (_, 0) from rfl) rfl rfl (Nat.le_of_ble_eq_true rfl) (by decide) (by decide) rfl (Nat.le_refl _) (Nat.le_refl _) dX6_readsRow_171 ?_
                  show G E κ _ _ _ [some (vr 79), some (vi (I54 79 8)), some (vi v52)] [] (mm I62)
                  refine G_aload_n (x := some (79)) X dX6_readsRow_174 rfl rfl ?_
                  obtain ⟨I63, hk63, hf⟩ := obd hf
                  refine G_callV (As := []) X (f6_closeFactor_ok E I62  I63 hk63) cb_X6_157 vi_X6_closeFactor (ci := 5) rfl rfl (show SH[79]? = some (_, 0) from rfl) rfl rfl (Nat.le_of_ble_eq_true rfl) (by decide) (by decide) rfl (Nat.le_refl _) (Nat.le_refl _) dX6_readsRow_175 ?_
                  show G E κ _ _ _ [some (vr 79), some (vi (I54 79 8)), some (vi v52)] [] (mm I63)
                  refine G_iconst (v := 1) X dX6_readsRow_178 rfl ?_
                  obtain ⟨rfl, rfl⟩ := Prod.mk.inj (Option.some.inj hf)
                  exact G_iret X hR rfl (nar_b2i true) dX6_readsRow_179
                · have hf := (if_pos hc61).symm.trans hf
                  refine G_aload_n (x := some (79)) X dX6_readsRow_159 rfl rfl ?_
                  refine M_getI X fd_X6_124 rfl (show SH[79]? = some (_, 0) from rfl) dX6_readsRow_160 ?_
                  refine G_goto (tgt := 171) X dX6_readsRow_163 (by decide) ?_
                  obtain ⟨I64, hk64, hf⟩ := obd hf
                  refine G_callV (As := [vi (f6_asked ((I58 79 12) - 1)), vi (I58 79 16)]) X (f6_shiftOn_ok E I58 (f6_asked ((I58 79 12) - 1)) (I58 79 16) I64 hk64) cb_X6_102 vi_X6_shiftOn (ci := 5) rfl rfl (show SH[79]? = some (_, 0) from rfl) rfl rfl (Nat.le_of_ble_eq_true rfl) (by decide) (by decide) rfl (Nat.le_refl _) (Nat.le_refl _) dX6_readsRow_171 ?_
                  show G E κ _ _ _ [some (vr 79), some (vi (I54 79 8)), some (vi v52)] [] (mm I64)
                  refine G_aload_n (x := some (79)) X dX6_readsRow_174 rfl rfl ?_
                  obtain ⟨I65, hk65, hf⟩ := obd hf
                  refine G_callV (As := []) X (f6_closeFactor_ok E I64  I65 hk65) cb_X6_157 vi_X6_closeFactor (ci := 5) rfl rfl (show SH[79]? = some (_, 0) from rfl) rfl rfl (Nat.le_of_ble_eq_true rfl) (by decide) (by decide) rfl (Nat.le_refl _) (Nat.le_refl _) dX6_readsRow_175 ?_
                  show G E κ _ _ _ [some (vr 79), some (vi (I54 79 8)), some (vi v52)] [] (mm I65)
                  refine G_iconst (v := 1) X dX6_readsRow_178 rfl ?_
                  obtain ⟨rfl, rfl⟩ := Prod.mk.inj (Option.some.inj hf)
                  exact G_iret X hR rfl (nar_b2i true) dX6_readsRow_179
            · have hf := (if_neg hc57).symm.trans hf
              refine G_iconst (v := 1) X dX6_readsRow_127 rfl ?_
              refine G_goto (tgt := 132) X dX6_readsRow_128 (by decide) ?_
              refine G_iload_n (x := I54 79 8) X dX6_readsRow_132 rfl rfl ?_
              obtain ⟨I66, hk66, hf⟩ := obd hf
              refine G_callV (As := [vi 1, vi (I54 79 8)]) X (f6_wrong_ok E I55 1 (I54 79 8) I66 hk66) cb_X6_153 vi_X6_wrong (ci := 5) rfl rfl (show SH[79]? = some (_, 0) from rfl) rfl rfl (Nat.le_of_ble_eq_true rfl) (by decide) (by decide) rfl (Nat.le_refl _) (Nat.le_refl _) dX6_readsRow_133 ?_
              show G E κ _ _ _ [some (vr 79), some (vi (I54 79 8)), some (vi v52)] [] (mm I66)
              refine G_aload_n (x := some (79)) X dX6_readsRow_136 rfl rfl ?_
              refine M_getI X fd_X6_142 rfl (show SH[79]? = some (_, 0) from rfl) dX6_readsRow_137 ?_
              refine G_if_eq (tgt := 174) X dX6_readsRow_140 (by decide) (fun hc67 => ?_) (fun hc67 => ?_)
              · have hf := (if_pos hc67).symm.trans hf
                refine G_aload_n (x := some (79)) X dX6_readsRow_174 rfl rfl ?_
                obtain ⟨I68, hk68, hf⟩ := obd hf
                refine G_callV (As := []) X (f6_closeFactor_ok E I66  I68 hk68) cb_X6_157 vi_X6_closeFactor (ci := 5) rfl rfl (show SH[79]? = some (_, 0) from rfl) rfl rfl (Nat.le_of_ble_eq_true rfl) (by decide) (by decide) rfl (Nat.le_refl _) (Nat.le_refl _) dX6_readsRow_175 ?_
                show G E κ _ _ _ [some (vr 79), some (vi (I54 79 8)), some (vi v52)] [] (mm I68)
                refine G_iconst (v := 1) X dX6_readsRow_178 rfl ?_
                obtain ⟨rfl, rfl⟩ := Prod.mk.inj (Option.some.inj hf)
                exact G_iret X hR rfl (nar_b2i true) dX6_readsRow_179
              · have hf := (if_neg hc67).symm.trans hf
                refine G_aload_n (x := some (79)) X dX6_readsRow_143 rfl rfl ?_
                refine G_aload_n (x := some (79)) X dX6_readsRow_144 rfl rfl ?_
                refine M_getI X fd_X6_139 rfl (show SH[79]? = some (_, 0) from rfl) dX6_readsRow_145 ?_
                refine G_iconst (v := 1) X dX6_readsRow_148 rfl ?_
                refine G_isub X dX6_readsRow_149 ?_
                refine G_callS (As := [vi ((I66 79 12) - 1)]) X (f6_asked_ok E I66 ((I66 79 12) - 1) _ rfl) cb_X6_54 st_X6_asked rfl rfl (Nat.le_of_ble_eq_true rfl) (by decide) (by decide) rfl (Nat.le_refl _) (Nat.le_refl _) dX6_readsRow_150 ?_
                show G E κ _ _ _ [some (vr 79), some (vi (I54 79 8)), some (vi v52)] [vi (f6_asked ((I66 79 12) - 1)), vr 79] (mm I66)
                refine G_iload_n (x := v52) X dX6_readsRow_153 rfl rfl ?_
                refine G_bipush (v := 60) X dX6_readsRow_154 rfl ?_
                refine G_icmp_ne (tgt := 166) X dX6_readsRow_156 (by decide) (fun hc69 => ?_) (fun hc69 => ?_)
                · have hf := (if_neg hc69).symm.trans hf
                  refine G_aload_n (x := some (79)) X dX6_readsRow_166 rfl rfl ?_
                  refine M_getI X fd_X6_124 rfl (show SH[79]? = some (_, 0) from rfl) dX6_readsRow_167 ?_
                  refine G_ineg X dX6_readsRow_170 ?_
                  obtain ⟨I70, hk70, hf⟩ := obd hf
                  refine G_callV (As := [vi (f6_asked ((I66 79 12) - 1)), vi (-(I66 79 16))]) X (f6_shiftOn_ok E I66 (f6_asked ((I66 79 12) - 1)) (-(I66 79 16)) I70 hk70) cb_X6_102 vi_X6_shiftOn (ci := 5) rfl rfl (show SH[79]? = some (_, 0) from rfl) rfl rfl (Nat.le_of_ble_eq_true rfl) (by decide) (by decide) rfl (Nat.le_refl _) (Nat.le_refl _) dX6_readsRow_171 ?_
                  show G E κ _ _ _ [some (vr 79), some (vi (I54 79 8)), some (vi v52)] [] (mm I70)
                  refine G_aload_n (x := some (79)) X dX6_readsRow_174 rfl rfl ?_
                  obtain ⟨I71, hk71, hf⟩ := obd hf
                  refine G_callV (As := []) X (f6_closeFactor_ok E I70  I71 hk71) cb_X6_157 vi_X6_closeFactor (ci := 5) rfl rfl (show SH[79]? = some (_, 0) from rfl) rfl rfl (Nat.le_of_ble_eq_true rfl) (by decide) (by decide) rfl (Nat.le_refl _) (Nat.le_refl _) dX6_readsRow_175 ?_
                  show G E κ _ _ _ [some (vr 79), some (vi (I54 79 8)), some (vi v52)] [] (mm I71)
                  refine G_iconst (v := 1) X dX6_readsRow_178 rfl ?_
                  obtain ⟨rfl, rfl⟩ := Prod.mk.inj (Option.some.inj hf)
                  exact G_iret X hR rfl (nar_b2i true) dX6_readsRow_179
                · have hf := (if_pos hc69).symm.trans hf
                  refine G_aload_n (x := some (79)) X dX6_readsRow_159 rfl rfl ?_
                  refine M_getI X fd_X6_124 rfl (show SH[79]? = some (_, 0) from rfl) dX6_readsRow_160 ?_
                  refine G_goto (tgt := 171) X dX6_readsRow_163 (by decide) ?_
                  obtain ⟨I72, hk72, hf⟩ := obd hf
                  refine G_callV (As := [vi (f6_asked ((I66 79 12) - 1)), vi (I66 79 16)]) X (f6_shiftOn_ok E I66 (f6_asked ((I66 79 12) - 1)) (I66 79 16) I72 hk72) cb_X6_102 vi_X6_shiftOn (ci := 5) rfl rfl (show SH[79]? = some (_, 0) from rfl) rfl rfl (Nat.le_of_ble_eq_true rfl) (by decide) (by decide) rfl (Nat.le_refl _) (Nat.le_refl _) dX6_readsRow_171 ?_
                  show G E κ _ _ _ [some (vr 79), some (vi (I54 79 8)), some (vi v52)] [] (mm I72)
                  refine G_aload_n (x := some (79)) X dX6_readsRow_174 rfl rfl ?_
                  obtain ⟨I73, hk73, hf⟩ := obd hf
                  refine G_callV (As := []) X (f6_closeFactor_ok E I72  I73 hk73) cb_X6_157 vi_X6_closeFactor (ci := 5) rfl rfl (show SH[79]? = some (_, 0) from rfl) rfl rfl (Nat.le_of_ble_eq_true rfl) (by decide) (by decide) rfl (Nat.le_refl _) (Nat.le_refl _) dX6_readsRow_175 ?_
                  show G E κ _ _ _ [some (vr 79), some (vi (I54 79 8)), some (vi v52)] [] (mm I73)
                  refine G_iconst (v := 1) X dX6_readsRow_178 rfl ?_
                  obtain ⟨rfl, rfl⟩ := Prod.mk.inj (Option.some.inj hf)
                  exact G_iret X hR rfl (nar_b2i true) dX6_readsRow_179
          · have hf := (if_neg (b2i_f hc56)).symm.trans hf
            refine G_iconst (v := 0) X dX6_readsRow_114 rfl ?_
            obtain ⟨rfl, rfl⟩ := Prod.mk.inj (Option.some.inj hf)
            exact G_iret X hR rfl (nar_b2i false) dX6_readsRow_115
        · have hf := (if_neg hc53).symm.trans hf
          refine G_iload_n (x := v52) X dX6_readsRow_81 rfl rfl ?_
          refine G_bipush (v := 62) X dX6_readsRow_82 rfl ?_
          refine G_icmp_ne (tgt := 174) X dX6_readsRow_84 (by decide) (fun hc74 => ?_) (fun hc74 => ?_)
          · have hf := (if_neg hc74).symm.trans hf
            refine G_aload_n (x := some (79)) X dX6_readsRow_174 rfl rfl ?_
            obtain ⟨I75, hk75, hf⟩ := obd hf
            refine G_callV (As := []) X (f6_closeFactor_ok E I52  I75 hk75) cb_X6_157 vi_X6_closeFactor (ci := 5) rfl rfl (show SH[79]? = some (_, 0) from rfl) rfl rfl (Nat.le_of_ble_eq_true rfl) (by decide) (by decide) rfl (Nat.le_refl _) (Nat.le_refl _) dX6_readsRow_175 ?_
            show G E κ _ _ _ [some (vr 79), some (vi (I 79 8)), some (vi v52)] [] (mm I75)
            refine G_iconst (v := 1) X dX6_readsRow_178 rfl ?_
            obtain ⟨rfl, rfl⟩ := Prod.mk.inj (Option.some.inj hf)
            exact G_iret X hR rfl (nar_b2i true) dX6_readsRow_179
          · have hf := (if_pos hc74).symm.trans hf
            refine G_aload_n (x := some (79)) X dX6_readsRow_87 rfl rfl ?_
            refine G_dup X dX6_readsRow_88 ?_
            refine M_getI X fd_X6_108 rfl (show SH[79]? = some (_, 0) from rfl) dX6_readsRow_89 ?_
            refine G_iconst (v := 1) X dX6_readsRow_92 rfl ?_
            refine G_iadd X dX6_readsRow_93 ?_
            refine M_putI X fd_X6_108 rfl (show SH[79]? = some (_, 0) from rfl) rfl rfl dX6_readsRow_94 ?_
            refine G_aload_n (x := some (79)) X dX6_readsRow_97 rfl rfl ?_
            obtain ⟨⟨v76, I76⟩, hk76, hf⟩ := obd hf
            try dsimp only at hf
            refine G_callV (As := []) X (f6_code_ok E (uI I52 79 8 ((I52 79 8) + 1))  v76 I76 hk76) cb_X6_120 vi_X6_code (ci := 5) rfl rfl (show SH[79]? = some (_, 0) from rfl) rfl rfl (Nat.le_of_ble_eq_true rfl) (by decide) (by decide) rfl (Nat.le_refl _) (Nat.le_refl _) dX6_readsRow_98 ?_
            show G E κ _ _ _ [some (vr 79), some (vi (I 79 8)), some (vi v52)] [vi v76] (mm I76)
            refine G_pop X dX6_readsRow_101 ?_
            refine G_aload_n (x := some (79)) X dX6_readsRow_102 rfl rfl ?_
            refine M_getI X fd_X6_108 rfl (show SH[79]? = some (_, 0) from rfl) dX6_readsRow_103 ?_
            refine G_istore_n X dX6_readsRow_106 rfl (Nat.le_of_ble_eq_true rfl) (ls' := [some (vr 79), some (vi (I76 79 8)), some (vi v52)]) rfl ?_
            refine G_aload_n (x := some (79)) X dX6_readsRow_107 rfl rfl ?_
            obtain ⟨⟨v77, I77⟩, hk77, hf⟩ := obd hf
            try dsimp only at hf
            refine G_callV (As := []) X (f6_readsNumber_ok E I76  v77 I77 hk77) cb_X6_149 vi_X6_readsNumber (ci := 5) rfl rfl (show SH[79]? = some (_, 0) from rfl) rfl rfl (Nat.le_of_ble_eq_true rfl) (by decide) (by decide) rfl (Nat.le_refl _) (Nat.le_refl _) dX6_readsRow_108 ?_
            show G E κ _ _ _ [some (vr 79), some (vi (I76 79 8)), some (vi v52)] [vi (b2i v77)] (mm I77)
            refine G_if_ne (tgt := 116) X dX6_readsRow_111 (by decide) (fun hc78 => ?_) (fun hc78 => ?_)
            · have hf := (if_pos (b2i_t hc78)).symm.trans hf
              refine G_aload_n (x := some (79)) X dX6_readsRow_116 rfl rfl ?_
              refine G_aload_n (x := some (79)) X dX6_readsRow_117 rfl rfl ?_
              refine M_getI X fd_X6_124 rfl (show SH[79]? = some (_, 0) from rfl) dX6_readsRow_118 ?_
              refine G_sipush (v := 600) X dX6_readsRow_121 rfl ?_
              refine G_icmp_le (tgt := 131) X dX6_readsRow_124 (by decide) (fun hc79 => ?_) (fun hc79 => ?_)
              · have hf := (if_pos hc79).symm.trans hf
                refine G_iconst (v := 0) X dX6_readsRow_131 rfl ?_
                refine G_iload_n (x := I76 79 8) X dX6_readsRow_132 rfl rfl ?_
                obtain ⟨I80, hk80, hf⟩ := obd hf
                refine G_callV (As := [vi 0, vi (I76 79 8)]) X (f6_wrong_ok E I77 0 (I76 79 8) I80 hk80) cb_X6_153 vi_X6_wrong (ci := 5) rfl rfl (show SH[79]? = some (_, 0) from rfl) rfl rfl (Nat.le_of_ble_eq_true rfl) (by decide) (by decide) rfl (Nat.le_refl _) (Nat.le_refl _) dX6_readsRow_133 ?_
                show G E κ _ _ _ [some (vr 79), some (vi (I76 79 8)), some (vi v52)] [] (mm I80)
                refine G_aload_n (x := some (79)) X dX6_readsRow_136 rfl rfl ?_
                refine M_getI X fd_X6_142 rfl (show SH[79]? = some (_, 0) from rfl) dX6_readsRow_137 ?_
                refine G_if_eq (tgt := 174) X dX6_readsRow_140 (by decide) (fun hc81 => ?_) (fun hc81 => ?_)
                · have hf := (if_pos hc81).symm.trans hf
                  refine G_aload_n (x := some (79)) X dX6_readsRow_174 rfl rfl ?_
                  obtain ⟨I82, hk82, hf⟩ := obd hf
                  refine G_callV (As := []) X (f6_closeFactor_ok E I80  I82 hk82) cb_X6_157 vi_X6_closeFactor (ci := 5) rfl rfl (show SH[79]? = some (_, 0) from rfl) rfl rfl (Nat.le_of_ble_eq_true rfl) (by decide) (by decide) rfl (Nat.le_refl _) (Nat.le_refl _) dX6_readsRow_175 ?_
                  show G E κ _ _ _ [some (vr 79), some (vi (I76 79 8)), some (vi v52)] [] (mm I82)
                  refine G_iconst (v := 1) X dX6_readsRow_178 rfl ?_
                  obtain ⟨rfl, rfl⟩ := Prod.mk.inj (Option.some.inj hf)
                  exact G_iret X hR rfl (nar_b2i true) dX6_readsRow_179
                · have hf := (if_neg hc81).symm.trans hf
                  refine G_aload_n (x := some (79)) X dX6_readsRow_143 rfl rfl ?_
                  refine G_aload_n (x := some (79)) X dX6_readsRow_144 rfl rfl ?_
                  refine M_getI X fd_X6_139 rfl (show SH[79]? = some (_, 0) from rfl) dX6_readsRow_145 ?_
                  refine G_iconst (v := 1) X dX6_readsRow_148 rfl ?_
                  refine G_isub X dX6_readsRow_149 ?_
                  refine G_callS (As := [vi ((I80 79 12) - 1)]) X (f6_asked_ok E I80 ((I80 79 12) - 1) _ rfl) cb_X6_54 st_X6_asked rfl rfl (Nat.le_of_ble_eq_true rfl) (by decide) (by decide) rfl (Nat.le_refl _) (Nat.le_refl _) dX6_readsRow_150 ?_
                  show G E κ _ _ _ [some (vr 79), some (vi (I76 79 8)), some (vi v52)] [vi (f6_asked ((I80 79 12) - 1)), vr 79] (mm I80)
                  refine G_iload_n (x := v52) X dX6_readsRow_153 rfl rfl ?_
                  refine G_bipush (v := 60) X dX6_readsRow_154 rfl ?_
                  refine G_icmp_ne (tgt := 166) X dX6_readsRow_156 (by decide) (fun hc83 => ?_) (fun hc83 => ?_)
                  · have hf := (if_neg hc83).symm.trans hf
                    refine G_aload_n (x := some (79)) X dX6_readsRow_166 rfl rfl ?_
                    refine M_getI X fd_X6_124 rfl (show SH[79]? = some (_, 0) from rfl) dX6_readsRow_167 ?_
                    refine G_ineg X dX6_readsRow_170 ?_
                    obtain ⟨I84, hk84, hf⟩ := obd hf
                    refine G_callV (As := [vi (f6_asked ((I80 79 12) - 1)), vi (-(I80 79 16))]) X (f6_shiftOn_ok E I80 (f6_asked ((I80 79 12) - 1)) (-(I80 79 16)) I84 hk84) cb_X6_102 vi_X6_shiftOn (ci := 5) rfl rfl (show SH[79]? = some (_, 0) from rfl) rfl rfl (Nat.le_of_ble_eq_true rfl) (by decide) (by decide) rfl (Nat.le_refl _) (Nat.le_refl _) dX6_readsRow_171 ?_
                    show G E κ _ _ _ [some (vr 79), some (vi (I76 79 8)), some (vi v52)] [] (mm I84)
                    refine G_aload_n (x := some (79)) X dX6_readsRow_174 rfl rfl ?_
                    obtain ⟨I85, hk85, hf⟩ := obd hf
                    refine G_callV (As := []) X (f6_closeFactor_ok E I84  I85 hk85) cb_X6_157 vi_X6_closeFactor (ci := 5) rfl rfl (show SH[79]? = some (_, 0) from rfl) rfl rfl (Nat.le_of_ble_eq_true rfl) (by decide) (by decide) rfl (Nat.le_refl _) (Nat.le_refl _) dX6_readsRow_175 ?_
                    show G E κ _ _ _ [some (vr 79), some (vi (I76 79 8)), some (vi v52)] [] (mm I85)
                    refine G_iconst (v := 1) X dX6_readsRow_178 rfl ?_
                    obtain ⟨rfl, rfl⟩ := Prod.mk.inj (Option.some.inj hf)
                    exact G_iret X hR rfl (nar_b2i true) dX6_readsRow_179
                  · have hf := (if_pos hc83).symm.trans hf
                    refine G_aload_n (x := some (79)) X dX6_readsRow_159 rfl rfl ?_
                    refine M_getI X fd_X6_124 rfl (show SH[79]? = some (_, 0) from rfl) dX6_readsRow_160 ?_
                    refine G_goto (tgt := 171) X dX6_readsRow_163 (by decide) ?_
                    obtain ⟨I86, hk86, hf⟩ := obd hf
                    refine G_callV (As := [vi (f6_asked ((I80 79 12) - 1)), vi (I80 79 16)]) X (f6_shiftOn_ok E I80 (f6_asked ((I80 79 12) - 1)) (I80 79 16) I86 hk86) cb_X6_102 vi_X6_shiftOn (ci := 5) rfl rfl (show SH[79]? = some (_, 0) from rfl) rfl rfl (Nat.le_of_ble_eq_true rfl) (by decide) (by decide) rfl (Nat.le_refl _) (Nat.le_refl _) dX6_readsRow_171 ?_
                    show G E κ _ _ _ [some (vr 79), some (vi (I76 79 8)), some (vi v52)] [] (mm I86)
                    refine G_aload_n (x := some (79)) X dX6_readsRow_174 rfl rfl ?_
                    obtain ⟨I87, hk87, hf⟩ := obd hf
                    refine G_callV (As := []) X (f6_closeFactor_ok E I86  I87 hk87) cb_X6_157 vi_X6_closeFactor (ci := 5) rfl rfl (show SH[79]? = some (_, 0) from rfl) rfl rfl (Nat.le_of_ble_eq_true rfl) (by decide) (by decide) rfl (Nat.le_refl _) (Nat.le_refl _) dX6_readsRow_175 ?_
                    show G E κ _ _ _ [some (vr 79), some (vi (I76 79 8)), some (vi v52)] [] (mm I87)
                    refine G_iconst (v := 1) X dX6_readsRow_178 rfl ?_
                    obtain ⟨rfl, rfl⟩ := Prod.mk.inj (Option.some.inj hf)
                    exact G_iret X hR rfl (nar_b2i true) dX6_readsRow_179
              · have hf := (if_neg hc79).symm.trans hf
                refine G_iconst (v := 1) X dX6_readsRow_127 rfl ?_
                refine G_goto (tgt := 132) X dX6_readsRow_128 (by decide) ?_
                refine G_iload_n (x := I76 79 8) X dX6_readsRow_132 rfl rfl ?_
                obtain ⟨I88, hk88, hf⟩ := obd hf
                refine G_callV (As := [vi 1, vi (I76 79 8)]) X (f6_wrong_ok E I77 1 (I76 79 8) I88 hk88) cb_X6_153 vi_X6_wrong (ci := 5) rfl rfl (show SH[79]? = some (_, 0) from rfl) rfl rfl (Nat.le_of_ble_eq_true rfl) (by decide) (by decide) rfl (Nat.le_refl _) (Nat.le_refl _) dX6_readsRow_133 ?_
                show G E κ _ _ _ [some (vr 79), some (vi (I76 79 8)), some (vi v52)] [] (mm I88)
                refine G_aload_n (x := some (79)) X dX6_readsRow_136 rfl rfl ?_
                refine M_getI X fd_X6_142 rfl (show SH[79]? = some (_, 0) from rfl) dX6_readsRow_137 ?_
                refine G_if_eq (tgt := 174) X dX6_readsRow_140 (by decide) (fun hc89 => ?_) (fun hc89 => ?_)
                · have hf := (if_pos hc89).symm.trans hf
                  refine G_aload_n (x := some (79)) X dX6_readsRow_174 rfl rfl ?_
                  obtain ⟨I90, hk90, hf⟩ := obd hf
                  refine G_callV (As := []) X (f6_closeFactor_ok E I88  I90 hk90) cb_X6_157 vi_X6_closeFactor (ci := 5) rfl rfl (show SH[79]? = some (_, 0) from rfl) rfl rfl (Nat.le_of_ble_eq_true rfl) (by decide) (by decide) rfl (Nat.le_refl _) (Nat.le_refl _) dX6_readsRow_175 ?_
                  show G E κ _ _ _ [some (vr 79), some (vi (I76 79 8)), some (vi v52)] [] (mm I90)
                  refine G_iconst (v := 1) X dX6_readsRow_178 rfl ?_
                  obtain ⟨rfl, rfl⟩ := Prod.mk.inj (Option.some.inj hf)
                  exact G_iret X hR rfl (nar_b2i true) dX6_readsRow_179
                · have hf := (if_neg hc89).symm.trans hf
                  refine G_aload_n (x := some (79)) X dX6_readsRow_143 rfl rfl ?_
                  refine G_aload_n (x := some (79)) X dX6_readsRow_144 rfl rfl ?_
                  refine M_getI X fd_X6_139 rfl (show SH[79]? = some (_, 0) from rfl) dX6_readsRow_145 ?_
                  refine G_iconst (v := 1) X dX6_readsRow_148 rfl ?_
                  refine G_isub X dX6_readsRow_149 ?_
                  refine G_callS (As := [vi ((I88 79 12) - 1)]) X (f6_asked_ok E I88 ((I88 79 12) - 1) _ rfl) cb_X6_54 st_X6_asked rfl rfl (Nat.le_of_ble_eq_true rfl) (by decide) (by decide) rfl (Nat.le_refl _) (Nat.le_refl _) dX6_readsRow_150 ?_
                  show G E κ _ _ _ [some (vr 79), some (vi (I76 79 8)), some (vi v52)] [vi (f6_asked ((I88 79 12) - 1)), vr 79] (mm I88)
                  refine G_iload_n (x := v52) X dX6_readsRow_153 rfl rfl ?_
                  refine G_bipush (v := 60) X dX6_readsRow_154 rfl ?_
                  refine G_icmp_ne (tgt := 166) X dX6_readsRow_156 (by decide) (fun hc91 => ?_) (fun hc91 => ?_)
                  · have hf := (if_neg hc91).symm.trans hf
                    refine G_aload_n (x := some (79)) X dX6_readsRow_166 rfl rfl ?_
                    refine M_getI X fd_X6_124 rfl (show SH[79]? = some (_, 0) from rfl) dX6_readsRow_167 ?_
                    refine G_ineg X dX6_readsRow_170 ?_
                    obtain ⟨I92, hk92, hf⟩ := obd hf
                    refine G_callV (As := [vi (f6_asked ((I88 79 12) - 1)), vi (-(I88 79 16))]) X (f6_shiftOn_ok E I88 (f6_asked ((I88 79 12) - 1)) (-(I88 79 16)) I92 hk92) cb_X6_102 vi_X6_shiftOn (ci := 5) rfl rfl (show SH[79]? = some (_, 0) from rfl) rfl rfl (Nat.le_of_ble_eq_true rfl) (by decide) (by decide) rfl (Nat.le_refl _) (Nat.le_refl _) dX6_readsRow_171 ?_
                    show G E κ _ _ _ [some (vr 79), some (vi (I76 79 8)), some (vi v52)] [] (mm I92)
                    refine G_aload_n (x := some (79)) X dX6_readsRow_174 rfl rfl ?_
                    obtain ⟨I93, hk93, hf⟩ := obd hf
                    refine G_callV (As := []) X (f6_closeFactor_ok E I92  I93 hk93) cb_X6_157 vi_X6_closeFactor (ci := 5) rfl rfl (show SH[79]? = some (_, 0) from rfl) rfl rfl (Nat.le_of_ble_eq_true rfl) (by decide) (by decide) rfl (Nat.le_refl _) (Nat.le_refl _) dX6_readsRow_175 ?_
                    show G E κ _ _ _ [some (vr 79), some (vi (I76 79 8)), some (vi v52)] [] (mm I93)
                    refine G_iconst (v := 1) X dX6_readsRow_178 rfl ?_
                    obtain ⟨rfl, rfl⟩ := Prod.mk.inj (Option.some.inj hf)
                    exact G_iret X hR rfl (nar_b2i true) dX6_readsRow_179
                  · have hf := (if_pos hc91).symm.trans hf
                    refine G_aload_n (x := some (79)) X dX6_readsRow_159 rfl rfl ?_
                    refine M_getI X fd_X6_124 rfl (show SH[79]? = some (_, 0) from rfl) dX6_readsRow_160 ?_
                    refine G_goto (tgt := 171) X dX6_readsRow_163 (by decide) ?_
                    obtain ⟨I94, hk94, hf⟩ := obd hf
                    refine G_callV (As := [vi (f6_asked ((I88 79 12) - 1)), vi (I88 79 16)]) X (f6_shiftOn_ok E I88 (f6_asked ((I88 79 12) - 1)) (I88 79 16) I94 hk94) cb_X6_102 vi_X6_shiftOn (ci := 5) rfl rfl (show SH[79]? = some (_, 0) from rfl) rfl rfl (Nat.le_of_ble_eq_true rfl) (by decide) (by decide) rfl (Nat.le_refl _) (Nat.le_refl _) dX6_readsRow_171 ?_
                    show G E κ _ _ _ [some (vr 79), some (vi (I76 79 8)), some (vi v52)] [] (mm I94)
                    refine G_aload_n (x := some (79)) X dX6_readsRow_174 rfl rfl ?_
                    obtain ⟨I95, hk95, hf⟩ := obd hf
                    refine G_callV (As := []) X (f6_closeFactor_ok E I94  I95 hk95) cb_X6_157 vi_X6_closeFactor (ci := 5) rfl rfl (show SH[79]? = some (_, 0) from rfl) rfl rfl (Nat.le_of_ble_eq_true rfl) (by decide) (by decide) rfl (Nat.le_refl _) (Nat.le_refl _) dX6_readsRow_175 ?_
                    show G E κ _ _ _ [some (vr 79), some (vi (I76 79 8)), some (vi v52)] [] (mm I95)
                    refine G_iconst (v := 1) X dX6_readsRow_178 rfl ?_
                    obtain ⟨rfl, rfl⟩ := Prod.mk.inj (Option.some.inj hf)
                    exact G_iret X hR rfl (nar_b2i true) dX6_readsRow_179
            · have hf := (if_neg (b2i_f hc78)).symm.trans hf
              refine G_iconst (v := 0) X dX6_readsRow_114 rfl ?_
              obtain ⟨rfl, rfl⟩ := Prod.mk.inj (Option.some.inj hf)
              exact G_iret X hR rfl (nar_b2i false) dX6_readsRow_115
    · have hf := (if_neg (b2i_f hc4)).symm.trans hf
      refine G_iconst (v := 1) X dX6_readsRow_26 rfl ?_
      refine G_goto (tgt := 31) X dX6_readsRow_27 (by decide) ?_
      refine G_iload_n (x := I 79 8) X dX6_readsRow_31 rfl rfl ?_
      obtain ⟨I96, hk96, hf⟩ := obd hf
      refine G_callV (As := [vi 1, vi (I 79 8)]) X (f6_wrong_ok E I1 1 (I 79 8) I96 hk96) cb_X6_153 vi_X6_wrong (ci := 5) rfl rfl (show SH[79]? = some (_, 0) from rfl) rfl rfl (Nat.le_of_ble_eq_true rfl) (by decide) (by decide) rfl (Nat.le_refl _) (Nat.le_refl _) dX6_readsRow_32 ?_
      show G E κ _ _ _ [some (vr 79), some (vi (I 79 8)), none] [] (mm I96)
      refine G_aload_n (x := some (79)) X dX6_readsRow_35 rfl rfl ?_
      refine M_getI X fd_X6_142 rfl (show SH[79]? = some (_, 0) from rfl) dX6_readsRow_36 ?_
      refine G_if_eq (tgt := 60) X dX6_readsRow_39 (by decide) (fun hc97 => ?_) (fun hc97 => ?_)
      · have hf := (if_pos hc97).symm.trans hf
        refine G_aload_n (x := some (79)) X dX6_readsRow_60 rfl rfl ?_
        refine G_dup X dX6_readsRow_61 ?_
        refine M_getI X fd_X6_139 rfl (show SH[79]? = some (_, 0) from rfl) dX6_readsRow_62 ?_
        refine G_iconst (v := 1) X dX6_readsRow_65 rfl ?_
        refine G_iadd X dX6_readsRow_66 ?_
        refine M_putI X fd_X6_139 rfl (show SH[79]? = some (_, 0) from rfl) rfl rfl dX6_readsRow_67 ?_
        refine G_aload_n (x := some (79)) X dX6_readsRow_70 rfl rfl ?_
        obtain ⟨⟨v98, I98⟩, hk98, hf⟩ := obd hf
        try dsimp only at hf
        refine G_callV (As := []) X (f6_code_ok E (uI I96 79 12 ((I96 79 12) + 1))  v98 I98 hk98) cb_X6_120 vi_X6_code (ci := 5) rfl rfl (show SH[79]? = some (_, 0) from rfl) rfl rfl (Nat.le_of_ble_eq_true rfl) (by decide) (by decide) rfl (Nat.le_refl _) (Nat.le_refl _) dX6_readsRow_71 ?_
        show G E κ _ _ _ [some (vr 79), some (vi (I 79 8)), none] [vi v98] (mm I98)
        refine G_istore_n X dX6_readsRow_74 rfl (Nat.le_of_ble_eq_true rfl) (ls' := [some (vr 79), some (vi (I 79 8)), some (vi v98)]) rfl ?_
        refine G_iload_n (x := v98) X dX6_readsRow_75 rfl rfl ?_
        refine G_bipush (v := 60) X dX6_readsRow_76 rfl ?_
        refine G_icmp_eq (tgt := 87) X dX6_readsRow_78 (by decide) (fun hc99 => ?_) (fun hc99 => ?_)
        · have hf := (if_pos hc99).symm.trans hf
          refine G_aload_n (x := some (79)) X dX6_readsRow_87 rfl rfl ?_
          refine G_dup X dX6_readsRow_88 ?_
          refine M_getI X fd_X6_108 rfl (show SH[79]? = some (_, 0) from rfl) dX6_readsRow_89 ?_
          refine G_iconst (v := 1) X dX6_readsRow_92 rfl ?_
          refine G_iadd X dX6_readsRow_93 ?_
          refine M_putI X fd_X6_108 rfl (show SH[79]? = some (_, 0) from rfl) rfl rfl dX6_readsRow_94 ?_
          refine G_aload_n (x := some (79)) X dX6_readsRow_97 rfl rfl ?_
          obtain ⟨⟨v100, I100⟩, hk100, hf⟩ := obd hf
          try dsimp only at hf
          refine G_callV (As := []) X (f6_code_ok E (uI I98 79 8 ((I98 79 8) + 1))  v100 I100 hk100) cb_X6_120 vi_X6_code (ci := 5) rfl rfl (show SH[79]? = some (_, 0) from rfl) rfl rfl (Nat.le_of_ble_eq_true rfl) (by decide) (by decide) rfl (Nat.le_refl _) (Nat.le_refl _) dX6_readsRow_98 ?_
          show G E κ _ _ _ [some (vr 79), some (vi (I 79 8)), some (vi v98)] [vi v100] (mm I100)
          refine G_pop X dX6_readsRow_101 ?_
          refine G_aload_n (x := some (79)) X dX6_readsRow_102 rfl rfl ?_
          refine M_getI X fd_X6_108 rfl (show SH[79]? = some (_, 0) from rfl) dX6_readsRow_103 ?_
          refine G_istore_n X dX6_readsRow_106 rfl (Nat.le_of_ble_eq_true rfl) (ls' := [some (vr 79), some (vi (I100 79 8)), some (vi v98)]) rfl ?_
          refine G_aload_n (x := some (79)) X dX6_readsRow_107 rfl rfl ?_
          obtain ⟨⟨v101, I101⟩, hk101, hf⟩ := obd hf
          try dsimp only at hf
          refine G_callV (As := []) X (f6_readsNumber_ok E I100  v101 I101 hk101) cb_X6_149 vi_X6_readsNumber (ci := 5) rfl rfl (show SH[79]? = some (_, 0) from rfl) rfl rfl (Nat.le_of_ble_eq_true rfl) (by decide) (by decide) rfl (Nat.le_refl _) (Nat.le_refl _) dX6_readsRow_108 ?_
          show G E κ _ _ _ [some (vr 79), some (vi (I100 79 8)), some (vi v98)] [vi (b2i v101)] (mm I101)
          refine G_if_ne (tgt := 116) X dX6_readsRow_111 (by decide) (fun hc102 => ?_) (fun hc102 => ?_)
          · have hf := (if_pos (b2i_t hc102)).symm.trans hf
            refine G_aload_n (x := some (79)) X dX6_readsRow_116 rfl rfl ?_
            refine G_aload_n (x := some (79)) X dX6_readsRow_117 rfl rfl ?_
            refine M_getI X fd_X6_124 rfl (show SH[79]? = some (_, 0) from rfl) dX6_readsRow_118 ?_
            refine G_sipush (v := 600) X dX6_readsRow_121 rfl ?_
            refine G_icmp_le (tgt := 131) X dX6_readsRow_124 (by decide) (fun hc103 => ?_) (fun hc103 => ?_)
            · have hf := (if_pos hc103).symm.trans hf
              refine G_iconst (v := 0) X dX6_readsRow_131 rfl ?_
              refine G_iload_n (x := I100 79 8) X dX6_readsRow_132 rfl rfl ?_
              obtain ⟨I104, hk104, hf⟩ := obd hf
              refine G_callV (As := [vi 0, vi (I100 79 8)]) X (f6_wrong_ok E I101 0 (I100 79 8) I104 hk104) cb_X6_153 vi_X6_wrong (ci := 5) rfl rfl (show SH[79]? = some (_, 0) from rfl) rfl rfl (Nat.le_of_ble_eq_true rfl) (by decide) (by decide) rfl (Nat.le_refl _) (Nat.le_refl _) dX6_readsRow_133 ?_
              show G E κ _ _ _ [some (vr 79), some (vi (I100 79 8)), some (vi v98)] [] (mm I104)
              refine G_aload_n (x := some (79)) X dX6_readsRow_136 rfl rfl ?_
              refine M_getI X fd_X6_142 rfl (show SH[79]? = some (_, 0) from rfl) dX6_readsRow_137 ?_
              refine G_if_eq (tgt := 174) X dX6_readsRow_140 (by decide) (fun hc105 => ?_) (fun hc105 => ?_)
              · have hf := (if_pos hc105).symm.trans hf
                refine G_aload_n (x := some (79)) X dX6_readsRow_174 rfl rfl ?_
                obtain ⟨I106, hk106, hf⟩ := obd hf
                refine G_callV (As := []) X (f6_closeFactor_ok E I104  I106 hk106) cb_X6_157 vi_X6_closeFactor (ci := 5) rfl rfl (show SH[79]? = some (_, 0) from rfl) rfl rfl (Nat.le_of_ble_eq_true rfl) (by decide) (by decide) rfl (Nat.le_refl _) (Nat.le_refl _) dX6_readsRow_175 ?_
                show G E κ _ _ _ [some (vr 79), some (vi (I100 79 8)), some (vi v98)] [] (mm I106)
                refine G_iconst (v := 1) X dX6_readsRow_178 rfl ?_
                obtain ⟨rfl, rfl⟩ := Prod.mk.inj (Option.some.inj hf)
                exact G_iret X hR rfl (nar_b2i true) dX6_readsRow_179
              · have hf := (if_neg hc105).symm.trans hf
                refine G_aload_n (x := some (79)) X dX6_readsRow_143 rfl rfl ?_
                refine G_aload_n (x := some (79)) X dX6_readsRow_144 rfl rfl ?_
                refine M_getI X fd_X6_139 rfl (show SH[79]? = some (_, 0) from rfl) dX6_readsRow_145 ?_
                refine G_iconst (v := 1) X dX6_readsRow_148 rfl ?_
                refine G_isub X dX6_readsRow_149 ?_
                refine G_callS (As := [vi ((I104 79 12) - 1)]) X (f6_asked_ok E I104 ((I104 79 12) - 1) _ rfl) cb_X6_54 st_X6_asked rfl rfl (Nat.le_of_ble_eq_true rfl) (by decide) (by decide) rfl (Nat.le_refl _) (Nat.le_refl _) dX6_readsRow_150 ?_
                show G E κ _ _ _ [some (vr 79), some (vi (I100 79 8)), some (vi v98)] [vi (f6_asked ((I104 79 12) - 1)), vr 79] (mm I104)
                refine G_iload_n (x := v98) X dX6_readsRow_153 rfl rfl ?_
                refine G_bipush (v := 60) X dX6_readsRow_154 rfl ?_
                refine G_icmp_ne (tgt := 166) X dX6_readsRow_156 (by decide) (fun hc107 => ?_) (fun hc107 => ?_)
                · have hf := (if_neg hc107).symm.trans hf
                  refine G_aload_n (x := some (79)) X dX6_readsRow_166 rfl rfl ?_
                  refine M_getI X fd_X6_124 rfl (show SH[79]? = some (_, 0) from rfl) dX6_readsRow_167 ?_
                  refine G_ineg X dX6_readsRow_170 ?_
                  obtain ⟨I108, hk108, hf⟩ := obd hf
                  refine G_callV (As := [vi (f6_asked ((I104 79 12) - 1)), vi (-(I104 79 16))]) X (f6_shiftOn_ok E I104 (f6_asked ((I104 79 12) - 1)) (-(I104 79 16)) I108 hk108) cb_X6_102 vi_X6_shiftOn (ci := 5) rfl rfl (show SH[79]? = some (_, 0) from rfl) rfl rfl (Nat.le_of_ble_eq_true rfl) (by decide) (by decide) rfl (Nat.le_refl _) (Nat.le_refl _) dX6_readsRow_171 ?_
                  show G E κ _ _ _ [some (vr 79), some (vi (I100 79 8)), some (vi v98)] [] (mm I108)
                  refine G_aload_n (x := some (79)) X dX6_readsRow_174 rfl rfl ?_
                  obtain ⟨I109, hk109, hf⟩ := obd hf
                  refine G_callV (As := []) X (f6_closeFactor_ok E I108  I109 hk109) cb_X6_157 vi_X6_closeFactor (ci := 5) rfl rfl (show SH[79]? = some (_, 0) from rfl) rfl rfl (Nat.le_of_ble_eq_true rfl) (by decide) (by decide) rfl (Nat.le_refl _) (Nat.le_refl _) dX6_readsRow_175 ?_
                  show G E κ _ _ _ [some (vr 79), some (vi (I100 79 8)), some (vi v98)] [] (mm I109)
                  refine G_iconst (v := 1) X dX6_readsRow_178 rfl ?_
                  obtain ⟨rfl, rfl⟩ := Prod.mk.inj (Option.some.inj hf)
                  exact G_iret X hR rfl (nar_b2i true) dX6_readsRow_179
                · have hf := (if_pos hc107).symm.trans hf
                  refine G_aload_n (x := some (79)) X dX6_readsRow_159 rfl rfl ?_
                  refine M_getI X fd_X6_124 rfl (show SH[79]? = some (_, 0) from rfl) dX6_readsRow_160 ?_
                  refine G_goto (tgt := 171) X dX6_readsRow_163 (by decide) ?_
                  obtain ⟨I110, hk110, hf⟩ := obd hf
                  refine G_callV (As := [vi (f6_asked ((I104 79 12) - 1)), vi (I104 79 16)]) X (f6_shiftOn_ok E I104 (f6_asked ((I104 79 12) - 1)) (I104 79 16) I110 hk110) cb_X6_102 vi_X6_shiftOn (ci := 5) rfl rfl (show SH[79]? = some (_, 0) from rfl) rfl rfl (Nat.le_of_ble_eq_true rfl) (by decide) (by decide) rfl (Nat.le_refl _) (Nat.le_refl _) dX6_readsRow_171 ?_
                  show G E κ _ _ _ [some (vr 79), some (vi (I100 79 8)), some (vi v98)] [] (mm I110)
                  refine G_aload_n (x := some (79)) X dX6_readsRow_174 rfl rfl ?_
                  obtain ⟨I111, hk111, hf⟩ := obd hf
                  refine G_callV (As := []) X (f6_closeFactor_ok E I110  I111 hk111) cb_X6_157 vi_X6_closeFactor (ci := 5) rfl rfl (show SH[79]? = some (_, 0) from rfl) rfl rfl (Nat.le_of_ble_eq_true rfl) (by decide) (by decide) rfl (Nat.le_refl _) (Nat.le_refl _) dX6_readsRow_175 ?_
                  show G E κ _ _ _ [some (vr 79), some (vi (I100 79 8)), some (vi v98)] [] (mm I111)
                  refine G_iconst (v := 1) X dX6_readsRow_178 rfl ?_
                  obtain ⟨rfl, rfl⟩ := Prod.mk.inj (Option.some.inj hf)
                  exact G_iret X hR rfl (nar_b2i true) dX6_readsRow_179
            · have hf := (if_neg hc103).symm.trans hf
              refine G_iconst (v := 1) X dX6_readsRow_127 rfl ?_
              refine G_goto (tgt := 132) X dX6_readsRow_128 (by decide) ?_
              refine G_iload_n (x := I100 79 8) X dX6_readsRow_132 rfl rfl ?_
              obtain ⟨I112, hk112, hf⟩ := obd hf
              refine G_callV (As := [vi 1, vi (I100 79 8)]) X (f6_wrong_ok E I101 1 (I100 79 8) I112 hk112) cb_X6_153 vi_X6_wrong (ci := 5) rfl rfl (show SH[79]? = some (_, 0) from rfl) rfl rfl (Nat.le_of_ble_eq_true rfl) (by decide) (by decide) rfl (Nat.le_refl _) (Nat.le_refl _) dX6_readsRow_133 ?_
              show G E κ _ _ _ [some (vr 79), some (vi (I100 79 8)), some (vi v98)] [] (mm I112)
              refine G_aload_n (x := some (79)) X dX6_readsRow_136 rfl rfl ?_
              refine M_getI X fd_X6_142 rfl (show SH[79]? = some (_, 0) from rfl) dX6_readsRow_137 ?_
              refine G_if_eq (tgt := 174) X dX6_readsRow_140 (by decide) (fun hc113 => ?_) (fun hc113 => ?_)
              · have hf := (if_pos hc113).symm.trans hf
                refine G_aload_n (x := some (79)) X dX6_readsRow_174 rfl rfl ?_
                obtain ⟨I114, hk114, hf⟩ := obd hf
                refine G_callV (As := []) X (f6_closeFactor_ok E I112  I114 hk114) cb_X6_157 vi_X6_closeFactor (ci := 5) rfl rfl (show SH[79]? = some (_, 0) from rfl) rfl rfl (Nat.le_of_ble_eq_true rfl) (by decide) (by decide) rfl (Nat.le_refl _) (Nat.le_refl _) dX6_readsRow_175 ?_
                show G E κ _ _ _ [some (vr 79), some (vi (I100 79 8)), some (vi v98)] [] (mm I114)
                refine G_iconst (v := 1) X dX6_readsRow_178 rfl ?_
                obtain ⟨rfl, rfl⟩ := Prod.mk.inj (Option.some.inj hf)
                exact G_iret X hR rfl (nar_b2i true) dX6_readsRow_179
              · have hf := (if_neg hc113).symm.trans hf
                refine G_aload_n (x := some (79)) X dX6_readsRow_143 rfl rfl ?_
                refine G_aload_n (x := some (79)) X dX6_readsRow_144 rfl rfl ?_
                refine M_getI X fd_X6_139 rfl (show SH[79]? = some (_, 0) from rfl) dX6_readsRow_145 ?_
                refine G_iconst (v := 1) X dX6_readsRow_148 rfl ?_
                refine G_isub X dX6_readsRow_149 ?_
                refine G_callS (As := [vi ((I112 79 12) - 1)]) X (f6_asked_ok E I112 ((I112 79 12) - 1) _ rfl) cb_X6_54 st_X6_asked rfl rfl (Nat.le_of_ble_eq_true rfl) (by decide) (by decide) rfl (Nat.le_refl _) (Nat.le_refl _) dX6_readsRow_150 ?_
                show G E κ _ _ _ [some (vr 79), some (vi (I100 79 8)), some (vi v98)] [vi (f6_asked ((I112 79 12) - 1)), vr 79] (mm I112)
                refine G_iload_n (x := v98) X dX6_readsRow_153 rfl rfl ?_
                refine G_bipush (v := 60) X dX6_readsRow_154 rfl ?_
                refine G_icmp_ne (tgt := 166) X dX6_readsRow_156 (by decide) (fun hc115 => ?_) (fun hc115 => ?_)
                · have hf := (if_neg hc115).symm.trans hf
                  refine G_aload_n (x := some (79)) X dX6_readsRow_166 rfl rfl ?_
                  refine M_getI X fd_X6_124 rfl (show SH[79]? = some (_, 0) from rfl) dX6_readsRow_167 ?_
                  refine G_ineg X dX6_readsRow_170 ?_
                  obtain ⟨I116, hk116, hf⟩ := obd hf
                  refine G_callV (As := [vi (f6_asked ((I112 79 12) - 1)), vi (-(I112 79 16))]) X (f6_shiftOn_ok E I112 (f6_asked ((I112 79 12) - 1)) (-(I112 79 16)) I116 hk116) cb_X6_102 vi_X6_shiftOn (ci := 5) rfl rfl (show SH[79]? = some (_, 0) from rfl) rfl rfl (Nat.le_of_ble_eq_true rfl) (by decide) (by decide) rfl (Nat.le_refl _) (Nat.le_refl _) dX6_readsRow_171 ?_
                  show G E κ _ _ _ [some (vr 79), some (vi (I100 79 8)), some (vi v98)] [] (mm I116)
                  refine G_aload_n (x := some (79)) X dX6_readsRow_174 rfl rfl ?_
                  obtain ⟨I117, hk117, hf⟩ := obd hf
                  refine G_callV (As := []) X (f6_closeFactor_ok E I116  I117 hk117) cb_X6_157 vi_X6_closeFactor (ci := 5) rfl rfl (show SH[79]? = some (_, 0) from rfl) rfl rfl (Nat.le_of_ble_eq_true rfl) (by decide) (by decide) rfl (Nat.le_refl _) (Nat.le_refl _) dX6_readsRow_175 ?_
                  show G E κ _ _ _ [some (vr 79), some (vi (I100 79 8)), some (vi v98)] [] (mm I117)
                  refine G_iconst (v := 1) X dX6_readsRow_178 rfl ?_
                  obtain ⟨rfl, rfl⟩ := Prod.mk.inj (Option.some.inj hf)
                  exact G_iret X hR rfl (nar_b2i true) dX6_readsRow_179
                · have hf := (if_pos hc115).symm.trans hf
                  refine G_aload_n (x := some (79)) X dX6_readsRow_159 rfl rfl ?_
                  refine M_getI X fd_X6_124 rfl (show SH[79]? = some (_, 0) from rfl) dX6_readsRow_160 ?_
                  refine G_goto (tgt := 171) X dX6_readsRow_163 (by decide) ?_
                  obtain ⟨I118, hk118, hf⟩ := obd hf
                  refine G_callV (As := [vi (f6_asked ((I112 79 12) - 1)), vi (I112 79 16)]) X (f6_shiftOn_ok E I112 (f6_asked ((I112 79 12) - 1)) (I112 79 16) I118 hk118) cb_X6_102 vi_X6_shiftOn (ci := 5) rfl rfl (show SH[79]? = some (_, 0) from rfl) rfl rfl (Nat.le_of_ble_eq_true rfl) (by decide) (by decide) rfl (Nat.le_refl _) (Nat.le_refl _) dX6_readsRow_171 ?_
                  show G E κ _ _ _ [some (vr 79), some (vi (I100 79 8)), some (vi v98)] [] (mm I118)
                  refine G_aload_n (x := some (79)) X dX6_readsRow_174 rfl rfl ?_
                  obtain ⟨I119, hk119, hf⟩ := obd hf
                  refine G_callV (As := []) X (f6_closeFactor_ok E I118  I119 hk119) cb_X6_157 vi_X6_closeFactor (ci := 5) rfl rfl (show SH[79]? = some (_, 0) from rfl) rfl rfl (Nat.le_of_ble_eq_true rfl) (by decide) (by decide) rfl (Nat.le_refl _) (Nat.le_refl _) dX6_readsRow_175 ?_
                  show G E κ _ _ _ [some (vr 79), some (vi (I100 79 8)), some (vi v98)] [] (mm I119)
                  refine G_iconst (v := 1) X dX6_readsRow_178 rfl ?_
                  obtain ⟨rfl, rfl⟩ := Prod.mk.inj (Option.some.inj hf)
                  exact G_iret X hR rfl (nar_b2i true) dX6_readsRow_179
          · have hf := (if_neg (b2i_f hc102)).symm.trans hf
            refine G_iconst (v := 0) X dX6_readsRow_114 rfl ?_
            obtain ⟨rfl, rfl⟩ := Prod.mk.inj (Option.some.inj hf)
            exact G_iret X hR rfl (nar_b2i false) dX6_readsRow_115
        · have hf := (if_neg hc99).symm.trans hf
          refine G_iload_n (x := v98) X dX6_readsRow_81 rfl rfl ?_
          refine G_bipush (v := 62) X dX6_readsRow_82 rfl ?_
          refine G_icmp_ne (tgt := 174) X dX6_readsRow_84 (by decide) (fun hc120 => ?_) (fun hc120 => ?_)
          · have hf := (if_neg hc120).symm.trans hf
            refine G_aload_n (x := some (79)) X dX6_readsRow_174 rfl rfl ?_
            obtain ⟨I121, hk121, hf⟩ := obd hf
            refine G_callV (As := []) X (f6_closeFactor_ok E I98  I121 hk121) cb_X6_157 vi_X6_closeFactor (ci := 5) rfl rfl (show SH[79]? = some (_, 0) from rfl) rfl rfl (Nat.le_of_ble_eq_true rfl) (by decide) (by decide) rfl (Nat.le_refl _) (Nat.le_refl _) dX6_readsRow_175 ?_
            show G E κ _ _ _ [some (vr 79), some (vi (I 79 8)), some (vi v98)] [] (mm I121)
            refine G_iconst (v := 1) X dX6_readsRow_178 rfl ?_
            obtain ⟨rfl, rfl⟩ := Prod.mk.inj (Option.some.inj hf)
            exact G_iret X hR rfl (nar_b2i true) dX6_readsRow_179
          · have hf := (if_pos hc120).symm.trans hf
            refine G_aload_n (x := some (79)) X dX6_readsRow_87 rfl rfl ?_
            refine G_dup X dX6_readsRow_88 ?_
            refine M_getI X fd_X6_108 rfl (show SH[79]? = some (_, 0) from rfl) dX6_readsRow_89 ?_
            refine G_iconst (v := 1) X dX6_readsRow_92 rfl ?_
            refine G_iadd X dX6_readsRow_93 ?_
            refine M_putI X fd_X6_108 rfl (show SH[79]? = some (_, 0) from rfl) rfl rfl dX6_readsRow_94 ?_
            refine G_aload_n (x := some (79)) X dX6_readsRow_97 rfl rfl ?_
            obtain ⟨⟨v122, I122⟩, hk122, hf⟩ := obd hf
            try dsimp only at hf
            refine G_callV (As := []) X (f6_code_ok E (uI I98 79 8 ((I98 79 8) + 1))  v122 I122 hk122) cb_X6_120 vi_X6_code (ci := 5) rfl rfl (show SH[79]? = some (_, 0) from rfl) rfl rfl (Nat.le_of_ble_eq_true rfl) (by decide) (by decide) rfl (Nat.le_refl _) (Nat.le_refl _) dX6_readsRow_98 ?_
            show G E κ _ _ _ [some (vr 79), some (vi (I 79 8)), some (vi v98)] [vi v122] (mm I122)
            refine G_pop X dX6_readsRow_101 ?_
            refine G_aload_n (x := some (79)) X dX6_readsRow_102 rfl rfl ?_
            refine M_getI X fd_X6_108 rfl (show SH[79]? = some (_, 0) from rfl) dX6_readsRow_103 ?_
            refine G_istore_n X dX6_readsRow_106 rfl (Nat.le_of_ble_eq_true rfl) (ls' := [some (vr 79), some (vi (I122 79 8)), some (vi v98)]) rfl ?_
            refine G_aload_n (x := some (79)) X dX6_readsRow_107 rfl rfl ?_
            obtain ⟨⟨v123, I123⟩, hk123, hf⟩ := obd hf
            try dsimp only at hf
            refine G_callV (As := []) X (f6_readsNumber_ok E I122  v123 I123 hk123) cb_X6_149 vi_X6_readsNumber (ci := 5) rfl rfl (show SH[79]? = some (_, 0) from rfl) rfl rfl (Nat.le_of_ble_eq_true rfl) (by decide) (by decide) rfl (Nat.le_refl _) (Nat.le_refl _) dX6_readsRow_108 ?_
            show G E κ _ _ _ [some (vr 79), some (vi (I122 79 8)), some (vi v98)] [vi (b2i v123)] (mm I123)
            refine G_if_ne (tgt := 116) X dX6_readsRow_111 (by decide) (fun hc124 => ?_) (fun hc124 => ?_)
            · have hf := (if_pos (b2i_t hc124)).symm.trans hf
              refine G_aload_n (x := some (79)) X dX6_readsRow_116 rfl rfl ?_
              refine G_aload_n (x := some (79)) X dX6_readsRow_117 rfl rfl ?_
              refine M_getI X fd_X6_124 rfl (show SH[79]? = some (_, 0) from rfl) dX6_readsRow_118 ?_
              refine G_sipush (v := 600) X dX6_readsRow_121 rfl ?_
              refine G_icmp_le (tgt := 131) X dX6_readsRow_124 (by decide) (fun hc125 => ?_) (fun hc125 => ?_)
              · have hf := (if_pos hc125).symm.trans hf
                refine G_iconst (v := 0) X dX6_readsRow_131 rfl ?_
                refine G_iload_n (x := I122 79 8) X dX6_readsRow_132 rfl rfl ?_
                obtain ⟨I126, hk126, hf⟩ := obd hf
                refine G_callV (As := [vi 0, vi (I122 79 8)]) X (f6_wrong_ok E I123 0 (I122 79 8) I126 hk126) cb_X6_153 vi_X6_wrong (ci := 5) rfl rfl (show SH[79]? = some (_, 0) from rfl) rfl rfl (Nat.le_of_ble_eq_true rfl) (by decide) (by decide) rfl (Nat.le_refl _) (Nat.le_refl _) dX6_readsRow_133 ?_
                show G E κ _ _ _ [some (vr 79), some (vi (I122 79 8)), some (vi v98)] [] (mm I126)
                refine G_aload_n (x := some (79)) X dX6_readsRow_136 rfl rfl ?_
                refine M_getI X fd_X6_142 rfl (show SH[79]? = some (_, 0) from rfl) dX6_readsRow_137 ?_
                refine G_if_eq (tgt := 174) X dX6_readsRow_140 (by decide) (fun hc127 => ?_) (fun hc127 => ?_)
                · have hf := (if_pos hc127).symm.trans hf
                  refine G_aload_n (x := some (79)) X dX6_readsRow_174 rfl rfl ?_
                  obtain ⟨I128, hk128, hf⟩ := obd hf
                  refine G_callV (As := []) X (f6_closeFactor_ok E I126  I128 hk128) cb_X6_157 vi_X6_closeFactor (ci := 5) rfl rfl (show SH[79]? = some (_, 0) from rfl) rfl rfl (Nat.le_of_ble_eq_true rfl) (by decide) (by decide) rfl (Nat.le_refl _) (Nat.le_refl _) dX6_readsRow_175 ?_
                  show G E κ _ _ _ [some (vr 79), some (vi (I122 79 8)), some (vi v98)] [] (mm I128)
                  refine G_iconst (v := 1) X dX6_readsRow_178 rfl ?_
                  obtain ⟨rfl, rfl⟩ := Prod.mk.inj (Option.some.inj hf)
                  exact G_iret X hR rfl (nar_b2i true) dX6_readsRow_179
                · have hf := (if_neg hc127).symm.trans hf
                  refine G_aload_n (x := some (79)) X dX6_readsRow_143 rfl rfl ?_
                  refine G_aload_n (x := some (79)) X dX6_readsRow_144 rfl rfl ?_
                  refine M_getI X fd_X6_139 rfl (show SH[79]? = some (_, 0) from rfl) dX6_readsRow_145 ?_
                  refine G_iconst (v := 1) X dX6_readsRow_148 rfl ?_
                  refine G_isub X dX6_readsRow_149 ?_
                  refine G_callS (As := [vi ((I126 79 12) - 1)]) X (f6_asked_ok E I126 ((I126 79 12) - 1) _ rfl) cb_X6_54 st_X6_asked rfl rfl (Nat.le_of_ble_eq_true rfl) (by decide) (by decide) rfl (Nat.le_refl _) (Nat.le_refl _) dX6_readsRow_150 ?_
                  show G E κ _ _ _ [some (vr 79), some (vi (I122 79 8)), some (vi v98)] [vi (f6_asked ((I126 79 12) - 1)), vr 79] (mm I126)
                  refine G_iload_n (x := v98) X dX6_readsRow_153 rfl rfl ?_
                  refine G_bipush (v := 60) X dX6_readsRow_154 rfl ?_
                  refine G_icmp_ne (tgt := 166) X dX6_readsRow_156 (by decide) (fun hc129 => ?_) (fun hc129 => ?_)
                  · have hf := (if_neg hc129).symm.trans hf
                    refine G_aload_n (x := some (79)) X dX6_readsRow_166 rfl rfl ?_
                    refine M_getI X fd_X6_124 rfl (show SH[79]? = some (_, 0) from rfl) dX6_readsRow_167 ?_
                    refine G_ineg X dX6_readsRow_170 ?_
                    obtain ⟨I130, hk130, hf⟩ := obd hf
                    refine G_callV (As := [vi (f6_asked ((I126 79 12) - 1)), vi (-(I126 79 16))]) X (f6_shiftOn_ok E I126 (f6_asked ((I126 79 12) - 1)) (-(I126 79 16)) I130 hk130) cb_X6_102 vi_X6_shiftOn (ci := 5) rfl rfl (show SH[79]? = some (_, 0) from rfl) rfl rfl (Nat.le_of_ble_eq_true rfl) (by decide) (by decide) rfl (Nat.le_refl _) (Nat.le_refl _) dX6_readsRow_171 ?_
                    show G E κ _ _ _ [some (vr 79), some (vi (I122 79 8)), some (vi v98)] [] (mm I130)
                    refine G_aload_n (x := some (79)) X dX6_readsRow_174 rfl rfl ?_
                    obtain ⟨I131, hk131, hf⟩ := obd hf
                    refine G_callV (As := []) X (f6_closeFactor_ok E I130  I131 hk131) cb_X6_157 vi_X6_closeFactor (ci := 5) rfl rfl (show SH[79]? = some (_, 0) from rfl) rfl rfl (Nat.le_of_ble_eq_true rfl) (by decide) (by decide) rfl (Nat.le_refl _) (Nat.le_refl _) dX6_readsRow_175 ?_
                    show G E κ _ _ _ [some (vr 79), some (vi (I122 79 8)), some (vi v98)] [] (mm I131)
                    refine G_iconst (v := 1) X dX6_readsRow_178 rfl ?_
                    obtain ⟨rfl, rfl⟩ := Prod.mk.inj (Option.some.inj hf)
                    exact G_iret X hR rfl (nar_b2i true) dX6_readsRow_179
                  · have hf := (if_pos hc129).symm.trans hf
                    refine G_aload_n (x := some (79)) X dX6_readsRow_159 rfl rfl ?_
                    refine M_getI X fd_X6_124 rfl (show SH[79]? = some (_, 0) from rfl) dX6_readsRow_160 ?_
                    refine G_goto (tgt := 171) X dX6_readsRow_163 (by decide) ?_
                    obtain ⟨I132, hk132, hf⟩ := obd hf
                    refine G_callV (As := [vi (f6_asked ((I126 79 12) - 1)), vi (I126 79 16)]) X (f6_shiftOn_ok E I126 (f6_asked ((I126 79 12) - 1)) (I126 79 16) I132 hk132) cb_X6_102 vi_X6_shiftOn (ci := 5) rfl rfl (show SH[79]? = some (_, 0) from rfl) rfl rfl (Nat.le_of_ble_eq_true rfl) (by decide) (by decide) rfl (Nat.le_refl _) (Nat.le_refl _) dX6_readsRow_171 ?_
                    show G E κ _ _ _ [some (vr 79), some (vi (I122 79 8)), some (vi v98)] [] (mm I132)
                    refine G_aload_n (x := some (79)) X dX6_readsRow_174 rfl rfl ?_
                    obtain ⟨I133, hk133, hf⟩ := obd hf
                    refine G_callV (As := []) X (f6_closeFactor_ok E I132  I133 hk133) cb_X6_157 vi_X6_closeFactor (ci := 5) rfl rfl (show SH[79]? = some (_, 0) from rfl) rfl rfl (Nat.le_of_ble_eq_true rfl) (by decide) (by decide) rfl (Nat.le_refl _) (Nat.le_refl _) dX6_readsRow_175 ?_
                    show G E κ _ _ _ [some (vr 79), some (vi (I122 79 8)), some (vi v98)] [] (mm I133)
                    refine G_iconst (v := 1) X dX6_readsRow_178 rfl ?_
                    obtain ⟨rfl, rfl⟩ := Prod.mk.inj (Option.some.inj hf)
                    exact G_iret X hR rfl (nar_b2i true) dX6_readsRow_179
              · have hf := (if_neg hc125).symm.trans hf
                refine G_iconst (v := 1) X dX6_readsRow_127 rfl ?_
                refine G_goto (tgt := 132) X dX6_readsRow_128 (by decide) ?_
                refine G_iload_n (x := I122 79 8) X dX6_readsRow_132 rfl rfl ?_
                obtain ⟨I134, hk134, hf⟩ := obd hf
                refine G_callV (As := [vi 1, vi (I122 79 8)]) X (f6_wrong_ok E I123 1 (I122 79 8) I134 hk134) cb_X6_153 vi_X6_wrong (ci := 5) rfl rfl (show SH[79]? = some (_, 0) from rfl) rfl rfl (Nat.le_of_ble_eq_true rfl) (by decide) (by decide) rfl (Nat.le_refl _) (Nat.le_refl _) dX6_readsRow_133 ?_
                show G E κ _ _ _ [some (vr 79), some (vi (I122 79 8)), some (vi v98)] [] (mm I134)
                refine G_aload_n (x := some (79)) X dX6_readsRow_136 rfl rfl ?_
                refine M_getI X fd_X6_142 rfl (show SH[79]? = some (_, 0) from rfl) dX6_readsRow_137 ?_
                refine G_if_eq (tgt := 174) X dX6_readsRow_140 (by decide) (fun hc135 => ?_) (fun hc135 => ?_)
                · have hf := (if_pos hc135).symm.trans hf
                  refine G_aload_n (x := some (79)) X dX6_readsRow_174 rfl rfl ?_
                  obtain ⟨I136, hk136, hf⟩ := obd hf
                  refine G_callV (As := []) X (f6_closeFactor_ok E I134  I136 hk136) cb_X6_157 vi_X6_closeFactor (ci := 5) rfl rfl (show SH[79]? = some (_, 0) from rfl) rfl rfl (Nat.le_of_ble_eq_true rfl) (by decide) (by decide) rfl (Nat.le_refl _) (Nat.le_refl _) dX6_readsRow_175 ?_
                  show G E κ _ _ _ [some (vr 79), some (vi (I122 79 8)), some (vi v98)] [] (mm I136)
                  refine G_iconst (v := 1) X dX6_readsRow_178 rfl ?_
                  obtain ⟨rfl, rfl⟩ := Prod.mk.inj (Option.some.inj hf)
                  exact G_iret X hR rfl (nar_b2i true) dX6_readsRow_179
                · have hf := (if_neg hc135).symm.trans hf
                  refine G_aload_n (x := some (79)) X dX6_readsRow_143 rfl rfl ?_
                  refine G_aload_n (x := some (79)) X dX6_readsRow_144 rfl rfl ?_
                  refine M_getI X fd_X6_139 rfl (show SH[79]? = some (_, 0) from rfl) dX6_readsRow_145 ?_
                  refine G_iconst (v := 1) X dX6_readsRow_148 rfl ?_
                  refine G_isub X dX6_readsRow_149 ?_
                  refine G_callS (As := [vi ((I134 79 12) - 1)]) X (f6_asked_ok E I134 ((I134 79 12) - 1) _ rfl) cb_X6_54 st_X6_asked rfl rfl (Nat.le_of_ble_eq_true rfl) (by decide) (by decide) rfl (Nat.le_refl _) (Nat.le_refl _) dX6_readsRow_150 ?_
                  show G E κ _ _ _ [some (vr 79), some (vi (I122 79 8)), some (vi v98)] [vi (f6_asked ((I134 79 12) - 1)), vr 79] (mm I134)
                  refine G_iload_n (x := v98) X dX6_readsRow_153 rfl rfl ?_
                  refine G_bipush (v := 60) X dX6_readsRow_154 rfl ?_
                  refine G_icmp_ne (tgt := 166) X dX6_readsRow_156 (by decide) (fun hc137 => ?_) (fun hc137 => ?_)
                  · have hf := (if_neg hc137).symm.trans hf
                    refine G_aload_n (x := some (79)) X dX6_readsRow_166 rfl rfl ?_
                    refine M_getI X fd_X6_124 rfl (show SH[79]? = some (_, 0) from rfl) dX6_readsRow_167 ?_
                    refine G_ineg X dX6_readsRow_170 ?_
                    obtain ⟨I138, hk138, hf⟩ := obd hf
                    refine G_callV (As := [vi (f6_asked ((I134 79 12) - 1)), vi (-(I134 79 16))]) X (f6_shiftOn_ok E I134 (f6_asked ((I134 79 12) - 1)) (-(I134 79 16)) I138 hk138) cb_X6_102 vi_X6_shiftOn (ci := 5) rfl rfl (show SH[79]? = some (_, 0) from rfl) rfl rfl (Nat.le_of_ble_eq_true rfl) (by decide) (by decide) rfl (Nat.le_refl _) (Nat.le_refl _) dX6_readsRow_171 ?_
                    show G E κ _ _ _ [some (vr 79), some (vi (I122 79 8)), some (vi v98)] [] (mm I138)
                    refine G_aload_n (x := some (79)) X dX6_readsRow_174 rfl rfl ?_
                    obtain ⟨I139, hk139, hf⟩ := obd hf
                    refine G_callV (As := []) X (f6_closeFactor_ok E I138  I139 hk139) cb_X6_157 vi_X6_closeFactor (ci := 5) rfl rfl (show SH[79]? = some (_, 0) from rfl) rfl rfl (Nat.le_of_ble_eq_true rfl) (by decide) (by decide) rfl (Nat.le_refl _) (Nat.le_refl _) dX6_readsRow_175 ?_
                    show G E κ _ _ _ [some (vr 79), some (vi (I122 79 8)), some (vi v98)] [] (mm I139)
                    refine G_iconst (v := 1) X dX6_readsRow_178 rfl ?_
                    obtain ⟨rfl, rfl⟩ := Prod.mk.inj (Option.some.inj hf)
                    exact G_iret X hR rfl (nar_b2i true) dX6_readsRow_179
                  · have hf := (if_pos hc137).symm.trans hf
                    refine G_aload_n (x := some (79)) X dX6_readsRow_159 rfl rfl ?_
                    refine M_getI X fd_X6_124 rfl (show SH[79]? = some (_, 0) from rfl) dX6_readsRow_160 ?_
                    refine G_goto (tgt := 171) X dX6_readsRow_163 (by decide) ?_
                    obtain ⟨I140, hk140, hf⟩ := obd hf
                    refine G_callV (As := [vi (f6_asked ((I134 79 12) - 1)), vi (I134 79 16)]) X (f6_shiftOn_ok E I134 (f6_asked ((I134 79 12) - 1)) (I134 79 16) I140 hk140) cb_X6_102 vi_X6_shiftOn (ci := 5) rfl rfl (show SH[79]? = some (_, 0) from rfl) rfl rfl (Nat.le_of_ble_eq_true rfl) (by decide) (by decide) rfl (Nat.le_refl _) (Nat.le_refl _) dX6_readsRow_171 ?_
                    show G E κ _ _ _ [some (vr 79), some (vi (I122 79 8)), some (vi v98)] [] (mm I140)
                    refine G_aload_n (x := some (79)) X dX6_readsRow_174 rfl rfl ?_
                    obtain ⟨I141, hk141, hf⟩ := obd hf
                    refine G_callV (As := []) X (f6_closeFactor_ok E I140  I141 hk141) cb_X6_157 vi_X6_closeFactor (ci := 5) rfl rfl (show SH[79]? = some (_, 0) from rfl) rfl rfl (Nat.le_of_ble_eq_true rfl) (by decide) (by decide) rfl (Nat.le_refl _) (Nat.le_refl _) dX6_readsRow_175 ?_
                    show G E κ _ _ _ [some (vr 79), some (vi (I122 79 8)), some (vi v98)] [] (mm I141)
                    refine G_iconst (v := 1) X dX6_readsRow_178 rfl ?_
                    obtain ⟨rfl, rfl⟩ := Prod.mk.inj (Option.some.inj hf)
                    exact G_iret X hR rfl (nar_b2i true) dX6_readsRow_179
            · have hf := (if_neg (b2i_f hc124)).symm.trans hf
              refine G_iconst (v := 0) X dX6_readsRow_114 rfl ?_
              obtain ⟨rfl, rfl⟩ := Prod.mk.inj (Option.some.inj hf)
              exact G_iret X hR rfl (nar_b2i false) dX6_readsRow_115
      · have hf := (if_neg hc97).symm.trans hf
        refine G_aload_n (x := some (79)) X dX6_readsRow_42 rfl rfl ?_
        refine G_aload_n (x := some (79)) X dX6_readsRow_43 rfl rfl ?_
        refine M_getI X fd_X6_124 rfl (show SH[79]? = some (_, 0) from rfl) dX6_readsRow_44 ?_
        refine G_callS (As := [vi (I96 79 16)]) X (f6_at_ok E I96 (I96 79 16) _ rfl) cb_X6_71 st_X6_at rfl rfl (Nat.le_of_ble_eq_true rfl) (by decide) (by decide) rfl (Nat.le_refl _) (Nat.le_refl _) dX6_readsRow_47 ?_
        show G E κ _ _ _ [some (vr 79), some (vi (I 79 8)), none] [vi (f6_at (I96 79 16)), vr 79] (mm I96)
        refine G_aload_n (x := some (79)) X dX6_readsRow_50 rfl rfl ?_
        refine M_getI X fd_X6_139 rfl (show SH[79]? = some (_, 0) from rfl) dX6_readsRow_51 ?_
        refine G_callS (As := [vi (I96 79 12)]) X (f6_asked_ok E I96 (I96 79 12) _ rfl) cb_X6_54 st_X6_asked rfl rfl (Nat.le_of_ble_eq_true rfl) (by decide) (by decide) rfl (Nat.le_refl _) (Nat.le_refl _) dX6_readsRow_54 ?_
        show G E κ _ _ _ [some (vr 79), some (vi (I 79 8)), none] [vi (f6_asked (I96 79 12)), vi (f6_at (I96 79 16)), vr 79] (mm I96)
        obtain ⟨I142, hk142, hf⟩ := obd hf
        refine G_callV (As := [vi (f6_at (I96 79 16)), vi (f6_asked (I96 79 12))]) X (f6_copy_ok E I96 (f6_at (I96 79 16)) (f6_asked (I96 79 12)) I142 hk142) cb_X6_65 vi_X6_copy (ci := 5) rfl rfl (show SH[79]? = some (_, 0) from rfl) rfl rfl (Nat.le_of_ble_eq_true rfl) (by decide) (by decide) rfl (Nat.le_refl _) (Nat.le_refl _) dX6_readsRow_57 ?_
        show G E κ _ _ _ [some (vr 79), some (vi (I 79 8)), none] [] (mm I142)
        refine G_aload_n (x := some (79)) X dX6_readsRow_60 rfl rfl ?_
        refine G_dup X dX6_readsRow_61 ?_
        refine M_getI X fd_X6_139 rfl (show SH[79]? = some (_, 0) from rfl) dX6_readsRow_62 ?_
        refine G_iconst (v := 1) X dX6_readsRow_65 rfl ?_
        refine G_iadd X dX6_readsRow_66 ?_
        refine M_putI X fd_X6_139 rfl (show SH[79]? = some (_, 0) from rfl) rfl rfl dX6_readsRow_67 ?_
        refine G_aload_n (x := some (79)) X dX6_readsRow_70 rfl rfl ?_
        obtain ⟨⟨v143, I143⟩, hk143, hf⟩ := obd hf
        try dsimp only at hf
        refine G_callV (As := []) X (f6_code_ok E (uI I142 79 12 ((I142 79 12) + 1))  v143 I143 hk143) cb_X6_120 vi_X6_code (ci := 5) rfl rfl (show SH[79]? = some (_, 0) from rfl) rfl rfl (Nat.le_of_ble_eq_true rfl) (by decide) (by decide) rfl (Nat.le_refl _) (Nat.le_refl _) dX6_readsRow_71 ?_
        show G E κ _ _ _ [some (vr 79), some (vi (I 79 8)), none] [vi v143] (mm I143)
        refine G_istore_n X dX6_readsRow_74 rfl (Nat.le_of_ble_eq_true rfl) (ls' := [some (vr 79), some (vi (I 79 8)), some (vi v143)]) rfl ?_
        refine G_iload_n (x := v143) X dX6_readsRow_75 rfl rfl ?_
        refine G_bipush (v := 60) X dX6_readsRow_76 rfl ?_
        refine G_icmp_eq (tgt := 87) X dX6_readsRow_78 (by decide) (fun hc144 => ?_) (fun hc144 => ?_)
        · have hf := (if_pos hc144).symm.trans hf
          refine G_aload_n (x := some (79)) X dX6_readsRow_87 rfl rfl ?_
          refine G_dup X dX6_readsRow_88 ?_
          refine M_getI X fd_X6_108 rfl (show SH[79]? = some (_, 0) from rfl) dX6_readsRow_89 ?_
          refine G_iconst (v := 1) X dX6_readsRow_92 rfl ?_
          refine G_iadd X dX6_readsRow_93 ?_
          refine M_putI X fd_X6_108 rfl (show SH[79]? = some (_, 0) from rfl) rfl rfl dX6_readsRow_94 ?_
          refine G_aload_n (x := some (79)) X dX6_readsRow_97 rfl rfl ?_
          obtain ⟨⟨v145, I145⟩, hk145, hf⟩ := obd hf
          try dsimp only at hf
          refine G_callV (As := []) X (f6_code_ok E (uI I143 79 8 ((I143 79 8) + 1))  v145 I145 hk145) cb_X6_120 vi_X6_code (ci := 5) rfl rfl (show SH[79]? = some (_, 0) from rfl) rfl rfl (Nat.le_of_ble_eq_true rfl) (by decide) (by decide) rfl (Nat.le_refl _) (Nat.le_refl _) dX6_readsRow_98 ?_
          show G E κ _ _ _ [some (vr 79), some (vi (I 79 8)), some (vi v143)] [vi v145] (mm I145)
          refine G_pop X dX6_readsRow_101 ?_
          refine G_aload_n (x := some (79)) X dX6_readsRow_102 rfl rfl ?_
          refine M_getI X fd_X6_108 rfl (show SH[79]? = some (_, 0) from rfl) dX6_readsRow_103 ?_
          refine G_istore_n X dX6_readsRow_106 rfl (Nat.le_of_ble_eq_true rfl) (ls' := [some (vr 79), some (vi (I145 79 8)), some (vi v143)]) rfl ?_
          refine G_aload_n (x := some (79)) X dX6_readsRow_107 rfl rfl ?_
          obtain ⟨⟨v146, I146⟩, hk146, hf⟩ := obd hf
          try dsimp only at hf
          refine G_callV (As := []) X (f6_readsNumber_ok E I145  v146 I146 hk146) cb_X6_149 vi_X6_readsNumber (ci := 5) rfl rfl (show SH[79]? = some (_, 0) from rfl) rfl rfl (Nat.le_of_ble_eq_true rfl) (by decide) (by decide) rfl (Nat.le_refl _) (Nat.le_refl _) dX6_readsRow_108 ?_
          show G E κ _ _ _ [some (vr 79), some (vi (I145 79 8)), some (vi v143)] [vi (b2i v146)] (mm I146)
          refine G_if_ne (tgt := 116) X dX6_readsRow_111 (by decide) (fun hc147 => ?_) (fun hc147 => ?_)
          · have hf := (if_pos (b2i_t hc147)).symm.trans hf
            refine G_aload_n (x := some (79)) X dX6_readsRow_116 rfl rfl ?_
            refine G_aload_n (x := some (79)) X dX6_readsRow_117 rfl rfl ?_
            refine M_getI X fd_X6_124 rfl (show SH[79]? = some (_, 0) from rfl) dX6_readsRow_118 ?_
            refine G_sipush (v := 600) X dX6_readsRow_121 rfl ?_
            refine G_icmp_le (tgt := 131) X dX6_readsRow_124 (by decide) (fun hc148 => ?_) (fun hc148 => ?_)
            · have hf := (if_pos hc148).symm.trans hf
              refine G_iconst (v := 0) X dX6_readsRow_131 rfl ?_
              refine G_iload_n (x := I145 79 8) X dX6_readsRow_132 rfl rfl ?_
              obtain ⟨I149, hk149, hf⟩ := obd hf
              refine G_callV (As := [vi 0, vi (I145 79 8)]) X (f6_wrong_ok E I146 0 (I145 79 8) I149 hk149) cb_X6_153 vi_X6_wrong (ci := 5) rfl rfl (show SH[79]? = some (_, 0) from rfl) rfl rfl (Nat.le_of_ble_eq_true rfl) (by decide) (by decide) rfl (Nat.le_refl _) (Nat.le_refl _) dX6_readsRow_133 ?_
              show G E κ _ _ _ [some (vr 79), some (vi (I145 79 8)), some (vi v143)] [] (mm I149)
              refine G_aload_n (x := some (79)) X dX6_readsRow_136 rfl rfl ?_
              refine M_getI X fd_X6_142 rfl (show SH[79]? = some (_, 0) from rfl) dX6_readsRow_137 ?_
              refine G_if_eq (tgt := 174) X dX6_readsRow_140 (by decide) (fun hc150 => ?_) (fun hc150 => ?_)
              · have hf := (if_pos hc150).symm.trans hf
                refine G_aload_n (x := some (79)) X dX6_readsRow_174 rfl rfl ?_
                obtain ⟨I151, hk151, hf⟩ := obd hf
                refine G_callV (As := []) X (f6_closeFactor_ok E I149  I151 hk151) cb_X6_157 vi_X6_closeFactor (ci := 5) rfl rfl (show SH[79]? = some (_, 0) from rfl) rfl rfl (Nat.le_of_ble_eq_true rfl) (by decide) (by decide) rfl (Nat.le_refl _) (Nat.le_refl _) dX6_readsRow_175 ?_
                show G E κ _ _ _ [some (vr 79), some (vi (I145 79 8)), some (vi v143)] [] (mm I151)
                refine G_iconst (v := 1) X dX6_readsRow_178 rfl ?_
                obtain ⟨rfl, rfl⟩ := Prod.mk.inj (Option.some.inj hf)
                exact G_iret X hR rfl (nar_b2i true) dX6_readsRow_179
              · have hf := (if_neg hc150).symm.trans hf
                refine G_aload_n (x := some (79)) X dX6_readsRow_143 rfl rfl ?_
                refine G_aload_n (x := some (79)) X dX6_readsRow_144 rfl rfl ?_
                refine M_getI X fd_X6_139 rfl (show SH[79]? = some (_, 0) from rfl) dX6_readsRow_145 ?_
                refine G_iconst (v := 1) X dX6_readsRow_148 rfl ?_
                refine G_isub X dX6_readsRow_149 ?_
                refine G_callS (As := [vi ((I149 79 12) - 1)]) X (f6_asked_ok E I149 ((I149 79 12) - 1) _ rfl) cb_X6_54 st_X6_asked rfl rfl (Nat.le_of_ble_eq_true rfl) (by decide) (by decide) rfl (Nat.le_refl _) (Nat.le_refl _) dX6_readsRow_150 ?_
                show G E κ _ _ _ [some (vr 79), some (vi (I145 79 8)), some (vi v143)] [vi (f6_asked ((I149 79 12) - 1)), vr 79] (mm I149)
                refine G_iload_n (x := v143) X dX6_readsRow_153 rfl rfl ?_
                refine G_bipush (v := 60) X dX6_readsRow_154 rfl ?_
                refine G_icmp_ne (tgt := 166) X dX6_readsRow_156 (by decide) (fun hc152 => ?_) (fun hc152 => ?_)
                · have hf := (if_neg hc152).symm.trans hf
                  refine G_aload_n (x := some (79)) X dX6_readsRow_166 rfl rfl ?_
                  refine M_getI X fd_X6_124 rfl (show SH[79]? = some (_, 0) from rfl) dX6_readsRow_167 ?_
                  refine G_ineg X dX6_readsRow_170 ?_
                  obtain ⟨I153, hk153, hf⟩ := obd hf
                  refine G_callV (As := [vi (f6_asked ((I149 79 12) - 1)), vi (-(I149 79 16))]) X (f6_shiftOn_ok E I149 (f6_asked ((I149 79 12) - 1)) (-(I149 79 16)) I153 hk153) cb_X6_102 vi_X6_shiftOn (ci := 5) rfl rfl (show SH[79]? = some (_, 0) from rfl) rfl rfl (Nat.le_of_ble_eq_true rfl) (by decide) (by decide) rfl (Nat.le_refl _) (Nat.le_refl _) dX6_readsRow_171 ?_
                  show G E κ _ _ _ [some (vr 79), some (vi (I145 79 8)), some (vi v143)] [] (mm I153)
                  refine G_aload_n (x := some (79)) X dX6_readsRow_174 rfl rfl ?_
                  obtain ⟨I154, hk154, hf⟩ := obd hf
                  refine G_callV (As := []) X (f6_closeFactor_ok E I153  I154 hk154) cb_X6_157 vi_X6_closeFactor (ci := 5) rfl rfl (show SH[79]? = some (_, 0) from rfl) rfl rfl (Nat.le_of_ble_eq_true rfl) (by decide) (by decide) rfl (Nat.le_refl _) (Nat.le_refl _) dX6_readsRow_175 ?_
                  show G E κ _ _ _ [some (vr 79), some (vi (I145 79 8)), some (vi v143)] [] (mm I154)
                  refine G_iconst (v := 1) X dX6_readsRow_178 rfl ?_
                  obtain ⟨rfl, rfl⟩ := Prod.mk.inj (Option.some.inj hf)
                  exact G_iret X hR rfl (nar_b2i true) dX6_readsRow_179
                · have hf := (if_pos hc152).symm.trans hf
                  refine G_aload_n (x := some (79)) X dX6_readsRow_159 rfl rfl ?_
                  refine M_getI X fd_X6_124 rfl (show SH[79]? = some (_, 0) from rfl) dX6_readsRow_160 ?_
                  refine G_goto (tgt := 171) X dX6_readsRow_163 (by decide) ?_
                  obtain ⟨I155, hk155, hf⟩ := obd hf
                  refine G_callV (As := [vi (f6_asked ((I149 79 12) - 1)), vi (I149 79 16)]) X (f6_shiftOn_ok E I149 (f6_asked ((I149 79 12) - 1)) (I149 79 16) I155 hk155) cb_X6_102 vi_X6_shiftOn (ci := 5) rfl rfl (show SH[79]? = some (_, 0) from rfl) rfl rfl (Nat.le_of_ble_eq_true rfl) (by decide) (by decide) rfl (Nat.le_refl _) (Nat.le_refl _) dX6_readsRow_171 ?_
                  show G E κ _ _ _ [some (vr 79), some (vi (I145 79 8)), some (vi v143)] [] (mm I155)
                  refine G_aload_n (x := some (79)) X dX6_readsRow_174 rfl rfl ?_
                  obtain ⟨I156, hk156, hf⟩ := obd hf
                  refine G_callV (As := []) X (f6_closeFactor_ok E I155  I156 hk156) cb_X6_157 vi_X6_closeFactor (ci := 5) rfl rfl (show SH[79]? = some (_, 0) from rfl) rfl rfl (Nat.le_of_ble_eq_true rfl) (by decide) (by decide) rfl (Nat.le_refl _) (Nat.le_refl _) dX6_readsRow_175 ?_
                  show G E κ _ _ _ [some (vr 79), some (vi (I145 79 8)), some (vi v143)] [] (mm I156)
                  refine G_iconst (v := 1) X dX6_readsRow_178 rfl ?_
                  obtain ⟨rfl, rfl⟩ := Prod.mk.inj (Option.some.inj hf)
                  exact G_iret X hR rfl (nar_b2i true) dX6_readsRow_179
            · have hf := (if_neg hc148).symm.trans hf
              refine G_iconst (v := 1) X dX6_readsRow_127 rfl ?_
              refine G_goto (tgt := 132) X dX6_readsRow_128 (by decide) ?_
              refine G_iload_n (x := I145 79 8) X dX6_readsRow_132 rfl rfl ?_
              obtain ⟨I157, hk157, hf⟩ := obd hf
              refine G_callV (As := [vi 1, vi (I145 79 8)]) X (f6_wrong_ok E I146 1 (I145 79 8) I157 hk157) cb_X6_153 vi_X6_wrong (ci := 5) rfl rfl (show SH[79]? = some (_, 0) from rfl) rfl rfl (Nat.le_of_ble_eq_true rfl) (by decide) (by decide) rfl (Nat.le_refl _) (Nat.le_refl _) dX6_readsRow_133 ?_
              show G E κ _ _ _ [some (vr 79), some (vi (I145 79 8)), some (vi v143)] [] (mm I157)
              refine G_aload_n (x := some (79)) X dX6_readsRow_136 rfl rfl ?_
              refine M_getI X fd_X6_142 rfl (show SH[79]? = some (_, 0) from rfl) dX6_readsRow_137 ?_
              refine G_if_eq (tgt := 174) X dX6_readsRow_140 (by decide) (fun hc158 => ?_) (fun hc158 => ?_)
              · have hf := (if_pos hc158).symm.trans hf
                refine G_aload_n (x := some (79)) X dX6_readsRow_174 rfl rfl ?_
                obtain ⟨I159, hk159, hf⟩ := obd hf
                refine G_callV (As := []) X (f6_closeFactor_ok E I157  I159 hk159) cb_X6_157 vi_X6_closeFactor (ci := 5) rfl rfl (show SH[79]? = some (_, 0) from rfl) rfl rfl (Nat.le_of_ble_eq_true rfl) (by decide) (by decide) rfl (Nat.le_refl _) (Nat.le_refl _) dX6_readsRow_175 ?_
                show G E κ _ _ _ [some (vr 79), some (vi (I145 79 8)), some (vi v143)] [] (mm I159)
                refine G_iconst (v := 1) X dX6_readsRow_178 rfl ?_
                obtain ⟨rfl, rfl⟩ := Prod.mk.inj (Option.some.inj hf)
                exact G_iret X hR rfl (nar_b2i true) dX6_readsRow_179
              · have hf := (if_neg hc158).symm.trans hf
                refine G_aload_n (x := some (79)) X dX6_readsRow_143 rfl rfl ?_
                refine G_aload_n (x := some (79)) X dX6_readsRow_144 rfl rfl ?_
                refine M_getI X fd_X6_139 rfl (show SH[79]? = some (_, 0) from rfl) dX6_readsRow_145 ?_
                refine G_iconst (v := 1) X dX6_readsRow_148 rfl ?_
                refine G_isub X dX6_readsRow_149 ?_
                refine G_callS (As := [vi ((I157 79 12) - 1)]) X (f6_asked_ok E I157 ((I157 79 12) - 1) _ rfl) cb_X6_54 st_X6_asked rfl rfl (Nat.le_of_ble_eq_true rfl) (by decide) (by decide) rfl (Nat.le_refl _) (Nat.le_refl _) dX6_readsRow_150 ?_
                show G E κ _ _ _ [some (vr 79), some (vi (I145 79 8)), some (vi v143)] [vi (f6_asked ((I157 79 12) - 1)), vr 79] (mm I157)
                refine G_iload_n (x := v143) X dX6_readsRow_153 rfl rfl ?_
                refine G_bipush (v := 60) X dX6_readsRow_154 rfl ?_
                refine G_icmp_ne (tgt := 166) X dX6_readsRow_156 (by decide) (fun hc160 => ?_) (fun hc160 => ?_)
                · have hf := (if_neg hc160).symm.trans hf
                  refine G_aload_n (x := some (79)) X dX6_readsRow_166 rfl rfl ?_
                  refine M_getI X fd_X6_124 rfl (show SH[79]? = some (_, 0) from rfl) dX6_readsRow_167 ?_
                  refine G_ineg X dX6_readsRow_170 ?_
                  obtain ⟨I161, hk161, hf⟩ := obd hf
                  refine G_callV (As := [vi (f6_asked ((I157 79 12) - 1)), vi (-(I157 79 16))]) X (f6_shiftOn_ok E I157 (f6_asked ((I157 79 12) - 1)) (-(I157 79 16)) I161 hk161) cb_X6_102 vi_X6_shiftOn (ci := 5) rfl rfl (show SH[79]? = some (_, 0) from rfl) rfl rfl (Nat.le_of_ble_eq_true rfl) (by decide) (by decide) rfl (Nat.le_refl _) (Nat.le_refl _) dX6_readsRow_171 ?_
                  show G E κ _ _ _ [some (vr 79), some (vi (I145 79 8)), some (vi v143)] [] (mm I161)
                  refine G_aload_n (x := some (79)) X dX6_readsRow_174 rfl rfl ?_
                  obtain ⟨I162, hk162, hf⟩ := obd hf
                  refine G_callV (As := []) X (f6_closeFactor_ok E I161  I162 hk162) cb_X6_157 vi_X6_closeFactor (ci := 5) rfl rfl (show SH[79]? = some (_, 0) from rfl) rfl rfl (Nat.le_of_ble_eq_true rfl) (by decide) (by decide) rfl (Nat.le_refl _) (Nat.le_refl _) dX6_readsRow_175 ?_
                  show G E κ _ _ _ [some (vr 79), some (vi (I145 79 8)), some (vi v143)] [] (mm I162)
                  refine G_iconst (v := 1) X dX6_readsRow_178 rfl ?_
                  obtain ⟨rfl, rfl⟩ := Prod.mk.inj (Option.some.inj hf)
                  exact G_iret X hR rfl (nar_b2i true) dX6_readsRow_179
                · have hf := (if_pos hc160).symm.trans hf
                  refine G_aload_n (x := some (79)) X dX6_readsRow_159 rfl rfl ?_
                  refine M_getI X fd_X6_124 rfl (show SH[79]? = some (_, 0) from rfl) dX6_readsRow_160 ?_
                  refine G_goto (tgt := 171) X dX6_readsRow_163 (by decide) ?_
                  obtain ⟨I163, hk163, hf⟩ := obd hf
                  refine G_callV (As := [vi (f6_asked ((I157 79 12) - 1)), vi (I157 79 16)]) X (f6_shiftOn_ok E I157 (f6_asked ((I157 79 12) - 1)) (I157 79 16) I163 hk163) cb_X6_102 vi_X6_shiftOn (ci := 5) rfl rfl (show SH[79]? = some (_, 0) from rfl) rfl rfl (Nat.le_of_ble_eq_true rfl) (by decide) (by decide) rfl (Nat.le_refl _) (Nat.le_refl _) dX6_readsRow_171 ?_
                  show G E κ _ _ _ [some (vr 79), some (vi (I145 79 8)), some (vi v143)] [] (mm I163)
                  refine G_aload_n (x := some (79)) X dX6_readsRow_174 rfl rfl ?_
                  obtain ⟨I164, hk164, hf⟩ := obd hf
                  refine G_callV (As := []) X (f6_closeFactor_ok E I163  I164 hk164) cb_X6_157 vi_X6_closeFactor (ci := 5) rfl rfl (show SH[79]? = some (_, 0) from rfl) rfl rfl (Nat.le_of_ble_eq_true rfl) (by decide) (by decide) rfl (Nat.le_refl _) (Nat.le_refl _) dX6_readsRow_175 ?_
                  show G E κ _ _ _ [some (vr 79), some (vi (I145 79 8)), some (vi v143)] [] (mm I164)
                  refine G_iconst (v := 1) X dX6_readsRow_178 rfl ?_
                  obtain ⟨rfl, rfl⟩ := Prod.mk.inj (Option.some.inj hf)
                  exact G_iret X hR rfl (nar_b2i true) dX6_readsRow_179
          · have hf := (if_neg (b2i_f hc147)).symm.trans hf
            refine G_iconst (v := 0) X dX6_readsRow_114 rfl ?_
            obtain ⟨rfl, rfl⟩ := Prod.mk.inj (Option.some.inj hf)
            exact G_iret X hR rfl (nar_b2i false) dX6_readsRow_115
        · have hf := (if_neg hc144).symm.trans hf
          refine G_iload_n (x := v143) X dX6_readsRow_81 rfl rfl ?_
          refine G_bipush (v := 62) X dX6_readsRow_82 rfl ?_
          refine G_icmp_ne (tgt := 174) X dX6_readsRow_84 (by decide) (fun hc165 => ?_) (fun hc165 => ?_)
          · have hf := (if_neg hc165).symm.trans hf
            refine G_aload_n (x := some (79)) X dX6_readsRow_174 rfl rfl ?_
            obtain ⟨I166, hk166, hf⟩ := obd hf
            refine G_callV (As := []) X (f6_closeFactor_ok E I143  I166 hk166) cb_X6_157 vi_X6_closeFactor (ci := 5) rfl rfl (show SH[79]? = some (_, 0) from rfl) rfl rfl (Nat.le_of_ble_eq_true rfl) (by decide) (by decide) rfl (Nat.le_refl _) (Nat.le_refl _) dX6_readsRow_175 ?_
            show G E κ _ _ _ [some (vr 79), some (vi (I 79 8)), some (vi v143)] [] (mm I166)
            refine G_iconst (v := 1) X dX6_readsRow_178 rfl ?_
            obtain ⟨rfl, rfl⟩ := Prod.mk.inj (Option.some.inj hf)
            exact G_iret X hR rfl (nar_b2i true) dX6_readsRow_179
          · have hf := (if_pos hc165).symm.trans hf
            refine G_aload_n (x := some (79)) X dX6_readsRow_87 rfl rfl ?_
            refine G_dup X dX6_readsRow_88 ?_
            refine M_getI X fd_X6_108 rfl (show SH[79]? = some (_, 0) from rfl) dX6_readsRow_89 ?_
            refine G_iconst (v := 1) X dX6_readsRow_92 rfl ?_
            refine G_iadd X dX6_readsRow_93 ?_
            refine M_putI X fd_X6_108 rfl (show SH[79]? = some (_, 0) from rfl) rfl rfl dX6_readsRow_94 ?_
            refine G_aload_n (x := some (79)) X dX6_readsRow_97 rfl rfl ?_
            obtain ⟨⟨v167, I167⟩, hk167, hf⟩ := obd hf
            try dsimp only at hf
            refine G_callV (As := []) X (f6_code_ok E (uI I143 79 8 ((I143 79 8) + 1))  v167 I167 hk167) cb_X6_120 vi_X6_code (ci := 5) rfl rfl (show SH[79]? = some (_, 0) from rfl) rfl rfl (Nat.le_of_ble_eq_true rfl) (by decide) (by decide) rfl (Nat.le_refl _) (Nat.le_refl _) dX6_readsRow_98 ?_
            show G E κ _ _ _ [some (vr 79), some (vi (I 79 8)), some (vi v143)] [vi v167] (mm I167)
            refine G_pop X dX6_readsRow_101 ?_
            refine G_aload_n (x := some (79)) X dX6_readsRow_102 rfl rfl ?_
            refine M_getI X fd_X6_108 rfl (show SH[79]? = some (_, 0) from rfl) dX6_readsRow_103 ?_
            refine G_istore_n X dX6_readsRow_106 rfl (Nat.le_of_ble_eq_true rfl) (ls' := [some (vr 79), some (vi (I167 79 8)), some (vi v143)]) rfl ?_
            refine G_aload_n (x := some (79)) X dX6_readsRow_107 rfl rfl ?_
            obtain ⟨⟨v168, I168⟩, hk168, hf⟩ := obd hf
            try dsimp only at hf
            refine G_callV (As := []) X (f6_readsNumber_ok E I167  v168 I168 hk168) cb_X6_149 vi_X6_readsNumber (ci := 5) rfl rfl (show SH[79]? = some (_, 0) from rfl) rfl rfl (Nat.le_of_ble_eq_true rfl) (by decide) (by decide) rfl (Nat.le_refl _) (Nat.le_refl _) dX6_readsRow_108 ?_
            show G E κ _ _ _ [some (vr 79), some (vi (I167 79 8)), some (vi v143)] [vi (b2i v168)] (mm I168)
            refine G_if_ne (tgt := 116) X dX6_readsRow_111 (by decide) (fun hc169 => ?_) (fun hc169 => ?_)
            · have hf := (if_pos (b2i_t hc169)).symm.trans hf
              refine G_aload_n (x := some (79)) X dX6_readsRow_116 rfl rfl ?_
              refine G_aload_n (x := some (79)) X dX6_readsRow_117 rfl rfl ?_
              refine M_getI X fd_X6_124 rfl (show SH[79]? = some (_, 0) from rfl) dX6_readsRow_118 ?_
              refine G_sipush (v := 600) X dX6_readsRow_121 rfl ?_
              refine G_icmp_le (tgt := 131) X dX6_readsRow_124 (by decide) (fun hc170 => ?_) (fun hc170 => ?_)
              · have hf := (if_pos hc170).symm.trans hf
                refine G_iconst (v := 0) X dX6_readsRow_131 rfl ?_
                refine G_iload_n (x := I167 79 8) X dX6_readsRow_132 rfl rfl ?_
                obtain ⟨I171, hk171, hf⟩ := obd hf
                refine G_callV (As := [vi 0, vi (I167 79 8)]) X (f6_wrong_ok E I168 0 (I167 79 8) I171 hk171) cb_X6_153 vi_X6_wrong (ci := 5) rfl rfl (show SH[79]? = some (_, 0) from rfl) rfl rfl (Nat.le_of_ble_eq_true rfl) (by decide) (by decide) rfl (Nat.le_refl _) (Nat.le_refl _) dX6_readsRow_133 ?_
                show G E κ _ _ _ [some (vr 79), some (vi (I167 79 8)), some (vi v143)] [] (mm I171)
                refine G_aload_n (x := some (79)) X dX6_readsRow_136 rfl rfl ?_
                refine M_getI X fd_X6_142 rfl (show SH[79]? = some (_, 0) from rfl) dX6_readsRow_137 ?_
                refine G_if_eq (tgt := 174) X dX6_readsRow_140 (by decide) (fun hc172 => ?_) (fun hc172 => ?_)
                · have hf := (if_pos hc172).symm.trans hf
                  refine G_aload_n (x := some (79)) X dX6_readsRow_174 rfl rfl ?_
                  obtain ⟨I173, hk173, hf⟩ := obd hf
                  refine G_callV (As := []) X (f6_closeFactor_ok E I171  I173 hk173) cb_X6_157 vi_X6_closeFactor (ci := 5) rfl rfl (show SH[79]? = some (_, 0) from rfl) rfl rfl (Nat.le_of_ble_eq_true rfl) (by decide) (by decide) rfl (Nat.le_refl _) (Nat.le_refl _) dX6_readsRow_175 ?_
                  show G E κ _ _ _ [some (vr 79), some (vi (I167 79 8)), some (vi v143)] [] (mm I173)
                  refine G_iconst (v := 1) X dX6_readsRow_178 rfl ?_
                  obtain ⟨rfl, rfl⟩ := Prod.mk.inj (Option.some.inj hf)
                  exact G_iret X hR rfl (nar_b2i true) dX6_readsRow_179
                · have hf := (if_neg hc172).symm.trans hf
                  refine G_aload_n (x := some (79)) X dX6_readsRow_143 rfl rfl ?_
                  refine G_aload_n (x := some (79)) X dX6_readsRow_144 rfl rfl ?_
                  refine M_getI X fd_X6_139 rfl (show SH[79]? = some (_, 0) from rfl) dX6_readsRow_145 ?_
                  refine G_iconst (v := 1) X dX6_readsRow_148 rfl ?_
                  refine G_isub X dX6_readsRow_149 ?_
                  refine G_callS (As := [vi ((I171 79 12) - 1)]) X (f6_asked_ok E I171 ((I171 79 12) - 1) _ rfl) cb_X6_54 st_X6_asked rfl rfl (Nat.le_of_ble_eq_true rfl) (by decide) (by decide) rfl (Nat.le_refl _) (Nat.le_refl _) dX6_readsRow_150 ?_
                  show G E κ _ _ _ [some (vr 79), some (vi (I167 79 8)), some (vi v143)] [vi (f6_asked ((I171 79 12) - 1)), vr 79] (mm I171)
                  refine G_iload_n (x := v143) X dX6_readsRow_153 rfl rfl ?_
                  refine G_bipush (v := 60) X dX6_readsRow_154 rfl ?_
                  refine G_icmp_ne (tgt := 166) X dX6_readsRow_156 (by decide) (fun hc174 => ?_) (fun hc174 => ?_)
                  · have hf := (if_neg hc174).symm.trans hf
                    refine G_aload_n (x := some (79)) X dX6_readsRow_166 rfl rfl ?_
                    refine M_getI X fd_X6_124 rfl (show SH[79]? = some (_, 0) from rfl) dX6_readsRow_167 ?_
                    refine G_ineg X dX6_readsRow_170 ?_
                    obtain ⟨I175, hk175, hf⟩ := obd hf
                    refine G_callV (As := [vi (f6_asked ((I171 79 12) - 1)), vi (-(I171 79 16))]) X (f6_shiftOn_ok E I171 (f6_asked ((I171 79 12) - 1)) (-(I171 79 16)) I175 hk175) cb_X6_102 vi_X6_shiftOn (ci := 5) rfl rfl (show SH[79]? = some (_, 0) from rfl) rfl rfl (Nat.le_of_ble_eq_true rfl) (by decide) (by decide) rfl (Nat.le_refl _) (Nat.le_refl _) dX6_readsRow_171 ?_
                    show G E κ _ _ _ [some (vr 79), some (vi (I167 79 8)), some (vi v143)] [] (mm I175)
                    refine G_aload_n (x := some (79)) X dX6_readsRow_174 rfl rfl ?_
                    obtain ⟨I176, hk176, hf⟩ := obd hf
                    refine G_callV (As := []) X (f6_closeFactor_ok E I175  I176 hk176) cb_X6_157 vi_X6_closeFactor (ci := 5) rfl rfl (show SH[79]? = some (_, 0) from rfl) rfl rfl (Nat.le_of_ble_eq_true rfl) (by decide) (by decide) rfl (Nat.le_refl _) (Nat.le_refl _) dX6_readsRow_175 ?_
                    show G E κ _ _ _ [some (vr 79), some (vi (I167 79 8)), some (vi v143)] [] (mm I176)
                    refine G_iconst (v := 1) X dX6_readsRow_178 rfl ?_
                    obtain ⟨rfl, rfl⟩ := Prod.mk.inj (Option.some.inj hf)
                    exact G_iret X hR rfl (nar_b2i true) dX6_readsRow_179
                  · have hf := (if_pos hc174).symm.trans hf
                    refine G_aload_n (x := some (79)) X dX6_readsRow_159 rfl rfl ?_
                    refine M_getI X fd_X6_124 rfl (show SH[79]? = some (_, 0) from rfl) dX6_readsRow_160 ?_
                    refine G_goto (tgt := 171) X dX6_readsRow_163 (by decide) ?_
                    obtain ⟨I177, hk177, hf⟩ := obd hf
                    refine G_callV (As := [vi (f6_asked ((I171 79 12) - 1)), vi (I171 79 16)]) X (f6_shiftOn_ok E I171 (f6_asked ((I171 79 12) - 1)) (I171 79 16) I177 hk177) cb_X6_102 vi_X6_shiftOn (ci := 5) rfl rfl (show SH[79]? = some (_, 0) from rfl) rfl rfl (Nat.le_of_ble_eq_true rfl) (by decide) (by decide) rfl (Nat.le_refl _) (Nat.le_refl _) dX6_readsRow_171 ?_
                    show G E κ _ _ _ [some (vr 79), some (vi (I167 79 8)), some (vi v143)] [] (mm I177)
                    refine G_aload_n (x := some (79)) X dX6_readsRow_174 rfl rfl ?_
                    obtain ⟨I178, hk178, hf⟩ := obd hf
                    refine G_callV (As := []) X (f6_closeFactor_ok E I177  I178 hk178) cb_X6_157 vi_X6_closeFactor (ci := 5) rfl rfl (show SH[79]? = some (_, 0) from rfl) rfl rfl (Nat.le_of_ble_eq_true rfl) (by decide) (by decide) rfl (Nat.le_refl _) (Nat.le_refl _) dX6_readsRow_175 ?_
                    show G E κ _ _ _ [some (vr 79), some (vi (I167 79 8)), some (vi v143)] [] (mm I178)
                    refine G_iconst (v := 1) X dX6_readsRow_178 rfl ?_
                    obtain ⟨rfl, rfl⟩ := Prod.mk.inj (Option.some.inj hf)
                    exact G_iret X hR rfl (nar_b2i true) dX6_readsRow_179
              · have hf := (if_neg hc170).symm.trans hf
                refine G_iconst (v := 1) X dX6_readsRow_127 rfl ?_
                refine G_goto (tgt := 132) X dX6_readsRow_128 (by decide) ?_
                refine G_iload_n (x := I167 79 8) X dX6_readsRow_132 rfl rfl ?_
                obtain ⟨I179, hk179, hf⟩ := obd hf
                refine G_callV (As := [vi 1, vi (I167 79 8)]) X (f6_wrong_ok E I168 1 (I167 79 8) I179 hk179) cb_X6_153 vi_X6_wrong (ci := 5) rfl rfl (show SH[79]? = some (_, 0) from rfl) rfl rfl (Nat.le_of_ble_eq_true rfl) (by decide) (by decide) rfl (Nat.le_refl _) (Nat.le_refl _) dX6_readsRow_133 ?_
                show G E κ _ _ _ [some (vr 79), some (vi (I167 79 8)), some (vi v143)] [] (mm I179)
                refine G_aload_n (x := some (79)) X dX6_readsRow_136 rfl rfl ?_
                refine M_getI X fd_X6_142 rfl (show SH[79]? = some (_, 0) from rfl) dX6_readsRow_137 ?_
                refine G_if_eq (tgt := 174) X dX6_readsRow_140 (by decide) (fun hc180 => ?_) (fun hc180 => ?_)
                · have hf := (if_pos hc180).symm.trans hf
                  refine G_aload_n (x := some (79)) X dX6_readsRow_174 rfl rfl ?_
                  obtain ⟨I181, hk181, hf⟩ := obd hf
                  refine G_callV (As := []) X (f6_closeFactor_ok E I179  I181 hk181) cb_X6_157 vi_X6_closeFactor (ci := 5) rfl rfl (show SH[79]? = some (_, 0) from rfl) rfl rfl (Nat.le_of_ble_eq_true rfl) (by decide) (by decide) rfl (Nat.le_refl _) (Nat.le_refl _) dX6_readsRow_175 ?_
                  show G E κ _ _ _ [some (vr 79), some (vi (I167 79 8)), some (vi v143)] [] (mm I181)
                  refine G_iconst (v := 1) X dX6_readsRow_178 rfl ?_
                  obtain ⟨rfl, rfl⟩ := Prod.mk.inj (Option.some.inj hf)
                  exact G_iret X hR rfl (nar_b2i true) dX6_readsRow_179
                · have hf := (if_neg hc180).symm.trans hf
                  refine G_aload_n (x := some (79)) X dX6_readsRow_143 rfl rfl ?_
                  refine G_aload_n (x := some (79)) X dX6_readsRow_144 rfl rfl ?_
                  refine M_getI X fd_X6_139 rfl (show SH[79]? = some (_, 0) from rfl) dX6_readsRow_145 ?_
                  refine G_iconst (v := 1) X dX6_readsRow_148 rfl ?_
                  refine G_isub X dX6_readsRow_149 ?_
                  refine G_callS (As := [vi ((I179 79 12) - 1)]) X (f6_asked_ok E I179 ((I179 79 12) - 1) _ rfl) cb_X6_54 st_X6_asked rfl rfl (Nat.le_of_ble_eq_true rfl) (by decide) (by decide) rfl (Nat.le_refl _) (Nat.le_refl _) dX6_readsRow_150 ?_
                  show G E κ _ _ _ [some (vr 79), some (vi (I167 79 8)), some (vi v143)] [vi (f6_asked ((I179 79 12) - 1)), vr 79] (mm I179)
                  refine G_iload_n (x := v143) X dX6_readsRow_153 rfl rfl ?_
                  refine G_bipush (v := 60) X dX6_readsRow_154 rfl ?_
                  refine G_icmp_ne (tgt := 166) X dX6_readsRow_156 (by decide) (fun hc182 => ?_) (fun hc182 => ?_)
                  · have hf := (if_neg hc182).symm.trans hf
                    refine G_aload_n (x := some (79)) X dX6_readsRow_166 rfl rfl ?_
                    refine M_getI X fd_X6_124 rfl (show SH[79]? = some (_, 0) from rfl) dX6_readsRow_167 ?_
                    refine G_ineg X dX6_readsRow_170 ?_
                    obtain ⟨I183, hk183, hf⟩ := obd hf
                    refine G_callV (As := [vi (f6_asked ((I179 79 12) - 1)), vi (-(I179 79 16))]) X (f6_shiftOn_ok E I179 (f6_asked ((I179 79 12) - 1)) (-(I179 79 16)) I183 hk183) cb_X6_102 vi_X6_shiftOn (ci := 5) rfl rfl (show SH[79]? = some (_, 0) from rfl) rfl rfl (Nat.le_of_ble_eq_true rfl) (by decide) (by decide) rfl (Nat.le_refl _) (Nat.le_refl _) dX6_readsRow_171 ?_
                    show G E κ _ _ _ [some (vr 79), some (vi (I167 79 8)), some (vi v143)] [] (mm I183)
                    refine G_aload_n (x := some (79)) X dX6_readsRow_174 rfl rfl ?_
                    obtain ⟨I184, hk184, hf⟩ := obd hf
                    refine G_callV (As := []) X (f6_closeFactor_ok E I183  I184 hk184) cb_X6_157 vi_X6_closeFactor (ci := 5) rfl rfl (show SH[79]? = some (_, 0) from rfl) rfl rfl (Nat.le_of_ble_eq_true rfl) (by decide) (by decide) rfl (Nat.le_refl _) (Nat.le_refl _) dX6_readsRow_175 ?_
                    show G E κ _ _ _ [some (vr 79), some (vi (I167 79 8)), some (vi v143)] [] (mm I184)
                    refine G_iconst (v := 1) X dX6_readsRow_178 rfl ?_
                    obtain ⟨rfl, rfl⟩ := Prod.mk.inj (Option.some.inj hf)
                    exact G_iret X hR rfl (nar_b2i true) dX6_readsRow_179
                  · have hf := (if_pos hc182).symm.trans hf
                    refine G_aload_n (x := some (79)) X dX6_readsRow_159 rfl rfl ?_
                    refine M_getI X fd_X6_124 rfl (show SH[79]? = some (_, 0) from rfl) dX6_readsRow_160 ?_
                    refine G_goto (tgt := 171) X dX6_readsRow_163 (by decide) ?_
                    obtain ⟨I185, hk185, hf⟩ := obd hf
                    refine G_callV (As := [vi (f6_asked ((I179 79 12) - 1)), vi (I179 79 16)]) X (f6_shiftOn_ok E I179 (f6_asked ((I179 79 12) - 1)) (I179 79 16) I185 hk185) cb_X6_102 vi_X6_shiftOn (ci := 5) rfl rfl (show SH[79]? = some (_, 0) from rfl) rfl rfl (Nat.le_of_ble_eq_true rfl) (by decide) (by decide) rfl (Nat.le_refl _) (Nat.le_refl _) dX6_readsRow_171 ?_
                    show G E κ _ _ _ [some (vr 79), some (vi (I167 79 8)), some (vi v143)] [] (mm I185)
                    refine G_aload_n (x := some (79)) X dX6_readsRow_174 rfl rfl ?_
                    obtain ⟨I186, hk186, hf⟩ := obd hf
                    refine G_callV (As := []) X (f6_closeFactor_ok E I185  I186 hk186) cb_X6_157 vi_X6_closeFactor (ci := 5) rfl rfl (show SH[79]? = some (_, 0) from rfl) rfl rfl (Nat.le_of_ble_eq_true rfl) (by decide) (by decide) rfl (Nat.le_refl _) (Nat.le_refl _) dX6_readsRow_175 ?_
                    show G E κ _ _ _ [some (vr 79), some (vi (I167 79 8)), some (vi v143)] [] (mm I186)
                    refine G_iconst (v := 1) X dX6_readsRow_178 rfl ?_
                    obtain ⟨rfl, rfl⟩ := Prod.mk.inj (Option.some.inj hf)
                    exact G_iret X hR rfl (nar_b2i true) dX6_readsRow_179
            · have hf := (if_neg (b2i_f hc169)).symm.trans hf
              refine G_iconst (v := 0) X dX6_readsRow_114 rfl ?_
              obtain ⟨rfl, rfl⟩ := Prod.mk.inj (Option.some.inj hf)
              exact G_iret X hR rfl (nar_b2i false) dX6_readsRow_115
  · have hf := (if_neg (b2i_f hc2)).symm.trans hf
    refine G_iconst (v := 0) X dX6_readsRow_12 rfl ?_
    obtain ⟨rfl, rfl⟩ := Prod.mk.inj (Option.some.inj hf)
    exact G_iret X hR rfl (nar_b2i false) dX6_readsRow_13

def f6_readsFactor_L5 : Nat → gI → Int32 → Option (Bool × gI)
  | 0, _, _ => none
  | k + 1, I, x1 => (if x1 = 40 then (if 8 ≤ (I 79 11) then (if (f6_in x1 48 57) = true then (f6_readsRow I).bind fun q5 => (if q5.1 = true then some (true, q5.2) else some (false, q5.2)) else some (false, I)) else (f6_push_ I x1).bind fun I7 => (f6_code (uI I7 79 8 ((I7 79 8) + 1))).bind fun q8 => f6_readsFactor_L5 k q8.2 q8.1) else (if x1 = 126 then (if 8 ≤ (I 79 11) then (if (f6_in x1 48 57) = true then (f6_readsRow I).bind fun q15 => (if q15.1 = true then some (true, q15.2) else some (false, q15.2)) else some (false, I)) else (f6_push_ I x1).bind fun I17 => (f6_code (uI I17 79 8 ((I17 79 8) + 1))).bind fun q18 => f6_readsFactor_L5 k q18.2 q18.1) else (if (f6_in x1 48 57) = true then (f6_readsRow I).bind fun q11 => (if q11.1 = true then some (true, q11.2) else some (false, q11.2)) else some (false, I))))
set_option maxRecDepth 100000 in
set_option maxHeartbeats 4000000 in
theorem f6_readsFactor_L5_ok {E : gEnv} {κ : gCtx} (X : Cx E κ cX6_readsFactor 2 RX6 (some .boolean) 4 0 0) : ∀ (k : Nat) (I : gI) (x1 : Int32) (r : Bool) (I' : gI) (hR : gRt E κ 0 0 (some (vi (b2i r))) (mm I')) (hf : f6_readsFactor_L5 k I x1 = some (r, I')), G E κ 0 0 5 [some (vr 79), some (vi x1)] [] (mm I) := by
  intro k
  induction k with
  | zero =>
    intros
    rename_i hf
    cases hf
  | succ k ih =>
    intro I x1 r I' hR hf
    refine G_iload_n (x := x1) X dX6_readsFactor_5 rfl rfl ?_
    refine G_bipush (v := 40) X dX6_readsFactor_6 rfl ?_
    refine G_icmp_eq (tgt := 17) X dX6_readsFactor_8 (by decide) (fun hc2 => ?_) (fun hc2 => ?_)
    · have hf := (if_pos hc2).symm.trans hf
      refine G_aload_n (x := some (79)) X dX6_readsFactor_17 rfl rfl ?_
      refine M_getI X fd_X6_114 rfl (show SH[79]? = some (_, 0) from rfl) dX6_readsFactor_18 ?_
      refine G_bipush (v := 8) X dX6_readsFactor_21 rfl ?_
      refine G_icmp_ge (tgt := 49) X dX6_readsFactor_23 (by decide) (fun hc3 => ?_) (fun hc3 => ?_)
      · have hf := (if_pos hc3).symm.trans hf
        refine G_iload_n (x := x1) X dX6_readsFactor_49 rfl rfl ?_
        refine G_bipush (v := 48) X dX6_readsFactor_50 rfl ?_
        refine G_bipush (v := 57) X dX6_readsFactor_52 rfl ?_
        refine G_callS (As := [vi x1, vi 48, vi 57]) X (f6_in_ok E I x1 48 57 _ rfl) cb_X6_31 st_X6_in rfl rfl (Nat.le_of_ble_eq_true rfl) (by decide) (by decide) rfl (Nat.le_refl _) (Nat.le_refl _) dX6_readsFactor_54 ?_
        show G E κ _ _ _ [some (vr 79), some (vi x1)] [vi (b2i (f6_in x1 48 57))] (mm I)
        refine G_if_eq (tgt := 71) X dX6_readsFactor_57 (by decide) (fun hc4 => ?_) (fun hc4 => ?_)
        · have hf := (if_neg (b2i_f hc4)).symm.trans hf
          refine G_iconst (v := 0) X dX6_readsFactor_71 rfl ?_
          obtain ⟨rfl, rfl⟩ := Prod.mk.inj (Option.some.inj hf)
          exact G_iret X hR rfl (nar_b2i false) dX6_readsFactor_72
        · have hf := (if_pos (b2i_t hc4)).symm.trans hf
          refine G_aload_n (x := some (79)) X dX6_readsFactor_60 rfl rfl ?_
          obtain ⟨⟨v5, I5⟩, hk5, hf⟩ := obd hf
          try dsimp only at hf
          refine G_callV (As := []) X (f6_readsRow_ok E I  v5 I5 hk5) cb_X6_162 vi_X6_readsRow (ci := 5) rfl rfl (show SH[79]? = some (_, 0) from rfl) rfl rfl (Nat.le_of_ble_eq_true rfl) (by decide) (by decide) rfl (Nat.le_refl _) (Nat.le_refl _) dX6_readsFactor_61 ?_
          show G E κ _ _ _ [some (vr 79), some (vi x1)] [vi (b2i v5)] (mm I5)
          refine G_if_eq (tgt := 71) X dX6_readsFactor_64 (by decide) (fun hc6 => ?_) (fun hc6 => ?_)
          · have hf := (if_neg (b2i_f hc6)).symm.trans hf
            refine G_iconst (v := 0) X dX6_readsFactor_71 rfl ?_
            obtain ⟨rfl, rfl⟩ := Prod.mk.inj (Option.some.inj hf)
            exact G_iret X hR rfl (nar_b2i false) dX6_readsFactor_72
          · have hf := (if_pos (b2i_t hc6)).symm.trans hf
            refine G_iconst (v := 1) X dX6_readsFactor_67 rfl ?_
            refine G_goto (tgt := 72) X dX6_readsFactor_68 (by decide) ?_
            obtain ⟨rfl, rfl⟩ := Prod.mk.inj (Option.some.inj hf)
            exact G_iret X hR rfl (nar_b2i true) dX6_readsFactor_72
      · have hf := (if_neg hc3).symm.trans hf
        refine G_aload_n (x := some (79)) X dX6_readsFactor_26 rfl rfl ?_
        refine G_iload_n (x := x1) X dX6_readsFactor_27 rfl rfl ?_
        obtain ⟨I7, hk7, hf⟩ := obd hf
        refine G_callV (As := [vi x1]) X (f6_push__ok E I x1 I7 hk7) cb_X6_160 vi_X6_push_ (ci := 5) rfl rfl (show SH[79]? = some (_, 0) from rfl) rfl rfl (Nat.le_of_ble_eq_true rfl) (by decide) (by decide) rfl (Nat.le_refl _) (Nat.le_refl _) dX6_readsFactor_28 ?_
        show G E κ _ _ _ [some (vr 79), some (vi x1)] [] (mm I7)
        refine G_aload_n (x := some (79)) X dX6_readsFactor_31 rfl rfl ?_
        refine G_dup X dX6_readsFactor_32 ?_
        refine M_getI X fd_X6_108 rfl (show SH[79]? = some (_, 0) from rfl) dX6_readsFactor_33 ?_
        refine G_iconst (v := 1) X dX6_readsFactor_36 rfl ?_
        refine G_iadd X dX6_readsFactor_37 ?_
        refine M_putI X fd_X6_108 rfl (show SH[79]? = some (_, 0) from rfl) rfl rfl dX6_readsFactor_38 ?_
        refine G_aload_n (x := some (79)) X dX6_readsFactor_41 rfl rfl ?_
        obtain ⟨⟨v8, I8⟩, hk8, hf⟩ := obd hf
        try dsimp only at hf
        refine G_callV (As := []) X (f6_code_ok E (uI I7 79 8 ((I7 79 8) + 1))  v8 I8 hk8) cb_X6_120 vi_X6_code (ci := 5) rfl rfl (show SH[79]? = some (_, 0) from rfl) rfl rfl (Nat.le_of_ble_eq_true rfl) (by decide) (by decide) rfl (Nat.le_refl _) (Nat.le_refl _) dX6_readsFactor_42 ?_
        show G E κ _ _ _ [some (vr 79), some (vi x1)] [vi v8] (mm I8)
        refine G_istore_n X dX6_readsFactor_45 rfl (Nat.le_of_ble_eq_true rfl) (ls' := [some (vr 79), some (vi v8)]) rfl ?_
        refine G_goto (tgt := 5) X dX6_readsFactor_46 (by decide) ?_
        exact ih I8 v8 _ _ hR hf
    · have hf := (if_neg hc2).symm.trans hf
      refine G_iload_n (x := x1) X dX6_readsFactor_11 rfl rfl ?_
      refine G_bipush (v := 126) X dX6_readsFactor_12 rfl ?_
      refine G_icmp_ne (tgt := 49) X dX6_readsFactor_14 (by decide) (fun hc9 => ?_) (fun hc9 => ?_)
      · have hf := (if_neg hc9).symm.trans hf
        refine G_iload_n (x := x1) X dX6_readsFactor_49 rfl rfl ?_
        refine G_bipush (v := 48) X dX6_readsFactor_50 rfl ?_
        refine G_bipush (v := 57) X dX6_readsFactor_52 rfl ?_
        refine G_callS (As := [vi x1, vi 48, vi 57]) X (f6_in_ok E I x1 48 57 _ rfl) cb_X6_31 st_X6_in rfl rfl (Nat.le_of_ble_eq_true rfl) (by decide) (by decide) rfl (Nat.le_refl _) (Nat.le_refl _) dX6_readsFactor_54 ?_
        show G E κ _ _ _ [some (vr 79), some (vi x1)] [vi (b2i (f6_in x1 48 57))] (mm I)
        refine G_if_eq (tgt := 71) X dX6_readsFactor_57 (by decide) (fun hc10 => ?_) (fun hc10 => ?_)
        · have hf := (if_neg (b2i_f hc10)).symm.trans hf
          refine G_iconst (v := 0) X dX6_readsFactor_71 rfl ?_
          obtain ⟨rfl, rfl⟩ := Prod.mk.inj (Option.some.inj hf)
          exact G_iret X hR rfl (nar_b2i false) dX6_readsFactor_72
        · have hf := (if_pos (b2i_t hc10)).symm.trans hf
          refine G_aload_n (x := some (79)) X dX6_readsFactor_60 rfl rfl ?_
          obtain ⟨⟨v11, I11⟩, hk11, hf⟩ := obd hf
          try dsimp only at hf
          refine G_callV (As := []) X (f6_readsRow_ok E I  v11 I11 hk11) cb_X6_162 vi_X6_readsRow (ci := 5) rfl rfl (show SH[79]? = some (_, 0) from rfl) rfl rfl (Nat.le_of_ble_eq_true rfl) (by decide) (by decide) rfl (Nat.le_refl _) (Nat.le_refl _) dX6_readsFactor_61 ?_
          show G E κ _ _ _ [some (vr 79), some (vi x1)] [vi (b2i v11)] (mm I11)
          refine G_if_eq (tgt := 71) X dX6_readsFactor_64 (by decide) (fun hc12 => ?_) (fun hc12 => ?_)
          · have hf := (if_neg (b2i_f hc12)).symm.trans hf
            refine G_iconst (v := 0) X dX6_readsFactor_71 rfl ?_
            obtain ⟨rfl, rfl⟩ := Prod.mk.inj (Option.some.inj hf)
            exact G_iret X hR rfl (nar_b2i false) dX6_readsFactor_72
          · have hf := (if_pos (b2i_t hc12)).symm.trans hf
            refine G_iconst (v := 1) X dX6_readsFactor_67 rfl ?_
            refine G_goto (tgt := 72) X dX6_readsFactor_68 (by decide) ?_
            obtain ⟨rfl, rfl⟩ := Prod.mk.inj (Option.some.inj hf)
            exact G_iret X hR rfl (nar_b2i true) dX6_readsFactor_72
      · have hf := (if_pos hc9).symm.trans hf
        refine G_aload_n (x := some (79)) X dX6_readsFactor_17 rfl rfl ?_
        refine M_getI X fd_X6_114 rfl (show SH[79]? = some (_, 0) from rfl) dX6_readsFactor_18 ?_
        refine G_bipush (v := 8) X dX6_readsFactor_21 rfl ?_
        refine G_icmp_ge (tgt := 49) X dX6_readsFactor_23 (by decide) (fun hc13 => ?_) (fun hc13 => ?_)
        · have hf := (if_pos hc13).symm.trans hf
          refine G_iload_n (x := x1) X dX6_readsFactor_49 rfl rfl ?_
          refine G_bipush (v := 48) X dX6_readsFactor_50 rfl ?_
          refine G_bipush (v := 57) X dX6_readsFactor_52 rfl ?_
          refine G_callS (As := [vi x1, vi 48, vi 57]) X (f6_in_ok E I x1 48 57 _ rfl) cb_X6_31 st_X6_in rfl rfl (Nat.le_of_ble_eq_true rfl) (by decide) (by decide) rfl (Nat.le_refl _) (Nat.le_refl _) dX6_readsFactor_54 ?_
          show G E κ _ _ _ [some (vr 79), some (vi x1)] [vi (b2i (f6_in x1 48 57))] (mm I)
          refine G_if_eq (tgt := 71) X dX6_readsFactor_57 (by decide) (fun hc14 => ?_) (fun hc14 => ?_)
          · have hf := (if_neg (b2i_f hc14)).symm.trans hf
            refine G_iconst (v := 0) X dX6_readsFactor_71 rfl ?_
            obtain ⟨rfl, rfl⟩ := Prod.mk.inj (Option.some.inj hf)
            exact G_iret X hR rfl (nar_b2i false) dX6_readsFactor_72
          · have hf := (if_pos (b2i_t hc14)).symm.trans hf
            refine G_aload_n (x := some (79)) X dX6_readsFactor_60 rfl rfl ?_
            obtain ⟨⟨v15, I15⟩, hk15, hf⟩ := obd hf
            try dsimp only at hf
            refine G_callV (As := []) X (f6_readsRow_ok E I  v15 I15 hk15) cb_X6_162 vi_X6_readsRow (ci := 5) rfl rfl (show SH[79]? = some (_, 0) from rfl) rfl rfl (Nat.le_of_ble_eq_true rfl) (by decide) (by decide) rfl (Nat.le_refl _) (Nat.le_refl _) dX6_readsFactor_61 ?_
            show G E κ _ _ _ [some (vr 79), some (vi x1)] [vi (b2i v15)] (mm I15)
            refine G_if_eq (tgt := 71) X dX6_readsFactor_64 (by decide) (fun hc16 => ?_) (fun hc16 => ?_)
            · have hf := (if_neg (b2i_f hc16)).symm.trans hf
              refine G_iconst (v := 0) X dX6_readsFactor_71 rfl ?_
              obtain ⟨rfl, rfl⟩ := Prod.mk.inj (Option.some.inj hf)
              exact G_iret X hR rfl (nar_b2i false) dX6_readsFactor_72
            · have hf := (if_pos (b2i_t hc16)).symm.trans hf
              refine G_iconst (v := 1) X dX6_readsFactor_67 rfl ?_
              refine G_goto (tgt := 72) X dX6_readsFactor_68 (by decide) ?_
              obtain ⟨rfl, rfl⟩ := Prod.mk.inj (Option.some.inj hf)
              exact G_iret X hR rfl (nar_b2i true) dX6_readsFactor_72
        · have hf := (if_neg hc13).symm.trans hf
          refine G_aload_n (x := some (79)) X dX6_readsFactor_26 rfl rfl ?_
          refine G_iload_n (x := x1) X dX6_readsFactor_27 rfl rfl ?_
          obtain ⟨I17, hk17, hf⟩ := obd hf
          refine G_callV (As := [vi x1]) X (f6_push__ok E I x1 I17 hk17) cb_X6_160 vi_X6_push_ (ci := 5) rfl rfl (show SH[79]? = some (_, 0) from rfl) rfl rfl (Nat.le_of_ble_eq_true rfl) (by decide) (by decide) rfl (Nat.le_refl _) (Nat.le_refl _) dX6_readsFactor_28 ?_
          show G E κ _ _ _ [some (vr 79), some (vi x1)] [] (mm I17)
          refine G_aload_n (x := some (79)) X dX6_readsFactor_31 rfl rfl ?_
          refine G_dup X dX6_readsFactor_32 ?_
          refine M_getI X fd_X6_108 rfl (show SH[79]? = some (_, 0) from rfl) dX6_readsFactor_33 ?_
          refine G_iconst (v := 1) X dX6_readsFactor_36 rfl ?_
          refine G_iadd X dX6_readsFactor_37 ?_
          refine M_putI X fd_X6_108 rfl (show SH[79]? = some (_, 0) from rfl) rfl rfl dX6_readsFactor_38 ?_
          refine G_aload_n (x := some (79)) X dX6_readsFactor_41 rfl rfl ?_
          obtain ⟨⟨v18, I18⟩, hk18, hf⟩ := obd hf
          try dsimp only at hf
          refine G_callV (As := []) X (f6_code_ok E (uI I17 79 8 ((I17 79 8) + 1))  v18 I18 hk18) cb_X6_120 vi_X6_code (ci := 5) rfl rfl (show SH[79]? = some (_, 0) from rfl) rfl rfl (Nat.le_of_ble_eq_true rfl) (by decide) (by decide) rfl (Nat.le_refl _) (Nat.le_refl _) dX6_readsFactor_42 ?_
          show G E κ _ _ _ [some (vr 79), some (vi x1)] [vi v18] (mm I18)
          refine G_istore_n X dX6_readsFactor_45 rfl (Nat.le_of_ble_eq_true rfl) (ls' := [some (vr 79), some (vi v18)]) rfl ?_
          refine G_goto (tgt := 5) X dX6_readsFactor_46 (by decide) ?_
          exact ih I18 v18 _ _ hR hf

def f6_readsFactor (I : gI)  : Option (Bool × gI) := (f6_code I).bind fun q1 => f6_readsFactor_L5 FU q1.2 q1.1
set_option maxRecDepth 100000 in
set_option maxHeartbeats 4000000 in
theorem f6_readsFactor_ok (E : gEnv) (I : gI)  (r : Bool) (I' : gI) (hf : f6_readsFactor I  = some (r, I')) : Ctr E yX6_readsFactor cX6_readsFactor 2 (some .boolean) 4 0 0 [vr 79] (mm I) (some (vi (b2i r))) (mm I') := by
  refine Ctr.mk (by decide +kernel) (Nat.le_of_ble_eq_true rfl) fun κ X hR _ => ?_
  have X : Cx E κ cX6_readsFactor 2 RX6 (some .boolean) 4 0 0 := X
  show G E κ 0 0 0 [some (vr 79), none] [] (mm I)
  unfold f6_readsFactor at hf
  refine G_aload_n (x := some (79)) X dX6_readsFactor_0 rfl rfl ?_
  obtain ⟨⟨v1, I1⟩, hk1, hf⟩ := obd hf
  try dsimp only at hf
  refine G_callV (As := []) X (f6_code_ok E I  v1 I1 hk1) cb_X6_120 vi_X6_code (ci := 5) rfl rfl (show SH[79]? = some (_, 0) from rfl) rfl rfl (Nat.le_of_ble_eq_true rfl) (by decide) (by decide) rfl (Nat.le_refl _) (Nat.le_refl _) dX6_readsFactor_1 ?_
  show G E κ _ _ _ [some (vr 79), none] [vi v1] (mm I1)
  refine G_istore_n X dX6_readsFactor_4 rfl (Nat.le_of_ble_eq_true rfl) (ls' := [some (vr 79), some (vi v1)]) rfl ?_
  exact f6_readsFactor_L5_ok X FU I1 v1 _ _ hR hf

def f6_readsOn_L5 : Nat → gI → Int32 → Option (Bool × gI)
  | 0, _, _ => none
  | k + 1, I, x1 => (if x1 = 41 then (f6_doTo I 1).bind fun I6 => (f6_top I6).bind fun v7 => (if v7 = 40 then (f6_pop I6).bind fun q9 => (f6_closeFactor q9.2).bind fun I10 => (f6_code (uI I10 79 8 ((I10 79 8) + 1))).bind fun q11 => f6_readsOn_L5 k q11.2 q11.1 else some (false, I6)) else (if (f6_rank x1) = 0 then some (false, I) else (f6_doTo I (f6_rank x1)).bind fun I4 => (f6_push_ I4 x1).bind fun I5 => some (true, uI I5 79 8 ((I5 79 8) + 1))))
set_option maxRecDepth 100000 in
set_option maxHeartbeats 4000000 in
theorem f6_readsOn_L5_ok {E : gEnv} {κ : gCtx} (X : Cx E κ cX6_readsOn 2 RX6 (some .boolean) 3 0 0) : ∀ (k : Nat) (I : gI) (x1 : Int32) (r : Bool) (I' : gI) (hR : gRt E κ 0 0 (some (vi (b2i r))) (mm I')) (hf : f6_readsOn_L5 k I x1 = some (r, I')), G E κ 0 0 5 [some (vr 79), some (vi x1)] [] (mm I) := by
  intro k
  induction k with
  | zero =>
    intros
    rename_i hf
    cases hf
  | succ k ih =>
    intro I x1 r I' hR hf
    refine G_iload_n (x := x1) X dX6_readsOn_5 rfl rfl ?_
    refine G_bipush (v := 41) X dX6_readsOn_6 rfl ?_
    refine G_icmp_ne (tgt := 54) X dX6_readsOn_8 (by decide) (fun hc2 => ?_) (fun hc2 => ?_)
    · have hf := (if_neg hc2).symm.trans hf
      refine G_iload_n (x := x1) X dX6_readsOn_54 rfl rfl ?_
      refine G_callS (As := [vi x1]) X (f6_rank_ok E I x1 _ rfl) cb_X6_133 st_X6_rank rfl rfl (Nat.le_of_ble_eq_true rfl) (by decide) (by decide) rfl (Nat.le_refl _) (Nat.le_refl _) dX6_readsOn_55 ?_
      show G E κ _ _ _ [some (vr 79), some (vi x1)] [vi (f6_rank x1)] (mm I)
      refine G_if_ne (tgt := 63) X dX6_readsOn_58 (by decide) (fun hc3 => ?_) (fun hc3 => ?_)
      · have hf := (if_neg hc3).symm.trans hf
        refine G_aload_n (x := some (79)) X dX6_readsOn_63 rfl rfl ?_
        refine G_iload_n (x := x1) X dX6_readsOn_64 rfl rfl ?_
        refine G_callS (As := [vi x1]) X (f6_rank_ok E I x1 _ rfl) cb_X6_133 st_X6_rank rfl rfl (Nat.le_of_ble_eq_true rfl) (by decide) (by decide) rfl (Nat.le_refl _) (Nat.le_refl _) dX6_readsOn_65 ?_
        show G E κ _ _ _ [some (vr 79), some (vi x1)] [vi (f6_rank x1), vr 79] (mm I)
        obtain ⟨I4, hk4, hf⟩ := obd hf
        refine G_callV (As := [vi (f6_rank x1)]) X (f6_doTo_ok E I (f6_rank x1) I4 hk4) cb_X6_165 vi_X6_doTo (ci := 5) rfl rfl (show SH[79]? = some (_, 0) from rfl) rfl rfl (Nat.le_of_ble_eq_true rfl) (by decide) (by decide) rfl (Nat.le_refl _) (Nat.le_refl _) dX6_readsOn_68 ?_
        show G E κ _ _ _ [some (vr 79), some (vi x1)] [] (mm I4)
        refine G_aload_n (x := some (79)) X dX6_readsOn_71 rfl rfl ?_
        refine G_iload_n (x := x1) X dX6_readsOn_72 rfl rfl ?_
        obtain ⟨I5, hk5, hf⟩ := obd hf
        refine G_callV (As := [vi x1]) X (f6_push__ok E I4 x1 I5 hk5) cb_X6_160 vi_X6_push_ (ci := 5) rfl rfl (show SH[79]? = some (_, 0) from rfl) rfl rfl (Nat.le_of_ble_eq_true rfl) (by decide) (by decide) rfl (Nat.le_refl _) (Nat.le_refl _) dX6_readsOn_73 ?_
        show G E κ _ _ _ [some (vr 79), some (vi x1)] [] (mm I5)
        refine G_aload_n (x := some (79)) X dX6_readsOn_76 rfl rfl ?_
        refine G_dup X dX6_readsOn_77 ?_
        refine M_getI X fd_X6_108 rfl (show SH[79]? = some (_, 0) from rfl) dX6_readsOn_78 ?_
        refine G_iconst (v := 1) X dX6_readsOn_81 rfl ?_
        refine G_iadd X dX6_readsOn_82 ?_
        refine M_putI X fd_X6_108 rfl (show SH[79]? = some (_, 0) from rfl) rfl rfl dX6_readsOn_83 ?_
        refine G_iconst (v := 1) X dX6_readsOn_86 rfl ?_
        obtain ⟨rfl, rfl⟩ := Prod.mk.inj (Option.some.inj hf)
        exact G_iret X hR rfl (nar_b2i true) dX6_readsOn_87
      · have hf := (if_pos hc3).symm.trans hf
        refine G_iconst (v := 0) X dX6_readsOn_61 rfl ?_
        obtain ⟨rfl, rfl⟩ := Prod.mk.inj (Option.some.inj hf)
        exact G_iret X hR rfl (nar_b2i false) dX6_readsOn_62
    · have hf := (if_pos hc2).symm.trans hf
      refine G_aload_n (x := some (79)) X dX6_readsOn_11 rfl rfl ?_
      refine G_iconst (v := 1) X dX6_readsOn_12 rfl ?_
      obtain ⟨I6, hk6, hf⟩ := obd hf
      refine G_callV (As := [vi 1]) X (f6_doTo_ok E I 1 I6 hk6) cb_X6_165 vi_X6_doTo (ci := 5) rfl rfl (show SH[79]? = some (_, 0) from rfl) rfl rfl (Nat.le_of_ble_eq_true rfl) (by decide) (by decide) rfl (Nat.le_refl _) (Nat.le_refl _) dX6_readsOn_13 ?_
      show G E κ _ _ _ [some (vr 79), some (vi x1)] [] (mm I6)
      refine G_aload_n (x := some (79)) X dX6_readsOn_16 rfl rfl ?_
      obtain ⟨v7, hk7, hf⟩ := obd hf
      refine G_callV (As := []) X (f6_top_ok E I6  v7 hk7) cb_X6_130 vi_X6_top (ci := 5) rfl rfl (show SH[79]? = some (_, 0) from rfl) rfl rfl (Nat.le_of_ble_eq_true rfl) (by decide) (by decide) rfl (Nat.le_refl _) (Nat.le_refl _) dX6_readsOn_17 ?_
      show G E κ _ _ _ [some (vr 79), some (vi x1)] [vi v7] (mm I6)
      refine G_bipush (v := 40) X dX6_readsOn_20 rfl ?_
      refine G_icmp_eq (tgt := 27) X dX6_readsOn_22 (by decide) (fun hc8 => ?_) (fun hc8 => ?_)
      · have hf := (if_pos hc8).symm.trans hf
        refine G_aload_n (x := some (79)) X dX6_readsOn_27 rfl rfl ?_
        obtain ⟨⟨v9, I9⟩, hk9, hf⟩ := obd hf
        try dsimp only at hf
        refine G_callV (As := []) X (f6_pop_ok E I6  v9 I9 hk9) cb_X6_136 vi_X6_pop (ci := 5) rfl rfl (show SH[79]? = some (_, 0) from rfl) rfl rfl (Nat.le_of_ble_eq_true rfl) (by decide) (by decide) rfl (Nat.le_refl _) (Nat.le_refl _) dX6_readsOn_28 ?_
        show G E κ _ _ _ [some (vr 79), some (vi x1)] [vi v9] (mm I9)
        refine G_pop X dX6_readsOn_31 ?_
        refine G_aload_n (x := some (79)) X dX6_readsOn_32 rfl rfl ?_
        obtain ⟨I10, hk10, hf⟩ := obd hf
        refine G_callV (As := []) X (f6_closeFactor_ok E I9  I10 hk10) cb_X6_157 vi_X6_closeFactor (ci := 5) rfl rfl (show SH[79]? = some (_, 0) from rfl) rfl rfl (Nat.le_of_ble_eq_true rfl) (by decide) (by decide) rfl (Nat.le_refl _) (Nat.le_refl _) dX6_readsOn_33 ?_
        show G E κ _ _ _ [some (vr 79), some (vi x1)] [] (mm I10)
        refine G_aload_n (x := some (79)) X dX6_readsOn_36 rfl rfl ?_
        refine G_dup X dX6_readsOn_37 ?_
        refine M_getI X fd_X6_108 rfl (show SH[79]? = some (_, 0) from rfl) dX6_readsOn_38 ?_
        refine G_iconst (v := 1) X dX6_readsOn_41 rfl ?_
        refine G_iadd X dX6_readsOn_42 ?_
        refine M_putI X fd_X6_108 rfl (show SH[79]? = some (_, 0) from rfl) rfl rfl dX6_readsOn_43 ?_
        refine G_aload_n (x := some (79)) X dX6_readsOn_46 rfl rfl ?_
        obtain ⟨⟨v11, I11⟩, hk11, hf⟩ := obd hf
        try dsimp only at hf
        refine G_callV (As := []) X (f6_code_ok E (uI I10 79 8 ((I10 79 8) + 1))  v11 I11 hk11) cb_X6_120 vi_X6_code (ci := 5) rfl rfl (show SH[79]? = some (_, 0) from rfl) rfl rfl (Nat.le_of_ble_eq_true rfl) (by decide) (by decide) rfl (Nat.le_refl _) (Nat.le_refl _) dX6_readsOn_47 ?_
        show G E κ _ _ _ [some (vr 79), some (vi x1)] [vi v11] (mm I11)
        refine G_istore_n X dX6_readsOn_50 rfl (Nat.le_of_ble_eq_true rfl) (ls' := [some (vr 79), some (vi v11)]) rfl ?_
        refine G_goto (tgt := 5) X dX6_readsOn_51 (by decide) ?_
        exact ih I11 v11 _ _ hR hf
      · have hf := (if_neg hc8).symm.trans hf
        refine G_iconst (v := 0) X dX6_readsOn_25 rfl ?_
        obtain ⟨rfl, rfl⟩ := Prod.mk.inj (Option.some.inj hf)
        exact G_iret X hR rfl (nar_b2i false) dX6_readsOn_26

def f6_readsOn (I : gI)  : Option (Bool × gI) := (f6_code I).bind fun q1 => f6_readsOn_L5 FU q1.2 q1.1
set_option maxRecDepth 100000 in
set_option maxHeartbeats 4000000 in
theorem f6_readsOn_ok (E : gEnv) (I : gI)  (r : Bool) (I' : gI) (hf : f6_readsOn I  = some (r, I')) : Ctr E yX6_readsOn cX6_readsOn 2 (some .boolean) 3 0 0 [vr 79] (mm I) (some (vi (b2i r))) (mm I') := by
  refine Ctr.mk (by decide +kernel) (Nat.le_of_ble_eq_true rfl) fun κ X hR _ => ?_
  have X : Cx E κ cX6_readsOn 2 RX6 (some .boolean) 3 0 0 := X
  show G E κ 0 0 0 [some (vr 79), none] [] (mm I)
  unfold f6_readsOn at hf
  refine G_aload_n (x := some (79)) X dX6_readsOn_0 rfl rfl ?_
  obtain ⟨⟨v1, I1⟩, hk1, hf⟩ := obd hf
  try dsimp only at hf
  refine G_callV (As := []) X (f6_code_ok E I  v1 I1 hk1) cb_X6_120 vi_X6_code (ci := 5) rfl rfl (show SH[79]? = some (_, 0) from rfl) rfl rfl (Nat.le_of_ble_eq_true rfl) (by decide) (by decide) rfl (Nat.le_refl _) (Nat.le_refl _) dX6_readsOn_1 ?_
  show G E κ _ _ _ [some (vr 79), none] [vi v1] (mm I1)
  refine G_istore_n X dX6_readsOn_4 rfl (Nat.le_of_ble_eq_true rfl) (ls' := [some (vr 79), some (vi v1)]) rfl ?_
  exact f6_readsOn_L5_ok X FU I1 v1 _ _ hR hf

def f6_reads_L35 : Nat → gI → Int32 → Option (Bool × gI)
  | 0, _, _ => none
  | k + 1, I, x2 => (if x2 = 0 then (if x2 = 0 then some (false, I) else (if (I 79 3) ≤ (I 79 8) then (f6_doTo I 1).bind fun I6 => (if (I6 79 10) = 0 then some (true, I6) else some (false, I6)) else some (false, I))) else (f6_readsOn I).bind fun q8 => (if q8.1 = true then (f6_readsFactor q8.2).bind fun q14 => f6_reads_L35 k q14.2 (b2i q14.1) else (if x2 = 0 then some (false, q8.2) else (if (q8.2 79 3) ≤ (q8.2 79 8) then (f6_doTo q8.2 1).bind fun I12 => (if (I12 79 10) = 0 then some (true, I12) else some (false, I12)) else some (false, q8.2)))))
set_option maxRecDepth 100000 in
set_option maxHeartbeats 4000000 in
theorem f6_reads_L35_ok {E : gEnv} {κ : gCtx} (X : Cx E κ cX6_reads 3 RX6 (some .boolean) 5 0 0) : ∀ (k : Nat) (I : gI) (x2 : Int32) (r : Bool) (I' : gI) (hR : gRt E κ 0 0 (some (vi (b2i r))) (mm I')) (hf : f6_reads_L35 k I x2 = some (r, I')), G E κ 0 0 35 [some (vr 79), none, some (vi x2)] [] (mm I) := by
  intro k
  induction k with
  | zero =>
    intros
    rename_i hf
    cases hf
  | succ k ih =>
    intro I x2 r I' hR hf
    refine G_iload_n (x := x2) X dX6_reads_35 rfl rfl ?_
    refine G_if_eq (tgt := 54) X dX6_reads_36 (by decide) (fun hc3 => ?_) (fun hc3 => ?_)
    · have hf := (if_pos hc3).symm.trans hf
      refine G_iload_n (x := x2) X dX6_reads_54 rfl rfl ?_
      refine G_if_eq (tgt := 69) X dX6_reads_55 (by decide) (fun hc4 => ?_) (fun hc4 => ?_)
      · have hf := (if_pos hc4).symm.trans hf
        refine G_iconst (v := 0) X dX6_reads_69 rfl ?_
        obtain ⟨rfl, rfl⟩ := Prod.mk.inj (Option.some.inj hf)
        exact G_iret X hR rfl (nar_b2i false) dX6_reads_70
      · have hf := (if_neg hc4).symm.trans hf
        refine G_aload_n (x := some (79)) X dX6_reads_58 rfl rfl ?_
        refine M_getI X fd_X6_108 rfl (show SH[79]? = some (_, 0) from rfl) dX6_reads_59 ?_
        refine G_aload_n (x := some (79)) X dX6_reads_62 rfl rfl ?_
        refine M_getI X fd_X6_105 rfl (show SH[79]? = some (_, 0) from rfl) dX6_reads_63 ?_
        refine G_icmp_ge (tgt := 71) X dX6_reads_66 (by decide) (fun hc5 => ?_) (fun hc5 => ?_)
        · have hf := (if_pos hc5).symm.trans hf
          refine G_aload_n (x := some (79)) X dX6_reads_71 rfl rfl ?_
          refine G_iconst (v := 1) X dX6_reads_72 rfl ?_
          obtain ⟨I6, hk6, hf⟩ := obd hf
          refine G_callV (As := [vi 1]) X (f6_doTo_ok E I 1 I6 hk6) cb_X6_165 vi_X6_doTo (ci := 5) rfl rfl (show SH[79]? = some (_, 0) from rfl) rfl rfl (Nat.le_of_ble_eq_true rfl) (by decide) (by decide) rfl (Nat.le_refl _) (Nat.le_refl _) dX6_reads_73 ?_
          show G E κ _ _ _ [some (vr 79), none, some (vi x2)] [] (mm I6)
          refine G_aload_n (x := some (79)) X dX6_reads_76 rfl rfl ?_
          refine M_getI X fd_X6_127 rfl (show SH[79]? = some (_, 0) from rfl) dX6_reads_77 ?_
          refine G_if_ne (tgt := 87) X dX6_reads_80 (by decide) (fun hc7 => ?_) (fun hc7 => ?_)
          · have hf := (if_neg hc7).symm.trans hf
            refine G_iconst (v := 0) X dX6_reads_87 rfl ?_
            obtain ⟨rfl, rfl⟩ := Prod.mk.inj (Option.some.inj hf)
            exact G_iret X hR rfl (nar_b2i false) dX6_reads_88
          · have hf := (if_pos hc7).symm.trans hf
            refine G_iconst (v := 1) X dX6_reads_83 rfl ?_
            refine G_goto (tgt := 88) X dX6_reads_84 (by decide) ?_
            obtain ⟨rfl, rfl⟩ := Prod.mk.inj (Option.some.inj hf)
            exact G_iret X hR rfl (nar_b2i true) dX6_reads_88
        · have hf := (if_neg hc5).symm.trans hf
          refine G_iconst (v := 0) X dX6_reads_69 rfl ?_
          obtain ⟨rfl, rfl⟩ := Prod.mk.inj (Option.some.inj hf)
          exact G_iret X hR rfl (nar_b2i false) dX6_reads_70
    · have hf := (if_neg hc3).symm.trans hf
      refine G_aload_n (x := some (79)) X dX6_reads_39 rfl rfl ?_
      obtain ⟨⟨v8, I8⟩, hk8, hf⟩ := obd hf
      try dsimp only at hf
      refine G_callV (As := []) X (f6_readsOn_ok E I  v8 I8 hk8) cb_X6_171 vi_X6_readsOn (ci := 5) rfl rfl (show SH[79]? = some (_, 0) from rfl) rfl rfl (Nat.le_of_ble_eq_true rfl) (by decide) (by decide) rfl (Nat.le_refl _) (Nat.le_refl _) dX6_reads_40 ?_
      show G E κ _ _ _ [some (vr 79), none, some (vi x2)] [vi (b2i v8)] (mm I8)
      refine G_if_eq (tgt := 54) X dX6_reads_43 (by decide) (fun hc9 => ?_) (fun hc9 => ?_)
      · have hf := (if_neg (b2i_f hc9)).symm.trans hf
        refine G_iload_n (x := x2) X dX6_reads_54 rfl rfl ?_
        refine G_if_eq (tgt := 69) X dX6_reads_55 (by decide) (fun hc10 => ?_) (fun hc10 => ?_)
        · have hf := (if_pos hc10).symm.trans hf
          refine G_iconst (v := 0) X dX6_reads_69 rfl ?_
          obtain ⟨rfl, rfl⟩ := Prod.mk.inj (Option.some.inj hf)
          exact G_iret X hR rfl (nar_b2i false) dX6_reads_70
        · have hf := (if_neg hc10).symm.trans hf
          refine G_aload_n (x := some (79)) X dX6_reads_58 rfl rfl ?_
          refine M_getI X fd_X6_108 rfl (show SH[79]? = some (_, 0) from rfl) dX6_reads_59 ?_
          refine G_aload_n (x := some (79)) X dX6_reads_62 rfl rfl ?_
          refine M_getI X fd_X6_105 rfl (show SH[79]? = some (_, 0) from rfl) dX6_reads_63 ?_
          refine G_icmp_ge (tgt := 71) X dX6_reads_66 (by decide) (fun hc11 => ?_) (fun hc11 => ?_)
          · have hf := (if_pos hc11).symm.trans hf
            refine G_aload_n (x := some (79)) X dX6_reads_71 rfl rfl ?_
            refine G_iconst (v := 1) X dX6_reads_72 rfl ?_
            obtain ⟨I12, hk12, hf⟩ := obd hf
            refine G_callV (As := [vi 1]) X (f6_doTo_ok E I8 1 I12 hk12) cb_X6_165 vi_X6_doTo (ci := 5) rfl rfl (show SH[79]? = some (_, 0) from rfl) rfl rfl (Nat.le_of_ble_eq_true rfl) (by decide) (by decide) rfl (Nat.le_refl _) (Nat.le_refl _) dX6_reads_73 ?_
            show G E κ _ _ _ [some (vr 79), none, some (vi x2)] [] (mm I12)
            refine G_aload_n (x := some (79)) X dX6_reads_76 rfl rfl ?_
            refine M_getI X fd_X6_127 rfl (show SH[79]? = some (_, 0) from rfl) dX6_reads_77 ?_
            refine G_if_ne (tgt := 87) X dX6_reads_80 (by decide) (fun hc13 => ?_) (fun hc13 => ?_)
            · have hf := (if_neg hc13).symm.trans hf
              refine G_iconst (v := 0) X dX6_reads_87 rfl ?_
              obtain ⟨rfl, rfl⟩ := Prod.mk.inj (Option.some.inj hf)
              exact G_iret X hR rfl (nar_b2i false) dX6_reads_88
            · have hf := (if_pos hc13).symm.trans hf
              refine G_iconst (v := 1) X dX6_reads_83 rfl ?_
              refine G_goto (tgt := 88) X dX6_reads_84 (by decide) ?_
              obtain ⟨rfl, rfl⟩ := Prod.mk.inj (Option.some.inj hf)
              exact G_iret X hR rfl (nar_b2i true) dX6_reads_88
          · have hf := (if_neg hc11).symm.trans hf
            refine G_iconst (v := 0) X dX6_reads_69 rfl ?_
            obtain ⟨rfl, rfl⟩ := Prod.mk.inj (Option.some.inj hf)
            exact G_iret X hR rfl (nar_b2i false) dX6_reads_70
      · have hf := (if_pos (b2i_t hc9)).symm.trans hf
        refine G_aload_n (x := some (79)) X dX6_reads_46 rfl rfl ?_
        obtain ⟨⟨v14, I14⟩, hk14, hf⟩ := obd hf
        try dsimp only at hf
        refine G_callV (As := []) X (f6_readsFactor_ok E I8  v14 I14 hk14) cb_X6_168 vi_X6_readsFactor (ci := 5) rfl rfl (show SH[79]? = some (_, 0) from rfl) rfl rfl (Nat.le_of_ble_eq_true rfl) (by decide) (by decide) rfl (Nat.le_refl _) (Nat.le_refl _) dX6_reads_47 ?_
        show G E κ _ _ _ [some (vr 79), none, some (vi x2)] [vi (b2i v14)] (mm I14)
        refine G_istore_n X dX6_reads_50 rfl (Nat.le_of_ble_eq_true rfl) (ls' := [some (vr 79), none, some (vi (b2i v14))]) rfl ?_
        refine G_goto (tgt := 35) X dX6_reads_51 (by decide) ?_
        exact ih I14 (b2i v14) _ _ hR hf

def f6_reads (I : gI) (a0 : Int32) : Option (Bool × gI) := if zb a0 = true then (f6_readsFactor (uI (uI (uI (uI (uI (uI I 79 13 a0) 79 8 0) 79 10 0) 79 11 0) 79 12 0) 79 14 ((-1)))).bind fun q2 => f6_reads_L35 FU q2.2 (b2i q2.1) else none
set_option maxRecDepth 100000 in
set_option maxHeartbeats 4000000 in
theorem f6_reads_ok (E : gEnv) (I : gI) (a0 : Int32) (r : Bool) (I' : gI) (hf : f6_reads I a0 = some (r, I')) : Ctr E yX6_reads cX6_reads 3 (some .boolean) 5 0 0 [vr 79, vi a0] (mm I) (some (vi (b2i r))) (mm I') := by
  refine Ctr.mk (by decide +kernel) (Nat.le_of_ble_eq_true rfl) fun κ X hR _ => ?_
  have X : Cx E κ cX6_reads 3 RX6 (some .boolean) 5 0 0 := X
  show G E κ 0 0 0 [some (vr 79), some (vi a0), none] [] (mm I)
  unfold f6_reads at hf
  refine G_aload_n (x := some (79)) X dX6_reads_0 rfl rfl ?_
  refine G_iload_n (x := a0) X dX6_reads_1 rfl rfl ?_
  obtain ⟨hc1, hf⟩ := ock hf
  refine M_putI X fd_X6_142 rfl (show SH[79]? = some (_, 0) from rfl) (nar_zb hc1) (fit_zb hc1) dX6_reads_2 ?_
  refine G_aload_n (x := some (79)) X dX6_reads_5 rfl rfl ?_
  refine G_iconst (v := 0) X dX6_reads_6 rfl ?_
  refine M_putI X fd_X6_108 rfl (show SH[79]? = some (_, 0) from rfl) rfl rfl dX6_reads_7 ?_
  refine G_aload_n (x := some (79)) X dX6_reads_10 rfl rfl ?_
  refine G_iconst (v := 0) X dX6_reads_11 rfl ?_
  refine M_putI X fd_X6_127 rfl (show SH[79]? = some (_, 0) from rfl) rfl rfl dX6_reads_12 ?_
  refine G_aload_n (x := some (79)) X dX6_reads_15 rfl rfl ?_
  refine G_iconst (v := 0) X dX6_reads_16 rfl ?_
  refine M_putI X fd_X6_114 rfl (show SH[79]? = some (_, 0) from rfl) rfl rfl dX6_reads_17 ?_
  refine G_aload_n (x := some (79)) X dX6_reads_20 rfl rfl ?_
  refine G_iconst (v := 0) X dX6_reads_21 rfl ?_
  refine M_putI X fd_X6_139 rfl (show SH[79]? = some (_, 0) from rfl) rfl rfl dX6_reads_22 ?_
  refine G_aload_n (x := some (79)) X dX6_reads_25 rfl rfl ?_
  refine G_iconst (v := (-1)) X dX6_reads_26 rfl ?_
  refine M_putI X fd_X6_111 rfl (show SH[79]? = some (_, 0) from rfl) rfl rfl dX6_reads_27 ?_
  refine G_aload_n (x := some (79)) X dX6_reads_30 rfl rfl ?_
  obtain ⟨⟨v2, I2⟩, hk2, hf⟩ := obd hf
  try dsimp only at hf
  refine G_callV (As := []) X (f6_readsFactor_ok E (uI (uI (uI (uI (uI (uI I 79 13 a0) 79 8 0) 79 10 0) 79 11 0) 79 12 0) 79 14 ((-1)))  v2 I2 hk2) cb_X6_168 vi_X6_readsFactor (ci := 5) rfl rfl (show SH[79]? = some (_, 0) from rfl) rfl rfl (Nat.le_of_ble_eq_true rfl) (by decide) (by decide) rfl (Nat.le_refl _) (Nat.le_refl _) dX6_reads_31 ?_
  show G E κ _ _ _ [some (vr 79), some (vi a0), none] [vi (b2i v2)] (mm I2)
  refine G_istore_n X dX6_reads_34 rfl (Nat.le_of_ble_eq_true rfl) (ls' := [some (vr 79), some (vi a0), some (vi (b2i v2))]) rfl ?_
  refine G_weakL (ls' := [some (vr 79), none, some (vi (b2i v2))]) ⟨Or.inr rfl, ⟨Or.inl rfl, ⟨Or.inr rfl, trivial⟩⟩⟩ ?_
  exact f6_reads_L35_ok X FU I2 (b2i v2) _ _ hR hf

def f6_fail (I : gI) (a0 : Int32) (a1 : Int32) (a2 : Int32) : Option (Int32 × gI) := some (((-1000)) - a1, uI (uI (uI I 79 5 a0) 79 6 a1) 79 7 a2)
set_option maxRecDepth 100000 in
set_option maxHeartbeats 4000000 in
theorem f6_fail_ok (E : gEnv) (I : gI) (a0 : Int32) (a1 : Int32) (a2 : Int32) (r : Int32) (I' : gI) (hf : f6_fail I a0 a1 a2 = some (r, I')) : Ctr E yX6_fail cX6_fail 4 (some .int) 0 0 0 [vr 79, vi a0, vi a1, vi a2] (mm I) (some (vi r)) (mm I') := by
  refine Ctr.mk (by decide +kernel) (Nat.le_of_ble_eq_true rfl) fun κ X hR _ => ?_
  have X : Cx E κ cX6_fail 4 RX6 (some .int) 0 0 0 := X
  show G E κ 0 0 0 [some (vr 79), some (vi a0), some (vi a1), some (vi a2)] [] (mm I)
  unfold f6_fail at hf
  refine G_aload_n (x := some (79)) X dX6_fail_0 rfl rfl ?_
  refine G_iload_n (x := a0) X dX6_fail_1 rfl rfl ?_
  refine M_putI X fd_X6_174 rfl (show SH[79]? = some (_, 0) from rfl) rfl rfl dX6_fail_2 ?_
  refine G_aload_n (x := some (79)) X dX6_fail_5 rfl rfl ?_
  refine G_iload_n (x := a1) X dX6_fail_6 rfl rfl ?_
  refine M_putI X fd_X6_177 rfl (show SH[79]? = some (_, 0) from rfl) rfl rfl dX6_fail_7 ?_
  refine G_aload_n (x := some (79)) X dX6_fail_10 rfl rfl ?_
  refine G_iload_n (x := a2) X dX6_fail_11 rfl rfl ?_
  refine M_putI X fd_X6_180 rfl (show SH[79]? = some (_, 0) from rfl) rfl rfl dX6_fail_12 ?_
  refine G_sipush (v := (-1000)) X dX6_fail_15 rfl ?_
  refine G_iload_n (x := a1) X dX6_fail_18 rfl rfl ?_
  refine G_isub X dX6_fail_19 ?_
  obtain ⟨rfl, rfl⟩ := Prod.mk.inj (Option.some.inj hf)
  exact G_iret X hR rfl rfl dX6_fail_20

