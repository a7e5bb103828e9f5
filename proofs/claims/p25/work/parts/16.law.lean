def fL_low (a0 : Int32) (a1 : Int32) : Option Int32 := if ¬ a1 = 0 then some ((a0 &&& 2147483647) - (a0 &&& 2147483647) / a1 * a1) else none
set_option maxRecDepth 100000 in
set_option maxHeartbeats 4000000 in
theorem fL_low_ok (E : gEnv) (I : gI) (a0 : Int32) (a1 : Int32) (r : Int32) (hf : fL_low  a0 a1 = some r) : Ctr E yL_low cL_low 2 (some .int) 0 0 0 [vi a0, vi a1] (mm I) (some (vi r)) (mm I) := by
  refine Ctr.mk (by decide +kernel) rfl (Nat.le_of_ble_eq_true rfl) fun κ X hR _ => ?_
  have X : Cx E κ cL_low 2 RL (some .int) 0 0 0 := X
  show G E κ 0 0 0 [some (vi a0), some (vi a1)] [] (mm I)
  unfold fL_low at hf
  refine G_iload_n (x := a0) X dL_low_0 rfl rfl ?_
  refine G_ldc (v := 2147483647) X kc_L_7 dL_low_1 ?_
  refine G_iand X dL_low_3 ?_
  refine G_iload_n (x := a1) X dL_low_4 rfl rfl ?_
  obtain ⟨hc1, hf⟩ := ock hf
  refine G_irem X dL_low_5 hc1 ?_
  obtain rfl := Option.some.inj hf
  exact G_iret X hR rfl rfl dL_low_6

def fL_all_L75 (K32 : gI → Int64 → Int32 → Option Int64) : Nat → gI → Int64 → Int32 → Int32 → Option Int64
  | 0, _, _, _, _ => none
  | k + 1, I, x1, x3, x4 => (f5_row I x3 1).bind fun v5 => (if v5 ≤ x4 then K32 I x1 (x3 + 1) else (f5_word I x3 x4).bind fun v7 => fL_all_L75 K32 k I ((31 * x1) + (Int32.toInt64 v7)) x3 (x4 + 1))
set_option maxRecDepth 100000 in
set_option maxHeartbeats 4000000 in
theorem fL_all_L75_ok (K32 : gI → Int64 → Int32 → Option Int64) {E : gEnv} {κ : gCtx} (X : Cx E κ cL_all 5 RL (some .long) 7 0 0) : ∀ (k : Nat) (I : gI) (x1 : Int64) (x3 : Int32) (x4 : Int32) (r : Int64) (hR : gRt E κ 0 0 (some (vl r)) (mm I)) (hK32 : ∀ (x1 : Int64) (x3 : Int32), K32 I x1 x3 = some r → G E κ 0 0 32 [some (vr 0), some (vl x1), none, some (vi x3), none] [] (mm I)) (hf : fL_all_L75 K32 k I x1 x3 x4 = some r), G E κ 0 0 75 [some (vr 0), some (vl x1), none, some (vi x3), some (vi x4)] [] (mm I) := by
  intro k
  induction k with
  | zero =>
    intros
    rename_i hf
    cases hf
  | succ k ih =>
    intro I x1 x3 x4 r hR hK32 hf
    refine G_iload (x := x4) X dL_all_75 rfl ?_
    refine G_aload_n (x := some (0)) X dL_all_77 rfl rfl ?_
    refine G_iload_n (x := x3) X dL_all_78 rfl rfl ?_
    refine G_iconst (v := 1) X dL_all_79 rfl ?_
    obtain ⟨v5, hk5, hf⟩ := obd hf
    refine G_callV (As := [vi x3, vi 1]) X (f5_row_ok E I x3 1 v5 hk5) cb_L_18 vi_X5_row (ci := 4) rfl rfl (show SH[0]? = some (_, 0) from rfl) rfl rfl (Nat.le_of_ble_eq_true rfl) (by decide) (by decide) rfl (Nat.le_refl _) (Nat.le_refl _) dL_all_80 ?_
    show G E κ _ _ _ [some (vr 0), some (vl x1), none, some (vi x3), some (vi x4)] [vi v5, vi x4] (mm I)
    refine G_icmp_ge (tgt := 107) X dL_all_83 (by decide) (fun hc6 => ?_) (fun hc6 => ?_)
    · have hf := (if_pos hc6).symm.trans hf
      refine G_iinc (x := x3) (v := 1) X dL_all_107 rfl rfl rfl (ls' := [some (vr 0), some (vl x1), none, some (vi (x3 + 1)), some (vi x4)]) rfl ?_
      refine G_goto (tgt := 32) X dL_all_110 (by decide) ?_
      refine G_weakL (ls' := [some (vr 0), some (vl x1), none, some (vi (x3 + 1)), none]) ⟨Or.inr rfl, ⟨Or.inr rfl, ⟨Or.inl rfl, ⟨Or.inr rfl, ⟨Or.inl rfl, trivial⟩⟩⟩⟩⟩ ?_
      exact hK32 x1 (x3 + 1) hf
    · have hf := (if_neg hc6).symm.trans hf
      refine G_ldc2 (v := 31) X kl_L_10 dL_all_86 ?_
      refine G_lload_n (x := x1) X dL_all_89 rfl rfl ?_
      refine G_lmul X dL_all_90 ?_
      refine G_aload_n (x := some (0)) X dL_all_91 rfl rfl ?_
      refine G_iload_n (x := x3) X dL_all_92 rfl rfl ?_
      refine G_iload (x := x4) X dL_all_93 rfl ?_
      obtain ⟨v7, hk7, hf⟩ := obd hf
      refine G_callV (As := [vi x3, vi x4]) X (f5_word_ok E I x3 x4 v7 hk7) cb_L_22 vi_X5_word (ci := 4) rfl rfl (show SH[0]? = some (_, 0) from rfl) rfl rfl (Nat.le_of_ble_eq_true rfl) (by decide) (by decide) rfl (Nat.le_refl _) (Nat.le_refl _) dL_all_95 ?_
      show G E κ _ _ _ [some (vr 0), some (vl x1), none, some (vi x3), some (vi x4)] [vi v7, vl (31 * x1)] (mm I)
      refine G_i2l X dL_all_98 ?_
      refine G_ladd X dL_all_99 ?_
      refine G_lstore_n X dL_all_100 rfl rfl (Nat.le_of_ble_eq_true rfl) (ls' := [some (vr 0), some (vl ((31 * x1) + (Int32.toInt64 v7))), none, some (vi x3), some (vi x4)]) rfl ?_
      refine G_iinc (x := x4) (v := 1) X dL_all_101 rfl rfl rfl (ls' := [some (vr 0), some (vl ((31 * x1) + (Int32.toInt64 v7))), none, some (vi x3), some (vi (x4 + 1))]) rfl ?_
      refine G_goto (tgt := 75) X dL_all_104 (by decide) ?_
      exact ih I ((31 * x1) + (Int32.toInt64 v7)) x3 (x4 + 1) _ hR hK32 hf

def fL_all_L44 (K32 : gI → Int64 → Int32 → Option Int64) : Nat → gI → Int64 → Int32 → Int32 → Option Int64
  | 0, _, _, _, _ => none
  | k + 1, I, x1, x3, x4 => (if 8 ≤ x4 then fL_all_L75 K32 FU I x1 x3 0 else (f5_row I x3 x4).bind fun v8 => fL_all_L44 K32 k I ((31 * x1) + (Int32.toInt64 v8)) x3 (x4 + 1))
set_option maxRecDepth 100000 in
set_option maxHeartbeats 4000000 in
theorem fL_all_L44_ok (K32 : gI → Int64 → Int32 → Option Int64) {E : gEnv} {κ : gCtx} (X : Cx E κ cL_all 5 RL (some .long) 7 0 0) : ∀ (k : Nat) (I : gI) (x1 : Int64) (x3 : Int32) (x4 : Int32) (r : Int64) (hR : gRt E κ 0 0 (some (vl r)) (mm I)) (hK32 : ∀ (x1 : Int64) (x3 : Int32), K32 I x1 x3 = some r → G E κ 0 0 32 [some (vr 0), some (vl x1), none, some (vi x3), none] [] (mm I)) (hf : fL_all_L44 K32 k I x1 x3 x4 = some r), G E κ 0 0 44 [some (vr 0), some (vl x1), none, some (vi x3), some (vi x4)] [] (mm I) := by
  intro k
  induction k with
  | zero =>
    intros
    rename_i hf
    cases hf
  | succ k ih =>
    intro I x1 x3 x4 r hR hK32 hf
    refine G_iload (x := x4) X dL_all_44 rfl ?_
    refine G_bipush (v := 8) X dL_all_46 rfl ?_
    refine G_icmp_ge (tgt := 72) X dL_all_48 (by decide) (fun hc4 => ?_) (fun hc4 => ?_)
    · have hf := (if_pos hc4).symm.trans hf
      refine G_iconst (v := 0) X dL_all_72 rfl ?_
      refine G_istore X dL_all_73 rfl (ls' := [some (vr 0), some (vl x1), none, some (vi x3), some (vi 0)]) rfl ?_
      exact fL_all_L75_ok K32 X FU I x1 x3 0 _ hR hK32 hf
    · have hf := (if_neg hc4).symm.trans hf
      refine G_ldc2 (v := 31) X kl_L_10 dL_all_51 ?_
      refine G_lload_n (x := x1) X dL_all_54 rfl rfl ?_
      refine G_lmul X dL_all_55 ?_
      refine G_aload_n (x := some (0)) X dL_all_56 rfl rfl ?_
      refine G_iload_n (x := x3) X dL_all_57 rfl rfl ?_
      refine G_iload (x := x4) X dL_all_58 rfl ?_
      obtain ⟨v8, hk8, hf⟩ := obd hf
      refine G_callV (As := [vi x3, vi x4]) X (f5_row_ok E I x3 x4 v8 hk8) cb_L_18 vi_X5_row (ci := 4) rfl rfl (show SH[0]? = some (_, 0) from rfl) rfl rfl (Nat.le_of_ble_eq_true rfl) (by decide) (by decide) rfl (Nat.le_refl _) (Nat.le_refl _) dL_all_60 ?_
      show G E κ _ _ _ [some (vr 0), some (vl x1), none, some (vi x3), some (vi x4)] [vi v8, vl (31 * x1)] (mm I)
      refine G_i2l X dL_all_63 ?_
      refine G_ladd X dL_all_64 ?_
      refine G_lstore_n X dL_all_65 rfl rfl (Nat.le_of_ble_eq_true rfl) (ls' := [some (vr 0), some (vl ((31 * x1) + (Int32.toInt64 v8))), none, some (vi x3), some (vi x4)]) rfl ?_
      refine G_iinc (x := x4) (v := 1) X dL_all_66 rfl rfl rfl (ls' := [some (vr 0), some (vl ((31 * x1) + (Int32.toInt64 v8))), none, some (vi x3), some (vi (x4 + 1))]) rfl ?_
      refine G_goto (tgt := 44) X dL_all_69 (by decide) ?_
      exact ih I ((31 * x1) + (Int32.toInt64 v8)) x3 (x4 + 1) _ hR hK32 hf

def fL_all_L32 : Nat → gI → Int64 → Int32 → Option Int64
  | 0, _, _, _ => none
  | k + 1, I, x1, x3 => (f5_count I 0).bind fun v2 => (if v2 ≤ x3 then some x1 else fL_all_L44 (fL_all_L32 k) FU I x1 x3 0)
set_option maxRecDepth 100000 in
set_option maxHeartbeats 4000000 in
theorem fL_all_L32_ok {E : gEnv} {κ : gCtx} (X : Cx E κ cL_all 5 RL (some .long) 7 0 0) : ∀ (k : Nat) (I : gI) (x1 : Int64) (x3 : Int32) (r : Int64) (hR : gRt E κ 0 0 (some (vl r)) (mm I)) (hf : fL_all_L32 k I x1 x3 = some r), G E κ 0 0 32 [some (vr 0), some (vl x1), none, some (vi x3), none] [] (mm I) := by
  intro k
  induction k with
  | zero =>
    intros
    rename_i hf
    cases hf
  | succ k ih =>
    intro I x1 x3 r hR hf
    refine G_iload_n (x := x3) X dL_all_32 rfl rfl ?_
    refine G_aload_n (x := some (0)) X dL_all_33 rfl rfl ?_
    refine G_iconst (v := 0) X dL_all_34 rfl ?_
    obtain ⟨v2, hk2, hf⟩ := obd hf
    refine G_callV (As := [vi 0]) X (f5_count_ok E I 0 v2 hk2) cb_L_12 vi_X5_count (ci := 4) rfl rfl (show SH[0]? = some (_, 0) from rfl) rfl rfl (Nat.le_of_ble_eq_true rfl) (by decide) (by decide) rfl (Nat.le_refl _) (Nat.le_refl _) dL_all_35 ?_
    show G E κ _ _ _ [some (vr 0), some (vl x1), none, some (vi x3), none] [vi v2, vi x3] (mm I)
    refine G_icmp_ge (tgt := 113) X dL_all_38 (by decide) (fun hc3 => ?_) (fun hc3 => ?_)
    · have hf := (if_pos hc3).symm.trans hf
      refine G_lload_n (x := x1) X dL_all_113 rfl rfl ?_
      obtain rfl := Option.some.inj hf
      exact G_lret X hR rfl dL_all_114
    · have hf := (if_neg hc3).symm.trans hf
      refine G_iconst (v := 0) X dL_all_41 rfl ?_
      refine G_istore X dL_all_42 rfl (ls' := [some (vr 0), some (vl x1), none, some (vi x3), some (vi 0)]) rfl ?_
      exact fL_all_L44_ok (fL_all_L32 k) X FU I x1 x3 0 _ hR (fun x1 x3 hf => ih I x1 x3 _ hR hf) hf

def fL_all_L6 : Nat → gI → Int64 → Int32 → Option Int64
  | 0, _, _, _ => none
  | k + 1, I, x1, x3 => (if 4 ≤ x3 then fL_all_L32 FU I x1 0 else (f5_count I x3).bind fun v9 => fL_all_L6 k I ((31 * x1) + (Int32.toInt64 v9)) (x3 + 1))
set_option maxRecDepth 100000 in
set_option maxHeartbeats 4000000 in
theorem fL_all_L6_ok {E : gEnv} {κ : gCtx} (X : Cx E κ cL_all 5 RL (some .long) 7 0 0) : ∀ (k : Nat) (I : gI) (x1 : Int64) (x3 : Int32) (r : Int64) (hR : gRt E κ 0 0 (some (vl r)) (mm I)) (hf : fL_all_L6 k I x1 x3 = some r), G E κ 0 0 6 [some (vr 0), some (vl x1), none, some (vi x3), none] [] (mm I) := by
  intro k
  induction k with
  | zero =>
    intros
    rename_i hf
    cases hf
  | succ k ih =>
    intro I x1 x3 r hR hf
    refine G_iload_n (x := x3) X dL_all_6 rfl rfl ?_
    refine G_iconst (v := 4) X dL_all_7 rfl ?_
    refine G_icmp_ge (tgt := 30) X dL_all_8 (by decide) (fun hc1 => ?_) (fun hc1 => ?_)
    · have hf := (if_pos hc1).symm.trans hf
      refine G_iconst (v := 0) X dL_all_30 rfl ?_
      refine G_istore_n X dL_all_31 rfl rfl (ls' := [some (vr 0), some (vl x1), none, some (vi 0), none]) rfl ?_
      exact fL_all_L32_ok X FU I x1 0 _ hR hf
    · have hf := (if_neg hc1).symm.trans hf
      refine G_ldc2 (v := 31) X kl_L_10 dL_all_11 ?_
      refine G_lload_n (x := x1) X dL_all_14 rfl rfl ?_
      refine G_lmul X dL_all_15 ?_
      refine G_aload_n (x := some (0)) X dL_all_16 rfl rfl ?_
      refine G_iload_n (x := x3) X dL_all_17 rfl rfl ?_
      obtain ⟨v9, hk9, hf⟩ := obd hf
      refine G_callV (As := [vi x3]) X (f5_count_ok E I x3 v9 hk9) cb_L_12 vi_X5_count (ci := 4) rfl rfl (show SH[0]? = some (_, 0) from rfl) rfl rfl (Nat.le_of_ble_eq_true rfl) (by decide) (by decide) rfl (Nat.le_refl _) (Nat.le_refl _) dL_all_18 ?_
      show G E κ _ _ _ [some (vr 0), some (vl x1), none, some (vi x3), none] [vi v9, vl (31 * x1)] (mm I)
      refine G_i2l X dL_all_21 ?_
      refine G_ladd X dL_all_22 ?_
      refine G_lstore_n X dL_all_23 rfl rfl (Nat.le_of_ble_eq_true rfl) (ls' := [some (vr 0), some (vl ((31 * x1) + (Int32.toInt64 v9))), none, some (vi x3), none]) rfl ?_
      refine G_iinc (x := x3) (v := 1) X dL_all_24 rfl rfl rfl (ls' := [some (vr 0), some (vl ((31 * x1) + (Int32.toInt64 v9))), none, some (vi (x3 + 1)), none]) rfl ?_
      refine G_goto (tgt := 6) X dL_all_27 (by decide) ?_
      exact ih I ((31 * x1) + (Int32.toInt64 v9)) (x3 + 1) _ hR hf

def fL_all (I : gI)  : Option Int64 := fL_all_L6 FU I 41 0
set_option maxRecDepth 100000 in
set_option maxHeartbeats 4000000 in
theorem fL_all_ok (E : gEnv) (I : gI)  (r : Int64) (hf : fL_all I  = some r) : Ctr E yL_all cL_all 5 (some .long) 7 0 0 [vr 0] (mm I) (some (vl r)) (mm I) := by
  refine Ctr.mk (by decide +kernel) rfl (Nat.le_of_ble_eq_true rfl) fun κ X hR _ => ?_
  have X : Cx E κ cL_all 5 RL (some .long) 7 0 0 := X
  show G E κ 0 0 0 [some (vr 0), none, none, none, none] [] (mm I)
  unfold fL_all at hf
  refine G_ldc2 (v := 41) X kl_L_8 dL_all_0 ?_
  refine G_lstore_n X dL_all_3 rfl rfl (Nat.le_of_ble_eq_true rfl) (ls' := [some (vr 0), some (vl 41), none, none, none]) rfl ?_
  refine G_iconst (v := 0) X dL_all_4 rfl ?_
  refine G_istore_n X dL_all_5 rfl rfl (ls' := [some (vr 0), some (vl 41), none, some (vi 0), none]) rfl ?_
  exact fL_all_L6_ok X FU I 41 0 _ hR hf

def fL_isPacked_J247 (K18 : gI → Int32 → Int32 → Int32 → Int32 → Int32 → Int32 → Option Bool) (I : gI) (x1 : Int32) (x2 : Int32) (x3 : Int32) (x4 : Int32) (x5 : Int32) (x6 : Int32) : Option Bool := K18 I x1 x2 x3 x4 x5 (x6 + 1)
set_option maxRecDepth 100000 in
set_option maxHeartbeats 4000000 in
theorem fL_isPacked_J247_ok (K18 : gI → Int32 → Int32 → Int32 → Int32 → Int32 → Int32 → Option Bool) {E : gEnv} {κ : gCtx} (X : Cx E κ cL_isPacked 12 RL (some .boolean) 6 0 0) : ∀ (I : gI) (x1 : Int32) (x2 : Int32) (x3 : Int32) (x4 : Int32) (x5 : Int32) (x6 : Int32) (r : Bool) (hR : gRt E κ 0 0 (some (vi (b2i r))) (mm I)) (hK18 : ∀ (x1 : Int32) (x2 : Int32) (x3 : Int32) (x4 : Int32) (x5 : Int32) (x6 : Int32), K18 I x1 x2 x3 x4 x5 x6 = some r → G E κ 0 0 18 [some (vr 0), some (vi x1), some (vi x2), some (vi x3), some (vi x4), some (vi x5), some (vi x6), none, none, none, none, none] [] (mm I)) (hf : fL_isPacked_J247 K18 I x1 x2 x3 x4 x5 x6 = some r), G E κ 0 0 247 [some (vr 0), some (vi x1), some (vi x2), some (vi x3), some (vi x4), some (vi x5), some (vi x6), none, none, none, none, none] [] (mm I) := by
  intro I x1 x2 x3 x4 x5 x6 r hR hK18 hf
  unfold fL_isPacked_J247 at hf
  refine G_iinc (x := x6) (v := 1) X dL_isPacked_247 rfl rfl rfl (ls' := [some (vr 0), some (vi x1), some (vi x2), some (vi x3), some (vi x4), some (vi x5), some (vi (x6 + 1)), none, none, none, none, none]) rfl ?_
  refine G_goto (tgt := 18) X dL_isPacked_250 (by decide) ?_
  exact hK18 x1 x2 x3 x4 x5 (x6 + 1) hf

def fL_isPacked_J216 (K18 : gI → Int32 → Int32 → Int32 → Int32 → Int32 → Int32 → Option Bool) (K131 : gI → Int32 → Int32 → Int32 → Int32 → Int32 → Int32 → Int32 → Int32 → Int32 → Option Bool) (I : gI) (x1 : Int32) (x2 : Int32) (x3 : Int32) (x4 : Int32) (x6 : Int32) (x7 : Int32) (x8 : Int32) (x9 : Int32) (x10 : Int32) (x11 : Int32) : Option Bool := K131 I x1 x2 (x3 + 1) (x4 + x11) x6 x7 x8 x9 (x10 + 1)
set_option maxRecDepth 100000 in
set_option maxHeartbeats 4000000 in
theorem fL_isPacked_J216_ok (K18 : gI → Int32 → Int32 → Int32 → Int32 → Int32 → Int32 → Option Bool) (K131 : gI → Int32 → Int32 → Int32 → Int32 → Int32 → Int32 → Int32 → Int32 → Int32 → Option Bool) {E : gEnv} {κ : gCtx} (X : Cx E κ cL_isPacked 12 RL (some .boolean) 6 0 0) : ∀ (I : gI) (x1 : Int32) (x2 : Int32) (x3 : Int32) (x4 : Int32) (x6 : Int32) (x7 : Int32) (x8 : Int32) (x9 : Int32) (x10 : Int32) (x11 : Int32) (r : Bool) (hR : gRt E κ 0 0 (some (vi (b2i r))) (mm I)) (hK18 : ∀ (x1 : Int32) (x2 : Int32) (x3 : Int32) (x4 : Int32) (x5 : Int32) (x6 : Int32), K18 I x1 x2 x3 x4 x5 x6 = some r → G E κ 0 0 18 [some (vr 0), some (vi x1), some (vi x2), some (vi x3), some (vi x4), some (vi x5), some (vi x6), none, none, none, none, none] [] (mm I)) (hK131 : ∀ (x1 : Int32) (x2 : Int32) (x3 : Int32) (x4 : Int32) (x6 : Int32) (x7 : Int32) (x8 : Int32) (x9 : Int32) (x10 : Int32), K131 I x1 x2 x3 x4 x6 x7 x8 x9 x10 = some r → G E κ 0 0 131 [some (vr 0), some (vi x1), some (vi x2), some (vi x3), some (vi x4), none, some (vi x6), some (vi x7), some (vi x8), some (vi x9), some (vi x10), none] [] (mm I)) (hf : fL_isPacked_J216 K18 K131 I x1 x2 x3 x4 x6 x7 x8 x9 x10 x11 = some r), G E κ 0 0 216 [some (vr 0), some (vi x1), some (vi x2), some (vi x3), some (vi x4), none, some (vi x6), some (vi x7), some (vi x8), some (vi x9), some (vi x10), some (vi x11)] [] (mm I) := by
  intro I x1 x2 x3 x4 x6 x7 x8 x9 x10 x11 r hR hK18 hK131 hf
  unfold fL_isPacked_J216 at hf
  refine G_iload (x := x4) X dL_isPacked_216 rfl ?_
  refine G_iload (x := x11) X dL_isPacked_218 rfl ?_
  refine G_iadd X dL_isPacked_220 ?_
  refine G_istore X dL_isPacked_221 rfl (ls' := [some (vr 0), some (vi x1), some (vi x2), some (vi x3), some (vi (x4 + x11)), none, some (vi x6), some (vi x7), some (vi x8), some (vi x9), some (vi x10), some (vi x11)]) rfl ?_
  refine G_iinc (x := x3) (v := 1) X dL_isPacked_223 rfl rfl rfl (ls' := [some (vr 0), some (vi x1), some (vi x2), some (vi (x3 + 1)), some (vi (x4 + x11)), none, some (vi x6), some (vi x7), some (vi x8), some (vi x9), some (vi x10), some (vi x11)]) rfl ?_
  refine G_iinc (x := x10) (v := 1) X dL_isPacked_226 rfl rfl rfl (ls' := [some (vr 0), some (vi x1), some (vi x2), some (vi (x3 + 1)), some (vi (x4 + x11)), none, some (vi x6), some (vi x7), some (vi x8), some (vi x9), some (vi (x10 + 1)), some (vi x11)]) rfl ?_
  refine G_goto (tgt := 131) X dL_isPacked_229 (by decide) ?_
  refine G_weakL (ls' := [some (vr 0), some (vi x1), some (vi x2), some (vi (x3 + 1)), some (vi (x4 + x11)), none, some (vi x6), some (vi x7), some (vi x8), some (vi x9), some (vi (x10 + 1)), none]) ⟨Or.inr rfl, ⟨Or.inr rfl, ⟨Or.inr rfl, ⟨Or.inr rfl, ⟨Or.inr rfl, ⟨Or.inl rfl, ⟨Or.inr rfl, ⟨Or.inr rfl, ⟨Or.inr rfl, ⟨Or.inr rfl, ⟨Or.inr rfl, ⟨Or.inl rfl, trivial⟩⟩⟩⟩⟩⟩⟩⟩⟩⟩⟩⟩ ?_
  exact hK131 x1 x2 (x3 + 1) (x4 + x11) x6 x7 x8 x9 (x10 + 1) hf

def fL_isPacked_J161 (K18 : gI → Int32 → Int32 → Int32 → Int32 → Int32 → Int32 → Option Bool) (K131 : gI → Int32 → Int32 → Int32 → Int32 → Int32 → Int32 → Int32 → Int32 → Int32 → Option Bool) (I : gI) (x1 : Int32) (x2 : Int32) (x3 : Int32) (x4 : Int32) (x6 : Int32) (x7 : Int32) (x8 : Int32) (x9 : Int32) (x10 : Int32) (x11 : Int32) : Option Bool := (if x2 ≤ x3 then (if x11 = 1 then some false else fL_isPacked_J216 K18 K131 I x1 x2 x3 x4 x6 x7 x8 x9 x10 x11) else (f5_bit I x1 x3).bind fun v31 => (if v31 = x11 then (f5_rank I x1 x3).bind fun v33 => (if v33 = x4 then (if x11 = 1 then (f5_select I x1 x4).bind fun v36 => (if v36 = x3 then fL_isPacked_J216 K18 K131 I x1 x2 x3 x4 x6 x7 x8 x9 x10 x11 else some false) else fL_isPacked_J216 K18 K131 I x1 x2 x3 x4 x6 x7 x8 x9 x10 x11) else some false) else some false))
set_option maxRecDepth 100000 in
set_option maxHeartbeats 4000000 in
theorem fL_isPacked_J161_ok (K18 : gI → Int32 → Int32 → Int32 → Int32 → Int32 → Int32 → Option Bool) (K131 : gI → Int32 → Int32 → Int32 → Int32 → Int32 → Int32 → Int32 → Int32 → Int32 → Option Bool) {E : gEnv} {κ : gCtx} (X : Cx E κ cL_isPacked 12 RL (some .boolean) 6 0 0) : ∀ (I : gI) (x1 : Int32) (x2 : Int32) (x3 : Int32) (x4 : Int32) (x6 : Int32) (x7 : Int32) (x8 : Int32) (x9 : Int32) (x10 : Int32) (x11 : Int32) (r : Bool) (hR : gRt E κ 0 0 (some (vi (b2i r))) (mm I)) (hK18 : ∀ (x1 : Int32) (x2 : Int32) (x3 : Int32) (x4 : Int32) (x5 : Int32) (x6 : Int32), K18 I x1 x2 x3 x4 x5 x6 = some r → G E κ 0 0 18 [some (vr 0), some (vi x1), some (vi x2), some (vi x3), some (vi x4), some (vi x5), some (vi x6), none, none, none, none, none] [] (mm I)) (hK131 : ∀ (x1 : Int32) (x2 : Int32) (x3 : Int32) (x4 : Int32) (x6 : Int32) (x7 : Int32) (x8 : Int32) (x9 : Int32) (x10 : Int32), K131 I x1 x2 x3 x4 x6 x7 x8 x9 x10 = some r → G E κ 0 0 131 [some (vr 0), some (vi x1), some (vi x2), some (vi x3), some (vi x4), none, some (vi x6), some (vi x7), some (vi x8), some (vi x9), some (vi x10), none] [] (mm I)) (hf : fL_isPacked_J161 K18 K131 I x1 x2 x3 x4 x6 x7 x8 x9 x10 x11 = some r), G E κ 0 0 161 [some (vr 0), some (vi x1), some (vi x2), some (vi x3), some (vi x4), none, some (vi x6), some (vi x7), some (vi x8), some (vi x9), some (vi x10), some (vi x11)] [] (mm I) := by
  intro I x1 x2 x3 x4 x6 x7 x8 x9 x10 x11 r hR hK18 hK131 hf
  unfold fL_isPacked_J161 at hf
  refine G_iload_n (x := x3) X dL_isPacked_161 rfl rfl ?_
  refine G_iload_n (x := x2) X dL_isPacked_162 rfl rfl ?_
  refine G_icmp_ge (tgt := 208) X dL_isPacked_163 (by decide) (fun hc29 => ?_) (fun hc29 => ?_)
  · have hf := (if_pos hc29).symm.trans hf
    refine G_iload (x := x11) X dL_isPacked_208 rfl ?_
    refine G_iconst (v := 1) X dL_isPacked_210 rfl ?_
    refine G_icmp_ne (tgt := 216) X dL_isPacked_211 (by decide) (fun hc30 => ?_) (fun hc30 => ?_)
    · have hf := (if_neg hc30).symm.trans hf
      exact fL_isPacked_J216_ok K18 K131 X I x1 x2 x3 x4 x6 x7 x8 x9 x10 x11 _ hR hK18 hK131 hf
    · have hf := (if_pos hc30).symm.trans hf
      refine G_iconst (v := 0) X dL_isPacked_214 rfl ?_
      obtain rfl := Option.some.inj hf
      exact G_iret X hR rfl (nar_b2i false) dL_isPacked_215
  · have hf := (if_neg hc29).symm.trans hf
    refine G_aload_n (x := some (0)) X dL_isPacked_166 rfl rfl ?_
    refine G_iload_n (x := x1) X dL_isPacked_167 rfl rfl ?_
    refine G_iload_n (x := x3) X dL_isPacked_168 rfl rfl ?_
    obtain ⟨v31, hk31, hf⟩ := obd hf
    refine G_callV (As := [vi x1, vi x3]) X (f5_bit_ok E I x1 x3 v31 hk31) cb_L_27 vi_X5_bit (ci := 4) rfl rfl (show SH[0]? = some (_, 0) from rfl) rfl rfl (Nat.le_of_ble_eq_true rfl) (by decide) (by decide) rfl (Nat.le_refl _) (Nat.le_refl _) dL_isPacked_169 ?_
    show G E κ _ _ _ [some (vr 0), some (vi x1), some (vi x2), some (vi x3), some (vi x4), none, some (vi x6), some (vi x7), some (vi x8), some (vi x9), some (vi x10), some (vi x11)] [vi v31] (mm I)
    refine G_iload (x := x11) X dL_isPacked_172 rfl ?_
    refine G_icmp_ne (tgt := 214) X dL_isPacked_174 (by decide) (fun hc32 => ?_) (fun hc32 => ?_)
    · have hf := (if_neg hc32).symm.trans hf
      refine G_iconst (v := 0) X dL_isPacked_214 rfl ?_
      obtain rfl := Option.some.inj hf
      exact G_iret X hR rfl (nar_b2i false) dL_isPacked_215
    · have hf := (if_pos hc32).symm.trans hf
      refine G_aload_n (x := some (0)) X dL_isPacked_177 rfl rfl ?_
      refine G_iload_n (x := x1) X dL_isPacked_178 rfl rfl ?_
      refine G_iload_n (x := x3) X dL_isPacked_179 rfl rfl ?_
      obtain ⟨v33, hk33, hf⟩ := obd hf
      refine G_callV (As := [vi x1, vi x3]) X (f5_rank_ok E I x1 x3 v33 hk33) cb_L_30 vi_X5_rank (ci := 4) rfl rfl (show SH[0]? = some (_, 0) from rfl) rfl rfl (Nat.le_of_ble_eq_true rfl) (by decide) (by decide) rfl (Nat.le_refl _) (Nat.le_refl _) dL_isPacked_180 ?_
      show G E κ _ _ _ [some (vr 0), some (vi x1), some (vi x2), some (vi x3), some (vi x4), none, some (vi x6), some (vi x7), some (vi x8), some (vi x9), some (vi x10), some (vi x11)] [vi v33] (mm I)
      refine G_iload (x := x4) X dL_isPacked_183 rfl ?_
      refine G_icmp_ne (tgt := 214) X dL_isPacked_185 (by decide) (fun hc34 => ?_) (fun hc34 => ?_)
      · have hf := (if_neg hc34).symm.trans hf
        refine G_iconst (v := 0) X dL_isPacked_214 rfl ?_
        obtain rfl := Option.some.inj hf
        exact G_iret X hR rfl (nar_b2i false) dL_isPacked_215
      · have hf := (if_pos hc34).symm.trans hf
        refine G_iload (x := x11) X dL_isPacked_188 rfl ?_
        refine G_iconst (v := 1) X dL_isPacked_190 rfl ?_
        refine G_icmp_ne (tgt := 216) X dL_isPacked_191 (by decide) (fun hc35 => ?_) (fun hc35 => ?_)
        · have hf := (if_neg hc35).symm.trans hf
          exact fL_isPacked_J216_ok K18 K131 X I x1 x2 x3 x4 x6 x7 x8 x9 x10 x11 _ hR hK18 hK131 hf
        · have hf := (if_pos hc35).symm.trans hf
          refine G_aload_n (x := some (0)) X dL_isPacked_194 rfl rfl ?_
          refine G_iload_n (x := x1) X dL_isPacked_195 rfl rfl ?_
          refine G_iload (x := x4) X dL_isPacked_196 rfl ?_
          obtain ⟨v36, hk36, hf⟩ := obd hf
          refine G_callV (As := [vi x1, vi x4]) X (f5_select_ok E I x1 x4 v36 hk36) cb_L_33 vi_X5_select (ci := 4) rfl rfl (show SH[0]? = some (_, 0) from rfl) rfl rfl (Nat.le_of_ble_eq_true rfl) (by decide) (by decide) rfl (Nat.le_refl _) (Nat.le_refl _) dL_isPacked_198 ?_
          show G E κ _ _ _ [some (vr 0), some (vi x1), some (vi x2), some (vi x3), some (vi x4), none, some (vi x6), some (vi x7), some (vi x8), some (vi x9), some (vi x10), some (vi x11)] [vi v36] (mm I)
          refine G_iload_n (x := x3) X dL_isPacked_201 rfl rfl ?_
          refine G_icmp_eq (tgt := 216) X dL_isPacked_202 (by decide) (fun hc37 => ?_) (fun hc37 => ?_)
          · have hf := (if_pos hc37).symm.trans hf
            exact fL_isPacked_J216_ok K18 K131 X I x1 x2 x3 x4 x6 x7 x8 x9 x10 x11 _ hR hK18 hK131 hf
          · have hf := (if_neg hc37).symm.trans hf
            refine G_goto (tgt := 214) X dL_isPacked_205 (by decide) ?_
            refine G_iconst (v := 0) X dL_isPacked_214 rfl ?_
            obtain rfl := Option.some.inj hf
            exact G_iret X hR rfl (nar_b2i false) dL_isPacked_215

def fL_isPacked_L131 (K18 : gI → Int32 → Int32 → Int32 → Int32 → Int32 → Int32 → Option Bool) : Nat → gI → Int32 → Int32 → Int32 → Int32 → Int32 → Int32 → Int32 → Int32 → Int32 → Option Bool
  | 0, _, _, _, _, _, _, _, _, _, _ => none
  | k + 1, I, x1, x2, x3, x4, x6, x7, x8, x9, x10 => (if (15 * x9) ≤ x10 then (if x9 = 20 then fL_isPacked_J247 K18 I x1 x2 x3 x4 ((-1)) x6 else fL_isPacked_J247 K18 I x1 x2 x3 x4 x8 x6) else (if x8 = 2 then fL_isPacked_J161 K18 (fL_isPacked_L131 K18 k) I x1 x2 x3 x4 x6 x7 x8 x9 x10 ((x7 >>> (x10 &&& 31)) &&& 1) else fL_isPacked_J161 K18 (fL_isPacked_L131 K18 k) I x1 x2 x3 x4 x6 x7 x8 x9 x10 x8))
set_option maxRecDepth 100000 in
set_option maxHeartbeats 4000000 in
theorem fL_isPacked_L131_ok (K18 : gI → Int32 → Int32 → Int32 → Int32 → Int32 → Int32 → Option Bool) {E : gEnv} {κ : gCtx} (X : Cx E κ cL_isPacked 12 RL (some .boolean) 6 0 0) : ∀ (k : Nat) (I : gI) (x1 : Int32) (x2 : Int32) (x3 : Int32) (x4 : Int32) (x6 : Int32) (x7 : Int32) (x8 : Int32) (x9 : Int32) (x10 : Int32) (r : Bool) (hR : gRt E κ 0 0 (some (vi (b2i r))) (mm I)) (hK18 : ∀ (x1 : Int32) (x2 : Int32) (x3 : Int32) (x4 : Int32) (x5 : Int32) (x6 : Int32), K18 I x1 x2 x3 x4 x5 x6 = some r → G E κ 0 0 18 [some (vr 0), some (vi x1), some (vi x2), some (vi x3), some (vi x4), some (vi x5), some (vi x6), none, none, none, none, none] [] (mm I)) (hf : fL_isPacked_L131 K18 k I x1 x2 x3 x4 x6 x7 x8 x9 x10 = some r), G E κ 0 0 131 [some (vr 0), some (vi x1), some (vi x2), some (vi x3), some (vi x4), none, some (vi x6), some (vi x7), some (vi x8), some (vi x9), some (vi x10), none] [] (mm I) := by
  intro k
  induction k with
  | zero =>
    intros
    rename_i hf
    cases hf
  | succ k ih =>
    intro I x1 x2 x3 x4 x6 x7 x8 x9 x10 r hR hK18 hf
    refine G_iload (x := x10) X dL_isPacked_131 rfl ?_
    refine G_bipush (v := 15) X dL_isPacked_133 rfl ?_
    refine G_iload (x := x9) X dL_isPacked_135 rfl ?_
    refine G_imul X dL_isPacked_137 ?_
    refine G_icmp_ge (tgt := 232) X dL_isPacked_138 (by decide) (fun hc26 => ?_) (fun hc26 => ?_)
    · have hf := (if_pos hc26).symm.trans hf
      refine G_iload (x := x9) X dL_isPacked_232 rfl ?_
      refine G_bipush (v := 20) X dL_isPacked_234 rfl ?_
      refine G_icmp_ne (tgt := 243) X dL_isPacked_236 (by decide) (fun hc27 => ?_) (fun hc27 => ?_)
      · have hf := (if_neg hc27).symm.trans hf
        refine G_iload (x := x8) X dL_isPacked_243 rfl ?_
        refine G_istore X dL_isPacked_245 rfl (ls' := [some (vr 0), some (vi x1), some (vi x2), some (vi x3), some (vi x4), some (vi x8), some (vi x6), some (vi x7), some (vi x8), some (vi x9), some (vi x10), none]) rfl ?_
        refine G_weakL (ls' := [some (vr 0), some (vi x1), some (vi x2), some (vi x3), some (vi x4), some (vi x8), some (vi x6), none, none, none, none, none]) ⟨Or.inr rfl, ⟨Or.inr rfl, ⟨Or.inr rfl, ⟨Or.inr rfl, ⟨Or.inr rfl, ⟨Or.inr rfl, ⟨Or.inr rfl, ⟨Or.inl rfl, ⟨Or.inl rfl, ⟨Or.inl rfl, ⟨Or.inl rfl, ⟨Or.inl rfl, trivial⟩⟩⟩⟩⟩⟩⟩⟩⟩⟩⟩⟩ ?_
        exact fL_isPacked_J247_ok K18 X I x1 x2 x3 x4 x8 x6 _ hR hK18 hf
      · have hf := (if_pos hc27).symm.trans hf
        refine G_iconst (v := (-1)) X dL_isPacked_239 rfl ?_
        refine G_goto (tgt := 245) X dL_isPacked_240 (by decide) ?_
        refine G_istore X dL_isPacked_245 rfl (ls' := [some (vr 0), some (vi x1), some (vi x2), some (vi x3), some (vi x4), some (vi ((-1))), some (vi x6), some (vi x7), some (vi x8), some (vi x9), some (vi x10), none]) rfl ?_
        refine G_weakL (ls' := [some (vr 0), some (vi x1), some (vi x2), some (vi x3), some (vi x4), some (vi ((-1))), some (vi x6), none, none, none, none, none]) ⟨Or.inr rfl, ⟨Or.inr rfl, ⟨Or.inr rfl, ⟨Or.inr rfl, ⟨Or.inr rfl, ⟨Or.inr rfl, ⟨Or.inr rfl, ⟨Or.inl rfl, ⟨Or.inl rfl, ⟨Or.inl rfl, ⟨Or.inl rfl, ⟨Or.inl rfl, trivial⟩⟩⟩⟩⟩⟩⟩⟩⟩⟩⟩⟩ ?_
        exact fL_isPacked_J247_ok K18 X I x1 x2 x3 x4 ((-1)) x6 _ hR hK18 hf
    · have hf := (if_neg hc26).symm.trans hf
      refine G_iload (x := x8) X dL_isPacked_141 rfl ?_
      refine G_iconst (v := 2) X dL_isPacked_143 rfl ?_
      refine G_icmp_ne (tgt := 157) X dL_isPacked_144 (by decide) (fun hc28 => ?_) (fun hc28 => ?_)
      · have hf := (if_neg hc28).symm.trans hf
        refine G_iload (x := x8) X dL_isPacked_157 rfl ?_
        refine G_istore X dL_isPacked_159 rfl (ls' := [some (vr 0), some (vi x1), some (vi x2), some (vi x3), some (vi x4), none, some (vi x6), some (vi x7), some (vi x8), some (vi x9), some (vi x10), some (vi x8)]) rfl ?_
        exact fL_isPacked_J161_ok K18 (fL_isPacked_L131 K18 k) X I x1 x2 x3 x4 x6 x7 x8 x9 x10 x8 _ hR hK18 (fun x1 x2 x3 x4 x6 x7 x8 x9 x10 hf => ih I x1 x2 x3 x4 x6 x7 x8 x9 x10 _ hR hK18 hf) hf
      · have hf := (if_pos hc28).symm.trans hf
        refine G_iload (x := x7) X dL_isPacked_147 rfl ?_
        refine G_iload (x := x10) X dL_isPacked_149 rfl ?_
        refine G_ishr X dL_isPacked_151 ?_
        refine G_iconst (v := 1) X dL_isPacked_152 rfl ?_
        refine G_iand X dL_isPacked_153 ?_
        refine G_goto (tgt := 159) X dL_isPacked_154 (by decide) ?_
        refine G_istore X dL_isPacked_159 rfl (ls' := [some (vr 0), some (vi x1), some (vi x2), some (vi x3), some (vi x4), none, some (vi x6), some (vi x7), some (vi x8), some (vi x9), some (vi x10), some (vi ((x7 >>> (x10 &&& 31)) &&& 1))]) rfl ?_
        exact fL_isPacked_J161_ok K18 (fL_isPacked_L131 K18 k) X I x1 x2 x3 x4 x6 x7 x8 x9 x10 ((x7 >>> (x10 &&& 31)) &&& 1) _ hR hK18 (fun x1 x2 x3 x4 x6 x7 x8 x9 x10 hf => ih I x1 x2 x3 x4 x6 x7 x8 x9 x10 _ hR hK18 hf) hf

def fL_isPacked_J128 (K18 : gI → Int32 → Int32 → Int32 → Int32 → Int32 → Int32 → Option Bool) (I : gI) (x1 : Int32) (x2 : Int32) (x3 : Int32) (x4 : Int32) (x6 : Int32) (x7 : Int32) (x8 : Int32) (x9 : Int32) : Option Bool := fL_isPacked_L131 K18 FU I x1 x2 x3 x4 x6 x7 x8 x9 0
set_option maxRecDepth 100000 in
set_option maxHeartbeats 4000000 in
theorem fL_isPacked_J128_ok (K18 : gI → Int32 → Int32 → Int32 → Int32 → Int32 → Int32 → Option Bool) {E : gEnv} {κ : gCtx} (X : Cx E κ cL_isPacked 12 RL (some .boolean) 6 0 0) : ∀ (I : gI) (x1 : Int32) (x2 : Int32) (x3 : Int32) (x4 : Int32) (x6 : Int32) (x7 : Int32) (x8 : Int32) (x9 : Int32) (r : Bool) (hR : gRt E κ 0 0 (some (vi (b2i r))) (mm I)) (hK18 : ∀ (x1 : Int32) (x2 : Int32) (x3 : Int32) (x4 : Int32) (x5 : Int32) (x6 : Int32), K18 I x1 x2 x3 x4 x5 x6 = some r → G E κ 0 0 18 [some (vr 0), some (vi x1), some (vi x2), some (vi x3), some (vi x4), some (vi x5), some (vi x6), none, none, none, none, none] [] (mm I)) (hf : fL_isPacked_J128 K18 I x1 x2 x3 x4 x6 x7 x8 x9 = some r), G E κ 0 0 128 [some (vr 0), some (vi x1), some (vi x2), some (vi x3), some (vi x4), none, some (vi x6), some (vi x7), some (vi x8), some (vi x9), none, none] [] (mm I) := by
  intro I x1 x2 x3 x4 x6 x7 x8 x9 r hR hK18 hf
  unfold fL_isPacked_J128 at hf
  refine G_iconst (v := 0) X dL_isPacked_128 rfl ?_
  refine G_istore X dL_isPacked_129 rfl (ls' := [some (vr 0), some (vi x1), some (vi x2), some (vi x3), some (vi x4), none, some (vi x6), some (vi x7), some (vi x8), some (vi x9), some (vi 0), none]) rfl ?_
  exact fL_isPacked_L131_ok K18 X FU I x1 x2 x3 x4 x6 x7 x8 x9 0 _ hR hK18 hf

def fL_isPacked_J81 (K18 : gI → Int32 → Int32 → Int32 → Int32 → Int32 → Int32 → Option Bool) (I : gI) (x1 : Int32) (x2 : Int32) (x3 : Int32) (x4 : Int32) (x5 : Int32) (x6 : Int32) (x7 : Int32) (x8 : Int32) (x9 : Int32) : Option Bool := (if x9 < 1 then some false else (if 20 < x9 then some false else (if x8 = 2 then (if x7 = 0 then some false else (if x7 = 32767 then some false else (if 2 ≤ x8 then fL_isPacked_J128 K18 I x1 x2 x3 x4 x6 x7 x8 x9 else (if x5 = x8 then some false else fL_isPacked_J128 K18 I x1 x2 x3 x4 x6 x7 x8 x9)))) else (if 2 ≤ x8 then fL_isPacked_J128 K18 I x1 x2 x3 x4 x6 x7 x8 x9 else (if x5 = x8 then some false else fL_isPacked_J128 K18 I x1 x2 x3 x4 x6 x7 x8 x9)))))
set_option maxRecDepth 100000 in
set_option maxHeartbeats 4000000 in
theorem fL_isPacked_J81_ok (K18 : gI → Int32 → Int32 → Int32 → Int32 → Int32 → Int32 → Option Bool) {E : gEnv} {κ : gCtx} (X : Cx E κ cL_isPacked 12 RL (some .boolean) 6 0 0) : ∀ (I : gI) (x1 : Int32) (x2 : Int32) (x3 : Int32) (x4 : Int32) (x5 : Int32) (x6 : Int32) (x7 : Int32) (x8 : Int32) (x9 : Int32) (r : Bool) (hR : gRt E κ 0 0 (some (vi (b2i r))) (mm I)) (hK18 : ∀ (x1 : Int32) (x2 : Int32) (x3 : Int32) (x4 : Int32) (x5 : Int32) (x6 : Int32), K18 I x1 x2 x3 x4 x5 x6 = some r → G E κ 0 0 18 [some (vr 0), some (vi x1), some (vi x2), some (vi x3), some (vi x4), some (vi x5), some (vi x6), none, none, none, none, none] [] (mm I)) (hf : fL_isPacked_J81 K18 I x1 x2 x3 x4 x5 x6 x7 x8 x9 = some r), G E κ 0 0 81 [some (vr 0), some (vi x1), some (vi x2), some (vi x3), some (vi x4), some (vi x5), some (vi x6), some (vi x7), some (vi x8), some (vi x9), none, none] [] (mm I) := by
  intro I x1 x2 x3 x4 x5 x6 x7 x8 x9 r hR hK18 hf
  unfold fL_isPacked_J81 at hf
  refine G_iload (x := x9) X dL_isPacked_81 rfl ?_
  refine G_iconst (v := 1) X dL_isPacked_83 rfl ?_
  refine G_icmp_lt (tgt := 126) X dL_isPacked_84 (by decide) (fun hc22 => ?_) (fun hc22 => ?_)
  · have hf := (if_pos hc22).symm.trans hf
    refine G_iconst (v := 0) X dL_isPacked_126 rfl ?_
    obtain rfl := Option.some.inj hf
    exact G_iret X hR rfl (nar_b2i false) dL_isPacked_127
  · have hf := (if_neg hc22).symm.trans hf
    refine G_iload (x := x9) X dL_isPacked_87 rfl ?_
    refine G_bipush (v := 20) X dL_isPacked_89 rfl ?_
    refine G_icmp_gt (tgt := 126) X dL_isPacked_91 (by decide) (fun hc23 => ?_) (fun hc23 => ?_)
    · have hf := (if_pos hc23).symm.trans hf
      refine G_iconst (v := 0) X dL_isPacked_126 rfl ?_
      obtain rfl := Option.some.inj hf
      exact G_iret X hR rfl (nar_b2i false) dL_isPacked_127
    · have hf := (if_neg hc23).symm.trans hf
      refine G_iload (x := x8) X dL_isPacked_94 rfl ?_
      refine G_iconst (v := 2) X dL_isPacked_96 rfl ?_
      refine G_icmp_ne (tgt := 113) X dL_isPacked_97 (by decide) (fun hc24 => ?_) (fun hc24 => ?_)
      · have hf := (if_neg hc24).symm.trans hf
        refine G_iload (x := x8) X dL_isPacked_113 rfl ?_
        refine G_iconst (v := 2) X dL_isPacked_115 rfl ?_
        refine G_icmp_ge (tgt := 128) X dL_isPacked_116 (by decide) (fun hc25 => ?_) (fun hc25 => ?_)
        · have hf := (if_pos hc25).symm.trans hf
          refine G_weakL (ls' := [some (vr 0), some (vi x1), some (vi x2), some (vi x3), some (vi x4), none, some (vi x6), some (vi x7), some (vi x8), some (vi x9), none, none]) ⟨Or.inr rfl, ⟨Or.inr rfl, ⟨Or.inr rfl, ⟨Or.inr rfl, ⟨Or.inr rfl, ⟨Or.inl rfl, ⟨Or.inr rfl, ⟨Or.inr rfl, ⟨Or.inr rfl, ⟨Or.inr rfl, ⟨Or.inl rfl, ⟨Or.inl rfl, trivial⟩⟩⟩⟩⟩⟩⟩⟩⟩⟩⟩⟩ ?_
          exact fL_isPacked_J128_ok K18 X I x1 x2 x3 x4 x6 x7 x8 x9 _ hR hK18 hf
        · have hf := (if_neg hc25).symm.trans hf
          refine G_iload (x := x5) X dL_isPacked_119 rfl ?_
          refine G_iload (x := x8) X dL_isPacked_121 rfl ?_
          refine G_icmp_ne (tgt := 128) X dL_isPacked_123 (by decide) (fun hc38 => ?_) (fun hc38 => ?_)
          · have hf := (if_neg hc38).symm.trans hf
            refine G_weakL (ls' := [some (vr 0), some (vi x1), some (vi x2), some (vi x3), some (vi x4), none, some (vi x6), some (vi x7), some (vi x8), some (vi x9), none, none]) ⟨Or.inr rfl, ⟨Or.inr rfl, ⟨Or.inr rfl, ⟨Or.inr rfl, ⟨Or.inr rfl, ⟨Or.inl rfl, ⟨Or.inr rfl, ⟨Or.inr rfl, ⟨Or.inr rfl, ⟨Or.inr rfl, ⟨Or.inl rfl, ⟨Or.inl rfl, trivial⟩⟩⟩⟩⟩⟩⟩⟩⟩⟩⟩⟩ ?_
            exact fL_isPacked_J128_ok K18 X I x1 x2 x3 x4 x6 x7 x8 x9 _ hR hK18 hf
          · have hf := (if_pos hc38).symm.trans hf
            refine G_iconst (v := 0) X dL_isPacked_126 rfl ?_
            obtain rfl := Option.some.inj hf
            exact G_iret X hR rfl (nar_b2i false) dL_isPacked_127
      · have hf := (if_pos hc24).symm.trans hf
        refine G_iload (x := x7) X dL_isPacked_100 rfl ?_
        refine G_if_eq (tgt := 126) X dL_isPacked_102 (by decide) (fun hc39 => ?_) (fun hc39 => ?_)
        · have hf := (if_pos hc39).symm.trans hf
          refine G_iconst (v := 0) X dL_isPacked_126 rfl ?_
          obtain rfl := Option.some.inj hf
          exact G_iret X hR rfl (nar_b2i false) dL_isPacked_127
        · have hf := (if_neg hc39).symm.trans hf
          refine G_iload (x := x7) X dL_isPacked_105 rfl ?_
          refine G_sipush (v := 32767) X dL_isPacked_107 rfl ?_
          refine G_icmp_eq (tgt := 126) X dL_isPacked_110 (by decide) (fun hc40 => ?_) (fun hc40 => ?_)
          · have hf := (if_pos hc40).symm.trans hf
            refine G_iconst (v := 0) X dL_isPacked_126 rfl ?_
            obtain rfl := Option.some.inj hf
            exact G_iret X hR rfl (nar_b2i false) dL_isPacked_127
          · have hf := (if_neg hc40).symm.trans hf
            refine G_iload (x := x8) X dL_isPacked_113 rfl ?_
            refine G_iconst (v := 2) X dL_isPacked_115 rfl ?_
            refine G_icmp_ge (tgt := 128) X dL_isPacked_116 (by decide) (fun hc41 => ?_) (fun hc41 => ?_)
            · have hf := (if_pos hc41).symm.trans hf
              refine G_weakL (ls' := [some (vr 0), some (vi x1), some (vi x2), some (vi x3), some (vi x4), none, some (vi x6), some (vi x7), some (vi x8), some (vi x9), none, none]) ⟨Or.inr rfl, ⟨Or.inr rfl, ⟨Or.inr rfl, ⟨Or.inr rfl, ⟨Or.inr rfl, ⟨Or.inl rfl, ⟨Or.inr rfl, ⟨Or.inr rfl, ⟨Or.inr rfl, ⟨Or.inr rfl, ⟨Or.inl rfl, ⟨Or.inl rfl, trivial⟩⟩⟩⟩⟩⟩⟩⟩⟩⟩⟩⟩ ?_
              exact fL_isPacked_J128_ok K18 X I x1 x2 x3 x4 x6 x7 x8 x9 _ hR hK18 hf
            · have hf := (if_neg hc41).symm.trans hf
              refine G_iload (x := x5) X dL_isPacked_119 rfl ?_
              refine G_iload (x := x8) X dL_isPacked_121 rfl ?_
              refine G_icmp_ne (tgt := 128) X dL_isPacked_123 (by decide) (fun hc42 => ?_) (fun hc42 => ?_)
              · have hf := (if_neg hc42).symm.trans hf
                refine G_weakL (ls' := [some (vr 0), some (vi x1), some (vi x2), some (vi x3), some (vi x4), none, some (vi x6), some (vi x7), some (vi x8), some (vi x9), none, none]) ⟨Or.inr rfl, ⟨Or.inr rfl, ⟨Or.inr rfl, ⟨Or.inr rfl, ⟨Or.inr rfl, ⟨Or.inl rfl, ⟨Or.inr rfl, ⟨Or.inr rfl, ⟨Or.inr rfl, ⟨Or.inr rfl, ⟨Or.inl rfl, ⟨Or.inl rfl, trivial⟩⟩⟩⟩⟩⟩⟩⟩⟩⟩⟩⟩ ?_
                exact fL_isPacked_J128_ok K18 X I x1 x2 x3 x4 x6 x7 x8 x9 _ hR hK18 hf
              · have hf := (if_pos hc42).symm.trans hf
                refine G_iconst (v := 0) X dL_isPacked_126 rfl ?_
                obtain rfl := Option.some.inj hf
                exact G_iret X hR rfl (nar_b2i false) dL_isPacked_127

def fL_isPacked_J63 (K18 : gI → Int32 → Int32 → Int32 → Int32 → Int32 → Int32 → Option Bool) (I : gI) (x1 : Int32) (x2 : Int32) (x3 : Int32) (x4 : Int32) (x5 : Int32) (x6 : Int32) (x7 : Int32) (x8 : Int32) : Option Bool := (if x8 = 2 then fL_isPacked_J81 K18 I x1 x2 x3 x4 x5 x6 x7 x8 1 else fL_isPacked_J81 K18 I x1 x2 x3 x4 x5 x6 x7 x8 (x7 - x7 / 16384 * 16384))
set_option maxRecDepth 100000 in
set_option maxHeartbeats 4000000 in
theorem fL_isPacked_J63_ok (K18 : gI → Int32 → Int32 → Int32 → Int32 → Int32 → Int32 → Option Bool) {E : gEnv} {κ : gCtx} (X : Cx E κ cL_isPacked 12 RL (some .boolean) 6 0 0) : ∀ (I : gI) (x1 : Int32) (x2 : Int32) (x3 : Int32) (x4 : Int32) (x5 : Int32) (x6 : Int32) (x7 : Int32) (x8 : Int32) (r : Bool) (hR : gRt E κ 0 0 (some (vi (b2i r))) (mm I)) (hK18 : ∀ (x1 : Int32) (x2 : Int32) (x3 : Int32) (x4 : Int32) (x5 : Int32) (x6 : Int32), K18 I x1 x2 x3 x4 x5 x6 = some r → G E κ 0 0 18 [some (vr 0), some (vi x1), some (vi x2), some (vi x3), some (vi x4), some (vi x5), some (vi x6), none, none, none, none, none] [] (mm I)) (hf : fL_isPacked_J63 K18 I x1 x2 x3 x4 x5 x6 x7 x8 = some r), G E κ 0 0 63 [some (vr 0), some (vi x1), some (vi x2), some (vi x3), some (vi x4), some (vi x5), some (vi x6), some (vi x7), some (vi x8), none, none, none] [] (mm I) := by
  intro I x1 x2 x3 x4 x5 x6 x7 x8 r hR hK18 hf
  unfold fL_isPacked_J63 at hf
  refine G_iload (x := x8) X dL_isPacked_63 rfl ?_
  refine G_iconst (v := 2) X dL_isPacked_65 rfl ?_
  refine G_icmp_ne (tgt := 73) X dL_isPacked_66 (by decide) (fun hc21 => ?_) (fun hc21 => ?_)
  · have hf := (if_neg hc21).symm.trans hf
    refine G_iload (x := x7) X dL_isPacked_73 rfl ?_
    refine G_sipush (v := 16384) X dL_isPacked_75 rfl ?_
    refine G_irem X dL_isPacked_78 (by decide) ?_
    refine G_istore X dL_isPacked_79 rfl (ls' := [some (vr 0), some (vi x1), some (vi x2), some (vi x3), some (vi x4), some (vi x5), some (vi x6), some (vi x7), some (vi x8), some (vi (x7 - x7 / 16384 * 16384)), none, none]) rfl ?_
    exact fL_isPacked_J81_ok K18 X I x1 x2 x3 x4 x5 x6 x7 x8 (x7 - x7 / 16384 * 16384) _ hR hK18 hf
  · have hf := (if_pos hc21).symm.trans hf
    refine G_iconst (v := 1) X dL_isPacked_69 rfl ?_
    refine G_goto (tgt := 79) X dL_isPacked_70 (by decide) ?_
    refine G_istore X dL_isPacked_79 rfl (ls' := [some (vr 0), some (vi x1), some (vi x2), some (vi x3), some (vi x4), some (vi x5), some (vi x6), some (vi x7), some (vi x8), some (vi 1), none, none]) rfl ?_
    exact fL_isPacked_J81_ok K18 X I x1 x2 x3 x4 x5 x6 x7 x8 1 _ hR hK18 hf

def fL_isPacked_L18 : Nat → gI → Int32 → Int32 → Int32 → Int32 → Int32 → Int32 → Option Bool
  | 0, _, _, _, _, _, _, _ => none
  | k + 1, I, x1, x2, x3, x4, x5, x6 => (f5_row I x1 1).bind fun v2 => (if v2 ≤ x6 then (if x3 < x2 then some false else (if (x2 + 15) ≤ x3 then some false else (f5_row I x1 5).bind fun v6 => (if x4 = v6 then (f5_rank I x1 x2).bind fun v8 => (if v8 = x4 then (f5_row I x1 1).bind fun v10 => (f5_word I x1 v10).bind fun v11 => (if v11 = ((-9)) then (f5_row I x1 2).bind fun v13 => (f5_row I x1 3).bind fun v14 => (f5_row I x1 4).bind fun v15 => (f5_row I x1 1).bind fun v16 => (if ((v13 + v14) + v15) = v16 then some true else some false) else some false) else some false) else some false))) else (f5_word I x1 x6).bind fun v18 => (if 32768 ≤ v18 then (if 49152 ≤ v18 then fL_isPacked_J63 (fL_isPacked_L18 k) I x1 x2 x3 x4 x5 x6 v18 1 else fL_isPacked_J63 (fL_isPacked_L18 k) I x1 x2 x3 x4 x5 x6 v18 0) else fL_isPacked_J63 (fL_isPacked_L18 k) I x1 x2 x3 x4 x5 x6 v18 2))
set_option maxRecDepth 100000 in
set_option maxHeartbeats 4000000 in
theorem fL_isPacked_L18_ok {E : gEnv} {κ : gCtx} (X : Cx E κ cL_isPacked 12 RL (some .boolean) 6 0 0) : ∀ (k : Nat) (I : gI) (x1 : Int32) (x2 : Int32) (x3 : Int32) (x4 : Int32) (x5 : Int32) (x6 : Int32) (r : Bool) (hR : gRt E κ 0 0 (some (vi (b2i r))) (mm I)) (hf : fL_isPacked_L18 k I x1 x2 x3 x4 x5 x6 = some r), G E κ 0 0 18 [some (vr 0), some (vi x1), some (vi x2), some (vi x3), some (vi x4), some (vi x5), some (vi x6), none, none, none, none, none] [] (mm I) := by
  intro k
  induction k with
  | zero =>
    intros
    rename_i hf
    cases hf
  | succ k ih =>
    intro I x1 x2 x3 x4 x5 x6 r hR hf
    refine G_iload (x := x6) X dL_isPacked_18 rfl ?_
    refine G_aload_n (x := some (0)) X dL_isPacked_20 rfl rfl ?_
    refine G_iload_n (x := x1) X dL_isPacked_21 rfl rfl ?_
    refine G_iconst (v := 1) X dL_isPacked_22 rfl ?_
    obtain ⟨v2, hk2, hf⟩ := obd hf
    refine G_callV (As := [vi x1, vi 1]) X (f5_row_ok E I x1 1 v2 hk2) cb_L_18 vi_X5_row (ci := 4) rfl rfl (show SH[0]? = some (_, 0) from rfl) rfl rfl (Nat.le_of_ble_eq_true rfl) (by decide) (by decide) rfl (Nat.le_refl _) (Nat.le_refl _) dL_isPacked_23 ?_
    show G E κ _ _ _ [some (vr 0), some (vi x1), some (vi x2), some (vi x3), some (vi x4), some (vi x5), some (vi x6), none, none, none, none, none] [vi v2, vi x6] (mm I)
    refine G_icmp_ge (tgt := 253) X dL_isPacked_26 (by decide) (fun hc3 => ?_) (fun hc3 => ?_)
    · have hf := (if_pos hc3).symm.trans hf
      refine G_iload_n (x := x3) X dL_isPacked_253 rfl rfl ?_
      refine G_iload_n (x := x2) X dL_isPacked_254 rfl rfl ?_
      refine G_icmp_lt (tgt := 337) X dL_isPacked_255 (by decide) (fun hc4 => ?_) (fun hc4 => ?_)
      · have hf := (if_pos hc4).symm.trans hf
        refine G_iconst (v := 0) X dL_isPacked_337 rfl ?_
        obtain rfl := Option.some.inj hf
        exact G_iret X hR rfl (nar_b2i false) dL_isPacked_338
      · have hf := (if_neg hc4).symm.trans hf
        refine G_iload_n (x := x3) X dL_isPacked_258 rfl rfl ?_
        refine G_iload_n (x := x2) X dL_isPacked_259 rfl rfl ?_
        refine G_bipush (v := 15) X dL_isPacked_260 rfl ?_
        refine G_iadd X dL_isPacked_262 ?_
        refine G_icmp_ge (tgt := 337) X dL_isPacked_263 (by decide) (fun hc5 => ?_) (fun hc5 => ?_)
        · have hf := (if_pos hc5).symm.trans hf
          refine G_iconst (v := 0) X dL_isPacked_337 rfl ?_
          obtain rfl := Option.some.inj hf
          exact G_iret X hR rfl (nar_b2i false) dL_isPacked_338
        · have hf := (if_neg hc5).symm.trans hf
          refine G_iload (x := x4) X dL_isPacked_266 rfl ?_
          refine G_aload_n (x := some (0)) X dL_isPacked_268 rfl rfl ?_
          refine G_iload_n (x := x1) X dL_isPacked_269 rfl rfl ?_
          refine G_iconst (v := 5) X dL_isPacked_270 rfl ?_
          obtain ⟨v6, hk6, hf⟩ := obd hf
          refine G_callV (As := [vi x1, vi 5]) X (f5_row_ok E I x1 5 v6 hk6) cb_L_18 vi_X5_row (ci := 4) rfl rfl (show SH[0]? = some (_, 0) from rfl) rfl rfl (Nat.le_of_ble_eq_true rfl) (by decide) (by decide) rfl (Nat.le_refl _) (Nat.le_refl _) dL_isPacked_271 ?_
          show G E κ _ _ _ [some (vr 0), some (vi x1), some (vi x2), some (vi x3), some (vi x4), some (vi x5), some (vi x6), none, none, none, none, none] [vi v6, vi x4] (mm I)
          refine G_icmp_ne (tgt := 337) X dL_isPacked_274 (by decide) (fun hc7 => ?_) (fun hc7 => ?_)
          · have hf := (if_neg hc7).symm.trans hf
            refine G_iconst (v := 0) X dL_isPacked_337 rfl ?_
            obtain rfl := Option.some.inj hf
            exact G_iret X hR rfl (nar_b2i false) dL_isPacked_338
          · have hf := (if_pos hc7).symm.trans hf
            refine G_aload_n (x := some (0)) X dL_isPacked_277 rfl rfl ?_
            refine G_iload_n (x := x1) X dL_isPacked_278 rfl rfl ?_
            refine G_iload_n (x := x2) X dL_isPacked_279 rfl rfl ?_
            obtain ⟨v8, hk8, hf⟩ := obd hf
            refine G_callV (As := [vi x1, vi x2]) X (f5_rank_ok E I x1 x2 v8 hk8) cb_L_30 vi_X5_rank (ci := 4) rfl rfl (show SH[0]? = some (_, 0) from rfl) rfl rfl (Nat.le_of_ble_eq_true rfl) (by decide) (by decide) rfl (Nat.le_refl _) (Nat.le_refl _) dL_isPacked_280 ?_
            show G E κ _ _ _ [some (vr 0), some (vi x1), some (vi x2), some (vi x3), some (vi x4), some (vi x5), some (vi x6), none, none, none, none, none] [vi v8] (mm I)
            refine G_iload (x := x4) X dL_isPacked_283 rfl ?_
            refine G_icmp_ne (tgt := 337) X dL_isPacked_285 (by decide) (fun hc9 => ?_) (fun hc9 => ?_)
            · have hf := (if_neg hc9).symm.trans hf
              refine G_iconst (v := 0) X dL_isPacked_337 rfl ?_
              obtain rfl := Option.some.inj hf
              exact G_iret X hR rfl (nar_b2i false) dL_isPacked_338
            · have hf := (if_pos hc9).symm.trans hf
              refine G_aload_n (x := some (0)) X dL_isPacked_288 rfl rfl ?_
              refine G_iload_n (x := x1) X dL_isPacked_289 rfl rfl ?_
              refine G_aload_n (x := some (0)) X dL_isPacked_290 rfl rfl ?_
              refine G_iload_n (x := x1) X dL_isPacked_291 rfl rfl ?_
              refine G_iconst (v := 1) X dL_isPacked_292 rfl ?_
              obtain ⟨v10, hk10, hf⟩ := obd hf
              refine G_callV (As := [vi x1, vi 1]) X (f5_row_ok E I x1 1 v10 hk10) cb_L_18 vi_X5_row (ci := 4) rfl rfl (show SH[0]? = some (_, 0) from rfl) rfl rfl (Nat.le_of_ble_eq_true rfl) (by decide) (by decide) rfl (Nat.le_refl _) (Nat.le_refl _) dL_isPacked_293 ?_
              show G E κ _ _ _ [some (vr 0), some (vi x1), some (vi x2), some (vi x3), some (vi x4), some (vi x5), some (vi x6), none, none, none, none, none] [vi v10, vi x1, vr 0] (mm I)
              obtain ⟨v11, hk11, hf⟩ := obd hf
              refine G_callV (As := [vi x1, vi v10]) X (f5_word_ok E I x1 v10 v11 hk11) cb_L_22 vi_X5_word (ci := 4) rfl rfl (show SH[0]? = some (_, 0) from rfl) rfl rfl (Nat.le_of_ble_eq_true rfl) (by decide) (by decide) rfl (Nat.le_refl _) (Nat.le_refl _) dL_isPacked_296 ?_
              show G E κ _ _ _ [some (vr 0), some (vi x1), some (vi x2), some (vi x3), some (vi x4), some (vi x5), some (vi x6), none, none, none, none, none] [vi v11] (mm I)
              refine G_bipush (v := (-9)) X dL_isPacked_299 rfl ?_
              refine G_icmp_ne (tgt := 337) X dL_isPacked_301 (by decide) (fun hc12 => ?_) (fun hc12 => ?_)
              · have hf := (if_neg hc12).symm.trans hf
                refine G_iconst (v := 0) X dL_isPacked_337 rfl ?_
                obtain rfl := Option.some.inj hf
                exact G_iret X hR rfl (nar_b2i false) dL_isPacked_338
              · have hf := (if_pos hc12).symm.trans hf
                refine G_aload_n (x := some (0)) X dL_isPacked_304 rfl rfl ?_
                refine G_iload_n (x := x1) X dL_isPacked_305 rfl rfl ?_
                refine G_iconst (v := 2) X dL_isPacked_306 rfl ?_
                obtain ⟨v13, hk13, hf⟩ := obd hf
                refine G_callV (As := [vi x1, vi 2]) X (f5_row_ok E I x1 2 v13 hk13) cb_L_18 vi_X5_row (ci := 4) rfl rfl (show SH[0]? = some (_, 0) from rfl) rfl rfl (Nat.le_of_ble_eq_true rfl) (by decide) (by decide) rfl (Nat.le_refl _) (Nat.le_refl _) dL_isPacked_307 ?_
                show G E κ _ _ _ [some (vr 0), some (vi x1), some (vi x2), some (vi x3), some (vi x4), some (vi x5), some (vi x6), none, none, none, none, none] [vi v13] (mm I)
                refine G_aload_n (x := some (0)) X dL_isPacked_310 rfl rfl ?_
                refine G_iload_n (x := x1) X dL_isPacked_311 rfl rfl ?_
                refine G_iconst (v := 3) X dL_isPacked_312 rfl ?_
                obtain ⟨v14, hk14, hf⟩ := obd hf
                refine G_callV (As := [vi x1, vi 3]) X (f5_row_ok E I x1 3 v14 hk14) cb_L_18 vi_X5_row (ci := 4) rfl rfl (show SH[0]? = some (_, 0) from rfl) rfl rfl (Nat.le_of_ble_eq_true rfl) (by decide) (by decide) rfl (Nat.le_refl _) (Nat.le_refl _) dL_isPacked_313 ?_
                show G E κ _ _ _ [some (vr 0), some (vi x1), some (vi x2), some (vi x3), some (vi x4), some (vi x5), some (vi x6), none, none, none, none, none] [vi v14, vi v13] (mm I)
                refine G_iadd X dL_isPacked_316 ?_
                refine G_aload_n (x := some (0)) X dL_isPacked_317 rfl rfl ?_
                refine G_iload_n (x := x1) X dL_isPacked_318 rfl rfl ?_
                refine G_iconst (v := 4) X dL_isPacked_319 rfl ?_
                obtain ⟨v15, hk15, hf⟩ := obd hf
                refine G_callV (As := [vi x1, vi 4]) X (f5_row_ok E I x1 4 v15 hk15) cb_L_18 vi_X5_row (ci := 4) rfl rfl (show SH[0]? = some (_, 0) from rfl) rfl rfl (Nat.le_of_ble_eq_true rfl) (by decide) (by decide) rfl (Nat.le_refl _) (Nat.le_refl _) dL_isPacked_320 ?_
                show G E κ _ _ _ [some (vr 0), some (vi x1), some (vi x2), some (vi x3), some (vi x4), some (vi x5), some (vi x6), none, none, none, none, none] [vi v15, vi (v13 + v14)] (mm I)
                refine G_iadd X dL_isPacked_323 ?_
                refine G_aload_n (x := some (0)) X dL_isPacked_324 rfl rfl ?_
                refine G_iload_n (x := x1) X dL_isPacked_325 rfl rfl ?_
                refine G_iconst (v := 1) X dL_isPacked_326 rfl ?_
                obtain ⟨v16, hk16, hf⟩ := obd hf
                refine G_callV (As := [vi x1, vi 1]) X (f5_row_ok E I x1 1 v16 hk16) cb_L_18 vi_X5_row (ci := 4) rfl rfl (show SH[0]? = some (_, 0) from rfl) rfl rfl (Nat.le_of_ble_eq_true rfl) (by decide) (by decide) rfl (Nat.le_refl _) (Nat.le_refl _) dL_isPacked_327 ?_
                show G E κ _ _ _ [some (vr 0), some (vi x1), some (vi x2), some (vi x3), some (vi x4), some (vi x5), some (vi x6), none, none, none, none, none] [vi v16, vi ((v13 + v14) + v15)] (mm I)
                refine G_icmp_ne (tgt := 337) X dL_isPacked_330 (by decide) (fun hc17 => ?_) (fun hc17 => ?_)
                · have hf := (if_neg hc17).symm.trans hf
                  refine G_iconst (v := 0) X dL_isPacked_337 rfl ?_
                  obtain rfl := Option.some.inj hf
                  exact G_iret X hR rfl (nar_b2i false) dL_isPacked_338
                · have hf := (if_pos hc17).symm.trans hf
                  refine G_iconst (v := 1) X dL_isPacked_333 rfl ?_
                  refine G_goto (tgt := 338) X dL_isPacked_334 (by decide) ?_
                  obtain rfl := Option.some.inj hf
                  exact G_iret X hR rfl (nar_b2i true) dL_isPacked_338
    · have hf := (if_neg hc3).symm.trans hf
      refine G_aload_n (x := some (0)) X dL_isPacked_29 rfl rfl ?_
      refine G_iload_n (x := x1) X dL_isPacked_30 rfl rfl ?_
      refine G_iload (x := x6) X dL_isPacked_31 rfl ?_
      obtain ⟨v18, hk18, hf⟩ := obd hf
      refine G_callV (As := [vi x1, vi x6]) X (f5_word_ok E I x1 x6 v18 hk18) cb_L_22 vi_X5_word (ci := 4) rfl rfl (show SH[0]? = some (_, 0) from rfl) rfl rfl (Nat.le_of_ble_eq_true rfl) (by decide) (by decide) rfl (Nat.le_refl _) (Nat.le_refl _) dL_isPacked_33 ?_
      show G E κ _ _ _ [some (vr 0), some (vi x1), some (vi x2), some (vi x3), some (vi x4), some (vi x5), some (vi x6), none, none, none, none, none] [vi v18] (mm I)
      refine G_istore X dL_isPacked_36 rfl (ls' := [some (vr 0), some (vi x1), some (vi x2), some (vi x3), some (vi x4), some (vi x5), some (vi x6), some (vi v18), none, none, none, none]) rfl ?_
      refine G_iload (x := v18) X dL_isPacked_38 rfl ?_
      refine G_ldc (v := 32768) X kc_L_25 dL_isPacked_40 ?_
      refine G_icmp_ge (tgt := 49) X dL_isPacked_42 (by decide) (fun hc19 => ?_) (fun hc19 => ?_)
      · have hf := (if_pos hc19).symm.trans hf
        refine G_iload (x := v18) X dL_isPacked_49 rfl ?_
        refine G_ldc (v := 49152) X kc_L_26 dL_isPacked_51 ?_
        refine G_icmp_ge (tgt := 60) X dL_isPacked_53 (by decide) (fun hc20 => ?_) (fun hc20 => ?_)
        · have hf := (if_pos hc20).symm.trans hf
          refine G_iconst (v := 1) X dL_isPacked_60 rfl ?_
          refine G_istore X dL_isPacked_61 rfl (ls' := [some (vr 0), some (vi x1), some (vi x2), some (vi x3), some (vi x4), some (vi x5), some (vi x6), some (vi v18), some (vi 1), none, none, none]) rfl ?_
          exact fL_isPacked_J63_ok (fL_isPacked_L18 k) X I x1 x2 x3 x4 x5 x6 v18 1 _ hR (fun x1 x2 x3 x4 x5 x6 hf => ih I x1 x2 x3 x4 x5 x6 _ hR hf) hf
        · have hf := (if_neg hc20).symm.trans hf
          refine G_iconst (v := 0) X dL_isPacked_56 rfl ?_
          refine G_goto (tgt := 61) X dL_isPacked_57 (by decide) ?_
          refine G_istore X dL_isPacked_61 rfl (ls' := [some (vr 0), some (vi x1), some (vi x2), some (vi x3), some (vi x4), some (vi x5), some (vi x6), some (vi v18), some (vi 0), none, none, none]) rfl ?_
          exact fL_isPacked_J63_ok (fL_isPacked_L18 k) X I x1 x2 x3 x4 x5 x6 v18 0 _ hR (fun x1 x2 x3 x4 x5 x6 hf => ih I x1 x2 x3 x4 x5 x6 _ hR hf) hf
      · have hf := (if_neg hc19).symm.trans hf
        refine G_iconst (v := 2) X dL_isPacked_45 rfl ?_
        refine G_goto (tgt := 61) X dL_isPacked_46 (by decide) ?_
        refine G_istore X dL_isPacked_61 rfl (ls' := [some (vr 0), some (vi x1), some (vi x2), some (vi x3), some (vi x4), some (vi x5), some (vi x6), some (vi v18), some (vi 2), none, none, none]) rfl ?_
        exact fL_isPacked_J63_ok (fL_isPacked_L18 k) X I x1 x2 x3 x4 x5 x6 v18 2 _ hR (fun x1 x2 x3 x4 x5 x6 hf => ih I x1 x2 x3 x4 x5 x6 _ hR hf) hf

def fL_isPacked (I : gI) (a1 : Int32) : Option Bool := (f5_row I a1 0).bind fun v1 => fL_isPacked_L18 FU I a1 v1 0 0 ((-1)) 0
set_option maxRecDepth 100000 in
set_option maxHeartbeats 4000000 in
theorem fL_isPacked_ok (E : gEnv) (I : gI) (a1 : Int32) (r : Bool) (hf : fL_isPacked I a1 = some r) : Ctr E yL_isPacked cL_isPacked 12 (some .boolean) 6 0 0 [vr 0, vi a1] (mm I) (some (vi (b2i r))) (mm I) := by
  refine Ctr.mk (by decide +kernel) rfl (Nat.le_of_ble_eq_true rfl) fun κ X hR _ => ?_
  have X : Cx E κ cL_isPacked 12 RL (some .boolean) 6 0 0 := X
  show G E κ 0 0 0 [some (vr 0), some (vi a1), none, none, none, none, none, none, none, none, none, none] [] (mm I)
  unfold fL_isPacked at hf
  refine G_aload_n (x := some (0)) X dL_isPacked_0 rfl rfl ?_
  refine G_iload_n (x := a1) X dL_isPacked_1 rfl rfl ?_
  refine G_iconst (v := 0) X dL_isPacked_2 rfl ?_
  obtain ⟨v1, hk1, hf⟩ := obd hf
  refine G_callV (As := [vi a1, vi 0]) X (f5_row_ok E I a1 0 v1 hk1) cb_L_18 vi_X5_row (ci := 4) rfl rfl (show SH[0]? = some (_, 0) from rfl) rfl rfl (Nat.le_of_ble_eq_true rfl) (by decide) (by decide) rfl (Nat.le_refl _) (Nat.le_refl _) dL_isPacked_3 ?_
  show G E κ _ _ _ [some (vr 0), some (vi a1), none, none, none, none, none, none, none, none, none, none] [vi v1] (mm I)
  refine G_istore_n X dL_isPacked_6 rfl rfl (ls' := [some (vr 0), some (vi a1), some (vi v1), none, none, none, none, none, none, none, none, none]) rfl ?_
  refine G_iconst (v := 0) X dL_isPacked_7 rfl ?_
  refine G_istore_n X dL_isPacked_8 rfl rfl (ls' := [some (vr 0), some (vi a1), some (vi v1), some (vi 0), none, none, none, none, none, none, none, none]) rfl ?_
  refine G_iconst (v := 0) X dL_isPacked_9 rfl ?_
  refine G_istore X dL_isPacked_10 rfl (ls' := [some (vr 0), some (vi a1), some (vi v1), some (vi 0), some (vi 0), none, none, none, none, none, none, none]) rfl ?_
  refine G_iconst (v := (-1)) X dL_isPacked_12 rfl ?_
  refine G_istore X dL_isPacked_13 rfl (ls' := [some (vr 0), some (vi a1), some (vi v1), some (vi 0), some (vi 0), some (vi ((-1))), none, none, none, none, none, none]) rfl ?_
  refine G_iconst (v := 0) X dL_isPacked_15 rfl ?_
  refine G_istore X dL_isPacked_16 rfl (ls' := [some (vr 0), some (vi a1), some (vi v1), some (vi 0), some (vi 0), some (vi ((-1))), some (vi 0), none, none, none, none, none]) rfl ?_
  exact fL_isPacked_L18_ok X FU I a1 v1 0 0 ((-1)) 0 _ hR hf

def fL_isSound_J222 (I : gI) (x1 : Int32) (x2 : Int32) (x5 : Int32) (x7 : Int32) : Option (Bool × gI) := (f5_would I 0 x1 x2 1).bind fun q29 => (if x7 ≤ 0 then (if q29.1 ≤ 0 then (f5_would q29.2 0 x1 x1 2).bind fun q32 => (if q32.1 = x5 then (f5_would q32.2 3 x1 x1 2).bind fun q34 => (if q34.1 = 0 then (f5_same q34.2 x1).bind fun v36 => (if x1 < v36 then some (false, q34.2) else (f5_same q34.2 x1).bind fun v38 => (f5_same q34.2 v38).bind fun v39 => (f5_same q34.2 x1).bind fun v40 => (if v39 = v40 then some (true, q34.2) else some (false, q34.2))) else some (false, q34.2)) else some (false, q32.2)) else some (false, q29.2)) else (if q29.1 ≤ 40 then (f5_would q29.2 0 x1 x1 2).bind fun q43 => (if q43.1 = x5 then (f5_would q43.2 3 x1 x1 2).bind fun q45 => (if q45.1 = 0 then (f5_same q45.2 x1).bind fun v47 => (if x1 < v47 then some (false, q45.2) else (f5_same q45.2 x1).bind fun v49 => (f5_same q45.2 v49).bind fun v50 => (f5_same q45.2 x1).bind fun v51 => (if v50 = v51 then some (true, q45.2) else some (false, q45.2))) else some (false, q45.2)) else some (false, q43.2)) else some (false, q29.2)))
set_option maxRecDepth 100000 in
set_option maxHeartbeats 4000000 in
theorem fL_isSound_J222_ok {E : gEnv} {κ : gCtx} (X : Cx E κ cL_isSound 9 RL (some .boolean) 6 0 0) : ∀ (I : gI) (x1 : Int32) (x2 : Int32) (x5 : Int32) (x7 : Int32) (r : Bool) (I' : gI) (hR : gRt E κ 0 0 (some (vi (b2i r))) (mm I')) (hf : fL_isSound_J222 I x1 x2 x5 x7 = some (r, I')), G E κ 0 0 222 [some (vr 0), some (vi x1), some (vi x2), none, none, some (vi x5), none, some (vi x7), none] [] (mm I) := by
  intro I x1 x2 x5 x7 r I' hR hf
  unfold fL_isSound_J222 at hf
  refine G_aload_n (x := some (0)) X dL_isSound_222 rfl rfl ?_
  refine G_iconst (v := 0) X dL_isSound_223 rfl ?_
  refine G_iload_n (x := x1) X dL_isSound_224 rfl rfl ?_
  refine G_iload_n (x := x2) X dL_isSound_225 rfl rfl ?_
  refine G_iconst (v := 1) X dL_isSound_226 rfl ?_
  obtain ⟨⟨v29, I29⟩, hk29, hf⟩ := obd hf
  try dsimp only at hf
  refine G_callV (As := [vi 0, vi x1, vi x2, vi 1]) X (f5_would_ok E I 0 x1 x2 1 v29 I29 hk29) cb_L_38 vi_X5_would (ci := 4) rfl rfl (show SH[0]? = some (_, 0) from rfl) rfl rfl (Nat.le_of_ble_eq_true rfl) (by decide) (by decide) rfl (Nat.le_refl _) (Nat.le_refl _) dL_isSound_227 ?_
  show G E κ _ _ _ [some (vr 0), some (vi x1), some (vi x2), none, none, some (vi x5), none, some (vi x7), none] [vi v29] (mm I29)
  refine G_iload (x := x7) X dL_isSound_230 rfl ?_
  refine G_if_le (tgt := 240) X dL_isSound_232 (by decide) (fun hc30 => ?_) (fun hc30 => ?_)
  · have hf := (if_pos hc30).symm.trans hf
    refine G_iconst (v := 0) X dL_isSound_240 rfl ?_
    refine G_icmp_le (tgt := 246) X dL_isSound_241 (by decide) (fun hc31 => ?_) (fun hc31 => ?_)
    · have hf := (if_pos hc31).symm.trans hf
      refine G_aload_n (x := some (0)) X dL_isSound_246 rfl rfl ?_
      refine G_iconst (v := 0) X dL_isSound_247 rfl ?_
      refine G_iload_n (x := x1) X dL_isSound_248 rfl rfl ?_
      refine G_iload_n (x := x1) X dL_isSound_249 rfl rfl ?_
      refine G_iconst (v := 2) X dL_isSound_250 rfl ?_
      obtain ⟨⟨v32, I32⟩, hk32, hf⟩ := obd hf
      try dsimp only at hf
      refine G_callV (As := [vi 0, vi x1, vi x1, vi 2]) X (f5_would_ok E I29 0 x1 x1 2 v32 I32 hk32) cb_L_38 vi_X5_would (ci := 4) rfl rfl (show SH[0]? = some (_, 0) from rfl) rfl rfl (Nat.le_of_ble_eq_true rfl) (by decide) (by decide) rfl (Nat.le_refl _) (Nat.le_refl _) dL_isSound_251 ?_
      show G E κ _ _ _ [some (vr 0), some (vi x1), some (vi x2), none, none, some (vi x5), none, some (vi x7), none] [vi v32] (mm I32)
      refine G_iload (x := x5) X dL_isSound_254 rfl ?_
      refine G_icmp_ne (tgt := 300) X dL_isSound_256 (by decide) (fun hc33 => ?_) (fun hc33 => ?_)
      · have hf := (if_neg hc33).symm.trans hf
        refine G_iconst (v := 0) X dL_isSound_300 rfl ?_
        obtain ⟨rfl, rfl⟩ := Prod.mk.inj (Option.some.inj hf)
        exact G_iret X hR rfl (nar_b2i false) dL_isSound_301
      · have hf := (if_pos hc33).symm.trans hf
        refine G_aload_n (x := some (0)) X dL_isSound_259 rfl rfl ?_
        refine G_iconst (v := 3) X dL_isSound_260 rfl ?_
        refine G_iload_n (x := x1) X dL_isSound_261 rfl rfl ?_
        refine G_iload_n (x := x1) X dL_isSound_262 rfl rfl ?_
        refine G_iconst (v := 2) X dL_isSound_263 rfl ?_
        obtain ⟨⟨v34, I34⟩, hk34, hf⟩ := obd hf
        try dsimp only at hf
        refine G_callV (As := [vi 3, vi x1, vi x1, vi 2]) X (f5_would_ok E I32 3 x1 x1 2 v34 I34 hk34) cb_L_38 vi_X5_would (ci := 4) rfl rfl (show SH[0]? = some (_, 0) from rfl) rfl rfl (Nat.le_of_ble_eq_true rfl) (by decide) (by decide) rfl (Nat.le_refl _) (Nat.le_refl _) dL_isSound_264 ?_
        show G E κ _ _ _ [some (vr 0), some (vi x1), some (vi x2), none, none, some (vi x5), none, some (vi x7), none] [vi v34] (mm I34)
        refine G_if_ne (tgt := 300) X dL_isSound_267 (by decide) (fun hc35 => ?_) (fun hc35 => ?_)
        · have hf := (if_neg hc35).symm.trans hf
          refine G_iconst (v := 0) X dL_isSound_300 rfl ?_
          obtain ⟨rfl, rfl⟩ := Prod.mk.inj (Option.some.inj hf)
          exact G_iret X hR rfl (nar_b2i false) dL_isSound_301
        · have hf := (if_pos hc35).symm.trans hf
          refine G_aload_n (x := some (0)) X dL_isSound_270 rfl rfl ?_
          refine G_iload_n (x := x1) X dL_isSound_271 rfl rfl ?_
          obtain ⟨v36, hk36, hf⟩ := obd hf
          refine G_callV (As := [vi x1]) X (f5_same_ok E I34 x1 v36 hk36) cb_L_42 vi_X5_same (ci := 4) rfl rfl (show SH[0]? = some (_, 0) from rfl) rfl rfl (Nat.le_of_ble_eq_true rfl) (by decide) (by decide) rfl (Nat.le_refl _) (Nat.le_refl _) dL_isSound_272 ?_
          show G E κ _ _ _ [some (vr 0), some (vi x1), some (vi x2), none, none, some (vi x5), none, some (vi x7), none] [vi v36] (mm I34)
          refine G_iload_n (x := x1) X dL_isSound_275 rfl rfl ?_
          refine G_icmp_gt (tgt := 300) X dL_isSound_276 (by decide) (fun hc37 => ?_) (fun hc37 => ?_)
          · have hf := (if_pos hc37).symm.trans hf
            refine G_iconst (v := 0) X dL_isSound_300 rfl ?_
            obtain ⟨rfl, rfl⟩ := Prod.mk.inj (Option.some.inj hf)
            exact G_iret X hR rfl (nar_b2i false) dL_isSound_301
          · have hf := (if_neg hc37).symm.trans hf
            refine G_aload_n (x := some (0)) X dL_isSound_279 rfl rfl ?_
            refine G_aload_n (x := some (0)) X dL_isSound_280 rfl rfl ?_
            refine G_iload_n (x := x1) X dL_isSound_281 rfl rfl ?_
            obtain ⟨v38, hk38, hf⟩ := obd hf
            refine G_callV (As := [vi x1]) X (f5_same_ok E I34 x1 v38 hk38) cb_L_42 vi_X5_same (ci := 4) rfl rfl (show SH[0]? = some (_, 0) from rfl) rfl rfl (Nat.le_of_ble_eq_true rfl) (by decide) (by decide) rfl (Nat.le_refl _) (Nat.le_refl _) dL_isSound_282 ?_
            show G E κ _ _ _ [some (vr 0), some (vi x1), some (vi x2), none, none, some (vi x5), none, some (vi x7), none] [vi v38, vr 0] (mm I34)
            obtain ⟨v39, hk39, hf⟩ := obd hf
            refine G_callV (As := [vi v38]) X (f5_same_ok E I34 v38 v39 hk39) cb_L_42 vi_X5_same (ci := 4) rfl rfl (show SH[0]? = some (_, 0) from rfl) rfl rfl (Nat.le_of_ble_eq_true rfl) (by decide) (by decide) rfl (Nat.le_refl _) (Nat.le_refl _) dL_isSound_285 ?_
            show G E κ _ _ _ [some (vr 0), some (vi x1), some (vi x2), none, none, some (vi x5), none, some (vi x7), none] [vi v39] (mm I34)
            refine G_aload_n (x := some (0)) X dL_isSound_288 rfl rfl ?_
            refine G_iload_n (x := x1) X dL_isSound_289 rfl rfl ?_
            obtain ⟨v40, hk40, hf⟩ := obd hf
            refine G_callV (As := [vi x1]) X (f5_same_ok E I34 x1 v40 hk40) cb_L_42 vi_X5_same (ci := 4) rfl rfl (show SH[0]? = some (_, 0) from rfl) rfl rfl (Nat.le_of_ble_eq_true rfl) (by decide) (by decide) rfl (Nat.le_refl _) (Nat.le_refl _) dL_isSound_290 ?_
            show G E κ _ _ _ [some (vr 0), some (vi x1), some (vi x2), none, none, some (vi x5), none, some (vi x7), none] [vi v40, vi v39] (mm I34)
            refine G_icmp_ne (tgt := 300) X dL_isSound_293 (by decide) (fun hc41 => ?_) (fun hc41 => ?_)
            · have hf := (if_neg hc41).symm.trans hf
              refine G_iconst (v := 0) X dL_isSound_300 rfl ?_
              obtain ⟨rfl, rfl⟩ := Prod.mk.inj (Option.some.inj hf)
              exact G_iret X hR rfl (nar_b2i false) dL_isSound_301
            · have hf := (if_pos hc41).symm.trans hf
              refine G_iconst (v := 1) X dL_isSound_296 rfl ?_
              refine G_goto (tgt := 301) X dL_isSound_297 (by decide) ?_
              obtain ⟨rfl, rfl⟩ := Prod.mk.inj (Option.some.inj hf)
              exact G_iret X hR rfl (nar_b2i true) dL_isSound_301
    · have hf := (if_neg hc31).symm.trans hf
      refine G_iconst (v := 0) X dL_isSound_244 rfl ?_
      obtain ⟨rfl, rfl⟩ := Prod.mk.inj (Option.some.inj hf)
      exact G_iret X hR rfl (nar_b2i false) dL_isSound_245
  · have hf := (if_neg hc30).symm.trans hf
    refine G_bipush (v := 40) X dL_isSound_235 rfl ?_
    refine G_goto (tgt := 241) X dL_isSound_237 (by decide) ?_
    refine G_icmp_le (tgt := 246) X dL_isSound_241 (by decide) (fun hc42 => ?_) (fun hc42 => ?_)
    · have hf := (if_pos hc42).symm.trans hf
      refine G_aload_n (x := some (0)) X dL_isSound_246 rfl rfl ?_
      refine G_iconst (v := 0) X dL_isSound_247 rfl ?_
      refine G_iload_n (x := x1) X dL_isSound_248 rfl rfl ?_
      refine G_iload_n (x := x1) X dL_isSound_249 rfl rfl ?_
      refine G_iconst (v := 2) X dL_isSound_250 rfl ?_
      obtain ⟨⟨v43, I43⟩, hk43, hf⟩ := obd hf
      try dsimp only at hf
      refine G_callV (As := [vi 0, vi x1, vi x1, vi 2]) X (f5_would_ok E I29 0 x1 x1 2 v43 I43 hk43) cb_L_38 vi_X5_would (ci := 4) rfl rfl (show SH[0]? = some (_, 0) from rfl) rfl rfl (Nat.le_of_ble_eq_true rfl) (by decide) (by decide) rfl (Nat.le_refl _) (Nat.le_refl _) dL_isSound_251 ?_
      show G E κ _ _ _ [some (vr 0), some (vi x1), some (vi x2), none, none, some (vi x5), none, some (vi x7), none] [vi v43] (mm I43)
      refine G_iload (x := x5) X dL_isSound_254 rfl ?_
      refine G_icmp_ne (tgt := 300) X dL_isSound_256 (by decide) (fun hc44 => ?_) (fun hc44 => ?_)
      · have hf := (if_neg hc44).symm.trans hf
        refine G_iconst (v := 0) X dL_isSound_300 rfl ?_
        obtain ⟨rfl, rfl⟩ := Prod.mk.inj (Option.some.inj hf)
        exact G_iret X hR rfl (nar_b2i false) dL_isSound_301
      · have hf := (if_pos hc44).symm.trans hf
        refine G_aload_n (x := some (0)) X dL_isSound_259 rfl rfl ?_
        refine G_iconst (v := 3) X dL_isSound_260 rfl ?_
        refine G_iload_n (x := x1) X dL_isSound_261 rfl rfl ?_
        refine G_iload_n (x := x1) X dL_isSound_262 rfl rfl ?_
        refine G_iconst (v := 2) X dL_isSound_263 rfl ?_
        obtain ⟨⟨v45, I45⟩, hk45, hf⟩ := obd hf
        try dsimp only at hf
        refine G_callV (As := [vi 3, vi x1, vi x1, vi 2]) X (f5_would_ok E I43 3 x1 x1 2 v45 I45 hk45) cb_L_38 vi_X5_would (ci := 4) rfl rfl (show SH[0]? = some (_, 0) from rfl) rfl rfl (Nat.le_of_ble_eq_true rfl) (by decide) (by decide) rfl (Nat.le_refl _) (Nat.le_refl _) dL_isSound_264 ?_
        show G E κ _ _ _ [some (vr 0), some (vi x1), some (vi x2), none, none, some (vi x5), none, some (vi x7), none] [vi v45] (mm I45)
        refine G_if_ne (tgt := 300) X dL_isSound_267 (by decide) (fun hc46 => ?_) (fun hc46 => ?_)
        · have hf := (if_neg hc46).symm.trans hf
          refine G_iconst (v := 0) X dL_isSound_300 rfl ?_
          obtain ⟨rfl, rfl⟩ := Prod.mk.inj (Option.some.inj hf)
          exact G_iret X hR rfl (nar_b2i false) dL_isSound_301
        · have hf := (if_pos hc46).symm.trans hf
          refine G_aload_n (x := some (0)) X dL_isSound_270 rfl rfl ?_
          refine G_iload_n (x := x1) X dL_isSound_271 rfl rfl ?_
          obtain ⟨v47, hk47, hf⟩ := obd hf
          refine G_callV (As := [vi x1]) X (f5_same_ok E I45 x1 v47 hk47) cb_L_42 vi_X5_same (ci := 4) rfl rfl (show SH[0]? = some (_, 0) from rfl) rfl rfl (Nat.le_of_ble_eq_true rfl) (by decide) (by decide) rfl (Nat.le_refl _) (Nat.le_refl _) dL_isSound_272 ?_
          show G E κ _ _ _ [some (vr 0), some (vi x1), some (vi x2), none, none, some (vi x5), none, some (vi x7), none] [vi v47] (mm I45)
          refine G_iload_n (x := x1) X dL_isSound_275 rfl rfl ?_
          refine G_icmp_gt (tgt := 300) X dL_isSound_276 (by decide) (fun hc48 => ?_) (fun hc48 => ?_)
          · have hf := (if_pos hc48).symm.trans hf
            refine G_iconst (v := 0) X dL_isSound_300 rfl ?_
            obtain ⟨rfl, rfl⟩ := Prod.mk.inj (Option.some.inj hf)
            exact G_iret X hR rfl (nar_b2i false) dL_isSound_301
          · have hf := (if_neg hc48).symm.trans hf
            refine G_aload_n (x := some (0)) X dL_isSound_279 rfl rfl ?_
            refine G_aload_n (x := some (0)) X dL_isSound_280 rfl rfl ?_
            refine G_iload_n (x := x1) X dL_isSound_281 rfl rfl ?_
            obtain ⟨v49, hk49, hf⟩ := obd hf
            refine G_callV (As := [vi x1]) X (f5_same_ok E I45 x1 v49 hk49) cb_L_42 vi_X5_same (ci := 4) rfl rfl (show SH[0]? = some (_, 0) from rfl) rfl rfl (Nat.le_of_ble_eq_true rfl) (by decide) (by decide) rfl (Nat.le_refl _) (Nat.le_refl _) dL_isSound_282 ?_
            show G E κ _ _ _ [some (vr 0), some (vi x1), some (vi x2), none, none, some (vi x5), none, some (vi x7), none] [vi v49, vr 0] (mm I45)
            obtain ⟨v50, hk50, hf⟩ := obd hf
            refine G_callV (As := [vi v49]) X (f5_same_ok E I45 v49 v50 hk50) cb_L_42 vi_X5_same (ci := 4) rfl rfl (show SH[0]? = some (_, 0) from rfl) rfl rfl (Nat.le_of_ble_eq_true rfl) (by decide) (by decide) rfl (Nat.le_refl _) (Nat.le_refl _) dL_isSound_285 ?_
            show G E κ _ _ _ [some (vr 0), some (vi x1), some (vi x2), none, none, some (vi x5), none, some (vi x7), none] [vi v50] (mm I45)
            refine G_aload_n (x := some (0)) X dL_isSound_288 rfl rfl ?_
            refine G_iload_n (x := x1) X dL_isSound_289 rfl rfl ?_
            obtain ⟨v51, hk51, hf⟩ := obd hf
            refine G_callV (As := [vi x1]) X (f5_same_ok E I45 x1 v51 hk51) cb_L_42 vi_X5_same (ci := 4) rfl rfl (show SH[0]? = some (_, 0) from rfl) rfl rfl (Nat.le_of_ble_eq_true rfl) (by decide) (by decide) rfl (Nat.le_refl _) (Nat.le_refl _) dL_isSound_290 ?_
            show G E κ _ _ _ [some (vr 0), some (vi x1), some (vi x2), none, none, some (vi x5), none, some (vi x7), none] [vi v51, vi v50] (mm I45)
            refine G_icmp_ne (tgt := 300) X dL_isSound_293 (by decide) (fun hc52 => ?_) (fun hc52 => ?_)
            · have hf := (if_neg hc52).symm.trans hf
              refine G_iconst (v := 0) X dL_isSound_300 rfl ?_
              obtain ⟨rfl, rfl⟩ := Prod.mk.inj (Option.some.inj hf)
              exact G_iret X hR rfl (nar_b2i false) dL_isSound_301
            · have hf := (if_pos hc52).symm.trans hf
              refine G_iconst (v := 1) X dL_isSound_296 rfl ?_
              refine G_goto (tgt := 301) X dL_isSound_297 (by decide) ?_
              obtain ⟨rfl, rfl⟩ := Prod.mk.inj (Option.some.inj hf)
              exact G_iret X hR rfl (nar_b2i true) dL_isSound_301
    · have hf := (if_neg hc42).symm.trans hf
      refine G_iconst (v := 0) X dL_isSound_244 rfl ?_
      obtain ⟨rfl, rfl⟩ := Prod.mk.inj (Option.some.inj hf)
      exact G_iret X hR rfl (nar_b2i false) dL_isSound_245

def fL_isSound_J77 (I : gI) (x1 : Int32) (x2 : Int32) (x3 : Int32) (x4 : Int32) (x5 : Int32) (x6 : Int32) (x7 : Int32) (x8 : Int32) : Option (Bool × gI) := (if (x3 + x4) = (x5 + x6) then (f5_would I 2 x1 x2 2).bind fun q11 => (if q11.1 = (x5 - x3) then (f5_would q11.2 3 x1 x2 2).bind fun q13 => (if q13.1 = (x4 - x3) then (f5_would q13.2 3 x2 x1 2).bind fun q15 => (if q15.1 = (x4 - x3) then (f5_would q15.2 1 x2 x1 1).bind fun q17 => (f5_would q17.2 1 x1 x2 1).bind fun q18 => (if q17.1 = q18.1 then (f5_would q18.2 3 x1 x2 0).bind fun q20 => (if q20.1 = x7 then (f5_would q20.2 2 x2 x1 0).bind fun q22 => (if q22.1 = x7 then (if x7 < x8 then some (false, q22.2) else (f5_row q22.2 x1 1).bind fun v25 => (f5_row q22.2 x2 1).bind fun v26 => (if (v25 + v26) < x7 then some (false, q22.2) else (if x1 = x2 then (f5_row q22.2 x1 1).bind fun v53 => (if x7 = v53 then fL_isSound_J222 q22.2 x1 x2 x5 x7 else some (false, q22.2)) else fL_isSound_J222 q22.2 x1 x2 x5 x7))) else some (false, q22.2)) else some (false, q20.2)) else some (false, q18.2)) else some (false, q15.2)) else some (false, q13.2)) else some (false, q11.2)) else some (false, I))
set_option maxRecDepth 100000 in
set_option maxHeartbeats 4000000 in
theorem fL_isSound_J77_ok {E : gEnv} {κ : gCtx} (X : Cx E κ cL_isSound 9 RL (some .boolean) 6 0 0) : ∀ (I : gI) (x1 : Int32) (x2 : Int32) (x3 : Int32) (x4 : Int32) (x5 : Int32) (x6 : Int32) (x7 : Int32) (x8 : Int32) (r : Bool) (I' : gI) (hR : gRt E κ 0 0 (some (vi (b2i r))) (mm I')) (hf : fL_isSound_J77 I x1 x2 x3 x4 x5 x6 x7 x8 = some (r, I')), G E κ 0 0 77 [some (vr 0), some (vi x1), some (vi x2), some (vi x3), some (vi x4), some (vi x5), some (vi x6), some (vi x7), some (vi x8)] [] (mm I) := by
  intro I x1 x2 x3 x4 x5 x6 x7 x8 r I' hR hf
  unfold fL_isSound_J77 at hf
  refine G_iload_n (x := x3) X dL_isSound_77 rfl rfl ?_
  refine G_iload (x := x4) X dL_isSound_78 rfl ?_
  refine G_iadd X dL_isSound_80 ?_
  refine G_iload (x := x5) X dL_isSound_81 rfl ?_
  refine G_iload (x := x6) X dL_isSound_83 rfl ?_
  refine G_iadd X dL_isSound_85 ?_
  refine G_icmp_ne (tgt := 153) X dL_isSound_86 (by decide) (fun hc10 => ?_) (fun hc10 => ?_)
  · have hf := (if_neg hc10).symm.trans hf
    refine G_iconst (v := 0) X dL_isSound_153 rfl ?_
    obtain ⟨rfl, rfl⟩ := Prod.mk.inj (Option.some.inj hf)
    exact G_iret X hR rfl (nar_b2i false) dL_isSound_154
  · have hf := (if_pos hc10).symm.trans hf
    refine G_aload_n (x := some (0)) X dL_isSound_89 rfl rfl ?_
    refine G_iconst (v := 2) X dL_isSound_90 rfl ?_
    refine G_iload_n (x := x1) X dL_isSound_91 rfl rfl ?_
    refine G_iload_n (x := x2) X dL_isSound_92 rfl rfl ?_
    refine G_iconst (v := 2) X dL_isSound_93 rfl ?_
    obtain ⟨⟨v11, I11⟩, hk11, hf⟩ := obd hf
    try dsimp only at hf
    refine G_callV (As := [vi 2, vi x1, vi x2, vi 2]) X (f5_would_ok E I 2 x1 x2 2 v11 I11 hk11) cb_L_38 vi_X5_would (ci := 4) rfl rfl (show SH[0]? = some (_, 0) from rfl) rfl rfl (Nat.le_of_ble_eq_true rfl) (by decide) (by decide) rfl (Nat.le_refl _) (Nat.le_refl _) dL_isSound_94 ?_
    show G E κ _ _ _ [some (vr 0), some (vi x1), some (vi x2), some (vi x3), some (vi x4), some (vi x5), some (vi x6), some (vi x7), some (vi x8)] [vi v11] (mm I11)
    refine G_iload (x := x5) X dL_isSound_97 rfl ?_
    refine G_iload_n (x := x3) X dL_isSound_99 rfl rfl ?_
    refine G_isub X dL_isSound_100 ?_
    refine G_icmp_ne (tgt := 153) X dL_isSound_101 (by decide) (fun hc12 => ?_) (fun hc12 => ?_)
    · have hf := (if_neg hc12).symm.trans hf
      refine G_iconst (v := 0) X dL_isSound_153 rfl ?_
      obtain ⟨rfl, rfl⟩ := Prod.mk.inj (Option.some.inj hf)
      exact G_iret X hR rfl (nar_b2i false) dL_isSound_154
    · have hf := (if_pos hc12).symm.trans hf
      refine G_aload_n (x := some (0)) X dL_isSound_104 rfl rfl ?_
      refine G_iconst (v := 3) X dL_isSound_105 rfl ?_
      refine G_iload_n (x := x1) X dL_isSound_106 rfl rfl ?_
      refine G_iload_n (x := x2) X dL_isSound_107 rfl rfl ?_
      refine G_iconst (v := 2) X dL_isSound_108 rfl ?_
      obtain ⟨⟨v13, I13⟩, hk13, hf⟩ := obd hf
      try dsimp only at hf
      refine G_callV (As := [vi 3, vi x1, vi x2, vi 2]) X (f5_would_ok E I11 3 x1 x2 2 v13 I13 hk13) cb_L_38 vi_X5_would (ci := 4) rfl rfl (show SH[0]? = some (_, 0) from rfl) rfl rfl (Nat.le_of_ble_eq_true rfl) (by decide) (by decide) rfl (Nat.le_refl _) (Nat.le_refl _) dL_isSound_109 ?_
      show G E κ _ _ _ [some (vr 0), some (vi x1), some (vi x2), some (vi x3), some (vi x4), some (vi x5), some (vi x6), some (vi x7), some (vi x8)] [vi v13] (mm I13)
      refine G_iload (x := x4) X dL_isSound_112 rfl ?_
      refine G_iload_n (x := x3) X dL_isSound_114 rfl rfl ?_
      refine G_isub X dL_isSound_115 ?_
      refine G_icmp_ne (tgt := 153) X dL_isSound_116 (by decide) (fun hc14 => ?_) (fun hc14 => ?_)
      · have hf := (if_neg hc14).symm.trans hf
        refine G_iconst (v := 0) X dL_isSound_153 rfl ?_
        obtain ⟨rfl, rfl⟩ := Prod.mk.inj (Option.some.inj hf)
        exact G_iret X hR rfl (nar_b2i false) dL_isSound_154
      · have hf := (if_pos hc14).symm.trans hf
        refine G_aload_n (x := some (0)) X dL_isSound_119 rfl rfl ?_
        refine G_iconst (v := 3) X dL_isSound_120 rfl ?_
        refine G_iload_n (x := x2) X dL_isSound_121 rfl rfl ?_
        refine G_iload_n (x := x1) X dL_isSound_122 rfl rfl ?_
        refine G_iconst (v := 2) X dL_isSound_123 rfl ?_
        obtain ⟨⟨v15, I15⟩, hk15, hf⟩ := obd hf
        try dsimp only at hf
        refine G_callV (As := [vi 3, vi x2, vi x1, vi 2]) X (f5_would_ok E I13 3 x2 x1 2 v15 I15 hk15) cb_L_38 vi_X5_would (ci := 4) rfl rfl (show SH[0]? = some (_, 0) from rfl) rfl rfl (Nat.le_of_ble_eq_true rfl) (by decide) (by decide) rfl (Nat.le_refl _) (Nat.le_refl _) dL_isSound_124 ?_
        show G E κ _ _ _ [some (vr 0), some (vi x1), some (vi x2), some (vi x3), some (vi x4), some (vi x5), some (vi x6), some (vi x7), some (vi x8)] [vi v15] (mm I15)
        refine G_iload (x := x4) X dL_isSound_127 rfl ?_
        refine G_iload_n (x := x3) X dL_isSound_129 rfl rfl ?_
        refine G_isub X dL_isSound_130 ?_
        refine G_icmp_ne (tgt := 153) X dL_isSound_131 (by decide) (fun hc16 => ?_) (fun hc16 => ?_)
        · have hf := (if_neg hc16).symm.trans hf
          refine G_iconst (v := 0) X dL_isSound_153 rfl ?_
          obtain ⟨rfl, rfl⟩ := Prod.mk.inj (Option.some.inj hf)
          exact G_iret X hR rfl (nar_b2i false) dL_isSound_154
        · have hf := (if_pos hc16).symm.trans hf
          refine G_aload_n (x := some (0)) X dL_isSound_134 rfl rfl ?_
          refine G_iconst (v := 1) X dL_isSound_135 rfl ?_
          refine G_iload_n (x := x2) X dL_isSound_136 rfl rfl ?_
          refine G_iload_n (x := x1) X dL_isSound_137 rfl rfl ?_
          refine G_iconst (v := 1) X dL_isSound_138 rfl ?_
          obtain ⟨⟨v17, I17⟩, hk17, hf⟩ := obd hf
          try dsimp only at hf
          refine G_callV (As := [vi 1, vi x2, vi x1, vi 1]) X (f5_would_ok E I15 1 x2 x1 1 v17 I17 hk17) cb_L_38 vi_X5_would (ci := 4) rfl rfl (show SH[0]? = some (_, 0) from rfl) rfl rfl (Nat.le_of_ble_eq_true rfl) (by decide) (by decide) rfl (Nat.le_refl _) (Nat.le_refl _) dL_isSound_139 ?_
          show G E κ _ _ _ [some (vr 0), some (vi x1), some (vi x2), some (vi x3), some (vi x4), some (vi x5), some (vi x6), some (vi x7), some (vi x8)] [vi v17] (mm I17)
          refine G_aload_n (x := some (0)) X dL_isSound_142 rfl rfl ?_
          refine G_iconst (v := 1) X dL_isSound_143 rfl ?_
          refine G_iload_n (x := x1) X dL_isSound_144 rfl rfl ?_
          refine G_iload_n (x := x2) X dL_isSound_145 rfl rfl ?_
          refine G_iconst (v := 1) X dL_isSound_146 rfl ?_
          obtain ⟨⟨v18, I18⟩, hk18, hf⟩ := obd hf
          try dsimp only at hf
          refine G_callV (As := [vi 1, vi x1, vi x2, vi 1]) X (f5_would_ok E I17 1 x1 x2 1 v18 I18 hk18) cb_L_38 vi_X5_would (ci := 4) rfl rfl (show SH[0]? = some (_, 0) from rfl) rfl rfl (Nat.le_of_ble_eq_true rfl) (by decide) (by decide) rfl (Nat.le_refl _) (Nat.le_refl _) dL_isSound_147 ?_
          show G E κ _ _ _ [some (vr 0), some (vi x1), some (vi x2), some (vi x3), some (vi x4), some (vi x5), some (vi x6), some (vi x7), some (vi x8)] [vi v18, vi v17] (mm I18)
          refine G_icmp_eq (tgt := 155) X dL_isSound_150 (by decide) (fun hc19 => ?_) (fun hc19 => ?_)
          · have hf := (if_pos hc19).symm.trans hf
            refine G_aload_n (x := some (0)) X dL_isSound_155 rfl rfl ?_
            refine G_iconst (v := 3) X dL_isSound_156 rfl ?_
            refine G_iload_n (x := x1) X dL_isSound_157 rfl rfl ?_
            refine G_iload_n (x := x2) X dL_isSound_158 rfl rfl ?_
            refine G_iconst (v := 0) X dL_isSound_159 rfl ?_
            obtain ⟨⟨v20, I20⟩, hk20, hf⟩ := obd hf
            try dsimp only at hf
            refine G_callV (As := [vi 3, vi x1, vi x2, vi 0]) X (f5_would_ok E I18 3 x1 x2 0 v20 I20 hk20) cb_L_38 vi_X5_would (ci := 4) rfl rfl (show SH[0]? = some (_, 0) from rfl) rfl rfl (Nat.le_of_ble_eq_true rfl) (by decide) (by decide) rfl (Nat.le_refl _) (Nat.le_refl _) dL_isSound_160 ?_
            show G E κ _ _ _ [some (vr 0), some (vi x1), some (vi x2), some (vi x3), some (vi x4), some (vi x5), some (vi x6), some (vi x7), some (vi x8)] [vi v20] (mm I20)
            refine G_iload (x := x7) X dL_isSound_163 rfl ?_
            refine G_icmp_ne (tgt := 244) X dL_isSound_165 (by decide) (fun hc21 => ?_) (fun hc21 => ?_)
            · have hf := (if_neg hc21).symm.trans hf
              refine G_iconst (v := 0) X dL_isSound_244 rfl ?_
              obtain ⟨rfl, rfl⟩ := Prod.mk.inj (Option.some.inj hf)
              exact G_iret X hR rfl (nar_b2i false) dL_isSound_245
            · have hf := (if_pos hc21).symm.trans hf
              refine G_aload_n (x := some (0)) X dL_isSound_168 rfl rfl ?_
              refine G_iconst (v := 2) X dL_isSound_169 rfl ?_
              refine G_iload_n (x := x2) X dL_isSound_170 rfl rfl ?_
              refine G_iload_n (x := x1) X dL_isSound_171 rfl rfl ?_
              refine G_iconst (v := 0) X dL_isSound_172 rfl ?_
              obtain ⟨⟨v22, I22⟩, hk22, hf⟩ := obd hf
              try dsimp only at hf
              refine G_callV (As := [vi 2, vi x2, vi x1, vi 0]) X (f5_would_ok E I20 2 x2 x1 0 v22 I22 hk22) cb_L_38 vi_X5_would (ci := 4) rfl rfl (show SH[0]? = some (_, 0) from rfl) rfl rfl (Nat.le_of_ble_eq_true rfl) (by decide) (by decide) rfl (Nat.le_refl _) (Nat.le_refl _) dL_isSound_173 ?_
              show G E κ _ _ _ [some (vr 0), some (vi x1), some (vi x2), some (vi x3), some (vi x4), some (vi x5), some (vi x6), some (vi x7), some (vi x8)] [vi v22] (mm I22)
              refine G_iload (x := x7) X dL_isSound_176 rfl ?_
              refine G_icmp_ne (tgt := 244) X dL_isSound_178 (by decide) (fun hc23 => ?_) (fun hc23 => ?_)
              · have hf := (if_neg hc23).symm.trans hf
                refine G_iconst (v := 0) X dL_isSound_244 rfl ?_
                obtain ⟨rfl, rfl⟩ := Prod.mk.inj (Option.some.inj hf)
                exact G_iret X hR rfl (nar_b2i false) dL_isSound_245
              · have hf := (if_pos hc23).symm.trans hf
                refine G_iload (x := x7) X dL_isSound_181 rfl ?_
                refine G_iload (x := x8) X dL_isSound_183 rfl ?_
                refine G_icmp_lt (tgt := 244) X dL_isSound_185 (by decide) (fun hc24 => ?_) (fun hc24 => ?_)
                · have hf := (if_pos hc24).symm.trans hf
                  refine G_iconst (v := 0) X dL_isSound_244 rfl ?_
                  obtain ⟨rfl, rfl⟩ := Prod.mk.inj (Option.some.inj hf)
                  exact G_iret X hR rfl (nar_b2i false) dL_isSound_245
                · have hf := (if_neg hc24).symm.trans hf
                  refine G_iload (x := x7) X dL_isSound_188 rfl ?_
                  refine G_aload_n (x := some (0)) X dL_isSound_190 rfl rfl ?_
                  refine G_iload_n (x := x1) X dL_isSound_191 rfl rfl ?_
                  refine G_iconst (v := 1) X dL_isSound_192 rfl ?_
                  obtain ⟨v25, hk25, hf⟩ := obd hf
                  refine G_callV (As := [vi x1, vi 1]) X (f5_row_ok E I22 x1 1 v25 hk25) cb_L_18 vi_X5_row (ci := 4) rfl rfl (show SH[0]? = some (_, 0) from rfl) rfl rfl (Nat.le_of_ble_eq_true rfl) (by decide) (by decide) rfl (Nat.le_refl _) (Nat.le_refl _) dL_isSound_193 ?_
                  show G E κ _ _ _ [some (vr 0), some (vi x1), some (vi x2), some (vi x3), some (vi x4), some (vi x5), some (vi x6), some (vi x7), some (vi x8)] [vi v25, vi x7] (mm I22)
                  refine G_aload_n (x := some (0)) X dL_isSound_196 rfl rfl ?_
                  refine G_iload_n (x := x2) X dL_isSound_197 rfl rfl ?_
                  refine G_iconst (v := 1) X dL_isSound_198 rfl ?_
                  obtain ⟨v26, hk26, hf⟩ := obd hf
                  refine G_callV (As := [vi x2, vi 1]) X (f5_row_ok E I22 x2 1 v26 hk26) cb_L_18 vi_X5_row (ci := 4) rfl rfl (show SH[0]? = some (_, 0) from rfl) rfl rfl (Nat.le_of_ble_eq_true rfl) (by decide) (by decide) rfl (Nat.le_refl _) (Nat.le_refl _) dL_isSound_199 ?_
                  show G E κ _ _ _ [some (vr 0), some (vi x1), some (vi x2), some (vi x3), some (vi x4), some (vi x5), some (vi x6), some (vi x7), some (vi x8)] [vi v26, vi v25, vi x7] (mm I22)
                  refine G_iadd X dL_isSound_202 ?_
                  refine G_icmp_gt (tgt := 244) X dL_isSound_203 (by decide) (fun hc27 => ?_) (fun hc27 => ?_)
                  · have hf := (if_pos hc27).symm.trans hf
                    refine G_iconst (v := 0) X dL_isSound_244 rfl ?_
                    obtain ⟨rfl, rfl⟩ := Prod.mk.inj (Option.some.inj hf)
                    exact G_iret X hR rfl (nar_b2i false) dL_isSound_245
                  · have hf := (if_neg hc27).symm.trans hf
                    refine G_iload_n (x := x1) X dL_isSound_206 rfl rfl ?_
                    refine G_iload_n (x := x2) X dL_isSound_207 rfl rfl ?_
                    refine G_icmp_ne (tgt := 222) X dL_isSound_208 (by decide) (fun hc28 => ?_) (fun hc28 => ?_)
                    · have hf := (if_neg hc28).symm.trans hf
                      refine G_weakL (ls' := [some (vr 0), some (vi x1), some (vi x2), none, none, some (vi x5), none, some (vi x7), none]) ⟨Or.inr rfl, ⟨Or.inr rfl, ⟨Or.inr rfl, ⟨Or.inl rfl, ⟨Or.inl rfl, ⟨Or.inr rfl, ⟨Or.inl rfl, ⟨Or.inr rfl, ⟨Or.inl rfl, trivial⟩⟩⟩⟩⟩⟩⟩⟩⟩ ?_
                      exact fL_isSound_J222_ok X I22 x1 x2 x5 x7 _ _ hR hf
                    · have hf := (if_pos hc28).symm.trans hf
                      refine G_iload (x := x7) X dL_isSound_211 rfl ?_
                      refine G_aload_n (x := some (0)) X dL_isSound_213 rfl rfl ?_
                      refine G_iload_n (x := x1) X dL_isSound_214 rfl rfl ?_
                      refine G_iconst (v := 1) X dL_isSound_215 rfl ?_
                      obtain ⟨v53, hk53, hf⟩ := obd hf
                      refine G_callV (As := [vi x1, vi 1]) X (f5_row_ok E I22 x1 1 v53 hk53) cb_L_18 vi_X5_row (ci := 4) rfl rfl (show SH[0]? = some (_, 0) from rfl) rfl rfl (Nat.le_of_ble_eq_true rfl) (by decide) (by decide) rfl (Nat.le_refl _) (Nat.le_refl _) dL_isSound_216 ?_
                      show G E κ _ _ _ [some (vr 0), some (vi x1), some (vi x2), some (vi x3), some (vi x4), some (vi x5), some (vi x6), some (vi x7), some (vi x8)] [vi v53, vi x7] (mm I22)
                      refine G_icmp_ne (tgt := 244) X dL_isSound_219 (by decide) (fun hc54 => ?_) (fun hc54 => ?_)
                      · have hf := (if_neg hc54).symm.trans hf
                        refine G_iconst (v := 0) X dL_isSound_244 rfl ?_
                        obtain ⟨rfl, rfl⟩ := Prod.mk.inj (Option.some.inj hf)
                        exact G_iret X hR rfl (nar_b2i false) dL_isSound_245
                      · have hf := (if_pos hc54).symm.trans hf
                        refine G_weakL (ls' := [some (vr 0), some (vi x1), some (vi x2), none, none, some (vi x5), none, some (vi x7), none]) ⟨Or.inr rfl, ⟨Or.inr rfl, ⟨Or.inr rfl, ⟨Or.inl rfl, ⟨Or.inl rfl, ⟨Or.inr rfl, ⟨Or.inl rfl, ⟨Or.inr rfl, ⟨Or.inl rfl, trivial⟩⟩⟩⟩⟩⟩⟩⟩⟩ ?_
                        exact fL_isSound_J222_ok X I22 x1 x2 x5 x7 _ _ hR hf
          · have hf := (if_neg hc19).symm.trans hf
            refine G_iconst (v := 0) X dL_isSound_153 rfl ?_
            obtain ⟨rfl, rfl⟩ := Prod.mk.inj (Option.some.inj hf)
            exact G_iret X hR rfl (nar_b2i false) dL_isSound_154

def fL_isSound (I : gI) (a1 : Int32) (a2 : Int32) : Option (Bool × gI) := (f5_would I 0 a1 a2 2).bind fun q1 => (f5_would q1.2 1 a1 a2 2).bind fun q2 => (f5_row q2.2 a1 5).bind fun v3 => (f5_row q2.2 a2 5).bind fun v4 => (f5_would q2.2 0 a1 a2 0).bind fun q5 => (f5_row q5.2 a1 1).bind fun v6 => (f5_row q5.2 a2 1).bind fun v7 => (if v6 ≤ v7 then (f5_row q5.2 a2 1).bind fun v9 => fL_isSound_J77 q5.2 a1 a2 q1.1 q2.1 v3 v4 q5.1 v9 else (f5_row q5.2 a1 1).bind fun v55 => fL_isSound_J77 q5.2 a1 a2 q1.1 q2.1 v3 v4 q5.1 v55)
set_option maxRecDepth 100000 in
set_option maxHeartbeats 4000000 in
theorem fL_isSound_ok (E : gEnv) (I : gI) (a1 : Int32) (a2 : Int32) (r : Bool) (I' : gI) (hf : fL_isSound I a1 a2 = some (r, I')) : Ctr E yL_isSound cL_isSound 9 (some .boolean) 6 0 0 [vr 0, vi a1, vi a2] (mm I) (some (vi (b2i r))) (mm I') := by
  refine Ctr.mk (by decide +kernel) rfl (Nat.le_of_ble_eq_true rfl) fun κ X hR _ => ?_
  have X : Cx E κ cL_isSound 9 RL (some .boolean) 6 0 0 := X
  show G E κ 0 0 0 [some (vr 0), some (vi a1), some (vi a2), none, none, none, none, none, none] [] (mm I)
  unfold fL_isSound at hf
  refine G_aload_n (x := some (0)) X dL_isSound_0 rfl rfl ?_
  refine G_iconst (v := 0) X dL_isSound_1 rfl ?_
  refine G_iload_n (x := a1) X dL_isSound_2 rfl rfl ?_
  refine G_iload_n (x := a2) X dL_isSound_3 rfl rfl ?_
  refine G_iconst (v := 2) X dL_isSound_4 rfl ?_
  obtain ⟨⟨v1, I1⟩, hk1, hf⟩ := obd hf
  try dsimp only at hf
  refine G_callV (As := [vi 0, vi a1, vi a2, vi 2]) X (f5_would_ok E I 0 a1 a2 2 v1 I1 hk1) cb_L_38 vi_X5_would (ci := 4) rfl rfl (show SH[0]? = some (_, 0) from rfl) rfl rfl (Nat.le_of_ble_eq_true rfl) (by decide) (by decide) rfl (Nat.le_refl _) (Nat.le_refl _) dL_isSound_5 ?_
  show G E κ _ _ _ [some (vr 0), some (vi a1), some (vi a2), none, none, none, none, none, none] [vi v1] (mm I1)
  refine G_istore_n X dL_isSound_8 rfl rfl (ls' := [some (vr 0), some (vi a1), some (vi a2), some (vi v1), none, none, none, none, none]) rfl ?_
  refine G_aload_n (x := some (0)) X dL_isSound_9 rfl rfl ?_
  refine G_iconst (v := 1) X dL_isSound_10 rfl ?_
  refine G_iload_n (x := a1) X dL_isSound_11 rfl rfl ?_
  refine G_iload_n (x := a2) X dL_isSound_12 rfl rfl ?_
  refine G_iconst (v := 2) X dL_isSound_13 rfl ?_
  obtain ⟨⟨v2, I2⟩, hk2, hf⟩ := obd hf
  try dsimp only at hf
  refine G_callV (As := [vi 1, vi a1, vi a2, vi 2]) X (f5_would_ok E I1 1 a1 a2 2 v2 I2 hk2) cb_L_38 vi_X5_would (ci := 4) rfl rfl (show SH[0]? = some (_, 0) from rfl) rfl rfl (Nat.le_of_ble_eq_true rfl) (by decide) (by decide) rfl (Nat.le_refl _) (Nat.le_refl _) dL_isSound_14 ?_
  show G E κ _ _ _ [some (vr 0), some (vi a1), some (vi a2), some (vi v1), none, none, none, none, none] [vi v2] (mm I2)
  refine G_istore X dL_isSound_17 rfl (ls' := [some (vr 0), some (vi a1), some (vi a2), some (vi v1), some (vi v2), none, none, none, none]) rfl ?_
  refine G_aload_n (x := some (0)) X dL_isSound_19 rfl rfl ?_
  refine G_iload_n (x := a1) X dL_isSound_20 rfl rfl ?_
  refine G_iconst (v := 5) X dL_isSound_21 rfl ?_
  obtain ⟨v3, hk3, hf⟩ := obd hf
  refine G_callV (As := [vi a1, vi 5]) X (f5_row_ok E I2 a1 5 v3 hk3) cb_L_18 vi_X5_row (ci := 4) rfl rfl (show SH[0]? = some (_, 0) from rfl) rfl rfl (Nat.le_of_ble_eq_true rfl) (by decide) (by decide) rfl (Nat.le_refl _) (Nat.le_refl _) dL_isSound_22 ?_
  show G E κ _ _ _ [some (vr 0), some (vi a1), some (vi a2), some (vi v1), some (vi v2), none, none, none, none] [vi v3] (mm I2)
  refine G_istore X dL_isSound_25 rfl (ls' := [some (vr 0), some (vi a1), some (vi a2), some (vi v1), some (vi v2), some (vi v3), none, none, none]) rfl ?_
  refine G_aload_n (x := some (0)) X dL_isSound_27 rfl rfl ?_
  refine G_iload_n (x := a2) X dL_isSound_28 rfl rfl ?_
  refine G_iconst (v := 5) X dL_isSound_29 rfl ?_
  obtain ⟨v4, hk4, hf⟩ := obd hf
  refine G_callV (As := [vi a2, vi 5]) X (f5_row_ok E I2 a2 5 v4 hk4) cb_L_18 vi_X5_row (ci := 4) rfl rfl (show SH[0]? = some (_, 0) from rfl) rfl rfl (Nat.le_of_ble_eq_true rfl) (by decide) (by decide) rfl (Nat.le_refl _) (Nat.le_refl _) dL_isSound_30 ?_
  show G E κ _ _ _ [some (vr 0), some (vi a1), some (vi a2), some (vi v1), some (vi v2), some (vi v3), none, none, none] [vi v4] (mm I2)
  refine G_istore X dL_isSound_33 rfl (ls' := [some (vr 0), some (vi a1), some (vi a2), some (vi v1), some (vi v2), some (vi v3), some (vi v4), none, none]) rfl ?_
  refine G_aload_n (x := some (0)) X dL_isSound_35 rfl rfl ?_
  refine G_iconst (v := 0) X dL_isSound_36 rfl ?_
  refine G_iload_n (x := a1) X dL_isSound_37 rfl rfl ?_
  refine G_iload_n (x := a2) X dL_isSound_38 rfl rfl ?_
  refine G_iconst (v := 0) X dL_isSound_39 rfl ?_
  obtain ⟨⟨v5, I5⟩, hk5, hf⟩ := obd hf
  try dsimp only at hf
  refine G_callV (As := [vi 0, vi a1, vi a2, vi 0]) X (f5_would_ok E I2 0 a1 a2 0 v5 I5 hk5) cb_L_38 vi_X5_would (ci := 4) rfl rfl (show SH[0]? = some (_, 0) from rfl) rfl rfl (Nat.le_of_ble_eq_true rfl) (by decide) (by decide) rfl (Nat.le_refl _) (Nat.le_refl _) dL_isSound_40 ?_
  show G E κ _ _ _ [some (vr 0), some (vi a1), some (vi a2), some (vi v1), some (vi v2), some (vi v3), some (vi v4), none, none] [vi v5] (mm I5)
  refine G_istore X dL_isSound_43 rfl (ls' := [some (vr 0), some (vi a1), some (vi a2), some (vi v1), some (vi v2), some (vi v3), some (vi v4), some (vi v5), none]) rfl ?_
  refine G_aload_n (x := some (0)) X dL_isSound_45 rfl rfl ?_
  refine G_iload_n (x := a1) X dL_isSound_46 rfl rfl ?_
  refine G_iconst (v := 1) X dL_isSound_47 rfl ?_
  obtain ⟨v6, hk6, hf⟩ := obd hf
  refine G_callV (As := [vi a1, vi 1]) X (f5_row_ok E I5 a1 1 v6 hk6) cb_L_18 vi_X5_row (ci := 4) rfl rfl (show SH[0]? = some (_, 0) from rfl) rfl rfl (Nat.le_of_ble_eq_true rfl) (by decide) (by decide) rfl (Nat.le_refl _) (Nat.le_refl _) dL_isSound_48 ?_
  show G E κ _ _ _ [some (vr 0), some (vi a1), some (vi a2), some (vi v1), some (vi v2), some (vi v3), some (vi v4), some (vi v5), none] [vi v6] (mm I5)
  refine G_aload_n (x := some (0)) X dL_isSound_51 rfl rfl ?_
  refine G_iload_n (x := a2) X dL_isSound_52 rfl rfl ?_
  refine G_iconst (v := 1) X dL_isSound_53 rfl ?_
  obtain ⟨v7, hk7, hf⟩ := obd hf
  refine G_callV (As := [vi a2, vi 1]) X (f5_row_ok E I5 a2 1 v7 hk7) cb_L_18 vi_X5_row (ci := 4) rfl rfl (show SH[0]? = some (_, 0) from rfl) rfl rfl (Nat.le_of_ble_eq_true rfl) (by decide) (by decide) rfl (Nat.le_refl _) (Nat.le_refl _) dL_isSound_54 ?_
  show G E κ _ _ _ [some (vr 0), some (vi a1), some (vi a2), some (vi v1), some (vi v2), some (vi v3), some (vi v4), some (vi v5), none] [vi v7, vi v6] (mm I5)
  refine G_icmp_le (tgt := 69) X dL_isSound_57 (by decide) (fun hc8 => ?_) (fun hc8 => ?_)
  · have hf := (if_pos hc8).symm.trans hf
    refine G_aload_n (x := some (0)) X dL_isSound_69 rfl rfl ?_
    refine G_iload_n (x := a2) X dL_isSound_70 rfl rfl ?_
    refine G_iconst (v := 1) X dL_isSound_71 rfl ?_
    obtain ⟨v9, hk9, hf⟩ := obd hf
    refine G_callV (As := [vi a2, vi 1]) X (f5_row_ok E I5 a2 1 v9 hk9) cb_L_18 vi_X5_row (ci := 4) rfl rfl (show SH[0]? = some (_, 0) from rfl) rfl rfl (Nat.le_of_ble_eq_true rfl) (by decide) (by decide) rfl (Nat.le_refl _) (Nat.le_refl _) dL_isSound_72 ?_
    show G E κ _ _ _ [some (vr 0), some (vi a1), some (vi a2), some (vi v1), some (vi v2), some (vi v3), some (vi v4), some (vi v5), none] [vi v9] (mm I5)
    refine G_istore X dL_isSound_75 rfl (ls' := [some (vr 0), some (vi a1), some (vi a2), some (vi v1), some (vi v2), some (vi v3), some (vi v4), some (vi v5), some (vi v9)]) rfl ?_
    exact fL_isSound_J77_ok X I5 a1 a2 v1 v2 v3 v4 v5 v9 _ _ hR hf
  · have hf := (if_neg hc8).symm.trans hf
    refine G_aload_n (x := some (0)) X dL_isSound_60 rfl rfl ?_
    refine G_iload_n (x := a1) X dL_isSound_61 rfl rfl ?_
    refine G_iconst (v := 1) X dL_isSound_62 rfl ?_
    obtain ⟨v55, hk55, hf⟩ := obd hf
    refine G_callV (As := [vi a1, vi 1]) X (f5_row_ok E I5 a1 1 v55 hk55) cb_L_18 vi_X5_row (ci := 4) rfl rfl (show SH[0]? = some (_, 0) from rfl) rfl rfl (Nat.le_of_ble_eq_true rfl) (by decide) (by decide) rfl (Nat.le_refl _) (Nat.le_refl _) dL_isSound_63 ?_
    show G E κ _ _ _ [some (vr 0), some (vi a1), some (vi a2), some (vi v1), some (vi v2), some (vi v3), some (vi v4), some (vi v5), none] [vi v55] (mm I5)
    refine G_goto (tgt := 75) X dL_isSound_66 (by decide) ?_
    refine G_istore X dL_isSound_75 rfl (ls' := [some (vr 0), some (vi a1), some (vi a2), some (vi v1), some (vi v2), some (vi v3), some (vi v4), some (vi v5), some (vi v55)]) rfl ?_
    exact fL_isSound_J77_ok X I5 a1 a2 v1 v2 v3 v4 v5 v55 _ _ hR hf

def fL_isBest (I : gI) (a1 : Int32) (a2 : Int32) : Option (Bool × gI) := (fL_all I).bind fun v1 => (f5_bestShift I a1).bind fun q2 => (if q2.1 < 0 then some (false, q2.2) else (if 14 < q2.1 then some (false, q2.2) else (fL_all q2.2).bind fun v5 => (if (lg_cmp v5 v1) = 0 then (f5_shift q2.2 a1 q2.1).bind fun q7 => (if 0 ≤ q7.1 then (f5_row q7.2 a1 1).bind fun v9 => (f5_undo q7.2).bind fun q10 => (if q10.1 < 0 then some (false, q10.2) else (f5_shift q10.2 a1 a2).bind fun q12 => (if 0 ≤ q12.1 then (f5_row q12.2 a1 1).bind fun v14 => (f5_undo q12.2).bind fun q15 => (if q15.1 < 0 then some (false, q15.2) else (fL_all q15.2).bind fun v17 => (if (lg_cmp v17 v1) = 0 then (if v9 < v14 then some (true, q15.2) else (if v9 = v14 then (if a2 < q2.1 then some (false, q15.2) else some (true, q15.2)) else some (false, q15.2))) else some (false, q15.2))) else some (false, q12.2))) else some (false, q7.2)) else some (false, q2.2))))
set_option maxRecDepth 100000 in
set_option maxHeartbeats 4000000 in
theorem fL_isBest_ok (E : gEnv) (I : gI) (a1 : Int32) (a2 : Int32) (r : Bool) (I' : gI) (hf : fL_isBest I a1 a2 = some (r, I')) : Ctr E yL_isBest cL_isBest 8 (some .boolean) 8 0 0 [vr 0, vi a1, vi a2] (mm I) (some (vi (b2i r))) (mm I') := by
  refine Ctr.mk (by decide +kernel) rfl (Nat.le_of_ble_eq_true rfl) fun κ X hR _ => ?_
  have X : Cx E κ cL_isBest 8 RL (some .boolean) 8 0 0 := X
  show G E κ 0 0 0 [some (vr 0), some (vi a1), some (vi a2), none, none, none, none, none] [] (mm I)
  unfold fL_isBest at hf
  refine G_aload_n (x := some (0)) X dL_isBest_0 rfl rfl ?_
  obtain ⟨v1, hk1, hf⟩ := obd hf
  refine G_callS (As := [vr 0]) X (fL_all_ok E I  v1 hk1) cb_L_45 st_L_all rfl rfl (Nat.le_of_ble_eq_true rfl) (by decide) (by decide) rfl (Nat.le_refl _) (Nat.le_refl _) dL_isBest_1 ?_
  show G E κ _ _ _ [some (vr 0), some (vi a1), some (vi a2), none, none, none, none, none] [vl v1] (mm I)
  refine G_lstore_n X dL_isBest_4 rfl rfl (Nat.le_of_ble_eq_true rfl) (ls' := [some (vr 0), some (vi a1), some (vi a2), some (vl v1), none, none, none, none]) rfl ?_
  refine G_aload_n (x := some (0)) X dL_isBest_5 rfl rfl ?_
  refine G_iload_n (x := a1) X dL_isBest_6 rfl rfl ?_
  obtain ⟨⟨v2, I2⟩, hk2, hf⟩ := obd hf
  try dsimp only at hf
  refine G_callV (As := [vi a1]) X (f5_bestShift_ok E I a1 v2 I2 hk2) cb_L_49 vi_X5_bestShift (ci := 4) rfl rfl (show SH[0]? = some (_, 0) from rfl) rfl rfl (Nat.le_of_ble_eq_true rfl) (by decide) (by decide) rfl (Nat.le_refl _) (Nat.le_refl _) dL_isBest_7 ?_
  show G E κ _ _ _ [some (vr 0), some (vi a1), some (vi a2), some (vl v1), none, none, none, none] [vi v2] (mm I2)
  refine G_istore X dL_isBest_10 rfl (ls' := [some (vr 0), some (vi a1), some (vi a2), some (vl v1), none, some (vi v2), none, none]) rfl ?_
  refine G_iload (x := v2) X dL_isBest_12 rfl ?_
  refine G_if_lt (tgt := 43) X dL_isBest_14 (by decide) (fun hc3 => ?_) (fun hc3 => ?_)
  · have hf := (if_pos hc3).symm.trans hf
    refine G_iconst (v := 0) X dL_isBest_43 rfl ?_
    obtain ⟨rfl, rfl⟩ := Prod.mk.inj (Option.some.inj hf)
    exact G_iret X hR rfl (nar_b2i false) dL_isBest_44
  · have hf := (if_neg hc3).symm.trans hf
    refine G_iload (x := v2) X dL_isBest_17 rfl ?_
    refine G_bipush (v := 14) X dL_isBest_19 rfl ?_
    refine G_icmp_gt (tgt := 43) X dL_isBest_21 (by decide) (fun hc4 => ?_) (fun hc4 => ?_)
    · have hf := (if_pos hc4).symm.trans hf
      refine G_iconst (v := 0) X dL_isBest_43 rfl ?_
      obtain ⟨rfl, rfl⟩ := Prod.mk.inj (Option.some.inj hf)
      exact G_iret X hR rfl (nar_b2i false) dL_isBest_44
    · have hf := (if_neg hc4).symm.trans hf
      refine G_aload_n (x := some (0)) X dL_isBest_24 rfl rfl ?_
      obtain ⟨v5, hk5, hf⟩ := obd hf
      refine G_callS (As := [vr 0]) X (fL_all_ok E I2  v5 hk5) cb_L_45 st_L_all rfl rfl (Nat.le_of_ble_eq_true rfl) (by decide) (by decide) rfl (Nat.le_refl _) (Nat.le_refl _) dL_isBest_25 ?_
      show G E κ _ _ _ [some (vr 0), some (vi a1), some (vi a2), some (vl v1), none, some (vi v2), none, none] [vl v5] (mm I2)
      refine G_lload_n (x := v1) X dL_isBest_28 rfl rfl ?_
      refine G_lcmp X dL_isBest_29 ?_
      refine G_if_ne (tgt := 43) X dL_isBest_30 (by decide) (fun hc6 => ?_) (fun hc6 => ?_)
      · have hf := (if_neg hc6).symm.trans hf
        refine G_iconst (v := 0) X dL_isBest_43 rfl ?_
        obtain ⟨rfl, rfl⟩ := Prod.mk.inj (Option.some.inj hf)
        exact G_iret X hR rfl (nar_b2i false) dL_isBest_44
      · have hf := (if_pos hc6).symm.trans hf
        refine G_aload_n (x := some (0)) X dL_isBest_33 rfl rfl ?_
        refine G_iload_n (x := a1) X dL_isBest_34 rfl rfl ?_
        refine G_iload (x := v2) X dL_isBest_35 rfl ?_
        obtain ⟨⟨v7, I7⟩, hk7, hf⟩ := obd hf
        try dsimp only at hf
        refine G_callV (As := [vi a1, vi v2]) X (f5_shift_ok E I2 a1 v2 v7 I7 hk7) cb_L_52 vi_X5_shift (ci := 4) rfl rfl (show SH[0]? = some (_, 0) from rfl) rfl rfl (Nat.le_of_ble_eq_true rfl) (by decide) (by decide) rfl (Nat.le_refl _) (Nat.le_refl _) dL_isBest_37 ?_
        show G E κ _ _ _ [some (vr 0), some (vi a1), some (vi a2), some (vl v1), none, some (vi v2), none, none] [vi v7] (mm I7)
        refine G_if_ge (tgt := 45) X dL_isBest_40 (by decide) (fun hc8 => ?_) (fun hc8 => ?_)
        · have hf := (if_pos hc8).symm.trans hf
          refine G_aload_n (x := some (0)) X dL_isBest_45 rfl rfl ?_
          refine G_iload_n (x := a1) X dL_isBest_46 rfl rfl ?_
          refine G_iconst (v := 1) X dL_isBest_47 rfl ?_
          obtain ⟨v9, hk9, hf⟩ := obd hf
          refine G_callV (As := [vi a1, vi 1]) X (f5_row_ok E I7 a1 1 v9 hk9) cb_L_18 vi_X5_row (ci := 4) rfl rfl (show SH[0]? = some (_, 0) from rfl) rfl rfl (Nat.le_of_ble_eq_true rfl) (by decide) (by decide) rfl (Nat.le_refl _) (Nat.le_refl _) dL_isBest_48 ?_
          show G E κ _ _ _ [some (vr 0), some (vi a1), some (vi a2), some (vl v1), none, some (vi v2), none, none] [vi v9] (mm I7)
          refine G_istore X dL_isBest_51 rfl (ls' := [some (vr 0), some (vi a1), some (vi a2), some (vl v1), none, some (vi v2), some (vi v9), none]) rfl ?_
          refine G_aload_n (x := some (0)) X dL_isBest_53 rfl rfl ?_
          obtain ⟨⟨v10, I10⟩, hk10, hf⟩ := obd hf
          try dsimp only at hf
          refine G_callV (As := []) X (f5_undo_ok E I7  v10 I10 hk10) cb_L_55 vi_X5_undo (ci := 4) rfl rfl (show SH[0]? = some (_, 0) from rfl) rfl rfl (Nat.le_of_ble_eq_true rfl) (by decide) (by decide) rfl (Nat.le_refl _) (Nat.le_refl _) dL_isBest_54 ?_
          show G E κ _ _ _ [some (vr 0), some (vi a1), some (vi a2), some (vl v1), none, some (vi v2), some (vi v9), none] [vi v10] (mm I10)
          refine G_if_lt (tgt := 69) X dL_isBest_57 (by decide) (fun hc11 => ?_) (fun hc11 => ?_)
          · have hf := (if_pos hc11).symm.trans hf
            refine G_iconst (v := 0) X dL_isBest_69 rfl ?_
            obtain ⟨rfl, rfl⟩ := Prod.mk.inj (Option.some.inj hf)
            exact G_iret X hR rfl (nar_b2i false) dL_isBest_70
          · have hf := (if_neg hc11).symm.trans hf
            refine G_aload_n (x := some (0)) X dL_isBest_60 rfl rfl ?_
            refine G_iload_n (x := a1) X dL_isBest_61 rfl rfl ?_
            refine G_iload_n (x := a2) X dL_isBest_62 rfl rfl ?_
            obtain ⟨⟨v12, I12⟩, hk12, hf⟩ := obd hf
            try dsimp only at hf
            refine G_callV (As := [vi a1, vi a2]) X (f5_shift_ok E I10 a1 a2 v12 I12 hk12) cb_L_52 vi_X5_shift (ci := 4) rfl rfl (show SH[0]? = some (_, 0) from rfl) rfl rfl (Nat.le_of_ble_eq_true rfl) (by decide) (by decide) rfl (Nat.le_refl _) (Nat.le_refl _) dL_isBest_63 ?_
            show G E κ _ _ _ [some (vr 0), some (vi a1), some (vi a2), some (vl v1), none, some (vi v2), some (vi v9), none] [vi v12] (mm I12)
            refine G_if_ge (tgt := 71) X dL_isBest_66 (by decide) (fun hc13 => ?_) (fun hc13 => ?_)
            · have hf := (if_pos hc13).symm.trans hf
              refine G_aload_n (x := some (0)) X dL_isBest_71 rfl rfl ?_
              refine G_iload_n (x := a1) X dL_isBest_72 rfl rfl ?_
              refine G_iconst (v := 1) X dL_isBest_73 rfl ?_
              obtain ⟨v14, hk14, hf⟩ := obd hf
              refine G_callV (As := [vi a1, vi 1]) X (f5_row_ok E I12 a1 1 v14 hk14) cb_L_18 vi_X5_row (ci := 4) rfl rfl (show SH[0]? = some (_, 0) from rfl) rfl rfl (Nat.le_of_ble_eq_true rfl) (by decide) (by decide) rfl (Nat.le_refl _) (Nat.le_refl _) dL_isBest_74 ?_
              show G E κ _ _ _ [some (vr 0), some (vi a1), some (vi a2), some (vl v1), none, some (vi v2), some (vi v9), none] [vi v14] (mm I12)
              refine G_istore X dL_isBest_77 rfl (ls' := [some (vr 0), some (vi a1), some (vi a2), some (vl v1), none, some (vi v2), some (vi v9), some (vi v14)]) rfl ?_
              refine G_aload_n (x := some (0)) X dL_isBest_79 rfl rfl ?_
              obtain ⟨⟨v15, I15⟩, hk15, hf⟩ := obd hf
              try dsimp only at hf
              refine G_callV (As := []) X (f5_undo_ok E I12  v15 I15 hk15) cb_L_55 vi_X5_undo (ci := 4) rfl rfl (show SH[0]? = some (_, 0) from rfl) rfl rfl (Nat.le_of_ble_eq_true rfl) (by decide) (by decide) rfl (Nat.le_refl _) (Nat.le_refl _) dL_isBest_80 ?_
              show G E κ _ _ _ [some (vr 0), some (vi a1), some (vi a2), some (vl v1), none, some (vi v2), some (vi v9), some (vi v14)] [vi v15] (mm I15)
              refine G_if_lt (tgt := 119) X dL_isBest_83 (by decide) (fun hc16 => ?_) (fun hc16 => ?_)
              · have hf := (if_pos hc16).symm.trans hf
                refine G_iconst (v := 0) X dL_isBest_119 rfl ?_
                obtain ⟨rfl, rfl⟩ := Prod.mk.inj (Option.some.inj hf)
                exact G_iret X hR rfl (nar_b2i false) dL_isBest_120
              · have hf := (if_neg hc16).symm.trans hf
                refine G_aload_n (x := some (0)) X dL_isBest_86 rfl rfl ?_
                obtain ⟨v17, hk17, hf⟩ := obd hf
                refine G_callS (As := [vr 0]) X (fL_all_ok E I15  v17 hk17) cb_L_45 st_L_all rfl rfl (Nat.le_of_ble_eq_true rfl) (by decide) (by decide) rfl (Nat.le_refl _) (Nat.le_refl _) dL_isBest_87 ?_
                show G E κ _ _ _ [some (vr 0), some (vi a1), some (vi a2), some (vl v1), none, some (vi v2), some (vi v9), some (vi v14)] [vl v17] (mm I15)
                refine G_lload_n (x := v1) X dL_isBest_90 rfl rfl ?_
                refine G_lcmp X dL_isBest_91 ?_
                refine G_if_ne (tgt := 119) X dL_isBest_92 (by decide) (fun hc18 => ?_) (fun hc18 => ?_)
                · have hf := (if_neg hc18).symm.trans hf
                  refine G_iconst (v := 0) X dL_isBest_119 rfl ?_
                  obtain ⟨rfl, rfl⟩ := Prod.mk.inj (Option.some.inj hf)
                  exact G_iret X hR rfl (nar_b2i false) dL_isBest_120
                · have hf := (if_pos hc18).symm.trans hf
                  refine G_iload (x := v9) X dL_isBest_95 rfl ?_
                  refine G_iload (x := v14) X dL_isBest_97 rfl ?_
                  refine G_icmp_lt (tgt := 115) X dL_isBest_99 (by decide) (fun hc19 => ?_) (fun hc19 => ?_)
                  · have hf := (if_pos hc19).symm.trans hf
                    refine G_iconst (v := 1) X dL_isBest_115 rfl ?_
                    refine G_goto (tgt := 120) X dL_isBest_116 (by decide) ?_
                    obtain ⟨rfl, rfl⟩ := Prod.mk.inj (Option.some.inj hf)
                    exact G_iret X hR rfl (nar_b2i true) dL_isBest_120
                  · have hf := (if_neg hc19).symm.trans hf
                    refine G_iload (x := v9) X dL_isBest_102 rfl ?_
                    refine G_iload (x := v14) X dL_isBest_104 rfl ?_
                    refine G_icmp_ne (tgt := 119) X dL_isBest_106 (by decide) (fun hc20 => ?_) (fun hc20 => ?_)
                    · have hf := (if_neg hc20).symm.trans hf
                      refine G_iconst (v := 0) X dL_isBest_119 rfl ?_
                      obtain ⟨rfl, rfl⟩ := Prod.mk.inj (Option.some.inj hf)
                      exact G_iret X hR rfl (nar_b2i false) dL_isBest_120
                    · have hf := (if_pos hc20).symm.trans hf
                      refine G_iload (x := v2) X dL_isBest_109 rfl ?_
                      refine G_iload_n (x := a2) X dL_isBest_111 rfl rfl ?_
                      refine G_icmp_gt (tgt := 119) X dL_isBest_112 (by decide) (fun hc21 => ?_) (fun hc21 => ?_)
                      · have hf := (if_pos hc21).symm.trans hf
                        refine G_iconst (v := 0) X dL_isBest_119 rfl ?_
                        obtain ⟨rfl, rfl⟩ := Prod.mk.inj (Option.some.inj hf)
                        exact G_iret X hR rfl (nar_b2i false) dL_isBest_120
                      · have hf := (if_neg hc21).symm.trans hf
                        refine G_iconst (v := 1) X dL_isBest_115 rfl ?_
                        refine G_goto (tgt := 120) X dL_isBest_116 (by decide) ?_
                        obtain ⟨rfl, rfl⟩ := Prod.mk.inj (Option.some.inj hf)
                        exact G_iret X hR rfl (nar_b2i true) dL_isBest_120
            · have hf := (if_neg hc13).symm.trans hf
              refine G_iconst (v := 0) X dL_isBest_69 rfl ?_
              obtain ⟨rfl, rfl⟩ := Prod.mk.inj (Option.some.inj hf)
              exact G_iret X hR rfl (nar_b2i false) dL_isBest_70
        · have hf := (if_neg hc8).symm.trans hf
          refine G_iconst (v := 0) X dL_isBest_43 rfl ?_
          obtain ⟨rfl, rfl⟩ := Prod.mk.inj (Option.some.inj hf)
          exact G_iret X hR rfl (nar_b2i false) dL_isBest_44

def fL_acts_J30 (I : gI) (x1 : Int32) (x2 : Int32) (x3 : Int32) : Option (Int32 × gI) := (fL_low x1 16).bind fun v4 => (if v4 = 0 then (if ((x1 >>> (8 &&& 31)) &&& 1) = 0 then (fL_low (x1 >>> (9 &&& 31)) 22).bind fun v9 => (f5_append I x3 ((x1 >>> (7 &&& 31)) &&& 1) (15 * (1 + v9))).bind fun q10 => some (q10.1, q10.2) else (fL_low (x1 >>> (9 &&& 31)) 90).bind fun v7 => (f5_append I x3 ((x1 >>> (7 &&& 31)) &&& 1) (1 + v7)).bind fun q8 => some (q8.1, q8.2)) else (if v4 = 1 then (if ((x1 >>> (8 &&& 31)) &&& 1) = 0 then (fL_low (x1 >>> (9 &&& 31)) 22).bind fun v15 => (f5_append I x3 ((x1 >>> (7 &&& 31)) &&& 1) (15 * (1 + v15))).bind fun q16 => some (q16.1, q16.2) else (fL_low (x1 >>> (9 &&& 31)) 90).bind fun v13 => (f5_append I x3 ((x1 >>> (7 &&& 31)) &&& 1) (1 + v13)).bind fun q14 => some (q14.1, q14.2)) else (if v4 = 2 then (if ((x1 >>> (8 &&& 31)) &&& 1) = 0 then (fL_low (x1 >>> (9 &&& 31)) 22).bind fun v21 => (f5_append I x3 ((x1 >>> (7 &&& 31)) &&& 1) (15 * (1 + v21))).bind fun q22 => some (q22.1, q22.2) else (fL_low (x1 >>> (9 &&& 31)) 90).bind fun v19 => (f5_append I x3 ((x1 >>> (7 &&& 31)) &&& 1) (1 + v19)).bind fun q20 => some (q20.1, q20.2)) else (if v4 = 3 then (fL_low (x1 >>> (5 &&& 31)) 17).bind fun v24 => (f5_write I x3 ((x1 >>> (9 &&& 31)) &&& 65535) (1 + v24)).bind fun q25 => some (q25.1, q25.2) else (if v4 = 4 then (fL_low (x1 >>> (5 &&& 31)) 17).bind fun v27 => (f5_write I x3 ((x1 >>> (9 &&& 31)) &&& 65535) (1 + v27)).bind fun q28 => some (q28.1, q28.2) else (if v4 = 5 then (if x2 ≤ x3 then (f5_row I 0 0).bind fun v31 => (fL_low (x1 >>> (9 &&& 31)) (1 + v31)).bind fun v32 => (f5_set I x3 v32 ((x1 >>> (7 &&& 31)) &&& 1)).bind fun q33 => some (q33.1, q33.2) else (f5_row I x3 0).bind fun v34 => (fL_low (x1 >>> (9 &&& 31)) (1 + v34)).bind fun v35 => (f5_set I x3 v35 ((x1 >>> (7 &&& 31)) &&& 1)).bind fun q36 => some (q36.1, q36.2)) else (if v4 = 6 then (if x2 ≤ x3 then (f5_row I 0 0).bind fun v39 => (fL_low (x1 >>> (9 &&& 31)) (1 + v39)).bind fun v40 => (f5_set I x3 v40 ((x1 >>> (7 &&& 31)) &&& 1)).bind fun q41 => some (q41.1, q41.2) else (f5_row I x3 0).bind fun v42 => (fL_low (x1 >>> (9 &&& 31)) (1 + v42)).bind fun v43 => (f5_set I x3 v43 ((x1 >>> (7 &&& 31)) &&& 1)).bind fun q44 => some (q44.1, q44.2)) else (if v4 = 7 then (fL_low (x1 >>> (9 &&& 31)) 610).bind fun v46 => (f5_resize I x3 v46).bind fun q47 => some (q47.1, q47.2) else (if v4 = 8 then (fL_low (x1 >>> (9 &&& 31)) 4).bind fun v49 => (fL_low (x1 >>> (11 &&& 31)) x2).bind fun v50 => (fL_low (x1 >>> (14 &&& 31)) x2).bind fun v51 => (f5_operate I x3 v49 v50 v51).bind fun q52 => some (q52.1, q52.2) else (if v4 = 9 then (fL_low (x1 >>> (9 &&& 31)) 4).bind fun v54 => (fL_low (x1 >>> (11 &&& 31)) x2).bind fun v55 => (fL_low (x1 >>> (14 &&& 31)) x2).bind fun v56 => (f5_operate I x3 v54 v55 v56).bind fun q57 => some (q57.1, q57.2) else (if v4 = 10 then (fL_low (x1 >>> (9 &&& 31)) 4).bind fun v59 => (fL_low (x1 >>> (11 &&& 31)) x2).bind fun v60 => (fL_low (x1 >>> (14 &&& 31)) x2).bind fun v61 => (f5_operate I x3 v59 v60 v61).bind fun q62 => some (q62.1, q62.2) else (if v4 = 11 then (f5_not I x3).bind fun q64 => some (q64.1, q64.2) else (if v4 = 12 then (fL_low (x1 >>> (9 &&& 31)) 1210).bind fun v66 => (f5_shift I x3 (v66 - 605)).bind fun q67 => some (q67.1, q67.2) else (if v4 = 13 then (fL_low (x1 >>> (9 &&& 31)) 1210).bind fun v69 => (f5_shift I x3 (v69 - 605)).bind fun q70 => some (q70.1, q70.2) else (if v4 = 14 then (f5_evaluate I x3).bind fun q72 => some (q72.1, q72.2) else (f5_make I).bind fun q73 => some (q73.1, q73.2))))))))))))))))
set_option maxRecDepth 100000 in
set_option maxHeartbeats 4000000 in
theorem fL_acts_J30_ok {E : gEnv} {κ : gCtx} (X : Cx E κ cL_acts 4 RL (some .int) 97 0 0) : ∀ (I : gI) (x1 : Int32) (x2 : Int32) (x3 : Int32) (r : Int32) (I' : gI) (hR : gRt E κ 0 0 (some (vi r)) (mm I')) (hf : fL_acts_J30 I x1 x2 x3 = some (r, I')), G E κ 0 0 30 [some (vr 0), some (vi x1), some (vi x2), some (vi x3)] [] (mm I) := by
  intro I x1 x2 x3 r I' hR hf
  unfold fL_acts_J30 at hf
  refine G_iload_n (x := x1) X dL_acts_30 rfl rfl ?_
  refine G_bipush (v := 16) X dL_acts_31 rfl ?_
  obtain ⟨v4, hk4, hf⟩ := obd hf
  refine G_callS (As := [vi x1, vi 16]) X (fL_low_ok E I x1 16 v4 hk4) cb_L_59 st_L_low rfl rfl (Nat.le_of_ble_eq_true rfl) (by decide) (by decide) rfl (Nat.le_refl _) (Nat.le_refl _) dL_acts_33 ?_
  show G E κ _ _ _ [some (vr 0), some (vi x1), some (vi x2), some (vi x3)] [vi v4] (mm I)
  by_cases hc5 : v4 = 0
  · have hf := (if_pos hc5).symm.trans hf
    refine G_tableJ (tgt := 112) X 0 dL_acts_36 hc5 (by decide) (by decide) rfl (by decide) ?_
    refine G_aload_n (x := some (0)) X dL_acts_112 rfl rfl ?_
    refine G_iload_n (x := x3) X dL_acts_113 rfl rfl ?_
    refine G_iload_n (x := x1) X dL_acts_114 rfl rfl ?_
    refine G_bipush (v := 7) X dL_acts_115 rfl ?_
    refine G_ishr X dL_acts_117 ?_
    refine G_iconst (v := 1) X dL_acts_118 rfl ?_
    refine G_iand X dL_acts_119 ?_
    refine G_iload_n (x := x1) X dL_acts_120 rfl rfl ?_
    refine G_bipush (v := 8) X dL_acts_121 rfl ?_
    refine G_ishr X dL_acts_123 ?_
    refine G_iconst (v := 1) X dL_acts_124 rfl ?_
    refine G_iand X dL_acts_125 ?_
    refine G_if_ne (tgt := 146) X dL_acts_126 (by decide) (fun hc6 => ?_) (fun hc6 => ?_)
    · have hf := (if_neg hc6).symm.trans hf
      refine G_iconst (v := 1) X dL_acts_146 rfl ?_
      refine G_iload_n (x := x1) X dL_acts_147 rfl rfl ?_
      refine G_bipush (v := 9) X dL_acts_148 rfl ?_
      refine G_ishr X dL_acts_150 ?_
      refine G_bipush (v := 90) X dL_acts_151 rfl ?_
      obtain ⟨v7, hk7, hf⟩ := obd hf
      refine G_callS (As := [vi (x1 >>> (9 &&& 31)), vi 90]) X (fL_low_ok E I (x1 >>> (9 &&& 31)) 90 v7 hk7) cb_L_59 st_L_low rfl rfl (Nat.le_of_ble_eq_true rfl) (by decide) (by decide) rfl (Nat.le_refl _) (Nat.le_refl _) dL_acts_153 ?_
      show G E κ _ _ _ [some (vr 0), some (vi x1), some (vi x2), some (vi x3)] [vi v7, vi 1, vi ((x1 >>> (7 &&& 31)) &&& 1), vi x3, vr 0] (mm I)
      refine G_iadd X dL_acts_156 ?_
      obtain ⟨⟨v8, I8⟩, hk8, hf⟩ := obd hf
      try dsimp only at hf
      refine G_callV (As := [vi x3, vi ((x1 >>> (7 &&& 31)) &&& 1), vi (1 + v7)]) X (f5_append_ok E I x3 ((x1 >>> (7 &&& 31)) &&& 1) (1 + v7) v8 I8 hk8) cb_L_62 vi_X5_append (ci := 4) rfl rfl (show SH[0]? = some (_, 0) from rfl) rfl rfl (Nat.le_of_ble_eq_true rfl) (by decide) (by decide) rfl (Nat.le_refl _) (Nat.le_refl _) dL_acts_157 ?_
      show G E κ _ _ _ [some (vr 0), some (vi x1), some (vi x2), some (vi x3)] [vi v8] (mm I8)
      obtain ⟨rfl, rfl⟩ := Prod.mk.inj (Option.some.inj hf)
      exact G_iret X hR rfl rfl dL_acts_160
    · have hf := (if_pos hc6).symm.trans hf
      refine G_bipush (v := 15) X dL_acts_129 rfl ?_
      refine G_iconst (v := 1) X dL_acts_131 rfl ?_
      refine G_iload_n (x := x1) X dL_acts_132 rfl rfl ?_
      refine G_bipush (v := 9) X dL_acts_133 rfl ?_
      refine G_ishr X dL_acts_135 ?_
      refine G_bipush (v := 22) X dL_acts_136 rfl ?_
      obtain ⟨v9, hk9, hf⟩ := obd hf
      refine G_callS (As := [vi (x1 >>> (9 &&& 31)), vi 22]) X (fL_low_ok E I (x1 >>> (9 &&& 31)) 22 v9 hk9) cb_L_59 st_L_low rfl rfl (Nat.le_of_ble_eq_true rfl) (by decide) (by decide) rfl (Nat.le_refl _) (Nat.le_refl _) dL_acts_138 ?_
      show G E κ _ _ _ [some (vr 0), some (vi x1), some (vi x2), some (vi x3)] [vi v9, vi 1, vi 15, vi ((x1 >>> (7 &&& 31)) &&& 1), vi x3, vr 0] (mm I)
      refine G_iadd X dL_acts_141 ?_
      refine G_imul X dL_acts_142 ?_
      refine G_goto (tgt := 157) X dL_acts_143 (by decide) ?_
      obtain ⟨⟨v10, I10⟩, hk10, hf⟩ := obd hf
      try dsimp only at hf
      refine G_callV (As := [vi x3, vi ((x1 >>> (7 &&& 31)) &&& 1), vi (15 * (1 + v9))]) X (f5_append_ok E I x3 ((x1 >>> (7 &&& 31)) &&& 1) (15 * (1 + v9)) v10 I10 hk10) cb_L_62 vi_X5_append (ci := 4) rfl rfl (show SH[0]? = some (_, 0) from rfl) rfl rfl (Nat.le_of_ble_eq_true rfl) (by decide) (by decide) rfl (Nat.le_refl _) (Nat.le_refl _) dL_acts_157 ?_
      show G E κ _ _ _ [some (vr 0), some (vi x1), some (vi x2), some (vi x3)] [vi v10] (mm I10)
      obtain ⟨rfl, rfl⟩ := Prod.mk.inj (Option.some.inj hf)
      exact G_iret X hR rfl rfl dL_acts_160
  have hf := (if_neg hc5).symm.trans hf
  by_cases hc11 : v4 = 1
  · have hf := (if_pos hc11).symm.trans hf
    refine G_tableJ (tgt := 112) X 1 dL_acts_36 hc11 (by decide) (by decide) rfl (by decide) ?_
    refine G_aload_n (x := some (0)) X dL_acts_112 rfl rfl ?_
    refine G_iload_n (x := x3) X dL_acts_113 rfl rfl ?_
    refine G_iload_n (x := x1) X dL_acts_114 rfl rfl ?_
    refine G_bipush (v := 7) X dL_acts_115 rfl ?_
    refine G_ishr X dL_acts_117 ?_
    refine G_iconst (v := 1) X dL_acts_118 rfl ?_
    refine G_iand X dL_acts_119 ?_
    refine G_iload_n (x := x1) X dL_acts_120 rfl rfl ?_
    refine G_bipush (v := 8) X dL_acts_121 rfl ?_
    refine G_ishr X dL_acts_123 ?_
    refine G_iconst (v := 1) X dL_acts_124 rfl ?_
    refine G_iand X dL_acts_125 ?_
    refine G_if_ne (tgt := 146) X dL_acts_126 (by decide) (fun hc12 => ?_) (fun hc12 => ?_)
    · have hf := (if_neg hc12).symm.trans hf
      refine G_iconst (v := 1) X dL_acts_146 rfl ?_
      refine G_iload_n (x := x1) X dL_acts_147 rfl rfl ?_
      refine G_bipush (v := 9) X dL_acts_148 rfl ?_
      refine G_ishr X dL_acts_150 ?_
      refine G_bipush (v := 90) X dL_acts_151 rfl ?_
      obtain ⟨v13, hk13, hf⟩ := obd hf
      refine G_callS (As := [vi (x1 >>> (9 &&& 31)), vi 90]) X (fL_low_ok E I (x1 >>> (9 &&& 31)) 90 v13 hk13) cb_L_59 st_L_low rfl rfl (Nat.le_of_ble_eq_true rfl) (by decide) (by decide) rfl (Nat.le_refl _) (Nat.le_refl _) dL_acts_153 ?_
      show G E κ _ _ _ [some (vr 0), some (vi x1), some (vi x2), some (vi x3)] [vi v13, vi 1, vi ((x1 >>> (7 &&& 31)) &&& 1), vi x3, vr 0] (mm I)
      refine G_iadd X dL_acts_156 ?_
      obtain ⟨⟨v14, I14⟩, hk14, hf⟩ := obd hf
      try dsimp only at hf
      refine G_callV (As := [vi x3, vi ((x1 >>> (7 &&& 31)) &&& 1), vi (1 + v13)]) X (f5_append_ok E I x3 ((x1 >>> (7 &&& 31)) &&& 1) (1 + v13) v14 I14 hk14) cb_L_62 vi_X5_append (ci := 4) rfl rfl (show SH[0]? = some (_, 0) from rfl) rfl rfl (Nat.le_of_ble_eq_true rfl) (by decide) (by decide) rfl (Nat.le_refl _) (Nat.le_refl _) dL_acts_157 ?_
      show G E κ _ _ _ [some (vr 0), some (vi x1), some (vi x2), some (vi x3)] [vi v14] (mm I14)
      obtain ⟨rfl, rfl⟩ := Prod.mk.inj (Option.some.inj hf)
      exact G_iret X hR rfl rfl dL_acts_160
    · have hf := (if_pos hc12).symm.trans hf
      refine G_bipush (v := 15) X dL_acts_129 rfl ?_
      refine G_iconst (v := 1) X dL_acts_131 rfl ?_
      refine G_iload_n (x := x1) X dL_acts_132 rfl rfl ?_
      refine G_bipush (v := 9) X dL_acts_133 rfl ?_
      refine G_ishr X dL_acts_135 ?_
      refine G_bipush (v := 22) X dL_acts_136 rfl ?_
      obtain ⟨v15, hk15, hf⟩ := obd hf
      refine G_callS (As := [vi (x1 >>> (9 &&& 31)), vi 22]) X (fL_low_ok E I (x1 >>> (9 &&& 31)) 22 v15 hk15) cb_L_59 st_L_low rfl rfl (Nat.le_of_ble_eq_true rfl) (by decide) (by decide) rfl (Nat.le_refl _) (Nat.le_refl _) dL_acts_138 ?_
      show G E κ _ _ _ [some (vr 0), some (vi x1), some (vi x2), some (vi x3)] [vi v15, vi 1, vi 15, vi ((x1 >>> (7 &&& 31)) &&& 1), vi x3, vr 0] (mm I)
      refine G_iadd X dL_acts_141 ?_
      refine G_imul X dL_acts_142 ?_
      refine G_goto (tgt := 157) X dL_acts_143 (by decide) ?_
      obtain ⟨⟨v16, I16⟩, hk16, hf⟩ := obd hf
      try dsimp only at hf
      refine G_callV (As := [vi x3, vi ((x1 >>> (7 &&& 31)) &&& 1), vi (15 * (1 + v15))]) X (f5_append_ok E I x3 ((x1 >>> (7 &&& 31)) &&& 1) (15 * (1 + v15)) v16 I16 hk16) cb_L_62 vi_X5_append (ci := 4) rfl rfl (show SH[0]? = some (_, 0) from rfl) rfl rfl (Nat.le_of_ble_eq_true rfl) (by decide) (by decide) rfl (Nat.le_refl _) (Nat.le_refl _) dL_acts_157 ?_
      show G E κ _ _ _ [some (vr 0), some (vi x1), some (vi x2), some (vi x3)] [vi v16] (mm I16)
      obtain ⟨rfl, rfl⟩ := Prod.mk.inj (Option.some.inj hf)
      exact G_iret X hR rfl rfl dL_acts_160
  have hf := (if_neg hc11).symm.trans hf
  by_cases hc17 : v4 = 2
  · have hf := (if_pos hc17).symm.trans hf
    refine G_tableJ (tgt := 112) X 2 dL_acts_36 hc17 (by decide) (by decide) rfl (by decide) ?_
    refine G_aload_n (x := some (0)) X dL_acts_112 rfl rfl ?_
    refine G_iload_n (x := x3) X dL_acts_113 rfl rfl ?_
    refine G_iload_n (x := x1) X dL_acts_114 rfl rfl ?_
    refine G_bipush (v := 7) X dL_acts_115 rfl ?_
    refine G_ishr X dL_acts_117 ?_
    refine G_iconst (v := 1) X dL_acts_118 rfl ?_
    refine G_iand X dL_acts_119 ?_
    refine G_iload_n (x := x1) X dL_acts_120 rfl rfl ?_
    refine G_bipush (v := 8) X dL_acts_121 rfl ?_
    refine G_ishr X dL_acts_123 ?_
    refine G_iconst (v := 1) X dL_acts_124 rfl ?_
    refine G_iand X dL_acts_125 ?_
    refine G_if_ne (tgt := 146) X dL_acts_126 (by decide) (fun hc18 => ?_) (fun hc18 => ?_)
    · have hf := (if_neg hc18).symm.trans hf
      refine G_iconst (v := 1) X dL_acts_146 rfl ?_
      refine G_iload_n (x := x1) X dL_acts_147 rfl rfl ?_
      refine G_bipush (v := 9) X dL_acts_148 rfl ?_
      refine G_ishr X dL_acts_150 ?_
      refine G_bipush (v := 90) X dL_acts_151 rfl ?_
      obtain ⟨v19, hk19, hf⟩ := obd hf
      refine G_callS (As := [vi (x1 >>> (9 &&& 31)), vi 90]) X (fL_low_ok E I (x1 >>> (9 &&& 31)) 90 v19 hk19) cb_L_59 st_L_low rfl rfl (Nat.le_of_ble_eq_true rfl) (by decide) (by decide) rfl (Nat.le_refl _) (Nat.le_refl _) dL_acts_153 ?_
      show G E κ _ _ _ [some (vr 0), some (vi x1), some (vi x2), some (vi x3)] [vi v19, vi 1, vi ((x1 >>> (7 &&& 31)) &&& 1), vi x3, vr 0] (mm I)
      refine G_iadd X dL_acts_156 ?_
      obtain ⟨⟨v20, I20⟩, hk20, hf⟩ := obd hf
      try dsimp only at hf
      refine G_callV (As := [vi x3, vi ((x1 >>> (7 &&& 31)) &&& 1), vi (1 + v19)]) X (f5_append_ok E I x3 ((x1 >>> (7 &&& 31)) &&& 1) (1 + v19) v20 I20 hk20) cb_L_62 vi_X5_append (ci := 4) rfl rfl (show SH[0]? = some (_, 0) from rfl) rfl rfl (Nat.le_of_ble_eq_true rfl) (by decide) (by decide) rfl (Nat.le_refl _) (Nat.le_refl _) dL_acts_157 ?_
      show G E κ _ _ _ [some (vr 0), some (vi x1), some (vi x2), some (vi x3)] [vi v20] (mm I20)
      obtain ⟨rfl, rfl⟩ := Prod.mk.inj (Option.some.inj hf)
      exact G_iret X hR rfl rfl dL_acts_160
    · have hf := (if_pos hc18).symm.trans hf
      refine G_bipush (v := 15) X dL_acts_129 rfl ?_
      refine G_iconst (v := 1) X dL_acts_131 rfl ?_
      refine G_iload_n (x := x1) X dL_acts_132 rfl rfl ?_
      refine G_bipush (v := 9) X dL_acts_133 rfl ?_
      refine G_ishr X dL_acts_135 ?_
      refine G_bipush (v := 22) X dL_acts_136 rfl ?_
      obtain ⟨v21, hk21, hf⟩ := obd hf
      refine G_callS (As := [vi (x1 >>> (9 &&& 31)), vi 22]) X (fL_low_ok E I (x1 >>> (9 &&& 31)) 22 v21 hk21) cb_L_59 st_L_low rfl rfl (Nat.le_of_ble_eq_true rfl) (by decide) (by decide) rfl (Nat.le_refl _) (Nat.le_refl _) dL_acts_138 ?_
      show G E κ _ _ _ [some (vr 0), some (vi x1), some (vi x2), some (vi x3)] [vi v21, vi 1, vi 15, vi ((x1 >>> (7 &&& 31)) &&& 1), vi x3, vr 0] (mm I)
      refine G_iadd X dL_acts_141 ?_
      refine G_imul X dL_acts_142 ?_
      refine G_goto (tgt := 157) X dL_acts_143 (by decide) ?_
      obtain ⟨⟨v22, I22⟩, hk22, hf⟩ := obd hf
      try dsimp only at hf
      refine G_callV (As := [vi x3, vi ((x1 >>> (7 &&& 31)) &&& 1), vi (15 * (1 + v21))]) X (f5_append_ok E I x3 ((x1 >>> (7 &&& 31)) &&& 1) (15 * (1 + v21)) v22 I22 hk22) cb_L_62 vi_X5_append (ci := 4) rfl rfl (show SH[0]? = some (_, 0) from rfl) rfl rfl (Nat.le_of_ble_eq_true rfl) (by decide) (by decide) rfl (Nat.le_refl _) (Nat.le_refl _) dL_acts_157 ?_
      show G E κ _ _ _ [some (vr 0), some (vi x1), some (vi x2), some (vi x3)] [vi v22] (mm I22)
      obtain ⟨rfl, rfl⟩ := Prod.mk.inj (Option.some.inj hf)
      exact G_iret X hR rfl rfl dL_acts_160
  have hf := (if_neg hc17).symm.trans hf
  by_cases hc23 : v4 = 3
  · have hf := (if_pos hc23).symm.trans hf
    refine G_tableJ (tgt := 161) X 3 dL_acts_36 hc23 (by decide) (by decide) rfl (by decide) ?_
    refine G_aload_n (x := some (0)) X dL_acts_161 rfl rfl ?_
    refine G_iload_n (x := x3) X dL_acts_162 rfl rfl ?_
    refine G_iload_n (x := x1) X dL_acts_163 rfl rfl ?_
    refine G_bipush (v := 9) X dL_acts_164 rfl ?_
    refine G_ishr X dL_acts_166 ?_
    refine G_ldc (v := 65535) X kc_L_66 dL_acts_167 ?_
    refine G_iand X dL_acts_169 ?_
    refine G_iconst (v := 1) X dL_acts_170 rfl ?_
    refine G_iload_n (x := x1) X dL_acts_171 rfl rfl ?_
    refine G_iconst (v := 5) X dL_acts_172 rfl ?_
    refine G_ishr X dL_acts_173 ?_
    refine G_bipush (v := 17) X dL_acts_174 rfl ?_
    obtain ⟨v24, hk24, hf⟩ := obd hf
    refine G_callS (As := [vi (x1 >>> (5 &&& 31)), vi 17]) X (fL_low_ok E I (x1 >>> (5 &&& 31)) 17 v24 hk24) cb_L_59 st_L_low rfl rfl (Nat.le_of_ble_eq_true rfl) (by decide) (by decide) rfl (Nat.le_refl _) (Nat.le_refl _) dL_acts_176 ?_
    show G E κ _ _ _ [some (vr 0), some (vi x1), some (vi x2), some (vi x3)] [vi v24, vi 1, vi ((x1 >>> (9 &&& 31)) &&& 65535), vi x3, vr 0] (mm I)
    refine G_iadd X dL_acts_179 ?_
    obtain ⟨⟨v25, I25⟩, hk25, hf⟩ := obd hf
    try dsimp only at hf
    refine G_callV (As := [vi x3, vi ((x1 >>> (9 &&& 31)) &&& 65535), vi (1 + v24)]) X (f5_write_ok E I x3 ((x1 >>> (9 &&& 31)) &&& 65535) (1 + v24) v25 I25 hk25) cb_L_67 vi_X5_write (ci := 4) rfl rfl (show SH[0]? = some (_, 0) from rfl) rfl rfl (Nat.le_of_ble_eq_true rfl) (by decide) (by decide) rfl (Nat.le_refl _) (Nat.le_refl _) dL_acts_180 ?_
    show G E κ _ _ _ [some (vr 0), some (vi x1), some (vi x2), some (vi x3)] [vi v25] (mm I25)
    obtain ⟨rfl, rfl⟩ := Prod.mk.inj (Option.some.inj hf)
    exact G_iret X hR rfl rfl dL_acts_183
  have hf := (if_neg hc23).symm.trans hf
  by_cases hc26 : v4 = 4
  · have hf := (if_pos hc26).symm.trans hf
    refine G_tableJ (tgt := 161) X 4 dL_acts_36 hc26 (by decide) (by decide) rfl (by decide) ?_
    refine G_aload_n (x := some (0)) X dL_acts_161 rfl rfl ?_
    refine G_iload_n (x := x3) X dL_acts_162 rfl rfl ?_
    refine G_iload_n (x := x1) X dL_acts_163 rfl rfl ?_
    refine G_bipush (v := 9) X dL_acts_164 rfl ?_
    refine G_ishr X dL_acts_166 ?_
    refine G_ldc (v := 65535) X kc_L_66 dL_acts_167 ?_
    refine G_iand X dL_acts_169 ?_
    refine G_iconst (v := 1) X dL_acts_170 rfl ?_
    refine G_iload_n (x := x1) X dL_acts_171 rfl rfl ?_
    refine G_iconst (v := 5) X dL_acts_172 rfl ?_
    refine G_ishr X dL_acts_173 ?_
    refine G_bipush (v := 17) X dL_acts_174 rfl ?_
    obtain ⟨v27, hk27, hf⟩ := obd hf
    refine G_callS (As := [vi (x1 >>> (5 &&& 31)), vi 17]) X (fL_low_ok E I (x1 >>> (5 &&& 31)) 17 v27 hk27) cb_L_59 st_L_low rfl rfl (Nat.le_of_ble_eq_true rfl) (by decide) (by decide) rfl (Nat.le_refl _) (Nat.le_refl _) dL_acts_176 ?_
    show G E κ _ _ _ [some (vr 0), some (vi x1), some (vi x2), some (vi x3)] [vi v27, vi 1, vi ((x1 >>> (9 &&& 31)) &&& 65535), vi x3, vr 0] (mm I)
    refine G_iadd X dL_acts_179 ?_
    obtain ⟨⟨v28, I28⟩, hk28, hf⟩ := obd hf
    try dsimp only at hf
    refine G_callV (As := [vi x3, vi ((x1 >>> (9 &&& 31)) &&& 65535), vi (1 + v27)]) X (f5_write_ok E I x3 ((x1 >>> (9 &&& 31)) &&& 65535) (1 + v27) v28 I28 hk28) cb_L_67 vi_X5_write (ci := 4) rfl rfl (show SH[0]? = some (_, 0) from rfl) rfl rfl (Nat.le_of_ble_eq_true rfl) (by decide) (by decide) rfl (Nat.le_refl _) (Nat.le_refl _) dL_acts_180 ?_
    show G E κ _ _ _ [some (vr 0), some (vi x1), some (vi x2), some (vi x3)] [vi v28] (mm I28)
    obtain ⟨rfl, rfl⟩ := Prod.mk.inj (Option.some.inj hf)
    exact G_iret X hR rfl rfl dL_acts_183
  have hf := (if_neg hc26).symm.trans hf
  by_cases hc29 : v4 = 5
  · have hf := (if_pos hc29).symm.trans hf
    refine G_tableJ (tgt := 184) X 5 dL_acts_36 hc29 (by decide) (by decide) rfl (by decide) ?_
    refine G_aload_n (x := some (0)) X dL_acts_184 rfl rfl ?_
    refine G_iload_n (x := x3) X dL_acts_185 rfl rfl ?_
    refine G_iload_n (x := x1) X dL_acts_186 rfl rfl ?_
    refine G_bipush (v := 9) X dL_acts_187 rfl ?_
    refine G_ishr X dL_acts_189 ?_
    refine G_iconst (v := 1) X dL_acts_190 rfl ?_
    refine G_aload_n (x := some (0)) X dL_acts_191 rfl rfl ?_
    refine G_iload_n (x := x3) X dL_acts_192 rfl rfl ?_
    refine G_iload_n (x := x2) X dL_acts_193 rfl rfl ?_
    refine G_icmp_ge (tgt := 201) X dL_acts_194 (by decide) (fun hc30 => ?_) (fun hc30 => ?_)
    · have hf := (if_pos hc30).symm.trans hf
      refine G_iconst (v := 0) X dL_acts_201 rfl ?_
      refine G_iconst (v := 0) X dL_acts_202 rfl ?_
      obtain ⟨v31, hk31, hf⟩ := obd hf
      refine G_callV (As := [vi 0, vi 0]) X (f5_row_ok E I 0 0 v31 hk31) cb_L_18 vi_X5_row (ci := 4) rfl rfl (show SH[0]? = some (_, 0) from rfl) rfl rfl (Nat.le_of_ble_eq_true rfl) (by decide) (by decide) rfl (Nat.le_refl _) (Nat.le_refl _) dL_acts_203 ?_
      show G E κ _ _ _ [some (vr 0), some (vi x1), some (vi x2), some (vi x3)] [vi v31, vi 1, vi (x1 >>> (9 &&& 31)), vi x3, vr 0] (mm I)
      refine G_iadd X dL_acts_206 ?_
      obtain ⟨v32, hk32, hf⟩ := obd hf
      refine G_callS (As := [vi (x1 >>> (9 &&& 31)), vi (1 + v31)]) X (fL_low_ok E I (x1 >>> (9 &&& 31)) (1 + v31) v32 hk32) cb_L_59 st_L_low rfl rfl (Nat.le_of_ble_eq_true rfl) (by decide) (by decide) rfl (Nat.le_refl _) (Nat.le_refl _) dL_acts_207 ?_
      show G E κ _ _ _ [some (vr 0), some (vi x1), some (vi x2), some (vi x3)] [vi v32, vi x3, vr 0] (mm I)
      refine G_iload_n (x := x1) X dL_acts_210 rfl rfl ?_
      refine G_bipush (v := 7) X dL_acts_211 rfl ?_
      refine G_ishr X dL_acts_213 ?_
      refine G_iconst (v := 1) X dL_acts_214 rfl ?_
      refine G_iand X dL_acts_215 ?_
      obtain ⟨⟨v33, I33⟩, hk33, hf⟩ := obd hf
      try dsimp only at hf
      refine G_callV (As := [vi x3, vi v32, vi ((x1 >>> (7 &&& 31)) &&& 1)]) X (f5_set_ok E I x3 v32 ((x1 >>> (7 &&& 31)) &&& 1) v33 I33 hk33) cb_L_70 vi_X5_set (ci := 4) rfl rfl (show SH[0]? = some (_, 0) from rfl) rfl rfl (Nat.le_of_ble_eq_true rfl) (by decide) (by decide) rfl (Nat.le_refl _) (Nat.le_refl _) dL_acts_216 ?_
      show G E κ _ _ _ [some (vr 0), some (vi x1), some (vi x2), some (vi x3)] [vi v33] (mm I33)
      obtain ⟨rfl, rfl⟩ := Prod.mk.inj (Option.some.inj hf)
      exact G_iret X hR rfl rfl dL_acts_219
    · have hf := (if_neg hc30).symm.trans hf
      refine G_iload_n (x := x3) X dL_acts_197 rfl rfl ?_
      refine G_goto (tgt := 202) X dL_acts_198 (by decide) ?_
      refine G_iconst (v := 0) X dL_acts_202 rfl ?_
      obtain ⟨v34, hk34, hf⟩ := obd hf
      refine G_callV (As := [vi x3, vi 0]) X (f5_row_ok E I x3 0 v34 hk34) cb_L_18 vi_X5_row (ci := 4) rfl rfl (show SH[0]? = some (_, 0) from rfl) rfl rfl (Nat.le_of_ble_eq_true rfl) (by decide) (by decide) rfl (Nat.le_refl _) (Nat.le_refl _) dL_acts_203 ?_
      show G E κ _ _ _ [some (vr 0), some (vi x1), some (vi x2), some (vi x3)] [vi v34, vi 1, vi (x1 >>> (9 &&& 31)), vi x3, vr 0] (mm I)
      refine G_iadd X dL_acts_206 ?_
      obtain ⟨v35, hk35, hf⟩ := obd hf
      refine G_callS (As := [vi (x1 >>> (9 &&& 31)), vi (1 + v34)]) X (fL_low_ok E I (x1 >>> (9 &&& 31)) (1 + v34) v35 hk35) cb_L_59 st_L_low rfl rfl (Nat.le_of_ble_eq_true rfl) (by decide) (by decide) rfl (Nat.le_refl _) (Nat.le_refl _) dL_acts_207 ?_
      show G E κ _ _ _ [some (vr 0), some (vi x1), some (vi x2), some (vi x3)] [vi v35, vi x3, vr 0] (mm I)
      refine G_iload_n (x := x1) X dL_acts_210 rfl rfl ?_
      refine G_bipush (v := 7) X dL_acts_211 rfl ?_
      refine G_ishr X dL_acts_213 ?_
      refine G_iconst (v := 1) X dL_acts_214 rfl ?_
      refine G_iand X dL_acts_215 ?_
      obtain ⟨⟨v36, I36⟩, hk36, hf⟩ := obd hf
      try dsimp only at hf
      refine G_callV (As := [vi x3, vi v35, vi ((x1 >>> (7 &&& 31)) &&& 1)]) X (f5_set_ok E I x3 v35 ((x1 >>> (7 &&& 31)) &&& 1) v36 I36 hk36) cb_L_70 vi_X5_set (ci := 4) rfl rfl (show SH[0]? = some (_, 0) from rfl) rfl rfl (Nat.le_of_ble_eq_true rfl) (by decide) (by decide) rfl (Nat.le_refl _) (Nat.le_refl _) dL_acts_216 ?_
      show G E κ _ _ _ [some (vr 0), some (vi x1), some (vi x2), some (vi x3)] [vi v36] (mm I36)
      obtain ⟨rfl, rfl⟩ := Prod.mk.inj (Option.some.inj hf)
      exact G_iret X hR rfl rfl dL_acts_219
  have hf := (if_neg hc29).symm.trans hf
  by_cases hc37 : v4 = 6
  · have hf := (if_pos hc37).symm.trans hf
    refine G_tableJ (tgt := 184) X 6 dL_acts_36 hc37 (by decide) (by decide) rfl (by decide) ?_
    refine G_aload_n (x := some (0)) X dL_acts_184 rfl rfl ?_
    refine G_iload_n (x := x3) X dL_acts_185 rfl rfl ?_
    refine G_iload_n (x := x1) X dL_acts_186 rfl rfl ?_
    refine G_bipush (v := 9) X dL_acts_187 rfl ?_
    refine G_ishr X dL_acts_189 ?_
    refine G_iconst (v := 1) X dL_acts_190 rfl ?_
    refine G_aload_n (x := some (0)) X dL_acts_191 rfl rfl ?_
    refine G_iload_n (x := x3) X dL_acts_192 rfl rfl ?_
    refine G_iload_n (x := x2) X dL_acts_193 rfl rfl ?_
    refine G_icmp_ge (tgt := 201) X dL_acts_194 (by decide) (fun hc38 => ?_) (fun hc38 => ?_)
    · have hf := (if_pos hc38).symm.trans hf
      refine G_iconst (v := 0) X dL_acts_201 rfl ?_
      refine G_iconst (v := 0) X dL_acts_202 rfl ?_
      obtain ⟨v39, hk39, hf⟩ := obd hf
      refine G_callV (As := [vi 0, vi 0]) X (f5_row_ok E I 0 0 v39 hk39) cb_L_18 vi_X5_row (ci := 4) rfl rfl (show SH[0]? = some (_, 0) from rfl) rfl rfl (Nat.le_of_ble_eq_true rfl) (by decide) (by decide) rfl (Nat.le_refl _) (Nat.le_refl _) dL_acts_203 ?_
      show G E κ _ _ _ [some (vr 0), some (vi x1), some (vi x2), some (vi x3)] [vi v39, vi 1, vi (x1 >>> (9 &&& 31)), vi x3, vr 0] (mm I)
      refine G_iadd X dL_acts_206 ?_
      obtain ⟨v40, hk40, hf⟩ := obd hf
      refine G_callS (As := [vi (x1 >>> (9 &&& 31)), vi (1 + v39)]) X (fL_low_ok E I (x1 >>> (9 &&& 31)) (1 + v39) v40 hk40) cb_L_59 st_L_low rfl rfl (Nat.le_of_ble_eq_true rfl) (by decide) (by decide) rfl (Nat.le_refl _) (Nat.le_refl _) dL_acts_207 ?_
      show G E κ _ _ _ [some (vr 0), some (vi x1), some (vi x2), some (vi x3)] [vi v40, vi x3, vr 0] (mm I)
      refine G_iload_n (x := x1) X dL_acts_210 rfl rfl ?_
      refine G_bipush (v := 7) X dL_acts_211 rfl ?_
      refine G_ishr X dL_acts_213 ?_
      refine G_iconst (v := 1) X dL_acts_214 rfl ?_
      refine G_iand X dL_acts_215 ?_
      obtain ⟨⟨v41, I41⟩, hk41, hf⟩ := obd hf
      try dsimp only at hf
      refine G_callV (As := [vi x3, vi v40, vi ((x1 >>> (7 &&& 31)) &&& 1)]) X (f5_set_ok E I x3 v40 ((x1 >>> (7 &&& 31)) &&& 1) v41 I41 hk41) cb_L_70 vi_X5_set (ci := 4) rfl rfl (show SH[0]? = some (_, 0) from rfl) rfl rfl (Nat.le_of_ble_eq_true rfl) (by decide) (by decide) rfl (Nat.le_refl _) (Nat.le_refl _) dL_acts_216 ?_
      show G E κ _ _ _ [some (vr 0), some (vi x1), some (vi x2), some (vi x3)] [vi v41] (mm I41)
      obtain ⟨rfl, rfl⟩ := Prod.mk.inj (Option.some.inj hf)
      exact G_iret X hR rfl rfl dL_acts_219
    · have hf := (if_neg hc38).symm.trans hf
      refine G_iload_n (x := x3) X dL_acts_197 rfl rfl ?_
      refine G_goto (tgt := 202) X dL_acts_198 (by decide) ?_
      refine G_iconst (v := 0) X dL_acts_202 rfl ?_
      obtain ⟨v42, hk42, hf⟩ := obd hf
      refine G_callV (As := [vi x3, vi 0]) X (f5_row_ok E I x3 0 v42 hk42) cb_L_18 vi_X5_row (ci := 4) rfl rfl (show SH[0]? = some (_, 0) from rfl) rfl rfl (Nat.le_of_ble_eq_true rfl) (by decide) (by decide) rfl (Nat.le_refl _) (Nat.le_refl _) dL_acts_203 ?_
      show G E κ _ _ _ [some (vr 0), some (vi x1), some (vi x2), some (vi x3)] [vi v42, vi 1, vi (x1 >>> (9 &&& 31)), vi x3, vr 0] (mm I)
      refine G_iadd X dL_acts_206 ?_
      obtain ⟨v43, hk43, hf⟩ := obd hf
      refine G_callS (As := [vi (x1 >>> (9 &&& 31)), vi (1 + v42)]) X (fL_low_ok E I (x1 >>> (9 &&& 31)) (1 + v42) v43 hk43) cb_L_59 st_L_low rfl rfl (Nat.le_of_ble_eq_true rfl) (by decide) (by decide) rfl (Nat.le_refl _) (Nat.le_refl _) dL_acts_207 ?_
      show G E κ _ _ _ [some (vr 0), some (vi x1), some (vi x2), some (vi x3)] [vi v43, vi x3, vr 0] (mm I)
      refine G_iload_n (x := x1) X dL_acts_210 rfl rfl ?_
      refine G_bipush (v := 7) X dL_acts_211 rfl ?_
      refine G_ishr X dL_acts_213 ?_
      refine G_iconst (v := 1) X dL_acts_214 rfl ?_
      refine G_iand X dL_acts_215 ?_
      obtain ⟨⟨v44, I44⟩, hk44, hf⟩ := obd hf
      try dsimp only at hf
      refine G_callV (As := [vi x3, vi v43, vi ((x1 >>> (7 &&& 31)) &&& 1)]) X (f5_set_ok E I x3 v43 ((x1 >>> (7 &&& 31)) &&& 1) v44 I44 hk44) cb_L_70 vi_X5_set (ci := 4) rfl rfl (show SH[0]? = some (_, 0) from rfl) rfl rfl (Nat.le_of_ble_eq_true rfl) (by decide) (by decide) rfl (Nat.le_refl _) (Nat.le_refl _) dL_acts_216 ?_
      show G E κ _ _ _ [some (vr 0), some (vi x1), some (vi x2), some (vi x3)] [vi v44] (mm I44)
      obtain ⟨rfl, rfl⟩ := Prod.mk.inj (Option.some.inj hf)
      exact G_iret X hR rfl rfl dL_acts_219
  have hf := (if_neg hc37).symm.trans hf
  by_cases hc45 : v4 = 7
  · have hf := (if_pos hc45).symm.trans hf
    refine G_tableJ (tgt := 220) X 7 dL_acts_36 hc45 (by decide) (by decide) rfl (by decide) ?_
    refine G_aload_n (x := some (0)) X dL_acts_220 rfl rfl ?_
    refine G_iload_n (x := x3) X dL_acts_221 rfl rfl ?_
    refine G_iload_n (x := x1) X dL_acts_222 rfl rfl ?_
    refine G_bipush (v := 9) X dL_acts_223 rfl ?_
    refine G_ishr X dL_acts_225 ?_
    refine G_sipush (v := 610) X dL_acts_226 rfl ?_
    obtain ⟨v46, hk46, hf⟩ := obd hf
    refine G_callS (As := [vi (x1 >>> (9 &&& 31)), vi 610]) X (fL_low_ok E I (x1 >>> (9 &&& 31)) 610 v46 hk46) cb_L_59 st_L_low rfl rfl (Nat.le_of_ble_eq_true rfl) (by decide) (by decide) rfl (Nat.le_refl _) (Nat.le_refl _) dL_acts_229 ?_
    show G E κ _ _ _ [some (vr 0), some (vi x1), some (vi x2), some (vi x3)] [vi v46, vi x3, vr 0] (mm I)
    obtain ⟨⟨v47, I47⟩, hk47, hf⟩ := obd hf
    try dsimp only at hf
    refine G_callV (As := [vi x3, vi v46]) X (f5_resize_ok E I x3 v46 v47 I47 hk47) cb_L_73 vi_X5_resize (ci := 4) rfl rfl (show SH[0]? = some (_, 0) from rfl) rfl rfl (Nat.le_of_ble_eq_true rfl) (by decide) (by decide) rfl (Nat.le_refl _) (Nat.le_refl _) dL_acts_232 ?_
    show G E κ _ _ _ [some (vr 0), some (vi x1), some (vi x2), some (vi x3)] [vi v47] (mm I47)
    obtain ⟨rfl, rfl⟩ := Prod.mk.inj (Option.some.inj hf)
    exact G_iret X hR rfl rfl dL_acts_235
  have hf := (if_neg hc45).symm.trans hf
  by_cases hc48 : v4 = 8
  · have hf := (if_pos hc48).symm.trans hf
    refine G_tableJ (tgt := 236) X 8 dL_acts_36 hc48 (by decide) (by decide) rfl (by decide) ?_
    refine G_aload_n (x := some (0)) X dL_acts_236 rfl rfl ?_
    refine G_iload_n (x := x3) X dL_acts_237 rfl rfl ?_
    refine G_iload_n (x := x1) X dL_acts_238 rfl rfl ?_
    refine G_bipush (v := 9) X dL_acts_239 rfl ?_
    refine G_ishr X dL_acts_241 ?_
    refine G_iconst (v := 4) X dL_acts_242 rfl ?_
    obtain ⟨v49, hk49, hf⟩ := obd hf
    refine G_callS (As := [vi (x1 >>> (9 &&& 31)), vi 4]) X (fL_low_ok E I (x1 >>> (9 &&& 31)) 4 v49 hk49) cb_L_59 st_L_low rfl rfl (Nat.le_of_ble_eq_true rfl) (by decide) (by decide) rfl (Nat.le_refl _) (Nat.le_refl _) dL_acts_243 ?_
    show G E κ _ _ _ [some (vr 0), some (vi x1), some (vi x2), some (vi x3)] [vi v49, vi x3, vr 0] (mm I)
    refine G_iload_n (x := x1) X dL_acts_246 rfl rfl ?_
    refine G_bipush (v := 11) X dL_acts_247 rfl ?_
    refine G_ishr X dL_acts_249 ?_
    refine G_iload_n (x := x2) X dL_acts_250 rfl rfl ?_
    obtain ⟨v50, hk50, hf⟩ := obd hf
    refine G_callS (As := [vi (x1 >>> (11 &&& 31)), vi x2]) X (fL_low_ok E I (x1 >>> (11 &&& 31)) x2 v50 hk50) cb_L_59 st_L_low rfl rfl (Nat.le_of_ble_eq_true rfl) (by decide) (by decide) rfl (Nat.le_refl _) (Nat.le_refl _) dL_acts_251 ?_
    show G E κ _ _ _ [some (vr 0), some (vi x1), some (vi x2), some (vi x3)] [vi v50, vi v49, vi x3, vr 0] (mm I)
    refine G_iload_n (x := x1) X dL_acts_254 rfl rfl ?_
    refine G_bipush (v := 14) X dL_acts_255 rfl ?_
    refine G_ishr X dL_acts_257 ?_
    refine G_iload_n (x := x2) X dL_acts_258 rfl rfl ?_
    obtain ⟨v51, hk51, hf⟩ := obd hf
    refine G_callS (As := [vi (x1 >>> (14 &&& 31)), vi x2]) X (fL_low_ok E I (x1 >>> (14 &&& 31)) x2 v51 hk51) cb_L_59 st_L_low rfl rfl (Nat.le_of_ble_eq_true rfl) (by decide) (by decide) rfl (Nat.le_refl _) (Nat.le_refl _) dL_acts_259 ?_
    show G E κ _ _ _ [some (vr 0), some (vi x1), some (vi x2), some (vi x3)] [vi v51, vi v50, vi v49, vi x3, vr 0] (mm I)
    obtain ⟨⟨v52, I52⟩, hk52, hf⟩ := obd hf
    try dsimp only at hf
    refine G_callV (As := [vi x3, vi v49, vi v50, vi v51]) X (f5_operate_ok E I x3 v49 v50 v51 v52 I52 hk52) cb_L_76 vi_X5_operate (ci := 4) rfl rfl (show SH[0]? = some (_, 0) from rfl) rfl rfl (Nat.le_of_ble_eq_true rfl) (by decide) (by decide) rfl (Nat.le_refl _) (Nat.le_refl _) dL_acts_262 ?_
    show G E κ _ _ _ [some (vr 0), some (vi x1), some (vi x2), some (vi x3)] [vi v52] (mm I52)
    obtain ⟨rfl, rfl⟩ := Prod.mk.inj (Option.some.inj hf)
    exact G_iret X hR rfl rfl dL_acts_265
  have hf := (if_neg hc48).symm.trans hf
  by_cases hc53 : v4 = 9
  · have hf := (if_pos hc53).symm.trans hf
    refine G_tableJ (tgt := 236) X 9 dL_acts_36 hc53 (by decide) (by decide) rfl (by decide) ?_
    refine G_aload_n (x := some (0)) X dL_acts_236 rfl rfl ?_
    refine G_iload_n (x := x3) X dL_acts_237 rfl rfl ?_
    refine G_iload_n (x := x1) X dL_acts_238 rfl rfl ?_
    refine G_bipush (v := 9) X dL_acts_239 rfl ?_
    refine G_ishr X dL_acts_241 ?_
    refine G_iconst (v := 4) X dL_acts_242 rfl ?_
    obtain ⟨v54, hk54, hf⟩ := obd hf
    refine G_callS (As := [vi (x1 >>> (9 &&& 31)), vi 4]) X (fL_low_ok E I (x1 >>> (9 &&& 31)) 4 v54 hk54) cb_L_59 st_L_low rfl rfl (Nat.le_of_ble_eq_true rfl) (by decide) (by decide) rfl (Nat.le_refl _) (Nat.le_refl _) dL_acts_243 ?_
    show G E κ _ _ _ [some (vr 0), some (vi x1), some (vi x2), some (vi x3)] [vi v54, vi x3, vr 0] (mm I)
    refine G_iload_n (x := x1) X dL_acts_246 rfl rfl ?_
    refine G_bipush (v := 11) X dL_acts_247 rfl ?_
    refine G_ishr X dL_acts_249 ?_
    refine G_iload_n (x := x2) X dL_acts_250 rfl rfl ?_
    obtain ⟨v55, hk55, hf⟩ := obd hf
    refine G_callS (As := [vi (x1 >>> (11 &&& 31)), vi x2]) X (fL_low_ok E I (x1 >>> (11 &&& 31)) x2 v55 hk55) cb_L_59 st_L_low rfl rfl (Nat.le_of_ble_eq_true rfl) (by decide) (by decide) rfl (Nat.le_refl _) (Nat.le_refl _) dL_acts_251 ?_
    show G E κ _ _ _ [some (vr 0), some (vi x1), some (vi x2), some (vi x3)] [vi v55, vi v54, vi x3, vr 0] (mm I)
    refine G_iload_n (x := x1) X dL_acts_254 rfl rfl ?_
    refine G_bipush (v := 14) X dL_acts_255 rfl ?_
    refine G_ishr X dL_acts_257 ?_
    refine G_iload_n (x := x2) X dL_acts_258 rfl rfl ?_
    obtain ⟨v56, hk56, hf⟩ := obd hf
    refine G_callS (As := [vi (x1 >>> (14 &&& 31)), vi x2]) X (fL_low_ok E I (x1 >>> (14 &&& 31)) x2 v56 hk56) cb_L_59 st_L_low rfl rfl (Nat.le_of_ble_eq_true rfl) (by decide) (by decide) rfl (Nat.le_refl _) (Nat.le_refl _) dL_acts_259 ?_
    show G E κ _ _ _ [some (vr 0), some (vi x1), some (vi x2), some (vi x3)] [vi v56, vi v55, vi v54, vi x3, vr 0] (mm I)
    obtain ⟨⟨v57, I57⟩, hk57, hf⟩ := obd hf
    try dsimp only at hf
    refine G_callV (As := [vi x3, vi v54, vi v55, vi v56]) X (f5_operate_ok E I x3 v54 v55 v56 v57 I57 hk57) cb_L_76 vi_X5_operate (ci := 4) rfl rfl (show SH[0]? = some (_, 0) from rfl) rfl rfl (Nat.le_of_ble_eq_true rfl) (by decide) (by decide) rfl (Nat.le_refl _) (Nat.le_refl _) dL_acts_262 ?_
    show G E κ _ _ _ [some (vr 0), some (vi x1), some (vi x2), some (vi x3)] [vi v57] (mm I57)
    obtain ⟨rfl, rfl⟩ := Prod.mk.inj (Option.some.inj hf)
    exact G_iret X hR rfl rfl dL_acts_265
  have hf := (if_neg hc53).symm.trans hf
  by_cases hc58 : v4 = 10
  · have hf := (if_pos hc58).symm.trans hf
    refine G_tableJ (tgt := 236) X 10 dL_acts_36 hc58 (by decide) (by decide) rfl (by decide) ?_
    refine G_aload_n (x := some (0)) X dL_acts_236 rfl rfl ?_
    refine G_iload_n (x := x3) X dL_acts_237 rfl rfl ?_
    refine G_iload_n (x := x1) X dL_acts_238 rfl rfl ?_
    refine G_bipush (v := 9) X dL_acts_239 rfl ?_
    refine G_ishr X dL_acts_241 ?_
    refine G_iconst (v := 4) X dL_acts_242 rfl ?_
    obtain ⟨v59, hk59, hf⟩ := obd hf
    refine G_callS (As := [vi (x1 >>> (9 &&& 31)), vi 4]) X (fL_low_ok E I (x1 >>> (9 &&& 31)) 4 v59 hk59) cb_L_59 st_L_low rfl rfl (Nat.le_of_ble_eq_true rfl) (by decide) (by decide) rfl (Nat.le_refl _) (Nat.le_refl _) dL_acts_243 ?_
    show G E κ _ _ _ [some (vr 0), some (vi x1), some (vi x2), some (vi x3)] [vi v59, vi x3, vr 0] (mm I)
    refine G_iload_n (x := x1) X dL_acts_246 rfl rfl ?_
    refine G_bipush (v := 11) X dL_acts_247 rfl ?_
    refine G_ishr X dL_acts_249 ?_
    refine G_iload_n (x := x2) X dL_acts_250 rfl rfl ?_
    obtain ⟨v60, hk60, hf⟩ := obd hf
    refine G_callS (As := [vi (x1 >>> (11 &&& 31)), vi x2]) X (fL_low_ok E I (x1 >>> (11 &&& 31)) x2 v60 hk60) cb_L_59 st_L_low rfl rfl (Nat.le_of_ble_eq_true rfl) (by decide) (by decide) rfl (Nat.le_refl _) (Nat.le_refl _) dL_acts_251 ?_
    show G E κ _ _ _ [some (vr 0), some (vi x1), some (vi x2), some (vi x3)] [vi v60, vi v59, vi x3, vr 0] (mm I)
    refine G_iload_n (x := x1) X dL_acts_254 rfl rfl ?_
    refine G_bipush (v := 14) X dL_acts_255 rfl ?_
    refine G_ishr X dL_acts_257 ?_
    refine G_iload_n (x := x2) X dL_acts_258 rfl rfl ?_
    obtain ⟨v61, hk61, hf⟩ := obd hf
    refine G_callS (As := [vi (x1 >>> (14 &&& 31)), vi x2]) X (fL_low_ok E I (x1 >>> (14 &&& 31)) x2 v61 hk61) cb_L_59 st_L_low rfl rfl (Nat.le_of_ble_eq_true rfl) (by decide) (by decide) rfl (Nat.le_refl _) (Nat.le_refl _) dL_acts_259 ?_
    show G E κ _ _ _ [some (vr 0), some (vi x1), some (vi x2), some (vi x3)] [vi v61, vi v60, vi v59, vi x3, vr 0] (mm I)
    obtain ⟨⟨v62, I62⟩, hk62, hf⟩ := obd hf
    try dsimp only at hf
    refine G_callV (As := [vi x3, vi v59, vi v60, vi v61]) X (f5_operate_ok E I x3 v59 v60 v61 v62 I62 hk62) cb_L_76 vi_X5_operate (ci := 4) rfl rfl (show SH[0]? = some (_, 0) from rfl) rfl rfl (Nat.le_of_ble_eq_true rfl) (by decide) (by decide) rfl (Nat.le_refl _) (Nat.le_refl _) dL_acts_262 ?_
    show G E κ _ _ _ [some (vr 0), some (vi x1), some (vi x2), some (vi x3)] [vi v62] (mm I62)
    obtain ⟨rfl, rfl⟩ := Prod.mk.inj (Option.some.inj hf)
    exact G_iret X hR rfl rfl dL_acts_265
  have hf := (if_neg hc58).symm.trans hf
  by_cases hc63 : v4 = 11
  · have hf := (if_pos hc63).symm.trans hf
    refine G_tableJ (tgt := 266) X 11 dL_acts_36 hc63 (by decide) (by decide) rfl (by decide) ?_
    refine G_aload_n (x := some (0)) X dL_acts_266 rfl rfl ?_
    refine G_iload_n (x := x3) X dL_acts_267 rfl rfl ?_
    obtain ⟨⟨v64, I64⟩, hk64, hf⟩ := obd hf
    try dsimp only at hf
    refine G_callV (As := [vi x3]) X (f5_not_ok E I x3 v64 I64 hk64) cb_L_79 vi_X5_not (ci := 4) rfl rfl (show SH[0]? = some (_, 0) from rfl) rfl rfl (Nat.le_of_ble_eq_true rfl) (by decide) (by decide) rfl (Nat.le_refl _) (Nat.le_refl _) dL_acts_268 ?_
    show G E κ _ _ _ [some (vr 0), some (vi x1), some (vi x2), some (vi x3)] [vi v64] (mm I64)
    obtain ⟨rfl, rfl⟩ := Prod.mk.inj (Option.some.inj hf)
    exact G_iret X hR rfl rfl dL_acts_271
  have hf := (if_neg hc63).symm.trans hf
  by_cases hc65 : v4 = 12
  · have hf := (if_pos hc65).symm.trans hf
    refine G_tableJ (tgt := 272) X 12 dL_acts_36 hc65 (by decide) (by decide) rfl (by decide) ?_
    refine G_aload_n (x := some (0)) X dL_acts_272 rfl rfl ?_
    refine G_iload_n (x := x3) X dL_acts_273 rfl rfl ?_
    refine G_iload_n (x := x1) X dL_acts_274 rfl rfl ?_
    refine G_bipush (v := 9) X dL_acts_275 rfl ?_
    refine G_ishr X dL_acts_277 ?_
    refine G_sipush (v := 1210) X dL_acts_278 rfl ?_
    obtain ⟨v66, hk66, hf⟩ := obd hf
    refine G_callS (As := [vi (x1 >>> (9 &&& 31)), vi 1210]) X (fL_low_ok E I (x1 >>> (9 &&& 31)) 1210 v66 hk66) cb_L_59 st_L_low rfl rfl (Nat.le_of_ble_eq_true rfl) (by decide) (by decide) rfl (Nat.le_refl _) (Nat.le_refl _) dL_acts_281 ?_
    show G E κ _ _ _ [some (vr 0), some (vi x1), some (vi x2), some (vi x3)] [vi v66, vi x3, vr 0] (mm I)
    refine G_sipush (v := 605) X dL_acts_284 rfl ?_
    refine G_isub X dL_acts_287 ?_
    obtain ⟨⟨v67, I67⟩, hk67, hf⟩ := obd hf
    try dsimp only at hf
    refine G_callV (As := [vi x3, vi (v66 - 605)]) X (f5_shift_ok E I x3 (v66 - 605) v67 I67 hk67) cb_L_52 vi_X5_shift (ci := 4) rfl rfl (show SH[0]? = some (_, 0) from rfl) rfl rfl (Nat.le_of_ble_eq_true rfl) (by decide) (by decide) rfl (Nat.le_refl _) (Nat.le_refl _) dL_acts_288 ?_
    show G E κ _ _ _ [some (vr 0), some (vi x1), some (vi x2), some (vi x3)] [vi v67] (mm I67)
    obtain ⟨rfl, rfl⟩ := Prod.mk.inj (Option.some.inj hf)
    exact G_iret X hR rfl rfl dL_acts_291
  have hf := (if_neg hc65).symm.trans hf
  by_cases hc68 : v4 = 13
  · have hf := (if_pos hc68).symm.trans hf
    refine G_tableJ (tgt := 272) X 13 dL_acts_36 hc68 (by decide) (by decide) rfl (by decide) ?_
    refine G_aload_n (x := some (0)) X dL_acts_272 rfl rfl ?_
    refine G_iload_n (x := x3) X dL_acts_273 rfl rfl ?_
    refine G_iload_n (x := x1) X dL_acts_274 rfl rfl ?_
    refine G_bipush (v := 9) X dL_acts_275 rfl ?_
    refine G_ishr X dL_acts_277 ?_
    refine G_sipush (v := 1210) X dL_acts_278 rfl ?_
    obtain ⟨v69, hk69, hf⟩ := obd hf
    refine G_callS (As := [vi (x1 >>> (9 &&& 31)), vi 1210]) X (fL_low_ok E I (x1 >>> (9 &&& 31)) 1210 v69 hk69) cb_L_59 st_L_low rfl rfl (Nat.le_of_ble_eq_true rfl) (by decide) (by decide) rfl (Nat.le_refl _) (Nat.le_refl _) dL_acts_281 ?_
    show G E κ _ _ _ [some (vr 0), some (vi x1), some (vi x2), some (vi x3)] [vi v69, vi x3, vr 0] (mm I)
    refine G_sipush (v := 605) X dL_acts_284 rfl ?_
    refine G_isub X dL_acts_287 ?_
    obtain ⟨⟨v70, I70⟩, hk70, hf⟩ := obd hf
    try dsimp only at hf
    refine G_callV (As := [vi x3, vi (v69 - 605)]) X (f5_shift_ok E I x3 (v69 - 605) v70 I70 hk70) cb_L_52 vi_X5_shift (ci := 4) rfl rfl (show SH[0]? = some (_, 0) from rfl) rfl rfl (Nat.le_of_ble_eq_true rfl) (by decide) (by decide) rfl (Nat.le_refl _) (Nat.le_refl _) dL_acts_288 ?_
    show G E κ _ _ _ [some (vr 0), some (vi x1), some (vi x2), some (vi x3)] [vi v70] (mm I70)
    obtain ⟨rfl, rfl⟩ := Prod.mk.inj (Option.some.inj hf)
    exact G_iret X hR rfl rfl dL_acts_291
  have hf := (if_neg hc68).symm.trans hf
  by_cases hc71 : v4 = 14
  · have hf := (if_pos hc71).symm.trans hf
    refine G_tableJ (tgt := 292) X 14 dL_acts_36 hc71 (by decide) (by decide) rfl (by decide) ?_
    refine G_aload_n (x := some (0)) X dL_acts_292 rfl rfl ?_
    refine G_iload_n (x := x3) X dL_acts_293 rfl rfl ?_
    obtain ⟨⟨v72, I72⟩, hk72, hf⟩ := obd hf
    try dsimp only at hf
    refine G_callV (As := [vi x3]) X (f5_evaluate_ok E I x3 v72 I72 hk72) cb_L_82 vi_X5_evaluate (ci := 4) rfl rfl (show SH[0]? = some (_, 0) from rfl) rfl rfl (Nat.le_of_ble_eq_true rfl) (by decide) (by decide) rfl (Nat.le_refl _) (Nat.le_refl _) dL_acts_294 ?_
    show G E κ _ _ _ [some (vr 0), some (vi x1), some (vi x2), some (vi x3)] [vi v72] (mm I72)
    obtain ⟨rfl, rfl⟩ := Prod.mk.inj (Option.some.inj hf)
    exact G_iret X hR rfl rfl dL_acts_297
  have hf := (if_neg hc71).symm.trans hf
  refine G_tableD (tgt := 298) X 15 dL_acts_36 (by decide) (lt_s (lt_s (lt_s (lt_s (lt_s (lt_s (lt_s (lt_s (lt_s (lt_s (lt_s (lt_s (lt_s (lt_s (lt_s lt_0 hc5) hc11) hc17) hc23) hc26) hc29) hc37) hc45) hc48) hc53) hc58) hc63) hc65) hc68) hc71) (by decide) ?_
  refine G_aload_n (x := some (0)) X dL_acts_298 rfl rfl ?_
  obtain ⟨⟨v73, I73⟩, hk73, hf⟩ := obd hf
  try dsimp only at hf
  refine G_callV (As := []) X (f5_make_ok E I v73 I73 hk73) cb_L_85 vi_X5_make (ci := 4) rfl rfl (show SH[0]? = some (_, 0) from rfl) rfl rfl (Nat.le_of_ble_eq_true rfl) (by decide) (by decide) rfl (Nat.le_refl _) (Nat.le_refl _) dL_acts_299 ?_
  show G E κ _ _ _ [some (vr 0), some (vi x1), some (vi x2), some (vi x3)] [vi v73] (mm I73)
  obtain ⟨rfl, rfl⟩ := Prod.mk.inj (Option.some.inj hf)
  exact G_iret X hR rfl rfl dL_acts_302

def fL_acts (I : gI) (a1 : Int32) : Option (Int32 × gI) := (f5_count I 0).bind fun v1 => (if ((a1 >>> (26 &&& 31)) &&& 7) = 0 then (fL_low (a1 >>> (4 &&& 31)) (v1 + 1)).bind fun v74 => fL_acts_J30 I a1 v1 v74 else (fL_low (a1 >>> (4 &&& 31)) v1).bind fun v3 => fL_acts_J30 I a1 v1 v3)
set_option maxRecDepth 100000 in
set_option maxHeartbeats 4000000 in
theorem fL_acts_ok (E : gEnv) (I : gI) (a1 : Int32) (r : Int32) (I' : gI) (hf : fL_acts I a1 = some (r, I')) : Ctr E yL_acts cL_acts 4 (some .int) 97 0 0 [vr 0, vi a1] (mm I) (some (vi r)) (mm I') := by
  refine Ctr.mk (by decide +kernel) rfl (Nat.le_of_ble_eq_true rfl) fun κ X hR _ => ?_
  have X : Cx E κ cL_acts 4 RL (some .int) 97 0 0 := X
  show G E κ 0 0 0 [some (vr 0), some (vi a1), none, none] [] (mm I)
  unfold fL_acts at hf
  refine G_aload_n (x := some (0)) X dL_acts_0 rfl rfl ?_
  refine G_iconst (v := 0) X dL_acts_1 rfl ?_
  obtain ⟨v1, hk1, hf⟩ := obd hf
  refine G_callV (As := [vi 0]) X (f5_count_ok E I 0 v1 hk1) cb_L_12 vi_X5_count (ci := 4) rfl rfl (show SH[0]? = some (_, 0) from rfl) rfl rfl (Nat.le_of_ble_eq_true rfl) (by decide) (by decide) rfl (Nat.le_refl _) (Nat.le_refl _) dL_acts_2 ?_
  show G E κ _ _ _ [some (vr 0), some (vi a1), none, none] [vi v1] (mm I)
  refine G_istore_n X dL_acts_5 rfl rfl (ls' := [some (vr 0), some (vi a1), some (vi v1), none]) rfl ?_
  refine G_iload_n (x := a1) X dL_acts_6 rfl rfl ?_
  refine G_iconst (v := 4) X dL_acts_7 rfl ?_
  refine G_ishr X dL_acts_8 ?_
  refine G_iload_n (x := a1) X dL_acts_9 rfl rfl ?_
  refine G_bipush (v := 26) X dL_acts_10 rfl ?_
  refine G_ishr X dL_acts_12 ?_
  refine G_bipush (v := 7) X dL_acts_13 rfl ?_
  refine G_iand X dL_acts_15 ?_
  refine G_if_ne (tgt := 25) X dL_acts_16 (by decide) (fun hc2 => ?_) (fun hc2 => ?_)
  · have hf := (if_neg hc2).symm.trans hf
    refine G_iload_n (x := v1) X dL_acts_25 rfl rfl ?_
    obtain ⟨v3, hk3, hf⟩ := obd hf
    refine G_callS (As := [vi (a1 >>> (4 &&& 31)), vi v1]) X (fL_low_ok E I (a1 >>> (4 &&& 31)) v1 v3 hk3) cb_L_59 st_L_low rfl rfl (Nat.le_of_ble_eq_true rfl) (by decide) (by decide) rfl (Nat.le_refl _) (Nat.le_refl _) dL_acts_26 ?_
    show G E κ _ _ _ [some (vr 0), some (vi a1), some (vi v1), none] [vi v3] (mm I)
    refine G_istore_n X dL_acts_29 rfl rfl (ls' := [some (vr 0), some (vi a1), some (vi v1), some (vi v3)]) rfl ?_
    exact fL_acts_J30_ok X I a1 v1 v3 _ _ hR hf
  · have hf := (if_pos hc2).symm.trans hf
    refine G_iload_n (x := v1) X dL_acts_19 rfl rfl ?_
    refine G_iconst (v := 1) X dL_acts_20 rfl ?_
    refine G_iadd X dL_acts_21 ?_
    refine G_goto (tgt := 26) X dL_acts_22 (by decide) ?_
    obtain ⟨v74, hk74, hf⟩ := obd hf
    refine G_callS (As := [vi (a1 >>> (4 &&& 31)), vi (v1 + 1)]) X (fL_low_ok E I (a1 >>> (4 &&& 31)) (v1 + 1) v74 hk74) cb_L_59 st_L_low rfl rfl (Nat.le_of_ble_eq_true rfl) (by decide) (by decide) rfl (Nat.le_refl _) (Nat.le_refl _) dL_acts_26 ?_
    show G E κ _ _ _ [some (vr 0), some (vi a1), some (vi v1), none] [vi v74] (mm I)
    refine G_istore_n X dL_acts_29 rfl rfl (ls' := [some (vr 0), some (vi a1), some (vi v1), some (vi v74)]) rfl ?_
    exact fL_acts_J30_ok X I a1 v1 v74 _ _ hR hf

