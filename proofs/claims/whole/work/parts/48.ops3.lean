/-! the calls that only look, and the text -/
theorem op_failure {I : gI} {A : Snap} {H : List Snap} (h : Rel I A H) (x : Int32) : f5_failure I x = f6_failure I x := by
  obtain ⟨_, e1, e2, e3⟩ := h.2.2
  unfold f5_failure f6_failure
  rw [e1, e2, e3, f6_in_eq]
theorem OK0_ite {p : Prop} [Decidable p] {a b c d : Option Int32} (h1 : OK0 a c) (h2 : OK0 b d) : OK0 (if p then a else b) (if p then c else d) := by
  split <;> assumption
theorem op_count {I : gI} {A : Snap} {H : List Snap} (h : Rel I A H) (x : Int32) : OK0 (f5_count I x) (f6_count I x) := by
  obtain ⟨hc, hm, ⟨t, t1, t2, t3, t4⟩, -⟩ := id h
  have h8 := hc.n8
  have e := f6_count_L_n (x := x) h8 hm.n (fun q hq => hm.rows hq) FU 0 0 0 0 (by omega) (by unfold FU; omega)
  have s0 := f5_sum_L_n (p := 0) h8 hc.n (fun q hq => hc.rows hq) (by omega) FU 0 0 (by omega) (by unfold FU; omega)
  have s1 := f5_sum_L_n (p := 1) h8 hc.n (fun q hq => hc.rows hq) (by omega) FU 0 0 (by omega) (by unfold FU; omega)
  have s5 := f5_sum_L_n (p := 5) h8 hc.n (fun q hq => hc.rows hq) (by omega) FU 0 0 (by omega) (by unfold FU; omega)
  unfold f5_count f6_count f5_sum
  rw [k0] at e ⊢
  rw [k5] at e ⊢
  rw [k1] at e ⊢
  rw [e, s0, s1, s5, hc.hl, hm.hl, t2, t3, hc.n]
  simp only [Option.bind_some]
  exact OK0_ite ⟨_, rfl, rfl⟩ (OK0_ite ⟨_, rfl, rfl⟩ (OK0_ite ⟨_, rfl, rfl⟩ (OK0_ite ⟨_, rfl, rfl⟩ (OK0_ite ⟨_, rfl, rfl⟩ (OK0_ite ⟨_, rfl, rfl⟩ ⟨_, rfl, rfl⟩)))))
theorem op_word {I : gI} {A : Snap} {H : List Snap} (h : Rel I A H) (x y : Int32) : OK0 (f5_word I x y) (f6_word I x y) := by
  obtain ⟨hc, hm, ht⟩ := id h
  by_cases h1 : f5_isWithin x 0 (nI A.1 - 1) = true
  case neg => exact ⟨-1, by simp only [f5_word, f5_isRow_n hc, f6_isRow_n hm, f5_isBit, f5_isOperation, f6_in_eq, Option.bind_some, if_true, if_false, eq_self, Bool.false_eq_true, h1], by simp only [f6_word, f5_isRow_n hc, f6_isRow_n hm, f5_isBit, f5_isOperation, f6_in_eq, Option.bind_some, if_true, if_false, eq_self, Bool.false_eq_true, h1]⟩
  by_cases h2 : 0 ≤ y
  case neg => exact ⟨-1, by simp only [f5_word, f5_isRow_n hc, f6_isRow_n hm, f5_isBit, f5_isOperation, f6_in_eq, Option.bind_some, if_true, if_false, eq_self, Bool.false_eq_true, h1, h2], by simp only [f6_word, f5_isRow_n hc, f6_isRow_n hm, f5_isBit, f5_isOperation, f6_in_eq, Option.bind_some, if_true, if_false, eq_self, Bool.false_eq_true, h1, h2]⟩
  obtain ⟨q, hqn, rfl⟩ := isW_row hc.n8 h1
  have hq : q < 8 := by have := hc.n8; omega
  have hi := ib_q hq
  have hl := cl_q hq
  obtain ⟨i, hi2, rfl⟩ := nonneg h2
  have a1 := f4_codeOf_n (hc.rows hq) hi2
  have b1 := f6_word_L_n hq (hm.rows hq) FU i 0 (by omega) (by have := ng_le (hm.rows hq).1; unfold FU; omega) hi2
  refine ⟨cdo (A.2 q) ((WS (A.2 q) 0)[i]?), ?_, ?_⟩
  · unfold f5_word
    rw [f5_isRow_n hc, if_pos h1, if_pos h2, if_pos hi, hl, a1]
    rfl
  · unfold f6_word
    rw [f6_isRow_n hm]
    simp only [Option.bind_some]
    rw [if_pos h1, if_pos h2, k0]
    exact b1
theorem op_bit {I : gI} {A : Snap} {H : List Snap} (h : Rel I A H) (x y : Int32) : OK0 (f5_bit I x y) (f6_bit I x y) := by
  obtain ⟨hc, hm, ht⟩ := id h
  by_cases h1 : f5_isWithin x 0 (nI A.1 - 1) = true
  case neg =>
    have hp := fun a b => f6_isPlace_b hm h1 a b
    exact ⟨-1, by simp only [f5_bit, f5_isRow_n hc, f6_isRow_n hm, f5_isBit, f5_isOperation, f6_in_eq, Option.bind_some, if_true, if_false, eq_self, Bool.false_eq_true, h1, hp], by simp only [f6_bit, f5_isRow_n hc, f6_isRow_n hm, f5_isBit, f5_isOperation, f6_in_eq, Option.bind_some, if_true, if_false, eq_self, Bool.false_eq_true, h1, hp]⟩
  obtain ⟨q, hqn, rfl⟩ := isW_row hc.n8 h1
  have hq : q < 8 := by have := hc.n8; omega
  have hi := ib_q hq
  have hl := cl_q hq
  have hp5 := f5_isPlace_n hc hq y
  have hp6 := f6_isPlace_0 hm hq h1 y
  by_cases h2 : f5_isWithin y 0 (nI (A.2 q).1 - 1) = true
  case neg => exact ⟨-1, by simp only [f5_bit, f5_isRow_n hc, f6_isRow_n hm, f5_isBit, f5_isOperation, f6_in_eq, Option.bind_some, if_true, if_false, eq_self, Bool.false_eq_true, h1, hp5, hp6, h2], by simp only [f6_bit, f5_isRow_n hc, f6_isRow_n hm, f5_isBit, f5_isOperation, f6_in_eq, Option.bind_some, if_true, if_false, eq_self, Bool.false_eq_true, h1, hp5, hp6, h2]⟩
  have l0 := (hc.rows hq).1.1
  obtain ⟨p, hp, rfl⟩ := isW_pl (by omega) h2
  have a1 := f0_valueAt_n (p := p) (hc.rows hq) (by omega)
  have b1 := f6_bitOf_n (k := p) (hm.rows hq) (by omega) (by omega)
  refine ⟨nI ((A.2 q).2 p).toNat, ?_, ?_⟩
  · unfold f5_bit
    rw [f5_isRow_n hc, if_pos h1, hp5]
    simp only [Option.bind_some]
    rw [if_pos h2, if_pos hi, hl, a1]
    rfl
  · unfold f6_bit
    rw [hp6]
    simp only [Option.bind_some]
    rw [if_pos h2, f6_at_n, b1]
    rfl
theorem op_rank {I : gI} {A : Snap} {H : List Snap} (h : Rel I A H) (x y : Int32) : OK0 (f5_rank I x y) (f6_rank_ I x y) := by
  obtain ⟨hc, hm, ht⟩ := id h
  by_cases h1 : f5_isWithin x 0 (nI A.1 - 1) = true
  case neg =>
    have hp := fun a b => f6_isPlace_b hm h1 a b
    exact ⟨-1, by simp only [f5_rank, f5_isRow_n hc, f6_isRow_n hm, f5_isBit, f5_isOperation, f6_in_eq, Option.bind_some, if_true, if_false, eq_self, Bool.false_eq_true, h1, hp], by simp only [f6_rank_, f5_isRow_n hc, f6_isRow_n hm, f5_isBit, f5_isOperation, f6_in_eq, Option.bind_some, if_true, if_false, eq_self, Bool.false_eq_true, h1, hp]⟩
  obtain ⟨q, hqn, rfl⟩ := isW_row hc.n8 h1
  have hq : q < 8 := by have := hc.n8; omega
  have hi := ib_q hq
  have hl := cl_q hq
  have l5 := (hc.rows hq).2.1
  have hp6 := f6_isPlace_1 hm hq h1 y
  by_cases h2 : f5_isWithin y 0 (nI (A.2 q).1) = true
  case neg => exact ⟨-1, by simp only [f5_rank, f5_isRow_n hc, f6_isRow_n hm, f5_isBit, f5_isOperation, f6_in_eq, Option.bind_some, if_true, if_false, eq_self, Bool.false_eq_true, h1, hi, hl, l5, hp6, h2], by simp only [f6_rank_, f5_isRow_n hc, f6_isRow_n hm, f5_isBit, f5_isOperation, f6_in_eq, Option.bind_some, if_true, if_false, eq_self, Bool.false_eq_true, h1, hi, hl, l5, hp6, h2]⟩
  have l0 := (hc.rows hq).1.1
  obtain ⟨p, hp1, hp, rfl⟩ := isW_n (m := 0) (by omega) (by omega) h2
  have a1 := f0_onesBefore_n (p := p) (hc.rows hq) (by omega)
  have b1 := f6_rank_L_n (p := p) hq (hm.rows hq) (by omega) FU 0 0 (by omega) (by unfold FU; omega)
  rw [Nat.zero_add, Nat.sub_zero] at b1
  refine ⟨nI (cnt (A.2 q).2 0 p), ?_, ?_⟩
  · unfold f5_rank
    rw [f5_isRow_n hc, if_pos h1, if_pos hi, hl, l5, if_pos h2, if_pos hi, a1]
    rfl
  · unfold f6_rank_
    rw [hp6]
    simp only [Option.bind_some]
    rw [if_pos h2, k0]
    exact b1
theorem op_select {I : gI} {A : Snap} {H : List Snap} (h : Rel I A H) (x y : Int32) : OK0 (f5_select I x y) (f6_select I x y) := by
  obtain ⟨hc, hm, ht⟩ := id h
  by_cases h1 : f5_isWithin x 0 (nI A.1 - 1) = true
  case neg => exact ⟨-1, by simp only [f5_select, f5_isRow_n hc, f6_isRow_n hm, f5_isBit, f5_isOperation, f6_in_eq, Option.bind_some, if_true, if_false, eq_self, Bool.false_eq_true, h1], by simp only [f6_select, f5_isRow_n hc, f6_isRow_n hm, f5_isBit, f5_isOperation, f6_in_eq, Option.bind_some, if_true, if_false, eq_self, Bool.false_eq_true, h1]⟩
  by_cases h2 : 0 ≤ y
  case neg =>
    have h3 : y < 0 := by
      rw [Int32.le_iff_toInt_le] at h2
      rw [Int32.lt_iff_toInt_lt]
      omega
    exact ⟨-1, by simp only [f5_select, f5_isRow_n hc, f6_isRow_n hm, f5_isBit, f5_isOperation, f6_in_eq, Option.bind_some, if_true, if_false, eq_self, Bool.false_eq_true, h1, h2, h3], by simp only [f6_select, f5_isRow_n hc, f6_isRow_n hm, f5_isBit, f5_isOperation, f6_in_eq, Option.bind_some, if_true, if_false, eq_self, Bool.false_eq_true, h1, h2, h3]⟩
  obtain ⟨q, hqn, rfl⟩ := isW_row hc.n8 h1
  have hq : q < 8 := by have := hc.n8; omega
  have hi := ib_q hq
  have hl := cl_q hq
  obtain ⟨i, hi2, rfl⟩ := nonneg h2
  have a1 := f0_placeOfOne_n (hc.rows hq) hi2
  have b1 := f6_placeOf_n (hm.rows hq) (by omega) hi2
  refine ⟨pl (selF (A.2 q).2 0 (A.2 q).1 i), ?_, ?_⟩
  · unfold f5_select
    rw [f5_isRow_n hc, if_pos h1, if_pos h2, if_pos hi, hl, a1]
    rfl
  · unfold f6_select
    rw [f6_isRow_n hm]
    simp only [Option.bind_some]
    rw [if_pos h1, if_neg (by rw [k0, xI_lt hi2 (by omega)]; omega), f6_at_n, b1]
    rfl
theorem op_same {I : gI} {A : Snap} {H : List Snap} (h : Rel I A H) (x : Int32) : OK0 (f5_same I x) (f6_same I x) := by
  obtain ⟨hc, hm, ht⟩ := id h
  by_cases h1 : f5_isWithin x 0 (nI A.1 - 1) = true
  case neg => exact ⟨-1, by simp only [f5_same, f5_isRow_n hc, f6_isRow_n hm, f5_isBit, f5_isOperation, f6_in_eq, Option.bind_some, if_true, if_false, eq_self, Bool.false_eq_true, h1], by simp only [f6_same, f5_isRow_n hc, f6_isRow_n hm, f5_isBit, f5_isOperation, f6_in_eq, Option.bind_some, if_true, if_false, eq_self, Bool.false_eq_true, h1]⟩
  have h8 := hc.n8
  obtain ⟨q, hqn, rfl⟩ := isW_row hc.n8 h1
  have hq : q < 8 := by omega
  have loop : ∀ (k j : Nat), j ≤ q → q < k + j → ∃ v, f5_same_L12 k I (nI q) (nI j) = some v ∧ f6_same_L12 k I (nI q) (nI j) = some v := by
    intro k
    induction k with
    | zero => intro j a1 a2; omega
    | succ k ih =>
      intro j a1 a2
      rw [f5_same_L12, f6_same_L12, f6_at_n, f6_at_n]
      obtain ⟨v, w1, w2⟩ := f6_areSame_n (hm.rows (show j < 8 by omega)) (hm.rows hq) (show 601 * j + 601 ≤ 48086 by omega) (show 601 * q + 601 ≤ 48086 by omega)
      rw [w1]
      simp only [Option.bind_some]
      by_cases hj : j = q
      · subst hj
        rw [if_pos (by rw [xI_le (by omega) (by omega)]; omega), if_pos (w2.mpr rfl)]
        exact ⟨_, rfl, rfl⟩
      · obtain ⟨u, u1, u2⟩ := f0_matches_n (hc.rows (show j < 8 by omega)) (hc.rows hq)
        rw [if_neg (by rw [xI_le (by omega) (by omega)]; omega), if_pos (ib_q (by omega)), if_pos (ib_q hq), cl_q hq, cl_q (show j < 8 by omega), u1]
        simp only [Option.bind_some]
        by_cases e : A.2 j = A.2 q
        · rw [if_pos (w2.mpr e), if_pos (u2.mpr e)]
          exact ⟨_, rfl, rfl⟩
        · rw [if_neg (fun z => e (w2.mp z)), if_neg (fun z => e (u2.mp z)), k1, nI_add]
          exact ih (j + 1) (by omega) (by omega)
  obtain ⟨v, v1, v2⟩ := loop FU 0 (by omega) (by unfold FU; omega)
  refine ⟨v, ?_, ?_⟩
  · unfold f5_same
    rw [f5_isRow_n hc, if_pos h1, k0]
    exact v1
  · unfold f6_same
    rw [f6_isRow_n hm]
    simp only [Option.bind_some]
    rw [if_pos h1, k0]
    exact v2
theorem op_row {I : gI} {A : Snap} {H : List Snap} (h : Rel I A H) (x y : Int32) : OK0 (f5_row I x y) (f6_row I x y) := by
  obtain ⟨hc, hm, ht⟩ := id h
  by_cases h1 : f5_isWithin x 0 (nI A.1 - 1) = true
  case neg => exact ⟨-1, by simp only [f5_row, f5_isRow_n hc, f6_isRow_n hm, f5_isBit, f5_isOperation, f6_in_eq, Option.bind_some, if_true, if_false, eq_self, Bool.false_eq_true, h1], by simp only [f6_row, f5_isRow_n hc, f6_isRow_n hm, f5_isBit, f5_isOperation, f6_in_eq, Option.bind_some, if_true, if_false, eq_self, Bool.false_eq_true, h1]⟩
  obtain ⟨q, hqn, rfl⟩ := isW_row hc.n8 h1
  have hq : q < 8 := by have := hc.n8; omega
  have hi := ib_q hq
  have hl := cl_q hq
  have B := hc.rows hq
  have M := hm.rows hq
  have ho : 601 * q + 601 ≤ 48086 := by omega
  have hn := ng_le B.1
  have e5 : ∀ v, f5_isWithin y 0 7 = true → f5_property I (63 + 2 * q) y = some v → f5_row I (nI q) y = some v := fun v h2 h3 => by
    unfold f5_row
    rw [f5_isRow_n hc, if_pos h1, if_pos h2, if_pos hi, hl, h3]
    rfl
  have c1 := cnt_le (A.2 q).2 (A.2 q).1 0
  have l0 := B.1.1
  by_cases h2 : f5_isWithin y 0 7 = true
  · obtain ⟨p, hp1, hp2, rfl⟩ := isW_n (m := 0) (n := 7) (by omega) (by omega) h2
    rcases (show p = 0 ∨ p = 1 ∨ p = 2 ∨ p = 3 ∨ p = 4 ∨ p = 5 ∨ p = 6 ∨ p = 7 by omega) with rfl | rfl | rfl | rfl | rfl | rfl | rfl | rfl
    · refine ⟨nI (A.2 q).1, e5 _ h2 ?_, ?_⟩
      · unfold f5_property
        rw [if_pos (by decide), B.2.1]
      · unfold f6_row
        rw [f6_isRow_n hm]
        simp only [Option.bind_some]
        rw [if_pos h1, if_pos (by decide), f6_at_n, if_pos (ib_6 hq), cl_6 hq, M.2.1]
    · refine ⟨nI (WS (A.2 q) 0).length, e5 _ h2 ?_, ?_⟩
      · unfold f5_property
        rw [if_neg (by decide), if_pos (by decide), f4_size_n B]
        rfl
      · have w := f6_words_n (kk := 3) M ho (by omega)
        rw [kq3] at w
        unfold f6_row
        rw [f6_isRow_n hm]
        simp only [Option.bind_some]
        rw [if_pos h1, if_neg (by decide), if_pos (by decide), f6_at_n, k3, w]
        rfl
    · refine ⟨nI ((WS (A.2 q) 0).countP (fun s => isLit (gw (A.2 q).2 s))), e5 _ h2 ?_, ?_⟩
      · unfold f5_property
        rw [if_neg (by decide), if_neg (by decide), if_pos (by decide), f4_literals_n B]
        rfl
      · have w := f6_words_n (kk := 2) M ho (by omega)
        rw [kq2] at w
        unfold f6_row
        rw [f6_isRow_n hm]
        simp only [Option.bind_some]
        rw [if_pos h1, if_neg (by decide), if_neg (by decide), if_pos (by decide), f6_at_n, k2, w]
        rfl
    · refine ⟨nI ((WS (A.2 q) 0).countP (fun s => gw (A.2 q).2 s == 0)), e5 _ h2 ?_, ?_⟩
      · unfold f5_property
        rw [if_neg (by decide), if_neg (by decide), if_neg (by decide), if_pos (by decide), k0, f4_fillsOf_n B (by omega)]
        rfl
      · have w := f6_words_n (kk := 0) M ho (by omega)
        rw [kq0] at w
        unfold f6_row
        rw [f6_isRow_n hm]
        simp only [Option.bind_some]
        rw [if_pos h1, if_neg (by decide), if_neg (by decide), if_neg (by decide), if_pos (by decide), f6_at_n, k3, xI_sub (by omega), w]
        rfl
    · refine ⟨nI ((WS (A.2 q) 0).countP (fun s => gw (A.2 q).2 s == 32767)), e5 _ h2 ?_, ?_⟩
      · unfold f5_property
        rw [if_neg (by decide), if_neg (by decide), if_neg (by decide), if_neg (by decide), if_pos (by decide), k32767, f4_fillsOf_n B (by omega)]
        rfl
      · have w := f6_words_n (kk := 1) M ho (by omega)
        rw [kq1] at w
        unfold f6_row
        rw [f6_isRow_n hm]
        simp only [Option.bind_some]
        rw [if_pos h1, if_neg (by decide), if_neg (by decide), if_neg (by decide), if_neg (by decide), if_pos (by decide), f6_at_n, k3, xI_sub (by omega), w]
        rfl
    · refine ⟨nI (cnt (A.2 q).2 0 (A.2 q).1), e5 _ h2 ?_, ?_⟩
      · unfold f5_property
        rw [if_neg (by decide), if_neg (by decide), if_neg (by decide), if_neg (by decide), if_neg (by decide), if_pos (by decide), f0_ones_n B]
        rfl
      · unfold f6_row
        rw [f6_isRow_n hm]
        simp only [Option.bind_some]
        rw [if_pos h1, if_neg (by decide), if_neg (by decide), if_neg (by decide), if_neg (by decide), if_neg (by decide), if_pos (by decide), f6_at_n, f6_ones_n M ho]
        rfl
    · refine ⟨pl (selF (A.2 q).2 0 (A.2 q).1 0), e5 _ h2 ?_, ?_⟩
      · unfold f5_property
        rw [if_neg (by decide), if_neg (by decide), if_neg (by decide), if_neg (by decide), if_neg (by decide), if_neg (by decide), if_pos (by decide), k0, f0_placeOfOne_n B (by omega)]
        rfl
      · unfold f6_row
        rw [f6_isRow_n hm]
        simp only [Option.bind_some]
        rw [if_pos h1, if_neg (by decide), if_neg (by decide), if_neg (by decide), if_neg (by decide), if_neg (by decide), if_neg (by decide), if_pos (by decide), f6_at_n, k0, f6_placeOf_n M ho (by omega)]
        rfl
    · have e6 : ∀ v, (if nI (cnt (A.2 q).2 0 (A.2 q).1) = 0 then some (-9) else (f6_placeOf I (nI (601 * q)) (nI (cnt (A.2 q).2 0 (A.2 q).1) - 1)).bind fun v21 => some v21) = some v → f6_row I (nI q) (nI 7) = some v := fun v hv => by
        unfold f6_row
        rw [f6_isRow_n hm]
        simp only [Option.bind_some]
        rw [if_pos h1, if_neg (by decide), if_neg (by decide), if_neg (by decide), if_neg (by decide), if_neg (by decide), if_neg (by decide), if_neg (by decide), if_pos (by decide), f6_at_n, f6_ones_n M ho]
        simp only [Option.bind_some]
        exact hv
      have e7 : ∀ v, f0_placeOfOne I (63 + 2 * q) (nI (cnt (A.2 q).2 0 (A.2 q).1) - 1) = some v → f5_row I (nI q) (nI 7) = some v := fun v hv => e5 v h2 (by
        unfold f5_property
        rw [if_neg (by decide), if_neg (by decide), if_neg (by decide), if_neg (by decide), if_neg (by decide), if_neg (by decide), if_neg (by decide), f0_ones_n B]
        simp only [Option.bind_some]
        rw [hv]
        rfl)
      generalize cnt (A.2 q).2 0 (A.2 q).1 = c at e6 e7 c1
      rcases Nat.eq_zero_or_pos c with c0 | c0
      · subst c0
        exact ⟨-9, e7 _ (f0_placeOfOne_neg (by decide)), e6 _ (by rw [if_pos (by decide)])⟩
      · refine ⟨pl (selF (A.2 q).2 0 (A.2 q).1 (c - 1)), e7 _ ?_, e6 _ ?_⟩
        · rw [k1, xI_sub c0, f0_placeOfOne_n B (by omega)]
        · rw [if_neg (by rw [k0, xI_eq (by omega) (by omega)]; omega), k1, xI_sub c0, f6_placeOf_n M ho (by omega)]
          rfl
  · have n0 : ∀ p, p ≤ 7 → ¬ y = nI p := fun p hp e => h2 (by
      subst e
      unfold f5_isWithin
      rw [if_neg (by rw [k0, xI_lt (by omega) (by omega)]; omega), if_neg (by rw [show (7 : Int32) = nI 7 from rfl, xI_lt (by omega) (by omega)]; omega)])
    refine ⟨-1, ?_, ?_⟩
    · unfold f5_row
      rw [f5_isRow_n hc, if_pos h1, if_neg h2]
    · unfold f6_row
      rw [f6_isRow_n hm]
      simp only [Option.bind_some]
      rw [if_pos h1, if_neg (show ¬ y = 0 from n0 0 (by omega)), if_neg (show ¬ y = 1 from n0 1 (by omega)), if_neg (show ¬ y = 2 from n0 2 (by omega)), if_neg (show ¬ y = 3 from n0 3 (by omega)), if_neg (show ¬ y = 4 from n0 4 (by omega)), if_neg (show ¬ y = 5 from n0 5 (by omega)), if_neg (show ¬ y = 6 from n0 6 (by omega)), if_neg (show ¬ y = 7 from n0 7 (by omega))]
def nark (c : Nat) : Bool := vp_nar .char ((nI c).toUInt32 % 65536).toInt32 == nI c
theorem nark_all : ((List.range 256).all nark) = true := by decide +kernel
theorem op_type {I : gI} {A : Snap} {H : List Snap} (h : Rel I A H) (x : Int32) : OK1 (f5_type I x) (fun J => f6_type J x) := by
  obtain ⟨hc, hm, ⟨t, t1, t2, t3, t4⟩, f1, f2, f3⟩ := id h
  by_cases h1 : f5_isWithin x 1 255 = true
  case neg => exact OK1_same (v := -1) ⟨A, H, h⟩ (by simp only [f5_type, f5_isRow_n hc, f6_isRow_n hm, f5_isBit, f5_isOperation, f6_in_eq, Option.bind_some, if_true, if_false, eq_self, Bool.false_eq_true, h1]) (by simp only [f6_type, f5_isRow_n hc, f6_isRow_n hm, f5_isBit, f5_isOperation, f6_in_eq, Option.bind_some, if_true, if_false, eq_self, Bool.false_eq_true, h1])
  obtain ⟨c, c1, c2, rfl⟩ := isW_n (m := 1) (n := 255) (by omega) (by omega) h1
  have nar : vp_nar .char ((nI c).toUInt32 % 65536).toInt32 = nI c := by
    have := List.all_eq_true.mp nark_all c (List.mem_range.mpr (by omega))
    exact eq_of_beq this
  by_cases h2 : t = 100
  · subst h2
    refine OK1_same (v := -3) ⟨A, H, h⟩ ?_ ?_
    · unfold f5_type
      rw [if_pos h1, t2, if_neg (by decide)]
    · unfold f6_type
      rw [f6_in_eq, if_pos h1, t3, if_pos (by rfl)]
  have e1 : f2_addSign I ((nI c).toUInt32 % 65536).toInt32 = some (uI (uI I 20 t (nI c)) 19 1 (nI (t + 1))) := by
    unfold f2_addSign
    rw [t2, if_neg (by rw [k100, xI_le (by omega) (by omega)]; omega), xI_ib (by omega), if_pos (by simp; omega), xI_cl (by omega), nar]
    have : uI I 20 t (nI c) 19 1 = nI t := by rw [uI_row (by omega)]; exact t2
    rw [this, k1, nI_add]
  have o1 : ∀ d, d ≠ 19 → d ≠ 20 → uI (uI I 20 t (nI c)) 19 1 (nI (t + 1)) d = I d := fun d d1 d2 => by rw [uI_row d1, uI_row d2]
  have o2 : uI (uI I 20 t (nI c)) 19 1 (nI (t + 1)) 20 = uI I 20 t (nI c) 20 := uI_row (by omega)
  have o3 : ∀ j, j ≠ 1 → uI (uI I 20 t (nI c)) 19 1 (nI (t + 1)) 19 j = I 19 j := fun j hj => by
    rw [uI_ap, if_neg (by omega), uI_ap, if_neg (by omega)]
  have o4 : uI (uI I 20 t (nI c)) 19 1 (nI (t + 1)) 19 1 = nI (t + 1) := uI_self _ _ _ _
  refine ⟨nI (t + 1), uI (uI I 20 t (nI c)) 19 1 (nI (t + 1)), uI (uI (uI (uI I 20 t (nI c)) 19 1 (nI (t + 1))) 81 t (nI c)) 79 3 (nI (t + 1)), ?_, ?_, A, H, ?_, ?_, ?_⟩
  · unfold f5_type
    rw [if_pos h1, t2, if_pos (by rw [k100, xI_lt (by omega) (by omega)]; omega), e1]
    simp only [Option.bind_some]
    rw [o4]
  · generalize uI (uI I 20 t (nI c)) 19 1 (nI (t + 1)) = J at o1
    have l3 : J 79 3 = nI t := by rw [o1 79 (by omega) (by omega)]; exact t3
    have l4 : uI J 81 t (nI c) 79 3 = nI t := by rw [uI_row (by omega)]; exact l3
    show f6_type J (nI c) = _
    unfold f6_type
    rw [f6_in_eq, if_pos h1, l3, if_neg (by rw [k100, xI_eq (by omega) (by omega)]; exact h2), xI_ib (by omega), if_pos (by simp; omega), xI_cl (by omega), l4, k1, nI_add, uI_self]
  · exact CR_kept hc (fun d h1 h2 => by rw [uI_row (by omega), uI_row (by omega), o1 d (by omega) (by omega)])
  · exact MR_kept hm (fun j _ => by rw [uI_row (by omega), uI_row (by omega), o1 80 (by omega) (by omega)]) (by rw [uI_ap, if_neg (by omega), uI_row (by omega), o1 79 (by omega) (by omega)])
  · generalize uI (uI I 20 t (nI c)) 19 1 (nI (t + 1)) = J at o1 o2 o3 o4
    have p1 : ∀ j, j ≠ 3 → uI (uI J 81 t (nI c)) 79 3 (nI (t + 1)) 79 j = I 79 j := fun j hj => by
      rw [uI_ap, if_neg (by omega), uI_row (by omega), o1 79 (by omega) (by omega)]
    have p2 : uI (uI J 81 t (nI c)) 79 3 (nI (t + 1)) 19 = J 19 := by rw [uI_row (by omega), uI_row (by omega)]
    have p3 : uI (uI J 81 t (nI c)) 79 3 (nI (t + 1)) 20 = J 20 := by rw [uI_row (by omega), uI_row (by omega)]
    have p4 : ∀ j, uI (uI J 81 t (nI c)) 79 3 (nI (t + 1)) 81 j = if j = t then nI c else I 81 j := fun j => by
      rw [uI_row (by omega), uI_ap]
      by_cases hj : j = t
      · rw [if_pos ⟨rfl, hj⟩, if_pos hj]
      · rw [if_neg (by omega), if_neg hj, o1 81 (by omega) (by omega)]
    refine ⟨⟨t + 1, by omega, by rw [p2]; exact o4, uI_self _ _ _ _, fun j hj => ?_⟩, ?_, ?_, ?_⟩
    · rw [p3, p4, o2, uI_ap]
      by_cases hjt : j = t
      · exact ⟨c, c1, c2, by rw [if_pos ⟨rfl, hjt⟩], by rw [if_pos hjt]⟩
      · rw [if_neg (by omega), if_neg hjt]
        exact t4 j (by omega)
    · rw [p2, p1 5 (by omega), o3 2 (by omega)]; exact f1
    · rw [p2, p1 6 (by omega), o3 3 (by omega)]; exact f2
    · rw [p2, p1 7 (by omega), o3 4 (by omega)]; exact f3
theorem op_clear {I : gI} {A : Snap} {H : List Snap} (h : Rel I A H) : OK1 (f5_clearText I) (fun J => f6_clearText J) := by
  obtain ⟨hc, hm, ⟨t, t1, t2, t3, t4⟩, f1, f2, f3⟩ := id h
  refine ⟨nI t, uI I 19 1 0, uI (uI I 19 1 0) 79 3 0, ?_, ?_, A, H, ?_, ?_, ?_⟩
  · unfold f5_clearText
    rw [t2]
  · show f6_clearText (uI I 19 1 0) = _
    unfold f6_clearText
    rw [uI_row (by omega), t3]
  · exact CR_kept hc (fun d h1 h2 => by rw [uI_row (by omega), uI_row (by omega)])
  · exact MR_kept hm (fun j _ => by rw [uI_row (by omega), uI_row (by omega)]) (by rw [uI_ap, if_neg (by omega), uI_row (by omega)])
  · have p2 : ∀ j, j ≠ 1 → uI (uI I 19 1 0) 79 3 0 19 j = I 19 j := fun j hj => by rw [uI_row (by omega), uI_ap, if_neg (by omega)]
    have p1 : ∀ j, j ≠ 3 → uI (uI I 19 1 0) 79 3 0 79 j = I 79 j := fun j hj => by rw [uI_ap, if_neg (by omega), uI_row (by omega)]
    refine ⟨⟨0, by omega, by rw [uI_row (by omega), uI_self]; rfl, by rw [uI_self]; rfl, fun j hj => by omega⟩, ?_, ?_, ?_⟩
    · rw [p2 2 (by omega), p1 5 (by omega)]; exact f1
    · rw [p2 3 (by omega), p1 6 (by omega)]; exact f2
    · rw [p2 4 (by omega), p1 7 (by omega)]; exact f3
