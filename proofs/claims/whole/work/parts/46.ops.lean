/-! the calls, side by side -/
theorem f6_in_eq (a b c : Int32) : f6_in a b c = f5_isWithin a b c := rfl
theorem f5_isRow_n {I : gI} {A : Snap} {H : List Snap} (h : CR I A H) (a : Int32) : f5_isRow I a = f5_isWithin a 0 (nI A.1 - 1) := by
  unfold f5_isRow
  rw [h.n]
theorem f6_isRow_n {I : gI} {A : Snap} {H : List Snap} (h : MR I A H) (a : Int32) : f6_isRow I a = some (f5_isWithin a 0 (nI A.1 - 1)) := by
  unfold f6_isRow
  rw [h.n]
  rfl
theorem ib_q {q : Nat} (hq : q < 8) : ib (nI q) 8 = true := by
  rw [xI_ib (by omega)]
  simp
  omega
theorem cl_q {q : Nat} (hq : q < 8) : (nI q).toNatClampNeg = q := xI_cl (by omega)
theorem ib_6 {q : Nat} (hq : q < 8) : ib (nI (601 * q)) 48086 = true := by
  rw [xI_ib (by omega)]
  simp
  omega
theorem cl_6 {q : Nat} (hq : q < 8) : (nI (601 * q)).toNatClampNeg = 601 * q := xI_cl (by omega)
theorem isW_bit {a : Int32} (h : f5_isWithin a 0 1 = true) : ∃ v : Bool, a = nI v.toNat := by
  obtain ⟨q, h1, h2, rfl⟩ := isW_n (m := 0) (n := 1) (by omega) (by omega) h
  rcases Nat.eq_zero_or_pos q with h0 | h0
  · exact ⟨false, by rw [h0]; rfl⟩
  · exact ⟨true, by rw [show q = 1 by omega]; rfl⟩
theorem isW_600 {a : Int32} (h : f5_isWithin a (-600) 600 = true) : -600 ≤ a.toInt ∧ a.toInt ≤ 600 := by
  unfold f5_isWithin at h
  have e1 : (-600 : Int32).toInt = -600 := by decide
  have e2 : (600 : Int32).toInt = 600 := by decide
  by_cases h1 : a < -600
  · rw [if_pos h1] at h; cases h
  · rw [if_neg h1] at h
    by_cases h2 : 600 < a
    · rw [if_pos h2] at h; cases h
    · rw [Int32.lt_iff_toInt_lt] at h1 h2
      omega
theorem nonneg {a : Int32} (h : 0 ≤ a) : ∃ i, i < 2 ^ 31 ∧ a = nI i := by
  have h1 : ¬ a < 0 := by
    rw [Int32.lt_iff_toInt_lt]
    rw [Int32.le_iff_toInt_le] at h
    omega
  have h2 : ¬ nI 2147483647 < a := by
    rw [Int32.lt_iff_toInt_lt]
    have e : (nI 2147483647).toInt = 2147483647 := by decide
    have := Int32.toInt_lt a
    omega
  obtain ⟨j, hj, e⟩ := xI_of (by omega) h1 h2
  exact ⟨j, by omega, e⟩
theorem CR_stepB {J J' : gI} {A : Snap} {H : List Snap} {q : Nat} {r : Row} (h : CR J A H) (hq : q < 8) (hr : ∀ r, HC J (updR A.2 q r) H) (hb : BR J' (63 + 2 * q) r) (hF : ∀ c, c < 61 ∨ 62 < c → c ≠ 63 + 2 * q → c ≠ 64 + 2 * q → J' c = J c) : CR J' (A.1, updR A.2 q r) H :=
  CR_step h hq hr hb (by rw [hF 0 (by omega) (by omega) (by omega)]; exact h.n) h.n8 (fun c _ _ h3 h4 h5 => hF c (by omega) h4 h5)
theorem fin_j {I J J' K K' : gI} {A A' : Snap} {H H' : List Snap} (h : Rel I A H) (a4 : ∀ c, 19 ≤ c → J c = I c) (cr : CR J' A' H') (fb : ∀ c, c = 19 ∨ c = 20 ∨ 79 ≤ c → J' c = J c) (mr : MR K' A' H') (f1 : ∀ c, c ≠ 80 → c ≠ 79 → K c = J' c) (f2 : ∀ j, j ≠ 1 → K 79 j = J' 79 j) (g : ∀ c, c ≠ 80 → c ≠ 82 → K' c = K c) : RelE K' := by
  refine ⟨A', H', Rel_of h cr (fun c hc => ?_) mr ⟨fun c hc => ?_, fun j hj => ?_⟩⟩
  · rw [fb c hc, a4 c (by omega)]
  · rw [g c (by omega) (by omega), f1 c (by omega) (by omega)]
  · rw [g 79 (by omega) (by omega), f2 j hj]
theorem FC_j {I J J' : gI} (a4 : ∀ c, 19 ≤ c → J c = I c) (fb : ∀ c, c = 19 ∨ c = 20 ∨ 79 ≤ c → J' c = J c) : FC I J' := fun c hc => by
  rw [fb c hc, a4 c (by omega)]
theorem FrB_fb {J J' : gI} {q : Nat} (hq : q < 8) (h : FrB J J' (63 + 2 * q)) : ∀ c, c = 19 ∨ c = 20 ∨ 79 ≤ c → J' c = J c := fun c hc => h c (by omega) (by omega)
theorem FrB_st {J J' : gI} {q : Nat} (h : FrB J J' (63 + 2 * q)) : ∀ c, c < 61 ∨ 62 < c → c ≠ 63 + 2 * q → c ≠ 64 + 2 * q → J' c = J c := fun c _ h1 h2 => h c h1 (by omega)
theorem FrO_g {K K' : gI} {o : Nat} (h : FrO K K' o) : ∀ c, c ≠ 80 → c ≠ 82 → K' c = K c := fun c hc _ => h.1 c hc
theorem op_append {I : gI} {A : Snap} {H : List Snap} (h : Rel I A H) (x y z : Int32) : OK1 (f5_append I x y z) (fun J => f6_append J x y z) := by
  obtain ⟨hc, hm, ht⟩ := id h
  by_cases h1 : f5_isWithin x 0 (nI A.1 - 1) = true
  case neg => exact OK1_same (v := -1) ⟨A, H, h⟩ (by simp only [f5_append, f5_isRow_n hc, f6_isRow_n hm, f5_isBit, f5_isOperation, f6_in_eq, Option.bind_some, if_true, if_false, eq_self, Bool.false_eq_true, h1]) (by simp only [f6_append, f5_isRow_n hc, f6_isRow_n hm, f5_isBit, f5_isOperation, f6_in_eq, Option.bind_some, if_true, if_false, eq_self, Bool.false_eq_true, h1])
  by_cases h2 : f5_isWithin y 0 1 = true
  case neg => exact OK1_same (v := -1) ⟨A, H, h⟩ (by simp only [f5_append, f5_isRow_n hc, f6_isRow_n hm, f5_isBit, f5_isOperation, f6_in_eq, Option.bind_some, if_true, if_false, eq_self, Bool.false_eq_true, h1, h2]) (by simp only [f6_append, f5_isRow_n hc, f6_isRow_n hm, f5_isBit, f5_isOperation, f6_in_eq, Option.bind_some, if_true, if_false, eq_self, Bool.false_eq_true, h1, h2])
  by_cases h3 : f5_isWithin z 1 600 = true
  case neg => exact OK1_same (v := -1) ⟨A, H, h⟩ (by simp only [f5_append, f5_isRow_n hc, f6_isRow_n hm, f5_isBit, f5_isOperation, f6_in_eq, Option.bind_some, if_true, if_false, eq_self, Bool.false_eq_true, h1, h2, h3]) (by simp only [f6_append, f5_isRow_n hc, f6_isRow_n hm, f5_isBit, f5_isOperation, f6_in_eq, Option.bind_some, if_true, if_false, eq_self, Bool.false_eq_true, h1, h2, h3])
  obtain ⟨q, hqn, rfl⟩ := isW_row hc.n8 h1
  have hq : q < 8 := by have := hc.n8; omega
  have hi := ib_q hq
  have hl := cl_q hq
  have hi6 := ib_6 hq
  have hl6 := cl_6 hq
  obtain ⟨v, rfl⟩ := isW_bit h2
  obtain ⟨n, hn1, hn2, rfl⟩ := isW_n (m := 1) (n := 600) (by omega) (by omega) h3
  have l5 := (hc.rows hq).2.1
  have l6 := (hm.rows hq).2.1
  have l0 := (hc.rows hq).1.1
  by_cases h4 : nI (A.2 q).1 + nI n ≤ 600
  case neg => exact OK1_same (v := -3) ⟨A, H, h⟩ (by simp only [f5_append, f5_isRow_n hc, f6_isRow_n hm, f5_isBit, f5_isOperation, f6_in_eq, Option.bind_some, if_true, if_false, eq_self, Bool.false_eq_true, h1, h2, h3, hi, hl, l5, h4]) (by simp only [f6_append, f5_isRow_n hc, f6_isRow_n hm, f5_isBit, f5_isOperation, f6_in_eq, Option.bind_some, if_true, if_false, eq_self, Bool.false_eq_true, h1, h2, h3, f6_at_n, hi6, hl6, l6, h4])
  have h5 : (A.2 q).1 + n ≤ 600 := by rw [nI_add, k600, xI_le (by omega) (by omega)] at h4; exact h4
  obtain ⟨J, a1, a2, a3, a4⟩ := f5_record_n hc hq
  obtain ⟨J', b1, b2, b3⟩ := f0_addRun_n (v := v) (a2.rows hq) h5
  have fb := FrB_fb hq b3
  have hm' := MR_of hm (FC_j a4 fb)
  have l7 := (hm'.rows hq).2.1
  obtain ⟨K, d1, d2, d3, d4⟩ := f6_record_n hm'
  obtain ⟨K', e1, e2, e3⟩ := f6_append_L_n (v := v) (n := n) hq h5 FU 0 K (by rw [addR_0]; exact d2.rows hq) (by omega) (by unfold FU; omega)
  refine ⟨nI ((A.2 q).1 + n), J', K', ?_, ?_, fin_j h a4 (CR_stepB a2 hq a3 b2 (FrB_st b3)) fb (MR_stepO d2 hq e2 e3) d3 d4 (FrO_g e3)⟩
  · simp only [f5_append, f5_isRow_n hc, f6_isRow_n hm, f5_isBit, f5_isOperation, f6_in_eq, Option.bind_some, if_true, if_false, eq_self, Bool.false_eq_true, h1, h2, h3, hi, hl, l5, h4, a1, b1, b2.2.1]
    rfl
  · simp only [f6_append, f6_isRow_n hm', f5_isRow_n hc, f5_isBit, f5_isOperation, f6_in_eq, Option.bind_some, if_true, if_false, eq_self, Bool.false_eq_true, h1, h2, h3, f6_at_n, hi6, hl6, l7, h4, d1]
    exact e1
theorem op_write {I : gI} {A : Snap} {H : List Snap} (h : Rel I A H) (x y z : Int32) : OK1 (f5_write I x y z) (fun J => f6_write J x y z) := by
  obtain ⟨hc, hm, ht⟩ := id h
  by_cases h1 : f5_isWithin x 0 (nI A.1 - 1) = true
  case neg => exact OK1_same (v := -1) ⟨A, H, h⟩ (by simp only [f5_write, f5_isRow_n hc, f6_isRow_n hm, f5_isBit, f5_isOperation, f6_in_eq, Option.bind_some, if_true, if_false, eq_self, Bool.false_eq_true, h1]) (by simp only [f6_write, f5_isRow_n hc, f6_isRow_n hm, f5_isBit, f5_isOperation, f6_in_eq, Option.bind_some, if_true, if_false, eq_self, Bool.false_eq_true, h1])
  by_cases h2 : f5_isWithin y 0 65535 = true
  case neg => exact OK1_same (v := -1) ⟨A, H, h⟩ (by simp only [f5_write, f5_isRow_n hc, f6_isRow_n hm, f5_isBit, f5_isOperation, f6_in_eq, Option.bind_some, if_true, if_false, eq_self, Bool.false_eq_true, h1, h2]) (by simp only [f6_write, f5_isRow_n hc, f6_isRow_n hm, f5_isBit, f5_isOperation, f6_in_eq, Option.bind_some, if_true, if_false, eq_self, Bool.false_eq_true, h1, h2])
  by_cases h3 : f5_isWithin z 1 16 = true
  case neg => exact OK1_same (v := -1) ⟨A, H, h⟩ (by simp only [f5_write, f5_isRow_n hc, f6_isRow_n hm, f5_isBit, f5_isOperation, f6_in_eq, Option.bind_some, if_true, if_false, eq_self, Bool.false_eq_true, h1, h2, h3]) (by simp only [f6_write, f5_isRow_n hc, f6_isRow_n hm, f5_isBit, f5_isOperation, f6_in_eq, Option.bind_some, if_true, if_false, eq_self, Bool.false_eq_true, h1, h2, h3])
  obtain ⟨q, hqn, rfl⟩ := isW_row hc.n8 h1
  have hq : q < 8 := by have := hc.n8; omega
  have hi := ib_q hq
  have hl := cl_q hq
  have hi6 := ib_6 hq
  have hl6 := cl_6 hq
  obtain ⟨v, hv1, hv2, rfl⟩ := isW_n (m := 0) (n := 65535) (by omega) (by omega) h2
  obtain ⟨n, hn1, hn2, rfl⟩ := isW_n (m := 1) (n := 16) (by omega) (by omega) h3
  have l5 := (hc.rows hq).2.1
  have l6 := (hm.rows hq).2.1
  have l0 := (hc.rows hq).1.1
  by_cases h4 : nI (A.2 q).1 + nI n ≤ 600
  case neg => exact OK1_same (v := -3) ⟨A, H, h⟩ (by simp only [f5_write, f5_isRow_n hc, f6_isRow_n hm, f5_isBit, f5_isOperation, f6_in_eq, Option.bind_some, if_true, if_false, eq_self, Bool.false_eq_true, h1, h2, h3, hi, hl, l5, h4]) (by simp only [f6_write, f5_isRow_n hc, f6_isRow_n hm, f5_isBit, f5_isOperation, f6_in_eq, Option.bind_some, if_true, if_false, eq_self, Bool.false_eq_true, h1, h2, h3, f6_at_n, hi6, hl6, l6, h4])
  have h5 : (A.2 q).1 + n ≤ 600 := by rw [nI_add, k600, xI_le (by omega) (by omega)] at h4; exact h4
  obtain ⟨J, a1, a2, a3, a4⟩ := f5_record_n hc hq
  obtain ⟨J', b1, b2, b3⟩ := f0_addNumber_n (x := v) (a2.rows hq) (by omega) hn2 h5
  have b4 := f4_size_n b2
  have fb := FrB_fb hq b3
  have hm' := MR_of hm (FC_j a4 fb)
  have l7 := (hm'.rows hq).2.1
  obtain ⟨K, d1, d2, d3, d4⟩ := f6_record_n hm'
  obtain ⟨K', e1, e2, e3⟩ := f6_write_L_n (x := v) (n := n) hq h5 hn2 (by omega) FU 0 K (by rw [addR_0]; exact d2.rows hq) (by omega) (by unfold FU; omega)
  refine ⟨nI (WS (addR (A.2 q) n fun i => v.testBit i) 0).length, J', K', ?_, ?_, fin_j h a4 (CR_stepB a2 hq a3 b2 (FrB_st b3)) fb (MR_stepO d2 hq e2 e3) d3 d4 (FrO_g e3)⟩
  rotate_left
  · simp only [f6_write, f6_isRow_n hm', f5_isRow_n hc, f5_isBit, f5_isOperation, f6_in_eq, Option.bind_some, if_true, if_false, eq_self, Bool.false_eq_true, h1, h2, h3, f6_at_n, hi6, hl6, l7, h4, d1]
    exact e1
  · simp only [f5_write, f5_isRow_n hc, f6_isRow_n hm, f5_isBit, f5_isOperation, f6_in_eq, Option.bind_some, if_true, if_false, eq_self, Bool.false_eq_true, h1, h2, h3, hi, hl, l5, h4, a1, b1, b4]
theorem op_resize {I : gI} {A : Snap} {H : List Snap} (h : Rel I A H) (x y : Int32) : OK1 (f5_resize I x y) (fun J => f6_resize J x y) := by
  obtain ⟨hc, hm, ht⟩ := id h
  by_cases h1 : f5_isWithin x 0 (nI A.1 - 1) = true
  case neg => exact OK1_same (v := -1) ⟨A, H, h⟩ (by simp only [f5_resize, f5_isRow_n hc, f6_isRow_n hm, f5_isBit, f5_isOperation, f6_in_eq, Option.bind_some, if_true, if_false, eq_self, Bool.false_eq_true, h1]) (by simp only [f6_resize, f5_isRow_n hc, f6_isRow_n hm, f5_isBit, f5_isOperation, f6_in_eq, Option.bind_some, if_true, if_false, eq_self, Bool.false_eq_true, h1])
  by_cases h2 : f5_isWithin y 0 600 = true
  case neg => exact OK1_same (v := -1) ⟨A, H, h⟩ (by simp only [f5_resize, f5_isRow_n hc, f6_isRow_n hm, f5_isBit, f5_isOperation, f6_in_eq, Option.bind_some, if_true, if_false, eq_self, Bool.false_eq_true, h1, h2]) (by simp only [f6_resize, f5_isRow_n hc, f6_isRow_n hm, f5_isBit, f5_isOperation, f6_in_eq, Option.bind_some, if_true, if_false, eq_self, Bool.false_eq_true, h1, h2])
  obtain ⟨q, hqn, rfl⟩ := isW_row hc.n8 h1
  have hq : q < 8 := by have := hc.n8; omega
  have hi := ib_q hq
  have hl := cl_q hq
  have hi6 := ib_6 hq
  have hl6 := cl_6 hq
  obtain ⟨p, hp1, hp2, rfl⟩ := isW_n (m := 0) (n := 600) (by omega) (by omega) h2
  obtain ⟨J, a1, a2, a3, a4⟩ := f5_record_n hc hq
  obtain ⟨J', b1, b2, b3⟩ := f0_cutTo_n (p := p) (a2.rows hq) hp2
  have l5 := (a2.rows hq).2.1
  have l0 := (a2.rows hq).1.1
  have fb := FrB_fb hq b3
  have hm' := MR_of hm (FC_j a4 fb)
  obtain ⟨K, d1, d2, d3, d4⟩ := f6_record_n hm'
  have l7 := (d2.rows hq).2.1
  obtain ⟨K', e1, e2, e3⟩ := f6_resize_L_n (p := p) hq hp2 (d2.rows hq).1 4999 (A.2 q).1 K (d2.rows hq).2.2 (by omega) (by omega) (by omega)
  refine ⟨nI (A.2 q).1, J', K', ?_, ?_, fin_j h a4 (CR_stepB a2 hq a3 b2 (FrB_st b3)) fb (MR_stepO d2 hq e2 e3) d3 d4 (FrO_g e3)⟩
  · simp only [f5_resize, f5_isRow_n hc, f6_isRow_n hm, f5_isBit, f5_isOperation, f6_in_eq, Option.bind_some, if_true, if_false, eq_self, Bool.false_eq_true, h1, h2, hi, hl, a1, b1, l5]
  · simp only [f6_resize, f6_isRow_n hm', f5_isRow_n hc, f5_isBit, f5_isOperation, f6_in_eq, Option.bind_some, if_true, if_false, eq_self, Bool.false_eq_true, h1, h2, f6_at_n, hi6, hl6, d1, l7]
    exact e1
theorem op_not {I : gI} {A : Snap} {H : List Snap} (h : Rel I A H) (x : Int32) : OK1 (f5_not I x) (fun J => f6_not J x) := by
  obtain ⟨hc, hm, ht⟩ := id h
  by_cases h1 : f5_isWithin x 0 (nI A.1 - 1) = true
  case neg => exact OK1_same (v := -1) ⟨A, H, h⟩ (by simp only [f5_not, f5_isRow_n hc, f6_isRow_n hm, f5_isBit, f5_isOperation, f6_in_eq, Option.bind_some, if_true, if_false, eq_self, Bool.false_eq_true, h1]) (by simp only [f6_not, f5_isRow_n hc, f6_isRow_n hm, f5_isBit, f5_isOperation, f6_in_eq, Option.bind_some, if_true, if_false, eq_self, Bool.false_eq_true, h1])
  obtain ⟨q, hqn, rfl⟩ := isW_row hc.n8 h1
  have hq : q < 8 := by have := hc.n8; omega
  have hi := ib_q hq
  have hl := cl_q hq
  obtain ⟨J, a1, a2, a3, a4⟩ := f5_record_n hc hq
  obtain ⟨J', b1, b2, b3⟩ := f0_invert_n (a2.rows hq)
  have b4 := f0_ones_n b2
  have fb := FrB_fb hq b3
  have hm' := MR_of hm (FC_j a4 fb)
  obtain ⟨K, d1, d2, d3, d4⟩ := f6_record_n hm'
  obtain ⟨K', e1, e2, e3⟩ := f6_turn_n (show 601 * q + 601 ≤ 48086 by omega) (d2.rows hq)
  have e4 := f6_ones_n e2 (show 601 * q + 601 ≤ 48086 by omega)
  have fin := fin_j h a4 (CR_stepB a2 hq a3 b2 (FrB_st b3)) fb (MR_stepO d2 hq e2 e3) d3 d4 (FrO_g e3)
  generalize nI (cnt (notR (A.2 q)).2 0 (notR (A.2 q)).1) = w at b4 e4
  refine ⟨w, J', K', ?_, ?_, fin⟩
  rotate_left
  · simp only [f6_not, f6_isRow_n hm', f5_isRow_n hc, f5_isBit, f5_isOperation, f6_in_eq, Option.bind_some, if_true, if_false, eq_self, Bool.false_eq_true, h1, f6_at_n, d1, e1, e4]
  · unfold f5_not
    rw [f5_isRow_n hc, if_pos h1, a1, hl]
    simp only [Option.bind_some]
    rw [if_pos hi, b1]
    simp only [Option.bind_some]
    rw [if_pos hi, b4]
    rfl
theorem op_shift {I : gI} {A : Snap} {H : List Snap} (h : Rel I A H) (x y : Int32) : OK1 (f5_shift I x y) (fun J => f6_shift J x y) := by
  obtain ⟨hc, hm, ht⟩ := id h
  by_cases h1 : f5_isWithin x 0 (nI A.1 - 1) = true
  case neg => exact OK1_same (v := -1) ⟨A, H, h⟩ (by simp only [f5_shift, f5_isRow_n hc, f6_isRow_n hm, f5_isBit, f5_isOperation, f6_in_eq, Option.bind_some, if_true, if_false, eq_self, Bool.false_eq_true, h1]) (by simp only [f6_shift, f5_isRow_n hc, f6_isRow_n hm, f5_isBit, f5_isOperation, f6_in_eq, Option.bind_some, if_true, if_false, eq_self, Bool.false_eq_true, h1])
  by_cases h2 : f5_isWithin y (-600) 600 = true
  case neg => exact OK1_same (v := -1) ⟨A, H, h⟩ (by simp only [f5_shift, f5_isRow_n hc, f6_isRow_n hm, f5_isBit, f5_isOperation, f6_in_eq, Option.bind_some, if_true, if_false, eq_self, Bool.false_eq_true, h1, h2]) (by simp only [f6_shift, f5_isRow_n hc, f6_isRow_n hm, f5_isBit, f5_isOperation, f6_in_eq, Option.bind_some, if_true, if_false, eq_self, Bool.false_eq_true, h1, h2])
  obtain ⟨q, hqn, rfl⟩ := isW_row hc.n8 h1
  have hq : q < 8 := by have := hc.n8; omega
  have hi := ib_q hq
  have hl := cl_q hq
  have hi6 := ib_6 hq
  have hl6 := cl_6 hq
  obtain ⟨y1, y2⟩ := isW_600 h2
  obtain ⟨J, a1, a2, a3, a4⟩ := f5_record_n hc hq
  obtain ⟨J1, c1, c2, c3⟩ := f0_moveFrom_n (b := 61) (a2.rows hq) y1 y2 (by omega) (by omega)
  obtain ⟨J', b1, b2, b3⟩ := f0_copyFrom_n (b := 63 + 2 * q) c2 (by omega)
  have fb : ∀ c, c = 19 ∨ c = 20 ∨ 79 ≤ c → J' c = J c := fun c hc => by rw [b3 c (by omega) (by omega), c3 c (by omega) (by omega)]
  have fs : ∀ c, c < 61 ∨ 62 < c → c ≠ 63 + 2 * q → c ≠ 64 + 2 * q → J' c = J c := fun c hc h1 h2 => by rw [b3 c (by omega) (by omega), c3 c (by omega) (by omega)]
  have hm' := MR_of hm (FC_j a4 fb)
  obtain ⟨K, d1, d2, d3, d4⟩ := f6_record_n hm'
  obtain ⟨K', e1, e2, e3⟩ := f6_shiftOn_n (x := y) (by omega) (d2.rows hq) y1 y2
  refine ⟨nI (shR (A.2 q) y.toInt).1, J', K', ?_, ?_, fin_j h a4 (CR_stepB a2 hq a3 b2 fs) fb (MR_stepO d2 hq e2 e3) d3 d4 (FrO_g e3)⟩
  · simp only [f5_shift, f5_isRow_n hc, f6_isRow_n hm, f5_isBit, f5_isOperation, f6_in_eq, Option.bind_some, if_true, if_false, eq_self, Bool.false_eq_true, h1, h2, hi, hl, a1, c1, b1, b2.2.1]
  · simp only [f6_shift, f6_isRow_n hm', f5_isRow_n hc, f5_isBit, f5_isOperation, f6_in_eq, Option.bind_some, if_true, if_false, eq_self, Bool.false_eq_true, h1, h2, f6_at_n, hi6, hl6, d1, e1, e2.2.1]
theorem op_operate {I : gI} {A : Snap} {H : List Snap} (h : Rel I A H) (x y z w : Int32) : OK1 (f5_operate I x y z w) (fun J => f6_operate J x y z w) := by
  obtain ⟨hc, hm, ht⟩ := id h
  by_cases h1 : f5_isWithin x 0 (nI A.1 - 1) = true
  case neg => exact OK1_same (v := -1) ⟨A, H, h⟩ (by simp only [f5_operate, f5_isRow_n hc, f6_isRow_n hm, f5_isBit, f5_isOperation, f6_in_eq, Option.bind_some, if_true, if_false, eq_self, Bool.false_eq_true, h1]) (by simp only [f6_operate, f5_isRow_n hc, f6_isRow_n hm, f5_isBit, f5_isOperation, f6_in_eq, Option.bind_some, if_true, if_false, eq_self, Bool.false_eq_true, h1])
  by_cases h2 : f5_isWithin y 0 3 = true
  case neg => exact OK1_same (v := -1) ⟨A, H, h⟩ (by simp only [f5_operate, f5_isRow_n hc, f6_isRow_n hm, f5_isBit, f5_isOperation, f6_in_eq, Option.bind_some, if_true, if_false, eq_self, Bool.false_eq_true, h1, h2]) (by simp only [f6_operate, f5_isRow_n hc, f6_isRow_n hm, f5_isBit, f5_isOperation, f6_in_eq, Option.bind_some, if_true, if_false, eq_self, Bool.false_eq_true, h1, h2])
  by_cases h3 : f5_isWithin z 0 (nI A.1 - 1) = true
  case neg => exact OK1_same (v := -1) ⟨A, H, h⟩ (by simp only [f5_operate, f5_isRow_n hc, f6_isRow_n hm, f5_isBit, f5_isOperation, f6_in_eq, Option.bind_some, if_true, if_false, eq_self, Bool.false_eq_true, h1, h2, h3]) (by simp only [f6_operate, f5_isRow_n hc, f6_isRow_n hm, f5_isBit, f5_isOperation, f6_in_eq, Option.bind_some, if_true, if_false, eq_self, Bool.false_eq_true, h1, h2, h3])
  by_cases h4 : f5_isWithin w 0 (nI A.1 - 1) = true
  case neg => exact OK1_same (v := -1) ⟨A, H, h⟩ (by simp only [f5_operate, f5_isRow_n hc, f6_isRow_n hm, f5_isBit, f5_isOperation, f6_in_eq, Option.bind_some, if_true, if_false, eq_self, Bool.false_eq_true, h1, h2, h3, h4]) (by simp only [f6_operate, f5_isRow_n hc, f6_isRow_n hm, f5_isBit, f5_isOperation, f6_in_eq, Option.bind_some, if_true, if_false, eq_self, Bool.false_eq_true, h1, h2, h3, h4])
  have h8 := hc.n8
  obtain ⟨q, hqn, rfl⟩ := isW_row hc.n8 h1
  obtain ⟨s, hsn, rfl⟩ := isW_row hc.n8 h3
  obtain ⟨t, htn, rfl⟩ := isW_row hc.n8 h4
  obtain ⟨op, hp1, hp2, rfl⟩ := isW_n (m := 0) (n := 3) (by omega) (by omega) h2
  have hq : q < 8 := by omega
  have hs : s < 8 := by omega
  have htt : t < 8 := by omega
  have hi := ib_q hq
  have hl := cl_q hq
  have his := ib_q hs
  have hls := cl_q hs
  have hit := ib_q htt
  have hlt := cl_q htt
  obtain ⟨J, a1, a2, a3, a4⟩ := f5_record_n hc hq
  have wk := f4_work_n (a2.rows hs) (a2.rows htt)
  obtain ⟨J', b1, b2, b3⟩ := f0_combine_n (b := 63 + 2 * q) (op := op) (a2.rows hs) (a2.rows htt) hp2 (by omega) (by omega)
  have fb := FrB_fb hq b3
  have hm' := MR_of hm (FC_j a4 fb)
  obtain ⟨K, d1, d2, d3, d4⟩ := f6_record_n hm'
  obtain ⟨K1, g1, g2⟩ := f6_workOf_n (by omega) (by omega) (d2.rows hs) (d2.rows htt)
  have d5 : MR K1 A (recH A H) := MR_kept d2 (fun j _ => by rw [g2 80 (by omega)]) (by rw [g2 79 (by omega)])
  obtain ⟨K', e1, e2, e3⟩ := f6_operateOn_n (to := 601 * q) (op := op) hp2 (by omega) (by omega) (by omega) (d5.rows hs) (d5.rows htt)
  refine ⟨nI (wkR (A.2 s) (A.2 t)), J', K', ?_, ?_, fin_j h a4 (CR_stepB a2 hq a3 b2 (FrB_st b3)) fb (MR_stepO d5 hq e2 e3) d3 d4 (fun c h1 h2 => by rw [e3.1 c h1, g2 c h2])⟩
  rotate_left
  · simp only [f6_operate, f6_isRow_n hm', f5_isRow_n hc, f5_isBit, f5_isOperation, f6_in_eq, Option.bind_some, if_true, if_false, eq_self, Bool.false_eq_true, h1, h2, h3, h4, f6_at_n, d1, g1, e1]
  · simp only [f5_operate, f5_isRow_n hc, f6_isRow_n hm, f5_isBit, f5_isOperation, f6_in_eq, Option.bind_some, if_true, if_false, eq_self, Bool.false_eq_true, h1, h2, h3, h4, hi, hl, his, hls, hit, hlt, a1, wk, b1]
