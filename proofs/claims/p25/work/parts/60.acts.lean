/-! the actions of the class: what is answered, and the states behind it -/
def KT (I J : gI) : Prop := J 19 1 = I 19 1 ∧ J 20 = I 20
def ACT (I : gI) (A : Snap) (H : List Snap) (c : Option (Int32 × gI)) : Prop := ∃ v J, c = some (v, J) ∧ KT I J ∧ ((v < 0 ∧ CR J A H) ∨ (0 ≤ v ∧ ∃ A' : Snap, A.1 ≤ A'.1 ∧ CR J A' (recH A H)))
theorem KT.rfl' {I : gI} : KT I I := ⟨rfl, rfl⟩
theorem KT.trans {I J K : gI} (h : KT I J) (h2 : KT J K) : KT I K := ⟨h2.1.trans h.1, h2.2.trans h.2⟩
theorem ACT_bad {I : gI} {A : Snap} {H : List Snap} {c : Option (Int32 × gI)} {v : Int32} (h : CR I A H) (hv : v < 0) (hc : c = some (v, I)) : ACT I A H c := ⟨v, I, hc, KT.rfl', Or.inl ⟨hv, h⟩⟩
theorem ACT_ok {I J : gI} {A A' : Snap} {H : List Snap} {c : Option (Int32 × gI)} {v : Int32} (h : c = some (v, J)) (k : KT I J) (hv : 0 ≤ v) (cr : CR J A' (recH A H)) (hA : A.1 ≤ A'.1) : ACT I A H c := ⟨v, J, h, k, Or.inr ⟨hv, A', hA, cr⟩⟩
theorem pos_n {n : Nat} (h : n < 2 ^ 31) : (0 : Int32) ≤ nI n := by
  rw [k0, xI_le (by omega) h]
  omega
theorem KT_of {I J J' : gI} (a4 : ∀ c, 19 ≤ c → J c = I c) (fb : ∀ c, c = 19 ∨ c = 20 ∨ 79 ≤ c → J' c = J c) : KT I J' := ⟨by rw [fb 19 (by omega), a4 19 (by omega)], by rw [fb 20 (by omega), a4 20 (by omega)]⟩
theorem isWp {q n : Nat} (hn : n ≤ 8) (hq : q < n) : f5_isWithin (nI q) 0 (nI n - 1) = true := by
  unfold f5_isWithin
  rw [k0, k1, xI_sub (by omega), if_neg (by rw [xI_lt (by omega) (by omega)]; omega), if_neg (by rw [xI_lt (by omega) (by omega)]; omega)]
theorem isWr {q m n : Nat} (h1 : m ≤ q) (h2 : q ≤ n) (hn : n < 2 ^ 31) : f5_isWithin (nI q) (nI m) (nI n) = true := by
  unfold f5_isWithin
  rw [if_neg (by rw [xI_lt (by omega) (by omega)]; omega), if_neg (by rw [xI_lt (by omega) (by omega)]; omega)]
theorem wS_lt {r : Row} (h : okR r) : (WS r 0).length < 2 ^ 31 := by
  have := WS_len (ng_le h)
  omega
theorem act_append {I : gI} {A : Snap} {H : List Snap} (hc : CR I A H) (x y z : Int32) : ACT I A H (f5_append I x y z) := by
  by_cases h1 : f5_isWithin x 0 (nI A.1 - 1) = true
  case neg => exact ACT_bad hc (v := -1) (by decide) (by simp only [f5_append, f5_isRow_n hc, f5_isBit, f5_isOperation, Option.bind_some, if_true, if_false, eq_self, Bool.false_eq_true, h1])
  by_cases h2 : f5_isWithin y 0 1 = true
  case neg => exact ACT_bad hc (v := -1) (by decide) (by simp only [f5_append, f5_isRow_n hc, f5_isBit, f5_isOperation, Option.bind_some, if_true, if_false, eq_self, Bool.false_eq_true, h1, h2])
  by_cases h3 : f5_isWithin z 1 600 = true
  case neg => exact ACT_bad hc (v := -1) (by decide) (by simp only [f5_append, f5_isRow_n hc, f5_isBit, f5_isOperation, Option.bind_some, if_true, if_false, eq_self, Bool.false_eq_true, h1, h2, h3])
  obtain ⟨q, hqn, rfl⟩ := isW_row hc.n8 h1
  have hq : q < 8 := by have := hc.n8; omega
  have hi := ib_q hq
  have hl := cl_q hq
  obtain ⟨v, rfl⟩ := isW_bit h2
  obtain ⟨n, hn1, hn2, rfl⟩ := isW_n (m := 1) (n := 600) (by omega) (by omega) h3
  have l5 := (hc.rows hq).2.1
  have l0 := (hc.rows hq).1.1
  by_cases h4 : nI (A.2 q).1 + nI n ≤ 600
  case neg => exact ACT_bad hc (v := -3) (by decide) (by simp only [f5_append, f5_isRow_n hc, f5_isBit, f5_isOperation, Option.bind_some, if_true, if_false, eq_self, Bool.false_eq_true, h1, h2, h3, hi, hl, l5, h4])
  have h5 : (A.2 q).1 + n ≤ 600 := by rw [nI_add, k600, xI_le (by omega) (by omega)] at h4; exact h4
  obtain ⟨J, a1, a2, a3, a4⟩ := f5_record_n hc hq
  obtain ⟨J', b1, b2, b3⟩ := f0_addRun_n (v := v) (a2.rows hq) h5
  have fb := FrB_fb hq b3
  refine ACT_ok (v := nI ((A.2 q).1 + n)) (J := J') ?_ (KT_of a4 fb) (pos_n (by omega)) (CR_stepB a2 hq a3 b2 (FrB_st b3)) (Nat.le_refl _)
  simp only [f5_append, f5_isRow_n hc, f5_isBit, f5_isOperation, Option.bind_some, if_true, if_false, eq_self, Bool.false_eq_true, h1, h2, h3, hi, hl, l5, h4, a1, b1, b2.2.1]
  rfl
theorem append_n {I : gI} {A : Snap} {H : List Snap} {q n : Nat} {v : Bool} (hc : CR I A H) (hqn : q < A.1) (hn1 : 1 ≤ n) (h5 : (A.2 q).1 + n ≤ 600) : ∃ J w, f5_append I (nI q) (nI v.toNat) (nI n) = some (w, J) ∧ KT I J ∧ CR J (A.1, updR A.2 q (addR (A.2 q) n (fun _ => v))) (recH A H) := by
  have hq : q < 8 := by have := hc.n8; omega
  have hi := ib_q hq
  have hl := cl_q hq
  have h1 := isWp hc.n8 hqn
  have h2 : f5_isWithin (nI v.toNat) 0 1 = true := isWr (m := 0) (n := 1) (by omega) (by cases v <;> decide) (by omega)
  have h3 : f5_isWithin (nI n) 1 600 = true := isWr (m := 1) (n := 600) hn1 (by omega) (by omega)
  have l5 := (hc.rows hq).2.1
  have h4 : nI (A.2 q).1 + nI n ≤ 600 := by rw [nI_add, k600, xI_le (by omega) (by omega)]; exact h5
  obtain ⟨J, a1, a2, a3, a4⟩ := f5_record_n hc hq
  obtain ⟨J', b1, b2, b3⟩ := f0_addRun_n (v := v) (a2.rows hq) h5
  have fb := FrB_fb hq b3
  refine ⟨J', nI ((A.2 q).1 + n), ?_, KT_of a4 fb, CR_stepB a2 hq a3 b2 (FrB_st b3)⟩
  simp only [f5_append, f5_isRow_n hc, f5_isBit, f5_isOperation, Option.bind_some, if_true, if_false, eq_self, Bool.false_eq_true, h1, h2, h3, hi, hl, l5, h4, a1, b1, b2.2.1]
  rfl
theorem act_write {I : gI} {A : Snap} {H : List Snap} (hc : CR I A H) (x y z : Int32) : ACT I A H (f5_write I x y z) := by
  by_cases h1 : f5_isWithin x 0 (nI A.1 - 1) = true
  case neg => exact ACT_bad hc (v := -1) (by decide) (by simp only [f5_write, f5_isRow_n hc, f5_isBit, f5_isOperation, Option.bind_some, if_true, if_false, eq_self, Bool.false_eq_true, h1])
  by_cases h2 : f5_isWithin y 0 65535 = true
  case neg => exact ACT_bad hc (v := -1) (by decide) (by simp only [f5_write, f5_isRow_n hc, f5_isBit, f5_isOperation, Option.bind_some, if_true, if_false, eq_self, Bool.false_eq_true, h1, h2])
  by_cases h3 : f5_isWithin z 1 16 = true
  case neg => exact ACT_bad hc (v := -1) (by decide) (by simp only [f5_write, f5_isRow_n hc, f5_isBit, f5_isOperation, Option.bind_some, if_true, if_false, eq_self, Bool.false_eq_true, h1, h2, h3])
  obtain ⟨q, hqn, rfl⟩ := isW_row hc.n8 h1
  have hq : q < 8 := by have := hc.n8; omega
  have hi := ib_q hq
  have hl := cl_q hq
  obtain ⟨v, hv1, hv2, rfl⟩ := isW_n (m := 0) (n := 65535) (by omega) (by omega) h2
  obtain ⟨n, hn1, hn2, rfl⟩ := isW_n (m := 1) (n := 16) (by omega) (by omega) h3
  have l5 := (hc.rows hq).2.1
  have l0 := (hc.rows hq).1.1
  by_cases h4 : nI (A.2 q).1 + nI n ≤ 600
  case neg => exact ACT_bad hc (v := -3) (by decide) (by simp only [f5_write, f5_isRow_n hc, f5_isBit, f5_isOperation, Option.bind_some, if_true, if_false, eq_self, Bool.false_eq_true, h1, h2, h3, hi, hl, l5, h4])
  have h5 : (A.2 q).1 + n ≤ 600 := by rw [nI_add, k600, xI_le (by omega) (by omega)] at h4; exact h4
  obtain ⟨J, a1, a2, a3, a4⟩ := f5_record_n hc hq
  obtain ⟨J', b1, b2, b3⟩ := f0_addNumber_n (x := v) (a2.rows hq) (by omega) hn2 h5
  have b4 := f4_size_n b2
  have fb := FrB_fb hq b3
  refine ACT_ok (v := nI (WS (addR (A.2 q) n fun i => v.testBit i) 0).length) (J := J') ?_ (KT_of a4 fb) (pos_n (wS_lt b2.1)) (CR_stepB a2 hq a3 b2 (FrB_st b3)) (Nat.le_refl _)
  simp only [f5_write, f5_isRow_n hc, f5_isBit, f5_isOperation, Option.bind_some, if_true, if_false, eq_self, Bool.false_eq_true, h1, h2, h3, hi, hl, l5, h4, a1, b1, b4]
theorem act_resize {I : gI} {A : Snap} {H : List Snap} (hc : CR I A H) (x y : Int32) : ACT I A H (f5_resize I x y) := by
  by_cases h1 : f5_isWithin x 0 (nI A.1 - 1) = true
  case neg => exact ACT_bad hc (v := -1) (by decide) (by simp only [f5_resize, f5_isRow_n hc, f5_isBit, f5_isOperation, Option.bind_some, if_true, if_false, eq_self, Bool.false_eq_true, h1])
  by_cases h2 : f5_isWithin y 0 600 = true
  case neg => exact ACT_bad hc (v := -1) (by decide) (by simp only [f5_resize, f5_isRow_n hc, f5_isBit, f5_isOperation, Option.bind_some, if_true, if_false, eq_self, Bool.false_eq_true, h1, h2])
  obtain ⟨q, hqn, rfl⟩ := isW_row hc.n8 h1
  have hq : q < 8 := by have := hc.n8; omega
  have hi := ib_q hq
  have hl := cl_q hq
  obtain ⟨p, hp1, hp2, rfl⟩ := isW_n (m := 0) (n := 600) (by omega) (by omega) h2
  obtain ⟨J, a1, a2, a3, a4⟩ := f5_record_n hc hq
  obtain ⟨J', b1, b2, b3⟩ := f0_cutTo_n (p := p) (a2.rows hq) hp2
  have l5 := (a2.rows hq).2.1
  have l0 := (a2.rows hq).1.1
  have fb := FrB_fb hq b3
  refine ACT_ok (v := nI (A.2 q).1) (J := J') ?_ (KT_of a4 fb) (pos_n (by omega)) (CR_stepB a2 hq a3 b2 (FrB_st b3)) (Nat.le_refl _)
  simp only [f5_resize, f5_isRow_n hc, f5_isBit, f5_isOperation, Option.bind_some, if_true, if_false, eq_self, Bool.false_eq_true, h1, h2, hi, hl, a1, b1, l5]
theorem act_not {I : gI} {A : Snap} {H : List Snap} (hc : CR I A H) (x : Int32) : ACT I A H (f5_not I x) := by
  by_cases h1 : f5_isWithin x 0 (nI A.1 - 1) = true
  case neg => exact ACT_bad hc (v := -1) (by decide) (by simp only [f5_not, f5_isRow_n hc, f5_isBit, f5_isOperation, Option.bind_some, if_true, if_false, eq_self, Bool.false_eq_true, h1])
  obtain ⟨q, hqn, rfl⟩ := isW_row hc.n8 h1
  have hq : q < 8 := by have := hc.n8; omega
  have hi := ib_q hq
  have hl := cl_q hq
  obtain ⟨J, a1, a2, a3, a4⟩ := f5_record_n hc hq
  obtain ⟨J', b1, b2, b3⟩ := f0_invert_n (a2.rows hq)
  have b4 := f0_ones_n b2
  have b5 := cnt_le (notR (A.2 q)).2 (notR (A.2 q)).1 0
  have b6 := b2.1.1
  have fb := FrB_fb hq b3
  generalize cnt (notR (A.2 q)).2 0 (notR (A.2 q)).1 = w at b4 b5
  refine ACT_ok (v := nI w) (J := J') ?_ (KT_of a4 fb) (pos_n (by omega)) (CR_stepB a2 hq a3 b2 (FrB_st b3)) (Nat.le_refl _)
  unfold f5_not
  rw [f5_isRow_n hc, if_pos h1, a1, hl]
  simp only [Option.bind_some]
  rw [if_pos hi, b1]
  simp only [Option.bind_some]
  rw [if_pos hi, b4]
  rfl
theorem shift_n {I : gI} {A : Snap} {H : List Snap} {q : Nat} {y : Int32} (hc : CR I A H) (hqn : q < A.1) (h2 : f5_isWithin y (-600) 600 = true) : ∃ J, f5_shift I (nI q) y = some (nI (shR (A.2 q) y.toInt).1, J) ∧ KT I J ∧ CR J (A.1, updR A.2 q (shR (A.2 q) y.toInt)) (recH A H) := by
  have h1 := isWp hc.n8 hqn
  have hq : q < 8 := by have := hc.n8; omega
  have hi := ib_q hq
  have hl := cl_q hq
  obtain ⟨y1, y2⟩ := isW_600 h2
  obtain ⟨J, a1, a2, a3, a4⟩ := f5_record_n hc hq
  obtain ⟨J1, c1, c2, c3⟩ := f0_moveFrom_n (b := 61) (a2.rows hq) y1 y2 (by omega) (by omega)
  obtain ⟨J', b1, b2, b3⟩ := f0_copyFrom_n (b := 63 + 2 * q) c2 (by omega)
  have fb : ∀ c, c = 19 ∨ c = 20 ∨ 79 ≤ c → J' c = J c := fun c hc => by rw [b3 c (by omega) (by omega), c3 c (by omega) (by omega)]
  have fs : ∀ c, c < 61 ∨ 62 < c → c ≠ 63 + 2 * q → c ≠ 64 + 2 * q → J' c = J c := fun c hc h1 h2 => by rw [b3 c (by omega) (by omega), c3 c (by omega) (by omega)]
  refine ⟨J', ?_, KT_of a4 fb, CR_stepB a2 hq a3 b2 fs⟩
  simp only [f5_shift, f5_isRow_n hc, f5_isBit, f5_isOperation, Option.bind_some, if_true, if_false, eq_self, Bool.false_eq_true, h1, h2, hi, hl, a1, c1, b1, b2.2.1]
theorem act_shift {I : gI} {A : Snap} {H : List Snap} (hc : CR I A H) (x y : Int32) : ACT I A H (f5_shift I x y) := by
  by_cases h1 : f5_isWithin x 0 (nI A.1 - 1) = true
  case neg => exact ACT_bad hc (v := -1) (by decide) (by simp only [f5_shift, f5_isRow_n hc, f5_isBit, f5_isOperation, Option.bind_some, if_true, if_false, eq_self, Bool.false_eq_true, h1])
  by_cases h2 : f5_isWithin y (-600) 600 = true
  case neg => exact ACT_bad hc (v := -1) (by decide) (by simp only [f5_shift, f5_isRow_n hc, f5_isBit, f5_isOperation, Option.bind_some, if_true, if_false, eq_self, Bool.false_eq_true, h1, h2])
  obtain ⟨q, hqn, rfl⟩ := isW_row hc.n8 h1
  obtain ⟨J, a1, a2, a3⟩ := shift_n hc hqn h2
  have := (shR_ok (A.2 q) y.toInt).1
  exact ACT_ok a1 a2 (pos_n (by omega)) a3 (Nat.le_refl _)
theorem wk_le (r s : Row) : wkR r s ≤ 41 := cnt_le _ _ _
theorem act_operate {I : gI} {A : Snap} {H : List Snap} (hc : CR I A H) (x y z w : Int32) : ACT I A H (f5_operate I x y z w) := by
  by_cases h1 : f5_isWithin x 0 (nI A.1 - 1) = true
  case neg => exact ACT_bad hc (v := -1) (by decide) (by simp only [f5_operate, f5_isRow_n hc, f5_isBit, f5_isOperation, Option.bind_some, if_true, if_false, eq_self, Bool.false_eq_true, h1])
  by_cases h2 : f5_isWithin y 0 3 = true
  case neg => exact ACT_bad hc (v := -1) (by decide) (by simp only [f5_operate, f5_isRow_n hc, f5_isBit, f5_isOperation, Option.bind_some, if_true, if_false, eq_self, Bool.false_eq_true, h1, h2])
  by_cases h3 : f5_isWithin z 0 (nI A.1 - 1) = true
  case neg => exact ACT_bad hc (v := -1) (by decide) (by simp only [f5_operate, f5_isRow_n hc, f5_isBit, f5_isOperation, Option.bind_some, if_true, if_false, eq_self, Bool.false_eq_true, h1, h2, h3])
  by_cases h4 : f5_isWithin w 0 (nI A.1 - 1) = true
  case neg => exact ACT_bad hc (v := -1) (by decide) (by simp only [f5_operate, f5_isRow_n hc, f5_isBit, f5_isOperation, Option.bind_some, if_true, if_false, eq_self, Bool.false_eq_true, h1, h2, h3, h4])
  have h8 := hc.n8
  obtain ⟨q, hqn, rfl⟩ := isW_row hc.n8 h1
  obtain ⟨s, hsn, rfl⟩ := isW_row hc.n8 h3
  obtain ⟨t, htn, rfl⟩ := isW_row hc.n8 h4
  obtain ⟨op, hp1, hp2, rfl⟩ := isW_n (m := 0) (n := 3) (by omega) (by omega) h2
  have hq : q < 8 := by omega
  have hs : s < 8 := by omega
  have htt : t < 8 := by omega
  have hi := ib_q hq
  have hl := cl_q hq
  have his := ib_q hs
  have hls := cl_q hs
  have hit := ib_q htt
  have hlt := cl_q htt
  obtain ⟨J, a1, a2, a3, a4⟩ := f5_record_n hc hq
  have wk := f4_work_n (a2.rows hs) (a2.rows htt)
  have wl := wk_le (A.2 s) (A.2 t)
  obtain ⟨J', b1, b2, b3⟩ := f0_combine_n (b := 63 + 2 * q) (op := op) (a2.rows hs) (a2.rows htt) hp2 (by omega) (by omega)
  have fb := FrB_fb hq b3
  refine ACT_ok (v := nI (wkR (A.2 s) (A.2 t))) (J := J') ?_ (KT_of a4 fb) (pos_n (by omega)) (CR_stepB a2 hq a3 b2 (FrB_st b3)) (Nat.le_refl _)
  simp only [f5_operate, f5_isRow_n hc, f5_isBit, f5_isOperation, Option.bind_some, if_true, if_false, eq_self, Bool.false_eq_true, h1, h2, h3, h4, hi, hl, his, hls, hit, hlt, a1, wk, b1]
theorem act_set {I : gI} {A : Snap} {H : List Snap} (hc : CR I A H) (x y z : Int32) : ACT I A H (f5_set I x y z) := by
  by_cases h1 : f5_isWithin x 0 (nI A.1 - 1) = true
  case neg => exact ACT_bad hc (v := -1) (by decide) (by simp only [f5_set, f5_isRow_n hc, f5_isBit, f5_isOperation, Option.bind_some, if_true, if_false, eq_self, Bool.false_eq_true, h1])
  obtain ⟨q, hqn, rfl⟩ := isW_row hc.n8 h1
  have hq : q < 8 := by have := hc.n8; omega
  have hi := ib_q hq
  have hl := cl_q hq
  have hp5 := f5_isPlace_n hc hq y
  by_cases h2 : f5_isWithin y 0 (nI (A.2 q).1 - 1) = true
  case neg => exact ACT_bad hc (v := -1) (by decide) (by simp only [f5_set, f5_isRow_n hc, f5_isBit, f5_isOperation, Option.bind_some, if_true, if_false, eq_self, Bool.false_eq_true, h1, hp5, h2])
  by_cases h3 : f5_isWithin z 0 1 = true
  case neg => exact ACT_bad hc (v := -1) (by decide) (by simp only [f5_set, f5_isRow_n hc, f5_isBit, f5_isOperation, Option.bind_some, if_true, if_false, eq_self, Bool.false_eq_true, h1, hp5, h2, h3])
  have l0 := (hc.rows hq).1.1
  obtain ⟨p, hp, rfl⟩ := isW_pl (by omega) h2
  obtain ⟨v, rfl⟩ := isW_bit h3
  obtain ⟨J, a1, a2, a3, a4⟩ := f5_record_n hc hq
  have b0 := f0_valueAt_n (p := p) (a2.rows hq) (by omega)
  obtain ⟨J', b1, b2, b3⟩ := f0_putAt_r (v := v) (a2.rows hq) hp
  have fb := FrB_fb hq b3
  have hb : ((A.2 q).2 p).toNat < 2 := by cases (A.2 q).2 p <;> decide
  refine ACT_ok (v := nI ((A.2 q).2 p).toNat) (J := J') ?_ (KT_of a4 fb) (pos_n (by omega)) (CR_stepB a2 hq a3 b2 (FrB_st b3)) (Nat.le_refl _)
  simp only [f5_set, f5_isRow_n hc, f5_isBit, f5_isOperation, Option.bind_some, if_true, if_false, eq_self, Bool.false_eq_true, h1, hp5, h2, h3, hi, hl, a1, b0, b1]
theorem make_n {I : gI} {A : Snap} {H : List Snap} (hc : CR I A H) (hq : A.1 < 8) : ∃ J, f5_make I = some (nI A.1, J) ∧ KT I J ∧ CR J (A.1 + 1, updR A.2 A.1 (cutR (A.2 A.1) 0)) (recH A H) := by
  have hi := ib_q hq
  have hl := cl_q hq
  obtain ⟨J, a1, a2, a3, a4⟩ := f5_record_n hc hq
  obtain ⟨J', b1, b2, b3⟩ := f0_cutTo_n (p := 0) (a2.rows hq) (by omega)
  have n1 : J' 0 1 = nI A.1 := by rw [b3 0 (by omega) (by omega)]; exact a2.n
  have fb : ∀ c, c = 19 ∨ c = 20 ∨ 79 ≤ c → uI J' 0 1 (nI (A.1 + 1)) c = J c := fun c hc => by rw [uI_row (by omega)]; exact FrB_fb hq b3 c hc
  have cr : CR (uI J' 0 1 (nI (A.1 + 1))) (A.1 + 1, updR A.2 A.1 (cutR (A.2 A.1) 0)) (recH A H) := CR_step a2 hq a3 (BR_cells b2 (uI_row (by omega)) (uI_row (by omega))) (uI_self _ _ _ _) (by omega) (fun c _ h0 _ h3 h4 => by rw [uI_row h0]; exact b3 c h3 (by omega))
  refine ⟨uI J' 0 1 (nI (A.1 + 1)), ?_, KT_of a4 fb, cr⟩
  unfold f5_make
  rw [hc.n, if_pos (by rw [k8, xI_lt (by omega) (by omega)]; omega), a1]
  simp only [Option.bind_some]
  rw [if_pos hi, hl, k0, b1]
  simp only [Option.bind_some]
  rw [n1, k1, nI_add]
theorem act_make {I : gI} {A : Snap} {H : List Snap} (hc : CR I A H) : ACT I A H (f5_make I) := by
  have h8 := hc.n8
  by_cases h1 : A.1 = 8
  · refine ACT_bad hc (v := -3) (by decide) ?_
    unfold f5_make
    rw [hc.n, if_neg (by rw [k8, xI_lt (by omega) (by omega)]; omega)]
  obtain ⟨J, a1, a2, a3⟩ := make_n hc (by omega)
  exact ACT_ok a1 a2 (pos_n (by omega)) a3 (Nat.le_succ _)
def n1k (p : Nat) : Bool := decide (-1000 - nI p < 0)
theorem n1k_all : ((List.range 101).all n1k) = true := by decide +kernel
theorem neg1000 {p : Nat} (h : p ≤ 100) : -1000 - nI p < 0 := of_decide_eq_true (List.all_eq_true.mp n1k_all p (List.mem_range.mpr (by omega)))
/-- the text: t signs, and what they are -/
def TT (I : gI) (t : Nat) : Prop := t ≤ 100 ∧ I 19 1 = nI t ∧ ∀ j, j < t → ∃ c, 1 ≤ c ∧ c ≤ 255 ∧ I 20 j = nI c
theorem TT.kept {I J : gI} {t : Nat} (h : TT I t) (k : KT I J) : TT J t := ⟨h.1, k.1.trans h.2.1, fun j hj => by
  rw [k.2]
  exact h.2.2 j hj⟩
theorem act_evaluate {I : gI} {A : Snap} {H : List Snap} {t : Nat} (hc : CR I A H) (hT0 : TT I t) (x : Int32) : ACT I A H (f5_evaluate I x) := by
  obtain ⟨t1, t2, t4⟩ := hT0
  by_cases h1 : f5_isWithin x 0 (nI A.1 - 1) = true
  case neg => exact ACT_bad hc (v := -1) (by decide) (by simp only [f5_evaluate, f5_isRow_n hc, f5_isBit, f5_isOperation, Option.bind_some, if_true, if_false, eq_self, Bool.false_eq_true, h1])
  have h8 := hc.n8
  obtain ⟨q, hqn, rfl⟩ := isW_row hc.n8 h1
  have hq : q < 8 := by omega
  have hi := ib_q hq
  have hl := cl_q hq
  obtain ⟨ch, hch⟩ : ∃ ch : Nat → Nat, ch = fun j => if j < t then (I 20 j).toNatClampNeg else 0 := ⟨_, rfl⟩
  have c20 : ∀ j, j < t → I 20 j = nI (ch j) ∧ 1 ≤ ch j ∧ ch j ≤ 255 := fun j hj => by
    obtain ⟨c, k1', k2', k3'⟩ := t4 j hj
    have e : ch j = c := by
      rw [hch]
      show (if j < t then (I 20 j).toNatClampNeg else 0) = c
      rw [if_pos hj, k3', xI_cl (by omega)]
    rw [e]
    exact ⟨k3', k1', k2'⟩
  have hT : TXT ch t := ⟨t1, fun j hj => (c20 j hj).2, fun j hj => by
    rw [hch]
    show (if j < t then (I 20 j).toNatClampNeg else 0) = 0
    rw [if_neg (by omega)]⟩
  obtain ⟨b, I1, r1, r2, r3, r4⟩ := f2_read_n (n := A.1) (ρ := A.2) hT (by omega) h8 t2 (fun j hj => (c20 j hj).1) (fun q hq => hc.rows hq)
  have c1 : CR I1 A H := CR_kept hc (fun c a b => r2 c (by omega) (by omega))
  have kt : KT I I1 := ⟨by rw [r3, t2], r2 20 (by omega) (by omega)⟩
  rcases hres : topS ch A.1 A.2 with ⟨kd, p, d⟩ | v
  · rw [hres] at r4
    obtain ⟨s1, s2, s3, s4⟩ := r4
    have hp : p ≤ t := topS_b hT hres
    refine ⟨-1000 - nI p, I1, ?_, kt, Or.inl ⟨?_, c1⟩⟩
    · unfold f5_evaluate
      rw [f5_isRow_n hc, if_pos h1, hc.n, r1]
      simp only [Option.bind_some]
      rw [s1, if_neg (by decide), s3]
    · exact neg1000 (by omega)
  · rw [hres] at r4
    obtain ⟨s1, s2, s3, s4, s5⟩ := r4
    obtain ⟨J, a1, a2, a3, a4⟩ := f5_record_n c1 hq
    have b0 : BR J 23 v := BR_cells s2 (a4 23 (by omega)) (a4 24 (by omega))
    obtain ⟨J', b1, b2, b3⟩ := f0_copyFrom_n (b := 63 + 2 * q) b0 (by omega)
    have sz := f4_size_n b2
    have cr : CR J' (A.1, updR A.2 q v) (recH A H) := CR_stepB a2 hq a3 b2 (FrB_st b3)
    have kt2 : KT I1 J' := KT_of a4 (FrB_fb hq b3)
    refine ACT_ok (v := nI (WS v 0).length) (J := J') ?_ (kt.trans kt2) (pos_n (wS_lt b2.1)) (cr) (Nat.le_refl _)
    unfold f5_evaluate
    rw [f5_isRow_n hc, if_pos h1, hc.n, r1]
    simp only [Option.bind_some]
    rw [s1, if_pos (by rfl), a1]
    simp only [Option.bind_some]
    rw [if_pos hi]
    unfold f2_result
    simp only [Option.bind_some]
    rw [if_pos (by decide), hl, b1]
    simp only [Option.bind_some]
    rw [if_pos hi, sz]
    rfl
