/-! the law: every script is answered alike -/
theorem st1 {c : Option (Int32 × gI)} {m : gI → Option (Int32 × gI)} {rest : gI → Option Bool} (h : OK1 c m) (hr : ∀ J, RelE J → rest J = some true) : (c.bind fun q => (m q.2).bind fun r => if q.1 = r.1 then rest r.2 else some false) = some true := by
  obtain ⟨v, I1, I2, h1, h2, h3⟩ := h
  rw [h1]
  simp only [Option.bind_some]
  rw [h2]
  simp only [Option.bind_some, if_true]
  exact hr I2 h3
theorem st0 {c m : Option Int32} {rest : Option Bool} (h : OK0 c m) (hr : rest = some true) : (c.bind fun q => m.bind fun r => if q = r then rest else some false) = some true := by
  obtain ⟨v, h1, h2⟩ := h
  rw [h1, h2]
  simp only [Option.bind_some, if_true]
  exact hr
theorem ite_st {p : Prop} [Decidable p] {a b x : Option Bool} (h1 : a = x) (h2 : b = x) : (if p then a else b) = x := by
  split <;> assumption
set_option maxRecDepth 100000 in
set_option maxHeartbeats 4000000 in
theorem law_n (hev : ∀ (I : gI) (A : Snap) (H : List Snap), Rel I A H → ∀ x, OK1 (f5_evaluate I x) (fun J => f6_evaluate J x)) {L : Nat} {xs : Nat → Int32} (hL : L ≤ 2560) : ∀ (k x : Nat) (I : gI), RelE I → x ≤ L → L < x + 5 * k → lawL L xs k I (nI x) = some true := by
  intro k
  induction k with
  | zero => intro x I h1 h2 h3; omega
  | succ k ih =>
    intro x I hR h2 h3
    rw [lawL]
    by_cases hx : L < x + 5
    · rw [if_pos (by
        have e1 := xI_toInt_sub (a := L) (b := 5) (by omega) (by omega)
        have e2 := nI_toInt (n := x) (by omega)
        rw [Int32.lt_iff_toInt_lt, k5, e1, e2]
        omega)]
    · rw [if_neg (by
        have e1 := xI_toInt_sub (a := L) (b := 5) (by omega) (by omega)
        have e2 := nI_toInt (n := x) (by omega)
        rw [Int32.lt_iff_toInt_lt, k5, e1, e2]
        omega)]
      have hib : ∀ d, d < 5 → ib (nI (x + d)) L = true := fun d hd => by
        rw [xI_ib (by omega)]
        simp
        omega
      have b0 := hib 0 (by omega)
      have b1 := hib 1 (by omega)
      have b2 := hib 2 (by omega)
      have b3 := hib 3 (by omega)
      have b4 := hib 4 (by omega)
      rw [Nat.add_zero] at b0
      have e1 : nI x + 1 = nI (x + 1) := nI_add x 1
      have e2 : nI x + 2 = nI (x + 2) := nI_add x 2
      have e3 : nI x + 3 = nI (x + 3) := nI_add x 3
      have e4 : nI x + 4 = nI (x + 4) := nI_add x 4
      have e5 : nI x + 5 = nI (x + 5) := nI_add x 5
      rw [if_pos b0]
      simp only [e1, e2, e3, e4, e5, b1, b2, b3, b4, if_true, eq_self]
      have hr : ∀ J, RelE J → lawL L xs k J (nI (x + 5)) = some true := fun J hJ => ih (x + 5) J hJ (by omega) (by omega)
      obtain ⟨A, H, h⟩ := hR
      have hr0 := hr I ⟨A, H, h⟩
      refine ite_st (st1 (op_make h) hr) ?_
      refine ite_st (st1 (op_append h _ _ _) hr) ?_
      refine ite_st (st1 (op_write h _ _ _) hr) ?_
      refine ite_st (st1 (op_set h _ _ _) hr) ?_
      refine ite_st (st1 (op_resize h _ _) hr) ?_
      refine ite_st (st1 (op_operate h _ _ _ _) hr) ?_
      refine ite_st (st1 (op_not h _) hr) ?_
      refine ite_st (st1 (op_shift h _ _) hr) ?_
      refine ite_st (st1 (op_undo h) hr) ?_
      refine ite_st (st1 (op_type h _) hr) ?_
      refine ite_st (st1 (op_clear h) hr) ?_
      refine ite_st (st1 (hev I A H h _) hr) ?_
      refine ite_st ((if_pos (op_failure h _)).trans hr0) ?_
      refine ite_st (st0 (op_count h _) hr0) ?_
      refine ite_st (st0 (op_row h _ _) hr0) ?_
      refine ite_st (st0 (op_word h _ _) hr0) ?_
      refine ite_st (st0 (op_bit h _ _) hr0) ?_
      refine ite_st (st0 (op_rank h _ _) hr0) ?_
      refine ite_st (st0 (op_select h _ _) hr0) ?_
      refine ite_st (st1 (op_would h _ _ _ _) hr) ?_
      refine ite_st (st0 (op_same h _) hr0) ?_
      refine ite_st (st1 (op_best h _) hr) ?_
      exact hr0
/-! the start -/
def R0 : Row := (0, fun _ => false)
theorem R0_ok : okR R0 := ⟨Nat.zero_le _, fun _ _ => rfl⟩
theorem gw_R0 (j : Nat) : gw R0.2 j = 0 := gw_zero (fun _ _ => rfl)
theorem I0_0 {a j : Nat} (h1 : a ≠ 3) (h2 : a ≠ 19 ∨ j ≠ 6) : I0 a j = 0 := by
  unfold I0
  rw [if_neg h1, if_neg (by omega)]
theorem I0_3 (j : Nat) : I0 3 j = nI (4 + 3 * j) := by
  unfold I0
  rw [if_pos rfl]
theorem cO_I0 {j : Nat} (hj : j < 5) : cO I0 j = 4 + 3 * j := by
  unfold cO
  rw [I0_3, xI_cl (by omega)]
theorem Rel_I0 : Rel I0 (0, fun _ => R0) [] := by
  refine ⟨⟨I0_0 (by omega) (by omega), by decide, fun q hq => ⟨R0_ok, I0_0 (by omega) (by omega), fun j _ => ?_⟩, I0_0 (by omega) (by omega), by decide, ⟨fun j hj => ?_, fun j hj => ?_, fun i j hi hj e => ?_⟩, trivial⟩, ⟨⟨I0_0 (by omega) (by omega), fun q hq => ⟨R0_ok, I0_0 (by omega) (by omega), fun k hk => absurd hk (Nat.not_lt_zero k)⟩⟩, I0_0 (by omega) (by omega), by decide, trivial⟩, ⟨⟨0, by omega, I0_0 (by omega) (by omega), I0_0 (by omega) (by omega), fun j hj => absurd hj (Nat.not_lt_zero j)⟩, ?_, ?_, ?_⟩⟩
  · rw [gw_R0]
    exact I0_0 (by omega) (by omega)
  · rw [cO_I0 hj]
    rcases (show j = 0 ∨ j = 1 ∨ j = 2 ∨ j = 3 ∨ j = 4 by omega) with rfl | rfl | rfl | rfl | rfl <;> rfl
  · rw [cO_I0 hj, I0_3]
  · rw [cO_I0 hi, cO_I0 hj] at e
    omega
  · rw [I0_0 (by omega) (by omega), I0_0 (by omega) (by omega)]
  · rw [I0_0 (by omega) (by omega), I0_0 (by omega) (by omega)]
  · rw [I0_0 (by omega) (by omega), I0_0 (by omega) (by omega)]
theorem HLAW_of (hev : ∀ (I : gI) (A : Snap) (H : List Snap), Rel I A H → ∀ x, OK1 (f5_evaluate I x) (fun J => f6_evaluate J x)) : ∀ (L : Nat) (xs : Nat → Int32), L ≤ 2560 → ∃ k, lawL L xs k I0 0 = some true := fun L _ hL => ⟨L + 1, law_n hev hL (L + 1) 0 I0 ⟨_, _, Rel_I0⟩ (by omega) (by omega)⟩
