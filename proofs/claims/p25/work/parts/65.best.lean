/-! the best shift -/
def dr (H : List Snap) : List Snap := if H.length = 5 then H.dropLast else H
theorem recH_eq (A : Snap) (H : List Snap) : recH A H = A :: dr H := rfl
theorem dr_mem {H : List Snap} {s : Snap} (h : s ∈ dr H) : s ∈ H := by
  unfold dr at h
  split at h
  · exact List.dropLast_subset _ h
  · exact h
def sz (r : Row) (x : Nat) : Nat := (WS (shR r (x : Int)) 0).length
def BT (r : Row) (b x : Nat) : Prop := b < x ∧ ∀ y, y < x → sz r b < sz r y ∨ (sz r b = sz r y ∧ b ≤ y)
theorem bs_best {r : Row} : ∀ (k b x : Nat), BT r b x → BT r (bs r k b (sz r b) x) (x + k) := by
  intro k
  induction k with
  | zero => intro b x h; exact h
  | succ k ih =>
    intro b x h
    rw [bs, show x + (k + 1) = (x + 1) + k by omega]
    by_cases hs : sz r b ≤ (WS (shR r (x : Int)) 0).length
    · rw [if_pos hs]
      have hs' : sz r b ≤ sz r x := hs
      refine ih b (x + 1) ⟨by have := h.1; omega, fun y hy => ?_⟩
      by_cases hx : y = x
      · subst hx
        have := h.1
        omega
      · exact h.2 y (by omega)
    · rw [if_neg hs]
      have hs' : sz r x < sz r b := Nat.lt_of_not_le hs
      refine ih x (x + 1) ⟨by omega, fun y hy => ?_⟩
      by_cases hx : y = x
      · subst hx
        omega
      · have := h.2 y (by omega)
        omega
theorem bs_14 {r : Row} (h : okR r) : BT r (bs r 14 0 (WS r 0).length 1) 15 := by
  have e : sz r 0 = (WS r 0).length := by
    unfold sz
    rw [show ((0 : Nat) : Int) = 0 from rfl, shR_0 h]
  rw [← e]
  refine bs_best 14 0 1 ⟨by omega, fun y hy => ?_⟩
  have : y = 0 := by omega
  subst this
  omega
def w600 (b : Nat) : Bool := f5_isWithin (nI b) (-600) 600
theorem w600_all : ((List.range 15).all w600) = true := by decide +kernel
theorem w600_n {b : Nat} (h : b < 15) : f5_isWithin (nI b) (-600) 600 = true := List.all_eq_true.mp w600_all b (List.mem_range.mpr h)
section
variable {I : gI} {A : Snap} {H : List Snap}
/-- a shift, the size behind it, and back -/
theorem shift_back {q b : Nat} (hc : CR I A H) (hq : q < A.1) (hb : b < 15) : ∃ J J' : gI, f5_shift I (nI q) (nI b) = some (nI (shR (A.2 q) (b : Int)).1, J) ∧ f5_row J (nI q) 1 = some (nI (sz (A.2 q) b)) ∧ f5_undo J = some (nI (dr H).length, J') ∧ CR J' A (dr H) ∧ KT I J' := by
  obtain ⟨J, a1, a2, a3⟩ := shift_n hc hq (w600_n hb)
  rw [nI_toInt (by omega)] at a1 a3
  rw [recH_eq] at a3
  have r1 : f5_row J (nI q) 1 = _ := row_n (w := 1) a3 hq (by omega)
  obtain ⟨J', b1, b2, b3⟩ := f5_undo_n a3
  refine ⟨J, J', a1, ?_, b1, b2, a2.trans ⟨by rw [b3 19 (by omega) (by omega)], b3 20 (by omega) (by omega)⟩⟩
  rw [r1]
  show some (nI (WS (updR A.2 q (shR (A.2 q) (b : Int)) q) 0).length) = _
  rw [updR_self]
  rfl
theorem isBest_n {q y : Nat} (hc : CR I A H) (hq : q < A.1) (hy : y < 15) : ∃ J H', fL_isBest I (nI q) (nI y) = some (true, J) ∧ CR J A H' ∧ KT I J ∧ ∀ s ∈ H', s ∈ H := by
  have h8 := hc.n8
  have ok := (hc.rows (show q < 8 by omega)).1
  have bt := bs_14 ok
  obtain ⟨J0, a1, a2, a3⟩ := best_n hc hq
  generalize bs (A.2 q) 14 0 (WS (A.2 q) 0).length 1 = b at a1 bt
  obtain ⟨bt1, bt2⟩ := bt
  have bt3 := bt2 y hy
  obtain ⟨J1, J2, b1, b2, b3, b4, b5⟩ := shift_back a2 hq bt1
  obtain ⟨J3, J4, c1, c2, c3, c4, c5⟩ := shift_back b4 hq hy
  have l1 := (shR_ok (A.2 q) (b : Int)).1
  have l2 := (shR_ok (A.2 q) (y : Int)).1
  have l3 := b4.h5
  have l4 := c4.h5
  have s1 : sz (A.2 q) b ≤ 40 := WS_40 _ _
  have s2 : sz (A.2 q) y ≤ 40 := WS_40 _ _
  refine ⟨J4, dr (dr H), ?_, c4, (a3.trans b5).trans c5, fun s hs => dr_mem (dr_mem hs)⟩
  unfold fL_isBest
  rw [all_n hc]
  simp only [Option.bind_some]
  rw [a1]
  simp only [Option.bind_some]
  rw [if_neg (by rw [k0, xI_lt (by omega) (by omega)]; omega), if_neg (by rw [k14, xI_lt (by omega) (by omega)]; omega), all_n a2]
  simp only [Option.bind_some]
  rw [if_pos (cmp_self _), b1]
  simp only [Option.bind_some]
  rw [if_pos (pos_n (by omega)), b2]
  simp only [Option.bind_some]
  rw [b3]
  simp only [Option.bind_some]
  rw [if_neg (by rw [k0, xI_lt (by omega) (by omega)]; omega), c1]
  simp only [Option.bind_some]
  rw [if_pos (pos_n (by omega)), c2]
  simp only [Option.bind_some]
  rw [c3]
  simp only [Option.bind_some]
  rw [if_neg (by rw [k0, xI_lt (by omega) (by omega)]; omega), all_n c4]
  simp only [Option.bind_some]
  rw [if_pos (cmp_self _)]
  by_cases h1 : sz (A.2 q) b < sz (A.2 q) y
  · rw [if_pos (by rw [xI_lt (by omega) (by omega)]; exact h1)]
  · rw [if_neg (by rw [xI_lt (by omega) (by omega)]; exact h1), if_pos (by rw [xI_eq (by omega) (by omega)]; omega), if_neg (by rw [xI_lt (by omega) (by omega)]; omega)]
end
