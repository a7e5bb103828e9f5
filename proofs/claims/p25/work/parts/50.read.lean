/-! what reading a text comes to -/
def skp (ch : Nat → Nat) : Nat → Nat → Nat
  | 0, p => p
  | k + 1, p => if ch p = 32 then skp ch k (p + 1) else p
def isD (c : Nat) : Bool := decide (48 ≤ c ∧ c ≤ 57)
def TXT (ch : Nat → Nat) (t : Nat) : Prop := t ≤ 100 ∧ (∀ j, j < t → 1 ≤ ch j ∧ ch j ≤ 255) ∧ ∀ j, t ≤ j → ch j = 0
theorem TXT.lt {ch : Nat → Nat} {t j : Nat} (h : TXT ch t) (h0 : ch j ≠ 0) : j < t := by
  rcases Nat.lt_or_ge j t with h1 | h1
  · exact h1
  · exact absurd (h.2.2 j h1) h0
theorem TXT.le {ch : Nat → Nat} {t : Nat} (h : TXT ch t) (j : Nat) : ch j ≤ 255 := by
  rcases Nat.lt_or_ge j t with h1 | h1
  · exact (h.2.1 j h1).2
  · rw [h.2.2 j h1]; omega
def sk (ch : Nat → Nat) (p : Nat) : Nat := skp ch 101 p
theorem skp_ge (ch : Nat → Nat) : ∀ (k p : Nat), p ≤ skp ch k p := by
  intro k
  induction k with
  | zero => intro p; exact Nat.le_refl p
  | succ k ih =>
    intro p
    rw [skp]
    split
    · exact Nat.le_trans (Nat.le_succ p) (ih (p + 1))
    · exact Nat.le_refl p
theorem sk_ge (ch : Nat → Nat) (p : Nat) : p ≤ sk ch p := skp_ge ch 101 p
theorem skp_le {ch : Nat → Nat} {t : Nat} (h : TXT ch t) : ∀ (k p : Nat), p ≤ t → skp ch k p ≤ t := by
  intro k
  induction k with
  | zero => intro p hp; exact hp
  | succ k ih =>
    intro p hp
    rw [skp]
    split
    · rename_i hc
      exact ih (p + 1) (h.lt (by omega))
    · exact hp
theorem sk_le {ch : Nat → Nat} {t p : Nat} (h : TXT ch t) (hp : p ≤ t) : sk ch p ≤ t := skp_le h 101 p hp
theorem skp_fuel {ch : Nat → Nat} {t : Nat} (h : TXT ch t) : ∀ (k k' p : Nat), t ≤ k + p → t ≤ k' + p → skp ch k p = skp ch k' p := by
  intro k
  induction k with
  | zero =>
    intro k' p h1 h2
    cases k' with
    | zero => rfl
    | succ k' => rw [skp, skp, if_neg (by rw [h.2.2 p (by omega)]; omega)]
  | succ k ih =>
    intro k' p h1 h2
    cases k' with
    | zero => rw [skp, skp, if_neg (by rw [h.2.2 p (by omega)]; omega)]
    | succ k' =>
      rw [skp, skp, ih k' (p + 1) (by omega) (by omega)]
theorem sk_s {ch : Nat → Nat} {t p : Nat} (h : TXT ch t) (hc : ch p = 32) : sk ch p = sk ch (p + 1) := by
  have h1 := h.1
  unfold sk
  rw [show 101 = 100 + 1 from rfl, skp, if_pos hc]
  exact skp_fuel h 100 (100 + 1) (p + 1) (by omega) (by omega)
theorem sk_n {ch : Nat → Nat} {p : Nat} (hc : ch p ≠ 32) : sk ch p = p := by
  unfold sk
  rw [show 101 = 100 + 1 from rfl, skp, if_neg hc]
theorem skp_ne {ch : Nat → Nat} {t : Nat} (h : TXT ch t) : ∀ (k p : Nat), t ≤ k + p → ch (skp ch k p) ≠ 32 := by
  intro k
  induction k with
  | zero => intro p h1; rw [skp, h.2.2 p (by omega)]; omega
  | succ k ih =>
    intro p h1
    rw [skp]
    split
    · exact ih (p + 1) (by omega)
    · assumption
theorem sk_ne {ch : Nat → Nat} {t : Nat} (h : TXT ch t) (p : Nat) : ch (sk ch p) ≠ 32 := skp_ne h 101 p (by have := h.1; omega)
def numS (ch : Nat → Nat) (p : Nat) : Nat × Nat :=
  if ch p = 48 then (0, p + 1)
  else if isD (ch (p + 1)) = false then (ch p - 48, p + 1)
  else if isD (ch (p + 2)) = false then ((ch p - 48) * 10 + (ch (p + 1) - 48), p + 2)
  else (((ch p - 48) * 10 + (ch (p + 1) - 48)) * 10 + (ch (p + 2) - 48), p + 3)
abbrev Wg : Type := Option (Nat × Nat)
def wrS (w : Wg) (bad : Bool) (p d : Nat) : Wg := match w with
  | some x => some x
  | none => if bad = true then some (p, d) else none
theorem wrS_none {w : Wg} {bad : Bool} {p d : Nat} (h : wrS w bad p d = none) : w = none ∧ bad = false := by
  cases w with
  | some x => cases h
  | none =>
    cases bad with
    | true => cases h
    | false => exact ⟨rfl, rfl⟩
abbrev Res : Type := Sum (Nat × Nat) (Nat × Wg × Row)
abbrev Rd : Type := Nat → Nat → Wg → Res
def shS (ch : Nat → Nat) (p2 b : Nat) : Int := if ch p2 = 62 then -(b : Int) else (b : Int)
def rowS (ch : Nat → Nat) (n : Nat) (ρ : Nat → Row) (p d : Nat) (w : Wg) : Res :=
  if isD (ch p) = false then .inl (p, d)
  else if isD (ch (numS ch p).2) = true then .inl ((numS ch p).2, d)
  else if ch (sk ch (numS ch p).2) = 60 ∨ ch (sk ch (numS ch p).2) = 62 then
    (if isD (ch (sk ch (sk ch (numS ch p).2 + 1))) = false then .inl (sk ch (sk ch (numS ch p).2 + 1), d)
    else if isD (ch (numS ch (sk ch (sk ch (numS ch p).2 + 1))).2) = true then .inl ((numS ch (sk ch (sk ch (numS ch p).2 + 1))).2, d)
    else .inr ((numS ch (sk ch (sk ch (numS ch p).2 + 1))).2, wrS (wrS w (decide (n ≤ (numS ch p).1)) p d) (decide (600 < (numS ch (sk ch (sk ch (numS ch p).2 + 1))).1)) (sk ch (sk ch (numS ch p).2 + 1)) d, shR (ρ (numS ch p).1) (shS ch (sk ch (numS ch p).2) (numS ch (sk ch (sk ch (numS ch p).2 + 1))).1)))
  else .inr (sk ch (numS ch p).2, wrS w (decide (n ≤ (numS ch p).1)) p d, ρ (numS ch p).1)
/-- a loop of two signs and their operations -/
def lpS (ch : Nat → Nat) (c1 c2 o1 o2 : Nat) (R : Rd) (d : Nat) : Nat → Nat → Wg → Row → Res
  | 0, _, _, _ => .inl (0, 0)
  | k + 1, p, w, v => if ch (sk ch p) = c1 ∨ ch (sk ch p) = c2 then (match R (sk ch p + 1) d w with
      | .inl e => .inl e
      | .inr (p', w', v') => lpS ch c1 c2 o1 o2 R d k p' w' (opR (if ch (sk ch p) = c1 then o1 else o2) v v'))
    else .inr (sk ch p, w, v)
def seqS (ch : Nat → Nat) (c1 c2 o1 o2 : Nat) (R : Rd) : Rd := fun p d w => match R p d w with
  | .inl e => .inl e
  | .inr (p', w', v) => lpS ch c1 c2 o1 o2 R d 200 p' w' v
def prS (ch : Nat → Nat) (R : Rd) : Rd := seqS ch 38 45 0 2 R
def suS (ch : Nat → Nat) (R : Rd) : Rd := seqS ch 124 94 1 3 R
def brS (ch : Nat → Nat) (R : Rd) : Rd := fun p d w => match R p d w with
  | .inl e => .inl e
  | .inr (p', w', v) => if ch (sk ch p') = 41 then .inr (sk ch p' + 1, w', v) else .inl (sk ch p', d)
def faS (ch : Nat → Nat) (n : Nat) (ρ : Nat → Row) (Rb Rf : Rd) : Rd := fun p d w =>
  if ch (sk ch p) = 126 then (if 8 ≤ d then .inl (sk ch p, d) else (match Rf (sk ch p + 1) (d + 1) w with
      | .inl e => .inl e
      | .inr (p', w', v) => .inr (p', w', notR v)))
  else if ch (sk ch p) = 40 then (if 8 ≤ d then .inl (sk ch p, d) else Rb (sk ch p + 1) (d + 1) w)
  else rowS ch n ρ (sk ch p) d w
def sF (ch : Nat → Nat) (n : Nat) (ρ : Nat → Row) : Nat → Rd
  | 0 => fun _ _ _ => .inl (0, 0)
  | k + 1 => faS ch n ρ (brS ch (suS ch (prS ch (sF ch n ρ k)))) (sF ch n ρ k)
/-- a reading that comes to an end has moved on, and lost no fault -/
def PG (t : Nat) (R : Rd) : Prop := ∀ p d w p' w' v, p ≤ t → R p d w = .inr (p', w', v) → p < p' ∧ p' ≤ t ∧ (w' = none → w = none)
theorem isD_iff {c : Nat} : isD c = true ↔ 48 ≤ c ∧ c ≤ 57 := by simp [isD]
theorem isD_ne {ch : Nat → Nat} {t p : Nat} (h : TXT ch t) (hd : isD (ch p) = true) : p < t := h.lt (by have := isD_iff.mp hd; omega)
theorem numS_p {ch : Nat → Nat} {t p : Nat} (h : TXT ch t) (hd : isD (ch p) = true) : p < (numS ch p).2 ∧ (numS ch p).2 ≤ t ∧ (numS ch p).1 ≤ 999 := by
  have h0 := isD_iff.mp hd
  have p0 := isD_ne h hd
  unfold numS
  by_cases h1 : ch p = 48
  · rw [if_pos h1]
    exact ⟨by simp, by simp; omega, by simp⟩
  rw [if_neg h1]
  by_cases h2 : isD (ch (p + 1)) = false
  · rw [if_pos h2]
    exact ⟨by simp, by simp; omega, by simp; omega⟩
  rw [if_neg h2]
  have h2' : isD (ch (p + 1)) = true := by simpa using h2
  have h3 := isD_iff.mp h2'
  have p1 := isD_ne h h2'
  by_cases h4 : isD (ch (p + 2)) = false
  · rw [if_pos h4]
    exact ⟨by simp, by simp; omega, by simp; omega⟩
  rw [if_neg h4]
  have h4' : isD (ch (p + 2)) = true := by simpa using h4
  have h5 := isD_iff.mp h4'
  have p2 := isD_ne h h4'
  exact ⟨by simp, by simp; omega, by simp; omega⟩
theorem rowS_pg {ch : Nat → Nat} {t n : Nat} {ρ : Nat → Row} (h : TXT ch t) : PG t (rowS ch n ρ) := by
  intro p d w p' w' v hp e
  unfold rowS at e
  by_cases h1 : isD (ch p) = false
  · rw [if_pos h1] at e; cases e
  rw [if_neg h1] at e
  have h1' : isD (ch p) = true := by simpa using h1
  have a1 := numS_p h h1'
  have a2 := sk_ge ch (numS ch p).2
  have a3 := sk_le h a1.2.1
  by_cases h2 : isD (ch (numS ch p).2) = true
  · rw [if_pos h2] at e; cases e
  rw [if_neg h2] at e
  by_cases h3 : ch (sk ch (numS ch p).2) = 60 ∨ ch (sk ch (numS ch p).2) = 62
  · rw [if_pos h3] at e
    have a4 := h.lt (j := sk ch (numS ch p).2) (by omega)
    have a5 := sk_ge ch (sk ch (numS ch p).2 + 1)
    by_cases h4 : isD (ch (sk ch (sk ch (numS ch p).2 + 1))) = false
    · rw [if_pos h4] at e; cases e
    rw [if_neg h4] at e
    have h4' : isD (ch (sk ch (sk ch (numS ch p).2 + 1))) = true := by simpa using h4
    have b1 := numS_p h h4'
    by_cases h5 : isD (ch (numS ch (sk ch (sk ch (numS ch p).2 + 1))).2) = true
    · rw [if_pos h5] at e; cases e
    rw [if_neg h5] at e
    cases e
    exact ⟨by omega, by omega, fun z => (wrS_none (wrS_none z).1).1⟩
  · rw [if_neg h3] at e
    cases e
    exact ⟨by omega, by omega, fun z => (wrS_none z).1⟩
theorem lpS_pg {ch : Nat → Nat} {t c1 c2 o1 o2 d : Nat} {R : Rd} (h : TXT ch t) (hc1 : c1 ≠ 0) (hc2 : c2 ≠ 0) (hR : PG t R) : ∀ (k p : Nat) (w : Wg) (v : Row) (p' : Nat) (w' : Wg) (v' : Row), p ≤ t → lpS ch c1 c2 o1 o2 R d k p w v = .inr (p', w', v') → p ≤ p' ∧ p' ≤ t ∧ (w' = none → w = none) := by
  intro k
  induction k with
  | zero => intro p w v p' w' v' hp e; cases e
  | succ k ih =>
    intro p w v p' w' v' hp e
    have a1 := sk_ge ch p
    have a2 := sk_le h hp
    rw [lpS] at e
    by_cases h1 : ch (sk ch p) = c1 ∨ ch (sk ch p) = c2
    · rw [if_pos h1] at e
      have a3 := h.lt (j := sk ch p) (by omega)
      rcases hr : R (sk ch p + 1) d w with e1 | ⟨q, w1, v1⟩
      · rw [hr] at e; cases e
      · rw [hr] at e
        obtain ⟨b1, b2, b3⟩ := hR _ _ _ _ _ _ (by omega) hr
        obtain ⟨c1, c2, c3⟩ := ih _ _ _ _ _ _ b2 e
        exact ⟨by omega, c2, fun z => b3 (c3 z)⟩
    · rw [if_neg h1] at e
      cases e
      exact ⟨a1, a2, fun z => z⟩
theorem seqS_pg {ch : Nat → Nat} {t c1 c2 o1 o2 : Nat} {R : Rd} (h : TXT ch t) (hc1 : c1 ≠ 0) (hc2 : c2 ≠ 0) (hR : PG t R) : PG t (seqS ch c1 c2 o1 o2 R) := by
  intro p d w p' w' v hp e
  unfold seqS at e
  rcases hr : R p d w with e1 | ⟨q, w1, v1⟩
  · rw [hr] at e; cases e
  · rw [hr] at e
    obtain ⟨b1, b2, b3⟩ := hR _ _ _ _ _ _ hp hr
    obtain ⟨c1, c2, c3⟩ := lpS_pg h hc1 hc2 hR _ _ _ _ _ _ _ b2 e
    exact ⟨by omega, c2, fun z => b3 (c3 z)⟩
theorem brS_pg {ch : Nat → Nat} {t : Nat} {R : Rd} (h : TXT ch t) (hR : PG t R) : PG t (brS ch R) := by
  intro p d w p' w' v hp e
  unfold brS at e
  rcases hr : R p d w with e1 | ⟨q, w1, v1⟩
  · rw [hr] at e; cases e
  · rw [hr] at e
    obtain ⟨b1, b2, b3⟩ := hR _ _ _ _ _ _ hp hr
    have a1 := sk_ge ch q
    by_cases h1 : ch (sk ch q) = 41
    · simp only [if_pos h1] at e
      have a3 := h.lt (j := sk ch q) (by omega)
      cases e
      exact ⟨by omega, by omega, b3⟩
    · simp only [if_neg h1] at e
      cases e
theorem sF_pg {ch : Nat → Nat} {t n : Nat} {ρ : Nat → Row} (h : TXT ch t) : ∀ k, PG t (sF ch n ρ k) := by
  intro k
  induction k with
  | zero => intro p d w p' w' v hp e; cases e
  | succ k ih =>
    intro p d w p' w' v hp e
    have a1 := sk_ge ch p
    have a2 := sk_le h hp
    rw [sF] at e
    unfold faS at e
    by_cases h1 : ch (sk ch p) = 126
    · rw [if_pos h1] at e
      have a3 := h.lt (j := sk ch p) (by omega)
      by_cases h2 : 8 ≤ d
      · rw [if_pos h2] at e; cases e
      rw [if_neg h2] at e
      rcases hr : sF ch n ρ k (sk ch p + 1) (d + 1) w with e1 | ⟨q, w1, v1⟩
      · rw [hr] at e; cases e
      · rw [hr] at e
        cases e
        obtain ⟨b1, b2, b3⟩ := ih _ _ _ _ _ _ (by omega) hr
        exact ⟨by omega, b2, b3⟩
    rw [if_neg h1] at e
    by_cases h3 : ch (sk ch p) = 40
    · rw [if_pos h3] at e
      have a3 := h.lt (j := sk ch p) (by omega)
      by_cases h2 : 8 ≤ d
      · rw [if_pos h2] at e; cases e
      rw [if_neg h2] at e
      obtain ⟨b1, b2, b3⟩ := brS_pg h (seqS_pg h (by omega) (by omega) (seqS_pg h (by omega) (by omega) ih)) _ _ _ _ _ _ (by omega) e
      exact ⟨by omega, b2, b3⟩
    rw [if_neg h3] at e
    obtain ⟨b1, b2, b3⟩ := rowS_pg h _ _ _ _ _ _ a2 e
    exact ⟨by omega, b2, b3⟩
