/-! the place of a failure stands within the text -/
def WB (t : Nat) (w : Wg) : Prop := ∀ x, w = some x → x.1 ≤ t
def RB (t : Nat) (r : Res) : Prop := match r with
  | .inl e => e.1 ≤ t
  | .inr (_, w, _) => WB t w
def PB (t : Nat) (R : Rd) : Prop := ∀ p d w, p ≤ t → WB t w → RB t (R p d w)
theorem wrS_b {t : Nat} {w : Wg} {b : Bool} {p d : Nat} (h : WB t w) (hp : p ≤ t) : WB t (wrS w b p d) := by
  intro x hx
  cases w with
  | some y => exact h x hx
  | none =>
    cases b with
    | true =>
      have e : some (p, d) = some x := hx
      cases e
      exact hp
    | false =>
      have e : (none : Wg) = some x := hx
      cases e
section
variable {ch : Nat → Nat} {t n : Nat} {ρ : Nat → Row}
theorem rowS_b (h : TXT ch t) : PB t (rowS ch n ρ) := by
  intro p d w hp hw
  unfold rowS
  by_cases h1 : isD (ch p) = false
  · rw [if_pos h1]; exact hp
  rw [if_neg h1]
  have h1' : isD (ch p) = true := by simpa using h1
  have a1 := numS_p h h1'
  have a3 := sk_le h a1.2.1
  by_cases h2 : isD (ch (numS ch p).2) = true
  · rw [if_pos h2]; exact a1.2.1
  rw [if_neg h2]
  by_cases h3 : ch (sk ch (numS ch p).2) = 60 ∨ ch (sk ch (numS ch p).2) = 62
  · rw [if_pos h3]
    have a4 := h.lt (j := sk ch (numS ch p).2) (by omega)
    have a5 := sk_le h (p := sk ch (numS ch p).2 + 1) (by omega)
    by_cases h4 : isD (ch (sk ch (sk ch (numS ch p).2 + 1))) = false
    · rw [if_pos h4]; exact a5
    rw [if_neg h4]
    have h4' : isD (ch (sk ch (sk ch (numS ch p).2 + 1))) = true := by simpa using h4
    have b1 := numS_p h h4'
    by_cases h5 : isD (ch (numS ch (sk ch (sk ch (numS ch p).2 + 1))).2) = true
    · rw [if_pos h5]; exact b1.2.1
    rw [if_neg h5]
    exact wrS_b (wrS_b hw hp) a5
  · rw [if_neg h3]
    exact wrS_b hw hp
theorem lpS_b {c1 c2 o1 o2 d : Nat} {R : Rd} (h : TXT ch t) (hc1 : c1 ≠ 0) (hc2 : c2 ≠ 0) (hR : PG t R) (hB : PB t R) : ∀ (k p : Nat) (w : Wg) (v : Row), p ≤ t → WB t w → RB t (lpS ch c1 c2 o1 o2 R d k p w v) := by
  intro k
  induction k with
  | zero => intro p w v hp hw; exact Nat.zero_le _
  | succ k ih =>
    intro p w v hp hw
    have a2 := sk_le h hp
    rw [lpS]
    by_cases h1 : ch (sk ch p) = c1 ∨ ch (sk ch p) = c2
    · rw [if_pos h1]
      have a3 := h.lt (j := sk ch p) (by omega)
      have b0 := hB (sk ch p + 1) d w (by omega) hw
      rcases hr : R (sk ch p + 1) d w with e1 | ⟨q, w1, v1⟩
      · rw [hr] at b0; exact b0
      · rw [hr] at b0
        obtain ⟨b1, b2, b3⟩ := hR _ _ _ _ _ _ (by omega) hr
        exact ih _ _ _ b2 b0
    · rw [if_neg h1]
      exact hw
theorem seqS_b {c1 c2 o1 o2 : Nat} {R : Rd} (h : TXT ch t) (hc1 : c1 ≠ 0) (hc2 : c2 ≠ 0) (hR : PG t R) (hB : PB t R) : PB t (seqS ch c1 c2 o1 o2 R) := by
  intro p d w hp hw
  unfold seqS
  have b0 := hB p d w hp hw
  rcases hr : R p d w with e1 | ⟨q, w1, v1⟩
  · rw [hr] at b0; exact b0
  · rw [hr] at b0
    obtain ⟨b1, b2, b3⟩ := hR _ _ _ _ _ _ hp hr
    exact lpS_b h hc1 hc2 hR hB _ _ _ _ b2 b0
theorem brS_b {R : Rd} (h : TXT ch t) (hR : PG t R) (hB : PB t R) : PB t (brS ch R) := by
  intro p d w hp hw
  unfold brS
  have b0 := hB p d w hp hw
  rcases hr : R p d w with e1 | ⟨q, w1, v1⟩
  · rw [hr] at b0; exact b0
  · rw [hr] at b0
    obtain ⟨b1, b2, b3⟩ := hR _ _ _ _ _ _ hp hr
    by_cases h1 : ch (sk ch q) = 41
    · simp only [if_pos h1]
      exact b0
    · simp only [if_neg h1]
      exact sk_le h b2
theorem sF_b (h : TXT ch t) : ∀ k, PB t (sF ch n ρ k) := by
  intro k
  induction k with
  | zero => intro p d w hp hw; exact Nat.zero_le _
  | succ k ih =>
    intro p d w hp hw
    have a2 := sk_le h hp
    rw [sF]
    unfold faS
    by_cases h1 : ch (sk ch p) = 126
    · rw [if_pos h1]
      have a3 := h.lt (j := sk ch p) (by omega)
      by_cases h2 : 8 ≤ d
      · rw [if_pos h2]; exact a2
      rw [if_neg h2]
      have b0 := ih (sk ch p + 1) (d + 1) w (by omega) hw
      rcases hr : sF ch n ρ k (sk ch p + 1) (d + 1) w with e1 | ⟨q, w1, v1⟩
      · rw [hr] at b0; exact b0
      · rw [hr] at b0; exact b0
    rw [if_neg h1]
    by_cases h3 : ch (sk ch p) = 40
    · rw [if_pos h3]
      have a3 := h.lt (j := sk ch p) (by omega)
      by_cases h2 : 8 ≤ d
      · rw [if_pos h2]; exact a2
      rw [if_neg h2]
      exact brS_b h (seqS_pg h (by omega) (by omega) (seqS_pg h (by omega) (by omega) (sF_pg h k))) (seqS_b h (by omega) (by omega) (seqS_pg h (by omega) (by omega) (sF_pg h k)) (seqS_b h (by omega) (by omega) (sF_pg h k) ih)) _ _ _ (by omega) hw
    rw [if_neg h3]
    exact rowS_b h _ _ _ a2 hw
theorem topS_b {kd p d : Nat} (h : TXT ch t) (e : topS ch n ρ = .inl (kd, p, d)) : p ≤ t := by
  unfold topS suS prS at e
  have pg := seqS_pg (c1 := 124) (c2 := 94) (o1 := 1) (o2 := 3) h (by omega) (by omega) (seqS_pg (c1 := 38) (c2 := 45) (o1 := 0) (o2 := 2) h (by omega) (by omega) (sF_pg (n := n) (ρ := ρ) h 20))
  have pb := seqS_b (c1 := 124) (c2 := 94) (o1 := 1) (o2 := 3) h (by omega) (by omega) (seqS_pg (c1 := 38) (c2 := 45) (o1 := 0) (o2 := 2) h (by omega) (by omega) (sF_pg (n := n) (ρ := ρ) h 20)) (seqS_b h (by omega) (by omega) (sF_pg h 20) (sF_b h 20)) 0 0 none (by omega) (fun x hx => by cases hx)
  rcases hr : seqS ch 124 94 1 3 (seqS ch 38 45 0 2 (sF ch n ρ 20)) 0 0 none with ⟨p1, d1⟩ | ⟨p', w', v'⟩
  · rw [hr] at e pb
    cases e
    exact pb
  · rw [hr] at e pb
    obtain ⟨i1, i2, i3⟩ := pg _ _ _ _ _ _ (by omega) hr
    by_cases h0 : ch (sk ch p') = 0
    · simp only [if_pos h0] at e
      cases w' with
      | none => cases e
      | some x =>
        cases e
        exact pb _ rfl
    · simp only [if_neg h0] at e
      cases e
      exact sk_le h i2
end
