/-! the class reads products, sums, brackets and factors -/
theorem f0_groupAt_t {I : gI} {c g : Nat} (hg : g < 40) : f0_groupAt I c (nI g) = some (I (c + 1) g) := by
  unfold f0_groupAt
  rw [if_neg (by rw [k0, xI_lt (by omega) (by omega)]; omega), if_neg (by rw [k40, xI_le (by omega) (by omega)]; omega), xI_ib (by omega), if_pos (by simp; omega), xI_cl (by omega)]
theorem f0_combine_t {b b2 b3 op : Nat} : ∀ (k g : Nat) (I : gI), g ≤ 40 → 40 < k + g → ∃ I', f0_combine_L3 k I b (nI op) b2 b3 (nI g) = some I' ∧ FrB I I' b := by
  intro k
  induction k with
  | zero => intro g I h1 h2; omega
  | succ k ih =>
    intro g I h1 h2
    rw [f0_combine_L3]
    by_cases h40 : g = 40
    · subst h40
      rw [if_pos (by decide)]
      exact ⟨_, rfl, fun c c1 _ => uI_row c1⟩
    · rw [if_neg (by rw [k40, xI_le (by omega) (by omega)]; omega), f0_groupAt_t (by omega), f0_groupAt_t (by omega)]
      simp only [Option.bind_some]
      rw [xI_ib (by omega), if_pos (by simp; omega), k1, nI_add]
      obtain ⟨I', a1, a2⟩ := ih (g + 1) (uI I (b + 1) (nI g).toNatClampNeg (f0_combined (nI op) (I (b2 + 1) g) (I (b3 + 1) g))) (by omega) (by omega)
      exact ⟨I', a1, fun c c1 c2 => (a2 c c1 c2).trans (uI_row c2)⟩
theorem f0_invert_t {b : Nat} : ∀ (k g : Nat) (I : gI), g ≤ 40 → 40 < k + g → ∃ I', f0_invert_L2 k I b (nI g) = some I' ∧ FrB I I' b := by
  intro k
  induction k with
  | zero => intro g I h1 h2; omega
  | succ k ih =>
    intro g I h1 h2
    rw [f0_invert_L2]
    by_cases h40 : g = 40
    · subst h40
      rw [if_pos (by decide)]
      exact ⟨_, rfl, FrB.rfl'⟩
    · have hib : ib (nI g) 40 = true := by rw [xI_ib (by omega)]; simp; omega
      rw [if_neg (by rw [k40, xI_le (by omega) (by omega)]; omega), if_pos hib, if_pos hib, k1, nI_add]
      obtain ⟨I', a1, a2⟩ := ih (g + 1) (uI I (b + 1) (nI g).toNatClampNeg ((I (b + 1) (nI g).toNatClampNeg) ^^^ (f0_maskBefore (I b (nI 1).toNatClampNeg) (nI g)))) (by omega) (by omega)
      exact ⟨I', a1, fun c c1 c2 => (a2 c c1 c2).trans (uI_row c2)⟩
theorem FrB_FE {I J : gI} {s : Nat} (h : FrB I J (23 + 2 * s)) (hs : s ≤ 18) : FE s I J ∧ J 19 = I 19 := by
  have e : J 19 = I 19 := h 19 (by omega) (by omega)
  exact ⟨⟨fun c _ hc => h c (by omega) (by omega), by rw [e], by rw [e], by rw [e]⟩, e⟩
theorem f2_combineAt_n {I : gI} {s op : Nat} {w : Wg} {v v' : Row} (hs : s ≤ 17) (hop : op ≤ 3) (hv : w = none → BR I (23 + 2 * s) v ∧ BR I (23 + 2 * (s + 1)) v') : ∃ I', f2_combineAt I (nI s) (nI op) = some I' ∧ FE s I I' ∧ I' 19 = I 19 ∧ (w = none → BR I' (23 + 2 * s) (opR op v v')) := by
  unfold f2_combineAt
  rw [if_neg (by rw [k0, xI_lt (by omega) (by omega)]; omega), k1, nI_add, if_neg (by rw [k19, xI_le (by omega) (by omega)]; omega), xI_ib (by omega), if_pos (by simp; omega), if_pos (by simp; omega), xI_ib (by omega), if_pos (by simp; omega), xI_cl (by omega), xI_cl (by omega)]
  by_cases h0 : w = none
  · obtain ⟨v1, v2⟩ := hv h0
    obtain ⟨I', a1, a2, a3⟩ := f0_combine_n (b := 23 + 2 * s) (op := op) v1 v2 hop (by omega) (by omega)
    obtain ⟨f1, f2⟩ := FrB_FE a3 (by omega)
    rw [a1]
    exact ⟨I', rfl, f1, f2, fun _ => a2⟩
  · obtain ⟨I', a1, a3⟩ := f0_combine_t (b := 23 + 2 * s) (b2 := 23 + 2 * s) (b3 := 23 + 2 * (s + 1)) (op := op) FU 0 I (by omega) (by decide)
    obtain ⟨f1, f2⟩ := FrB_FE a3 (by omega)
    unfold f0_combine
    rw [k0, a1]
    exact ⟨I', rfl, f1, f2, fun z => absurd z h0⟩
theorem f2_invert_n {I : gI} {s : Nat} {w : Wg} {v : Row} (hs : s ≤ 18) (hv : w = none → BR I (23 + 2 * s) v) : ∃ I', f0_invert I (23 + 2 * s) = some I' ∧ FE s I I' ∧ I' 19 = I 19 ∧ (w = none → BR I' (23 + 2 * s) (notR v)) := by
  by_cases h0 : w = none
  · obtain ⟨I', a1, a2, a3⟩ := f0_invert_n (hv h0)
    obtain ⟨f1, f2⟩ := FrB_FE a3 (by omega)
    exact ⟨I', a1, f1, f2, fun _ => a2⟩
  · obtain ⟨I', a1, a3⟩ := f0_invert_t (b := 23 + 2 * s) FU 0 I (by omega) (by decide)
    obtain ⟨f1, f2⟩ := FrB_FE a3 (by omega)
    unfold f0_invert
    rw [k0, a1]
    exact ⟨I', rfl, f1, f2, fun z => absurd z h0⟩
section
variable {ch : Nat → Nat} {t n : Nat} {ρ : Nat → Row} {F : Int32 × Int32 × Int32}
def CS (ch : Nat → Nat) (t n : Nat) (ρ : Nat → Row) (F : Int32 × Int32 × Int32) (R : Rd) (C : gI → Int32 → Int32 → Option (Bool × gI)) (kk m : Nat) : Prop := ∀ (I : gI) (s d p : Nat) (w : Wg), CB ch t n ρ I → I 19 8 = nI p → p ≤ t → WR F I w → d ≤ 8 → 9 ≤ kk + d → s ≤ 2 * d + m → ∃ b I', C I (nI s) (nI d) = some (b, I') ∧ FE s I I' ∧ OUT F (R p d w) b I' s
theorem lpProduct_CS {R : Rd} {C : gI → Int32 → Int32 → Option (Bool × gI)} {kk m s d : Nat} (h : TXT ch t) (hP : PG t R) (hC : CS ch t n ρ F R C kk (m + 1)) (hd : d ≤ 8) (hkk : 9 ≤ kk + d) (hs : s ≤ 2 * d + m) (hm : m ≤ 1) : ∀ (k k' p x : Nat) (w : Wg) (v : Row) (I : gI), CB ch t n ρ I → I 19 8 = nI p → p ≤ t → WR F I w → (w = none → BR I (23 + 2 * s) v) → x ≤ p → t < k + p → t < k' + p → ∃ b I', f2_readProduct_L13 C k I (nI s) (nI d) (nI x) = some (b, I') ∧ FE s I I' ∧ OUT F (lpS ch 38 45 0 2 R d k' p w v) b I' s := by
  have ht := h.1
  intro k
  induction k with
  | zero => intro k' p x w v I a1 a2 a3 a4 a5 a6 a7 a8; omega
  | succ k ih =>
    intro k' p x w v I a1 a2 a3 a4 a5 a6 a7 a8
    obtain ⟨k', rfl⟩ : ∃ j, k' = j + 1 := ⟨k' - 1, by omega⟩
    have s1 := sk_ge ch p
    have s2 := sk_le h a3
    rw [f2_readProduct_L13, if_neg (by rw [k100, xI_lt (by omega) (by omega)]; omega), f2_next_n h a1 a2 a3, lpS]
    simp only [Option.bind_some]
    have hc := h.le (sk ch p)
    generalize sk ch p = q at *
    by_cases h1 : ch q = 38 ∨ ch q = 45
    · have qt := h.lt (j := q) (by omega)
      have e8 : uI (pI I q) 19 8 (pI I q 19 8 + 1) = pI I (q + 1) := by
        rw [pI_8, k1, nI_add, ← pI_pI I q (q + 1)]
        rfl
      rw [if_pos h1, e8, k1, nI_add, nI_add]
      obtain ⟨b, I1, b1, b2, b3⟩ := hC (pI I (q + 1)) (s + 1) d (q + 1) w (CB_FE (s := 0) a1 pI_FE) (pI_8 _ _) (by omega) (WR_eq a4 (fun j hj => pI_j hj)) hd hkk (by omega)
      have fe1 : FE s I I1 := (pI_FE (s := s)).trans (b2.le (by omega))
      have both : ∃ b' I', (if b = true then (f2_combineAt I1 (nI s) (nI (if ch q = 38 then 0 else 2))).bind fun I10 => f2_readProduct_L13 C k I10 (nI s) (nI d) (nI (x + 1)) else some (false, I1)) = some (b', I') ∧ FE s I I' ∧ OUT F (match R (q + 1) d w with
          | .inl e => .inl e
          | .inr (p', w', v') => lpS ch 38 45 0 2 R d k' p' w' (opR (if ch q = 38 then 0 else 2) v v')) b' I' s := by
        rcases hr : R (q + 1) d w with e1 | ⟨p', w', v'⟩
        · rw [hr] at b3
          obtain ⟨c1, c2⟩ := b3
          rw [if_neg (by rw [c1]; decide)]
          exact ⟨false, I1, rfl, fe1, rfl, c2⟩
        · rw [hr] at b3
          obtain ⟨c1, c2, c3, c4⟩ := b3
          obtain ⟨g1, g2, g3⟩ := hP _ _ _ _ _ _ (by omega) hr
          rw [if_pos c1]
          obtain ⟨I2, d1, d2, d3, d4⟩ := f2_combineAt_n (s := s) (op := if ch q = 38 then 0 else 2) (w := w') (v := v) (v' := v') (by omega) (by split <;> omega) (fun z => ⟨by
            have := a5 (g3 z)
            have f1 := pI_FE (s := s + 1) (I := I) (p := q + 1)
            exact BR_cells this ((b2.1 _ (by omega) (by omega)).trans (f1.1 _ (by omega) (by omega))) ((b2.1 _ (by omega) (by omega)).trans (f1.1 _ (by omega) (by omega))), c4 z⟩)
          rw [d1]
          simp only [Option.bind_some]
          obtain ⟨b', I', e1, e2, e3⟩ := ih k' p' (x + 1) w' (opR (if ch q = 38 then 0 else 2) v v') I2 (CB_FE a1 (fe1.trans d2)) (by rw [d3]; exact c2) g2 (WR_eq c3 (fun j _ => by rw [d3])) d4 (by omega) (by omega) (by omega)
          exact ⟨b', I', e1, (fe1.trans d2).trans e2, e3⟩
      obtain ⟨b', I', e1, e2, e3⟩ := both
      refine ⟨b', I', ?_, e2, e3⟩
      by_cases hA : ch q = 38
      · rw [if_pos hA] at e1
        have pA : nI (ch q) = 38 := by rw [hA]; rfl
        rw [if_pos pA, b1]
        simp only [Option.bind_some]
        rw [if_pos pA]
        exact e1
      · have nA : ¬ nI (ch q) = 38 := by rw [show (38 : Int32) = nI 38 from rfl, xI_eq (by omega) (by omega)]; exact hA
        rw [if_neg hA] at e1
        rw [if_neg nA, if_pos (by rw [show (45 : Int32) = nI 45 from rfl, xI_eq (by omega) (by omega)]; omega), b1]
        simp only [Option.bind_some]
        rw [if_neg nA]
        exact e1
    · rw [if_neg h1, if_neg (by rw [show (38 : Int32) = nI 38 from rfl, xI_eq (by omega) (by omega)]; omega), if_neg (by rw [show (45 : Int32) = nI 45 from rfl, xI_eq (by omega) (by omega)]; omega)]
      exact ⟨true, pI I q, rfl, pI_FE, rfl, pI_8 _ _, WR_eq a4 (fun j hj => pI_j hj), fun z => BR_cells (a5 z) (uI_row (by omega)) (uI_row (by omega))⟩
theorem seqProduct_CS {R : Rd} {C : gI → Int32 → Int32 → Option (Bool × gI)} {kk m : Nat} (h : TXT ch t) (hP : PG t R) (hC : CS ch t n ρ F R C kk (m + 1)) (hm : m ≤ 1) : CS ch t n ρ F (seqS ch 38 45 0 2 R) (f2_readProduct C) kk m := by
  have ht := h.1
  intro I s d p w a1 a2 a3 a4 a5 a6 a7
  obtain ⟨b, I1, b1, b2, b3⟩ := hC I s d p w a1 a2 a3 a4 a5 a6 (by omega)
  unfold f2_readProduct seqS
  rw [b1]
  simp only [Option.bind_some]
  rcases hr : R p d w with e1 | ⟨p', w', v'⟩
  · rw [hr] at b3
    obtain ⟨c1, c2⟩ := b3
    rw [if_neg (by rw [c1]; decide)]
    exact ⟨false, I1, rfl, b2, rfl, c2⟩
  · rw [hr] at b3
    obtain ⟨c1, c2, c3, c4⟩ := b3
    obtain ⟨g1, g2, g3⟩ := hP _ _ _ _ _ _ (by omega) hr
    rw [if_pos c1, k1]
    obtain ⟨b', I', e1, e2, e3⟩ := lpProduct_CS h hP hC a5 a6 a7 hm FU 200 p' 1 w' v' I1 (CB_FE a1 b2) c2 g2 c3 c4 (by omega) (by unfold FU; omega) (by omega)
    exact ⟨b', I', e1, b2.trans e2, e3⟩
theorem lpSum_CS {R : Rd} {C : gI → Int32 → Int32 → Option (Bool × gI)} {kk m s d : Nat} (h : TXT ch t) (hP : PG t R) (hC : CS ch t n ρ F R C kk (m + 1)) (hd : d ≤ 8) (hkk : 9 ≤ kk + d) (hs : s ≤ 2 * d + m) (hm : m ≤ 1) : ∀ (k k' p x : Nat) (w : Wg) (v : Row) (I : gI), CB ch t n ρ I → I 19 8 = nI p → p ≤ t → WR F I w → (w = none → BR I (23 + 2 * s) v) → x ≤ p → t < k + p → t < k' + p → ∃ b I', f2_readSum_L13 C k I (nI s) (nI d) (nI x) = some (b, I') ∧ FE s I I' ∧ OUT F (lpS ch 124 94 1 3 R d k' p w v) b I' s := by
  have ht := h.1
  intro k
  induction k with
  | zero => intro k' p x w v I a1 a2 a3 a4 a5 a6 a7 a8; omega
  | succ k ih =>
    intro k' p x w v I a1 a2 a3 a4 a5 a6 a7 a8
    obtain ⟨k', rfl⟩ : ∃ j, k' = j + 1 := ⟨k' - 1, by omega⟩
    have s1 := sk_ge ch p
    have s2 := sk_le h a3
    rw [f2_readSum_L13, if_neg (by rw [k100, xI_lt (by omega) (by omega)]; omega), f2_next_n h a1 a2 a3, lpS]
    simp only [Option.bind_some]
    have hc := h.le (sk ch p)
    generalize sk ch p = q at *
    by_cases h1 : ch q = 124 ∨ ch q = 94
    · have qt := h.lt (j := q) (by omega)
      have e8 : uI (pI I q) 19 8 (pI I q 19 8 + 1) = pI I (q + 1) := by
        rw [pI_8, k1, nI_add, ← pI_pI I q (q + 1)]
        rfl
      rw [if_pos h1, e8, k1, nI_add, nI_add]
      obtain ⟨b, I1, b1, b2, b3⟩ := hC (pI I (q + 1)) (s + 1) d (q + 1) w (CB_FE (s := 0) a1 pI_FE) (pI_8 _ _) (by omega) (WR_eq a4 (fun j hj => pI_j hj)) hd hkk (by omega)
      have fe1 : FE s I I1 := (pI_FE (s := s)).trans (b2.le (by omega))
      have both : ∃ b' I', (if b = true then (f2_combineAt I1 (nI s) (nI (if ch q = 124 then 1 else 3))).bind fun I10 => f2_readSum_L13 C k I10 (nI s) (nI d) (nI (x + 1)) else some (false, I1)) = some (b', I') ∧ FE s I I' ∧ OUT F (match R (q + 1) d w with
          | .inl e => .inl e
          | .inr (p', w', v') => lpS ch 124 94 1 3 R d k' p' w' (opR (if ch q = 124 then 1 else 3) v v')) b' I' s := by
        rcases hr : R (q + 1) d w with e1 | ⟨p', w', v'⟩
        · rw [hr] at b3
          obtain ⟨c1, c2⟩ := b3
          rw [if_neg (by rw [c1]; decide)]
          exact ⟨false, I1, rfl, fe1, rfl, c2⟩
        · rw [hr] at b3
          obtain ⟨c1, c2, c3, c4⟩ := b3
          obtain ⟨g1, g2, g3⟩ := hP _ _ _ _ _ _ (by omega) hr
          rw [if_pos c1]
          obtain ⟨I2, d1, d2, d3, d4⟩ := f2_combineAt_n (s := s) (op := if ch q = 124 then 1 else 3) (w := w') (v := v) (v' := v') (by omega) (by split <;> omega) (fun z => ⟨by
            have := a5 (g3 z)
            have f1 := pI_FE (s := s + 1) (I := I) (p := q + 1)
            exact BR_cells this ((b2.1 _ (by omega) (by omega)).trans (f1.1 _ (by omega) (by omega))) ((b2.1 _ (by omega) (by omega)).trans (f1.1 _ (by omega) (by omega))), c4 z⟩)
          rw [d1]
          simp only [Option.bind_some]
          obtain ⟨b', I', e1, e2, e3⟩ := ih k' p' (x + 1) w' (opR (if ch q = 124 then 1 else 3) v v') I2 (CB_FE a1 (fe1.trans d2)) (by rw [d3]; exact c2) g2 (WR_eq c3 (fun j _ => by rw [d3])) d4 (by omega) (by omega) (by omega)
          exact ⟨b', I', e1, (fe1.trans d2).trans e2, e3⟩
      obtain ⟨b', I', e1, e2, e3⟩ := both
      refine ⟨b', I', ?_, e2, e3⟩
      by_cases hA : ch q = 124
      · rw [if_pos hA] at e1
        have pA : nI (ch q) = 124 := by rw [hA]; rfl
        rw [if_pos pA, b1]
        simp only [Option.bind_some]
        rw [if_pos pA]
        exact e1
      · have nA : ¬ nI (ch q) = 124 := by rw [show (124 : Int32) = nI 124 from rfl, xI_eq (by omega) (by omega)]; exact hA
        rw [if_neg hA] at e1
        rw [if_neg nA, if_pos (by rw [show (94 : Int32) = nI 94 from rfl, xI_eq (by omega) (by omega)]; omega), b1]
        simp only [Option.bind_some]
        rw [if_neg nA]
        exact e1
    · rw [if_neg h1, if_neg (by rw [show (124 : Int32) = nI 124 from rfl, xI_eq (by omega) (by omega)]; omega), if_neg (by rw [show (94 : Int32) = nI 94 from rfl, xI_eq (by omega) (by omega)]; omega)]
      exact ⟨true, pI I q, rfl, pI_FE, rfl, pI_8 _ _, WR_eq a4 (fun j hj => pI_j hj), fun z => BR_cells (a5 z) (uI_row (by omega)) (uI_row (by omega))⟩
theorem seqSum_CS {R : Rd} {C : gI → Int32 → Int32 → Option (Bool × gI)} {kk m : Nat} (h : TXT ch t) (hP : PG t R) (hC : CS ch t n ρ F R C kk (m + 1)) (hm : m ≤ 1) : CS ch t n ρ F (seqS ch 124 94 1 3 R) (f2_readSum C) kk m := by
  have ht := h.1
  intro I s d p w a1 a2 a3 a4 a5 a6 a7
  obtain ⟨b, I1, b1, b2, b3⟩ := hC I s d p w a1 a2 a3 a4 a5 a6 (by omega)
  unfold f2_readSum seqS
  rw [b1]
  simp only [Option.bind_some]
  rcases hr : R p d w with e1 | ⟨p', w', v'⟩
  · rw [hr] at b3
    obtain ⟨c1, c2⟩ := b3
    rw [if_neg (by rw [c1]; decide)]
    exact ⟨false, I1, rfl, b2, rfl, c2⟩
  · rw [hr] at b3
    obtain ⟨c1, c2, c3, c4⟩ := b3
    obtain ⟨g1, g2, g3⟩ := hP _ _ _ _ _ _ (by omega) hr
    rw [if_pos c1, k1]
    obtain ⟨b', I', e1, e2, e3⟩ := lpSum_CS h hP hC a5 a6 a7 hm FU 200 p' 1 w' v' I1 (CB_FE a1 b2) c2 g2 c3 c4 (by omega) (by unfold FU; omega) (by omega)
    exact ⟨b', I', e1, b2.trans e2, e3⟩
theorem br_CS {R : Rd} {C : gI → Int32 → Int32 → Option (Bool × gI)} {kk : Nat} (h : TXT ch t) (hP : PG t R) (hC : CS ch t n ρ F R C kk 0) : CS ch t n ρ F (brS ch R) (f2_readBracket C) kk 0 := by
  intro I s d p w a1 a2 a3 a4 a5 a6 a7
  obtain ⟨b, I1, b1, b2, b3⟩ := hC I s d p w a1 a2 a3 a4 a5 a6 (by omega)
  unfold f2_readBracket brS
  rw [b1]
  simp only [Option.bind_some]
  rcases hr : R p d w with e1 | ⟨p', w', v'⟩
  · rw [hr] at b3
    obtain ⟨c1, c2⟩ := b3
    rw [if_neg (by rw [c1]; decide)]
    exact ⟨false, I1, rfl, b2, rfl, c2⟩
  · rw [hr] at b3
    obtain ⟨c1, c2, c3, c4⟩ := b3
    obtain ⟨g1, g2, g3⟩ := hP _ _ _ _ _ _ (by omega) hr
    rw [if_pos c1, f2_next_n h (CB_FE a1 b2) c2 g2]
    simp only [Option.bind_some]
    have hc := h.le (sk ch p')
    generalize sk ch p' = q at *
    by_cases h41 : ch q = 41
    · have e8 : uI (pI I1 q) 19 8 (pI I1 q 19 8 + 1) = pI I1 (q + 1) := by
        rw [pI_8, k1, nI_add, ← pI_pI I1 q (q + 1)]
        rfl
      rw [if_pos (by rw [h41]; rfl), e8]
      simp only [if_pos h41]
      exact ⟨true, _, rfl, b2.trans pI_FE, rfl, pI_8 _ _, WR_eq c3 (fun j hj => pI_j hj), fun z => BR_cells (c4 z) (uI_row (by omega)) (uI_row (by omega))⟩
    · rw [if_neg (by rw [k41, xI_eq (by omega) (by omega)]; exact h41)]
      simp only [if_neg h41]
      obtain ⟨I', d1, d2, d3⟩ := f2_break_n (I := pI I1 q) (d := d) (s := s) (pI_8 _ _)
      rw [d1]
      exact ⟨false, I', rfl, (b2.trans pI_FE).trans d3, rfl, d2⟩
theorem fa_CS {Rb Rf : Rd} {Cb Cf : gI → Int32 → Int32 → Option (Bool × gI)} {kk : Nat} (h : TXT ch t) (hn1 : 1 ≤ n) (hn8 : n ≤ 8) (hb : CS ch t n ρ F Rb Cb kk 0) (hf : CS ch t n ρ F Rf Cf kk 2) : CS ch t n ρ F (faS ch n ρ Rb Rf) (f2_readFactor Cb Cf) (kk + 1) 2 := by
  intro I s d p w a1 a2 a3 a4 a5 a6 a7
  unfold f2_readFactor faS
  rw [f2_next_n h a1 a2 a3]
  simp only [Option.bind_some]
  have s2 := sk_le h a3
  have hc := h.le (sk ch p)
  have hne := sk_ne h p
  generalize sk ch p = q at *
  have e8 : uI (pI I q) 19 8 (pI I q 19 8 + 1) = pI I (q + 1) := by
    rw [pI_8, k1, nI_add, ← pI_pI I q (q + 1)]
    rfl
  have brk : ∃ I', f2_breakOff (pI I q) (nI d) = some (false, I') ∧ FL I' 1 q d ∧ FE s I I' := by
    obtain ⟨I', d1, d2, d3⟩ := f2_break_n (I := pI I q) (d := d) (s := s) (pI_8 _ _)
    exact ⟨I', d1, d2, pI_FE.trans d3⟩
  obtain ⟨J, j1, j2, j3⟩ := brk
  by_cases h1 : ch q = 126
  · have qt := h.lt (j := q) (by omega)
    rw [if_pos h1, if_pos (by rw [h1]; rfl)]
    by_cases h8 : 8 ≤ d
    · rw [if_pos h8, if_pos (by rw [k8, xI_le (by omega) (by omega)]; exact h8), j1]
      exact ⟨false, J, rfl, j3, rfl, j2⟩
    · rw [if_neg h8, if_neg (by rw [k8, xI_le (by omega) (by omega)]; exact h8), if_pos (by rw [k19, xI_lt (by omega) (by omega)]; omega), if_neg (by rw [h1]; decide), e8, k1, nI_add]
      obtain ⟨b, I1, b1, b2, b3⟩ := hf (pI I (q + 1)) s (d + 1) (q + 1) w (CB_FE (s := 0) a1 pI_FE) (pI_8 _ _) (by omega) (WR_eq a4 (fun j hj => pI_j hj)) (by omega) (by omega) (by omega)
      have fe1 : FE s I I1 := (pI_FE (s := s)).trans b2
      rw [b1]
      simp only [Option.bind_some]
      rcases hr : Rf (q + 1) (d + 1) w with e1 | ⟨p', w', v'⟩
      · rw [hr] at b3
        obtain ⟨c1, c2⟩ := b3
        rw [if_neg (by rw [c1]; decide)]
        exact ⟨false, I1, rfl, fe1, rfl, c2⟩
      · rw [hr] at b3
        obtain ⟨c1, c2, c3, c4⟩ := b3
        rw [if_pos c1, xI_ib (by omega), if_pos (by simp; omega), xI_cl (by omega)]
        obtain ⟨I', d1, d2, d3, d4⟩ := f2_invert_n (s := s) (by omega) c4
        rw [d1]
        exact ⟨true, I', rfl, fe1.trans d2, rfl, by rw [d3]; exact c2, WR_eq c3 (fun j _ => by rw [d3]), d4⟩
  rw [if_neg h1, if_neg (by rw [k126, xI_eq (by omega) (by omega)]; exact h1)]
  by_cases h2 : ch q = 40
  · have qt := h.lt (j := q) (by omega)
    rw [if_pos h2, if_pos (by rw [h2]; rfl)]
    by_cases h8 : 8 ≤ d
    · rw [if_pos h8, if_pos (by rw [k8, xI_le (by omega) (by omega)]; exact h8), j1]
      exact ⟨false, J, rfl, j3, rfl, j2⟩
    · rw [if_neg h8, if_neg (by rw [k8, xI_le (by omega) (by omega)]; exact h8), if_pos (by rw [k19, xI_lt (by omega) (by omega)]; omega), if_pos (by rw [h2]; rfl), e8, k1, nI_add]
      obtain ⟨b, I1, b1, b2, b3⟩ := hb (pI I (q + 1)) s (d + 1) (q + 1) w (CB_FE (s := 0) a1 pI_FE) (pI_8 _ _) (by omega) (WR_eq a4 (fun j hj => pI_j hj)) (by omega) (by omega) (by omega)
      rw [b1]
      exact ⟨b, I1, rfl, (pI_FE (s := s)).trans b2, b3⟩
  rw [if_neg h2, if_neg (by rw [k40, xI_eq (by omega) (by omega)]; exact h2)]
  obtain ⟨b, I1, b1, b2, b3⟩ := row_CS (F := F) h hn1 hn8 (pI I q) s d q w (CB_FE (s := 0) a1 pI_FE) (pI_8 _ _) s2 hne (WR_eq a4 (fun j hj => pI_j hj)) (by omega)
  rw [b1]
  exact ⟨b, I1, rfl, (pI_FE (s := s)).trans b2, b3⟩
theorem rdF_CS (h : TXT ch t) (hn1 : 1 ≤ n) (hn8 : n ≤ 8) : ∀ k, CS ch t n ρ F (sF ch n ρ k) (rdF k) k 2 := by
  intro k
  induction k with
  | zero => intro I s d p w a1 a2 a3 a4 a5 a6 a7; omega
  | succ k ih =>
    rw [sF, rdF]
    exact fa_CS h hn1 hn8 (br_CS h (seqS_pg h (by omega) (by omega) (seqS_pg h (by omega) (by omega) (sF_pg h k))) (seqSum_CS h (seqS_pg h (by omega) (by omega) (sF_pg h k)) (seqProduct_CS h (sF_pg h k) ih (by omega)) (by omega))) ih
/-- what a text comes to: a failure's kind, place and depth, or a row -/
def topS (ch : Nat → Nat) (n : Nat) (ρ : Nat → Row) : Sum (Nat × Nat × Nat) Row := match suS ch (prS ch (sF ch n ρ 20)) 0 0 none with
  | .inl (p, d) => .inl (1, p, d)
  | .inr (p, w, v) => if ch (sk ch p) = 0 then (match w with
      | none => .inr v
      | some (q, d) => .inl (2, q, d)) else .inl (1, sk ch p, 0)
theorem f2_read_n {I : gI} (h : TXT ch t) (hn1 : 1 ≤ n) (hn8 : n ≤ 8) (b1 : I 19 1 = nI t) (b2 : ∀ j, j < t → I 20 j = nI (ch j)) (b3 : RR I ρ) : ∃ b I', f2_read I (nI n) = some (b, I') ∧ (∀ c, c ≠ 19 → (c < 23 ∨ 61 ≤ c) → I' c = I c) ∧ I' 19 1 = nI t ∧ (match topS ch n ρ with
    | .inl (kd, p, d) => b = false ∧ I' 19 2 = nI kd ∧ I' 19 3 = nI p ∧ I' 19 4 = nI d
    | .inr v => b = true ∧ BR I' 23 v ∧ I' 19 2 = I 19 2 ∧ I' 19 3 = I 19 3 ∧ I' 19 4 = I 19 4) := by
  have key : ∀ J : gI, J = uI (uI (uI (uI I 19 6 1) 19 7 (nI n)) 19 8 0) 19 9 0 → (∀ c, c ≠ 19 → J c = I c) ∧ J 19 1 = nI t ∧ CB ch t n ρ J ∧ J 19 8 = nI 0 ∧ WR (I 19 2, I 19 3, I 19 4) J none := by
    intro J hJ
    have o : ∀ c, c ≠ 19 → J c = I c := fun c hc => by rw [hJ, uI_row hc, uI_row hc, uI_row hc, uI_row hc]
    have e1 : J 19 1 = nI t := by rw [hJ, uI_ap, if_neg (by omega), uI_ap, if_neg (by omega), uI_ap, if_neg (by omega), uI_ap, if_neg (by omega)]; exact b1
    have e2 : ∀ j, j ≠ 6 → j ≠ 7 → j ≠ 8 → j ≠ 9 → J 19 j = I 19 j := fun j j1 j2 j3 j4 => by rw [hJ, uI_ap, if_neg (by omega), uI_ap, if_neg (by omega), uI_ap, if_neg (by omega), uI_ap, if_neg (by omega)]
    refine ⟨o, e1, ⟨e1, fun j hj => by rw [o 20 (by omega)]; exact b2 j hj, ?_, ?_, fun q hq => BR_cells (b3 q hq) (o _ (by omega)) (o _ (by omega))⟩, ?_, ?_, e2 2 (by omega) (by omega) (by omega) (by omega), e2 3 (by omega) (by omega) (by omega) (by omega), e2 4 (by omega) (by omega) (by omega) (by omega)⟩
    · rw [hJ, uI_ap, if_neg (by omega), uI_ap, if_neg (by omega), uI_ap, if_neg (by omega), uI_self]
    · rw [hJ, uI_ap, if_neg (by omega), uI_ap, if_neg (by omega), uI_self]
    · rw [hJ, uI_ap, if_neg (by omega), uI_self]
      rfl
    · rw [hJ, uI_self]
  unfold f2_read topS
  generalize hJ : uI (uI (uI (uI I 19 6 1) 19 7 (nI n)) 19 8 0) 19 9 0 = J
  obtain ⟨o1, o2, o3, o4, o5⟩ := key J hJ.symm
  have pg := seqS_pg (c1 := 124) (c2 := 94) (o1 := 1) (o2 := 3) h (by omega) (by omega) (seqS_pg (c1 := 38) (c2 := 45) (o1 := 0) (o2 := 2) h (by omega) (by omega) (sF_pg (n := n) (ρ := ρ) h 20))
  obtain ⟨b, I1, c1, c2, c3⟩ := seqSum_CS h (seqS_pg h (by omega) (by omega) (sF_pg h 20)) (seqProduct_CS h (sF_pg h 20) (rdF_CS (F := (I 19 2, I 19 3, I 19 4)) h hn1 hn8 20) (by omega)) (by omega) J 0 0 0 none o3 o4 (by omega) o5 (by omega) (by omega) (by omega)
  unfold fR_readSum
  rw [k0, c1]
  simp only [Option.bind_some]
  have fr : ∀ K, FE 0 J K → (∀ c, c ≠ 19 → (c < 23 ∨ 61 ≤ c) → K c = I c) ∧ K 19 1 = nI t := fun K hK => ⟨fun c h1 h2 => (hK.1 c h1 (by omega)).trans (o1 c h1), hK.2.1.trans o2⟩
  unfold suS prS
  rcases hr : seqS ch 124 94 1 3 (seqS ch 38 45 0 2 (sF ch n ρ 20)) 0 0 none with ⟨p1, d1⟩ | ⟨p', w', v'⟩
  · rw [hr] at c3
    obtain ⟨g1, g2⟩ := c3
    rw [if_neg (by rw [g1]; decide), g2.1, if_neg (by decide)]
    exact ⟨false, I1, rfl, (fr _ c2).1, (fr _ c2).2, rfl, g2.2.1, g2.2.2.1, g2.2.2.2⟩
  · rw [hr] at c3
    obtain ⟨g1, g2, g3, g4⟩ := c3
    obtain ⟨i1, i2, i3⟩ := pg _ _ _ _ _ _ (by omega) hr
    rw [if_pos g1, f2_next_n h (CB_FE o3 c2) g2 i2]
    simp only [Option.bind_some]
    have hc := h.le (sk ch p')
    generalize sk ch p' = q at *
    have f2 := fr (pI I1 q) (c2.trans pI_FE)
    have w2 : WR (I 19 2, I 19 3, I 19 4) (pI I1 q) w' := WR_eq g3 (fun j hj => pI_j hj)
    by_cases h0 : ch q = 0
    · rw [if_pos (by rw [h0])]
      simp only [if_pos h0]
      cases w' with
      | none =>
        rw [if_pos (show pI I1 q 19 9 = nI 0 from w2.1)]
        exact ⟨true, _, rfl, f2.1, f2.2, rfl, BR_cells (g4 rfl) (uI_row (by omega)) (uI_row (by omega)), w2.2.1, w2.2.2.1, w2.2.2.2⟩
      | some x =>
        rw [if_neg (by rw [w2.1]; decide)]
        exact ⟨false, _, rfl, f2.1, f2.2, rfl, w2.2.1, w2.2.2.1, w2.2.2.2⟩
    · rw [if_neg (by rw [xI_eq (by omega) (by omega)]; exact h0)]
      simp only [if_neg h0]
      obtain ⟨I', d1, d2, d3⟩ := f2_break_n (I := pI I1 q) (d := 0) (s := 0) (pI_8 _ _)
      have f3 := fr I' ((c2.trans pI_FE).trans d3)
      rw [d1]
      simp only [Option.bind_some]
      rw [d2.1, if_neg (by decide)]
      exact ⟨false, I', rfl, f3.1, f3.2, rfl, d2.2.1, d2.2.2.1, d2.2.2.2⟩
end
