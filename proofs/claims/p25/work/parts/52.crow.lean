/-! the class reads a row, and what is made of rows -/
section
variable {ch : Nat → Nat} {t n : Nat} {ρ : Nat → Row} {F : Int32 × Int32 × Int32}
/-- what a reading at a slot leaves -/
def OUT (F : Int32 × Int32 × Int32) (r : Res) (b : Bool) (I : gI) (s : Nat) : Prop := match r with
  | .inl (p, d) => b = false ∧ FL I 1 p d
  | .inr (p, w, v) => b = true ∧ I 19 8 = nI p ∧ WR F I w ∧ (w = none → BR I (23 + 2 * s) v)
def mvR (J : gI) (s q : Nat) (v x : Int32) : Option (Bool × gI) := (if (J 19 9) = 0 then if J 19 6 = 1 then (if 8 ≤ nI q then some (true, J) else (if 19 ≤ nI s then some (true, J) else if ib (nI s) 19 = true then if J 19 6 = 1 then if ib (nI q) 8 = true then (if v = 62 then (f0_moveFrom J (23 + 2 * (nI s).toNatClampNeg) (63 + 2 * (nI q).toNatClampNeg) (-x)).bind fun I16 => some (true, I16) else (f0_moveFrom J (23 + 2 * (nI s).toNatClampNeg) (63 + 2 * (nI q).toNatClampNeg) x).bind fun I15 => some (true, I15)) else none else none else none)) else none else some (true, J))
theorem mvR_n {J : gI} {s q p : Nat} {v x : Int32} {w : Wg} {z : Int} (hB : CB ch t n ρ J) (hw : WR F J w) (hs : s ≤ 18) (hq : q ≤ 999) (h8 : J 19 8 = nI p) (hv : w = none → q < 8 ∧ (if v = 62 then -x else x).toInt = z ∧ -600 ≤ z ∧ z ≤ 600) : ∃ J', mvR J s q v x = some (true, J') ∧ FE s J J' ∧ OUT F (.inr (p, w, shR (ρ q) z)) true J' s := by
  unfold mvR
  by_cases h0 : w = none
  · obtain ⟨v1, v2, v3, v4⟩ := hv h0
    rw [if_pos ((WR_0 hw).mpr h0), if_pos hB.2.2.1, if_neg (by rw [k8, xI_le (by omega) (by omega)]; omega), if_neg (by rw [k19, xI_le (by omega) (by omega)]; omega), xI_ib (by omega), if_pos (by simp; omega), if_pos hB.2.2.1, if_pos (ib_q v1), xI_cl (by omega), xI_cl (by omega)]
    have br := hB.2.2.2.2 q v1
    have fin : ∀ y : Int32, y.toInt = z → ∃ J', ((f0_moveFrom J (23 + 2 * s) (63 + 2 * q) y).bind fun I16 => some (true, I16)) = some (true, J') ∧ FE s J J' ∧ OUT F (.inr (p, w, shR (ρ q) z)) true J' s := fun y hy => by
      obtain ⟨J', a1, a2, a3⟩ := f0_moveFrom_n (b := 23 + 2 * s) (x := y) br (by omega) (by omega) (by omega) (by omega)
      rw [hy] at a2
      have e19 : J' 19 = J 19 := a3 19 (by omega) (by omega)
      rw [a1]
      refine ⟨J', rfl, ⟨fun c _ hc => a3 c (by omega) (by omega), by rw [e19], by rw [e19], by rw [e19]⟩, rfl, by rw [e19]; exact h8, WR_eq hw (fun j _ => by rw [e19]), fun _ => a2⟩
    by_cases h62 : v = 62
    · rw [if_pos h62] at v2
      rw [if_pos h62]
      exact fin _ v2
    · rw [if_neg h62] at v2
      rw [if_neg h62]
      exact fin _ v2
  · rw [if_neg (fun z => h0 ((WR_0 hw).mp z))]
    exact ⟨J, rfl, FE.rfl', rfl, h8, hw, fun z => absurd z h0⟩
theorem neg_toInt {b : Nat} (h : b ≤ 1000) : (-(nI b)).toInt = -(b : Int) := by
  have e : -(nI b) = nI 0 - nI b := by
    have : nI 0 = 0 := rfl
    rw [this, Int32.zero_sub]
  rw [e, xI_toInt_sub (by omega) (by omega)]
  omega
theorem row_CS (h : TXT ch t) (hn1 : 1 ≤ n) (hn8 : n ≤ 8) : ∀ (I : gI) (s d p : Nat) (w : Wg), CB ch t n ρ I → I 19 8 = nI p → p ≤ t → ch p ≠ 32 → WR F I w → s ≤ 18 → ∃ b I', f2_readRow I (nI s) (nI d) = some (b, I') ∧ FE s I I' ∧ OUT F (rowS ch n ρ p d w) b I' s := by
  intro I s d p w hB h8 hp hsp hw hs
  have es : sk ch p = p := sk_n hsp
  have e7 : I 19 7 - 1 = nI (n - 1) := by rw [hB.2.2.2.1, k1, xI_sub hn1]
  unfold f2_readRow rowS
  rw [e7]
  by_cases h1 : isD (ch p) = false
  · obtain ⟨I', a1, a2, a3⟩ := f2_num_a (d := d) (m := n - 1) (s := s) h hB h8 hp (by rw [es]; exact h1)
    rw [es] at a2
    rw [a1, if_pos h1]
    simp only [Option.bind_some]
    rw [if_neg (by decide)]
    exact ⟨false, I', rfl, a3, rfl, a2⟩
  rw [if_neg h1]
  have h1' : isD (ch p) = true := by simpa using h1
  have hn := numS_p h h1'
  by_cases h2 : isD (ch (numS ch p).2) = true
  · obtain ⟨I', a1, a2, a3⟩ := f2_num_b (d := d) (m := n - 1) (s := s) h hB h8 hp (by rw [es]; exact h1') (by rw [es]; exact h2)
    rw [es] at a2
    rw [a1, if_pos h2]
    simp only [Option.bind_some]
    rw [if_neg (by decide)]
    exact ⟨false, I', rfl, a3, rfl, a2⟩
  rw [if_neg h2]
  obtain ⟨I1, a1, a2, a3, a4⟩ := f2_num_c (d := d) (m := n - 1) (s := s) h hB h8 hp (by omega) hw (by rw [es]; exact h1') (by rw [es]; simpa using h2)
  rw [es] at a1 a2 a3
  rw [show decide (n - 1 < (numS ch p).1) = decide (n ≤ (numS ch p).1) from by congr 1; exact propext (by omega)] at a3
  have hB1 := CB_FE hB a4
  rw [a1]
  simp only [Option.bind_some]
  rw [if_pos (by rw [k0, xI_le (by omega) (by omega)]; omega), f2_next_n h hB1 a2 hn.2.1]
  simp only [Option.bind_some]
  have s1 := sk_ge ch (numS ch p).2
  have s2 := sk_le h hn.2.1
  generalize hp2 : sk ch (numS ch p).2 = p2 at *
  have hc2 := h.le p2
  have hB2 := CB_FE (s := s) (J := pI I1 p2) hB1 pI_FE
  have hw2 : WR F (pI I1 p2) (wrS w (decide (n ≤ (numS ch p).1)) p d) := WR_eq a3 (fun j hj => pI_j hj)
  have fe2 : FE s I (pI I1 p2) := a4.trans pI_FE
  have q8 : wrS w (decide (n ≤ (numS ch p).1)) p d = none → (numS ch p).1 < 8 := fun z => by
    have := (wrS_none z).2
    simp at this
    omega
  by_cases hs3 : ch p2 = 60 ∨ ch p2 = 62
  · rw [if_pos hs3]
    have p2t := h.lt (j := p2) (by omega)
    have e8 : uI (pI I1 p2) 19 8 (pI I1 p2 19 8 + 1) = pI I1 (p2 + 1) := by
      rw [pI_8, k1, nI_add, ← pI_pI I1 p2 (p2 + 1)]
      rfl
    have hB3 := CB_FE (s := s) (J := pI I1 (p2 + 1)) hB1 pI_FE
    have hw3 : WR F (pI I1 (p2 + 1)) (wrS w (decide (n ≤ (numS ch p).1)) p d) := WR_eq a3 (fun j hj => pI_j hj)
    have fe3 : FE s I (pI I1 (p2 + 1)) := a4.trans pI_FE
    have big : ∀ r : Res, r = (if isD (ch (sk ch (p2 + 1))) = false then .inl (sk ch (p2 + 1), d)
        else if isD (ch (numS ch (sk ch (p2 + 1))).2) = true then .inl ((numS ch (sk ch (p2 + 1))).2, d)
        else .inr ((numS ch (sk ch (p2 + 1))).2, wrS (wrS w (decide (n ≤ (numS ch p).1)) p d) (decide (600 < (numS ch (sk ch (p2 + 1))).1)) (sk ch (p2 + 1)) d, shR (ρ (numS ch p).1) (shS ch p2 (numS ch (sk ch (p2 + 1))).1))) → ∃ b I', ((f2_readNumber (pI I1 (p2 + 1)) (nI d) 600).bind fun q5 => (if 0 ≤ q5.1 then mvR q5.2 s (numS ch p).1 (nI (ch p2)) q5.1 else some (false, q5.2))) = some (b, I') ∧ FE s I I' ∧ OUT F r b I' s := by
      intro r hr
      subst hr
      rw [k600]
      by_cases g1 : isD (ch (sk ch (p2 + 1))) = false
      · obtain ⟨I', b1, b2, b3⟩ := f2_num_a (d := d) (m := 600) (s := s) h hB3 (pI_8 _ _) (by omega) g1
        rw [b1, if_pos g1]
        simp only [Option.bind_some]
        rw [if_neg (by decide)]
        exact ⟨false, I', rfl, fe3.trans b3, rfl, b2⟩
      rw [if_neg g1]
      have g1' : isD (ch (sk ch (p2 + 1))) = true := by simpa using g1
      have hm := numS_p h g1'
      by_cases g2 : isD (ch (numS ch (sk ch (p2 + 1))).2) = true
      · obtain ⟨I', b1, b2, b3⟩ := f2_num_b (d := d) (m := 600) (s := s) h hB3 (pI_8 _ _) (by omega) g1' g2
        rw [b1, if_pos g2]
        simp only [Option.bind_some]
        rw [if_neg (by decide)]
        exact ⟨false, I', rfl, fe3.trans b3, rfl, b2⟩
      rw [if_neg g2]
      obtain ⟨I2, b1, b2, b3, b4⟩ := f2_num_c (d := d) (m := 600) (s := s) h hB3 (pI_8 _ _) (by omega) (by omega) hw3 g1' (by simpa using g2)
      rw [b1]
      simp only [Option.bind_some]
      rw [if_pos (by rw [k0, xI_le (by omega) (by omega)]; omega)]
      obtain ⟨I', c1, c2, c3⟩ := mvR_n (s := s) (q := (numS ch p).1) (v := nI (ch p2)) (x := nI (numS ch (sk ch (p2 + 1))).1) (z := shS ch p2 (numS ch (sk ch (p2 + 1))).1) (CB_FE hB3 b4) b3 hs hn.2.2 b2 (fun z => by
        have z1 := wrS_none z
        have z2 : (numS ch (sk ch (p2 + 1))).1 ≤ 600 := by have := z1.2; simp at this; omega
        refine ⟨q8 z1.1, ?_⟩
        unfold shS
        by_cases h62 : ch p2 = 62
        · rw [if_pos (by rw [h62]; rfl), if_pos h62, neg_toInt (by omega)]
          omega
        · rw [if_neg (by rw [k62, xI_eq (by omega) (by omega)]; exact h62), if_neg h62, nI_toInt (by omega)]
          omega)
      exact ⟨true, I', c1, (fe3.trans b4).trans c2, c3⟩
    obtain ⟨b, I', c1, c2, c3⟩ := big _ rfl
    refine ⟨b, I', ?_, c2, c3⟩
    rw [e8]
    by_cases h60 : ch p2 = 60
    · rw [if_pos (by rw [h60]; rfl)]
      exact c1
    · rw [if_neg (by rw [k60, xI_eq (by omega) (by omega)]; exact h60), if_pos (by rw [k62, xI_eq (by omega) (by omega)]; omega)]
      exact c1
  · rw [if_neg hs3, if_neg (by rw [k60, xI_eq (by omega) (by omega)]; omega), if_neg (by rw [k62, xI_eq (by omega) (by omega)]; omega)]
    obtain ⟨I', c1, c2, c3⟩ := mvR_n (s := s) (q := (numS ch p).1) (v := nI (ch p2)) (x := 0) (z := 0) hB2 hw2 hs hn.2.2 (pI_8 _ _) (fun z => by
      refine ⟨q8 z, ?_⟩
      rw [if_neg (by rw [k62, xI_eq (by omega) (by omega)]; omega)]
      decide)
    refine ⟨true, I', c1, fe2.trans c2, c3.1, c3.2.1, c3.2.2.1, fun z => ?_⟩
    have := c3.2.2.2 z
    rw [shR_0 (hB.2.2.2.2 _ (q8 z)).1] at this
    exact this
end
