/-! the reference reads a row -/
def closeT (I : gI) : Option (Bool × gI) := (f6_closeFactor I).bind fun J => some (true, J)
def finR (v : Int32) (J : gI) : Option (Bool × gI) := if (J 79 13) = 0 then (f6_closeFactor J).bind fun I15 => some (true, I15) else (if v = 60 then (f6_shiftOn J (f6_asked ((J 79 12) - 1)) (J 79 16)).bind fun I19 => (f6_closeFactor I19).bind fun I20 => some (true, I20) else (f6_shiftOn J (f6_asked ((J 79 12) - 1)) (-(J 79 16))).bind fun I17 => (f6_closeFactor I17).bind fun I18 => some (true, I18))
def numR (v : Int32) (J : gI) : Option (Bool × gI) := (f6_code (uI J 79 8 ((J 79 8) + 1))).bind fun q9 => (f6_readsNumber q9.2).bind fun q10 => (if q10.1 = true then (if (q10.2 79 16) ≤ 600 then (f6_wrong q10.2 0 (q9.2 79 8)).bind fun I13 => finR v I13 else (f6_wrong q10.2 1 (q9.2 79 8)).bind fun I21 => finR v I21) else some (false, q10.2))
def codR (J : gI) : Option (Bool × gI) := (f6_code J).bind fun q7 => (if q7.1 = 60 then numR q7.1 q7.2 else (if q7.1 = 62 then numR q7.1 q7.2 else (f6_closeFactor q7.2).bind fun I30 => some (true, I30)))
def tailR (I5 : gI) : Option (Bool × gI) := (if (I5 79 13) = 0 then codR (uI I5 79 12 ((I5 79 12) + 1)) else (f6_copy I5 (f6_at (I5 79 16)) (f6_asked (I5 79 12))).bind fun I51 => codR (uI I51 79 12 ((I51 79 12) + 1)))
set_option maxRecDepth 100000 in
set_option maxHeartbeats 4000000 in
theorem readsRow_eq (I : gI) : f6_readsRow I = (f6_readsNumber I).bind fun q1 => (if q1.1 = true then (f6_isRow q1.2 (q1.2 79 16)).bind fun v3 => (if v3 = true then (f6_wrong q1.2 0 (I 79 8)).bind fun I5 => tailR I5 else (f6_wrong q1.2 1 (I 79 8)).bind fun I96 => tailR I96) else some (false, q1.2)) := rfl
section
variable {ch : Nat → Nat} {t n : Nat} {ρ : Nat → Row} {dz : Bool}
theorem finR_n {J : gI} {p b : Nat} {w : Wg} {σ : List Nat} {a : Row} {vs : List Row} {c : Nat} (hB : MB ch t n ρ dz J) (h : MI dz J p w σ (a :: vs)) (h16 : J 79 16 = nI b) (hc : c = 60 ∨ c = 62) (hb : dz = true → b ≤ 600) (hv : vs.length ≤ 20) : ∃ J', finR (nI c) J = closeT J' ∧ FQ J J' ∧ MI dz J' p w σ (shR a (if c = 62 then -(b : Int) else (b : Int)) :: vs) := by
  obtain ⟨a1, a2, a3, a4, a5, a6, a7⟩ := h
  have h13 := hB.2.2.2.2
  unfold finR
  cases dz with
  | false =>
    rw [h13, if_pos (by rfl)]
    exact ⟨J, rfl, FQ.rfl', a1, a2, a3, a4, a5, a6, fun z => by cases z⟩
  | true =>
    have hb' := hb rfl
    obtain ⟨v1, v2⟩ := a7 rfl
    have em : J 79 12 - 1 = nI vs.length := by
      rw [a6]
      show nI (vs.length + 1) - 1 = _
      rw [k1, xI_sub (by omega), Nat.add_sub_cancel]
    rw [h13, if_neg (by decide), em, f6_asked_n, h16]
    have main : ∀ (x : Int32) (z : Int), x.toInt = z → -600 ≤ z → z ≤ 600 → ∃ K, f6_shiftOn J (nI (28854 + 601 * vs.length)) x = some K ∧ FQ J K ∧ MI true K p w σ (shR a z :: vs) := fun x z hx h1 h2 => by
      obtain ⟨K, c1, c2, c3⟩ := f6_shiftOn_n (x := x) (by omega) v1 (by omega) (by omega)
      rw [hx] at c2
      have e : ∀ j, K 79 j = J 79 j := fun j => by rw [c3.1 79 (by omega)]
      exact ⟨K, c1, FQ_O c3 (by omega), (e 8).trans a1, WM_eq a2 (fun j _ => e j), ST_kept a3 (fun j _ => by rw [c3.1 83 (by omega)]), (e 10).trans a4, (e 11).trans a5, (e 12).trans a6, fun _ => ⟨c2, VA_kept v2 (fun j j1 j2 => c3.2 j (by omega) (by omega))⟩⟩
    rcases hc with rfl | rfl
    · obtain ⟨K, c1, c2, c3⟩ := main (nI b) b (nI_toInt (by omega)) (by omega) (by omega)
      rw [if_pos (by rfl), c1]
      exact ⟨K, rfl, c2, c3⟩
    · obtain ⟨K, c1, c2, c3⟩ := main (-(nI b)) (-(b : Int)) (neg_toInt (by omega)) (by omega) (by omega)
      rw [if_neg (by decide), c1]
      exact ⟨K, rfl, c2, c3⟩
theorem mrow_n (h : TXT ch t) (hn1 : 1 ≤ n) (hn8 : n ≤ 8) {J : gI} {p : Nat} {w : Wg} {σ : List Nat} {vs : List Row} (hB : MB ch t n ρ dz J) (hM : MI dz J p w σ vs) (hp : p ≤ t) (hd : isD (ch p) = true) (hv : vs.length ≤ 20) : match rowS ch n ρ p (dep σ) w with
    | .inl (pf, df) => dz = false → ∃ J', f6_readsRow J = some (false, J') ∧ FQ J J' ∧ J' 79 8 = nI pf ∧ J' 79 11 = nI df
    | .inr (p', w', v) => (dz = true → w' = none) → ∃ J', f6_readsRow J = closeT J' ∧ FQ J J' ∧ MI dz J' p' w' σ (v :: vs) := by
  have ht := h.1
  have hd0 := isD_iff.mp hd
  have es : sk ch p = p := sk_n (by omega)
  have h8 := hM.1
  have hn := numS_p h hd
  have e1 := f6_num_n h hB h8 hp (by rw [es]; exact hd)
  rw [es] at e1
  rw [readsRow_eq, e1]
  simp only [Option.bind_some]
  unfold rowS
  rw [if_neg (by rw [hd]; decide)]
  generalize hq : (numS ch p).1 = q at *
  generalize hp1 : (numS ch p).2 = p1 at *
  have m1 := MI_n (q := p1) (a := q) hM
  by_cases h2 : isD (ch p1) = true
  · rw [if_pos h2]
    intro _
    rw [h2, if_neg (by decide)]
    exact ⟨_, rfl, nS_FQ, nS_8 _ _ _, m1.2.2.2.2.1⟩
  rw [if_neg h2]
  have h2' : isD (ch p1) = false := by simpa using h2
  rw [h2', if_pos (show (!false) = true from rfl), nS_16]
  have B1 := MB_FQ hB (nS_FQ (p := p1) (a := q))
  have row : f6_isRow (nS J p1 q) (nI q) = some (!decide (n ≤ q)) := by
    unfold f6_isRow
    rw [B1.2.2.1, f6_in_eq, k1, xI_sub hn1]
    unfold f5_isWithin
    rw [if_neg (by rw [k0, xI_lt (by omega) (by omega)]; omega)]
    by_cases hqn : n ≤ q
    · rw [if_pos (by rw [xI_lt (by omega) (by omega)]; omega), decide_eq_true hqn]
      rfl
    · rw [if_neg (by rw [xI_lt (by omega) (by omega)]; omega), decide_eq_false hqn]
      rfl
  rw [row]
  simp only [Option.bind_some]
  obtain ⟨J2, w1, w2, w3, w4⟩ := f6_wrong_n (bad := decide (n ≤ q)) (f := p) rfl m1 (by omega)
  have wboth : (if (!decide (n ≤ q)) = true then (f6_wrong (nS J p1 q) 0 (J 79 8)).bind fun I5 => tailR I5 else (f6_wrong (nS J p1 q) 1 (J 79 8)).bind fun I96 => tailR I96) = tailR J2 := by
    rw [h8]
    by_cases hqn : n ≤ q
    · rw [decide_eq_true hqn] at w1 ⊢
      rw [if_neg (by decide), k1]
      have w1' : f6_wrong (nS J p1 q) (nI 1) (nI p) = some J2 := w1
      rw [w1']
      rfl
    · rw [decide_eq_false hqn] at w1 ⊢
      rw [if_pos (by rfl), k0]
      have w1' : f6_wrong (nS J p1 q) (nI 0) (nI p) = some J2 := w1
      rw [w1']
      rfl
  rw [wboth]
  have j16 : J2 79 16 = nI q := w4.trans (nS_16 _ _ _)
  have fq2 : FQ J J2 := nS_FQ.trans w2
  have B2 := MB_FQ hB fq2
  generalize hw1 : wrS w (decide (n ≤ q)) p (dep σ) = ww at *
  -- the row is taken
  have tail : (dz = true → ww = none) → ∃ J3, tailR J2 = codR J3 ∧ FQ J J3 ∧ MI dz J3 p1 ww σ (ρ q :: vs) := by
    intro hz
    obtain ⟨a1, a2, a3, a4, a5, a6, a7⟩ := w3
    unfold tailR
    rw [B2.2.2.2.2]
    have em : ∀ K : gI, K 79 = J2 79 → uI K 79 12 (K 79 12 + 1) 79 12 = nI (vs.length + 1) := fun K hK => by rw [uI_self, hK, a6, k1, nI_add]
    have fin : ∀ K : gI, FQ J2 K → K 79 = J2 79 → K 83 = J2 83 → (dz = true → VA K (ρ q :: vs)) → FQ J (uI K 79 12 (K 79 12 + 1)) ∧ MI dz (uI K 79 12 (K 79 12 + 1)) p1 ww σ (ρ q :: vs) := fun K f1 f2 f3 f4 => by
      have e : ∀ j, j ≠ 12 → uI K 79 12 (K 79 12 + 1) 79 j = J2 79 j := fun j hj => by rw [uI_ap, if_neg (by omega), f2]
      exact ⟨(fq2.trans f1).trans (FQ_79 (by omega) (by omega)), (e 8 (by omega)).trans a1, WM_eq a2 (fun j hj => e j (by omega)), ST_kept a3 (fun j _ => by rw [uI_row (by omega), f3]), (e 10 (by omega)).trans a4, (e 11 (by omega)).trans a5, em K f2, fun z => VA_kept (f4 z) (fun j _ _ => by rw [uI_row (by omega)])⟩
    cases dz with
    | false =>
      rw [if_pos (by rfl)]
      exact ⟨_, rfl, fin J2 FQ.rfl' rfl rfl (fun z => by cases z)⟩
    | true =>
      have hz' := hz rfl
      rw [← hw1] at hz'
      have z2 := (wrS_none hz').2
      have qn : q < 8 := by simp at z2; omega
      rw [if_neg (by decide), j16, a6, f6_at_n, f6_asked_n, f6_copy_n (by omega) (by omega) (by omega)]
      simp only [Option.bind_some]
      have cf := cpA_FrO (I := J2) (a := 601 * q) (b := 28854 + 601 * vs.length)
      refine ⟨_, rfl, fin _ (FQ_O cf (by omega)) (cf.1 79 (by omega)) (cf.1 83 (by omega)) (fun _ => ⟨cpA_AR (B2.2.2.2.1 q qn) (by omega), VA_kept (a7 rfl) (fun j j1 j2 => cf.2 j (by omega) (by omega))⟩)⟩
  have s1 := sk_ge ch p1
  have s2 := sk_le h hn.2.1
  generalize hp2 : sk ch p1 = p2 at *
  have hc2 := h.le p2
  have cod : ∀ J3, FQ J J3 → MI dz J3 p1 ww σ (ρ q :: vs) → codR J3 = (if nI (ch p2) = 60 then numR (nI (ch p2)) (pM J3 p2) else (if nI (ch p2) = 62 then numR (nI (ch p2)) (pM J3 p2) else closeT (pM J3 p2))) := fun J3 f3 m3 => by
    unfold codR
    rw [f6_code_n h (MB_FQ hB f3) m3.1 hn.2.1, hp2]
    rfl
  by_cases h3 : ch p2 = 60 ∨ ch p2 = 62
  · rw [if_pos h3]
    have p2t := h.lt (j := p2) (by omega)
    have num : ∀ J3, FQ J J3 → MI dz J3 p1 ww σ (ρ q :: vs) → codR J3 = numR (nI (ch p2)) (pM J3 p2) := fun J3 f3 m3 => by
      rw [cod J3 f3 m3]
      by_cases h60 : ch p2 = 60
      · rw [if_pos (by rw [h60]; rfl)]
      · rw [if_neg (by rw [k60, xI_eq (by omega) (by omega)]; exact h60), if_pos (by rw [k62, xI_eq (by omega) (by omega)]; omega)]
    have s3 := sk_ge ch (p2 + 1)
    have s4 := sk_le h (show p2 + 1 ≤ t by omega)
    have s5 := sk_ne h (p2 + 1)
    have nm : ∀ J3, FQ J J3 → MI dz J3 p1 ww σ (ρ q :: vs) → numR (nI (ch p2)) (pM J3 p2) = (f6_readsNumber (pM J3 (sk ch (p2 + 1)))).bind fun q10 => (if q10.1 = true then (if (q10.2 79 16) ≤ 600 then (f6_wrong q10.2 0 (nI (sk ch (p2 + 1)))).bind fun I13 => finR (nI (ch p2)) I13 else (f6_wrong q10.2 1 (nI (sk ch (p2 + 1)))).bind fun I21 => finR (nI (ch p2)) I21) else some (false, q10.2)) := fun J3 f3 m3 => by
      unfold numR
      rw [pM_up (pM_8 J3 p2), f6_code_n h (MB_FQ hB ((f3.trans pM_FQ).trans pM_FQ)) (pM_8 _ _) (by omega)]
      simp only [Option.bind_some]
      rw [pM_pM, pM_pM, pM_8]
    generalize hp3 : sk ch (p2 + 1) = p3 at *
    have es3 : sk ch p3 = p3 := sk_n s5
    by_cases g1 : isD (ch p3) = false
    · rw [if_pos g1]
      intro dz0
      obtain ⟨J3, t1, t2, t3⟩ := tail (fun z => by rw [dz0] at z; cases z)
      rw [t1, num J3 t2 t3, nm J3 t2 t3, f6_num_a h (MB_FQ hB (t2.trans pM_FQ)) (pM_8 _ _) s4 (by rw [es3]; exact g1), es3, pM_pM]
      simp only [Option.bind_some]
      rw [if_neg (by decide)]
      exact ⟨_, rfl, t2.trans pM_FQ, pM_8 _ _, (MI_p t3).2.2.2.2.1⟩
    rw [if_neg g1]
    have g1' : isD (ch p3) = true := by simpa using g1
    have hm := numS_p h g1'
    have ev : ∀ J3, FQ J J3 → f6_readsNumber (pM J3 p3) = some (!isD (ch (numS ch p3).2), nS (pM J3 p3) (numS ch p3).2 (numS ch p3).1) := fun J3 t2 => by
      have := f6_num_n h (MB_FQ hB (t2.trans (pM_FQ (p := p3)))) (pM_8 _ _) s4 (by rw [es3]; exact g1')
      rw [es3] at this
      exact this
    generalize hb : (numS ch p3).1 = b at *
    generalize hp4 : (numS ch p3).2 = p4 at *
    by_cases g2 : isD (ch p4) = true
    · rw [if_pos g2]
      intro dz0
      obtain ⟨J3, t1, t2, t3⟩ := tail (fun z => by rw [dz0] at z; cases z)
      rw [t1, num J3 t2 t3, nm J3 t2 t3, ev J3 t2, g2]
      simp only [Option.bind_some]
      rw [if_neg (by decide)]
      exact ⟨_, rfl, (t2.trans pM_FQ).trans nS_FQ, nS_8 _ _ _, (MI_n (MI_p t3)).2.2.2.2.1⟩
    rw [if_neg g2]
    have g2' : isD (ch p4) = false := by simpa using g2
    intro hz
    have z1 : dz = true → ww = none ∧ b ≤ 600 := fun z => by
      have := wrS_none (hz z)
      exact ⟨this.1, by have := this.2; simp at this; omega⟩
    obtain ⟨J3, t1, t2, t3⟩ := tail (fun z => (z1 z).1)
    have m4 := MI_n (q := p4) (a := b) (MI_p (q := p3) t3)
    obtain ⟨J5, x1, x2, x3, x4⟩ := f6_wrong_n (bad := decide (600 < b)) (f := p3) rfl m4 (by omega)
    have f5 : FQ J J5 := ((t2.trans pM_FQ).trans nS_FQ).trans x2
    obtain ⟨J6, y1, y2, y3⟩ := finR_n (c := ch p2) (MB_FQ hB f5) x3 (x4.trans (nS_16 _ _ _)) h3 (fun z => (z1 z).2) hv
    refine ⟨J6, ?_, f5.trans y2, y3⟩
    rw [t1, num J3 t2 t3, nm J3 t2 t3, ev J3 t2, g2']
    simp only [Option.bind_some]
    rw [if_pos (by rfl), nS_16]
    by_cases hb6 : 600 < b
    · rw [decide_eq_true hb6] at x1
      have x1' : f6_wrong (nS (pM J3 p3) p4 b) (nI 1) (nI p3) = some J5 := x1
      rw [if_neg (by rw [k600, xI_le (by omega) (by omega)]; omega), k1, x1']
      exact y1
    · rw [decide_eq_false hb6] at x1
      have x1' : f6_wrong (nS (pM J3 p3) p4 b) (nI 0) (nI p3) = some J5 := x1
      rw [if_pos (by rw [k600, xI_le (by omega) (by omega)]; omega), k0, x1']
      exact y1
  · rw [if_neg h3]
    intro hz
    obtain ⟨J3, t1, t2, t3⟩ := tail hz
    refine ⟨pM J3 p2, ?_, t2.trans pM_FQ, MI_p t3⟩
    rw [t1, cod J3 t2 t3, if_neg (by rw [k60, xI_eq (by omega) (by omega)]; omega), if_neg (by rw [k62, xI_eq (by omega) (by omega)]; omega)]
end
