/-! the class reads signs, numbers and rows -/
def CB (ch : Nat → Nat) (t n : Nat) (ρ : Nat → Row) (I : gI) : Prop := I 19 1 = nI t ∧ (∀ j, j < t → I 20 j = nI (ch j)) ∧ I 19 6 = 1 ∧ I 19 7 = nI n ∧ RR I ρ
def FE (s : Nat) (I I' : gI) : Prop := (∀ c, c ≠ 19 → (c < 23 + 2 * s ∨ 61 ≤ c) → I' c = I c) ∧ I' 19 1 = I 19 1 ∧ I' 19 6 = I 19 6 ∧ I' 19 7 = I 19 7
theorem FE.rfl' {s : Nat} {I : gI} : FE s I I := ⟨fun _ _ _ => rfl, rfl, rfl, rfl⟩
theorem FE.trans {s : Nat} {I J K : gI} (h1 : FE s I J) (h2 : FE s J K) : FE s I K := ⟨fun c a b => (h2.1 c a b).trans (h1.1 c a b), h2.2.1.trans h1.2.1, h2.2.2.1.trans h1.2.2.1, h2.2.2.2.trans h1.2.2.2⟩
theorem FE.le {s s' : Nat} {I J : gI} (h : FE s' I J) (hs : s ≤ s') : FE s I J := ⟨fun c a b => h.1 c a (by omega), h.2⟩
theorem CB_FE {ch : Nat → Nat} {t n s : Nat} {ρ : Nat → Row} {I J : gI} (h : CB ch t n ρ I) (hF : FE s I J) : CB ch t n ρ J := by
  obtain ⟨a1, a2, a3, a4, a5⟩ := h
  obtain ⟨b1, b2, b3, b4⟩ := hF
  exact ⟨b2.trans a1, fun j hj => by rw [b1 20 (by omega) (by omega)]; exact a2 j hj, b3.trans a3, b4.trans a4, fun q hq => BR_cells (a5 q hq) (b1 _ (by omega) (by omega)) (b1 _ (by omega) (by omega))⟩
def Kd : Type := Int32 × Int32 × Int32
def WR (F : Int32 × Int32 × Int32) (I : gI) (w : Wg) : Prop := match w with
  | none => I 19 9 = 0 ∧ I 19 2 = F.1 ∧ I 19 3 = F.2.1 ∧ I 19 4 = F.2.2
  | some (p, d) => I 19 9 = 1 ∧ I 19 2 = 2 ∧ I 19 3 = nI p ∧ I 19 4 = nI d
theorem WR_eq {F : Int32 × Int32 × Int32} {I J : gI} {w : Wg} (h : WR F I w) (e : ∀ j, j ≠ 8 → J 19 j = I 19 j) : WR F J w := by
  cases w with
  | none => exact ⟨(e 9 (by omega)).trans h.1, (e 2 (by omega)).trans h.2.1, (e 3 (by omega)).trans h.2.2.1, (e 4 (by omega)).trans h.2.2.2⟩
  | some x => exact ⟨(e 9 (by omega)).trans h.1, (e 2 (by omega)).trans h.2.1, (e 3 (by omega)).trans h.2.2.1, (e 4 (by omega)).trans h.2.2.2⟩
theorem WR_0 {F : Int32 × Int32 × Int32} {I : gI} {w : Wg} (h : WR F I w) : I 19 9 = 0 ↔ w = none := by
  cases w with
  | none => exact ⟨fun _ => rfl, fun _ => h.1⟩
  | some x => exact ⟨fun z => by rw [h.1] at z; exact absurd z (by decide), fun z => by cases z⟩
def pI (I : gI) (p : Nat) : gI := uI I 19 8 (nI p)
theorem pI_8 (I : gI) (p : Nat) : pI I p 19 8 = nI p := uI_self _ _ _ _
theorem pI_j {I : gI} {p j : Nat} (h : j ≠ 8) : pI I p 19 j = I 19 j := by
  unfold pI
  rw [uI_ap, if_neg (by omega)]
theorem pI_FE {s : Nat} {I : gI} {p : Nat} : FE s I (pI I p) := ⟨fun c a _ => uI_row a, pI_j (by omega), pI_j (by omega), pI_j (by omega)⟩
theorem pI_id {I : gI} {p : Nat} (h : I 19 8 = nI p) : pI I p = I := by
  funext c j
  unfold pI
  rw [uI_ap]
  by_cases e : c = 19 ∧ j = 8
  · rw [if_pos e, e.1, e.2, h]
  · rw [if_neg e]
theorem pI_pI (I : gI) (p q : Nat) : pI (pI I p) q = pI I q := by
  funext c j
  unfold pI
  rw [uI_ap, uI_ap, uI_ap]
  by_cases e : c = 19 ∧ j = 8
  · rw [if_pos e, if_pos e]
  · rw [if_neg e, if_neg e, if_neg e]
theorem cb_n {c : Nat} (h : c ≤ 255) : cb (nI c) = true := by
  unfold cb
  rw [Bool.and_eq_true, decide_eq_true_eq, decide_eq_true_eq, k0, k65535, xI_le (by omega) (by omega), xI_le (by omega) (by omega)]
  omega
theorem f2_signHere_n {ch : Nat → Nat} {t n p : Nat} {ρ : Nat → Row} {I : gI} (h : TXT ch t) (hB : CB ch t n ρ I) (h8 : I 19 8 = nI p) (hp : p ≤ t) : f2_signHere I = some (nI (ch p)) := by
  have ht := h.1
  unfold f2_signHere
  rw [hB.1, h8]
  by_cases h1 : t ≤ p
  · rw [if_pos (by rw [xI_le (by omega) (by omega)]; exact h1), h.2.2 p h1]
    rfl
  · rw [if_neg (by rw [xI_le (by omega) (by omega)]; exact h1), if_neg (by rw [k100, xI_le (by omega) (by omega)]; omega), xI_ib (by omega), if_pos (by simp; omega), xI_cl (by omega), hB.2.1 p (by omega), if_pos (cb_n (h.le p))]
theorem f2_next_L_n {ch : Nat → Nat} {t n : Nat} {ρ : Nat → Row} (h : TXT ch t) : ∀ (k p : Nat) (I : gI), CB ch t n ρ I → I 19 8 = nI p → p ≤ t → t < k + p → f2_nextSign_L0 k I = some (nI (ch (sk ch p)), pI I (sk ch p)) := by
  have ht := h.1
  intro k
  induction k with
  | zero => intro p I a1 a2 a3 a4; omega
  | succ k ih =>
    intro p I a1 a2 a3 a4
    rw [f2_nextSign_L0, f2_signHere_n h a1 a2 a3, a1.1, a2]
    simp only [Option.bind_some]
    have hc := h.le p
    by_cases h1 : t ≤ p
    · have e : sk ch p = p := sk_n (by rw [h.2.2 p h1]; omega)
      rw [if_pos (by rw [xI_le (by omega) (by omega)]; exact h1), if_pos (cb_n hc), e, pI_id a2]
    · rw [if_neg (by rw [xI_le (by omega) (by omega)]; exact h1)]
      by_cases h2 : ch p = 32
      · rw [if_pos (by rw [h2]; rfl), k1, nI_add, sk_s h h2]
        have := ih (p + 1) (pI I (p + 1)) (CB_FE (s := 0) a1 pI_FE) (pI_8 _ _) (by omega) (by omega)
        rw [pI_pI] at this
        exact this
      · rw [if_neg (by rw [k32, xI_eq (by omega) (by omega)]; exact h2), if_pos (cb_n hc), sk_n h2, pI_id a2]
theorem f2_next_n {ch : Nat → Nat} {t n p : Nat} {ρ : Nat → Row} {I : gI} (h : TXT ch t) (hB : CB ch t n ρ I) (h8 : I 19 8 = nI p) (hp : p ≤ t) : f2_nextSign I = some (nI (ch (sk ch p)), pI I (sk ch p)) := f2_next_L_n h FU p I hB h8 hp (by have := h.1; unfold FU; omega)
theorem f2_isDigit_n {c : Nat} (hc : c ≤ 255) : f2_isDigit (nI c) = isD c := by
  unfold f2_isDigit isD
  by_cases h1 : c < 48
  · rw [if_pos (by rw [k48, xI_lt (by omega) (by omega)]; exact h1)]
    simp
    omega
  · rw [if_neg (by rw [k48, xI_lt (by omega) (by omega)]; exact h1)]
    by_cases h2 : 57 < c
    · rw [if_pos (by rw [k57, xI_lt (by omega) (by omega)]; exact h2)]
      simp
      omega
    · rw [if_neg (by rw [k57, xI_lt (by omega) (by omega)]; exact h2)]
      simp
      omega
/-- a failure that stands -/
def FL (I : gI) (a : Int32) (p d : Nat) : Prop := I 19 9 = 1 ∧ I 19 2 = a ∧ I 19 3 = nI p ∧ I 19 4 = nI d
theorem f2_fail_n {I : gI} {a : Int32} {p d s : Nat} : ∃ I', f2_fail I a (nI p) (nI d) = some I' ∧ FL I' a p d ∧ FE s I I' ∧ I' 19 8 = I 19 8 := by
  refine ⟨_, rfl, ⟨?_, ?_, ?_, ?_⟩, ⟨fun c h _ => ?_, ?_, ?_, ?_⟩, ?_⟩
  · rw [uI_ap, if_neg (by omega), uI_ap, if_neg (by omega), uI_ap, if_neg (by omega), uI_self]
  · rw [uI_ap, if_neg (by omega), uI_ap, if_neg (by omega), uI_self]
  · rw [uI_ap, if_neg (by omega), uI_self]
  · rw [uI_self]
  · rw [uI_row h, uI_row h, uI_row h, uI_row h]
  · rw [uI_ap, if_neg (by omega), uI_ap, if_neg (by omega), uI_ap, if_neg (by omega), uI_ap, if_neg (by omega)]
  · rw [uI_ap, if_neg (by omega), uI_ap, if_neg (by omega), uI_ap, if_neg (by omega), uI_ap, if_neg (by omega)]
  · rw [uI_ap, if_neg (by omega), uI_ap, if_neg (by omega), uI_ap, if_neg (by omega), uI_ap, if_neg (by omega)]
  · rw [uI_ap, if_neg (by omega), uI_ap, if_neg (by omega), uI_ap, if_neg (by omega), uI_ap, if_neg (by omega)]
theorem f2_break_n {I : gI} {p d s : Nat} (h8 : I 19 8 = nI p) : ∃ I', f2_breakOff I (nI d) = some (false, I') ∧ FL I' 1 p d ∧ FE s I I' := by
  obtain ⟨I', a1, a2, a3, -⟩ := f2_fail_n (I := I) (a := 1) (p := p) (d := d) (s := s)
  refine ⟨I', ?_, a2, a3⟩
  unfold f2_breakOff
  rw [h8, a1]
  rfl
/-- the end of a number -/
def finN (I : gI) (f d m q : Nat) : Option (Int32 × gI) := (f2_signHere I).bind fun v12 => (if (f2_isDigit v12) = true then (f2_breakOff I (nI d)).bind fun q17 => some ((-9), q17.2) else (if nI q ≤ nI m then some (nI q, I) else (if (I 19 9) = 0 then (f2_fail I 2 (nI f) (nI d)).bind fun I16 => some (nI q, I16) else some (nI q, I))))
section
variable {ch : Nat → Nat} {t n : Nat} {ρ : Nat → Row}
theorem L30_3 {k f d m q : Nat} {I : gI} : f2_readNumber_L30 (k + 1) I (nI d) (nI m) (nI f) (nI q) 3 = finN I f d m q := by
  rw [f2_readNumber_L30, if_pos (by decide)]
  rfl
theorem L30_e {k f d m q x p : Nat} {I : gI} (h : TXT ch t) (hB : CB ch t n ρ I) (h8 : I 19 8 = nI p) (hp : p ≤ t) (hx : x < 3) (hd : isD (ch p) = false) : f2_readNumber_L30 (k + 1) I (nI d) (nI m) (nI f) (nI q) (nI x) = finN I f d m q := by
  have hc := h.le p
  unfold finN
  rw [f2_readNumber_L30, if_neg (by rw [k3, xI_le (by omega) (by omega)]; omega), f2_signHere_n h hB h8 hp]
  simp only [Option.bind_some]
  rw [f2_isDigit_n hc, if_neg (by rw [hd]; decide), if_neg (by rw [hd]; decide)]
theorem L30_z {k f d m p : Nat} {I : gI} (h : TXT ch t) (hB : CB ch t n ρ I) (h8 : I 19 8 = nI p) (hp : p ≤ t) (hd : isD (ch p) = true) : f2_readNumber_L30 (k + 1) I (nI d) (nI m) (nI f) (nI 0) (nI 1) = finN I f d m 0 := by
  have hc := h.le p
  unfold finN
  rw [f2_readNumber_L30, if_neg (by decide), f2_signHere_n h hB h8 hp]
  simp only [Option.bind_some]
  rw [f2_isDigit_n hc, if_pos hd, if_pos hd, if_pos (by decide), if_pos (by decide)]
theorem L30_d {k f d m q x p : Nat} {I : gI} (h : TXT ch t) (hB : CB ch t n ρ I) (h8 : I 19 8 = nI p) (hp : p ≤ t) (hx : x < 3) (hd : isD (ch p) = true) (hq : x = 1 → q ≠ 0) (hq2 : q < 1000) : f2_readNumber_L30 (k + 1) I (nI d) (nI m) (nI f) (nI q) (nI x) = f2_readNumber_L30 k (pI I (p + 1)) (nI d) (nI m) (nI f) (nI (q * 10 + (ch p - 48))) (nI (x + 1)) := by
  have hc := h.le p
  have h0 := isD_iff.mp hd
  have ev : nI q * 10 + (nI (ch p) - 48) = nI (q * 10 + (ch p - 48)) := by rw [k48, xI_sub (by omega), k10, xI_mul, nI_add]
  have e8 : uI I 19 8 (I 19 8 + 1) = pI I (p + 1) := by rw [h8, k1, nI_add]; rfl
  rw [f2_readNumber_L30, if_neg (by rw [k3, xI_le (by omega) (by omega)]; omega), f2_signHere_n h hB h8 hp]
  simp only [Option.bind_some]
  rw [f2_isDigit_n hc, if_pos hd, ev, e8, k1, nI_add]
  by_cases hx1 : x = 1
  · rw [if_pos (by rw [hx1]), if_neg (by rw [k0, xI_eq (by omega) (by omega)]; exact hq hx1)]
  · rw [if_neg (by rw [xI_eq (by omega) (by omega)]; exact hx1)]
theorem f2_num_n {d m p : Nat} {I : gI} (h : TXT ch t) (hB : CB ch t n ρ I) (h8 : I 19 8 = nI p) (hp : p ≤ t) (hd : isD (ch (sk ch p)) = true) : f2_readNumber I (nI d) (nI m) = finN (pI I (numS ch (sk ch p)).2) (sk ch p) d m (numS ch (sk ch p)).1 := by
  have hf : t ≤ 100 := h.1
  have hs := sk_le h hp
  have hc := h.le (sk ch p)
  have h0 := isD_iff.mp hd
  have hB1 := fun r => CB_FE (s := 0) (J := pI I r) hB pI_FE
  unfold f2_readNumber
  rw [f2_next_n h hB h8 hp]
  simp only [Option.bind_some]
  rw [f2_isDigit_n hc, if_pos hd, pI_8, show FU = 4996 + 4 from rfl]
  generalize sk ch p = r at *
  have pr := isD_ne h hd
  have s1 := L30_d (k := 4996 + 3) (f := r) (d := d) (m := m) (q := 0) (x := 0) h (hB1 r) (pI_8 I r) hs (by omega) hd (by omega) (by omega)
  rw [Nat.zero_mul, Nat.zero_add, Nat.zero_add, pI_pI] at s1
  rw [k0, s1]
  have c1 := h.le (r + 1)
  unfold numS
  by_cases h1 : ch r = 48
  · rw [if_pos h1, h1, Nat.sub_self]
    cases hd1 : isD (ch (r + 1)) with
    | true => exact L30_z h (hB1 _) (pI_8 _ _) (by omega) hd1
    | false => exact L30_e h (hB1 _) (pI_8 _ _) (by omega) (by omega) hd1
  rw [if_neg h1]
  by_cases h2 : isD (ch (r + 1)) = false
  · rw [if_pos h2]
    exact L30_e h (hB1 _) (pI_8 _ _) (by omega) (by omega) h2
  rw [if_neg h2]
  have h2' : isD (ch (r + 1)) = true := by simpa using h2
  have h3 := isD_iff.mp h2'
  have p1 := isD_ne h h2'
  have s2 := L30_d (k := 4996 + 2) (f := r) (d := d) (m := m) (q := ch r - 48) (x := 1) h (hB1 (r + 1)) (pI_8 I _) (by omega) (by omega) h2' (by omega) (by omega)
  rw [pI_pI] at s2
  rw [s2]
  by_cases h4 : isD (ch (r + 2)) = false
  · rw [if_pos h4]
    exact L30_e h (hB1 _) (pI_8 _ _) (by omega) (by omega) h4
  rw [if_neg h4]
  have h4' : isD (ch (r + 2)) = true := by simpa using h4
  have h5 := isD_iff.mp h4'
  have p2 := isD_ne h h4'
  have s3 := L30_d (k := 4996 + 1) (f := r) (d := d) (m := m) (q := (ch r - 48) * 10 + (ch (r + 1) - 48)) (x := 2) h (hB1 (r + 2)) (pI_8 I _) (by omega) (by omega) h4' (by omega) (by omega)
  rw [pI_pI] at s3
  refine s3.trans ?_
  exact L30_3
theorem f2_num_a {d m p s : Nat} {I : gI} (h : TXT ch t) (hB : CB ch t n ρ I) (h8 : I 19 8 = nI p) (hp : p ≤ t) (hd : isD (ch (sk ch p)) = false) : ∃ I', f2_readNumber I (nI d) (nI m) = some (-9, I') ∧ FL I' 1 (sk ch p) d ∧ FE s I I' := by
  obtain ⟨I', a1, a2, a3⟩ := f2_break_n (I := pI I (sk ch p)) (d := d) (s := s) (pI_8 _ _)
  refine ⟨I', ?_, a2, pI_FE.trans a3⟩
  unfold f2_readNumber
  rw [f2_next_n h hB h8 hp]
  simp only [Option.bind_some]
  rw [f2_isDigit_n (h.le _), if_neg (by rw [hd]; decide), a1]
  rfl
theorem f2_num_b {d m p s : Nat} {I : gI} (h : TXT ch t) (hB : CB ch t n ρ I) (h8 : I 19 8 = nI p) (hp : p ≤ t) (hd : isD (ch (sk ch p)) = true) (hd2 : isD (ch (numS ch (sk ch p)).2) = true) : ∃ I', f2_readNumber I (nI d) (nI m) = some (-9, I') ∧ FL I' 1 (numS ch (sk ch p)).2 d ∧ FE s I I' := by
  have hn := numS_p h hd
  obtain ⟨I', a1, a2, a3⟩ := f2_break_n (I := pI I (numS ch (sk ch p)).2) (d := d) (s := s) (pI_8 _ _)
  refine ⟨I', ?_, a2, pI_FE.trans a3⟩
  rw [f2_num_n h hB h8 hp hd]
  unfold finN
  rw [f2_signHere_n h (CB_FE (s := 0) hB pI_FE) (pI_8 _ _) hn.2.1]
  simp only [Option.bind_some]
  rw [f2_isDigit_n (h.le _), if_pos hd2, a1]
  rfl
theorem f2_num_c {F : Int32 × Int32 × Int32} {w : Wg} {d m p s : Nat} {I : gI} (h : TXT ch t) (hB : CB ch t n ρ I) (h8 : I 19 8 = nI p) (hp : p ≤ t) (hm : m < 2 ^ 20) (hw : WR F I w) (hd : isD (ch (sk ch p)) = true) (hd2 : isD (ch (numS ch (sk ch p)).2) = false) : ∃ I', f2_readNumber I (nI d) (nI m) = some (nI (numS ch (sk ch p)).1, I') ∧ I' 19 8 = nI (numS ch (sk ch p)).2 ∧ WR F I' (wrS w (decide (m < (numS ch (sk ch p)).1)) (sk ch p) d) ∧ FE s I I' := by
  have hn := numS_p h hd
  have w1 : WR F (pI I (numS ch (sk ch p)).2) w := WR_eq hw (fun j hj => pI_j hj)
  rw [f2_num_n h hB h8 hp hd]
  unfold finN
  rw [f2_signHere_n h (CB_FE (s := 0) hB pI_FE) (pI_8 _ _) hn.2.1]
  simp only [Option.bind_some]
  rw [f2_isDigit_n (h.le _), if_neg (by rw [hd2]; decide)]
  generalize hJ : pI I (numS ch (sk ch p)).2 = J at *
  have fe : FE s I J := by rw [← hJ]; exact pI_FE
  have j8 : J 19 8 = nI (numS ch (sk ch p)).2 := by rw [← hJ]; exact pI_8 _ _
  by_cases h1 : (numS ch (sk ch p)).1 ≤ m
  · rw [if_pos (by rw [xI_le (by omega) (by omega)]; exact h1), decide_eq_false (by omega)]
    refine ⟨J, rfl, j8, ?_, fe⟩
    cases w with
    | none => exact w1
    | some x => exact w1
  · rw [if_neg (by rw [xI_le (by omega) (by omega)]; exact h1), decide_eq_true (by omega)]
    cases w with
    | none =>
      rw [if_pos w1.1]
      obtain ⟨I', a1, a2, a3, a4⟩ := f2_fail_n (I := J) (a := 2) (p := sk ch p) (d := d) (s := s)
      rw [a1]
      exact ⟨I', rfl, a4.trans j8, a2, fe.trans a3⟩
    | some x =>
      rw [if_neg (by rw [w1.1]; decide)]
      exact ⟨J, rfl, j8, w1, fe⟩
end
