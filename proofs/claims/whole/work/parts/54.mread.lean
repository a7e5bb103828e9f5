/-! the reference reads signs and numbers -/
def MB (ch : Nat → Nat) (t n : Nat) (ρ : Nat → Row) (dz : Bool) (I : gI) : Prop := I 79 3 = nI t ∧ (∀ j, j < t → I 81 j = nI (ch j)) ∧ I 80 4808 = nI n ∧ (∀ q, q < 8 → AR I (601 * q) (ρ q)) ∧ I 79 13 = nI dz.toNat
def FQ (I I' : gI) : Prop := (∀ c, c ≠ 79 → c ≠ 80 → c ≠ 83 → I' c = I c) ∧ (∀ j, j < 8 ∨ j = 13 → I' 79 j = I 79 j) ∧ ∀ j, j < 28854 → I' 80 j = I 80 j
theorem FQ.rfl' {I : gI} : FQ I I := ⟨fun _ _ _ _ => rfl, fun _ _ => rfl, fun _ _ => rfl⟩
theorem FQ.trans {I J K : gI} (h1 : FQ I J) (h2 : FQ J K) : FQ I K := ⟨fun c a b d => (h2.1 c a b d).trans (h1.1 c a b d), fun j a => (h2.2.1 j a).trans (h1.2.1 j a), fun j a => (h2.2.2 j a).trans (h1.2.2 j a)⟩
theorem MB_FQ {ch : Nat → Nat} {t n : Nat} {ρ : Nat → Row} {dz : Bool} {I J : gI} (h : MB ch t n ρ dz I) (hF : FQ I J) : MB ch t n ρ dz J := by
  obtain ⟨a1, a2, a3, a4, a5⟩ := h
  obtain ⟨b1, b2, b3⟩ := hF
  exact ⟨(b2 3 (by omega)).trans a1, fun j hj => by rw [b1 81 (by omega) (by omega) (by omega)]; exact a2 j hj, (b3 _ (by omega)).trans a3, fun q hq => AR_cells (a4 q hq) (fun j _ _ => b3 j (by omega)), (b2 13 (by omega)).trans a5⟩
theorem FQ_79 {I : gI} {j : Nat} {x : Int32} (h : 8 ≤ j) (h2 : j ≠ 13) : FQ I (uI I 79 j x) := ⟨fun c a _ _ => uI_row a, fun i hi => by rw [uI_ap, if_neg (by omega)], fun i _ => by rw [uI_row (by omega)]⟩
theorem FQ_83 {I : gI} {j : Nat} {x : Int32} : FQ I (uI I 83 j x) := ⟨fun c _ _ a => uI_row a, fun i _ => by rw [uI_row (by omega)], fun i _ => by rw [uI_row (by omega)]⟩
theorem FQ_O {I J : gI} {o : Nat} (h : FrO I J o) (ho : 28854 ≤ o) : FQ I J := ⟨fun c _ a _ => h.1 c a, fun i _ => by rw [h.1 79 (by omega)], fun i hi => h.2 i (by omega) (by omega)⟩
def pM (I : gI) (p : Nat) : gI := uI I 79 8 (nI p)
theorem pM_8 (I : gI) (p : Nat) : pM I p 79 8 = nI p := uI_self _ _ _ _
theorem pM_j {I : gI} {p j : Nat} (h : j ≠ 8) : pM I p 79 j = I 79 j := by
  unfold pM
  rw [uI_ap, if_neg (by omega)]
theorem pM_c {I : gI} {p c : Nat} (h : c ≠ 79) : pM I p c = I c := uI_row h
theorem pM_FQ {I : gI} {p : Nat} : FQ I (pM I p) := FQ_79 (by omega) (by omega)
theorem pM_id {I : gI} {p : Nat} (h : I 79 8 = nI p) : pM I p = I := by
  funext c j
  unfold pM
  rw [uI_ap]
  by_cases e : c = 79 ∧ j = 8
  · rw [if_pos e, e.1, e.2, h]
  · rw [if_neg e]
theorem pM_pM (I : gI) (p q : Nat) : pM (pM I p) q = pM I q := by
  funext c j
  unfold pM
  rw [uI_ap, uI_ap, uI_ap]
  by_cases e : c = 79 ∧ j = 8
  · rw [if_pos e, if_pos e]
  · rw [if_neg e, if_neg e, if_neg e]
theorem pM_up {I : gI} {p : Nat} (h : I 79 8 = nI p) : uI I 79 8 (I 79 8 + 1) = pM I (p + 1) := by
  rw [h, k1, nI_add]
  rfl
/-- a place and a number -/
def nS (I : gI) (p a : Nat) : gI := uI (uI I 79 8 (nI p)) 79 16 (nI a)
theorem nS_8 (I : gI) (p a : Nat) : nS I p a 79 8 = nI p := by
  unfold nS
  rw [uI_ap, if_neg (by omega), uI_self]
theorem nS_16 (I : gI) (p a : Nat) : nS I p a 79 16 = nI a := uI_self _ _ _ _
theorem nS_j {I : gI} {p a j : Nat} (h : j ≠ 8) (h2 : j ≠ 16) : nS I p a 79 j = I 79 j := by
  unfold nS
  rw [uI_ap, if_neg (by omega), uI_ap, if_neg (by omega)]
theorem nS_c {I : gI} {p a c : Nat} (h : c ≠ 79) : nS I p a c = I c := by
  unfold nS
  rw [uI_row h, uI_row h]
theorem nS_FQ {I : gI} {p a : Nat} : FQ I (nS I p a) := (FQ_79 (by omega) (by omega)).trans (FQ_79 (by omega) (by omega))
theorem nS_up (I : gI) (p a b : Nat) : uI (uI (nS I p a) 79 16 (nI b)) 79 8 (nI (p + 1)) = nS I (p + 1) b := by
  funext c j
  unfold nS
  rw [uI_ap, uI_ap, uI_ap, uI_ap, uI_ap, uI_ap]
  by_cases e : c = 79 ∧ j = 8
  · rw [if_pos e, if_neg (by omega), if_pos e]
  · rw [if_neg e]
    by_cases e2 : c = 79 ∧ j = 16
    · rw [if_pos e2, if_pos e2]
    · rw [if_neg e2, if_neg e2, if_neg e2, if_neg e, if_neg e]
section
variable {ch : Nat → Nat} {t n : Nat} {ρ : Nat → Row} {dz : Bool}
theorem f6_code_L_n (h : TXT ch t) : ∀ (k p : Nat) (I : gI), MB ch t n ρ dz I → I 79 8 = nI p → p ≤ t → t < k + p → f6_code_L0 k I = some (nI (ch (sk ch p)), pM I (sk ch p)) := by
  have ht := h.1
  intro k
  induction k with
  | zero => intro p I a1 a2 a3 a4; omega
  | succ k ih =>
    intro p I a1 a2 a3 a4
    rw [f6_code_L0, a1.1, a2]
    have hc := h.le p
    by_cases h1 : t ≤ p
    · have e0 := h.2.2 p h1
      have e : sk ch p = p := sk_n (by rw [e0]; omega)
      have c1 : nI t ≤ nI p := by rw [xI_le (by omega) (by omega)]; exact h1
      rw [if_pos c1, if_pos c1, e, pM_id a2, e0]
      rfl
    · have c1 : ¬ nI t ≤ nI p := by rw [xI_le (by omega) (by omega)]; exact h1
      have c2 : ib (nI p) 100 = true := by rw [xI_ib (by omega)]; simp; omega
      rw [if_neg c1, if_pos c2, xI_cl (by omega), a1.2.1 p (by omega)]
      by_cases h2 : ch p = 32
      · rw [if_pos (by rw [h2]; rfl), k1, nI_add, sk_s h h2]
        have := ih (p + 1) (pM I (p + 1)) (MB_FQ a1 pM_FQ) (pM_8 _ _) (by omega) (by omega)
        rw [pM_pM] at this
        exact this
      · rw [if_neg (by rw [k32, xI_eq (by omega) (by omega)]; exact h2), if_neg c1, if_pos c2, sk_n h2, pM_id a2]
theorem f6_code_n {p : Nat} {I : gI} (h : TXT ch t) (hB : MB ch t n ρ dz I) (h8 : I 79 8 = nI p) (hp : p ≤ t) : f6_code I = some (nI (ch (sk ch p)), pM I (sk ch p)) := f6_code_L_n h FU p I hB h8 hp (by have := h.1; unfold FU; omega)
theorem f6_dig {c : Nat} (hc : c ≤ 255) : f6_in (nI c) 48 57 = isD c := f2_isDigit_n hc
def finM (I : gI) : Option (Bool × gI) := (if (I 79 8) = (I 79 3) then some (true, I) else if ib (I 79 8) 100 = true then (if (f6_in (I 81 ((I 79 8).toNatClampNeg)) 48 57) = true then some (false, I) else some (true, I)) else none)
theorem finM_n {p : Nat} {I : gI} (h : TXT ch t) (hB : MB ch t n ρ dz I) (h8 : I 79 8 = nI p) (hp : p ≤ t) : finM I = some (!isD (ch p), I) := by
  have ht := h.1
  unfold finM
  rw [h8, hB.1]
  by_cases h1 : p = t
  · rw [if_pos (by rw [h1]), h.2.2 p (by omega)]
    rfl
  · rw [if_neg (by rw [xI_eq (by omega) (by omega)]; exact h1), xI_ib (by omega), if_pos (by simp; omega), xI_cl (by omega), hB.2.1 p (by omega), f6_dig (h.le p)]
    cases isD (ch p) <;> rfl
theorem L26_e {k f p : Nat} {I : gI} (h : TXT ch t) (hB : MB ch t n ρ dz I) (h8 : I 79 8 = nI p) (hp : p ≤ t) (hd : isD (ch p) = false) : f6_readsNumber_L26 (k + 1) I (nI f) = finM I := by
  have ht := h.1
  rw [f6_readsNumber_L26, h8, hB.1]
  by_cases h1 : t ≤ p
  · rw [if_pos (by rw [xI_le (by omega) (by omega)]; exact h1)]
    unfold finM
    rw [h8, hB.1]
  · rw [if_neg (by rw [xI_le (by omega) (by omega)]; exact h1), xI_ib (by omega), if_pos (by simp; omega), xI_cl (by omega), hB.2.1 p (by omega), f6_dig (h.le p), if_neg (by rw [hd]; decide)]
    unfold finM
    rw [h8, hB.1, xI_ib (by omega), xI_cl (by omega), hB.2.1 p (by omega), f6_dig (h.le p)]
theorem L26_3 {k f p : Nat} {I : gI} (h : TXT ch t) (hB : MB ch t n ρ dz I) (h8 : I 79 8 = nI p) (hd : isD (ch p) = true) (hf : f + 3 ≤ p) : f6_readsNumber_L26 (k + 1) I (nI f) = finM I := by
  have ht := h.1
  have pt := isD_ne h hd
  rw [f6_readsNumber_L26, h8, hB.1, if_neg (by rw [xI_le (by omega) (by omega)]; omega), xI_ib (by omega), if_pos (by simp; omega), xI_cl (by omega), hB.2.1 p (by omega), f6_dig (h.le p), if_pos hd, xI_sub (by omega), if_pos (by rw [k3, xI_le (by omega) (by omega)]; omega)]
  unfold finM
  rw [h8, hB.1, xI_ib (by omega), xI_cl (by omega), hB.2.1 p (by omega), f6_dig (h.le p)]
theorem L26_z {k f p : Nat} {I : gI} (h : TXT ch t) (hB : MB ch t n ρ dz I) (h8 : I 79 8 = nI p) (h16 : I 79 16 = nI 0) (hd : isD (ch p) = true) (hf : f < p) (hf3 : p < f + 3) : f6_readsNumber_L26 (k + 1) I (nI f) = finM I := by
  have ht := h.1
  have pt := isD_ne h hd
  rw [f6_readsNumber_L26, h8, hB.1, if_neg (by rw [xI_le (by omega) (by omega)]; omega), xI_ib (by omega), if_pos (by simp; omega), xI_cl (by omega), hB.2.1 p (by omega), f6_dig (h.le p), if_pos hd, xI_sub (by omega), if_neg (by rw [k3, xI_le (by omega) (by omega)]; omega), if_neg (by rw [xI_eq (by omega) (by omega)]; omega), h16, if_pos (by decide)]
  unfold finM
  rw [h8, hB.1, xI_ib (by omega), xI_cl (by omega), hB.2.1 p (by omega), f6_dig (h.le p)]
theorem L26_d {k f p a : Nat} {I : gI} (h : TXT ch t) (hB : MB ch t n ρ dz I) (hd : isD (ch p) = true) (hf : f ≤ p) (hf3 : p < f + 3) (ha : f < p → a ≠ 0) (ha2 : a < 1000) : f6_readsNumber_L26 (k + 1) (nS I p a) (nI f) = f6_readsNumber_L26 k (nS I (p + 1) (a * 10 + (ch p - 48))) (nI f) := by
  have ht := h.1
  have pt := isD_ne h hd
  have hc := h.le p
  have h0 := isD_iff.mp hd
  have hB' := MB_FQ hB (nS_FQ (p := p) (a := a))
  have ev : 10 * nI a + nI (ch p) - 48 = nI (a * 10 + (ch p - 48)) := by
    rw [k10, xI_mul, nI_add, k48, xI_sub (by omega)]
    congr 1
    omega
  have e16 : uI (nS I p a) 79 16 (nI (a * 10 + (ch p - 48))) 79 8 = nI p := by rw [uI_ap, if_neg (by omega), nS_8]
  have cw : ib (nI p) 100 = true := by rw [xI_ib (by omega)]; simp; omega
  rw [f6_readsNumber_L26, nS_8, nS_16, hB'.1, if_neg (by rw [xI_le (by omega) (by omega)]; omega), if_pos cw, xI_cl (by omega), hB'.2.1 p (by omega), f6_dig hc, if_pos hd, xI_sub hf, if_neg (by rw [k3, xI_le (by omega) (by omega)]; omega), ev, e16, k1, nI_add, nS_up]
  by_cases hfp : p = f
  · rw [if_pos (by rw [hfp]), if_pos cw]
  · rw [if_neg (by rw [xI_eq (by omega) (by omega)]; exact hfp), if_neg (by rw [k0, xI_le (by omega) (by omega)]; have := ha (by omega); omega), if_pos cw]
theorem f6_num_n {p : Nat} {I : gI} (h : TXT ch t) (hB : MB ch t n ρ dz I) (h8 : I 79 8 = nI p) (hp : p ≤ t) (hd : isD (ch (sk ch p)) = true) : f6_readsNumber I = some (!isD (ch (numS ch (sk ch p)).2), nS I (numS ch (sk ch p)).2 (numS ch (sk ch p)).1) := by
  have ht : t ≤ 100 := h.1
  have hs := sk_le h hp
  have hn := numS_p h hd
  have hc := h.le (sk ch p)
  have h0 := isD_iff.mp hd
  have hB1 := fun r a => MB_FQ (J := nS I r a) hB nS_FQ
  have fin := finM_n h (hB1 (numS ch (sk ch p)).2 (numS ch (sk ch p)).1) (nS_8 _ _ _) hn.2.1
  refine Eq.trans ?_ fin
  unfold f6_readsNumber
  rw [f6_code_n h hB h8 hp]
  simp only [Option.bind_some]
  rw [f6_dig hc, if_pos hd, pM_8, show FU = 4996 + 4 from rfl]
  generalize sk ch p = r at *
  have pr := isD_ne h hd
  have st : uI (pM I r) 79 16 0 = nS I r 0 := rfl
  have s1 := L26_d (k := 4996 + 3) (f := r) (a := 0) h hB hd (by omega) (by omega) (by omega) (by omega)
  rw [Nat.zero_mul, Nat.zero_add] at s1
  rw [st, s1]
  have c1 := h.le (r + 1)
  unfold numS
  by_cases h1 : ch r = 48
  · rw [if_pos h1, h1, Nat.sub_self]
    cases hd1 : isD (ch (r + 1)) with
    | true => exact L26_z h (hB1 _ _) (nS_8 _ _ _) (nS_16 _ _ _) hd1 (by omega) (by omega)
    | false => exact L26_e h (hB1 _ _) (nS_8 _ _ _) (by omega) hd1
  rw [if_neg h1]
  by_cases h2 : isD (ch (r + 1)) = false
  · rw [if_pos h2]
    exact L26_e h (hB1 _ _) (nS_8 _ _ _) (by omega) h2
  rw [if_neg h2]
  have h2' : isD (ch (r + 1)) = true := by simpa using h2
  have h3 := isD_iff.mp h2'
  have p1 := isD_ne h h2'
  have s2 := L26_d (k := 4996 + 2) (f := r) (a := ch r - 48) h hB h2' (by omega) (by omega) (by omega) (by omega)
  rw [s2]
  by_cases h4 : isD (ch (r + 2)) = false
  · rw [if_pos h4]
    exact L26_e h (hB1 _ _) (nS_8 _ _ _) (by omega) h4
  rw [if_neg h4]
  have h4' : isD (ch (r + 2)) = true := by simpa using h4
  have h5 := isD_iff.mp h4'
  have p2 := isD_ne h h4'
  have s3 := L26_d (k := 4996 + 1) (f := r) (p := r + 2) (a := (ch r - 48) * 10 + (ch (r + 1) - 48)) h hB h4' (by omega) (by omega) (by omega) (by omega)
  refine s3.trans ?_
  by_cases h6 : isD (ch (r + 2 + 1)) = true
  · exact L26_3 h (hB1 _ _) (nS_8 _ _ _) h6 (by omega)
  · exact L26_e h (hB1 _ _) (nS_8 _ _ _) (by omega) (by simpa using h6)
theorem f6_num_a {p : Nat} {I : gI} (h : TXT ch t) (hB : MB ch t n ρ dz I) (h8 : I 79 8 = nI p) (hp : p ≤ t) (hd : isD (ch (sk ch p)) = false) : f6_readsNumber I = some (false, pM I (sk ch p)) := by
  unfold f6_readsNumber
  rw [f6_code_n h hB h8 hp]
  simp only [Option.bind_some]
  rw [f6_dig (h.le _), if_neg (by rw [hd]; decide)]
end
