/-! whole states, and what is kept of them -/
abbrev Snap : Type := Nat × (Nat → Row)
def updR (ρ : Nat → Row) (q : Nat) (r : Row) : Nat → Row := fun i => if i = q then r else ρ i
theorem updR_self (ρ : Nat → Row) (q : Nat) (r : Row) : updR ρ q r q = r := if_pos rfl
theorem updR_ne {ρ : Nat → Row} {q i : Nat} {r : Row} (h : i ≠ q) : updR ρ q r i = ρ i := if_neg h
theorem updR_back (ρ : Nat → Row) (q : Nat) (r : Row) : ρ = updR (updR ρ q r) q (ρ q) := by
  funext i
  by_cases h : i = q
  · subst h; rw [updR_self]
  · rw [updR_ne h, updR_ne h]
theorem updR_id (ρ : Nat → Row) (q : Nat) : updR ρ q (ρ q) = ρ := by
  funext i
  by_cases h : i = q
  · subst h; rw [updR_self]
  · rw [updR_ne h]
def recH (A : Snap) (H : List Snap) : List Snap := A :: (if H.length = 5 then H.dropLast else H)
def cO (I : gI) (j : Nat) : Nat := (I 3 j).toNatClampNeg
/-- the changes that the class keeps, latest first -/
def HC (I : gI) : (Nat → Row) → List Snap → Prop
  | _, [] => True
  | ρ, s :: t => (∃ q r, q < 8 ∧ I (cO I t.length) 1 = nI s.1 ∧ I (cO I t.length) 2 = nI q ∧ BR I (cO I t.length + 1) r ∧ s.2 = updR ρ q r) ∧ s.1 ≤ 8 ∧ HC I s.2 t
def PC (I : gI) : Prop := (∀ j, j < 5 → isCb (cO I j) = true) ∧ (∀ j, j < 5 → I 3 j = nI (cO I j)) ∧ ∀ i j, i < 5 → j < 5 → cO I i = cO I j → i = j
theorem PC.isc {I : gI} (h : PC I) {j : Nat} (hj : j < 5) : isCb (cO I j) = true := h.1 j hj
theorem PC.val {I : gI} (h : PC I) {j : Nat} (hj : j < 5) : I 3 j = nI (cO I j) := h.2.1 j hj
theorem PC.inj {I : gI} (h : PC I) {i j : Nat} (hi : i < 5) (hj : j < 5) (e : cO I i = cO I j) : i = j := h.2.2 i j hi hj e
def RR (I : gI) (ρ : Nat → Row) : Prop := ∀ q, q < 8 → BR I (63 + 2 * q) (ρ q)
def CR (I : gI) (A : Snap) (H : List Snap) : Prop := I 0 1 = nI A.1 ∧ A.1 ≤ 8 ∧ RR I A.2 ∧ I 2 1 = nI H.length ∧ H.length ≤ 5 ∧ PC I ∧ HC I A.2 H
theorem CR.n {I : gI} {A : Snap} {H : List Snap} (h : CR I A H) : I 0 1 = nI A.1 := h.1
theorem CR.n8 {I : gI} {A : Snap} {H : List Snap} (h : CR I A H) : A.1 ≤ 8 := h.2.1
theorem CR.rows {I : gI} {A : Snap} {H : List Snap} (h : CR I A H) {q : Nat} (hq : q < 8) : BR I (63 + 2 * q) (A.2 q) := h.2.2.1 q hq
theorem CR.hl {I : gI} {A : Snap} {H : List Snap} (h : CR I A H) : I 2 1 = nI H.length := h.2.2.2.1
theorem CR.h5 {I : gI} {A : Snap} {H : List Snap} (h : CR I A H) : H.length ≤ 5 := h.2.2.2.2.1
theorem CR.pc {I : gI} {A : Snap} {H : List Snap} (h : CR I A H) : PC I := h.2.2.2.2.2.1
theorem CR.hc {I : gI} {A : Snap} {H : List Snap} (h : CR I A H) : HC I A.2 H := h.2.2.2.2.2.2
theorem isCb_cases {c : Nat} (h : isCb c = true) : c = 4 ∨ c = 7 ∨ c = 10 ∨ c = 13 ∨ c = 16 := by
  simp only [isCb, Bool.or_eq_true, beq_iff_eq] at h
  omega
theorem BR_cells {I I' : gI} {b : Nat} {r : Row} (h : BR I b r) (h1 : I' b = I b) (h2 : I' (b + 1) = I (b + 1)) : BR I' b r :=
  ⟨h.1, by rw [h1]; exact h.2.1, fun j hj => by rw [h2]; exact h.2.2 j hj⟩
theorem cO_eq {I I' : gI} {j i : Nat} (h : I' 3 j = I 3 i) : cO I' j = cO I i := by
  unfold cO
  rw [h]
theorem HC_kept {I I' : gI} : ∀ {H : List Snap} {ρ : Nat → Row}, HC I ρ H → (∀ j, j < H.length → I' 3 j = I 3 j) → (∀ j, j < H.length → I' (cO I j) = I (cO I j) ∧ I' (cO I j + 1) = I (cO I j + 1) ∧ I' (cO I j + 2) = I (cO I j + 2)) → HC I' ρ H := by
  intro H
  induction H with
  | nil => intros; trivial
  | cons s t ih =>
    intro ρ h h1 h2
    obtain ⟨⟨q, r, a1, a2, a3, a4, a5⟩, b, c⟩ := h
    have hl : t.length < (s :: t).length := by simp
    have e := cO_eq (h1 t.length hl)
    obtain ⟨e1, e2, e3⟩ := h2 t.length hl
    refine ⟨⟨q, r, a1, ?_, ?_, ?_, a5⟩, b, ih c (fun j hj => h1 j (by simp; omega)) (fun j hj => h2 j (by simp; omega))⟩
    · rw [e, e1]; exact a2
    · rw [e, e1]; exact a3
    · rw [e]; exact BR_cells a4 e2 e3
theorem HC_drop {I I' : gI} : ∀ {H : List Snap} {ρ : Nat → Row}, HC I ρ H → (∀ j, j + 1 < H.length → I' 3 j = I 3 (j + 1)) → (∀ j, j < H.length → I' (cO I j) = I (cO I j) ∧ I' (cO I j + 1) = I (cO I j + 1) ∧ I' (cO I j + 2) = I (cO I j + 2)) → HC I' ρ H.dropLast := by
  intro H
  induction H with
  | nil => intros; trivial
  | cons s t ih =>
    intro ρ h h1 h2
    obtain ⟨⟨q, r, a1, a2, a3, a4, a5⟩, b, c⟩ := h
    cases t with
    | nil => trivial
    | cons s2 t2 =>
      have hl : (s2 :: t2).length < (s :: s2 :: t2).length := by simp
      have e := cO_eq (h1 t2.length (by simp))
      obtain ⟨e1, e2, e3⟩ := h2 (s2 :: t2).length hl
      have el : (s2 :: t2).dropLast.length = t2.length := by simp
      have e' : cO I' (s2 :: t2).dropLast.length = cO I (s2 :: t2).length := by rw [el]; exact e
      refine ⟨⟨q, r, a1, ?_, ?_, ?_, a5⟩, b, ih c (fun j hj => h1 j (by simp at hj ⊢; omega)) (fun j hj => h2 j (by simp at hj ⊢; omega))⟩
      · rw [e', e1]; exact a2
      · rw [e', e1]; exact a3
      · rw [e']; exact BR_cells a4 e2 e3
theorem PC_kept {I I' : gI} (h : PC I) (e : I' 3 = I 3) : PC I' := by
  have ec : ∀ j, cO I' j = cO I j := fun j => cO_eq (by rw [e])
  exact ⟨fun j hj => by rw [ec]; exact h.isc hj, fun j hj => by rw [ec, e]; exact h.val hj, fun i j hi hj => by rw [ec, ec]; exact h.inj hi hj⟩
theorem CR_kept {I I' : gI} {A : Snap} {H : List Snap} (h : CR I A H) (hF : ∀ c, c < 79 → c < 19 ∨ 62 < c → I' c = I c) : CR I' A H := by
  have h5 := h.h5
  refine ⟨by rw [hF 0 (by omega) (by omega)]; exact h.n, h.n8, fun q hq => BR_cells (h.rows hq) (hF _ (by omega) (by omega)) (hF _ (by omega) (by omega)), by rw [hF 2 (by omega) (by omega)]; exact h.hl, h5, PC_kept h.pc (hF 3 (by omega) (by omega)), HC_kept h.hc (fun j _ => by rw [hF 3 (by omega) (by omega)]) (fun j hj => ?_)⟩
  have := isCb_cases (h.pc.isc (show j < 5 by omega))
  exact ⟨hF _ (by omega) (by omega), hF _ (by omega) (by omega), hF _ (by omega) (by omega)⟩
/-! the oldest change is dropped -/
def shD (I : gI) (m : Nat) : gI := fun c j => if c = 3 ∧ j + 1 < m then I 3 (j + 1) else I c j
theorem shD_s {I : gI} {m : Nat} (h : 1 ≤ m) : uI (shD I m) 3 (m - 1) (I 3 m) = shD I (m + 1) := by
  funext c j
  rw [uI_ap]
  unfold shD
  by_cases h1 : c = 3 ∧ j = m - 1
  · obtain ⟨rfl, rfl⟩ := h1
    rw [if_pos ⟨rfl, rfl⟩, if_pos ⟨rfl, by omega⟩, Nat.sub_add_cancel h]
  · rw [if_neg h1]
    by_cases h2 : c = 3 ∧ j + 1 < m
    · rw [if_pos h2, if_pos ⟨h2.1, by omega⟩]
    · rw [if_neg h2, if_neg (by omega)]
theorem shD_1 (I : gI) : shD I 1 = I := by
  funext c j
  unfold shD
  rw [if_neg (by omega)]
theorem shD_hi {I : gI} {m c j : Nat} (h : c ≠ 3 ∨ m ≤ j + 1) : shD I m c j = I c j := by
  unfold shD
  rw [if_neg (by omega)]
theorem isCb_lt {c : Nat} (h : isCb c = true) : c < 2 ^ 31 := by
  have := isCb_cases h
  omega
theorem f3_drop_L_n {I : gI} {b1 : Nat} (h : PC I) : ∀ (k m : Nat), 1 ≤ m → m ≤ 5 → 5 < k + m → f3_dropOldest_L9 k (shD I m) b1 (nI m) = some (uI (uI (shD I 5) 3 4 (nI b1)) 2 1 (I 2 1 - 1)) := by
  intro k
  induction k with
  | zero => intro m h1 h2; omega
  | succ k ih =>
    intro m h1 h2 h3
    rw [f3_dropOldest_L9]
    by_cases hm : m = 5
    · subst hm
      rw [if_pos (by decide), uI_ap, if_neg (by omega), shD_hi (by omega)]
    · have e : shD I m 3 m = I 3 m := shD_hi (by omega)
      have v := h.val (show m < 5 by omega)
      have hi := h.isc (show m < 5 by omega)
      have ec : (I 3 m).toNatClampNeg = cO I m := rfl
      rw [if_neg (by rw [k5, xI_le (by omega) (by omega)]; omega), xI_ib (by omega), if_pos (by simp; omega), xI_cl (by omega), e, ec, if_pos hi, k1, xI_sub h1, xI_ib (by omega), if_pos (by simp; omega), xI_cl (by omega), nI_add, ← v, shD_s h1]
      exact ih (m + 1) (by omega) (by omega) (by omega)
theorem drop_n {I : gI} {A : Snap} {H : List Snap} (h : CR I A H) (h5 : H.length = 5) : ∃ J, f3_dropOldest I = some J ∧ CR J A H.dropLast ∧ ∀ c, c ≠ 2 → c ≠ 3 → J c = I c := by
  have e := f3_drop_L_n (b1 := cO I 0) h.pc FU 1 (by omega) (by omega) (by unfold FU; omega)
  rw [shD_1] at e
  have v0 := h.pc.val (show 0 < 5 by omega)
  have i0 := h.pc.isc (show 0 < 5 by omega)
  have hF : ∀ c, c ≠ 2 → c ≠ 3 → uI (uI (shD I 5) 3 4 (nI (cO I 0))) 2 1 (I 2 1 - 1) c = I c := fun c h2 h3 => by
    funext j
    rw [uI_ap, if_neg (by omega), uI_ap, if_neg (by omega), shD_hi (by omega)]
  have e3 : ∀ j, j < 4 → uI (uI (shD I 5) 3 4 (nI (cO I 0))) 2 1 (I 2 1 - 1) 3 j = I 3 (j + 1) := fun j hj => by
    rw [uI_ap, if_neg (by omega), uI_ap, if_neg (by omega)]
    unfold shD
    rw [if_pos ⟨rfl, by omega⟩]
  have e4 : uI (uI (shD I 5) 3 4 (nI (cO I 0))) 2 1 (I 2 1 - 1) 3 4 = I 3 0 := by
    rw [uI_ap, if_neg (by omega), uI_ap, if_pos ⟨rfl, rfl⟩, v0]
  have e2 : uI (uI (shD I 5) 3 4 (nI (cO I 0))) 2 1 (I 2 1 - 1) 2 1 = nI 4 := by
    rw [uI_self, h.hl, h5]
    decide
  refine ⟨_, by unfold f3_dropOldest; rw [show (I 3 0).toNatClampNeg = cO I 0 from rfl, if_pos i0]; exact e, ?_, hF⟩
  generalize uI (uI (shD I 5) 3 4 (nI (cO I 0))) 2 1 (I 2 1 - 1) = J at hF e2 e3 e4
  have e5 : ∀ j, j < 5 → ∃ i, i < 5 ∧ J 3 j = I 3 i ∧ i = (if j = 4 then 0 else j + 1) := fun j hj => by
    by_cases hj4 : j = 4
    · subst hj4; exact ⟨0, by omega, e4, by rw [if_pos rfl]⟩
    · exact ⟨j + 1, by omega, e3 j (by omega), by rw [if_neg hj4]⟩
  have el : H.dropLast.length = 4 := by simp; omega
  refine ⟨by rw [hF 0 (by omega) (by omega)]; exact h.n, h.n8, fun q hq => BR_cells (h.rows hq) (hF _ (by omega) (by omega)) (hF _ (by omega) (by omega)), by rw [e2, el], by omega, ⟨fun j hj => ?_, fun j hj => ?_, fun i j hi hj q => ?_⟩, HC_drop h.hc (fun j hj => e3 j (by omega)) (fun j hj => ?_)⟩
  · obtain ⟨i, hi, q, -⟩ := e5 j hj
    rw [cO_eq q]
    exact h.pc.isc hi
  · obtain ⟨i, hi, q, -⟩ := e5 j hj
    rw [cO_eq q, q]
    exact h.pc.val hi
  · obtain ⟨i1, hi1, q1, w1⟩ := e5 i hi
    obtain ⟨i2, hi2, q2, w2⟩ := e5 j hj
    rw [cO_eq q1, cO_eq q2] at q
    have := h.pc.inj hi1 hi2 q
    split at w1 <;> split at w2 <;> omega
  · have := isCb_cases (h.pc.isc (show j < 5 by omega))
    exact ⟨hF _ (by omega) (by omega), hF _ (by omega) (by omega), hF _ (by omega) (by omega)⟩
/-! a change is kept -/
theorem put_n {I : gI} {A : Snap} {H : List Snap} {q : Nat} (h : CR I A H) (h4 : H.length ≤ 4) (hq : q < 8) : ∃ J, (f0_copyFrom (uI (uI I (cO I H.length) 1 (nI A.1)) (cO I H.length) 2 (nI q)) (cO I H.length + 1) (63 + 2 * q)) = some J ∧ J 2 1 = nI H.length ∧ CR (uI J 2 1 (nI (H.length + 1))) A (A :: H) ∧ (∀ r, HC (uI J 2 1 (nI (H.length + 1))) (updR A.2 q r) (A :: H)) ∧ ∀ c, 19 ≤ c → uI J 2 1 (nI (H.length + 1)) c = I c := by
  have hc0 := isCb_cases (h.pc.isc (show H.length < 5 by omega))
  have hcc := h.pc.isc (show H.length < 5 by omega)
  generalize hw : cO I H.length = c at *
  have b0 : BR (uI (uI I c 1 (nI A.1)) c 2 (nI q)) (63 + 2 * q) (A.2 q) := BR_cells (h.rows hq) (by rw [uI_row (by omega), uI_row (by omega)]) (by rw [uI_row (by omega), uI_row (by omega)])
  obtain ⟨J, a1, a2, a3⟩ := f0_copyFrom_n (b := c + 1) b0 (by omega)
  have fr : ∀ d, d ≠ c → d ≠ c + 1 → d ≠ c + 2 → J d = I d := fun d h1 h2 h3 => by
    rw [a3 d h2 h3, uI_row h1, uI_row h1]
  have fr2 : ∀ d, d ≠ c → d ≠ c + 1 → d ≠ c + 2 → d ≠ 2 → uI J 2 1 (nI (H.length + 1)) d = I d := fun d h1 h2 h3 h4 => by
    rw [uI_row h4, fr d h1 h2 h3]
  have v1 : uI J 2 1 (nI (H.length + 1)) c 1 = nI A.1 := by
    rw [uI_row (by omega), a3 c (by omega) (by omega), uI_ap, if_neg (by omega), uI_self]
  have v2 : uI J 2 1 (nI (H.length + 1)) c 2 = nI q := by
    rw [uI_row (by omega), a3 c (by omega) (by omega), uI_self]
  have v3 : BR (uI J 2 1 (nI (H.length + 1))) (c + 1) (A.2 q) := BR_cells a2 (uI_row (by omega)) (uI_row (by omega))
  have v4 := uI_self J 2 1 (nI (H.length + 1))
  have hJ2 : J 2 1 = nI H.length := by rw [fr 2 (by omega) (by omega) (by omega)]; exact h.hl
  refine ⟨J, a1, hJ2, ?_⟩
  generalize uI J 2 1 (nI (H.length + 1)) = K at fr2 v1 v2 v3 v4 ⊢
  have k3 := fr2 3 (by omega) (by omega) (by omega) (by omega)
  have ec : cO K H.length = c := by rw [← hw]; exact cO_eq (by rw [k3])
  have tail : HC K A.2 H := HC_kept h.hc (fun j _ => by rw [k3]) (fun j hj => by
    have h1 := isCb_cases (h.pc.isc (show j < 5 by omega))
    have h2 : cO I j ≠ c := fun e => by
      have := h.pc.inj (show j < 5 by omega) (show H.length < 5 by omega) (e.trans hw.symm)
      omega
    exact ⟨fr2 _ (by omega) (by omega) (by omega) (by omega), fr2 _ (by omega) (by omega) (by omega) (by omega), fr2 _ (by omega) (by omega) (by omega) (by omega)⟩)
  have hd : ∀ r, HC K (updR A.2 q r) (A :: H) := fun r => ⟨⟨q, A.2 q, hq, by rw [ec]; exact v1, by rw [ec]; exact v2, by rw [ec]; exact v3, updR_back A.2 q r⟩, h.n8, tail⟩
  refine ⟨⟨by rw [fr2 0 (by omega) (by omega) (by omega) (by omega)]; exact h.n, h.n8, fun p hp => BR_cells (h.rows hp) (fr2 _ (by omega) (by omega) (by omega) (by omega)) (fr2 _ (by omega) (by omega) (by omega) (by omega)), v4, by simp; omega, PC_kept h.pc k3, ?_⟩, hd, fun d hd => fr2 d (by omega) (by omega) (by omega) (by omega)⟩
  have := hd (A.2 q)
  rw [updR_id] at this
  exact this
theorem f5_record_n {I : gI} {A : Snap} {H : List Snap} {q : Nat} (h : CR I A H) (hq : q < 8) : ∃ J, f5_record I (nI q) = some J ∧ CR J A (recH A H) ∧ (∀ r, HC J (updR A.2 q r) (recH A H)) ∧ ∀ c, 19 ≤ c → J c = I c := by
  have h5 := h.h5
  unfold f5_record f3_add recH
  rw [xI_ib (by omega), if_pos (by simp; omega), xI_cl (by omega), h.n, h.hl]
  by_cases h55 : H.length = 5
  · obtain ⟨J, a1, a2, a3⟩ := drop_n h h55
    have el : H.dropLast.length = 4 := by simp; omega
    rw [if_pos (by rw [h55]; rfl), if_pos h55, a1]
    simp only [Option.bind_some]
    have hl := a2.hl
    have hcc := a2.pc.isc (show H.dropLast.length < 5 by omega)
    obtain ⟨K, b1, b2, b3, b4, b5⟩ := put_n a2 (by omega) hq
    rw [hl, xI_ib (by omega), if_pos (by simp; omega), xI_cl (by omega), show (J 3 H.dropLast.length).toNatClampNeg = cO J H.dropLast.length from rfl, if_pos hcc, b1]
    simp only [Option.bind_some]
    rw [b2, k1, nI_add]
    exact ⟨_, rfl, b3, b4, fun c hc => (b5 c hc).trans (a3 c (by omega) (by omega))⟩
  · rw [if_neg (by rw [k5, xI_eq (by omega) (by omega)]; exact h55), if_neg h55]
    have hcc := h.pc.isc (show H.length < 5 by omega)
    obtain ⟨K, b1, b2, b3, b4, b5⟩ := put_n h (by omega) hq
    rw [xI_ib (by omega), if_pos (by simp; omega), xI_cl (by omega), show (I 3 H.length).toNatClampNeg = cO I H.length from rfl, if_pos hcc, b1]
    simp only [Option.bind_some]
    rw [b2, k1, nI_add]
    exact ⟨_, rfl, b3, b4, b5⟩
/-- a row, and no more than it and what is spare, is changed after it was kept -/
theorem CR_step {I J : gI} {A : Snap} {H : List Snap} {q m : Nat} {r : Row} (h : CR I A H) (hq : q < 8) (hr : ∀ r, HC I (updR A.2 q r) H) (hb : BR J (63 + 2 * q) r) (hn : J 0 1 = nI m) (hm : m ≤ 8) (hF : ∀ c, c < 79 → c ≠ 0 → c < 19 ∨ 62 < c → c ≠ 63 + 2 * q → c ≠ 64 + 2 * q → J c = I c) : CR J (m, updR A.2 q r) H := by
  have h5 := h.h5
  refine ⟨hn, hm, fun p hp => ?_, by rw [hF 2 (by omega) (by omega) (by omega) (by omega) (by omega)]; exact h.hl, h5, PC_kept h.pc (hF 3 (by omega) (by omega) (by omega) (by omega) (by omega)), HC_kept (hr r) (fun j _ => by rw [hF 3 (by omega) (by omega) (by omega) (by omega) (by omega)]) (fun j hj => ?_)⟩
  · show BR J (63 + 2 * p) (updR A.2 q r p)
    by_cases e : p = q
    · subst e; rw [updR_self]; exact hb
    · rw [updR_ne e]
      exact BR_cells (h.rows hp) (hF _ (by omega) (by omega) (by omega) (by omega) (by omega)) (hF _ (by omega) (by omega) (by omega) (by omega) (by omega))
  · have := isCb_cases (h.pc.isc (show j < 5 by omega))
    exact ⟨hF _ (by omega) (by omega) (by omega) (by omega) (by omega), hF _ (by omega) (by omega) (by omega) (by omega) (by omega), hF _ (by omega) (by omega) (by omega) (by omega) (by omega)⟩
theorem f5_undo_n {I : gI} {A s : Snap} {t : List Snap} (h : CR I A (s :: t)) : ∃ J, f5_undo I = some (nI t.length, J) ∧ CR J s t ∧ ∀ c, 19 ≤ c → c < 63 ∨ 79 ≤ c → J c = I c := by
  have h5 := h.h5
  have hl := h.hl
  have el : (s :: t).length = t.length + 1 := rfl
  rw [el] at h5 hl
  obtain ⟨⟨q, r, w1, w2, w3, w4, w5⟩, wb, wc⟩ := h.hc
  have hcc := h.pc.isc (show t.length < 5 by omega)
  have hc0 := isCb_cases hcc
  unfold f5_undo f3_removeLatest
  rw [hl, if_neg (by rw [k0, xI_eq (by omega) (by omega)]; omega)]
  have e1 : (if 0 < nI (t.length + 1) - 1 then nI (t.length + 1) - 1 else 0) = nI t.length := by
    rw [k1, xI_sub (by omega), k0, Nat.add_sub_cancel]
    by_cases h0 : t.length = 0
    · rw [if_neg (by rw [xI_lt (by omega) (by omega)]; omega), h0]
    · rw [if_pos (by rw [xI_lt (by omega) (by omega)]; omega)]
  rw [e1, uI_self, uI_row (show 3 ≠ 2 by decide)]
  have ec : (I 3 (nI t.length).toNatClampNeg).toNatClampNeg = cO I t.length := by rw [xI_cl (by omega)]; rfl
  rw [ec, xI_ib (by omega), if_pos (by simp; omega), if_pos hcc]
  simp only [Option.bind_some]
  rw [if_pos hcc]
  generalize cO I t.length = c at *
  have g1 : uI (uI I 2 1 (nI t.length)) 0 1 (uI I 2 1 (nI t.length) c 1) c 2 = nI q := by
    rw [uI_row (by omega), uI_row (by omega), w3]
  have g2 : uI I 2 1 (nI t.length) c 1 = nI s.1 := by rw [uI_row (by omega), w2]
  rw [g1, g2, xI_ib (by omega), if_pos (by simp; omega), xI_cl (by omega)]
  have b0 : BR (uI (uI I 2 1 (nI t.length)) 0 1 (nI s.1)) (c + 1) r := BR_cells w4 (by rw [uI_row (by omega), uI_row (by omega)]) (by rw [uI_row (by omega), uI_row (by omega)])
  obtain ⟨J, a1, a2, a3⟩ := f0_copyFrom_n (b := 63 + 2 * q) b0 (by omega)
  rw [a1]
  simp only [Option.bind_some]
  have fr : ∀ d, d ≠ 0 → d ≠ 2 → d ≠ 63 + 2 * q → d ≠ 64 + 2 * q → J d = I d := fun d h0 h1 h2 h3 => by
    rw [a3 d h2 (by omega), uI_row h0, uI_row h1]
  have j2 : J 2 1 = nI t.length := by
    rw [a3 2 (by omega) (by omega), uI_row (by omega), uI_self]
  have j0 : J 0 1 = nI s.1 := by
    rw [a3 0 (by omega) (by omega), uI_self]
  rw [j2]
  refine ⟨J, rfl, ⟨j0, wb, fun p hp => ?_, j2, by omega, PC_kept h.pc (fr 3 (by omega) (by omega) (by omega) (by omega)), HC_kept wc (fun j _ => by rw [fr 3 (by omega) (by omega) (by omega) (by omega)]) (fun j hj => ?_)⟩, fun d h1 h2 => fr d (by omega) (by omega) (by omega) (by omega)⟩
  · rw [w5]
    by_cases e : p = q
    · subst e; rw [updR_self]; exact a2
    · rw [updR_ne e]
      exact BR_cells (h.rows hp) (fr _ (by omega) (by omega) (by omega) (by omega)) (fr _ (by omega) (by omega) (by omega) (by omega))
  · have := isCb_cases (h.pc.isc (show j < 5 by omega))
    exact ⟨fr _ (by omega) (by omega) (by omega) (by omega), fr _ (by omega) (by omega) (by omega) (by omega), fr _ (by omega) (by omega) (by omega) (by omega)⟩
