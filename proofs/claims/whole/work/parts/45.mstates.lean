/-! the reference's states -/
def MS (I : gI) (b : Nat) (s : Snap) : Prop := I 80 (b + 4808) = nI s.1 ∧ ∀ q, q < 8 → AR I (b + 601 * q) (s.2 q)
def HM (I : gI) : List Snap → Prop
  | [] => True
  | s :: t => MS I (4809 + 4809 * t.length) s ∧ HM I t
def MR (I : gI) (A : Snap) (H : List Snap) : Prop := MS I 0 A ∧ I 79 1 = nI H.length ∧ H.length ≤ 5 ∧ HM I H
theorem MR.n {I : gI} {A : Snap} {H : List Snap} (h : MR I A H) : I 80 4808 = nI A.1 := h.1.1
theorem MR.rows {I : gI} {A : Snap} {H : List Snap} (h : MR I A H) {q : Nat} (hq : q < 8) : AR I (601 * q) (A.2 q) := by
  have := h.1.2 q hq
  rw [Nat.zero_add] at this
  exact this
theorem MR.hl {I : gI} {A : Snap} {H : List Snap} (h : MR I A H) : I 79 1 = nI H.length := h.2.1
theorem MR.h5 {I : gI} {A : Snap} {H : List Snap} (h : MR I A H) : H.length ≤ 5 := h.2.2.1
theorem MR.hm {I : gI} {A : Snap} {H : List Snap} (h : MR I A H) : HM I H := h.2.2.2
theorem AR_cells {I I' : gI} {o : Nat} {r : Row} (h : AR I o r) (hF : ∀ j, o ≤ j → j < o + 601 → I' 80 j = I 80 j) : AR I' o r := by
  have := h.1.1
  exact ⟨h.1, by rw [hF o (by omega) (by omega)]; exact h.2.1, fun k hk => by rw [hF _ (by omega) (by omega)]; exact h.2.2 k hk⟩
theorem MS_cells {I I' : gI} {b b' : Nat} {s : Snap} (h : MS I b s) (hF : ∀ j, j < 4809 → I' 80 (b' + j) = I 80 (b + j)) : MS I' b' s := by
  refine ⟨by rw [hF 4808 (by omega)]; exact h.1, fun q hq => ?_⟩
  obtain ⟨a1, a2, a3⟩ := h.2 q hq
  have := a1.1
  refine ⟨a1, by rw [hF _ (by omega)]; exact a2, fun k hk => ?_⟩
  have e1 : b' + 601 * q + 1 + k = b' + (601 * q + 1 + k) := by omega
  have e2 : b + (601 * q + 1 + k) = b + 601 * q + 1 + k := by omega
  rw [e1, hF _ (by omega), e2]
  exact a3 k hk
theorem HM_kept {I I' : gI} : ∀ {H : List Snap}, HM I H → (∀ j, 4809 ≤ j → j < 4809 + 4809 * H.length → I' 80 j = I 80 j) → HM I' H := by
  intro H
  induction H with
  | nil => intros; trivial
  | cons s t ih =>
    intro h h1
    have el : (s :: t).length = t.length + 1 := rfl
    rw [el] at h1
    exact ⟨MS_cells h.1 (fun j hj => h1 _ (by omega) (by omega)), ih h.2 (fun j a b => h1 j a (by omega))⟩
theorem nlt48 {j x : Nat} (h : j + 4809 < 4809 + 4809 * x) : j + 4809 < 4809 + 4809 * (x + 1) := by omega
theorem HM_drop {I I' : gI} : ∀ {H : List Snap}, HM I H → (∀ j, 4809 ≤ j → j + 4809 < 4809 + 4809 * H.length → I' 80 j = I 80 (j + 4809)) → HM I' H.dropLast := by
  intro H
  induction H with
  | nil => intros; trivial
  | cons s t ih =>
    intro h h1
    have el : (s :: t).length = t.length + 1 := rfl
    rw [el] at h1
    cases t with
    | nil => trivial
    | cons s2 t2 =>
      have el2 : (s2 :: t2).length = t2.length + 1 := rfl
      have el3 : (s2 :: t2).dropLast.length = t2.length := by simp
      refine ⟨MS_cells (b := 4809 + 4809 * (s2 :: t2).length) h.1 (fun j hj => ?_), ih h.2 (fun j a b => h1 j a (nlt48 b))⟩
      rw [el3, el2, h1 _ (by omega) (by omega)]
      congr 1
      omega
theorem MR_kept {I I' : gI} {A : Snap} {H : List Snap} (h : MR I A H) (h1 : ∀ j, j < 28854 → I' 80 j = I 80 j) (h2 : I' 79 1 = I 79 1) : MR I' A H := by
  have h5 := h.h5
  exact ⟨MS_cells h.1 (fun j hj => h1 _ (by omega)), by rw [h2]; exact h.hl, h5, HM_kept h.hm (fun j a b => h1 j (by omega))⟩
theorem MR_step {I J : gI} {A : Snap} {H : List Snap} {q m : Nat} {r : Row} (h : MR I A H) (hq : q < 8) (hb : AR J (601 * q) r) (hn : J 80 4808 = nI m) (hF : ∀ j, (j < 601 * q ∨ 601 * q + 601 ≤ j) → j ≠ 4808 → j < 28854 → J 80 j = I 80 j) (h2 : J 79 1 = I 79 1) : MR J (m, updR A.2 q r) H := by
  have h5 := h.h5
  refine ⟨⟨hn, fun p hp => ?_⟩, by rw [h2]; exact h.hl, h5, HM_kept h.hm (fun j a b => hF j (by omega) (by omega) (by omega))⟩
  show AR J (0 + 601 * p) (updR A.2 q r p)
  rw [Nat.zero_add]
  by_cases e : p = q
  · subst e; rw [updR_self]; exact hb
  · rw [updR_ne e]
    refine AR_cells (h.rows hp) (fun j a b => hF j ?_ (by omega) (by omega))
    rcases Nat.lt_or_ge p q with e2 | e2 <;> omega
theorem MR_stepO {I J : gI} {A : Snap} {H : List Snap} {q : Nat} {r : Row} (h : MR I A H) (hq : q < 8) (hb : AR J (601 * q) r) (hF : FrO I J (601 * q)) : MR J (A.1, updR A.2 q r) H :=
  MR_step h hq hb (by rw [hF.2 4808 (by omega) (by omega)]; exact h.n) (fun j a _ b => hF.2 j a (by omega)) (by rw [hF.1 79 (by omega)])
/-! states are moved down -/
def shM (I : gI) (m : Nat) : gI := fun c j => if c = 80 ∧ 4809 ≤ j ∧ j < 4809 * m then I 80 (j + 4809) else I c j
theorem shM_1 (I : gI) : shM I 1 = I := by
  funext c j
  unfold shM
  rw [if_neg (by omega)]
theorem shM_s {I : gI} {m : Nat} (h : 1 ≤ m) : cpA (shM I m) (4809 + 4809 * m) (4809 * m) 4809 = shM I (m + 1) := by
  funext c j
  unfold cpA shM
  by_cases h1 : c = 80 ∧ 4809 * m ≤ j ∧ j < 4809 * m + 4809
  · obtain ⟨rfl, h2, h3⟩ := h1
    rw [if_pos ⟨rfl, h2, h3⟩, if_neg (by omega), if_pos ⟨rfl, by omega, by omega⟩]
    congr 1
    omega
  · rw [if_neg h1]
    by_cases h2 : c = 80 ∧ 4809 ≤ j ∧ j < 4809 * m
    · rw [if_pos h2, if_pos ⟨h2.1, h2.2.1, by omega⟩]
    · rw [if_neg h2, if_neg (by omega)]
theorem shM_row {I : gI} {m c : Nat} (h : c ≠ 80) : shM I m c = I c := by
  funext j
  unfold shM
  rw [if_neg (by omega)]
theorem f6_record_L_n {I : gI} (h79 : I 79 1 = nI 5) : ∀ (k m : Nat), 1 ≤ m → m ≤ 5 → 5 < k + m → f6_record_L10 k (shM I m) (nI m) = some (uI (cpA (uI (shM I 5) 79 1 (nI 4)) 0 24045 4809) 79 1 (nI 5)) := by
  intro k
  induction k with
  | zero => intro m h1 h2; omega
  | succ k ih =>
    intro m h1 h2 h3
    rw [f6_record_L10]
    by_cases hm : m = 5
    · subst hm
      have e : shM I 5 79 1 - 1 = nI 4 := by rw [shM_row (by omega), h79]; rfl
      rw [if_pos (by decide), e, uI_self, k4809, k0, xI_mul, nI_add, f6_copyState_n (by omega) (by omega) (by omega)]
      simp only [Option.bind_some]
      have e2 : cpA (uI (shM I 5) 79 1 (nI 4)) 0 (4809 + 4809 * 4) 4809 79 1 = nI 4 := by rw [cpA_row (by omega), uI_self]
      rw [e2]
      rfl
    · rw [if_neg (by rw [k5, xI_le (by omega) (by omega)]; omega), k4809, xI_mul, nI_add, f6_copyState_n (by omega) (by omega) (by omega)]
      simp only [Option.bind_some]
      rw [shM_s h1, k1, nI_add]
      exact ih (m + 1) (by omega) (by omega) (by omega)
theorem f6_record_n {I : gI} {A : Snap} {H : List Snap} (h : MR I A H) : ∃ J, f6_record I = some J ∧ MR J A (recH A H) ∧ (∀ c, c ≠ 80 → c ≠ 79 → J c = I c) ∧ ∀ j, j ≠ 1 → J 79 j = I 79 j := by
  have h5 := h.h5
  unfold f6_record recH
  rw [h.hl]
  by_cases h55 : H.length = 5
  · have el : H.dropLast.length = 4 := by simp; omega
    have e := f6_record_L_n (I := I) (by rw [h.hl, h55]) FU 1 (by omega) (by omega) (by unfold FU; omega)
    rw [shM_1] at e
    rw [if_pos (by rw [h55]; rfl), if_pos h55, k1, e]
    have c1 : ∀ j, j < 4809 → uI (cpA (uI (shM I 5) 79 1 (nI 4)) 0 24045 4809) 79 1 (nI 5) 80 j = I 80 j := fun j hj => by
      rw [uI_row (by omega), cpA_out (by omega), uI_row (by omega)]
      unfold shM
      rw [if_neg (by omega)]
    refine ⟨_, rfl, ⟨MS_cells h.1 (fun j hj => c1 _ (by omega)), ?_, ?_, ?_, ?_⟩, fun c h1 h2 => ?_, fun j hj => ?_⟩
    · rw [uI_self]
      show nI 5 = nI (H.dropLast.length + 1)
      rw [el]
    · show H.dropLast.length + 1 ≤ 5
      omega
    · rw [el]
      refine MS_cells h.1 (fun j hj => ?_)
      have e2 : 4809 + 4809 * 4 + j = 24045 + j := by omega
      rw [e2, uI_row (by omega), cpA_in hj, uI_row (by omega), Nat.zero_add]
      unfold shM
      rw [if_neg (by omega)]
    · refine HM_drop h.hm (fun j a b => ?_)
      rw [h55] at b
      rw [uI_row (by omega), cpA_out (by omega), uI_row (by omega)]
      unfold shM
      rw [if_pos ⟨rfl, a, by omega⟩]
    · rw [uI_row h2, cpA_row h1, uI_row h2, shM_row h1]
    · rw [uI_ap, if_neg (by omega), cpA_row (by omega), uI_ap, if_neg (by omega), shM_row (by omega)]
  · rw [if_neg (by rw [k5, xI_eq (by omega) (by omega)]; exact h55), if_neg h55, k4809, k0, xI_mul, nI_add, f6_copyState_n (by omega) (by omega) (by omega)]
    simp only [Option.bind_some]
    have e2 : cpA I 0 (4809 + 4809 * H.length) 4809 79 1 = nI H.length := by rw [cpA_row (by omega), h.hl]
    rw [e2, k1, nI_add]
    refine ⟨_, rfl, ⟨MS_cells h.1 (fun j hj => ?_), uI_self _ _ _ _, ?_, ?_, ?_⟩, fun c h1 h2 => ?_, fun j hj => ?_⟩
    · rw [uI_row (by omega), cpA_out (by omega)]
    · show H.length + 1 ≤ 5
      omega
    · refine MS_cells h.1 (fun j hj => ?_)
      rw [uI_row (by omega), cpA_in hj]
    · refine HM_kept h.hm (fun j a b => ?_)
      rw [uI_row (by omega), cpA_out (by omega)]
    · rw [uI_row h2, cpA_row h1]
    · rw [uI_ap, if_neg (by omega), cpA_row (by omega)]
theorem f6_undo_n {I : gI} {A s : Snap} {t : List Snap} (h : MR I A (s :: t)) : ∃ J, f6_undo I = some (nI t.length, J) ∧ MR J s t ∧ (∀ c, c ≠ 80 → c ≠ 79 → J c = I c) ∧ ∀ j, j ≠ 1 → J 79 j = I 79 j := by
  have h5 := h.h5
  have hl := h.hl
  have el : (s :: t).length = t.length + 1 := rfl
  rw [el] at h5 hl
  obtain ⟨w1, w2⟩ := h.hm
  unfold f6_undo
  rw [hl, if_neg (by rw [k0, xI_eq (by omega) (by omega)]; omega), k1, xI_sub (by omega), Nat.add_sub_cancel, uI_self, k4809, k0, xI_mul, nI_add, f6_copyState_n (by omega) (by omega) (by omega)]
  simp only [Option.bind_some]
  have e : cpA (uI I 79 1 (nI t.length)) (4809 + 4809 * t.length) 0 4809 79 1 = nI t.length := by rw [cpA_row (by omega), uI_self]
  rw [e]
  refine ⟨_, rfl, ⟨MS_cells w1 (fun j hj => ?_), e, by omega, HM_kept w2 (fun j a b => ?_)⟩, fun c h1 h2 => ?_, fun j hj => ?_⟩
  · rw [cpA_in hj, uI_row (by omega)]
  · rw [cpA_out (by omega), uI_row (by omega)]
  · rw [cpA_row h1, uI_row h2]
  · rw [cpA_row (by omega), uI_ap, if_neg (by omega)]
/-! the text, the failure, and all together -/
def TX (I : gI) : Prop := (∃ t, t ≤ 100 ∧ I 19 1 = nI t ∧ I 79 3 = nI t ∧ ∀ j, j < t → ∃ c, 1 ≤ c ∧ c ≤ 255 ∧ I 20 j = nI c ∧ I 81 j = nI c) ∧ I 19 2 = I 79 5 ∧ I 19 3 = I 79 6 ∧ I 19 4 = I 79 7
def Rel (I : gI) (A : Snap) (H : List Snap) : Prop := CR I A H ∧ MR I A H ∧ TX I
def RelE (I : gI) : Prop := ∃ A H, Rel I A H
/-- what the class's calls leave, texts aside -/
def FC (I I' : gI) : Prop := ∀ c, c = 19 ∨ c = 20 ∨ 79 ≤ c → I' c = I c
/-- what the reference's calls leave, texts aside -/
def FM (I I' : gI) : Prop := (∀ c, c < 79 ∨ c = 81 → I' c = I c) ∧ ∀ j, j ≠ 1 → I' 79 j = I 79 j
theorem TX_kept {I I' : gI} (h : TX I) (h1 : I' 19 = I 19) (h2 : I' 20 = I 20) (h3 : ∀ j, j ≠ 1 → I' 79 j = I 79 j) (h4 : I' 81 = I 81) : TX I' := by
  obtain ⟨⟨t, a1, a2, a3, a4⟩, b1, b2, b3⟩ := h
  exact ⟨⟨t, a1, by rw [h1]; exact a2, by rw [h3 3 (by omega)]; exact a3, fun j hj => by rw [h2, h4]; exact a4 j hj⟩, by rw [h1, h3 5 (by omega)]; exact b1, by rw [h1, h3 6 (by omega)]; exact b2, by rw [h1, h3 7 (by omega)]; exact b3⟩
theorem FC.rfl' {I : gI} : FC I I := fun _ _ => rfl
theorem FM.rfl' {I : gI} : FM I I := ⟨fun _ _ => rfl, fun _ _ => rfl⟩
theorem Rel_of {I I1 I2 : gI} {A A' : Snap} {H H' : List Snap} (h : Rel I A H) (c : CR I1 A' H') (f : FC I I1) (m : MR I2 A' H') (g : FM I1 I2) : Rel I2 A' H' := by
  refine ⟨CR_kept c (fun d hd _ => g.1 d (Or.inl hd)), m, TX_kept h.2.2 ?_ ?_ (fun j hj => ?_) ?_⟩
  · rw [g.1 19 (by omega), f 19 (by omega)]
  · rw [g.1 20 (by omega), f 20 (by omega)]
  · rw [g.2 j hj, f 79 (by omega)]
  · rw [g.1 81 (by omega), f 81 (by omega)]
theorem MR_of {I I1 : gI} {A : Snap} {H : List Snap} (h : MR I A H) (f : FC I I1) : MR I1 A H :=
  MR_kept h (fun j _ => by rw [f 80 (by omega)]) (by rw [f 79 (by omega)])
/-- one call of each side -/
def OK1 (c : Option (Int32 × gI)) (m : gI → Option (Int32 × gI)) : Prop := ∃ v I1 I2, c = some (v, I1) ∧ m I1 = some (v, I2) ∧ RelE I2
def OK0 (c m : Option Int32) : Prop := ∃ v, c = some v ∧ m = some v
theorem OK1_same {I : gI} {v : Int32} {c : Option (Int32 × gI)} {m : gI → Option (Int32 × gI)} (h : RelE I) (h1 : c = some (v, I)) (h2 : m I = some (v, I)) : OK1 c m := ⟨v, I, I, h1, h2, h⟩
theorem isW_row {a : Int32} {n : Nat} (hn : n ≤ 8) (h : f5_isWithin a 0 (nI n - 1) = true) : ∃ q, q < n ∧ a = nI q := by
  unfold f5_isWithin at h
  rcases Nat.eq_zero_or_pos n with h0 | h0
  · subst h0
    exfalso
    by_cases h1 : a < 0
    · rw [if_pos h1] at h; cases h
    · rw [if_neg h1] at h
      by_cases h2 : (nI 0 - 1) < a
      · rw [if_pos h2] at h; cases h
      · apply h2
        have h3 : ¬ a.toInt < 0 := by rw [← Int32.toInt_zero, ← Int32.lt_iff_toInt_lt]; exact h1
        rw [Int32.lt_iff_toInt_lt]
        have : (nI 0 - 1).toInt = -1 := by decide
        omega
  · by_cases h1 : a < 0
    · rw [if_pos h1] at h; cases h
    · rw [if_neg h1] at h
      by_cases h2 : (nI n - 1) < a
      · rw [if_pos h2] at h; cases h
      · rw [k1, xI_sub h0] at h2
        obtain ⟨j, hj, rfl⟩ := xI_of (show n - 1 < 2 ^ 31 by omega) h1 h2
        exact ⟨j, by omega, rfl⟩
theorem isW_n {a : Int32} {m n : Nat} (hm : m < 2 ^ 31) (hn : n < 2 ^ 31) (h : f5_isWithin a (nI m) (nI n) = true) : ∃ q, m ≤ q ∧ q ≤ n ∧ a = nI q := by
  unfold f5_isWithin at h
  by_cases h1 : a < nI m
  · rw [if_pos h1] at h; cases h
  · rw [if_neg h1] at h
    by_cases h2 : nI n < a
    · rw [if_pos h2] at h; cases h
    · have h3 : ¬ a < 0 := fun h3 => h1 (by
        rw [Int32.lt_iff_toInt_lt] at h3 ⊢
        have e1 := nI_toInt hm
        have e0 : (0 : Int32).toInt = 0 := by decide
        omega)
      obtain ⟨j, hj, rfl⟩ := xI_of hn h3 h2
      exact ⟨j, by rw [xI_lt (by omega) hm] at h1; omega, hj, rfl⟩
