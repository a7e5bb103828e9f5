/-! the reference's stack of signs and its values -/
def ST (I : gI) : List Nat → Prop
  | [] => True
  | c :: τ => (I 83 τ.length = nI c ∧ c ≤ 255) ∧ ST I τ
def nst (c : Nat) : Nat := if c = 40 ∨ c = 126 then 1 else 0
def dep : List Nat → Nat
  | [] => 0
  | c :: τ => dep τ + nst c
def VA (I : gI) : List Row → Prop
  | [] => True
  | v :: u => AR I (28854 + 601 * u.length) v ∧ VA I u
def WM (I : gI) (w : Wg) : Prop := match w with
  | none => I 79 14 = -1
  | some (p, d) => I 79 14 = nI p ∧ I 79 15 = nI d ∧ p ≤ 1000
def MI (dz : Bool) (I : gI) (p : Nat) (w : Wg) (σ : List Nat) (vs : List Row) : Prop := I 79 8 = nI p ∧ WM I w ∧ ST I σ ∧ I 79 10 = nI σ.length ∧ I 79 11 = nI (dep σ) ∧ I 79 12 = nI vs.length ∧ (dz = true → VA I vs)
def opc (c : Nat) : Nat := if c = 38 then 0 else if c = 124 then 1 else if c = 45 then 2 else 3
def rkN (c : Nat) : Nat := if c = 124 then 1 else if c = 94 then 1 else if c = 38 then 2 else if c = 45 then 2 else 0
def tp : List Nat → Nat
  | [] => 0
  | c :: _ => c
theorem opc_le (c : Nat) : opc c ≤ 3 := by
  unfold opc
  split
  · omega
  split
  · omega
  split <;> omega
theorem ite_nI {p q : Prop} [Decidable p] [Decidable q] {a b : Int32} {x y : Nat} (h : p = q) (h1 : a = nI x) (h2 : b = nI y) : (if p then a else b) = nI (if q then x else y) := by
  subst h
  by_cases hp : p
  · rw [if_pos hp, if_pos hp, h1]
  · rw [if_neg hp, if_neg hp, h2]
theorem f6_operationOf_n {c : Nat} (hc : c ≤ 255) : f6_operationOf (nI c) = nI (opc c) := by
  unfold f6_operationOf opc
  exact ite_nI (by rw [show (38 : Int32) = nI 38 from rfl, xI_eq (by omega) (by omega)]) rfl (ite_nI (by rw [show (124 : Int32) = nI 124 from rfl, xI_eq (by omega) (by omega)]) rfl (ite_nI (by rw [show (45 : Int32) = nI 45 from rfl, xI_eq (by omega) (by omega)]) rfl rfl))
theorem f6_rank_n {c : Nat} (hc : c ≤ 255) : f6_rank (nI c) = nI (rkN c) := by
  unfold f6_rank rkN
  exact ite_nI (by rw [show (124 : Int32) = nI 124 from rfl, xI_eq (by omega) (by omega)]) rfl (ite_nI (by rw [show (94 : Int32) = nI 94 from rfl, xI_eq (by omega) (by omega)]) rfl (ite_nI (by rw [show (38 : Int32) = nI 38 from rfl, xI_eq (by omega) (by omega)]) rfl (ite_nI (by rw [show (45 : Int32) = nI 45 from rfl, xI_eq (by omega) (by omega)]) rfl rfl)))
theorem ST_kept {I J : gI} : ∀ {σ : List Nat}, ST I σ → (∀ j, j < σ.length → J 83 j = I 83 j) → ST J σ := by
  intro σ
  induction σ with
  | nil => intros; trivial
  | cons c τ ih =>
    intro h e
    have el : (c :: τ).length = τ.length + 1 := rfl
    rw [el] at e
    exact ⟨⟨(e τ.length (by omega)).trans h.1.1, h.1.2⟩, ih h.2 (fun j hj => e j (by omega))⟩
theorem n601a {j x : Nat} (h : 28854 + 601 * x ≤ j) : 28854 ≤ j := Nat.le_trans (Nat.le_add_right _ _) h
theorem n601b {j x : Nat} (h : j < 28854 + 601 * x + 601) : j < 28854 + 601 * (x + 1) := by
  rw [Nat.mul_succ, ← Nat.add_assoc]
  exact h
theorem n601c {j x : Nat} (h : j < 28854 + 601 * x) : j < 28854 + 601 * (x + 1) := Nat.lt_of_lt_of_le h (Nat.add_le_add_left (Nat.mul_le_mul_left 601 (Nat.le_succ x)) 28854)
theorem VA_kept {I J : gI} : ∀ {vs : List Row}, VA I vs → (∀ j, 28854 ≤ j → j < 28854 + 601 * vs.length → J 80 j = I 80 j) → VA J vs := by
  intro vs
  induction vs with
  | nil => intros; trivial
  | cons v u ih =>
    intro h e
    have el : (v :: u).length = u.length + 1 := rfl
    rw [el] at e
    exact ⟨AR_cells h.1 (fun j a b => e j (n601a a) (n601b b)), ih h.2 (fun j a b => e j a (n601c b))⟩
theorem tp_le {I : gI} {σ : List Nat} (h : ST I σ) : tp σ ≤ 255 := by
  cases σ with
  | nil => exact Nat.zero_le _
  | cons c τ => exact h.1.2
theorem WM_eq {I J : gI} {w : Wg} (h : WM I w) (e : ∀ j, j = 14 ∨ j = 15 → J 79 j = I 79 j) : WM J w := by
  cases w with
  | none => exact (e 14 (by omega)).trans h
  | some x => exact ⟨(e 14 (by omega)).trans h.1, (e 15 (by omega)).trans h.2.1, h.2.2⟩
theorem MI_p {dz : Bool} {I : gI} {p q : Nat} {w : Wg} {σ : List Nat} {vs : List Row} (h : MI dz I p w σ vs) : MI dz (pM I q) q w σ vs := by
  obtain ⟨a1, a2, a3, a4, a5, a6, a7⟩ := h
  exact ⟨pM_8 _ _, WM_eq a2 (fun j hj => pM_j (by omega)), ST_kept a3 (fun j _ => by rw [pM_c (by omega)]), (pM_j (by omega)).trans a4, (pM_j (by omega)).trans a5, (pM_j (by omega)).trans a6, fun z => VA_kept (a7 z) (fun j _ _ => by rw [pM_c (by omega)])⟩
theorem MI_n {dz : Bool} {I : gI} {p q a : Nat} {w : Wg} {σ : List Nat} {vs : List Row} (h : MI dz I p w σ vs) : MI dz (nS I q a) q w σ vs := by
  obtain ⟨a1, a2, a3, a4, a5, a6, a7⟩ := h
  exact ⟨nS_8 _ _ _, WM_eq a2 (fun j hj => nS_j (by omega) (by omega)), ST_kept a3 (fun j _ => by rw [nS_c (by omega)]), (nS_j (by omega) (by omega)).trans a4, (nS_j (by omega) (by omega)).trans a5, (nS_j (by omega) (by omega)).trans a6, fun z => VA_kept (a7 z) (fun j _ _ => by rw [nS_c (by omega)])⟩
theorem f6_top_n {dz : Bool} {I : gI} {p : Nat} {w : Wg} {σ : List Nat} {vs : List Row} (h : MI dz I p w σ vs) (hl : σ.length ≤ 40) : f6_top I = some (nI (tp σ)) := by
  obtain ⟨a1, a2, a3, a4, a5, a6, a7⟩ := h
  unfold f6_top
  rw [a4]
  cases σ with
  | nil => rw [if_pos (by rfl)]; rfl
  | cons c τ =>
    have el : (c :: τ).length = τ.length + 1 := rfl
    rw [el] at hl ⊢
    rw [if_neg (by rw [k0, xI_eq (by omega) (by omega)]; omega), k1, xI_sub (by omega), Nat.add_sub_cancel, xI_ib (by omega), if_pos (by simp; omega), xI_cl (by omega), a3.1.1]
    rfl
theorem f6_push_n' {dz : Bool} {I : gI} {p c : Nat} {w : Wg} {σ : List Nat} {vs : List Row} (h : MI dz I p w σ vs) (hl : σ.length < 40) (hc : c ≤ 255) : ∃ J, f6_push_ I (nI c) = some J ∧ FQ I J ∧ MI dz J p w (c :: σ) vs := by
  obtain ⟨a1, a2, a3, a4, a5, a6, a7⟩ := h
  have e1 : uI I 83 σ.length (nI c) 79 10 = nI σ.length := by rw [uI_row (by omega)]; exact a4
  have e2 : ∀ x, uI (uI I 83 σ.length (nI c)) 79 10 x 79 11 = nI (dep σ) := fun x => by rw [uI_ap, if_neg (by omega), uI_row (by omega)]; exact a5
  have main : ∀ m, m = nst c → ∃ J, some (uI (uI (uI I 83 σ.length (nI c)) 79 10 (nI (σ.length + 1))) 79 11 (nI (dep σ) + nI m)) = some J ∧ FQ I J ∧ MI dz J p w (c :: σ) vs := fun m hm => by
    rw [nI_add]
    refine ⟨_, rfl, (FQ_83.trans (FQ_79 (by omega) (by omega))).trans (FQ_79 (by omega) (by omega)), ?_, ?_, ⟨⟨?_, hc⟩, ST_kept a3 (fun j hj => ?_)⟩, ?_, ?_, ?_, fun z => VA_kept (a7 z) (fun j _ _ => by rw [uI_row (by omega), uI_row (by omega), uI_row (by omega)])⟩
    · rw [uI_ap, if_neg (by omega), uI_ap, if_neg (by omega), uI_row (by omega)]; exact a1
    · exact WM_eq a2 (fun j hj => by rw [uI_ap, if_neg (by omega), uI_ap, if_neg (by omega), uI_row (by omega)])
    · rw [uI_row (by omega), uI_row (by omega), uI_self]
    · rw [uI_row (by omega), uI_row (by omega), uI_ap, if_neg (by omega)]
    · rw [uI_ap, if_neg (by omega), uI_self]
      rfl
    · rw [uI_self, hm]
      rfl
    · rw [uI_ap, if_neg (by omega), uI_ap, if_neg (by omega), uI_row (by omega)]; exact a6
  unfold f6_push_
  rw [a4, xI_ib (by omega), if_pos (by simp; omega), xI_cl (by omega), e1, k1, nI_add, e2]
  by_cases h1 : c = 40
  · rw [if_pos (by rw [h1]; rfl)]
    exact main 1 (by rw [h1]; rfl)
  · rw [if_neg (by rw [k40, xI_eq (by omega) (by omega)]; exact h1)]
    by_cases h2 : c = 126
    · rw [if_pos (by rw [h2]; rfl)]
      exact main 1 (by rw [h2]; rfl)
    · rw [if_neg (by rw [k126, xI_eq (by omega) (by omega)]; exact h2), k0]
      exact main 0 (by unfold nst; rw [if_neg (by omega)])
theorem f6_pop_n {dz : Bool} {I : gI} {p c : Nat} {w : Wg} {σ : List Nat} {vs : List Row} (h : MI dz I p w (c :: σ) vs) (hl : σ.length < 40) : ∃ J, f6_pop I = some (nI c, J) ∧ FQ I J ∧ MI dz J p w σ vs := by
  obtain ⟨a1, a2, a3, a4, a5, a6, a7⟩ := h
  have hc := a3.1.2
  have el : (c :: σ).length = σ.length + 1 := rfl
  have ed : dep (c :: σ) = dep σ + nst c := rfl
  rw [el] at a4
  rw [ed] at a5
  have cw : ib (nI σ.length) 40 = true := by rw [xI_ib (by omega)]; simp; omega
  have e0 : I 79 10 - 1 = nI σ.length := by rw [a4, k1, xI_sub (by omega), Nat.add_sub_cancel]
  have e1 : uI I 79 10 (nI σ.length) 79 11 = nI (dep σ + nst c) := by rw [uI_ap, if_neg (by omega)]; exact a5
  have e2 : ∀ x, uI (uI I 79 10 (nI σ.length)) 79 11 x 79 10 = nI σ.length := fun x => by rw [uI_ap, if_neg (by omega), uI_self]
  have e3 : uI I 79 10 (nI σ.length) 83 σ.length = nI c := by rw [uI_row (by omega)]; exact a3.1.1
  have e4 : ∀ x, uI (uI I 79 10 (nI σ.length)) 79 11 x 83 σ.length = nI c := fun x => by rw [uI_row (by omega)]; exact e3
  have main : ∀ m, m = nst c → ∃ J, some (nI c, uI (uI I 79 10 (nI σ.length)) 79 11 (nI (dep σ + nst c) - nI m)) = some (nI c, J) ∧ FQ I J ∧ MI dz J p w σ vs := fun m hm => by
    rw [← hm, xI_sub (by omega), Nat.add_sub_cancel]
    refine ⟨_, rfl, (FQ_79 (by omega) (by omega)).trans (FQ_79 (by omega) (by omega)), ?_, ?_, ST_kept a3.2 (fun j hj => ?_), ?_, uI_self _ _ _ _, ?_, fun z => VA_kept (a7 z) (fun j _ _ => by rw [uI_row (by omega), uI_row (by omega)])⟩
    · rw [uI_ap, if_neg (by omega), uI_ap, if_neg (by omega)]; exact a1
    · exact WM_eq a2 (fun j hj => by rw [uI_ap, if_neg (by omega), uI_ap, if_neg (by omega)])
    · rw [uI_row (by omega), uI_row (by omega)]
    · rw [uI_ap, if_neg (by omega), uI_self]
    · rw [uI_ap, if_neg (by omega), uI_ap, if_neg (by omega)]; exact a6
  unfold f6_pop
  rw [e0, uI_self, if_pos cw, xI_cl (by omega), e3]
  by_cases h1 : c = 40
  · rw [if_pos (by rw [h1]; rfl), e1, e2, if_pos cw, xI_cl (by omega), e4, k1]
    exact main 1 (by rw [h1]; rfl)
  · rw [if_neg (by rw [k40, xI_eq (by omega) (by omega)]; exact h1), if_pos cw]
    by_cases h2 : c = 126
    · rw [if_pos (by rw [h2]; rfl), e1, e2, if_pos cw, xI_cl (by omega), e4, k1]
      exact main 1 (by rw [h2]; rfl)
    · rw [if_neg (by rw [k126, xI_eq (by omega) (by omega)]; exact h2), e1, e2, if_pos cw, xI_cl (by omega), e4, k0]
      exact main 0 (by unfold nst; rw [if_neg (by omega)])
section
variable {ch : Nat → Nat} {t n : Nat} {ρ : Nat → Row} {dz : Bool}
theorem doTo_stop {k p r : Nat} {I : gI} {w : Wg} {σ : List Nat} {vs : List Row} (h : MI dz I p w σ vs) (hl : σ.length ≤ 40) (hr : rkN (tp σ) < r) (hr2 : r ≤ 2) : f6_doTo_L0 (k + 1) I (nI r) = some I := by
  have hc := tp_le h.2.2.1
  rw [f6_doTo_L0, f6_top_n h hl]
  simp only [Option.bind_some]
  rw [f6_rank_n hc, if_pos (by rw [xI_lt (by omega) (by omega)]; exact hr)]
theorem rkN_le (c : Nat) : rkN c ≤ 2 := by
  unfold rkN
  split
  · omega
  split
  · omega
  split
  · omega
  split <;> omega
theorem doTo_step {k p r c : Nat} {I : gI} {w : Wg} {σ : List Nat} {a b : Row} {vs : List Row} (hB : MB ch t n ρ dz I) (h : MI dz I p w (c :: σ) (b :: a :: vs)) (hl : σ.length < 40) (hv : vs.length ≤ 25) (hr : r ≤ rkN c) : ∃ J, f6_doTo_L0 (k + 1) I (nI r) = f6_doTo_L0 k J (nI r) ∧ FQ I J ∧ MI dz J p w σ (opR (opc c) a b :: vs) := by
  have hc := tp_le h.2.2.1
  have hc2 : c ≤ 255 := hc
  have hrk := rkN_le c
  have hrk' := rkN_le (tp (c :: σ))
  obtain ⟨J1, b1, b2, b3⟩ := f6_pop_n h hl
  obtain ⟨a1, a2, a3, a4, a5, a6, a7⟩ := b3
  have em : J1 79 12 - 1 = nI (vs.length + 1) := by
    rw [a6]
    show nI (vs.length + 1 + 1) - 1 = _
    rw [k1, xI_sub (by omega), Nat.add_sub_cancel]
  have hB2 := MB_FQ hB b2
  rw [f6_doTo_L0, f6_top_n h (by show σ.length + 1 ≤ 40; omega)]
  simp only [Option.bind_some]
  rw [f6_rank_n hc, if_neg (by rw [xI_lt (by omega) (by omega)]; show ¬ rkN c < r; omega), b1]
  simp only [Option.bind_some]
  have e13 : uI J1 79 12 (J1 79 12 - 1) 79 13 = nI dz.toNat := by rw [uI_ap, if_neg (by omega)]; exact hB2.2.2.2.2
  have m2 : ∀ (K : gI), (∀ c, c ≠ 80 → K c = uI J1 79 12 (J1 79 12 - 1) c) → (dz = true → VA K (opR (opc c) a b :: vs)) → MI dz K p w σ (opR (opc c) a b :: vs) := fun K hK hV => by
    have e : ∀ j, j ≠ 12 → K 79 j = J1 79 j := fun j hj => by rw [hK 79 (by omega), uI_ap, if_neg (by omega)]
    exact ⟨(e 8 (by omega)).trans a1, WM_eq a2 (fun j hj => e j (by omega)), ST_kept a3 (fun j _ => by rw [hK 83 (by omega), uI_row (by omega)]), (e 10 (by omega)).trans a4, (e 11 (by omega)).trans a5, by rw [hK 79 (by omega), uI_self, em]; rfl, hV⟩
  rw [e13]
  cases dz with
  | false =>
    rw [if_pos (by rfl)]
    exact ⟨_, rfl, b2.trans (FQ_79 (by omega) (by omega)), m2 _ (fun _ _ => rfl) (fun z => by cases z)⟩
  | true =>
    rw [if_neg (by decide)]
    obtain ⟨v1, v2, v3⟩ := a7 rfl
    have el1 : (a :: vs).length = vs.length + 1 := rfl
    rw [el1] at v1
    rw [em, uI_self, k1, xI_sub (by omega), Nat.add_sub_cancel, f6_asked_n, f6_asked_n, f6_operationOf_n hc2]
    have w1 : AR (uI J1 79 12 (nI (vs.length + 1))) (28854 + 601 * (vs.length + 1)) b := AR_cells v1 (fun j _ _ => by rw [uI_row (by omega)])
    have w2 : AR (uI J1 79 12 (nI (vs.length + 1))) (28854 + 601 * vs.length) a := AR_cells v2 (fun j _ _ => by rw [uI_row (by omega)])
    obtain ⟨K, c1, c2, c3⟩ := f6_operateOn_n (to := 28854 + 601 * vs.length) (opc_le c) (by omega) (by omega) (by omega) w2 w1
    rw [c1]
    refine ⟨K, rfl, (b2.trans (FQ_79 (by omega) (by omega))).trans (FQ_O c3 (by omega)), m2 K (fun d hd => by rw [c3.1 d hd, em]) (fun _ => ⟨c2, VA_kept v3 (fun j j1 j2 => by rw [c3.2 j (by omega) (by omega), uI_row (by omega)])⟩)⟩
theorem close_stop {k p : Nat} {I : gI} {w : Wg} {σ : List Nat} {vs : List Row} (h : MI dz I p w σ vs) (hl : σ.length ≤ 40) (hr : tp σ ≠ 126) : f6_closeFactor_L0 (k + 1) I = some I := by
  have hc := tp_le h.2.2.1
  rw [f6_closeFactor_L0, f6_top_n h hl]
  simp only [Option.bind_some]
  rw [if_neg (by rw [k126, xI_eq (by omega) (by omega)]; exact hr)]
theorem close_step {k p : Nat} {I : gI} {w : Wg} {σ : List Nat} {v : Row} {vs : List Row} (hB : MB ch t n ρ dz I) (h : MI dz I p w (126 :: σ) (v :: vs)) (hl : σ.length < 40) (hv : vs.length ≤ 25) : ∃ J, f6_closeFactor_L0 (k + 1) I = f6_closeFactor_L0 k J ∧ FQ I J ∧ MI dz J p w σ (notR v :: vs) := by
  obtain ⟨J1, b1, b2, b3⟩ := f6_pop_n h hl
  obtain ⟨a1, a2, a3, a4, a5, a6, a7⟩ := b3
  have hB2 := MB_FQ hB b2
  rw [f6_closeFactor_L0, f6_top_n h (by show σ.length + 1 ≤ 40; omega)]
  simp only [Option.bind_some]
  rw [if_pos (by rfl), b1]
  simp only [Option.bind_some]
  rw [hB2.2.2.2.2]
  cases dz with
  | false =>
    rw [if_pos (by rfl)]
    exact ⟨J1, rfl, b2, a1, a2, a3, a4, a5, a6, fun z => by cases z⟩
  | true =>
    obtain ⟨v1, v2⟩ := a7 rfl
    have em : J1 79 12 - 1 = nI vs.length := by
      rw [a6]
      show nI (vs.length + 1) - 1 = _
      rw [k1, xI_sub (by omega), Nat.add_sub_cancel]
    rw [if_neg (by decide), em, f6_asked_n]
    obtain ⟨K, c1, c2, c3⟩ := f6_turn_n (by omega) v1
    rw [c1]
    have e : ∀ j, K 79 j = J1 79 j := fun j => by rw [c3.1 79 (by omega)]
    exact ⟨K, rfl, b2.trans (FQ_O c3 (by omega)), (e 8).trans a1, WM_eq a2 (fun j _ => e j), ST_kept a3 (fun j _ => by rw [c3.1 83 (by omega)]), (e 10).trans a4, (e 11).trans a5, (e 12).trans a6, fun _ => ⟨c2, VA_kept v2 (fun j j1 j2 => c3.2 j (by omega) (by omega))⟩⟩
theorem f6_wrong_n {p f : Nat} {I : gI} {w : Wg} {σ : List Nat} {vs : List Row} {bad : Bool} {a : Int32} (ha : a = nI bad.toNat) (h : MI dz I p w σ vs) (hf : f ≤ 1000) : ∃ J, f6_wrong I a (nI f) = some J ∧ FQ I J ∧ MI dz J p (wrS w bad f (dep σ)) σ vs ∧ J 79 16 = I 79 16 := by
  obtain ⟨a1, a2, a3, a4, a5, a6, a7⟩ := h
  subst ha
  unfold f6_wrong
  cases bad with
  | false =>
    rw [if_pos (by rfl)]
    refine ⟨I, rfl, FQ.rfl', ⟨a1, ?_, a3, a4, a5, a6, a7⟩, rfl⟩
    cases w with
    | none => exact a2
    | some x => exact a2
  | true =>
    rw [if_neg (by decide)]
    cases w with
    | none =>
      have e14 : I 79 14 = -1 := a2
      have e11 : uI I 79 14 (nI f) 79 11 = nI (dep σ) := by rw [uI_ap, if_neg (by omega)]; exact a5
      rw [e14, if_neg (by decide), e11]
      have e : ∀ j, j ≠ 14 → j ≠ 15 → uI (uI I 79 14 (nI f)) 79 15 (nI (dep σ)) 79 j = I 79 j := fun j h1 h2 => by rw [uI_ap, if_neg (by omega), uI_ap, if_neg (by omega)]
      exact ⟨_, rfl, (FQ_79 (by omega) (by omega)).trans (FQ_79 (by omega) (by omega)), ⟨(e 8 (by omega) (by omega)).trans a1, ⟨by rw [uI_ap, if_neg (by omega), uI_self], uI_self _ _ _ _, hf⟩, ST_kept a3 (fun j _ => by rw [uI_row (by omega), uI_row (by omega)]), (e 10 (by omega) (by omega)).trans a4, (e 11 (by omega) (by omega)).trans a5, (e 12 (by omega) (by omega)).trans a6, fun z => VA_kept (a7 z) (fun j _ _ => by rw [uI_row (by omega), uI_row (by omega)])⟩, e 16 (by omega) (by omega)⟩
    | some x =>
      obtain ⟨w1, w2, w3⟩ := a2
      rw [w1, if_pos (by rw [k0, xI_le (by omega) (by omega)]; omega)]
      exact ⟨I, rfl, FQ.rfl', ⟨a1, ⟨w1, w2, w3⟩, a3, a4, a5, a6, a7⟩, rfl⟩
end
