/-! the ends of words, marked -/
def EN (I : gI) (f : Nat → Bool) : Prop := ∀ j, j < 41 → I 82 j = nI (f j).toNat
def Fr82 (I I' : gI) : Prop := ∀ c, c ≠ 82 → I' c = I c
theorem AR_kept82 {I I' : gI} {o : Nat} {r : Row} (h : AR I o r) (hF : Fr82 I I') : AR I' o r := by
  have e := hF 80 (by decide)
  exact ⟨h.1, by rw [e]; exact h.2.1, fun k hk => by rw [e]; exact h.2.2 k hk⟩
theorem EN_set {I : gI} {f : Nat → Bool} {e : Nat} (h : EN I f) (he : e < 41) : EN (uI I 82 e 1) (fun j => f j || decide (j = e)) := by
  intro j hj
  rw [uI_ap]
  by_cases hje : j = e
  · subst hje
    rw [if_pos ⟨rfl, rfl⟩]
    simp
    rfl
  · rw [if_neg (by omega), h j hj]
    simp [hje]
theorem f6_workOf_L92_n {I : gI} {f : Nat → Bool} (h : EN I f) : ∀ (k s j : Nat), j ≤ 41 → 41 < k + j → f6_workOf_L92 k I (nI s) (nI j) = some (nI (s + cnt f j (41 - j)), I) := by
  intro k
  induction k with
  | zero => intro s j h1 h2; omega
  | succ k ih =>
    intro s j h1 h2
    rw [f6_workOf_L92]
    by_cases hj : j = 41
    · subst hj
      rw [if_pos (by decide)]
      rfl
    · have ec : 41 - j = (41 - (j + 1)) + 1 := by omega
      rw [if_neg (by rw [k41, xI_le (by omega) (by omega)]; omega), xI_ib (by omega), if_pos (by simp; omega), xI_cl (by omega), h j (by omega), ec, k1, nI_add, nI_add, ih _ (j + 1) (by omega) (by omega)]
      simp only [cnt]
      rw [Nat.add_assoc]
theorem EL_cons {r : Row} {g : Nat} (hn : ng r ≤ 40) (h : g < ng r) : EL r g = we r g :: EL r (we r g) := by
  unfold EL
  rw [WS_cons hn h, List.map_cons]
theorem EL_nil {r : Row} {g : Nat} (h : ng r ≤ g) : EL r g = [] := by
  unfold EL
  rw [WS_nil h]
  rfl
theorem f6_workOf_L56_n {o : Nat} {r : Row} (ho : o + 601 ≤ 48086) : ∀ (k g : Nat) (I : gI) (f : Nat → Bool), AR I o r → EN I f → g ≤ ng r → ng r < k + g → ∃ I', f6_workOf_L56 k I (nI o) (nI g) = f6_workOf_L92 FU I' 0 0 ∧ EN I' (fun j => f j || decide (j ∈ EL r g)) ∧ Fr82 I I' := by
  intro k
  induction k with
  | zero => intro g I f a1 a2 a3 a4; omega
  | succ k ih =>
    intro g I f a1 a2 a3 a4
    have hn := ng_le a1.1
    rw [f6_workOf_L56, f6_groups_n a1 ho]
    simp only [Option.bind_some]
    by_cases hg : g = ng r
    · rw [if_pos (by rw [xI_le (by omega) (by omega)]; omega), EL_nil (by omega)]
      refine ⟨I, rfl, fun j hj => ?_, fun _ _ => rfl⟩
      rw [a2 j hj]
      simp
    · have w1 := we_gt r g
      have w2 := we_le (show g < ng r by omega)
      rw [if_neg (by rw [xI_le (by omega) (by omega)]; omega), f6_behind_n a1 ho (by omega)]
      simp only [Option.bind_some]
      rw [xI_ib (by omega), if_pos (by simp; omega), xI_cl (by omega)]
      have hF : Fr82 I (uI I 82 (we r g) 1) := fun c hc => uI_row hc
      have a5 := AR_kept82 a1 hF
      rw [f6_behind_n a5 ho (by omega)]
      simp only [Option.bind_some]
      obtain ⟨I', b1, b2, b3⟩ := ih (we r g) _ _ a5 (EN_set a2 (show we r g < 41 by omega)) w2 (by omega)
      refine ⟨I', b1, fun j hj => ?_, fun c hc => (b3 c hc).trans (hF c hc)⟩
      rw [b2 j hj, EL_cons (g := g) hn (by omega)]
      congr 2
      simp only [List.mem_cons, Bool.decide_or, Bool.or_assoc]
theorem f6_workOf_L23_n {o o2 : Nat} {r : Row} (ho : o + 601 ≤ 48086) : ∀ (k g : Nat) (I : gI) (f : Nat → Bool), AR I o r → EN I f → g ≤ ng r → ng r < k + g → ∃ I', f6_workOf_L23 k I (nI o) (nI o2) (nI g) = f6_workOf_L56 FU I' (nI o2) 0 ∧ EN I' (fun j => f j || decide (j ∈ EL r g)) ∧ Fr82 I I' := by
  intro k
  induction k with
  | zero => intro g I f a1 a2 a3 a4; omega
  | succ k ih =>
    intro g I f a1 a2 a3 a4
    have hn := ng_le a1.1
    rw [f6_workOf_L23, f6_groups_n a1 ho]
    simp only [Option.bind_some]
    by_cases hg : g = ng r
    · rw [if_pos (by rw [xI_le (by omega) (by omega)]; omega), EL_nil (by omega)]
      refine ⟨I, rfl, fun j hj => ?_, fun _ _ => rfl⟩
      rw [a2 j hj]
      simp
    · have w1 := we_gt r g
      have w2 := we_le (show g < ng r by omega)
      rw [if_neg (by rw [xI_le (by omega) (by omega)]; omega), f6_behind_n a1 ho (by omega)]
      simp only [Option.bind_some]
      rw [xI_ib (by omega), if_pos (by simp; omega), xI_cl (by omega)]
      have hF : Fr82 I (uI I 82 (we r g) 1) := fun c hc => uI_row hc
      have a5 := AR_kept82 a1 hF
      rw [f6_behind_n a5 ho (by omega)]
      simp only [Option.bind_some]
      obtain ⟨I', b1, b2, b3⟩ := ih (we r g) _ _ a5 (EN_set a2 (show we r g < 41 by omega)) w2 (by omega)
      refine ⟨I', b1, fun j hj => ?_, fun c hc => (b3 c hc).trans (hF c hc)⟩
      rw [b2 j hj, EL_cons (g := g) hn (by omega)]
      congr 2
      simp only [List.mem_cons, Bool.decide_or, Bool.or_assoc]
theorem f6_workOf_L2_n {o o2 : Nat} : ∀ (k m : Nat) (I : gI), m ≤ 41 → 41 < k + m → (∀ j, j < m → I 82 j = 0) → ∃ I', f6_workOf_L2 k I (nI o) (nI o2) (nI m) = f6_workOf_L23 FU I' (nI o) (nI o2) 0 ∧ EN I' (fun _ => false) ∧ Fr82 I I' := by
  intro k
  induction k with
  | zero => intro m I a1 a2 a3; omega
  | succ k ih =>
    intro m I a1 a2 a3
    rw [f6_workOf_L2]
    by_cases hm : m = 41
    · subst hm
      rw [if_pos (by decide)]
      exact ⟨I, rfl, fun j hj => a3 j hj, fun _ _ => rfl⟩
    · rw [if_neg (by rw [k41, xI_le (by omega) (by omega)]; omega), xI_ib (by omega), if_pos (by simp; omega), xI_cl (by omega), k1, nI_add]
      obtain ⟨I', b1, b2, b3⟩ := ih (m + 1) (uI I 82 m 0) (by omega) (by omega) (fun j hj => by
        rw [uI_ap]
        by_cases e : j = m
        · rw [if_pos ⟨rfl, e⟩]
        · rw [if_neg (by omega)]; exact a3 j (by omega))
      exact ⟨I', b1, b2, fun c hc => (b3 c hc).trans (uI_row hc)⟩
theorem f6_workOf_n {I : gI} {o o2 : Nat} {r s : Row} (ho : o + 601 ≤ 48086) (ho2 : o2 + 601 ≤ 48086) (h : AR I o r) (h2 : AR I o2 s) : ∃ I', f6_workOf I (nI o) (nI o2) = some (nI (wkR r s), I') ∧ Fr82 I I' := by
  have hn := ng_le h.1
  have hn2 := ng_le h2.1
  obtain ⟨I1, a1, a2, a3⟩ := f6_workOf_L2_n (o := o) (o2 := o2) FU 0 I (by omega) (by decide) (fun j hj => by omega)
  obtain ⟨I2, b1, b2, b3⟩ := f6_workOf_L23_n (o2 := o2) ho FU 0 I1 _ (AR_kept82 h a3) a2 (by omega) (by unfold FU; omega)
  obtain ⟨I3, c1, c2, c3⟩ := f6_workOf_L56_n ho2 FU 0 I2 _ (AR_kept82 (AR_kept82 h2 a3) b3) b2 (by omega) (by unfold FU; omega)
  have d1 := f6_workOf_L92_n c2 FU 0 0 (by omega) (by decide)
  refine ⟨I3, ?_, fun c hc => ((c3 c hc).trans (b3 c hc)).trans (a3 c hc)⟩
  unfold f6_workOf
  rw [k0] at b1 c1
  rw [k0, a1, k0, b1, c1, d1, Nat.zero_add, Nat.sub_zero]
  have e : cnt (fun j => (false || decide (j ∈ EL r 0)) || decide (j ∈ EL s 0)) 0 41 = wkR r s := by
    unfold wkR
    apply cnt_congr
    intro k _
    unfold en2
    rw [Bool.false_or]
  rw [e]
/-! whole states are copied -/
theorem f6_copyState_L_n {I : gI} {a b : Nat} (ha : a + 4809 ≤ 48086) (hb : b + 4809 ≤ 48086) (h : b ≤ a ∨ a + 4809 ≤ b) : ∀ (k n : Nat), n ≤ 4809 → 4809 < k + n → f6_copyState_L2 k (cpA I a b n) (nI a) (nI b) (nI n) = some (cpA I a b 4809) := by
  intro k
  induction k with
  | zero => intro n h1 h2; omega
  | succ k ih =>
    intro n h1 h2
    rw [f6_copyState_L2]
    by_cases hn : n = 4809
    · subst hn
      rw [if_pos (by decide)]
    · rw [if_neg (by rw [k4809, xI_le (by omega) (by omega)]; omega), nI_add, nI_add, xI_ib (by omega), if_pos (by simp; omega), xI_ib (by omega), if_pos (by simp; omega), xI_cl (by omega), xI_cl (by omega), cpA_s (by omega), k1, nI_add]
      exact ih (n + 1) (by omega) (by omega)
theorem f6_copyState_n {I : gI} {a b : Nat} (ha : a + 4809 ≤ 48086) (hb : b + 4809 ≤ 48086) (h : b ≤ a ∨ a + 4809 ≤ b) : f6_copyState I (nI a) (nI b) = some (cpA I a b 4809) := by
  have h1 := f6_copyState_L_n (I := I) ha hb h FU 0 (by omega) (by decide)
  rw [cpA_0] at h1
  exact h1
/-! places of ones -/
theorem f6_placeOf_L_n {I : gI} {o : Nat} {r : Row} (h : AR I o r) (ho : o + 601 ≤ 48086) : ∀ (k i m : Nat), m ≤ r.1 → r.1 < k + m → i < 2 ^ 31 → f6_placeOf_L5 k I (nI o) (nI i) (nI m) = some (pl (selF r.2 m (r.1 - m) i)) := by
  have hL := h.1.1
  intro k
  induction k with
  | zero => intro i m h1 h2; omega
  | succ k ih =>
    intro i m h1 h2 hi
    rw [f6_placeOf_L5, xI_ib (by omega), if_pos (by simp; omega), xI_cl (by omega), h.2.1]
    by_cases hm : m = r.1
    · subst hm
      rw [if_pos (by rw [xI_le (by omega) (by omega)]; omega), Nat.sub_self]
      rfl
    · have ec : r.1 - m = (r.1 - (m + 1)) + 1 := by omega
      rw [if_neg (by rw [xI_le (by omega) (by omega)]; omega), f6_bitOf_n h ho (by omega), ec]
      simp only [Option.bind_some, selF]
      by_cases hf : r.2 m = true
      · rw [hf, if_pos (by decide), if_pos rfl]
        by_cases h0 : i = 0
        · subst h0
          rw [if_pos (by decide), if_pos rfl]
          rfl
        · rw [if_neg (by rw [k0, xI_eq hi (by omega)]; exact h0), if_neg h0]
          obtain ⟨i', rfl⟩ : ∃ i', i = i' + 1 := ⟨i - 1, by omega⟩
          rw [xI_pred, k1, nI_add]
          exact ih i' (m + 1) (by omega) (by omega) (by omega)
      · have hf' : r.2 m = false := by simpa using hf
        rw [hf', if_neg (by decide), if_neg (by decide), k1, nI_add]
        exact ih i (m + 1) (by omega) (by omega) hi
theorem f6_placeOf_n {I : gI} {o i : Nat} {r : Row} (h : AR I o r) (ho : o + 601 ≤ 48086) (hi : i < 2 ^ 31) : f6_placeOf I (nI o) (nI i) = some (pl (selF r.2 0 r.1 i)) := by
  have hL := h.1.1
  unfold f6_placeOf
  rw [k0, f6_placeOf_L_n h ho FU i 0 (by omega) (by unfold FU; omega) hi, Nat.sub_zero]
/-! rows that are the same -/
theorem f6_areSame_L_n {I : gI} {o o2 : Nat} {r s : Row} (h : AR I o r) (h2 : AR I o2 s) (ho : o + 601 ≤ 48086) (ho2 : o2 + 601 ≤ 48086) : ∀ (k m : Nat) (c : Bool), m ≤ r.1 → r.1 < k + m → ∃ v, f6_areSame_L24 k I (nI o) (nI o2) (nI c.toNat) (nI m) = some v ∧ (v = true ↔ (c = true ∧ ∀ j, m ≤ j → j < r.1 → r.2 j = s.2 j)) := by
  have hL := h.1.1
  intro k
  induction k with
  | zero => intro m c h1 h2; omega
  | succ k ih =>
    intro m c a1 a2
    rw [f6_areSame_L24, xI_ib (by omega), if_pos (by simp; omega), xI_cl (by omega), h.2.1]
    by_cases hm : m = r.1
    · rw [if_pos (by rw [xI_le (by omega) (by omega)]; omega)]
      cases c with
      | true =>
        rw [if_pos (by decide)]
        exact ⟨true, rfl, (fun _ => ⟨rfl, fun j q1 q2 => by omega⟩), fun _ => rfl⟩
      | false =>
        rw [if_pos (by decide)]
        exact ⟨false, rfl, (fun q => by cases q), fun q => by cases q.1⟩
    · rw [if_neg (by rw [xI_le (by omega) (by omega)]; omega)]
      cases c with
      | true =>
        rw [if_neg (by decide), f6_bitOf_n h ho (by omega), f6_bitOf_n h2 ho2 (by omega)]
        simp only [Option.bind_some]
        by_cases he : r.2 m = s.2 m
        · rw [if_pos (by rw [he]), k1, nI_add]
          obtain ⟨v, hv, hi⟩ := ih (m + 1) true (by omega) (by omega)
          refine ⟨v, hv, hi.trans ⟨fun q => ⟨by trivial, fun j q1 q2 => ?_⟩, fun q => ⟨by trivial, fun j q1 q2 => q.2 j (by omega) q2⟩⟩⟩
          by_cases hj : j = m
          · subst hj; exact he
          · exact q.2 j (by omega) q2
        · have hne : ¬ nI (r.2 m).toNat = nI (s.2 m).toNat := by
            have t1 := tN (r.2 m)
            have t2 := tN (s.2 m)
            rw [xI_eq (by omega) (by omega)]
            intro q
            apply he
            cases h5 : r.2 m <;> cases h6 : s.2 m <;> rw [h5, h6] at q <;> first | rfl | cases q
          rw [if_neg hne, k0, k1, nI_add]
          obtain ⟨v, hv, hi⟩ := ih (m + 1) false (by omega) (by omega)
          refine ⟨v, hv, hi.trans ⟨fun q => ?_, fun q => absurd (q.2 m (Nat.le_refl m) (by omega)) he⟩⟩
          cases q.1
      | false =>
        rw [if_pos (by decide), k0, k1, nI_add]
        obtain ⟨v, hv, hi⟩ := ih (m + 1) false (by omega) (by omega)
        refine ⟨v, hv, hi.trans ⟨fun q => ?_, fun q => ?_⟩⟩
        · cases q.1
        · cases q.1
theorem f6_areSame_n {I : gI} {o o2 : Nat} {r s : Row} (h : AR I o r) (h2 : AR I o2 s) (ho : o + 601 ≤ 48086) (ho2 : o2 + 601 ≤ 48086) : ∃ v, f6_areSame I (nI o) (nI o2) = some v ∧ (v = true ↔ r = s) := by
  have hL := h.1.1
  have hL2 := h2.1.1
  unfold f6_areSame
  rw [xI_ib (by omega), if_pos (by simp; omega), xI_ib (by omega), if_pos (by simp; omega), xI_cl (by omega), xI_cl (by omega), h.2.1, h2.2.1]
  by_cases he : r.1 = s.1
  · rw [if_pos (by rw [he])]
    obtain ⟨v, hv, hi⟩ := f6_areSame_L_n h h2 ho ho2 FU 0 true (by omega) (by unfold FU; omega)
    refine ⟨v, hv, hi.trans ⟨fun q => Prod.ext he ?_, fun q => ⟨rfl, fun j _ _ => by rw [q]⟩⟩⟩
    funext i
    by_cases hi2 : i < r.1
    · exact q.2 i (by omega) hi2
    · rw [h.1.2 i (by omega), h2.1.2 i (by omega)]
  · rw [if_neg (by rw [xI_eq (by omega) (by omega)]; exact he)]
    obtain ⟨v, hv, hi⟩ := f6_areSame_L_n h h2 ho ho2 FU 0 false (by omega) (by unfold FU; omega)
    refine ⟨v, hv, hi.trans ⟨(fun q => by cases q.1), fun q => absurd (by rw [q]) he⟩⟩
