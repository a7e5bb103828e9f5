/-! ones and their places -/
theorem f0_onesBefore_L_n {I : gI} {b p : Nat} {r : Row} (h : BR I b r) (hp : p ≤ 600) : ∀ (k g s : Nat), g ≤ 40 → 40 < k + g → f0_onesBefore_L4 k I b (nI p) (nI s) (nI g) = some (nI (s + cnt (cutf p r.2) (15 * g) (15 * (40 - g)))) := by
  intro k
  induction k with
  | zero => intro g s h1 h2; omega
  | succ k ih =>
    intro g s h1 h2
    rw [f0_onesBefore_L4]
    by_cases h40 : g = 40
    · subst h40
      rw [if_pos (by decide)]
      simp [cnt]
    · simp (disch := omega) only [k0, k1, k2, k3, k4, k5, k8, k10, k14, k15, k16, k19, k20, k31, k32, k38, k40, k41, k45, k48, k57, k60, k62, k63, k94, k100, k124, k126, k255, k600, k601, k4808, k4809, k28854, k32767, k32768, k49152, k65535, xI_lt, xI_le, xI_eq, xI_ib, xI_cl, nI_add, xI_mul, decide_eq_true_eq, if_pos, if_neg, Option.bind_some, ]
      rw [h.2.2 g (by omega), f0_maskBefore_n (by omega) (by omega), xI_and, mask_gw, bitCount_n (gw_lt _ _), nI_add, ih (g + 1) _ (by omega) (by omega)]
      have e : 15 * (40 - g) = 15 + 15 * (40 - (g + 1)) := by omega
      have e2 : 15 * g + 15 = 15 * (g + 1) := by omega
      unfold gw
      rw [e, cnt_add, pcN_pkH, e2, Nat.add_assoc]
theorem cnt_cut {f : Nat → Bool} {p c : Nat} (h : p ≤ c) : cnt (cutf p f) 0 c = cnt f 0 p := by
  have e : c = p + (c - p) := by omega
  rw [e, cnt_add]
  have h1 : cnt (cutf p f) 0 p = cnt f 0 p := cnt_congr fun k hk => by
    have : 0 + k < p := by omega
    simp only [cutf, decide_eq_true this, Bool.true_and]
  have h2 : cnt (cutf p f) (0 + p) (c - p) = 0 := cnt_zero fun k hk => by
    have : ¬ 0 + p + k < p := by omega
    simp only [cutf, decide_eq_false this, Bool.false_and]
  rw [h1, h2]
  rfl
theorem f0_onesBefore_n {I : gI} {b p : Nat} {r : Row} (h : BR I b r) (hp : p ≤ 600) : f0_onesBefore I b (nI p) = some (nI (cnt r.2 0 p)) := by
  have h1 := f0_onesBefore_L_n h hp FU 0 0 (by omega) (by decide)
  rw [Nat.zero_add] at h1
  rw [show 15 * (40 - 0) = 600 from rfl, Nat.mul_zero, cnt_cut hp] at h1
  exact h1
theorem f0_ones_n {I : gI} {b : Nat} {r : Row} (h : BR I b r) : f0_ones I b = some (nI (cnt r.2 0 r.1)) := by
  unfold f0_ones
  rw [h.2.1, f0_onesBefore_n h h.1.1]
  rfl
/-- the place of a one among c bits from m on -/
def selF (f : Nat → Bool) : Nat → Nat → Nat → Option Nat
  | _, 0, _ => none
  | m, c + 1, i => if f m = true then (if i = 0 then some m else selF f (m + 1) c (i - 1)) else selF f (m + 1) c i
theorem selF_skip (f : Nat → Bool) : ∀ (a m b i : Nat), selF f m (a + b) i = if i < cnt f m a then selF f m a i else selF f (m + a) b (i - cnt f m a)
  | 0, m, b, i => by simp [cnt]
  | a + 1, m, b, i => by
    have e : a + 1 + b = (a + b) + 1 := by omega
    have e2 : m + 1 + a = m + (a + 1) := by omega
    rw [e]
    have hc : cnt f m (a + 1) = (f m).toNat + cnt f (m + 1) a := rfl
    have s1 : selF f m (a + b + 1) i = if f m = true then (if i = 0 then some m else selF f (m + 1) (a + b) (i - 1)) else selF f (m + 1) (a + b) i := rfl
    have s2 : selF f m (a + 1) i = if f m = true then (if i = 0 then some m else selF f (m + 1) a (i - 1)) else selF f (m + 1) a i := rfl
    rw [s1, s2]
    by_cases hf : f m = true
    · have ht : (f m).toNat = 1 := by rw [hf]; rfl
      rw [if_pos hf, if_pos hf]
      by_cases hi : i = 0
      · subst hi; rw [if_pos rfl, if_pos (by omega), if_pos rfl]
      · rw [if_neg hi, if_neg hi, selF_skip f a (m + 1) b (i - 1), e2]
        by_cases h1 : i - 1 < cnt f (m + 1) a
        · rw [if_pos h1, if_pos (by omega)]
        · rw [if_neg h1, if_neg (by omega)]
          have e3 : i - 1 - cnt f (m + 1) a = i - cnt f m (a + 1) := by omega
          rw [e3]
    · have hf' : f m = false := by simpa using hf
      have ht : (f m).toNat = 0 := by rw [hf']; rfl
      rw [if_neg hf, if_neg hf, selF_skip f a (m + 1) b i, e2, hc, ht, Nat.zero_add]
theorem selF_none {f : Nat → Bool} : ∀ {c m i : Nat}, cnt f m c ≤ i → selF f m c i = none
  | 0, _, _, _ => rfl
  | c + 1, m, i, h => by
    simp only [cnt] at h
    simp only [selF]
    cases hf : f m with
    | true =>
      rw [hf] at h
      simp only [Bool.toNat_true] at h
      rw [if_pos rfl, if_neg (by omega)]
      exact selF_none (by omega)
    | false =>
      rw [hf] at h
      simp only [Bool.toNat_false] at h
      rw [if_neg (by simp)]
      exact selF_none (by omega)
theorem selF_lt {f : Nat → Bool} : ∀ {c m i p : Nat}, selF f m c i = some p → m ≤ p ∧ p < m + c
  | 0, _, _, _, h => by cases h
  | c + 1, m, i, p, h => by
    simp only [selF] at h
    split at h
    · split at h
      · cases h; omega
      · have := selF_lt h; omega
    · have := selF_lt h; omega
theorem selF_some {f : Nat → Bool} : ∀ {c m i : Nat}, i < cnt f m c → ∃ p, selF f m c i = some p
  | 0, _, _, h => by simp [cnt] at h
  | c + 1, m, i, h => by
    simp only [cnt] at h
    simp only [selF]
    cases hf : f m with
    | true =>
      rw [hf] at h
      simp only [Bool.toNat_true] at h
      rw [if_pos rfl]
      by_cases hi : i = 0
      · rw [if_pos hi]; exact ⟨_, rfl⟩
      · rw [if_neg hi]; exact selF_some (by omega)
    | false =>
      rw [hf] at h
      simp only [Bool.toNat_false] at h
      rw [if_neg (by simp)]
      exact selF_some (by omega)
def pl (o : Option Nat) : Int32 := match o with
  | some p => nI p
  | none => -9
theorem xI_pred (n : Nat) : nI (n + 1) + (-1) = nI n := by
  rw [← nI_add, Int32.add_assoc, show nI 1 + (-1) = 0 from by decide, Int32.add_zero]
theorem f0_placeInGroup_L_n {f : Nat → Bool} {g : Nat} : ∀ (k j i : Nat), j ≤ 15 → 15 < k + j → i < 2 ^ 31 → f0_placeInGroup_L4 k (nI (gw f g)) (nI i) (nI j) = some (match selF f (15 * g + j) (15 - j) i with | some p => nI (p - 15 * g) | none => -9) := by
  intro k
  induction k with
  | zero => intro j i h1 h2; omega
  | succ k ih =>
    intro j i h1 h2 hi
    rw [f0_placeInGroup_L4]
    by_cases h15 : j = 15
    · subst h15
      rw [if_pos (by decide)]
      rfl
    · have hl := gw_lt f g
      rw [if_neg (by rw [k15, xI_le (by omega) (by omega)]; omega), xI_shr (by omega) (by omega), k1, xI_and, low_bit, gw_bit]
      have e : 15 - j = (15 - (j + 1)) + 1 := by omega
      have e3 : 15 * g + j + 1 = 15 * g + (j + 1) := by omega
      have hj : decide (j < 15) = true := by simp; omega
      rw [hj, Bool.true_and, e]
      simp only [selF]
      cases hf : f (15 * g + j) with
      | true =>
        rw [if_pos (by decide), if_pos rfl]
        by_cases h0 : i = 0
        · subst h0
          rw [if_pos (by decide), if_pos rfl]
          have e4 : 15 * g + j - 15 * g = j := by omega
          simp only [e4]
        · rw [if_neg (by rw [k0, xI_eq (by omega) (by omega)]; exact h0), if_neg h0, e3]
          have e5 : nI i + (-1) = nI (i - 1) := by
            obtain ⟨i', rfl⟩ : ∃ i', i = i' + 1 := ⟨i - 1, by omega⟩
            exact xI_pred i'
          rw [show (-nI 1 : Int32) = -1 from rfl, e5, nI_add]
          exact ih (j + 1) (i - 1) (by omega) (by omega) (by omega)
      | false =>
        rw [if_neg (by decide), if_neg (by decide), nI_add, e3]
        exact ih (j + 1) i (by omega) (by omega) hi
theorem f0_placeOfOne_L_n {I : gI} {b : Nat} {r : Row} (h : BR I b r) : ∀ (k g i : Nat), g ≤ 40 → 40 < k + g → i < 2 ^ 31 → f0_placeOfOne_L11 k I b (nI i) (nI g) = some (pl (selF r.2 (15 * g) (15 * (40 - g)) i)) := by
  intro k
  induction k with
  | zero => intro g i h1 h2; omega
  | succ k ih =>
    intro g i h1 h2 hi
    rw [f0_placeOfOne_L11]
    by_cases h40 : g = 40
    · subst h40
      rw [if_pos (by decide)]
      rfl
    · have hc : cnt r.2 (15 * g) 15 ≤ 15 := cnt_le _ _ _
      have e : 15 * (40 - g) = 15 + 15 * (40 - (g + 1)) := by omega
      have e2 : 15 * g + 15 = 15 * (g + 1) := by omega
      have eb : fJ6_bitCount (nI (gw r.2 g)) = nI (cnt r.2 (15 * g) 15) := by
        rw [bitCount_n (gw_lt _ _)]
        unfold gw
        rw [pcN_pkH]
      rw [if_neg (by rw [k40, xI_le (by omega) (by omega)]; omega), xI_ib (by omega), if_pos (by simp; omega), xI_cl (by omega), h.2.2 g (by omega), eb, e]
      by_cases h3 : cnt r.2 (15 * g) 15 ≤ i
      · have er : selF r.2 (15 * g) (15 + 15 * (40 - (g + 1))) i = selF r.2 (15 * (g + 1)) (15 * (40 - (g + 1))) (i - cnt r.2 (15 * g) 15) := by
          rw [selF_skip, if_neg (by omega), e2]
        rw [er, if_pos (by rw [xI_le (by omega) (by omega)]; exact h3), xI_sub h3, k1, nI_add]
        exact ih (g + 1) _ (by omega) (by omega) (by omega)
      · have er : selF r.2 (15 * g) (15 + 15 * (40 - (g + 1))) i = selF r.2 (15 * g) 15 i := by
          rw [selF_skip, if_pos (by omega)]
        rw [er, if_neg (by rw [xI_le (by omega) (by omega)]; exact h3)]
        rw [if_pos (by simp; omega)]
        unfold f0_placeInGroup
        have h4 := f0_placeInGroup_L_n (f := r.2) (g := g) FU 0 i (by omega) (by decide) hi
        rw [k0, h4]
        obtain ⟨p, hp⟩ := selF_some (f := r.2) (m := 15 * g) (c := 15) (i := i) (by omega)
        have hlt := selF_lt hp
        rw [Nat.add_zero, Nat.sub_zero, hp]
        simp only [Option.bind_some, pl]
        rw [k15, xI_mul, nI_add]
        have e5 : g * 15 + (p - 15 * g) = p := by omega
        rw [e5]
theorem selF_600 {r : Row} (hr : okR r) (i : Nat) : selF r.2 0 600 i = selF r.2 0 r.1 i := by
  have h := hr.1
  have e : 600 = r.1 + (600 - r.1) := by omega
  rw [e, selF_skip]
  by_cases h1 : i < cnt r.2 0 r.1
  · rw [if_pos h1]
  · rw [if_neg h1, selF_none (by omega : cnt r.2 0 r.1 ≤ i), selF_none]
    have : cnt r.2 (0 + r.1) (600 - r.1) = 0 := cnt_zero fun k hk => hr.2 _ (by omega)
    omega
theorem f0_placeOfOne_n {I : gI} {b i : Nat} {r : Row} (h : BR I b r) (hi : i < 2 ^ 31) : f0_placeOfOne I b (nI i) = some (pl (selF r.2 0 r.1 i)) := by
  unfold f0_placeOfOne
  rw [if_pos (by rw [k0, xI_le (by omega) hi]; omega), ← selF_600 h.1, k0]
  exact f0_placeOfOne_L_n h FU 0 i (by omega) (by decide) hi
theorem f0_placeOfOne_neg {I : gI} {b : Nat} {x : Int32} (h : x < 0) : f0_placeOfOne I b x = some (-9) := by
  unfold f0_placeOfOne
  rw [if_neg (Int32.not_le.mpr h)]
/-! rows that are the same -/
theorem gw_ext {r s : Row} (hr : okR r) (hs : okR s) (h : ∀ j, j < 40 → gw r.2 j = gw s.2 j) : r.2 = s.2 := by
  funext i
  by_cases hi : i < 600
  · have h1 := pkH_eq_iff.mp (h (i / 15) (by omega)) (i % 15) (by omega)
    have e : 15 * (i / 15) + i % 15 = i := by omega
    rw [e] at h1
    exact h1
  · have := hr.1; have := hs.1
    rw [hr.2 i (by omega), hs.2 i (by omega)]
theorem f0_matches_L_n {I : gI} {b b0 : Nat} {r s : Row} (h : BR I b r) (h0 : BR I b0 s) : ∀ (k g : Nat), g ≤ 40 → 40 < k + g → ∃ v, f0_matches_L15 k I b b0 (nI g) = some v ∧ (v = true ↔ ∀ j, g ≤ j → j < 40 → gw r.2 j = gw s.2 j) := by
  intro k
  induction k with
  | zero => intro g h1 h2; omega
  | succ k ih =>
    intro g h1 h2
    rw [f0_matches_L15]
    by_cases h40 : g = 40
    · subst h40
      rw [if_pos (by decide)]
      exact ⟨true, rfl, fun _ j q1 q2 => by omega, fun _ => rfl⟩
    · have a1 := gw_lt r.2 g
      have a2 := gw_lt s.2 g
      rw [if_neg (by rw [k40, xI_le (by omega) (by omega)]; omega), xI_ib (by omega), if_pos (by simp; omega), xI_cl (by omega), h.2.2 g (by omega), f0_groupAt_n h0 (by omega)]
      simp only [Option.bind_some]
      by_cases he : gw r.2 g = gw s.2 g
      · rw [if_pos (by rw [he]), k1, nI_add]
        obtain ⟨v, hv, hi⟩ := ih (g + 1) (by omega) (by omega)
        refine ⟨v, hv, hi.trans ⟨fun q j q1 q2 => ?_, fun q j q1 q2 => q j (by omega) q2⟩⟩
        by_cases hj : j = g
        · subst hj; exact he
        · exact q j (by omega) q2
      · rw [if_neg (by rw [xI_eq (by omega) (by omega)]; exact he)]
        exact ⟨false, rfl, (fun q => by cases q), fun q => absurd (q g (Nat.le_refl g) (by omega)) he⟩
theorem f0_matches_n {I : gI} {b b0 : Nat} {r s : Row} (h : BR I b r) (h0 : BR I b0 s) : ∃ v, f0_matches I b b0 = some v ∧ (v = true ↔ r = s) := by
  unfold f0_matches
  have a1 := h.1.1
  have a2 := h0.1.1
  rw [h.2.1, h0.2.1]
  by_cases he : r.1 = s.1
  · rw [if_pos (by rw [he]), k0]
    obtain ⟨v, hv, hi⟩ := f0_matches_L_n h h0 FU 0 (by omega) (by decide)
    refine ⟨v, hv, hi.trans ⟨fun q => Prod.ext he (gw_ext h.1 h0.1 fun j hj => q j (by omega) hj), fun q j _ _ => by rw [q]⟩⟩
  · rw [if_neg (by rw [xI_eq (by omega) (by omega)]; exact he)]
    exact ⟨false, rfl, (fun q => by cases q), fun q => absurd (by rw [q]) he⟩
