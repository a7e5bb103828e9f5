/-! ROWS in the reference's memory: the length at the place o of cell 80, the bits behind it -/
def AR (I : gI) (o : Nat) (r : Row) : Prop := okR r ∧ I 80 o = nI r.1 ∧ ∀ k, k < r.1 → I 80 (o + 1 + k) = nI (r.2 k).toNat
/-- nothing has changed but places of the row at o and of the last row asked for -/
def FrO (I I' : gI) (o : Nat) : Prop := (∀ c, c ≠ 80 → I' c = I c) ∧ ∀ j, (j < o ∨ o + 601 ≤ j) → j < 47485 → I' 80 j = I 80 j
theorem FrO.trans {I1 I2 I3 : gI} {o : Nat} (h1 : FrO I1 I2 o) (h2 : FrO I2 I3 o) : FrO I1 I3 o := ⟨fun c hc => (h2.1 c hc).trans (h1.1 c hc), fun j a b => (h2.2 j a b).trans (h1.2 j a b)⟩
theorem FrO.rfl' {I : gI} {o : Nat} : FrO I I o := ⟨fun _ _ => rfl, fun _ _ _ => rfl⟩
theorem FrO_uI {I : gI} {o j : Nat} {x : Int32} (h : o ≤ j) (h2 : j < o + 601) : FrO I (uI I 80 j x) o := ⟨fun c hc => uI_row hc, fun i a _ => by rw [uI_ap, if_neg (by omega)]⟩
theorem AR_kept {I I' : gI} {o o' : Nat} {r : Row} (h : AR I o r) (hF : FrO I I' o') (hd : o + 601 ≤ o' ∨ o' + 601 ≤ o) (hs : o + 601 ≤ 47485) : AR I' o r := by
  have hL := h.1.1
  refine ⟨h.1, ?_, fun k hk => ?_⟩
  · rw [hF.2 o (by omega) (by omega)]; exact h.2.1
  · rw [hF.2 (o + 1 + k) (by omega) (by omega)]; exact h.2.2 k hk
theorem tN (b : Bool) : b.toNat < 2 := Bool.toNat_lt b
theorem f6_bitOf_n {I : gI} {o k : Nat} {r : Row} (h : AR I o r) (ho : o + 601 ≤ 48086) (hk : k < 2 ^ 20) : f6_bitOf I (nI o) (nI k) = some (nI (r.2 k).toNat) := by
  have hL := h.1.1
  unfold f6_bitOf
  rw [xI_ib (by omega), if_pos (by simp; omega), xI_cl (by omega), h.2.1]
  by_cases h1 : r.1 ≤ k
  · rw [if_pos (by rw [xI_le (by omega) (by omega)]; exact h1), h.1.2 k h1]
    rfl
  · rw [if_neg (by rw [xI_le (by omega) (by omega)]; exact h1), k1, nI_add, nI_add, xI_ib (by omega), if_pos (by simp; omega), xI_cl (by omega), h.2.2 k (by omega)]
theorem f6_put_n {I : gI} {o k : Nat} {v : Int32} (h : o + 1 + k < 48086) : f6_put I (nI o) (nI k) v = some (uI I 80 (o + 1 + k) v) := by
  unfold f6_put
  rw [k1, nI_add, nI_add, xI_ib (by omega), if_pos (by simp; omega), xI_cl (by omega)]
theorem f6_ones_L_n {I : gI} {o : Nat} {r : Row} (h : AR I o r) (ho : o + 601 ≤ 48086) : ∀ (k s j : Nat), j ≤ r.1 → r.1 < k + j → f6_ones_L4 k I (nI o) (nI s) (nI j) = some (nI (s + cnt r.2 j (r.1 - j))) := by
  have hL := h.1.1
  intro k
  induction k with
  | zero => intro s j h1 h2; omega
  | succ k ih =>
    intro s j h1 h2
    rw [f6_ones_L4, xI_ib (by omega), if_pos (by simp; omega), xI_cl (by omega), h.2.1]
    by_cases hj : j = r.1
    · subst hj
      rw [if_pos (by rw [xI_le (by omega) (by omega)]; omega), Nat.sub_self]
      rfl
    · have ec : r.1 - j = (r.1 - (j + 1)) + 1 := by omega
      rw [if_neg (by rw [xI_le (by omega) (by omega)]; omega), f6_bitOf_n h ho (by omega), ec]
      simp only [Option.bind_some, cnt]
      rw [k1, nI_add, nI_add, ih _ (j + 1) (by omega) (by omega), Nat.add_assoc]
theorem f6_ones_n {I : gI} {o : Nat} {r : Row} (h : AR I o r) (ho : o + 601 ≤ 48086) : f6_ones I (nI o) = some (nI (cnt r.2 0 r.1)) := by
  have hL := h.1.1
  unfold f6_ones
  rw [k0, f6_ones_L_n h ho FU 0 0 (by omega) (by unfold FU; omega), Nat.zero_add, Nat.sub_zero]
theorem f6_groups_n {I : gI} {o : Nat} {r : Row} (h : AR I o r) (ho : o + 601 ≤ 48086) : f6_groups I (nI o) = some (nI (ng r)) := by
  have hL := h.1.1
  unfold f6_groups ng
  have e : r.1 + 15 - 1 = r.1 + 14 := by omega
  rw [xI_ib (by omega), if_pos (by simp; omega), xI_cl (by omega), h.2.1, k15, nI_add, k1, xI_sub (by omega), xI_div (by omega) (by omega), e]
theorem f6_group_L_n {I : gI} {o g : Nat} {r : Row} (h : AR I o r) (ho : o + 601 ≤ 48086) (hg : g < 2 ^ 10) : ∀ (k m : Nat), m ≤ 15 → m < k → f6_group_L6 k I (nI o) (nI g) (nI (pkH r.2 (15 * g + m) (15 - m))) (nI m + (-1)) = some (nI (gw r.2 g)) := by
  intro k
  induction k with
  | zero => intro m h1 h2; omega
  | succ k ih =>
    intro m h1 h2
    rw [f6_group_L6]
    by_cases hm : m = 0
    · subst hm
      rw [if_pos (by decide)]
      rfl
    · obtain ⟨m', rfl⟩ : ∃ m', m = m' + 1 := ⟨m - 1, by omega⟩
      rw [xI_pred, if_neg (by rw [k0, xI_lt (by omega) (by omega)]; omega), k15, xI_mul, nI_add, f6_bitOf_n h ho (by omega)]
      simp only [Option.bind_some]
      have e : 15 - m' = (15 - (m' + 1)) + 1 := by omega
      have e2 : 15 * g + m' + 1 = 15 * g + (m' + 1) := by omega
      have e3 : 2 * pkH r.2 (15 * g + (m' + 1)) (15 - (m' + 1)) + (r.2 (15 * g + m')).toNat = pkH r.2 (15 * g + m') (15 - m') := by
        rw [e]
        simp only [pkH]
        rw [e2]
        omega
      rw [k2, xI_mul, nI_add, e3]
      exact ih m' (by omega) (by omega)
theorem f6_group_n {I : gI} {o g : Nat} {r : Row} (h : AR I o r) (ho : o + 601 ≤ 48086) (hg : g < 2 ^ 10) : f6_group I (nI o) (nI g) = some (nI (gw r.2 g)) := by
  unfold f6_group
  have h1 := f6_group_L_n h ho hg FU 15 (by omega) (by decide)
  exact h1
def kdN (v : Nat) : Nat := if v = 0 then 0 else if v = 32767 then 1 else 2
theorem f6_kind_n {I : gI} {o g : Nat} {r : Row} (h : AR I o r) (ho : o + 601 ≤ 48086) (hg : g < 2 ^ 10) : f6_kind I (nI o) (nI g) = some (nI (kdN (gw r.2 g))) := by
  have hl := gw_lt r.2 g
  unfold f6_kind kdN
  rw [f6_group_n h ho hg]
  simp only [Option.bind_some]
  by_cases h0 : gw r.2 g = 0
  · rw [if_pos (by rw [h0]; rfl), if_pos h0]
    rfl
  · rw [if_neg (by rw [k0, xI_eq (by omega) (by omega)]; exact h0), if_neg h0]
    by_cases h1 : gw r.2 g = 32767
    · rw [if_pos (by rw [h1]; rfl), if_pos h1]
      rfl
    · rw [if_neg (by rw [k32767, xI_eq (by omega) (by omega)]; exact h1), if_neg h1]
      rfl
theorem kdN_lt (v : Nat) : kdN v ≤ 2 := by
  unfold kdN
  split
  · omega
  · split <;> omega
theorem kdN_lit {v : Nat} (h : isLit v = true) : kdN v = 2 := by
  simp only [isLit, Bool.and_eq_true, bne_iff_ne, ne_eq] at h
  unfold kdN
  rw [if_neg h.1, if_neg h.2]
theorem kdN_fill {v : Nat} (h : ¬ isLit v = true) : kdN v < 2 ∧ ∀ w, kdN w = kdN v ↔ w = v := by
  simp only [isLit, Bool.and_eq_true, bne_iff_ne, ne_eq] at h
  unfold kdN
  by_cases h0 : v = 0
  · subst h0
    refine ⟨by decide, fun w => ?_⟩
    by_cases hw : w = 0
    · simp [hw]
    · by_cases hw2 : w = 32767
      · simp [hw2]
      · simp [hw, hw2]
  · have h1 : v = 32767 := by
      by_cases q : v = 32767
      · exact q
      · exact absurd ⟨h0, q⟩ h
    subst h1
    refine ⟨by decide, fun w => ?_⟩
    by_cases hw : w = 0
    · simp [hw]
    · by_cases hw2 : w = 32767
      · simp [hw2]
      · simp [hw, hw2]
theorem f6_behind_L_n {I : gI} {o g : Nat} {r : Row} (h : AR I o r) (ho : o + 601 ≤ 48086) (hg : g ≤ 40) {v : Nat} (hv : ¬ isLit v = true) : ∀ (k e : Nat), g < e → e ≤ 100 → 100 < k + e → f6_behind_L12 k I (nI o) (nI g) (nI (kdN v)) (nI e) = some (nI (rn r.2 v (min (ng r) (g + 20) - e) e)) := by
  have hn := ng_le h.1
  have hkv := kdN_fill hv
  intro k
  induction k with
  | zero => intro e h1 h2; omega
  | succ k ih =>
    intro e h1 h2 h3
    rw [f6_behind_L12, if_neg (by rw [k2, xI_le (by omega) (by omega)]; omega), f6_groups_n h ho]
    simp only [Option.bind_some]
    by_cases h4 : ng r ≤ e
    · have e0 : min (ng r) (g + 20) - e = 0 := by omega
      rw [if_pos (by rw [xI_le (by omega) (by omega)]; exact h4), e0]
      rfl
    · rw [if_neg (by rw [xI_le (by omega) (by omega)]; exact h4), xI_sub (by omega)]
      by_cases h5 : 20 ≤ e - g
      · have e0 : min (ng r) (g + 20) - e = 0 := by omega
        rw [if_pos (by rw [k20, xI_le (by omega) (by omega)]; exact h5), e0]
        rfl
      · have hkd := kdN_lt (gw r.2 e)
        have ec : min (ng r) (g + 20) - e = (min (ng r) (g + 20) - (e + 1)) + 1 := by omega
        rw [if_neg (by rw [k20, xI_le (by omega) (by omega)]; exact h5), f6_kind_n h ho (by omega), ec]
        simp only [Option.bind_some, rn]
        by_cases h6 : gw r.2 e = v
        · rw [if_pos (by rw [h6]), if_pos h6, k1, nI_add]
          exact ih (e + 1) (by omega) (by omega) (by omega)
        · rw [if_neg (by rw [xI_eq (by omega) (by omega), hkv.2]; exact h6), if_neg h6]
theorem f6_behind_n {I : gI} {o g : Nat} {r : Row} (h : AR I o r) (ho : o + 601 ≤ 48086) (hg : g ≤ 40) : f6_behind I (nI o) (nI g) = some (nI (we r g)) := by
  unfold f6_behind
  rw [f6_kind_n h ho (by omega)]
  simp only [Option.bind_some]
  rw [k1, nI_add]
  by_cases hl : isLit (gw r.2 g) = true
  · rw [kdN_lit hl, we_lit hl]
    have e : FU = 4999 + 1 := rfl
    rw [e, f6_behind_L12, if_pos (by decide)]
  · rw [f6_behind_L_n h ho hg hl FU (g + 1) (by omega) (by omega) (by unfold FU; omega)]
    unfold we
    rw [if_neg hl]
def kq (r : Row) (kk q : Nat) : Bool := kk == 3 || kdN (gw r.2 q) == kk
theorem f6_words_L_n {I : gI} {o kk : Nat} {r : Row} (h : AR I o r) (ho : o + 601 ≤ 48086) (hk : kk ≤ 3) : ∀ (k s g : Nat), g ≤ ng r → ng r < k + g → f6_words_L5 k I (nI o) (nI kk) (nI s) (nI g) = some (nI (s + (WS r g).countP (kq r kk))) := by
  have hn := ng_le h.1
  intro k
  induction k with
  | zero => intro s g h1 h2; omega
  | succ k ih =>
    intro s g h1 h2
    rw [f6_words_L5, f6_groups_n h ho]
    simp only [Option.bind_some]
    by_cases hg : g = ng r
    · subst hg
      rw [if_pos (by rw [xI_le (by omega) (by omega)]; omega), WS_nil (Nat.le_refl _)]
      rfl
    · have w1 := we_gt r g
      have w2 := we_le (show g < ng r by omega)
      have hkd := kdN_lt (gw r.2 g)
      rw [if_neg (by rw [xI_le (by omega) (by omega)]; omega), WS_cons hn (by omega), List.countP_cons]
      by_cases h3 : kk = 3
      · subst h3
        rw [if_pos (by decide), f6_behind_n h ho (by omega)]
        simp only [Option.bind_some]
        rw [k1, nI_add, ih (s + 1) (we r g) (by omega) (by omega), if_pos (by rfl)]
        have e : s + 1 + List.countP (kq r 3) (WS r (we r g)) = s + (List.countP (kq r 3) (WS r (we r g)) + 1) := by omega
        rw [e]
      · rw [if_neg (by rw [show (3 : Int32) = nI 3 from rfl, xI_eq (by omega) (by omega)]; exact h3), f6_kind_n h ho (by omega)]
        simp only [Option.bind_some]
        by_cases h4 : kdN (gw r.2 g) = kk
        · rw [if_pos (by rw [h4]), f6_behind_n h ho (by omega)]
          simp only [Option.bind_some]
          rw [k1, nI_add, ih (s + 1) (we r g) (by omega) (by omega), if_pos (by simp [kq, h4])]
          have e : s + 1 + List.countP (kq r kk) (WS r (we r g)) = s + (List.countP (kq r kk) (WS r (we r g)) + 1) := by omega
          rw [e]
        · rw [if_neg (by rw [xI_eq (by omega) (by omega)]; exact h4), f6_behind_n h ho (by omega)]
          simp only [Option.bind_some]
          rw [k0, nI_add, Nat.add_zero, ih s (we r g) (by omega) (by omega), if_neg (by simp [kq, h4, h3]), Nat.add_zero]
theorem f6_words_n {I : gI} {o kk : Nat} {r : Row} (h : AR I o r) (ho : o + 601 ≤ 48086) (hk : kk ≤ 3) : f6_words I (nI o) (nI kk) = some (nI ((WS r 0).countP (kq r kk))) := by
  have hn := ng_le h.1
  unfold f6_words
  rw [k0, f6_words_L_n h ho hk FU 0 0 (by omega) (by unfold FU; omega), Nat.zero_add]
theorem kq3 (r : Row) (l : List Nat) : l.countP (kq r 3) = l.length := by
  rw [List.countP_eq_length]
  intro a _
  rfl
theorem kq2 (r : Row) (l : List Nat) : l.countP (kq r 2) = l.countP (fun s => isLit (gw r.2 s)) := by
  apply List.countP_congr
  intro x _
  unfold kq
  by_cases h : isLit (gw r.2 x) = true
  · simp [h, kdN_lit h]
  · have := (kdN_fill h).1
    have h2 : ¬ kdN (gw r.2 x) = 2 := by omega
    simp [h, h2]
theorem kq0 (r : Row) (l : List Nat) : l.countP (kq r 0) = l.countP (fun q => gw r.2 q == 0) := by
  apply List.countP_congr
  intro x _
  unfold kq kdN
  by_cases h : gw r.2 x = 0
  · simp [h]
  · by_cases h2 : gw r.2 x = 32767
    · simp [h2]
    · simp [h, h2]
theorem kq1 (r : Row) (l : List Nat) : l.countP (kq r 1) = l.countP (fun q => gw r.2 q == 32767) := by
  apply List.countP_congr
  intro x _
  unfold kq kdN
  by_cases h : gw r.2 x = 0
  · simp [h]
  · by_cases h2 : gw r.2 x = 32767
    · simp [h2]
    · simp [h, h2]
theorem f6_codeAt_n {I : gI} {o g : Nat} {r : Row} (h : AR I o r) (ho : o + 601 ≤ 48086) (hg : g ≤ 40) : f6_codeAt I (nI o) (nI g) = some (nI (cd r g)) := by
  have w1 := we_gt r g
  unfold f6_codeAt cd
  rw [f6_kind_n h ho (by omega)]
  simp only [Option.bind_some]
  by_cases hl : isLit (gw r.2 g) = true
  · rw [kdN_lit hl, if_pos (by decide), if_pos hl, f6_group_n h ho (by omega)]
    rfl
  · rw [if_neg hl]
    have hk := kdN_fill hl
    rw [if_neg (by rw [k2, xI_eq (by omega) (by omega)]; omega), f6_behind_n h ho hg]
    simp only [Option.bind_some]
    by_cases h0 : gw r.2 g = 0
    · rw [if_pos h0, h0, if_pos (by decide), k32768, nI_add, xI_sub (by omega)]
      have e : 32768 + we r g - g = 32768 + (we r g - g) := by omega
      rw [e]
    · rw [if_neg h0]
      have h1 : kdN (gw r.2 g) ≠ 0 := by
        unfold kdN
        rw [if_neg h0]
        split <;> omega
      rw [if_neg (by rw [k0, xI_eq (by omega) (by omega)]; exact h1), k49152, nI_add, xI_sub (by omega)]
      have e : 49152 + we r g - g = 49152 + (we r g - g) := by omega
      rw [e]
