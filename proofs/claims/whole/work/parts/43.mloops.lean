/-! the reference: adding to a row -/
theorem f6_push_n {I : gI} {o : Nat} {r : Row} {v : Bool} (h : AR I o r) (ho : o + 601 ≤ 48086) (hl : r.1 < 600) : ∃ I', f6_push I (nI o) (nI v.toNat) = some I' ∧ AR I' o (r.1 + 1, setf r.2 r.1 v) ∧ FrO I I' o := by
  unfold f6_push
  rw [xI_ib (by omega), if_pos (by simp; omega), xI_cl (by omega), h.2.1, f6_put_n (by omega)]
  simp only [Option.bind_some]
  have e : uI I 80 (o + 1 + r.1) (nI v.toNat) 80 o = nI r.1 := by rw [uI_ap, if_neg (by omega), h.2.1]
  rw [if_pos (by simp; omega), if_pos (by simp; omega), e, k1, nI_add]
  refine ⟨_, rfl, ⟨⟨by show r.1 + 1 ≤ 600; omega, fun i hi => ?_⟩, uI_self _ _ _ _, fun k hk => ?_⟩, (FrO_uI (by omega) (by omega)).trans (FrO_uI (by omega) (by omega))⟩
  · have hi2 : r.1 + 1 ≤ i := hi
    show setf r.2 r.1 v i = false
    unfold setf
    rw [if_neg (by omega)]
    exact h.1.2 i (by omega)
  · have hk2 : k < r.1 + 1 := hk
    rw [uI_ap, if_neg (by omega), uI_ap]
    show _ = nI (setf r.2 r.1 v k).toNat
    unfold setf
    by_cases hkr : k = r.1
    · subst hkr
      rw [if_pos ⟨rfl, rfl⟩, if_pos rfl]
    · rw [if_neg (by omega), if_neg hkr]
      exact h.2.2 k (by omega)
theorem addR_0 (r : Row) (v : Nat → Bool) : addR r 0 v = r := by
  unfold addR
  rw [addf_0]
  rfl
theorem addR_s (r : Row) (m : Nat) (v : Nat → Bool) : ((addR r m v).1 + 1, setf (addR r m v).2 (addR r m v).1 (v m)) = addR r (m + 1) v := by
  unfold addR
  simp only
  rw [addf_s]
  rfl
theorem f6_append_L_n {q n : Nat} {v : Bool} {r : Row} (hq : q < 8) (hn : r.1 + n ≤ 600) : ∀ (k m : Nat) (I : gI), AR I (601 * q) (addR r m (fun _ => v)) → m ≤ n → n < k + m → ∃ I', f6_append_L57 k I (nI q) (nI v.toNat) (nI n) (nI m) = some (nI (r.1 + n), I') ∧ AR I' (601 * q) (addR r n (fun _ => v)) ∧ FrO I I' (601 * q) := by
  intro k
  induction k with
  | zero => intro m I a1 a2 a3; omega
  | succ k ih =>
    intro m I a1 a2 a3
    rw [f6_append_L57, f6_at_n]
    by_cases hm : m = n
    · subst hm
      rw [if_pos (by rw [xI_le (by omega) (by omega)]; omega), xI_ib (by omega), if_pos (by simp; omega), xI_cl (by omega), a1.2.1]
      exact ⟨I, rfl, a1, FrO.rfl'⟩
    · rw [if_neg (by rw [xI_le (by omega) (by omega)]; omega)]
      obtain ⟨I1, b1, b2, b3⟩ := f6_push_n (v := v) a1 (by omega) (show r.1 + m < 600 by omega)
      rw [b1]
      simp only [Option.bind_some]
      rw [k1, nI_add]
      have e := addR_s r m (fun _ => v)
      rw [e] at b2
      obtain ⟨I', c1, c2, c3⟩ := ih (m + 1) I1 b2 (by omega) (by omega)
      exact ⟨I', c1, c2, b3.trans c3⟩
theorem f6_write_L_n {q n x : Nat} {r : Row} (hq : q < 8) (hn : r.1 + n ≤ 600) (hn2 : n ≤ 16) (hx : x < 65536) : ∀ (k m : Nat) (I : gI), AR I (601 * q) (addR r m (fun i => x.testBit i)) → m ≤ n → n < k + m → ∃ I', f6_write_L57 k I (nI q) (nI x) (nI n) (nI m) = some (nI (WS (addR r n (fun i => x.testBit i)) 0).length, I') ∧ AR I' (601 * q) (addR r n (fun i => x.testBit i)) ∧ FrO I I' (601 * q) := by
  intro k
  induction k with
  | zero => intro m I a1 a2 a3; omega
  | succ k ih =>
    intro m I a1 a2 a3
    rw [f6_write_L57, f6_at_n]
    by_cases hm : m = n
    · subst hm
      rw [if_pos (by rw [xI_le (by omega) (by omega)]; omega), k3, f6_words_n a1 (by omega) (by omega), kq3]
      exact ⟨I, rfl, a1, FrO.rfl'⟩
    · rw [if_neg (by rw [xI_le (by omega) (by omega)]; omega), xI_shr (by omega) (by omega), k1, xI_and, low_bit]
      obtain ⟨I1, b1, b2, b3⟩ := f6_push_n (v := x.testBit m) a1 (by omega) (show r.1 + m < 600 by omega)
      rw [b1]
      simp only [Option.bind_some]
      rw [nI_add]
      have e := addR_s r m (fun i => x.testBit i)
      rw [e] at b2
      obtain ⟨I', c1, c2, c3⟩ := ih (m + 1) I1 b2 (by omega) (by omega)
      exact ⟨I', c1, c2, b3.trans c3⟩
theorem f6_resize_L_n {q p : Nat} {r : Row} (hq : q < 8) (hp : p ≤ 600) (hr : okR r) : ∀ (k m : Nat) (I : gI), (∀ j, j < m → I 80 (601 * q + 1 + j) = nI (r.2 j).toNat) → r.1 ≤ m → m ≤ 600 → p < k + m → ∃ I', f6_resize_L38 (k + 1) I (nI q) (nI p) (nI r.1) (nI m) = some (nI r.1, I') ∧ AR I' (601 * q) (cutR r p) ∧ FrO I I' (601 * q) := by
  intro k
  have base : ∀ (k m : Nat) (I : gI), p ≤ m → (∀ j, j < m → I 80 (601 * q + 1 + j) = nI (r.2 j).toNat) → m ≤ 600 → ∃ I', f6_resize_L38 (k + 1) I (nI q) (nI p) (nI r.1) (nI m) = some (nI r.1, I') ∧ AR I' (601 * q) (cutR r p) ∧ FrO I I' (601 * q) := by
    intro k m I a0 a1 a2
    rw [f6_resize_L38, f6_at_n, if_pos (by rw [xI_le (by omega) (by omega)]; omega), xI_ib (by omega), if_pos (by simp; omega), xI_cl (by omega)]
    refine ⟨_, rfl, ⟨cutR_ok hp, uI_self _ _ _ _, fun j hj => ?_⟩, FrO_uI (by omega) (by omega)⟩
    have hj2 : j < p := hj
    rw [uI_ap, if_neg (by omega), a1 j (by omega)]
    show _ = nI (cutf p r.2 j).toNat
    unfold cutf
    rw [decide_eq_true hj2, Bool.true_and]
  induction k with
  | zero => intro m I a1 a2 a3 a4; exact base 0 m I (by omega) a1 a3
  | succ k ih =>
    intro m I a1 a2 a3 a4
    by_cases hm : p ≤ m
    · exact base _ m I hm a1 a3
    · rw [f6_resize_L38, f6_at_n, if_neg (by rw [xI_le (by omega) (by omega)]; omega), f6_put_n (by omega)]
      simp only [Option.bind_some]
      rw [k1, nI_add]
      obtain ⟨I', c1, c2, c3⟩ := ih (m + 1) (uI I 80 (601 * q + 1 + m) 0) (fun j hj => by
        rw [uI_ap]
        by_cases e : j = m
        · subst e
          rw [if_pos ⟨rfl, rfl⟩, hr.2 j a2]
          rfl
        · rw [if_neg (by omega)]; exact a1 j (by omega)) (by omega) (by omega) (by omega)
      exact ⟨I', c1, c2, (FrO_uI (by omega) (by omega)).trans c3⟩
/-! looking at words and ranks -/
theorem f6_word_L_n {I : gI} {q : Nat} {r : Row} (hq : q < 8) (h : AR I (601 * q) r) : ∀ (k i g : Nat), g ≤ ng r → ng r < k + g → i < 2 ^ 31 → f6_word_L19 k I (nI q) (nI i) (nI g) = some (cdo r ((WS r g)[i]?)) := by
  have hn := ng_le h.1
  intro k
  induction k with
  | zero => intro i g a1 a2; omega
  | succ k ih =>
    intro i g a1 a2 hi
    rw [f6_word_L19, f6_at_n, f6_groups_n h (by omega)]
    simp only [Option.bind_some]
    by_cases hg : g = ng r
    · rw [if_pos (by rw [xI_le (by omega) (by omega)]; omega), WS_nil (by omega)]
      rfl
    · have w1 := we_gt r g
      have w2 := we_le (show g < ng r by omega)
      rw [if_neg (by rw [xI_le (by omega) (by omega)]; omega), WS_cons hn (by omega)]
      by_cases h0 : i = 0
      · subst h0
        rw [if_pos (by decide), f6_codeAt_n h (by omega) (by omega)]
        rfl
      · obtain ⟨i', rfl⟩ : ∃ i', i = i' + 1 := ⟨i - 1, by omega⟩
        rw [if_neg (by rw [k0, xI_eq hi (by omega)]; exact h0), f6_behind_n h (by omega) (by omega)]
        simp only [Option.bind_some]
        rw [xI_pred, ih i' (we r g) w2 (by omega) (by omega), List.getElem?_cons_succ]
theorem f6_rank_L_n {I : gI} {q p : Nat} {r : Row} (hq : q < 8) (h : AR I (601 * q) r) (hp : p ≤ 600) : ∀ (k s j : Nat), j ≤ p → p < k + j → f6_rank__L17 k I (nI q) (nI p) (nI s) (nI j) = some (nI (s + cnt r.2 j (p - j))) := by
  intro k
  induction k with
  | zero => intro s j a1 a2; omega
  | succ k ih =>
    intro s j a1 a2
    rw [f6_rank__L17, f6_at_n]
    by_cases hj : j = p
    · subst hj
      rw [if_pos (by rw [xI_le (by omega) (by omega)]; omega), Nat.sub_self]
      rfl
    · have ec : p - j = (p - (j + 1)) + 1 := by omega
      rw [if_neg (by rw [xI_le (by omega) (by omega)]; omega), f6_bitOf_n h (by omega) (by omega)]
      simp only [Option.bind_some]
      rw [nI_add, k1, nI_add, ih _ (j + 1) (by omega) (by omega), ec]
      simp only [cnt]
      rw [Nat.add_assoc]
/-! which shift is best -/
def bs (r : Row) : Nat → Nat → Nat → Nat → Nat
  | 0, b, _, _ => b
  | k + 1, b, s, x => if s ≤ (WS (shR r (x : Int)) 0).length then bs r k b s (x + 1) else bs r k x (WS (shR r (x : Int)) 0).length (x + 1)
theorem WS_40 (r : Row) (by_ : Int) : (WS (shR r by_) 0).length ≤ 40 := WS_len (ng_le (shR_ok r by_))
theorem FrB_BR {I I' : gI} {b c : Nat} {r : Row} (h : BR I c r) (hF : FrB I I' b) (h1 : c ≠ b) (h2 : c ≠ b + 1) (h3 : c + 1 ≠ b) : BR I' c r :=
  ⟨h.1, by rw [hF c h1 h2]; exact h.2.1, fun j hj => by rw [hF (c + 1) h3 (by omega)]; exact h.2.2 j hj⟩
theorem f5_best_L_n {q : Nat} {r : Row} (hq : q < 8) : ∀ (k b s x : Nat) (I : gI), BR I (63 + 2 * q) r → x ≤ 15 → 15 < k + x → s ≤ 40 → ∃ I', f5_bestShift_L25 k I (nI q) (nI b) (nI s) (nI x) = some (nI (bs r (15 - x) b s x), I') ∧ FrB I I' 61 := by
  intro k
  induction k with
  | zero => intro b s x I a1 a2 a3; omega
  | succ k ih =>
    intro b s x I a1 a2 a3 a4
    rw [f5_bestShift_L25]
    by_cases hx : x = 15
    · subst hx
      rw [if_pos (by decide)]
      exact ⟨I, rfl, FrB.rfl'⟩
    · have ec : 15 - x = (15 - (x + 1)) + 1 := by omega
      have ex := nI_toInt (n := x) (by omega)
      rw [if_neg (by rw [k15, xI_le (by omega) (by omega)]; omega), xI_ib (by omega), if_pos (by simp; omega), xI_cl (by omega)]
      obtain ⟨I1, b1, b2, b3⟩ := f0_moveFrom_n (x := nI x) a1 (by omega) (by omega) (show 63 + 2 * q ≠ 61 + 1 by omega) (by omega)
      rw [ex] at b2
      rw [b1]
      simp only [Option.bind_some]
      rw [f4_size_n b2]
      simp only [Option.bind_some]
      have a5 := FrB_BR a1 b3 (by omega) (by omega) (by omega)
      have w := WS_40 r (x : Int)
      rw [ec, bs, k1, nI_add]
      by_cases hs : s ≤ (WS (shR r (x : Int)) 0).length
      · rw [if_pos (by rw [xI_le (by omega) (by omega)]; exact hs), if_pos hs]
        obtain ⟨I', c1, c2⟩ := ih b s (x + 1) I1 a5 (by omega) (by omega) a4
        exact ⟨I', c1, b3.trans c2⟩
      · rw [if_neg (by rw [xI_le (by omega) (by omega)]; exact hs), if_neg hs]
        obtain ⟨I', c1, c2⟩ := ih x _ (x + 1) I1 a5 (by omega) (by omega) w
        exact ⟨I', c1, b3.trans c2⟩
theorem f6_best_L_n {q : Nat} {r : Row} (hq : q < 8) : ∀ (k b s x : Nat) (I : gI), AR I (601 * q) r → 1 ≤ x → x ≤ 15 → 15 < k + x → s ≤ 40 → ∃ I', f6_bestShift_L17 k I (nI q) (nI b) (nI s) (nI x) = some (nI (bs r (15 - x) b s x), I') ∧ FrO I I' 28854 := by
  intro k
  induction k with
  | zero => intro b s x I a1 a2 a3; omega
  | succ k ih =>
    intro b s x I a1 a0 a2 a3 a4
    rw [f6_bestShift_L17]
    by_cases hx : x = 15
    · subst hx
      rw [if_pos (by decide)]
      exact ⟨I, rfl, FrO.rfl'⟩
    · have ec : 15 - x = (15 - (x + 1)) + 1 := by omega
      have ex := nI_toInt (n := x) (by omega)
      have hx0 : ¬ nI x = 0 := by rw [k0, xI_eq (by omega) (by omega)]; omega
      rw [if_neg (by rw [k15, xI_le (by omega) (by omega)]; omega), f6_at_n, k0, f6_asked_n, f6_copy_n (by omega) (by omega) (by omega)]
      simp only [Option.bind_some]
      have c0 := cpA_AR (a := 601 * q) (b := 28854 + 601 * 0) (n := 601) a1 (by omega)
      have c1 := cpA_FrO (I := I) (a := 601 * q) (b := 28854 + 601 * 0)
      obtain ⟨I1, b1, b2, b3⟩ := f6_shiftOn_n (x := nI x) (by omega) c0 (by omega) (by omega)
      rw [ex] at b2
      rw [b1]
      simp only [Option.bind_some]
      rw [k3, f6_words_n b2 (by omega) (by omega), kq3]
      simp only [Option.bind_some]
      have a5 := AR_kept a1 (c1.trans b3) (by omega) (by omega)
      have w := WS_40 r (x : Int)
      rw [← k0, if_neg hx0, ec, bs, k1, nI_add]
      by_cases hs : s ≤ (WS (shR r (x : Int)) 0).length
      · rw [if_pos (by rw [xI_le (by omega) (by omega)]; exact hs), if_neg hx0, if_pos (by rw [xI_le (by omega) (by omega)]; exact hs), if_pos hs]
        obtain ⟨I', d1, d2⟩ := ih b s (x + 1) I1 a5 (by omega) (by omega) (by omega) a4
        exact ⟨I', d1, (c1.trans b3).trans d2⟩
      · rw [if_neg (by rw [xI_le (by omega) (by omega)]; exact hs), if_neg hx0, if_neg (by rw [xI_le (by omega) (by omega)]; exact hs), if_neg hs]
        obtain ⟨I', d1, d2⟩ := ih x _ (x + 1) I1 a5 (by omega) (by omega) (by omega) w
        exact ⟨I', d1, (c1.trans b3).trans d2⟩
theorem shR_0 {r : Row} (h : okR r) : shR r 0 = r := by
  have e : shL r 0 = r.1 := by
    have := h.1
    simp only [shL]
    omega
  refine Prod.ext e ?_
  funext i
  show (decide (i < shL r 0) && zof r.2 ((i : Int) - 0)) = r.2 i
  rw [e]
  unfold zof
  by_cases hi : i < r.1
  · rw [decide_eq_true hi, Bool.true_and, decide_eq_true (by omega), Bool.true_and]
    congr 1
  · rw [decide_eq_false hi, Bool.false_and, h.2 i (by omega)]
theorem f6_best_0_n {q : Nat} {r : Row} {I : gI} (hq : q < 8) (h : AR I (601 * q) r) : ∃ I', f6_bestShift_L17 FU I (nI q) 0 0 0 = some (nI (bs r 14 0 (WS r 0).length 1), I') ∧ FrO I I' 28854 := by
  rw [show FU = 4999 + 1 from rfl, f6_bestShift_L17]
  rw [if_neg (by decide), f6_at_n, k0, f6_asked_n, f6_copy_n (by omega) (by omega) (by omega)]
  simp only [Option.bind_some]
  have c0 := cpA_AR (a := 601 * q) (b := 28854 + 601 * 0) (n := 601) h (by omega)
  have c1 := cpA_FrO (I := I) (a := 601 * q) (b := 28854 + 601 * 0)
  have ez : (nI 0).toInt = 0 := by decide
  obtain ⟨I1, b1, b2, b3⟩ := f6_shiftOn_n (x := nI 0) (by omega) c0 (by omega) (by omega)
  rw [ez, shR_0 h.1] at b2
  rw [b1]
  simp only [Option.bind_some]
  rw [k3, f6_words_n b2 (by omega) (by omega), kq3]
  simp only [Option.bind_some]
  rw [if_pos trivial, if_pos trivial, k1, nI_add]
  have a5 := AR_kept h (c1.trans b3) (by omega) (by omega)
  obtain ⟨I', d1, d2⟩ := f6_best_L_n hq 4999 0 _ (0 + 1) I1 a5 (by omega) (by omega) (by omega) (WS_len (ng_le h.1))
  exact ⟨I', d1, (c1.trans b3).trans d2⟩
/-! sums over the rows -/
def smN (φ : Nat → Nat) : Nat → Nat → Nat
  | _, 0 => 0
  | j, c + 1 => φ j + smN φ (j + 1) c
def prN (p : Nat) (r : Row) : Nat := if p = 0 then r.1 else if p = 1 then (WS r 0).length else cnt r.2 0 r.1
theorem f5_sum_L_n {I : gI} {n p : Nat} {ρ : Nat → Row} (hn : n ≤ 8) (h0 : I 0 1 = nI n) (h : ∀ q, q < 8 → BR I (63 + 2 * q) (ρ q)) (hp : p = 0 ∨ p = 1 ∨ p = 5) : ∀ (k s j : Nat), j ≤ n → n < k + j → f5_sum_L4 k I (nI p) (nI s) (nI j) = some (nI (s + smN (fun q => prN p (ρ q)) j (n - j))) := by
  intro k
  induction k with
  | zero => intro s j a1 a2; omega
  | succ k ih =>
    intro s j a1 a2
    rw [f5_sum_L4, h0]
    by_cases hj : j = n
    · subst hj
      rw [if_pos (by rw [xI_le (by omega) (by omega)]; omega), Nat.sub_self]
      rfl
    · have ec : n - j = (n - (j + 1)) + 1 := by omega
      have hb := h j (by omega)
      rw [if_neg (by rw [xI_le (by omega) (by omega)]; omega), xI_ib (by omega), if_pos (by simp; omega), xI_cl (by omega)]
      have e : f5_property I (63 + 2 * j) (nI p) = some (nI (prN p (ρ j))) := by
        rcases hp with rfl | rfl | rfl
        · unfold f5_property
          rw [if_pos (by decide), hb.2.1]
          rfl
        · unfold f5_property
          rw [if_neg (by decide), if_pos (by decide), f4_size_n hb]
          rfl
        · unfold f5_property
          rw [if_neg (by decide), if_neg (by decide), if_neg (by decide), if_neg (by decide), if_neg (by decide), if_pos (by decide), f0_ones_n hb]
          rfl
      rw [e]
      simp only [Option.bind_some]
      rw [nI_add, k1, nI_add, ih _ (j + 1) (by omega) (by omega), ec]
      simp only [smN]
      rw [Nat.add_assoc]
theorem f6_count_L_n {I : gI} {n : Nat} {x : Int32} {ρ : Nat → Row} (hn : n ≤ 8) (h0 : I 80 4808 = nI n) (h : ∀ q, q < 8 → AR I (601 * q) (ρ q)) : ∀ (k s t u j : Nat), j ≤ n → n < k + j → f6_count_L10 k I x (nI s) (nI t) (nI u) (nI j) = (if x = 0 then some (nI n) else if x = 1 then some (nI (s + smN (fun q => prN 0 (ρ q)) j (n - j))) else if x = 2 then some (nI (t + smN (fun q => prN 1 (ρ q)) j (n - j))) else if x = 3 then some (nI (u + smN (fun q => prN 5 (ρ q)) j (n - j))) else if x = 4 then some (I 79 1) else if x = 5 then some (I 79 3) else some (-1)) := by
  intro k
  induction k with
  | zero => intro s t u j a1 a2; omega
  | succ k ih =>
    intro s t u j a1 a2
    rw [f6_count_L10, h0]
    by_cases hj : j = n
    · subst hj
      rw [if_pos (by rw [xI_le (by omega) (by omega)]; omega), Nat.sub_self]
      rfl
    · have ec : n - j = (n - (j + 1)) + 1 := by omega
      have hb := h j (by omega)
      rw [if_neg (by rw [xI_le (by omega) (by omega)]; omega), f6_at_n, xI_ib (by omega), if_pos (by simp; omega), xI_cl (by omega), k3, f6_words_n hb (by omega) (by omega), kq3]
      simp only [Option.bind_some]
      rw [f6_ones_n hb (by omega)]
      simp only [Option.bind_some]
      rw [hb.2.1, nI_add, nI_add, nI_add, k1, nI_add, ih _ _ _ (j + 1) (by omega) (by omega), ec]
      simp only [smN, Nat.add_assoc]
      rfl
