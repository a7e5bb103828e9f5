/-! the calls that look -/
def rowV (r : Row) (w : Nat) : Int32 := if w = 0 then nI r.1 else if w = 1 then nI (WS r 0).length else if w = 2 then nI ((WS r 0).countP (fun s => isLit (gw r.2 s))) else if w = 3 then nI ((WS r 0).countP (fun s => gw r.2 s == 0)) else if w = 4 then nI ((WS r 0).countP (fun s => gw r.2 s == 32767)) else if w = 5 then nI (cnt r.2 0 r.1) else if w = 6 then pl (selF r.2 0 r.1 0) else if cnt r.2 0 r.1 = 0 then -9 else pl (selF r.2 0 r.1 (cnt r.2 0 r.1 - 1))
section
variable {I : gI} {A : Snap} {H : List Snap}
theorem row_n {q w : Nat} (hc : CR I A H) (hqn : q < A.1) (hw : w < 8) : f5_row I (nI q) (nI w) = some (rowV (A.2 q) w) := by
  have h8 := hc.n8
  have hq : q < 8 := by omega
  have h1 := isWp hc.n8 hqn
  have h2 : f5_isWithin (nI w) 0 7 = true := isWr (m := 0) (n := 7) (by omega) (by omega) (by omega)
  have hi := ib_q hq
  have hl := cl_q hq
  have B := hc.rows hq
  have e5 : ∀ v, f5_property I (63 + 2 * q) (nI w) = some v → f5_row I (nI q) (nI w) = some v := fun v h3 => by
    unfold f5_row
    rw [f5_isRow_n hc, if_pos h1, if_pos h2, if_pos hi, hl, h3]
    rfl
  have c1 := cnt_le (A.2 q).2 (A.2 q).1 0
  have l0 := B.1.1
  refine e5 _ ?_
  rcases (show w = 0 ∨ w = 1 ∨ w = 2 ∨ w = 3 ∨ w = 4 ∨ w = 5 ∨ w = 6 ∨ w = 7 by omega) with rfl | rfl | rfl | rfl | rfl | rfl | rfl | rfl
  · unfold f5_property
    rw [if_pos (by decide), B.2.1]
    rfl
  · unfold f5_property
    rw [if_neg (by decide), if_pos (by decide), f4_size_n B]
    rfl
  · unfold f5_property
    rw [if_neg (by decide), if_neg (by decide), if_pos (by decide), f4_literals_n B]
    rfl
  · unfold f5_property
    rw [if_neg (by decide), if_neg (by decide), if_neg (by decide), if_pos (by decide), k0, f4_fillsOf_n B (by omega)]
    rfl
  · unfold f5_property
    rw [if_neg (by decide), if_neg (by decide), if_neg (by decide), if_neg (by decide), if_pos (by decide), k32767, f4_fillsOf_n B (by omega)]
    rfl
  · unfold f5_property
    rw [if_neg (by decide), if_neg (by decide), if_neg (by decide), if_neg (by decide), if_neg (by decide), if_pos (by decide), f0_ones_n B]
    rfl
  · unfold f5_property
    rw [if_neg (by decide), if_neg (by decide), if_neg (by decide), if_neg (by decide), if_neg (by decide), if_neg (by decide), if_pos (by decide), k0, f0_placeOfOne_n B (by omega)]
    rfl
  · unfold f5_property
    rw [if_neg (by decide), if_neg (by decide), if_neg (by decide), if_neg (by decide), if_neg (by decide), if_neg (by decide), if_neg (by decide), f0_ones_n B]
    simp only [Option.bind_some]
    have e7 : rowV (A.2 q) 7 = if cnt (A.2 q).2 0 (A.2 q).1 = 0 then -9 else pl (selF (A.2 q).2 0 (A.2 q).1 (cnt (A.2 q).2 0 (A.2 q).1 - 1)) := rfl
    rw [e7]
    generalize cnt (A.2 q).2 0 (A.2 q).1 = c at c1
    rcases Nat.eq_zero_or_pos c with c0 | c0
    · subst c0
      rw [if_pos rfl, f0_placeOfOne_neg (by decide)]
      rfl
    · rw [if_neg (by omega), k1, xI_sub c0, f0_placeOfOne_n B (by omega)]
      rfl
theorem row_bad {x y : Int32} (hc : CR I A H) (h1 : ¬ f5_isWithin x 0 (nI A.1 - 1) = true) : f5_row I x y = some (-1) := by
  unfold f5_row
  rw [f5_isRow_n hc, if_neg h1]
theorem word_n {q i : Nat} (hc : CR I A H) (hqn : q < A.1) (hi2 : i < 2 ^ 31) : f5_word I (nI q) (nI i) = some (cdo (A.2 q) ((WS (A.2 q) 0)[i]?)) := by
  have h8 := hc.n8
  have hq : q < 8 := by omega
  have h1 := isWp hc.n8 hqn
  unfold f5_word
  rw [f5_isRow_n hc, if_pos h1, if_pos (pos_n hi2), if_pos (ib_q hq), cl_q hq, f4_codeOf_n (hc.rows hq) hi2]
  rfl
theorem bit_n {q p : Nat} (hc : CR I A H) (hqn : q < A.1) (hp : p < (A.2 q).1) : f5_bit I (nI q) (nI p) = some (nI ((A.2 q).2 p).toNat) := by
  have h8 := hc.n8
  have hq : q < 8 := by omega
  have h1 := isWp hc.n8 hqn
  have l0 := (hc.rows hq).1.1
  have h2 : f5_isWithin (nI p) 0 (nI (A.2 q).1 - 1) = true := by
    rw [k1, xI_sub (by omega)]
    exact isWr (m := 0) (by omega) (by omega) (by omega)
  unfold f5_bit
  rw [f5_isRow_n hc, if_pos h1, f5_isPlace_n hc hq]
  simp only [Option.bind_some]
  rw [if_pos h2, if_pos (ib_q hq), cl_q hq, f0_valueAt_n (hc.rows hq) (by omega)]
  rfl
theorem rank_n {q p : Nat} (hc : CR I A H) (hqn : q < A.1) (hp : p ≤ (A.2 q).1) : f5_rank I (nI q) (nI p) = some (nI (cnt (A.2 q).2 0 p)) := by
  have h8 := hc.n8
  have hq : q < 8 := by omega
  have h1 := isWp hc.n8 hqn
  have l0 := (hc.rows hq).1.1
  have h2 : f5_isWithin (nI p) 0 (nI (A.2 q).1) = true := isWr (m := 0) (by omega) (by omega) (by omega)
  unfold f5_rank
  rw [f5_isRow_n hc, if_pos h1, if_pos (ib_q hq), cl_q hq, (hc.rows hq).2.1, if_pos h2, if_pos (ib_q hq), f0_onesBefore_n (hc.rows hq) (by omega)]
  rfl
theorem select_n {q i : Nat} (hc : CR I A H) (hqn : q < A.1) (hi2 : i < 2 ^ 31) : f5_select I (nI q) (nI i) = some (pl (selF (A.2 q).2 0 (A.2 q).1 i)) := by
  have h8 := hc.n8
  have hq : q < 8 := by omega
  have h1 := isWp hc.n8 hqn
  unfold f5_select
  rw [f5_isRow_n hc, if_pos h1, if_pos (pos_n hi2), if_pos (ib_q hq), cl_q hq, f0_placeOfOne_n (hc.rows hq) hi2]
  rfl
def cntV (A : Snap) (w : Nat) : Int32 := if w = 0 then nI A.1 else if w = 1 then nI (smN (fun q => prN 0 (A.2 q)) 0 A.1) else if w = 2 then nI (smN (fun q => prN 1 (A.2 q)) 0 A.1) else nI (smN (fun q => prN 5 (A.2 q)) 0 A.1)
theorem count_n {w : Nat} (hc : CR I A H) (hw : w < 4) : f5_count I (nI w) = some (cntV A w) := by
  have h8 := hc.n8
  have s0 := f5_sum_L_n (p := 0) h8 hc.n (fun q hq => hc.rows hq) (by omega) FU 0 0 (by omega) (by unfold FU; omega)
  have s1 := f5_sum_L_n (p := 1) h8 hc.n (fun q hq => hc.rows hq) (by omega) FU 0 0 (by omega) (by unfold FU; omega)
  have s5 := f5_sum_L_n (p := 5) h8 hc.n (fun q hq => hc.rows hq) (by omega) FU 0 0 (by omega) (by unfold FU; omega)
  rw [Nat.zero_add, Nat.sub_zero] at s0 s1 s5
  unfold f5_count f5_sum
  rw [k0, k1, k5]
  rcases (show w = 0 ∨ w = 1 ∨ w = 2 ∨ w = 3 by omega) with rfl | rfl | rfl | rfl
  · rw [if_pos rfl, hc.n]
    rfl
  · rw [if_neg (by decide), if_pos rfl, s0]
    rfl
  · rw [if_neg (by decide), if_neg (by decide), if_pos (by decide), s1]
    rfl
  · rw [if_neg (by decide), if_neg (by decide), if_neg (by decide), if_pos (by decide), s5]
    rfl
theorem count_0 (hc : CR I A H) : f5_count I 0 = some (nI A.1) := count_n (w := 0) hc (by omega)
theorem count_4 (hc : CR I A H) : f5_count I 4 = some (nI H.length) := by
  unfold f5_count
  rw [if_neg (by decide), if_neg (by decide), if_neg (by decide), if_neg (by decide), if_pos rfl, hc.hl]
theorem count_5 {t : Nat} (h : TT I t) : f5_count I 5 = some (nI t) := by
  unfold f5_count
  rw [if_neg (by decide), if_neg (by decide), if_neg (by decide), if_neg (by decide), if_neg (by decide), if_pos rfl, h.2.1]
theorem count_6 : f5_count I 6 = some (-1) := by
  unfold f5_count
  rw [if_neg (by decide), if_neg (by decide), if_neg (by decide), if_neg (by decide), if_neg (by decide), if_neg (by decide)]
def wouldV (op : Nat) (r s : Row) (u : Nat) : Nat := if u = 0 then wkR r s else if u = 1 then (WS (opR op r s) 0).length else cnt (opR op r s).2 0 (opR op r s).1
theorem would_n {op s t u : Nat} (hc : CR I A H) (hop : op ≤ 3) (hs : s < A.1) (ht : t < A.1) (hu : u ≤ 2) : ∃ J, f5_would I (nI op) (nI s) (nI t) (nI u) = some (nI (wouldV op (A.2 s) (A.2 t) u), J) ∧ CR J A H ∧ KT I J := by
  have h8 := hc.n8
  have h1 : f5_isWithin (nI op) 0 3 = true := isWr (m := 0) (n := 3) (by omega) hop (by omega)
  have h2 := isWp hc.n8 hs
  have h3 := isWp hc.n8 ht
  have h4 : f5_isWithin (nI u) 0 2 = true := isWr (m := 0) (n := 2) (by omega) hu (by omega)
  have hs : s < 8 := by omega
  have htt : t < 8 := by omega
  have his := ib_q hs
  have hls := cl_q hs
  have hit := ib_q htt
  have hlt := cl_q htt
  have wk := f4_work_n (hc.rows hs) (hc.rows htt)
  obtain ⟨J, b1, b2, b3⟩ := f0_combine_n (b := 61) (op := op) (hc.rows hs) (hc.rows htt) hop (by omega) (by omega)
  have hJ : ∀ c, c < 61 ∨ 62 < c → J c = I c := fun c hc => b3 c (by omega) (by omega)
  have cr : CR J A H := CR_kept hc (fun c _ h2 => hJ c (by omega))
  have kt : KT I J := ⟨by rw [hJ 19 (by omega)], hJ 20 (by omega)⟩
  rcases (show u = 0 ∨ u = 1 ∨ u = 2 by omega) with rfl | rfl | rfl
  · refine ⟨I, ?_, hc, KT.rfl'⟩
    unfold f5_would
    rw [f5_isOperation, if_pos h1, f5_isRow_n hc, if_pos h2, f5_isRow_n hc, if_pos h3, if_pos h4, if_pos (by decide), if_pos his, if_pos hit, hls, hlt, wk]
    rfl
  · refine ⟨J, ?_, cr, kt⟩
    unfold f5_would
    rw [f5_isOperation, if_pos h1, f5_isRow_n hc, if_pos h2, f5_isRow_n hc, if_pos h3, if_pos h4, if_neg (by decide), if_pos his, if_pos hit, hls, hlt, b1]
    simp only [Option.bind_some]
    rw [if_pos (by decide), f4_size_n b2]
    rfl
  · refine ⟨J, ?_, cr, kt⟩
    unfold f5_would
    rw [f5_isOperation, if_pos h1, f5_isRow_n hc, if_pos h2, f5_isRow_n hc, if_pos h3, if_pos h4, if_neg (by decide), if_pos his, if_pos hit, hls, hlt, b1]
    simp only [Option.bind_some]
    rw [if_neg (by decide), f0_ones_n b2]
    rfl
def smF (ρ : Nat → Row) (q : Nat) : Nat → Nat → Prop := fun m j => j ≤ m ∧ m ≤ q ∧ (m < q → ρ m = ρ q) ∧ ∀ i, j ≤ i → i < m → ρ i ≠ ρ q
theorem same_n {q : Nat} (hc : CR I A H) (hqn : q < A.1) : ∃ m, f5_same I (nI q) = some (nI m) ∧ smF A.2 q m 0 := by
  have h8 := hc.n8
  have hq : q < 8 := by omega
  have h1 := isWp hc.n8 hqn
  have loop : ∀ (k j : Nat), j ≤ q → q < k + j → ∃ m, f5_same_L12 k I (nI q) (nI j) = some (nI m) ∧ smF A.2 q m j := by
    intro k
    induction k with
    | zero => intro j a1 a2; omega
    | succ k ih =>
      intro j a1 a2
      rw [f5_same_L12]
      by_cases hj : j = q
      · subst hj
        rw [if_pos (by rw [xI_le (by omega) (by omega)]; omega)]
        exact ⟨_, rfl, Nat.le_refl _, Nat.le_refl _, fun h => absurd h (Nat.lt_irrefl _), fun i h1 h2 => by omega⟩
      · obtain ⟨u, u1, u2⟩ := f0_matches_n (hc.rows (show j < 8 by omega)) (hc.rows hq)
        rw [if_neg (by rw [xI_le (by omega) (by omega)]; omega), if_pos (ib_q (by omega)), if_pos (ib_q hq), cl_q hq, cl_q (show j < 8 by omega), u1]
        simp only [Option.bind_some]
        by_cases e : A.2 j = A.2 q
        · rw [if_pos (u2.mpr e)]
          exact ⟨_, rfl, Nat.le_refl _, a1, fun _ => e, fun i h1 h2 => by omega⟩
        · rw [if_neg (fun z => e (u2.mp z)), k1, nI_add]
          obtain ⟨m, m1, m2, m3, m4, m5⟩ := ih (j + 1) (by omega) (by omega)
          refine ⟨m, m1, by omega, m3, m4, fun i h1 h2 => ?_⟩
          by_cases hi : i = j
          · subst hi; exact e
          · exact m5 i (by omega) h2
  obtain ⟨m, m1, m2⟩ := loop FU 0 (by omega) (by unfold FU; omega)
  refine ⟨m, ?_, m2⟩
  unfold f5_same
  rw [f5_isRow_n hc, if_pos h1, k0]
  exact m1
theorem smF_self {ρ : Nat → Row} {q m m' : Nat} (h : smF ρ q m 0) (h' : smF ρ m m' 0) : m' = m := by
  by_cases hm : m' < m
  · exfalso
    have e1 := h'.2.2.1 hm
    by_cases hq : m < q
    · exact h.2.2.2 m' (by omega) hm (e1.trans (h.2.2.1 hq))
    · have : m = q := by have := h.2.1; omega
      subst this
      exact h.2.2.2 m' (by omega) hm e1
  · have := h'.2.1
    omega
theorem same_bad {x : Int32} (hc : CR I A H) (h1 : ¬ f5_isWithin x 0 (nI A.1 - 1) = true) : f5_same I x = some (-1) := by
  unfold f5_same
  rw [f5_isRow_n hc, if_neg h1]
theorem best_bad {x : Int32} (hc : CR I A H) (h1 : ¬ f5_isWithin x 0 (nI A.1 - 1) = true) : f5_bestShift I x = some (-1, I) := by
  unfold f5_bestShift
  rw [f5_isRow_n hc, if_neg h1]
theorem best_n {q : Nat} (hc : CR I A H) (hqn : q < A.1) : ∃ J, f5_bestShift I (nI q) = some (nI (bs (A.2 q) 14 0 (WS (A.2 q) 0).length 1), J) ∧ CR J A H ∧ KT I J := by
  have h8 := hc.n8
  have hq : q < 8 := by omega
  have h1 := isWp hc.n8 hqn
  obtain ⟨J, a1, a2⟩ := f5_best_L_n hq FU 0 (WS (A.2 q) 0).length 1 I (hc.rows hq) (by omega) (by unfold FU; omega) (WS_len (ng_le (hc.rows hq).1))
  have hJ : ∀ c, c < 61 ∨ 62 < c → J c = I c := fun c hc => a2 c (by omega) (by omega)
  refine ⟨J, ?_, CR_kept hc (fun c _ h2 => hJ c (by omega)), ⟨by rw [hJ 19 (by omega)], hJ 20 (by omega)⟩⟩
  unfold f5_bestShift
  rw [f5_isRow_n hc, if_pos h1, if_pos (ib_q hq), cl_q hq, f4_size_n (hc.rows hq)]
  simp only [Option.bind_some]
  rw [k0, k1]
  exact a1
end
theorem and_nn (x : Int32) : ∃ m, m < 2 ^ 31 ∧ x &&& 2147483647 = nI m := by
  refine ⟨(x.toBitVec &&& 2147483647#32).toNat, ?_, ?_⟩
  · rw [BitVec.toNat_and]
    exact Nat.lt_of_le_of_lt Nat.and_le_right (by decide)
  · apply Int32.toBitVec_inj.mp
    rw [xI_bv, BitVec.ofNat_toNat, BitVec.setWidth_eq]
    rfl
theorem low_n (x : Int32) {n : Nat} (h0 : 0 < n) (hn : n < 2 ^ 31) : ∃ j, j < n ∧ fL_low x (nI n) = some (nI j) := by
  obtain ⟨m, m1, m2⟩ := and_nn x
  refine ⟨m % n, Nat.mod_lt _ h0, ?_⟩
  unfold fL_low
  rw [if_pos (by rw [k0, xI_eq hn (by omega)]; omega), m2, xI_rem m1 hn]
