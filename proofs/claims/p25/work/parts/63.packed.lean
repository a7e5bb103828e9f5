/-! the words of a row tell its bits -/
theorem rn_stop (f : Nat → Bool) (v : Nat) : ∀ (c e : Nat), rn f v c e < e + c → gw f (rn f v c e) ≠ v := by
  intro c
  induction c with
  | zero =>
    intro e h
    have h' : e < e + 0 := h
    omega
  | succ c ih =>
    intro e h
    by_cases he : gw f e = v
    · have e1 : rn f v (c + 1) e = rn f v c (e + 1) := by
        show (if gw f e = v then rn f v c (e + 1) else e) = _
        rw [if_pos he]
      rw [e1] at h ⊢
      exact ih (e + 1) (by omega)
    · have e1 : rn f v (c + 1) e = e := by
        show (if gw f e = v then rn f v c (e + 1) else e) = _
        rw [if_neg he]
      rw [e1]
      exact he
theorem we_20 {r : Row} {g : Nat} (h : g < ng r) : we r g ≤ g + 20 := by
  unfold we
  split
  · omega
  · have := rn_le r.2 (gw r.2 g) (min (ng r) (g + 20) - (g + 1)) (g + 1)
    omega
theorem we_stop {r : Row} {g : Nat} (hl : isLit (gw r.2 g) = false) (h : we r g < ng r) (h2 : we r g < g + 20) : gw r.2 (we r g) ≠ gw r.2 g := by
  have e : we r g = rn r.2 (gw r.2 g) (min (ng r) (g + 20) - (g + 1)) (g + 1) := by
    unfold we
    rw [hl, if_neg (by simp)]
  have h1 := we_gt r g
  rw [e] at h h2 h1 ⊢
  exact rn_stop _ _ _ _ (by omega)
theorem sel_at {f : Nat → Bool} {c p : Nat} (hp : f p = true) (hc : p < c) : selF f 0 c (cnt f 0 p) = some p := by
  have e := selF_skip f p 0 (c - p) (cnt f 0 p)
  rw [show p + (c - p) = c by omega, if_neg (Nat.lt_irrefl _), Nat.sub_self, Nat.zero_add] at e
  rw [e, show c - p = (c - p - 1) + 1 by omega, selF, if_pos hp, if_pos rfl]
theorem cnt_s0 (f : Nat → Bool) (c : Nat) : cnt f 0 (c + 1) = cnt f 0 c + (f c).toNat := by
  rw [cnt_snoc, Nat.zero_add]
section
variable {I : gI} {A : Snap} {H : List Snap}
theorem J161_n {K18 : gI → Int32 → Int32 → Int32 → Int32 → Int32 → Int32 → Option Bool} {K131 : gI → Int32 → Int32 → Int32 → Int32 → Int32 → Int32 → Int32 → Int32 → Int32 → Option Bool} {q p : Nat} {x6 x7 x8 x9 x10 x11 : Int32} (hc : CR I A H) (hq : q < A.1) (hp : p < 2 ^ 20) (h11 : x11 = nI ((A.2 q).2 p).toNat) : fL_isPacked_J161 K18 K131 I (nI q) (nI (A.2 q).1) (nI p) (nI (cnt (A.2 q).2 0 p)) x6 x7 x8 x9 x10 x11 = K131 I (nI q) (nI (A.2 q).1) (nI (p + 1)) (nI (cnt (A.2 q).2 0 (p + 1))) x6 x7 x8 x9 (x10 + 1) := by
  have h8 := hc.n8
  have ok := (hc.rows (show q < 8 by omega)).1
  have l0 := ok.1
  have cl := cnt_le (A.2 q).2 p 0
  have e216 : fL_isPacked_J216 K18 K131 I (nI q) (nI (A.2 q).1) (nI p) (nI (cnt (A.2 q).2 0 p)) x6 x7 x8 x9 x10 x11 = K131 I (nI q) (nI (A.2 q).1) (nI (p + 1)) (nI (cnt (A.2 q).2 0 (p + 1))) x6 x7 x8 x9 (x10 + 1) := by
    unfold fL_isPacked_J216
    rw [h11, k1, nI_add, nI_add, cnt_s0]
  unfold fL_isPacked_J161
  rw [e216]
  by_cases h : (A.2 q).1 ≤ p
  · rw [if_pos (by rw [xI_le (by omega) (by omega)]; exact h), if_neg (by rw [h11, ok.2 p h]; decide)]
  · rw [if_neg (by rw [xI_le (by omega) (by omega)]; exact h), bit_n hc hq (by omega)]
    simp only [Option.bind_some]
    rw [if_pos h11.symm, rank_n hc hq (by omega)]
    simp only [Option.bind_some]
    rw [if_pos trivial]
    cases hb : (A.2 q).2 p with
    | false =>
      rw [if_neg (by rw [h11, hb]; decide)]
    | true =>
      rw [if_pos (by rw [h11, hb]; decide), select_n hc hq (by omega), sel_at hb (by omega)]
      simp only [Option.bind_some]
      rw [if_pos (show pl (some p) = nI p from rfl)]
theorem L131_n {K18 : gI → Int32 → Int32 → Int32 → Int32 → Int32 → Int32 → Option Bool} {q g n : Nat} {x6 x7 x8 : Int32} (hc : CR I A H) (hq : q < A.1) (hg : g ≤ 40) (hn : n ≤ 20) (hd : ∀ j, j < 15 * n → (if x8 = 2 then ((x7 >>> (nI j &&& 31)) &&& 1) else x8) = nI ((A.2 q).2 (15 * g + j)).toNat) : ∀ (k j : Nat), j ≤ 15 * n → 15 * n < k + j → fL_isPacked_L131 K18 k I (nI q) (nI (A.2 q).1) (nI (15 * g + j)) (nI (cnt (A.2 q).2 0 (15 * g + j))) x6 x7 x8 (nI n) (nI j) = K18 I (nI q) (nI (A.2 q).1) (nI (15 * (g + n))) (nI (cnt (A.2 q).2 0 (15 * (g + n)))) (if n = 20 then -1 else x8) (x6 + 1) := by
  intro k
  induction k with
  | zero => intro j a1 a2; omega
  | succ k ih =>
    intro j a1 a2
    rw [fL_isPacked_L131, k15, xI_mul]
    by_cases hj : j = 15 * n
    · rw [if_pos (by rw [xI_le (by omega) (by omega)]; omega)]
      unfold fL_isPacked_J247
      rw [show 15 * g + j = 15 * (g + n) by omega]
      by_cases h20 : n = 20
      · rw [if_pos (by rw [h20]; decide), if_pos h20]
      · rw [if_neg (by rw [k20, xI_eq (by omega) (by omega)]; exact h20), if_neg h20]
    · rw [if_neg (by rw [xI_le (by omega) (by omega)]; omega)]
      have hdj := hd j (by omega)
      have nx := ih (j + 1) (by omega) (by omega)
      rw [← Nat.add_assoc] at nx
      by_cases h2 : x8 = 2
      · rw [if_pos h2] at hdj
        rw [if_pos h2, J161_n hc hq (by omega) hdj, k1, nI_add]
        exact nx
      · rw [if_neg h2] at hdj
        rw [if_neg h2, J161_n hc hq (by omega) hdj, k1, nI_add]
        exact nx
def HO (r : Row) (g : Nat) (had : Int32) : Prop := g < ng r → (gw r.2 g = 0 → had ≠ 0) ∧ (gw r.2 g = 32767 → had ≠ 1)
def kdV (r : Row) (g : Nat) : Int32 := if isLit (gw r.2 g) = true then 2 else if gw r.2 g = 0 then 0 else 1
theorem cd_lt {r : Row} {g : Nat} (h : g < ng r) : cd r g < 65536 := by
  have := we_20 h
  have := gw_lt r.2 g
  unfold cd
  split
  · omega
  · split <;> omega
theorem due_n {r : Row} {g j : Nat} (hg : g < ng r) (h : j < 15 * (we r g - g)) : (if kdV r g = 2 then ((nI (cd r g) >>> (nI j &&& 31)) &&& 1) else kdV r g) = nI (r.2 (15 * g + j)).toNat := by
  have w1 := we_gt r g
  by_cases hl : isLit (gw r.2 g) = true
  · have e : kdV r g = 2 := by unfold kdV; rw [if_pos hl]
    have e2 : cd r g = gw r.2 g := by unfold cd; rw [if_pos hl]
    have e3 := we_lit hl
    rw [if_pos e, e2, xI_shr (Nat.lt_trans (gw_lt _ _) (by omega)) (by omega), k1, xI_and, low_bit, gw_bit, decide_eq_true (show j < 15 by omega), Bool.true_and]
  · have hl' : isLit (gw r.2 g) = false := by simpa using hl
    have hf := we_fill hl' (h := g + j / 15) (by omega) (by omega)
    have hb := gw_bit r.2 (g + j / 15) (j % 15)
    rw [decide_eq_true (show j % 15 < 15 from Nat.mod_lt _ (by omega)), Bool.true_and, show 15 * (g + j / 15) + j % 15 = 15 * g + j by omega, hf] at hb
    by_cases h0 : gw r.2 g = 0
    · have e : kdV r g = 0 := by unfold kdV; rw [if_neg hl, if_pos h0]
      rw [h0, Nat.zero_testBit] at hb
      rw [e, if_neg (by decide), ← hb]
      rfl
    · have e : kdV r g = 1 := by unfold kdV; rw [if_neg hl, if_neg h0]
      have h1 : gw r.2 g = 2 ^ 15 - 1 := by
        unfold isLit at hl'
        simp at hl'
        exact hl' h0
      rw [h1, Nat.testBit_two_pow_sub_one, decide_eq_true (show j % 15 < 15 from Nat.mod_lt _ (by omega))] at hb
      rw [e, if_neg (by decide), ← hb]
      rfl
theorem J63_n {K18 : gI → Int32 → Int32 → Int32 → Int32 → Int32 → Int32 → Option Bool} {q g : Nat} {had x6 : Int32} (hc : CR I A H) (hq : q < A.1) (hg : g < ng (A.2 q)) (ho : HO (A.2 q) g had) : fL_isPacked_J63 K18 I (nI q) (nI (A.2 q).1) (nI (15 * g)) (nI (cnt (A.2 q).2 0 (15 * g))) had x6 (nI (cd (A.2 q) g)) (kdV (A.2 q) g) = K18 I (nI q) (nI (A.2 q).1) (nI (15 * we (A.2 q) g)) (nI (cnt (A.2 q).2 0 (15 * we (A.2 q) g))) (if we (A.2 q) g - g = 20 then -1 else kdV (A.2 q) g) (x6 + 1) := by
  have h8 := hc.n8
  have n40 := ng_le (hc.rows (show q < 8 by omega)).1
  have w1 := we_gt (A.2 q) g
  have w2 := we_20 hg
  have g1 := gw_lt (A.2 q).2 g
  have key := L131_n (K18 := K18) (x6 := x6) (x7 := nI (cd (A.2 q) g)) (x8 := kdV (A.2 q) g) (n := we (A.2 q) g - g) hc hq (show g ≤ 40 by omega) (by omega) (fun j hj => due_n hg hj) FU 0 (by omega) (by unfold FU; omega)
  rw [Nat.add_zero, show g + (we (A.2 q) g - g) = we (A.2 q) g by omega] at key
  have kind : ∀ n, n = we (A.2 q) g - g → fL_isPacked_J81 K18 I (nI q) (nI (A.2 q).1) (nI (15 * g)) (nI (cnt (A.2 q).2 0 (15 * g))) had x6 (nI (cd (A.2 q) g)) (kdV (A.2 q) g) (nI n) = fL_isPacked_J128 K18 I (nI q) (nI (A.2 q).1) (nI (15 * g)) (nI (cnt (A.2 q).2 0 (15 * g))) x6 (nI (cd (A.2 q) g)) (kdV (A.2 q) g) (nI n) := by
    intro n hn
    unfold fL_isPacked_J81
    rw [if_neg (by rw [k1, xI_lt (by omega) (by omega)]; omega), if_neg (by rw [k20, xI_lt (by omega) (by omega)]; omega)]
    by_cases hl : isLit (gw (A.2 q).2 g) = true
    · have e : kdV (A.2 q) g = 2 := by unfold kdV; rw [if_pos hl]
      have e2 : cd (A.2 q) g = gw (A.2 q).2 g := by unfold cd; rw [if_pos hl]
      unfold isLit at hl
      simp at hl
      rw [if_pos e, e2, if_neg (by rw [k0, xI_eq (by omega) (by omega)]; exact hl.1), if_neg (by rw [k32767, xI_eq (by omega) (by omega)]; exact hl.2), if_pos (by rw [e]; decide)]
    · have hl' : isLit (gw (A.2 q).2 g) = false := by simpa using hl
      obtain ⟨o1, o2⟩ := ho hg
      by_cases h0 : gw (A.2 q).2 g = 0
      · have e : kdV (A.2 q) g = 0 := by unfold kdV; rw [if_neg hl, if_pos h0]
        rw [e, if_neg (by decide), if_neg (by decide), if_neg (o1 h0)]
      · have e : kdV (A.2 q) g = 1 := by unfold kdV; rw [if_neg hl, if_neg h0]
        have h1 : gw (A.2 q).2 g = 32767 := by
          unfold isLit at hl'
          simp at hl'
          exact hl' h0
        rw [e, if_neg (by decide), if_neg (by decide), if_neg (o2 h1)]
  have fin : fL_isPacked_J63 K18 I (nI q) (nI (A.2 q).1) (nI (15 * g)) (nI (cnt (A.2 q).2 0 (15 * g))) had x6 (nI (cd (A.2 q) g)) (kdV (A.2 q) g) = fL_isPacked_J81 K18 I (nI q) (nI (A.2 q).1) (nI (15 * g)) (nI (cnt (A.2 q).2 0 (15 * g))) had x6 (nI (cd (A.2 q) g)) (kdV (A.2 q) g) (nI (we (A.2 q) g - g)) := by
    unfold fL_isPacked_J63
    by_cases hl : isLit (gw (A.2 q).2 g) = true
    · have e : kdV (A.2 q) g = 2 := by unfold kdV; rw [if_pos hl]
      rw [if_pos e, we_lit hl, show g + 1 - g = 1 by omega]
      rfl
    · have e : ¬ kdV (A.2 q) g = 2 := by
        unfold kdV
        rw [if_neg hl]
        split <;> decide
      have e2 : cd (A.2 q) g % 16384 = we (A.2 q) g - g := by
        unfold cd
        rw [if_neg hl]
        split <;> omega
      have := cd_lt hg
      rw [if_neg e, show (16384 : Int32) = nI 16384 from rfl, xI_rem (by omega) (by omega), e2]
  rw [fin, kind _ rfl]
  unfold fL_isPacked_J128
  rw [k0]
  exact key
theorem HO_s {r : Row} {g : Nat} (hg : g < ng r) : HO r (we r g) (if we r g - g = 20 then -1 else kdV r g) := by
  intro h
  have w1 := we_gt r g
  have w2 := we_20 hg
  by_cases h20 : we r g - g = 20
  · rw [if_pos h20]
    exact ⟨fun _ => by decide, fun _ => by decide⟩
  · rw [if_neg h20]
    by_cases hl : isLit (gw r.2 g) = true
    · have e : kdV r g = 2 := by unfold kdV; rw [if_pos hl]
      rw [e]
      exact ⟨fun _ => by decide, fun _ => by decide⟩
    · have hl' : isLit (gw r.2 g) = false := by simpa using hl
      have st := we_stop hl' h (by omega)
      by_cases h0 : gw r.2 g = 0
      · have e : kdV r g = 0 := by unfold kdV; rw [if_neg hl, if_pos h0]
        rw [e]
        exact ⟨fun z => absurd (z.trans h0.symm) st, fun _ => by decide⟩
      · have e : kdV r g = 1 := by unfold kdV; rw [if_neg hl, if_neg h0]
        have h1 : gw r.2 g = 32767 := by
          unfold isLit at hl'
          simp at hl'
          exact hl' h0
        rw [e]
        exact ⟨fun _ => by decide, fun z => absurd (z.trans h1.symm) st⟩
theorem L18_n {q : Nat} (hc : CR I A H) (hq : q < A.1) : ∀ (k g i : Nat) (had : Int32) (pre : List Nat), g ≤ ng (A.2 q) → ng (A.2 q) < k + g → HO (A.2 q) g had → WS (A.2 q) 0 = pre ++ WS (A.2 q) g → pre.length = i → fL_isPacked_L18 k I (nI q) (nI (A.2 q).1) (nI (15 * g)) (nI (cnt (A.2 q).2 0 (15 * g))) had (nI i) = some true := by
  have h8 := hc.n8
  have ok := (hc.rows (show q < 8 by omega)).1
  have n40 := ng_le ok
  have hw := WS_len n40
  have l0 := ok.1
  intro k
  induction k with
  | zero => intro g i had pre a1 a2; omega
  | succ k ih =>
    intro g i had pre a1 a2 a3 a4 a5
    have ln : (WS (A.2 q) 0).length = i + (WS (A.2 q) g).length := by rw [a4, List.length_append, a5]
    rw [fL_isPacked_L18, k1, row_n hc hq (by omega)]
    simp only [Option.bind_some]
    rw [show rowV (A.2 q) 1 = nI (WS (A.2 q) 0).length from rfl]
    by_cases hg : g < ng (A.2 q)
    · have wc := WS_cons n40 hg
      have wl : (WS (A.2 q) g).length = (WS (A.2 q) (we (A.2 q) g)).length + 1 := by rw [wc]; rfl
      have at_ : (WS (A.2 q) 0)[i]? = some g := by
        rw [a4, wc, List.getElem?_append_right (by omega), a5, Nat.sub_self]
        rfl
      rw [if_neg (by rw [xI_le (by omega) (by omega)]; omega), word_n hc hq (by omega), at_]
      simp only [Option.bind_some]
      rw [show cdo (A.2 q) (some g) = nI (cd (A.2 q) g) from rfl]
      have w1 := we_gt (A.2 q) g
      have w2 := we_20 hg
      have g1 := gw_lt (A.2 q).2 g
      have j63 := J63_n (K18 := fL_isPacked_L18 k) (x6 := nI i) hc hq hg a3
      have nx := ih (we (A.2 q) g) (i + 1) (if we (A.2 q) g - g = 20 then -1 else kdV (A.2 q) g) (pre ++ [g]) (we_le hg) (by omega) (HO_s hg) (by rw [List.append_assoc, a4, wc]; rfl) (by rw [List.length_append, a5]; rfl)
      rw [k1, nI_add] at j63
      have cl := cd_lt hg
      by_cases hl : isLit (gw (A.2 q).2 g) = true
      · have e : kdV (A.2 q) g = 2 := by unfold kdV; rw [if_pos hl]
        have e2 : cd (A.2 q) g = gw (A.2 q).2 g := by unfold cd; rw [if_pos hl]
        rw [if_neg (by rw [k32768, xI_le (by omega) (by omega)]; omega), ← e]
        exact j63.trans nx
      · by_cases h0 : gw (A.2 q).2 g = 0
        · have e : kdV (A.2 q) g = 0 := by unfold kdV; rw [if_neg hl, if_pos h0]
          have e2 : cd (A.2 q) g = 32768 + (we (A.2 q) g - g) := by unfold cd; rw [if_neg hl, if_pos h0]
          rw [if_pos (by rw [k32768, xI_le (by omega) (by omega)]; omega), if_neg (by rw [k49152, xI_le (by omega) (by omega)]; omega), ← e]
          exact j63.trans nx
        · have e : kdV (A.2 q) g = 1 := by unfold kdV; rw [if_neg hl, if_neg h0]
          have e2 : cd (A.2 q) g = 49152 + (we (A.2 q) g - g) := by unfold cd; rw [if_neg hl, if_neg h0]
          rw [if_pos (by rw [k32768, xI_le (by omega) (by omega)]; omega), if_pos (by rw [k49152, xI_le (by omega) (by omega)]; omega), ← k1, ← e]
          exact j63.trans nx
    · have eg : g = ng (A.2 q) := by omega
      have wn : (WS (A.2 q) g).length = 0 := by rw [WS_nil (by omega)]; rfl
      have ngd : ng (A.2 q) = ((A.2 q).1 + 14) / 15 := rfl
      have ce : cnt (A.2 q).2 0 (15 * g) = cnt (A.2 q).2 0 (A.2 q).1 := by
        rw [show 15 * g = (A.2 q).1 + (15 * g - (A.2 q).1) by omega, cnt_add, Nat.zero_add, cnt_zero (f := (A.2 q).2) (c := 15 * g - (A.2 q).1) (m := (A.2 q).1) (fun k _ => ok.2 _ (by omega))]
        rfl
      have cl := cnt_le (A.2 q).2 (A.2 q).1 0
      rw [if_pos (by rw [xI_le (by omega) (by omega)]; omega), if_neg (by rw [xI_lt (by omega) (by omega)]; omega), if_neg (by rw [k15, nI_add, xI_le (by omega) (by omega)]; omega), k5, row_n hc hq (by omega), ce]
      simp only [Option.bind_some]
      rw [show rowV (A.2 q) 5 = nI (cnt (A.2 q).2 0 (A.2 q).1) from rfl, if_pos rfl, rank_n hc hq (Nat.le_refl _)]
      simp only [Option.bind_some]
      rw [if_pos trivial, word_n hc hq (by omega), List.getElem?_eq_none (Nat.le_refl _)]
      simp only [Option.bind_some]
      rw [if_pos (show cdo (A.2 q) none = -9 from rfl), k2, k3, k4, row_n hc hq (by omega), row_n hc hq (by omega), row_n hc hq (by omega)]
      simp only [Option.bind_some]
      rw [show rowV (A.2 q) 2 = nI ((WS (A.2 q) 0).countP (fun s => isLit (gw (A.2 q).2 s))) from rfl, show rowV (A.2 q) 3 = nI ((WS (A.2 q) 0).countP (fun s => gw (A.2 q).2 s == 0)) from rfl, show rowV (A.2 q) 4 = nI ((WS (A.2 q) 0).countP (fun s => gw (A.2 q).2 s == 32767)) from rfl, nI_add, nI_add, kinds_len (gw (A.2 q).2), if_pos rfl]
theorem packed_n {q : Nat} (hc : CR I A H) (hq : q < A.1) : fL_isPacked I (nI q) = some true := by
  have h8 := hc.n8
  have n40 := ng_le (hc.rows (show q < 8 by omega)).1
  unfold fL_isPacked
  rw [k0, row_n hc hq (by omega)]
  simp only [Option.bind_some]
  rw [show rowV (A.2 q) 0 = nI (A.2 q).1 from rfl]
  exact L18_n hc hq FU 0 0 (-1) [] (Nat.zero_le _) (by unfold FU; omega) (fun _ => ⟨fun _ => by decide, fun _ => by decide⟩) rfl rfl
end
