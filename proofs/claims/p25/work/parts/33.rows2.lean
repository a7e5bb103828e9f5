/-! invert -/
def notR (r : Row) : Row := (r.1, fun i => decide (i < r.1) && !r.2 i)
theorem notR_ok {r : Row} (h : okR r) : okR (notR r) := ⟨h.1, fun i hi => by
  have hi : r.1 ≤ i := hi
  have : ¬ i < r.1 := by omega
  simp [notR, this]⟩
theorem inv_gw {r : Row} (hr : okR r) (g : Nat) : gw r.2 g ^^^ (2 ^ (min 15 (r.1 - 15 * g)) - 1) = gw (notR r).2 g := by
  apply gw_of
  intro k
  rw [Nat.testBit_xor, gw_bit, Nat.testBit_two_pow_sub_one]
  simp only [notR]
  by_cases hk : k < 15
  · by_cases h1 : 15 * g + k < r.1
    · have : k < min 15 (r.1 - 15 * g) := by omega
      simp [hk, h1, this]
    · have h2 : ¬ k < min 15 (r.1 - 15 * g) := by omega
      have h3 := hr.2 (15 * g + k) (by omega)
      simp [hk, h1, h2, h3]
  · have h2 : ¬ k < min 15 (r.1 - 15 * g) := by omega
    simp [hk, h2]
theorem f0_invert_L_n {I : gI} {b : Nat} {r : Row} (h : BR I b r) : ∀ (k g : Nat), g ≤ 40 → 40 < k + g → f0_invert_L2 k (mg I (b + 1) (gw (notR r).2) g) b (nI g) = some (mg I (b + 1) (gw (notR r).2) 40) := by
  intro k
  induction k with
  | zero => intro g h1 h2; omega
  | succ k ih =>
    intro g h1 h2
    have hL := h.1.1
    rw [f0_invert_L2]
    by_cases h40 : g = 40
    · subst h40
      rw [if_pos (by decide)]
    · simp (disch := omega) only [k0, k1, k2, k3, k4, k5, k8, k10, k14, k15, k16, k19, k20, k31, k32, k38, k40, k41, k45, k48, k57, k60, k62, k63, k94, k100, k124, k126, k255, k600, k601, k4808, k4809, k28854, k32767, k32768, k49152, k65535, xI_lt, xI_le, xI_eq, xI_ib, xI_cl, nI_add, xI_mul, decide_eq_true_eq, if_pos, if_neg, Option.bind_some, ]
      rw [mg_at (Nat.le_refl g), mg_row (by omega), h.2.1, h.2.2 g (by omega), f0_maskBefore_n (by omega) (by omega), xI_xor, inv_gw h.1, mg_s]
      exact ih (g + 1) (by omega) (by omega)
theorem mg_BR' {I : gI} {b : Nat} {r : Row} (hr : okR r) (hl : I b 1 = nI r.1) : BR (mg I (b + 1) (gw r.2) 40) b r := by
  refine ⟨hr, by rw [mg_row (by omega)]; exact hl, fun j hj => mg_in hj⟩
theorem mg_FrB' {I : gI} {b : Nat} {φ : Nat → Nat} {g : Nat} : FrB I (mg I (b + 1) φ g) b := fun c h1 h2 => mg_row h2
theorem f0_invert_n {I : gI} {b : Nat} {r : Row} (h : BR I b r) : ∃ I', f0_invert I b = some I' ∧ BR I' b (notR r) ∧ FrB I I' b := by
  have h1 := f0_invert_L_n h FU 0 (by omega) (by decide)
  rw [mg_0] at h1
  exact ⟨_, h1, mg_BR' (r := notR r) (notR_ok h.1) h.2.1, mg_FrB'⟩
/-! operations of two rows -/
def bop (op : Nat) (x y : Bool) : Bool := if op = 0 then x && y else if op = 1 then x || y else if op = 2 then x && !y else x != y
theorem bop_ff (op : Nat) : bop op false false = false := by
  unfold bop
  split
  · rfl
  · split
    · rfl
    · split <;> rfl
def opR (op : Nat) (r s : Row) : Row := (max r.1 s.1, fun i => bop op (r.2 i) (s.2 i))
theorem opR_ok {op : Nat} {r s : Row} (hr : okR r) (hs : okR s) : okR (opR op r s) := by
  refine ⟨?_, fun i hi => ?_⟩
  · have := hr.1; have := hs.1
    simp only [opR]; omega
  · simp only [opR] at hi ⊢
    rw [hr.2 i (by omega), hs.2 i (by omega)]
    exact bop_ff op
def nop (op x y : Nat) : Nat := if op = 0 then x &&& y else if op = 1 then x ||| y else if op = 2 then ann x y else x ^^^ y
theorem f0_combined_n {op x y : Nat} (h : op ≤ 3) : f0_combined (nI op) (nI x) (nI y) = nI (nop op x y) := by
  unfold f0_combined nop
  rcases (show op = 0 ∨ op = 1 ∨ op = 2 ∨ op = 3 by omega) with rfl | rfl | rfl | rfl
  · rw [if_pos (by decide), if_pos rfl, xI_and]
  · rw [if_neg (by decide), if_pos (by decide), if_neg (by decide), if_pos rfl, xI_or]
  · rw [if_neg (by decide), if_neg (by decide), if_pos (by decide), if_neg (by decide), if_neg (by decide), if_pos rfl]
    exact xI_ann x y
  · rw [if_neg (by decide), if_neg (by decide), if_neg (by decide), if_neg (by decide), if_neg (by decide), if_neg (by decide), xI_xor]
theorem nop_bit (op x y k : Nat) : (nop op x y).testBit k = bop op (x.testBit k) (y.testBit k) := by
  unfold nop bop
  split
  · rw [Nat.testBit_and]
  · split
    · rw [Nat.testBit_or]
    · split
      · rw [ann_bit]
      · rw [Nat.testBit_xor]
theorem op_gw (op : Nat) (r s : Row) (g : Nat) : nop op (gw r.2 g) (gw s.2 g) = gw (opR op r s).2 g := by
  apply gw_of
  intro k
  rw [nop_bit, gw_bit, gw_bit]
  simp only [opR]
  by_cases hk : k < 15
  · simp [hk]
  · simp [hk, bop_ff]
theorem f0_groupAt_mg {I : gI} {b c g : Nat} {φ : Nat → Nat} : f0_groupAt (mg I (b + 1) φ g) c (nI g) = f0_groupAt I c (nI g) ∨ 2 ^ 31 ≤ g := by
  by_cases h : g < 2 ^ 31
  · left
    unfold f0_groupAt
    rw [xI_cl h, mg_at (Nat.le_refl g)]
  · right; omega
theorem f0_combine_L_n {I : gI} {b b2 b3 op : Nat} {r s : Row} (h2 : BR I b2 r) (h3 : BR I b3 s) (hop : op ≤ 3) (e2 : b2 ≠ b + 1) (e3 : b3 ≠ b + 1) : ∀ (k g : Nat), g ≤ 40 → 40 < k + g → f0_combine_L3 k (mg I (b + 1) (gw (opR op r s).2) g) b (nI op) b2 b3 (nI g) = some (uI (mg I (b + 1) (gw (opR op r s).2) 40) b 1 (nI (max r.1 s.1))) := by
  intro k
  induction k with
  | zero => intro g h1 h2; omega
  | succ k ih =>
    intro g hg1 hg2
    have hL := h2.1.1
    have hL3 := h3.1.1
    rw [f0_combine_L3]
    by_cases h40 : g = 40
    · subst h40
      rw [if_pos (by decide), mg_row e2, mg_row e3, h2.2.1, h3.2.1]
      by_cases hlt : r.1 < s.1
      · have c1 : nI r.1 < nI s.1 := by rw [xI_lt (by omega) (by omega)]; exact hlt
        rw [if_pos c1]
        have e : max r.1 s.1 = s.1 := by omega
        rw [e]
      · have c1 : ¬ nI r.1 < nI s.1 := by rw [xI_lt (by omega) (by omega)]; exact hlt
        rw [if_neg c1]
        have e : max r.1 s.1 = r.1 := by omega
        rw [e]
    · rcases f0_groupAt_mg (I := I) (b := b) (c := b2) (g := g) (φ := gw (opR op r s).2) with q2 | q2
      · rcases f0_groupAt_mg (I := I) (b := b) (c := b3) (g := g) (φ := gw (opR op r s).2) with q3 | q3
        · rw [q2, q3, f0_groupAt_n h2 (by omega), f0_groupAt_n h3 (by omega)]
          simp (disch := omega) only [k0, k1, k2, k3, k4, k5, k8, k10, k14, k15, k16, k19, k20, k31, k32, k38, k40, k41, k45, k48, k57, k60, k62, k63, k94, k100, k124, k126, k255, k600, k601, k4808, k4809, k28854, k32767, k32768, k49152, k65535, xI_lt, xI_le, xI_eq, xI_ib, xI_cl, nI_add, xI_mul, decide_eq_true_eq, if_pos, if_neg, Option.bind_some, ]
          rw [f0_combined_n hop, op_gw, mg_s]
          exact ih (g + 1) (by omega) (by omega)
        · omega
      · omega
theorem f0_combine_n {I : gI} {b b2 b3 op : Nat} {r s : Row} (h2 : BR I b2 r) (h3 : BR I b3 s) (hop : op ≤ 3) (e2 : b2 ≠ b + 1) (e3 : b3 ≠ b + 1) : ∃ I', f0_combine I b (nI op) b2 b3 = some I' ∧ BR I' b (opR op r s) ∧ FrB I I' b := by
  have h1 := f0_combine_L_n h2 h3 hop e2 e3 FU 0 (by omega) (by decide)
  rw [mg_0] at h1
  exact ⟨_, h1, mg_BR (r := opR op r s) (opR_ok h2.1 h3.1), mg_FrB⟩
/-! copyFrom -/
theorem uC_row {I : gI} {a c : Nat} {f : Nat → Int32} (h : c ≠ a) : uC I a f c = I c := by simp [uC, h]
theorem uC_self {I : gI} {a : Nat} {f : Nat → Int32} : uC I a f a = f := by simp [uC]
theorem f0_copyFrom_n {I : gI} {b b0 : Nat} {r : Row} (h : BR I b0 r) (e0 : b0 ≠ b + 1) : ∃ I', f0_copyFrom I b b0 = some I' ∧ BR I' b r ∧ FrB I I' b := by
  unfold f0_copyFrom
  refine ⟨_, rfl, ⟨h.1, ?_, fun j hj => ?_⟩, fun c h1 h2 => ?_⟩
  · rw [uI_self, uC_row e0]; exact h.2.1
  · rw [uI_row (by omega), uC_self]
    unfold va_cpy
    rw [if_pos (by omega)]
    have e : 0 + (j - 0) = j := by omega
    rw [e]
    exact h.2.2 j hj
  · rw [uI_row h1, uC_row h2]
/-! moveFrom -/
def zof (f : Nat → Bool) (z : Int) : Bool := decide (0 ≤ z) && f z.toNat
/-- shifted by so much, and the length then -/
def shL (r : Row) (by_ : Int) : Nat := (max 0 (min 600 ((r.1 : Int) + by_))).toNat
def shR (r : Row) (by_ : Int) : Row := (shL r by_, fun i => decide (i < shL r by_) && zof r.2 ((i : Int) - by_))
theorem shR_ok (r : Row) (by_ : Int) : okR (shR r by_) := ⟨by simp only [shR, shL]; omega, fun i hi => by
  have hi : shL r by_ ≤ i := hi
  have : ¬ i < shL r by_ := by omega
  simp [shR, this]⟩
theorem shR_bit {r : Row} (hr : okR r) {by_ : Int} {i : Nat} (hi : i < 600) : (shR r by_).2 i = zof r.2 ((i : Int) - by_) := by
  simp only [shR]
  by_cases h : i < shL r by_
  · simp [h]
  · have : zof r.2 ((i : Int) - by_) = false := by
      unfold zof
      by_cases h0 : 0 ≤ (i : Int) - by_
      · have := hr.2 ((i : Int) - by_).toNat (by unfold shL at h; omega)
        simp [this]
      · rw [decide_eq_false h0]
        rfl
    simp [h, this]
def gwz (f : Nat → Bool) (z : Int) : Nat := if 0 ≤ z then gw f z.toNat else 0
theorem gwz_bit (f : Nat → Bool) (z : Int) (k : Nat) : (gwz f z).testBit k = (decide (k < 15) && zof f (15 * z + k)) := by
  unfold gwz zof
  by_cases h : 0 ≤ z
  · have h1 : 0 ≤ 15 * z + (k : Int) := by omega
    have h2 : (15 * z + (k : Int)).toNat = 15 * z.toNat + k := by omega
    rw [if_pos h, gw_bit, h2]
    simp [h1]
  · rw [if_neg h, Nat.zero_testBit]
    by_cases hk : k < 15
    · have h1 : ¬ 0 ≤ 15 * z + (k : Int) := by omega
      simp [h1]
    · simp [hk]
theorem xI_ofInt {x : Int32} {z : Int} (h : x.toInt = z) (h0 : 0 ≤ z) : x = nI z.toNat := by
  apply Int32.toInt_inj.mp
  have := x.toInt_lt
  rw [nI_toInt (by omega), h]
  omega
theorem f0_groupAt_z {I : gI} {b : Nat} {r : Row} (h : BR I b r) (x : Int32) : f0_groupAt I b x = some (nI (gwz r.2 x.toInt)) := by
  by_cases h0 : 0 ≤ x.toInt
  · have h1 := xI_ofInt rfl h0
    have h2 := x.toInt_lt
    have e : gwz r.2 x.toInt = gw r.2 x.toInt.toNat := by unfold gwz; rw [if_pos h0]
    rw [e, ← f0_groupAt_n h (by omega), ← h1]
  · have e : gwz r.2 x.toInt = 0 := by unfold gwz; rw [if_neg h0]
    have c1 : x < 0 := by rw [Int32.lt_iff_toInt_lt, Int32.toInt_zero]; omega
    unfold f0_groupAt
    rw [e, if_pos c1]
    rfl
def fdk (n : Nat) : Bool := fJ9_floorDiv (Int32.ofInt ((n : Int) - 600)) 15 == some (Int32.ofInt (((n : Int) - 600) / 15)) && fJ9_floorMod (Int32.ofInt ((n : Int) - 600)) 15 == some (nI (((n : Int) - 600) % 15).toNat) && (Int32.ofInt (((n : Int) - 600) / 15)).toInt == ((n : Int) - 600) / 15
theorem fdk_all : ((List.range 1201).all fdk) = true := by decide +kernel
theorem floor_n {x : Int32} (h1 : -600 ≤ x.toInt) (h2 : x.toInt ≤ 600) : ∃ q : Int32, fJ9_floorDiv x 15 = some q ∧ q.toInt = x.toInt / 15 ∧ fJ9_floorMod x 15 = some (nI (x.toInt % 15).toNat) := by
  have h := List.all_eq_true.mp fdk_all (x.toInt + 600).toNat (List.mem_range.mpr (by omega))
  have e : (((x.toInt + 600).toNat : Nat) : Int) - 600 = x.toInt := by omega
  unfold fdk at h
  rw [e] at h
  have ex : Int32.ofInt x.toInt = x := Int32.ofInt_toInt x
  rw [ex] at h
  simp only [Bool.and_eq_true] at h
  obtain ⟨⟨a1, a2⟩, a3⟩ := h
  exact ⟨_, eq_of_beq a1, eq_of_beq a3, eq_of_beq a2⟩
theorem mv_gw {r : Row} (hr : okR r) {by_ : Int} {j : Nat} (hj : j < 40) : ((gwz r.2 ((j : Int) - by_ / 15) <<< (by_ % 15).toNat ||| gwz r.2 ((j : Int) - by_ / 15 - 1) >>> (15 - (by_ % 15).toNat)) &&& 32767) = gw (shR r by_).2 j := by
  apply gw_of
  intro k
  have h32 : (32767 : Nat) = 2 ^ 15 - 1 := by decide
  rw [h32, Nat.testBit_and, Nat.testBit_two_pow_sub_one, Nat.testBit_or, Nat.testBit_shiftLeft, Nat.testBit_shiftRight, gwz_bit, gwz_bit]
  by_cases hk : k < 15
  · rw [shR_bit hr (by omega)]
    have hm : (by_ % 15).toNat < 15 := by omega
    have hd : (((by_ % 15).toNat : Nat) : Int) = by_ % 15 := by omega
    have hq : 15 * (by_ / 15) + by_ % 15 = by_ := by omega
    by_cases h1 : (by_ % 15).toNat ≤ k
    · have e1 : 15 * ((j : Int) - by_ / 15) + ((k - (by_ % 15).toNat : Nat) : Int) = ((15 * j + k : Nat) : Int) - by_ := by omega
      have h2 : k - (by_ % 15).toNat < 15 := by omega
      have h3 : ¬ 15 - (by_ % 15).toNat + k < 15 := by omega
      simp [hk, h1, h2, h3, e1]
    · have e1 : 15 * ((j : Int) - by_ / 15 - 1) + ((15 - (by_ % 15).toNat + k : Nat) : Int) = ((15 * j + k : Nat) : Int) - by_ := by omega
      have h3 : 15 - (by_ % 15).toNat + k < 15 := by omega
      simp only [hk, h1, h3, e1, decide_true, decide_false, Bool.false_and, Bool.true_and, Bool.false_or, ge_iff_le, Bool.and_true]
  · simp [hk]
theorem shL_n {r : Row} (hr : okR r) {x : Int32} (h1 : -600 ≤ x.toInt) (h2 : x.toInt ≤ 600) : (if 0 < (if (nI r.1 + x) < 600 then (nI r.1 + x) else 600) then (if (nI r.1 + x) < 600 then (nI r.1 + x) else 600) else 0) = nI (shL r x.toInt) := by
  have hL := hr.1
  have e : (nI r.1 + x).toInt = (r.1 : Int) + x.toInt := by
    rw [Int32.toInt_add, nI_toInt (by omega)]
    unfold Int.bmod
    dsimp only
    omega
  have e6 : (600 : Int32).toInt = 600 := by decide
  apply Int32.toInt_inj.mp
  rw [nI_toInt (by unfold shL; omega)]
  by_cases h3 : (nI r.1 + x) < 600
  · rw [if_pos h3]
    rw [Int32.lt_iff_toInt_lt, e, e6] at h3
    by_cases h4 : 0 < nI r.1 + x
    · rw [if_pos h4, e]
      rw [Int32.lt_iff_toInt_lt, e, Int32.toInt_zero] at h4
      unfold shL; omega
    · rw [if_neg h4, Int32.toInt_zero]
      rw [Int32.lt_iff_toInt_lt, e, Int32.toInt_zero] at h4
      unfold shL; omega
  · rw [if_neg h3, if_pos (by decide), e6]
    rw [Int32.lt_iff_toInt_lt, e, e6] at h3
    unfold shL; omega
theorem f0_moveFrom_L_n {I : gI} {b b0 : Nat} {r : Row} {x q : Int32} (h : BR I b0 r) (h1 : -600 ≤ x.toInt) (h2 : x.toInt ≤ 600) (hq : q.toInt = x.toInt / 15) (e0 : b0 ≠ b + 1) (e1 : b0 ≠ b) : ∀ (k g : Nat), g ≤ 40 → 40 < k + g → f0_moveFrom_L18 k (mg I (b + 1) (gw (shR r x.toInt).2) g) b b0 x q (nI (x.toInt % 15).toNat) (nI g) = some (uI (mg I (b + 1) (gw (shR r x.toInt).2) 40) b 1 (nI (shR r x.toInt).1)) := by
  intro k
  induction k with
  | zero => intro g h1 h2; omega
  | succ k ih =>
    intro g hg1 hg2
    have hL := h.1.1
    have hm : BR (mg I (b + 1) (gw (shR r x.toInt).2) g) b0 r ∨ b0 = b := by
      by_cases hb : b0 = b
      · exact Or.inr hb
      · left
        have e2 : b0 + 1 ≠ b + 1 := by omega
        exact ⟨h.1, by rw [mg_row e0]; exact h.2.1, fun j hj => by rw [mg_row e2]; exact h.2.2 j hj⟩
    rcases hm with hm | hm
    · rw [f0_moveFrom_L18]
      by_cases h40 : g = 40
      · subst h40
        have e3 : shL r x.toInt = (shR r x.toInt).1 := by simp only [shR]
        rw [if_pos (by decide), mg_row e0, h.2.1, shL_n h.1 h1 h2, e3]
      · rw [f0_groupAt_z hm, f0_groupAt_z hm]
        have hn : (x.toInt % 15).toNat < 15 := by omega
        have t1 : (nI g - q).toInt = (g : Int) - x.toInt / 15 := by
          rw [Int32.toInt_sub, nI_toInt (by omega), hq]
          unfold Int.bmod
          dsimp only
          omega
        have t2 : (nI g - q - 1).toInt = (g : Int) - x.toInt / 15 - 1 := by
          rw [Int32.toInt_sub, t1]
          have : (1 : Int32).toInt = 1 := by decide
          rw [this]
          unfold Int.bmod
          dsimp only
          omega
        rw [t1, t2]
        have b2 : gwz r.2 ((g : Int) - x.toInt / 15 - 1) < 2 ^ 31 := by
          unfold gwz
          split
          · have := gw_lt r.2 ((g : Int) - x.toInt / 15 - 1).toNat; omega
          · omega
        rw [k40, if_neg (by rw [xI_le (by omega) (by omega)]; omega)]
        simp only [Option.bind_some]
        rw [xI_ib (by omega), if_pos (by simp; omega), xI_cl (by omega), k15, xI_sub (by omega), xI_shl _ (by omega), xI_shr b2 (by omega), xI_or, k32767, xI_and, mv_gw h.1 (by omega), mg_s, k1, nI_add]
        exact ih (g + 1) (by omega) (by omega)
    · exact absurd hm e1
theorem f0_moveFrom_n {I : gI} {b b0 : Nat} {r : Row} {x : Int32} (h : BR I b0 r) (h1 : -600 ≤ x.toInt) (h2 : x.toInt ≤ 600) (e0 : b0 ≠ b + 1) (e1 : b0 ≠ b) : ∃ I', f0_moveFrom I b b0 x = some I' ∧ BR I' b (shR r x.toInt) ∧ FrB I I' b := by
  obtain ⟨q, a1, a2, a3⟩ := floor_n h1 h2
  unfold f0_moveFrom
  rw [a1, a3]
  have h3 := f0_moveFrom_L_n h h1 h2 a2 e0 e1 FU 0 (by omega) (by decide)
  rw [mg_0] at h3
  have hok := shR_ok r x.toInt
  generalize shR r x.toInt = rr at h3 hok ⊢
  generalize nI (x.toInt % 15).toNat = w at h3 a3 ⊢
  refine ⟨uI (mg I (b + 1) (gw rr.2) 40) b 1 (nI rr.1), ?_, mg_BR hok, mg_FrB⟩
  rw [Option.bind_some, Option.bind_some, L0]
  exact h3
/-! single bits -/
theorem f0_valueAt_n {I : gI} {b p : Nat} {r : Row} (h : BR I b r) (hp : p < 2 ^ 20) : f0_valueAt I b (nI p) = some (nI (r.2 p).toNat) := by
  unfold f0_valueAt
  rw [k15, xI_div (by omega) (by omega), f0_groupAt_n h (by omega)]
  simp only [Option.bind_some]
  have hr : nI p - nI (p / 15) * nI 15 = nI (p % 15) := by
    rw [← xI_div (by omega) (by omega)]
    exact xI_rem (by omega) (by omega)
  have hl := gw_lt r.2 (p / 15)
  rw [hr, xI_shr (by omega) (by omega), k1, xI_and]
  refine congrArg (fun z => some (nI z)) ?_
  apply Nat.eq_of_testBit_eq
  intro k
  rw [Nat.testBit_and, Nat.testBit_shiftRight, gw_bit]
  have h1 : (1 : Nat) = 2 ^ 1 - 1 := by decide
  rw [h1, Nat.testBit_two_pow_sub_one]
  cases k with
  | zero =>
    have e : 15 * (p / 15) + (p % 15 + 0) = p := by omega
    have e2 : p % 15 + 0 < 15 := by omega
    rw [e]
    cases r.2 p <;> simp [e2]
    omega
  | succ k =>
    cases r.2 p <;> simp [Nat.testBit_succ]
def setf (f : Nat → Bool) (p : Nat) (v : Bool) : Nat → Bool := fun i => if i = p then v else f i
theorem setf_gw_ne {f : Nat → Bool} {p g : Nat} {v : Bool} (h : g ≠ p / 15) : gw (setf f p v) g = gw f g := by
  apply pkH_congr
  intro k hk
  have : ¬ 15 * g + k = p := by omega
  simp [setf, this]
theorem setf_gw1 (f : Nat → Bool) (p : Nat) : gw f (p / 15) ||| (1 <<< (p % 15)) = gw (setf f p true) (p / 15) := by
  apply gw_of
  intro k
  rw [Nat.testBit_or, gw_bit, Nat.shiftLeft_eq, Nat.one_mul, Nat.testBit_two_pow]
  unfold setf
  by_cases hk : k < 15
  · by_cases h : 15 * (p / 15) + k = p
    · have : p % 15 = k := by omega
      simp [h, this, hk]
    · have : ¬ p % 15 = k := by omega
      simp [h, this, hk]
  · have : ¬ p % 15 = k := by omega
    simp [hk, this]
theorem setf_gw0 (f : Nat → Bool) (p : Nat) : ann (gw f (p / 15)) (1 <<< (p % 15)) = gw (setf f p false) (p / 15) := by
  apply gw_of
  intro k
  rw [ann_bit, gw_bit, Nat.shiftLeft_eq, Nat.one_mul, Nat.testBit_two_pow]
  unfold setf
  by_cases hk : k < 15
  · by_cases h : 15 * (p / 15) + k = p
    · have : p % 15 = k := by omega
      simp [h, this, hk]
    · have : ¬ p % 15 = k := by omega
      simp [h, this, hk]
  · simp [hk]
theorem f0_putAt_n {I : gI} {b p : Nat} {v : Bool} {f : Nat → Bool} (h : GR I b f) (hp : p < 600) : ∃ I', f0_putAt I b (nI p) (nI v.toNat) = some I' ∧ GR I' b (setf f p v) ∧ I' b = I b ∧ FrB I I' b := by
  unfold f0_putAt
  have hr : nI p - nI (p / 15) * nI 15 = nI (p % 15) := by
    rw [← xI_div (by omega) (by omega)]
    exact xI_rem (by omega) (by omega)
  have hg : p / 15 < 40 := by omega
  rw [k15, xI_div (by omega) (by omega), hr, xI_ib (by omega), xI_cl (by omega), h _ hg]
  rw [if_neg (by rw [L0, xI_lt (by omega) (by omega)]; omega), if_pos (by rw [k40, xI_lt (by omega) (by omega)]; omega)]
  have key : ∀ x : Nat, x = gw (setf f p v) (p / 15) → GR (uI I (b + 1) (p / 15) (nI x)) b (setf f p v) ∧ (uI I (b + 1) (p / 15) (nI x)) b = I b ∧ FrB I (uI I (b + 1) (p / 15) (nI x)) b := by
    intro x hx
    refine ⟨fun j hj => ?_, uI_row (by omega), fun c h1 h2 => uI_row h2⟩
    rw [uI_ap]
    by_cases hj2 : j = p / 15
    · subst hj2; rw [if_pos ⟨rfl, rfl⟩, hx]
    · rw [if_neg (by omega), setf_gw_ne hj2]
      exact h j hj
  cases v with
  | true =>
    rw [if_pos (by decide), if_pos (by simpa using hg), if_pos (by simpa using hg), k1, xI_shl _ (by omega), xI_or]
    exact ⟨_, rfl, key _ (setf_gw1 f p)⟩
  | false =>
    rw [if_neg (by decide), if_pos (by simpa using hg), if_pos (by simpa using hg), k1, xI_shl _ (by omega), xI_ann]
    exact ⟨_, rfl, key _ (setf_gw0 f p)⟩
/-! addNumber -/
theorem low_bit (x k : Nat) : (x >>> k) &&& 1 = (x.testBit k).toNat := by
  rw [Nat.testBit_eq_decide_div_mod_eq, Nat.and_one_is_mod, Nat.shiftRight_eq_div_pow]
  by_cases h : x / 2 ^ k % 2 = 1
  · simp [h]
  · have : x / 2 ^ k % 2 = 0 := by omega
    simp [this]
theorem addf_s (f : Nat → Bool) (l m : Nat) (v : Nat → Bool) : setf (addf f l m v) (l + m) (v m) = addf f l (m + 1) v := by
  funext i
  unfold setf addf
  by_cases h : i = l + m
  · subst h
    rw [if_pos rfl, if_pos (by omega)]
    congr 1
    omega
  · rw [if_neg h]
    by_cases h2 : l ≤ i ∧ i < l + m
    · rw [if_pos h2, if_pos (by omega)]
    · rw [if_neg h2, if_neg (by omega)]
theorem f0_addNumber_L_n {b l n x : Nat} {f : Nat → Bool} (hx : x < 65536) (hn : n ≤ 16) (hl : l + n ≤ 600) : ∀ (k m : Nat) (I : gI), m ≤ n → n < k + m → GR I b (addf f l m (fun i => x.testBit i)) → I b 1 = nI l → ∃ I', f0_addNumber_L2 k I b (nI x) (nI n) (nI m) = some I' ∧ GR I' b (addf f l n (fun i => x.testBit i)) ∧ I' b 1 = nI (l + n) ∧ FrB I I' b := by
  intro k
  induction k with
  | zero => intro m I h1 h2; omega
  | succ k ih =>
    intro m I h1 h2 hG hb
    rw [f0_addNumber_L2]
    by_cases hm : m = n
    · subst hm
      rw [if_pos (by rw [xI_le (by omega) (by omega)]; omega), hb, nI_add]
      exact ⟨_, rfl, fun j hj => by rw [uI_row (by omega)]; exact hG j hj, uI_self _ _ _ _, fun c q1 q2 => uI_row q1⟩
    · rw [if_neg (by rw [xI_le (by omega) (by omega)]; omega), hb, nI_add, xI_shr (by omega) (by omega), k1, xI_and, low_bit]
      obtain ⟨I1, a1, a2, a3, a4⟩ := f0_putAt_n (v := x.testBit m) hG (show l + m < 600 by omega)
      rw [a1]
      simp only [Option.bind_some]
      rw [nI_add]
      rw [addf_s f l m (fun i => x.testBit i)] at a2
      obtain ⟨I2, c1, c2, c3, c4⟩ := ih (m + 1) I1 (by omega) (by omega) a2 (by rw [a3]; exact hb)
      exact ⟨I2, c1, c2, c3, a4.trans c4⟩
theorem addf_0 (f : Nat → Bool) (l : Nat) (v : Nat → Bool) : addf f l 0 v = f := by
  funext i
  unfold addf
  rw [if_neg (by omega)]
theorem f0_addNumber_n {I : gI} {b x n : Nat} {r : Row} (h : BR I b r) (hx : x < 65536) (hn : n ≤ 16) (hl : r.1 + n ≤ 600) : ∃ I', f0_addNumber I b (nI x) (nI n) = some I' ∧ BR I' b (addR r n (fun i => x.testBit i)) ∧ FrB I I' b := by
  obtain ⟨I', a1, a2, a3, a4⟩ := f0_addNumber_L_n (b := b) (f := r.2) hx hn hl FU 0 I (by omega) (by unfold FU; omega) (by rw [addf_0]; exact h.2.2) h.2.1
  exact ⟨I', a1, ⟨addR_ok h.1 hl, a3, a2⟩, a4⟩
/-! set a bit -/
def setR (r : Row) (p : Nat) (v : Bool) : Row := (r.1, setf r.2 p v)
theorem setR_ok {r : Row} {p : Nat} {v : Bool} (h : okR r) (hp : p < r.1) : okR (setR r p v) := ⟨h.1, fun i hi => by
  have hi : r.1 ≤ i := hi
  have : ¬ i = p := by omega
  simp only [setR, setf, if_neg this]
  exact h.2 i hi⟩
theorem f0_putAt_r {I : gI} {b p : Nat} {v : Bool} {r : Row} (h : BR I b r) (hp : p < r.1) : ∃ I', f0_putAt I b (nI p) (nI v.toNat) = some I' ∧ BR I' b (setR r p v) ∧ FrB I I' b := by
  have := h.1.1
  obtain ⟨I', a1, a2, a3, a4⟩ := f0_putAt_n (v := v) h.2.2 (show p < 600 by omega)
  exact ⟨I', a1, ⟨setR_ok h.1 hp, by rw [a3]; exact h.2.1, a2⟩, a4⟩
