/-! ROWS OF BITS in the class's memory -/
theorem k0 : (0 : Int32) = nI 0 := rfl
theorem k1 : (1 : Int32) = nI 1 := rfl
theorem k2 : (2 : Int32) = nI 2 := rfl
theorem k3 : (3 : Int32) = nI 3 := rfl
theorem k4 : (4 : Int32) = nI 4 := rfl
theorem k5 : (5 : Int32) = nI 5 := rfl
theorem k8 : (8 : Int32) = nI 8 := rfl
theorem k10 : (10 : Int32) = nI 10 := rfl
theorem k14 : (14 : Int32) = nI 14 := rfl
theorem k15 : (15 : Int32) = nI 15 := rfl
theorem k16 : (16 : Int32) = nI 16 := rfl
theorem k19 : (19 : Int32) = nI 19 := rfl
theorem k20 : (20 : Int32) = nI 20 := rfl
theorem k31 : (31 : Int32) = nI 31 := rfl
theorem k32 : (32 : Int32) = nI 32 := rfl
theorem k38 : (38 : Int32) = nI 38 := rfl
theorem k40 : (40 : Int32) = nI 40 := rfl
theorem k41 : (41 : Int32) = nI 41 := rfl
theorem k45 : (45 : Int32) = nI 45 := rfl
theorem k48 : (48 : Int32) = nI 48 := rfl
theorem k57 : (57 : Int32) = nI 57 := rfl
theorem k60 : (60 : Int32) = nI 60 := rfl
theorem k62 : (62 : Int32) = nI 62 := rfl
theorem k63 : (63 : Int32) = nI 63 := rfl
theorem k94 : (94 : Int32) = nI 94 := rfl
theorem k100 : (100 : Int32) = nI 100 := rfl
theorem k124 : (124 : Int32) = nI 124 := rfl
theorem k126 : (126 : Int32) = nI 126 := rfl
theorem k255 : (255 : Int32) = nI 255 := rfl
theorem k600 : (600 : Int32) = nI 600 := rfl
theorem k601 : (601 : Int32) = nI 601 := rfl
theorem k4808 : (4808 : Int32) = nI 4808 := rfl
theorem k4809 : (4809 : Int32) = nI 4809 := rfl
theorem k28854 : (28854 : Int32) = nI 28854 := rfl
theorem k32767 : (32767 : Int32) = nI 32767 := rfl
theorem k32768 : (32768 : Int32) = nI 32768 := rfl
theorem k49152 : (49152 : Int32) = nI 49152 := rfl
theorem k65535 : (65535 : Int32) = nI 65535 := rfl
abbrev Row : Type := Nat × (Nat → Bool)
/-- at most 600 bits, none behind the length -/
def okR (r : Row) : Prop := r.1 ≤ 600 ∧ ∀ i, r.1 ≤ i → r.2 i = false
def GR (I : gI) (b : Nat) (f : Nat → Bool) : Prop := ∀ j, j < 40 → I (b + 1) j = nI (gw f j)
def BR (I : gI) (b : Nat) (r : Row) : Prop := okR r ∧ I b 1 = nI r.1 ∧ GR I b r.2
/-- nothing but this row has changed -/
def FrB (I I' : gI) (b : Nat) : Prop := ∀ c, c ≠ b → c ≠ b + 1 → I' c = I c
theorem FrB.trans {I1 I2 I3 : gI} {b : Nat} (h1 : FrB I1 I2 b) (h2 : FrB I2 I3 b) : FrB I1 I3 b := fun c a1 a2 => (h2 c a1 a2).trans (h1 c a1 a2)
theorem FrB.rfl' {I : gI} {b : Nat} : FrB I I b := fun _ _ _ => rfl
theorem uI_ap (I : gI) (a k : Nat) (x : Int32) (c j : Nat) : uI I a k x c j = if c = a ∧ j = k then x else I c j := by
  unfold uI upd
  by_cases h : c = a
  · by_cases h2 : j = k <;> simp [h, h2]
  · simp [h]
theorem uI_self (I : gI) (a k : Nat) (x : Int32) : uI I a k x a k = x := by simp [uI_ap]
theorem uI_row {I : gI} {a k c : Nat} {x : Int32} (h : c ≠ a) : uI I a k x c = I c := by simp [uI, h]
/-- the first g numbers of a cell have been written -/
def mg (I : gI) (a : Nat) (φ : Nat → Nat) (g : Nat) : gI := fun c j => if c = a ∧ j < g then nI (φ j) else I c j
theorem mg_0 (I : gI) (a : Nat) (φ : Nat → Nat) : mg I a φ 0 = I := by
  funext c j
  simp [mg]
theorem mg_s (I : gI) (a : Nat) (φ : Nat → Nat) (g : Nat) : uI (mg I a φ g) a g (nI (φ g)) = mg I a φ (g + 1) := by
  funext c j
  rw [uI_ap]
  unfold mg
  by_cases h : c = a
  · by_cases h2 : j = g
    · simp [h, h2]
    · by_cases h3 : j < g
      · simp [h, h2, h3]; omega
      · have : ¬ j < g + 1 := by omega
        simp [h, h2, h3, this]
  · simp [h]
theorem mg_at {I : gI} {a : Nat} {φ : Nat → Nat} {g c j : Nat} (h : g ≤ j) : mg I a φ g c j = I c j := by
  have : ¬ j < g := by omega
  simp [mg, this]
theorem mg_in {I : gI} {a : Nat} {φ : Nat → Nat} {g j : Nat} (h : j < g) : mg I a φ g a j = nI (φ j) := by simp [mg, h]
theorem mg_row {I : gI} {a : Nat} {φ : Nat → Nat} {g c : Nat} (h : c ≠ a) : mg I a φ g c = I c := by
  funext j
  simp [mg, h]
theorem mg_FrB {I : gI} {b : Nat} {φ : Nat → Nat} {g : Nat} {x : Int32} : FrB I (uI (mg I (b + 1) φ g) b 1 x) b := fun c h1 h2 => by
  rw [uI_row h1, mg_row h2]
theorem mg_BR {I : gI} {b : Nat} {r : Row} (hr : okR r) : BR (uI (mg I (b + 1) (gw r.2) 40) b 1 (nI r.1)) b r := by
  refine ⟨hr, uI_self _ _ _ _, fun j hj => ?_⟩
  rw [uI_row (by omega), mg_in hj]
theorem gw_zero {f : Nat → Bool} {g : Nat} (h : ∀ k, k < 15 → f (15 * g + k) = false) : gw f g = 0 := by
  apply Nat.eq_of_testBit_eq
  intro k
  rw [gw_bit, Nat.zero_testBit]
  by_cases hk : k < 15
  · simp [h k hk]
  · simp [hk]
theorem f0_groupAt_n {I : gI} {b g : Nat} {r : Row} (h : BR I b r) (hg : g < 2 ^ 31) : f0_groupAt I b (nI g) = some (nI (gw r.2 g)) := by
  unfold f0_groupAt
  by_cases h40 : g < 40
  · simp (disch := omega) only [k0, k1, k2, k3, k4, k5, k8, k10, k14, k15, k16, k19, k20, k31, k32, k38, k40, k41, k45, k48, k57, k60, k62, k63, k94, k100, k124, k126, k255, k600, k601, k4808, k4809, k28854, k32767, k32768, k49152, k65535, xI_lt, xI_le, xI_eq, xI_ib, xI_cl, nI_add, xI_mul, decide_eq_true_eq, if_pos, if_neg, Option.bind_some, ]
    rw [h.2.2 g h40]
  · have e : gw r.2 g = 0 := gw_zero fun k hk => h.1.2 _ (by have := h.1.1; omega)
    simp (disch := omega) only [k0, k1, k2, k3, k4, k5, k8, k10, k14, k15, k16, k19, k20, k31, k32, k38, k40, k41, k45, k48, k57, k60, k62, k63, k94, k100, k124, k126, k255, k600, k601, k4808, k4809, k28854, k32767, k32768, k49152, k65535, xI_lt, xI_le, xI_eq, xI_ib, xI_cl, nI_add, xI_mul, decide_eq_true_eq, if_pos, if_neg, Option.bind_some, e]
/-- how many groups -/
def ng (r : Row) : Nat := (r.1 + 14) / 15
theorem f0_groupCount_n {I : gI} {b : Nat} {r : Row} (h : BR I b r) : f0_groupCount I b = nI (ng r) := by
  unfold f0_groupCount ng
  have h1 := h.1.1
  have e : r.1 + 15 - 1 = r.1 + 14 := by omega
  rw [h.2.1, k15, nI_add, k1, xI_sub (by omega), xI_div (by omega) (by omega), e]
theorem mask_c : ∀ c, c < 16 → (1 : Int32) <<< (nI c &&& 31) - 1 = nI (2 ^ c - 1) := by decide +kernel
/-- the number of a difference -/
theorem xI_toInt_sub {a b : Nat} (ha : a < 2 ^ 30) (hb : b < 2 ^ 30) : (nI a - nI b).toInt = (a : Int) - (b : Int) := by
  rw [Int32.toInt_sub, nI_toInt (by omega), nI_toInt (by omega)]
  unfold Int.bmod
  dsimp only
  omega
theorem f0_maskBefore_n {p g : Nat} (hp : p < 2 ^ 20) (hg : g < 2 ^ 10) : f0_maskBefore (nI p) (nI g) = nI (2 ^ (min 15 (p - 15 * g)) - 1) := by
  unfold f0_maskBefore
  rw [k15, xI_mul]
  have e15 : (nI 15).toInt = 15 := by decide
  by_cases h : g * 15 ≤ p
  · rw [xI_sub h]
    have z0 : ¬ (0 : Int32) < nI 0 := by decide
    have z15 : (0 : Int32) < nI 15 := by decide
    by_cases h2 : p - g * 15 < 15
    · have c1 : nI (p - g * 15) < nI 15 := by rw [xI_lt (by omega) (by omega)]; exact h2
      rw [if_pos c1]
      have e : min 15 (p - 15 * g) = p - g * 15 := by omega
      rw [e]
      by_cases h3 : 0 < p - g * 15
      · have c2 : (0 : Int32) < nI (p - g * 15) := by rw [L0, xI_lt (by omega) (by omega)]; exact h3
        rw [if_pos c2]
        exact mask_c _ (by omega)
      · have e0 : p - g * 15 = 0 := by omega
        rw [e0, if_neg z0]
        exact mask_c 0 (by omega)
    · have c1 : ¬ nI (p - g * 15) < nI 15 := by rw [xI_lt (by omega) (by omega)]; exact h2
      rw [if_neg c1, if_pos z15]
      have e : min 15 (p - 15 * g) = 15 := by omega
      rw [e]
      exact mask_c 15 (by omega)
  · have hs := xI_toInt_sub (a := p) (b := g * 15) (by omega) (by omega)
    have h1 : nI p - nI (g * 15) < nI 15 := by
      rw [Int32.lt_iff_toInt_lt, hs, e15]; omega
    have h2 : ¬ (0 : Int32) < nI p - nI (g * 15) := by
      rw [Int32.lt_iff_toInt_lt, hs, Int32.toInt_zero]; omega
    rw [if_pos h1, if_neg h2]
    have e : min 15 (p - 15 * g) = 0 := by omega
    rw [e]
    exact mask_c 0 (by omega)
def cutf (p : Nat) (f : Nat → Bool) : Nat → Bool := fun i => decide (i < p) && f i
theorem mask_gw (f : Nat → Bool) (p g : Nat) : gw f g &&& (2 ^ (min 15 (p - 15 * g)) - 1) = gw (cutf p f) g := by
  apply gw_of
  intro k
  rw [Nat.testBit_and, gw_bit, Nat.testBit_two_pow_sub_one]
  unfold cutf
  by_cases hk : k < 15
  · by_cases h1 : 15 * g + k < p
    · have : k < min 15 (p - 15 * g) := by omega
      simp [hk, h1, this]
    · have : ¬ k < min 15 (p - 15 * g) := by omega
      simp [hk, h1, this]
  · simp [hk]
/-! cutTo -/
def cutR (r : Row) (p : Nat) : Row := (p, cutf p r.2)
theorem cutR_ok {r : Row} {p : Nat} (h : p ≤ 600) : okR (cutR r p) := ⟨h, fun i hi => by
  have hi : p ≤ i := hi
  have : ¬ i < p := by omega
  simp [cutR, cutf, this]⟩
theorem f0_cutTo_L_n {I : gI} {b p : Nat} {r : Row} (h : BR I b r) (hp : p ≤ 600) : ∀ (k g : Nat), g ≤ 40 → 40 < k + g → f0_cutTo_L2 k (mg I (b + 1) (gw (cutf p r.2)) g) b (nI p) (nI g) = some (uI (mg I (b + 1) (gw (cutf p r.2)) 40) b 1 (nI p)) := by
  intro k
  induction k with
  | zero => intro g h1 h2; omega
  | succ k ih =>
    intro g h1 h2
    rw [f0_cutTo_L2]
    by_cases h40 : g = 40
    · subst h40
      rw [if_pos (by decide)]
    · simp (disch := omega) only [k0, k1, k2, k3, k4, k5, k8, k10, k14, k15, k16, k19, k20, k31, k32, k38, k40, k41, k45, k48, k57, k60, k62, k63, k94, k100, k124, k126, k255, k600, k601, k4808, k4809, k28854, k32767, k32768, k49152, k65535, xI_lt, xI_le, xI_eq, xI_ib, xI_cl, nI_add, xI_mul, decide_eq_true_eq, if_pos, if_neg, Option.bind_some, ]
      rw [mg_at (Nat.le_refl g), h.2.2 g (by omega), f0_maskBefore_n (by omega) (by omega), xI_and, mask_gw, mg_s]
      exact ih (g + 1) (by omega) (by omega)
theorem f0_cutTo_n {I : gI} {b p : Nat} {r : Row} (h : BR I b r) (hp : p ≤ 600) : ∃ I', f0_cutTo I b (nI p) = some I' ∧ BR I' b (cutR r p) ∧ FrB I I' b := by
  have h1 := f0_cutTo_L_n h hp FU 0 (by omega) (by decide)
  rw [mg_0] at h1
  exact ⟨_, h1, mg_BR (r := cutR r p) (cutR_ok hp), mg_FrB⟩
/-! addRun -/
def ann (a b : Nat) : Nat := Nat.bitwise (fun x y => x && !y) a b
theorem ann_bit (a b k : Nat) : (ann a b).testBit k = (a.testBit k && !b.testBit k) := by
  unfold ann
  rw [Nat.testBit_bitwise rfl]
theorem xI_ann (a b : Nat) : nI a &&& (nI b ^^^ (-nI 1)) = nI (ann a b) := by
  apply Int32.toBitVec_inj.mp
  rw [Int32.toBitVec_and, Int32.toBitVec_xor, xI_bv, xI_bv, xI_bv]
  have e : (-nI 1 : Int32).toBitVec = BitVec.allOnes 32 := by decide
  rw [e]
  apply BitVec.eq_of_getLsbD_eq
  intro i hi
  simp only [BitVec.getLsbD_and, BitVec.getLsbD_xor, BitVec.getLsbD_ofNat, BitVec.getLsbD_allOnes, ann_bit, hi, decide_true, Bool.true_and]
  cases a.testBit i <;> cases b.testBit i <;> rfl
def addf (f : Nat → Bool) (l m : Nat) (v : Nat → Bool) : Nat → Bool := fun i => if l ≤ i ∧ i < l + m then v (i - l) else f i
def addR (r : Row) (m : Nat) (v : Nat → Bool) : Row := (r.1 + m, addf r.2 r.1 m v)
theorem addR_ok {r : Row} {m : Nat} {v : Nat → Bool} (hr : okR r) (h : r.1 + m ≤ 600) : okR (addR r m v) := ⟨h, fun i hi => by
  have hi : r.1 + m ≤ i := hi
  have h1 : ¬ (r.1 ≤ i ∧ i < r.1 + m) := by omega
  simp only [addR, addf, if_neg h1]
  exact hr.2 i (by omega)⟩
theorem run_gw' {r : Row} (hr : okR r) (m g : Nat) : gw r.2 g ||| ann (2 ^ (min 15 (r.1 + m - 15 * g)) - 1) (2 ^ (min 15 (r.1 - 15 * g)) - 1) = gw (addf r.2 r.1 m (fun _ => true)) g := by
  apply gw_of
  intro k
  rw [Nat.testBit_or, gw_bit, ann_bit, Nat.testBit_two_pow_sub_one, Nat.testBit_two_pow_sub_one]
  unfold addf
  by_cases hk : k < 15
  · by_cases h1 : r.1 ≤ 15 * g + k ∧ 15 * g + k < r.1 + m
    · have a1 : k < min 15 (r.1 + m - 15 * g) := by omega
      have a2 : ¬ k < min 15 (r.1 - 15 * g) := by omega
      simp [hk, h1, a1, a2]
    · rw [if_neg h1]
      by_cases h2 : 15 * g + k < r.1
      · have a2 : k < min 15 (r.1 - 15 * g) := by omega
        simp [hk, a2]
      · have a1 : ¬ k < min 15 (r.1 + m - 15 * g) := by omega
        simp [hk, a1]
  · have a1 : ¬ k < min 15 (r.1 + m - 15 * g) := by omega
    simp [hk, a1]
theorem f0_addRun_L_n {I : gI} {b m : Nat} {r : Row} (h : BR I b r) (hm : r.1 + m ≤ 600) : ∀ (k g : Nat), g ≤ 40 → 40 < k + g → f0_addRun_L15 k (mg I (b + 1) (gw (addf r.2 r.1 m (fun _ => true))) g) b (nI (r.1 + m)) (nI g) = some (uI (mg I (b + 1) (gw (addf r.2 r.1 m (fun _ => true))) 40) b 1 (nI (r.1 + m))) := by
  intro k
  induction k with
  | zero => intro g h1 h2; omega
  | succ k ih =>
    intro g h1 h2
    have hL := h.1.1
    rw [f0_addRun_L15]
    by_cases h40 : g = 40
    · subst h40
      rw [if_pos (by decide)]
    · simp (disch := omega) only [k0, k1, k2, k3, k4, k5, k8, k10, k14, k15, k16, k19, k20, k31, k32, k38, k40, k41, k45, k48, k57, k60, k62, k63, k94, k100, k124, k126, k255, k600, k601, k4808, k4809, k28854, k32767, k32768, k49152, k65535, xI_lt, xI_le, xI_eq, xI_ib, xI_cl, nI_add, xI_mul, decide_eq_true_eq, if_pos, if_neg, Option.bind_some, ]
      rw [mg_at (Nat.le_refl g), mg_row (by omega), h.2.1, h.2.2 g (by omega), f0_maskBefore_n (by omega) (by omega), f0_maskBefore_n (by omega) (by omega), xI_ann, xI_or, run_gw' h.1, mg_s]
      exact ih (g + 1) (by omega) (by omega)
theorem f0_addRun_n {I : gI} {b m : Nat} {v : Bool} {r : Row} (h : BR I b r) (hm : r.1 + m ≤ 600) : ∃ I', f0_addRun I b (nI v.toNat) (nI m) = some I' ∧ BR I' b (addR r m (fun _ => v)) ∧ FrB I I' b := by
  unfold f0_addRun
  rw [h.2.1, nI_add]
  cases v with
  | true =>
    have h1 := f0_addRun_L_n h hm FU 0 (by omega) (by decide)
    rw [mg_0] at h1
    rw [if_pos (by decide)]
    exact ⟨_, h1, mg_BR (r := addR r m (fun _ => true)) (addR_ok h.1 hm), mg_FrB⟩
  | false =>
    rw [if_neg (by decide)]
    refine ⟨_, rfl, ⟨addR_ok h.1 hm, uI_self _ _ _ _, fun j hj => ?_⟩, fun c h1 h2 => uI_row h1⟩
    rw [uI_row (by omega), h.2.2 j hj]
    refine congrArg nI (pkH_congr fun k hk => ?_)
    simp only [addR, addf]
    by_cases h1 : r.1 ≤ 15 * j + k ∧ 15 * j + k < r.1 + m
    · rw [if_pos h1]; exact h.1.2 _ h1.1
    · rw [if_neg h1]
