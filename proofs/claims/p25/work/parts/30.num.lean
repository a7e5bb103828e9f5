/-! NUMBERS: Int32 by Nat -/
theorem xI_lt {a b : Nat} (ha : a < 2 ^ 31) (hb : b < 2 ^ 31) : (nI a < nI b) = (a < b) := propext (nI_ltI ha hb)
theorem xI_le {a b : Nat} (ha : a < 2 ^ 31) (hb : b < 2 ^ 31) : (nI a ≤ nI b) = (a ≤ b) := propext (nI_leI ha hb)
theorem xI_eq {a b : Nat} (ha : a < 2 ^ 31) (hb : b < 2 ^ 31) : (nI a = nI b) = (a = b) := propext (nI_eq ha hb)
theorem xI_sub {a b : Nat} (h : b ≤ a) : nI a - nI b = nI (a - b) := by
  have e : nI a = nI (a - b) + nI b := by rw [nI_add]; congr 1; omega
  rw [e]
  exact Int32.add_sub_cancel _ _
theorem xI_mul (a b : Nat) : nI a * nI b = nI (a * b) := (Int32.ofNat_mul a b).symm
theorem xI_div {a b : Nat} (ha : a < 2 ^ 31) (hb : b < 2 ^ 31) : nI a / nI b = nI (a / b) := by
  apply Int32.toInt_inj.mp
  rw [Int32.toInt_div, nI_toInt ha, nI_toInt hb, nI_toInt (Nat.lt_of_le_of_lt (Nat.div_le_self a b) ha)]
  rw [← Int.ofNat_tdiv]
  have h1 : a / b ≤ a := Nat.div_le_self a b
  generalize a / b = q at h1 ⊢
  unfold Int.bmod
  dsimp only
  omega
theorem xI_rem {a b : Nat} (ha : a < 2 ^ 31) (hb : b < 2 ^ 31) : nI a - nI a / nI b * nI b = nI (a % b) := by
  rw [xI_div ha hb, xI_mul, xI_sub (Nat.div_mul_le_self a b)]
  congr 1
  have := Nat.div_add_mod a b
  have e : a / b * b = b * (a / b) := Nat.mul_comm _ _
  omega
theorem xI_ib {j n : Nat} (h : j < 2 ^ 31) : ib (nI j) n = decide (j < n) := by
  simp only [ib, nI_clamp h]
  have : ¬ nI j < 0 := nI_pos h
  simp [this]
theorem xI_cl {j : Nat} (h : j < 2 ^ 31) : (nI j).toNatClampNeg = j := nI_clamp h
theorem xI_bv (a : Nat) : (nI a).toBitVec = BitVec.ofNat 32 a := rfl
theorem xI_and (a b : Nat) : nI a &&& nI b = nI (a &&& b) := by
  apply Int32.toBitVec_inj.mp
  rw [Int32.toBitVec_and, xI_bv, xI_bv, xI_bv]
  apply BitVec.eq_of_getLsbD_eq
  intro i hi
  simp [BitVec.getLsbD_ofNat, hi]
theorem xI_or (a b : Nat) : nI a ||| nI b = nI (a ||| b) := by
  apply Int32.toBitVec_inj.mp
  rw [Int32.toBitVec_or, xI_bv, xI_bv, xI_bv]
  apply BitVec.eq_of_getLsbD_eq
  intro i hi
  simp [BitVec.getLsbD_ofNat, hi]
theorem xI_xor (a b : Nat) : nI a ^^^ nI b = nI (a ^^^ b) := by
  apply Int32.toBitVec_inj.mp
  rw [Int32.toBitVec_xor, xI_bv, xI_bv, xI_bv]
  apply BitVec.eq_of_getLsbD_eq
  intro i hi
  simp [BitVec.getLsbD_ofNat, hi]
theorem xI_sm : ∀ s, s < 32 → (nI s &&& 31).toBitVec.smod 32 = BitVec.ofNat 32 s := by decide +kernel
theorem xI_shl (a : Nat) {s : Nat} (h : s < 32) : nI a <<< (nI s &&& 31) = nI (a <<< s) := by
  apply Int32.toBitVec_inj.mp
  rw [Int32.toBitVec_shiftLeft, xI_sm s h, xI_bv, xI_bv]
  apply BitVec.eq_of_toNat_eq
  simp only [BitVec.shiftLeft_eq', BitVec.toNat_shiftLeft, BitVec.toNat_ofNat, Nat.mod_eq_of_lt (show s < 2 ^ 32 by omega)]
  rw [Nat.shiftLeft_eq, Nat.shiftLeft_eq, Nat.mul_mod, Nat.mod_mod, ← Nat.mul_mod]
theorem xI_shr {a s : Nat} (ha : a < 2 ^ 31) (h : s < 32) : nI a >>> (nI s &&& 31) = nI (a >>> s) := by
  apply Int32.toBitVec_inj.mp
  rw [Int32.toBitVec_shiftRight, xI_sm s h, xI_bv, xI_bv]
  have hm : (BitVec.ofNat 32 a).msb = false := by
    rw [BitVec.msb_eq_false_iff_two_mul_lt]
    simp [Nat.mod_eq_of_lt (show a < 2 ^ 32 by omega)]
    omega
  apply BitVec.eq_of_toNat_eq
  show ((BitVec.ofNat 32 a).sshiftRight (BitVec.ofNat 32 s).toNat).toNat = _
  rw [BitVec.toNat_sshiftRight_of_msb_false hm]
  simp only [BitVec.toNat_ofNat, Nat.mod_eq_of_lt (show s < 2 ^ 32 by omega), Nat.mod_eq_of_lt (show a < 2 ^ 32 by omega)]
  rw [Nat.mod_eq_of_lt (Nat.lt_of_le_of_lt (Nat.shiftRight_le a s) (show a < 2 ^ 32 by omega))]
theorem L0 : (0 : Int32) = nI 0 := rfl
theorem L1 : (1 : Int32) = nI 1 := rfl
/-- a number within bounds -/
theorem xI_of {x : Int32} {n : Nat} (hn : n < 2 ^ 31) (h0 : ¬ x < 0) (h1 : ¬ nI n < x) : ∃ j, j ≤ n ∧ x = nI j := by
  obtain ⟨j, hj, rfl⟩ := nI_of h0
  rw [xI_lt hn hj] at h1
  exact ⟨j, by omega, rfl⟩
/-! bits of a group -/
def pkH (f : Nat → Bool) : Nat → Nat → Nat
  | _, 0 => 0
  | m, c + 1 => (f m).toNat + 2 * pkH f (m + 1) c
theorem pkH_bit (f : Nat → Bool) : ∀ (c m k : Nat), (pkH f m c).testBit k = (decide (k < c) && f (m + k))
  | 0, m, k => by simp [pkH]
  | c + 1, m, 0 => by
    have h : (pkH f m (c + 1)) % 2 = (f m).toNat := by
      simp only [pkH]
      have := (f m).toNat_lt
      omega
    rw [Nat.testBit_zero, h]
    cases f m <;> simp
  | c + 1, m, k + 1 => by
    have h : pkH f m (c + 1) / 2 = pkH f (m + 1) c := by
      simp only [pkH]
      have := (f m).toNat_lt
      omega
    rw [Nat.testBit_succ, h, pkH_bit f c (m + 1) k]
    have e : m + 1 + k = m + (k + 1) := by omega
    rw [e]
    simp
theorem pkH_lt (f : Nat → Bool) : ∀ (c m : Nat), pkH f m c < 2 ^ c
  | 0, _ => by simp [pkH]
  | c + 1, m => by
    have h := pkH_lt f c (m + 1)
    have := (f m).toNat_lt
    simp only [pkH, Nat.pow_succ]
    omega
theorem pkH_congr {f g : Nat → Bool} : ∀ {c m : Nat}, (∀ k, k < c → f (m + k) = g (m + k)) → pkH f m c = pkH g m c
  | 0, _, _ => rfl
  | c + 1, m, h => by
    have h0 := h 0 (by omega)
    simp only [Nat.add_zero] at h0
    simp only [pkH, h0]
    have h2 : pkH f (m + 1) c = pkH g (m + 1) c := pkH_congr fun k hk => by
      have e : m + 1 + k = m + (k + 1) := by omega
      rw [e]
      exact h (k + 1) (by omega)
    rw [h2]
theorem pkH_eq_iff {f g : Nat → Bool} {c m m' : Nat} : pkH f m c = pkH g m' c ↔ ∀ k, k < c → f (m + k) = g (m' + k) := by
  constructor
  · intro h k hk
    have h1 := pkH_bit f c m k
    have h2 := pkH_bit g c m' k
    rw [h, h2] at h1
    simpa [hk] using h1.symm
  · intro h
    apply Nat.eq_of_testBit_eq
    intro k
    rw [pkH_bit, pkH_bit]
    by_cases hk : k < c
    · simp [hk, h k hk]
    · simp [hk]
/-- the number of a group of a row -/
def gw (f : Nat → Bool) (g : Nat) : Nat := pkH f (15 * g) 15
theorem gw_lt (f : Nat → Bool) (g : Nat) : gw f g < 32768 := pkH_lt f 15 (15 * g)
theorem gw_bit (f : Nat → Bool) (g k : Nat) : (gw f g).testBit k = (decide (k < 15) && f (15 * g + k)) := pkH_bit f 15 (15 * g) k
theorem gw_of {f : Nat → Bool} {g x : Nat} (h : ∀ k, x.testBit k = (decide (k < 15) && f (15 * g + k))) : x = gw f g := by
  apply Nat.eq_of_testBit_eq
  intro k
  rw [h, gw_bit]
