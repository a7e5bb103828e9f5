/-! Integer.bitCount of a group -/
theorem xI_ush {a s : Nat} (ha : a < 2 ^ 32) (h : s < 32) : ((nI a).toUInt32 >>> ((nI s).toUInt32 &&& Int32.toUInt32 31)).toInt32 = nI (a >>> s) := by
  apply Int32.toBitVec_inj.mp
  show ((nI a).toBitVec >>> (((nI s).toBitVec &&& 31#32).umod 32)) = _
  rw [xI_bv, xI_bv, xI_bv]
  have e : ((BitVec.ofNat 32 s &&& 31#32).umod 32) = BitVec.ofNat 32 s := by
    revert s
    decide +kernel
  rw [e]
  apply BitVec.eq_of_toNat_eq
  simp only [BitVec.ushiftRight_eq', BitVec.toNat_ushiftRight, BitVec.toNat_ofNat, Nat.mod_eq_of_lt (show s < 2 ^ 32 by omega), Nat.mod_eq_of_lt ha]
  rw [Nat.mod_eq_of_lt (Nat.lt_of_le_of_lt (Nat.shiftRight_le a s) ha)]
def bc1 (x : Int32) : Int32 := x - (((x.toUInt32 >>> ((1 : Int32).toUInt32 &&& Int32.toUInt32 31)).toInt32) &&& 1431655765)
def bc2 (x : Int32) : Int32 := (x &&& 858993459) + (((x.toUInt32 >>> ((2 : Int32).toUInt32 &&& Int32.toUInt32 31)).toInt32) &&& 858993459)
def bc3 (x : Int32) : Int32 := (x + ((x.toUInt32 >>> ((4 : Int32).toUInt32 &&& Int32.toUInt32 31)).toInt32)) &&& 252645135
def bc4 (x : Int32) : Int32 := x + ((x.toUInt32 >>> ((8 : Int32).toUInt32 &&& Int32.toUInt32 31)).toInt32)
def bc5 (x : Int32) : Int32 := x + ((x.toUInt32 >>> ((16 : Int32).toUInt32 &&& Int32.toUInt32 31)).toInt32)
theorem bc_all (x : Int32) : fJ6_bitCount x = bc5 (bc4 (bc3 (bc2 (bc1 x)))) &&& 63 := rfl
def bn1 (x : Nat) : Nat := x - ((x >>> 1) &&& 1431655765)
def bn2 (x : Nat) : Nat := (x &&& 858993459) + ((x >>> 2) &&& 858993459)
def bn3 (x : Nat) : Nat := (x + (x >>> 4)) &&& 252645135
def bn4 (x : Nat) : Nat := x + (x >>> 8)
def bn5 (x : Nat) : Nat := x + (x >>> 16)
theorem bc1_n {x : Nat} (h : x < 2 ^ 31) : bc1 (nI x) = nI (bn1 x) := by
  unfold bc1 bn1
  rw [show (1 : Int32) = nI 1 from rfl, show (1431655765 : Int32) = nI 1431655765 from rfl, xI_ush (by omega) (by omega), xI_and, xI_sub]
  exact Nat.le_trans Nat.and_le_left (Nat.shiftRight_le _ _)
theorem bc2_n {x : Nat} (h : x < 2 ^ 31) : bc2 (nI x) = nI (bn2 x) := by
  unfold bc2 bn2
  rw [show (2 : Int32) = nI 2 from rfl, show (858993459 : Int32) = nI 858993459 from rfl, xI_ush (by omega) (by omega), xI_and, xI_and, nI_add]
theorem bc3_n {x : Nat} (h : x < 2 ^ 31) : bc3 (nI x) = nI (bn3 x) := by
  unfold bc3 bn3
  rw [show (4 : Int32) = nI 4 from rfl, show (252645135 : Int32) = nI 252645135 from rfl, xI_ush (by omega) (by omega), nI_add, xI_and]
theorem bc4_n {x : Nat} (h : x < 2 ^ 31) : bc4 (nI x) = nI (bn4 x) := by
  unfold bc4 bn4
  rw [show (8 : Int32) = nI 8 from rfl, xI_ush (by omega) (by omega), nI_add]
theorem bc5_n {x : Nat} (h : x < 2 ^ 31) : bc5 (nI x) = nI (bn5 x) := by
  unfold bc5 bn5
  rw [show (16 : Int32) = nI 16 from rfl, xI_ush (by omega) (by omega), nI_add]
/-- how many of the lowest c bits are 1 -/
def pcN : Nat → Nat → Nat
  | _, 0 => 0
  | x, c + 1 => x % 2 + pcN (x / 2) c
def bnk (x : Nat) : Bool := Nat.ble (bn1 x) 2147483647 && Nat.ble (bn2 (bn1 x)) 2147483647 && Nat.ble (bn3 (bn2 (bn1 x))) 2147483647 && Nat.ble (bn4 (bn3 (bn2 (bn1 x)))) 2147483647 && Nat.beq (bn5 (bn4 (bn3 (bn2 (bn1 x)))) &&& 63) (pcN x 15)
theorem bnk_all : ((List.range 128).all fun a => (List.range 256).all fun b => bnk (256 * a + b)) = true := by decide +kernel
theorem bitCount_n {x : Nat} (h : x < 32768) : fJ6_bitCount (nI x) = nI (pcN x 15) := by
  have h1 := List.all_eq_true.mp bnk_all (x / 256) (List.mem_range.mpr (by omega))
  have h2 := List.all_eq_true.mp h1 (x % 256) (List.mem_range.mpr (by omega))
  have e : 256 * (x / 256) + x % 256 = x := by omega
  rw [e] at h2
  simp only [bnk, Bool.and_eq_true] at h2
  obtain ⟨⟨⟨⟨k1, k2⟩, k3⟩, k4⟩, k5⟩ := h2
  have k1 := Nat.le_of_ble_eq_true k1
  have k2 := Nat.le_of_ble_eq_true k2
  have k3 := Nat.le_of_ble_eq_true k3
  have k4 := Nat.le_of_ble_eq_true k4
  have k5 := Nat.eq_of_beq_eq_true k5
  rw [bc_all, bc1_n (by omega), bc2_n (by omega), bc3_n (by omega), bc4_n (by omega), bc5_n (by omega), show (63 : Int32) = nI 63 from rfl, xI_and, k5]
/-- how many of f's values from m on, c of them, are true -/
def cnt (f : Nat → Bool) : Nat → Nat → Nat
  | _, 0 => 0
  | m, c + 1 => (f m).toNat + cnt f (m + 1) c
theorem pcN_pkH (f : Nat → Bool) : ∀ (c m : Nat), pcN (pkH f m c) c = cnt f m c
  | 0, _ => rfl
  | c + 1, m => by
    have h1 : (pkH f m (c + 1)) % 2 = (f m).toNat := by
      simp only [pkH]
      have := (f m).toNat_lt
      omega
    have h2 : pkH f m (c + 1) / 2 = pkH f (m + 1) c := by
      simp only [pkH]
      have := (f m).toNat_lt
      omega
    simp only [pcN, cnt, h1, h2, pcN_pkH f c (m + 1)]
theorem cnt_add (f : Nat → Bool) : ∀ (a m b : Nat), cnt f m (a + b) = cnt f m a + cnt f (m + a) b
  | 0, m, b => by simp [cnt]
  | a + 1, m, b => by
    have e : a + 1 + b = (a + b) + 1 := by omega
    rw [e]
    simp only [cnt]
    rw [cnt_add f a (m + 1) b]
    have e2 : m + 1 + a = m + (a + 1) := by omega
    rw [e2]
    omega
theorem cnt_congr {f g : Nat → Bool} : ∀ {c m m' : Nat}, (∀ k, k < c → f (m + k) = g (m' + k)) → cnt f m c = cnt g m' c
  | 0, _, _, _ => rfl
  | c + 1, m, m', h => by
    have h0 := h 0 (by omega)
    simp only [Nat.add_zero] at h0
    have h2 : cnt f (m + 1) c = cnt g (m' + 1) c := cnt_congr fun k hk => by
      have e : m + 1 + k = m + (k + 1) := by omega
      have e' : m' + 1 + k = m' + (k + 1) := by omega
      rw [e, e']
      exact h (k + 1) (by omega)
    simp only [cnt, h0, h2]
theorem cnt_zero {f : Nat → Bool} {c m : Nat} (h : ∀ k, k < c → f (m + k) = false) : cnt f m c = 0 := by
  rw [cnt_congr (g := fun _ => false) (m' := 0) h]
  have : ∀ c m, cnt (fun _ => false) m c = 0 := by
    intro c
    induction c with
    | zero => intro m; rfl
    | succ c ih => intro m; simp only [cnt, ih]; rfl
  exact this c 0
theorem cnt_le (f : Nat → Bool) : ∀ (c m : Nat), cnt f m c ≤ c
  | 0, _ => Nat.le_refl _
  | c + 1, m => by
    have := cnt_le f c (m + 1)
    have := (f m).toNat_lt
    simp only [cnt]
    omega
theorem cnt_snoc (f : Nat → Bool) (m c : Nat) : cnt f m (c + 1) = cnt f m c + (f (m + c)).toNat := by
  rw [cnt_add]
  simp [cnt]
