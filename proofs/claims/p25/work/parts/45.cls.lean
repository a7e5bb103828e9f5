/-! the class: what several calls rest on (from the rows of whole) -/
def bs (r : Row) : Nat → Nat → Nat → Nat → Nat
  | 0, b, _, _ => b
  | k + 1, b, s, x => if s ≤ (WS (shR r (x : Int)) 0).length then bs r k b s (x + 1) else bs r k x (WS (shR r (x : Int)) 0).length (x + 1)
theorem WS_40 (r : Row) (by_ : Int) : (WS (shR r by_) 0).length ≤ 40 := WS_len (ng_le (shR_ok r by_))
theorem FrB_BR {I I' : gI} {b c : Nat} {r : Row} (h : BR I c r) (hF : FrB I I' b) (h1 : c ≠ b) (h2 : c ≠ b + 1) (h3 : c + 1 ≠ b) : BR I' c r :=
  ⟨h.1, by rw [hF c h1 h2]; exact h.2.1, fun j hj => by rw [hF (c + 1) h3 (by omega)]; exact h.2.2 j hj⟩
theorem f5_best_L_n {q : Nat} {r : Row} (hq : q < 8) : ∀ (k b s x : Nat) (I : gI), BR I (63 + 2 * q) r → x ≤ 15 → 15 < k + x → s ≤ 40 → ∃ I', f5_bestShift_L25 k I (nI q) (nI b) (nI s) (nI x) = some (nI (bs r (15 - x) b s x), I') ∧ FrB I I' 61 := by
  intro k
  induction k with
  | zero => intro b s x I a1 a2 a3; omega
  | succ k ih =>
    intro b s x I a1 a2 a3 a4
    rw [f5_bestShift_L25]
    by_cases hx : x = 15
    · subst hx
      rw [if_pos (by decide)]
      exact ⟨I, rfl, FrB.rfl'⟩
    · have ec : 15 - x = (15 - (x + 1)) + 1 := by omega
      have ex := nI_toInt (n := x) (by omega)
      rw [if_neg (by rw [k15, xI_le (by omega) (by omega)]; omega), xI_ib (by omega), if_pos (by simp; omega), xI_cl (by omega)]
      obtain ⟨I1, b1, b2, b3⟩ := f0_moveFrom_n (x := nI x) a1 (by omega) (by omega) (show 63 + 2 * q ≠ 61 + 1 by omega) (by omega)
      rw [ex] at b2
      rw [b1]
      simp only [Option.bind_some]
      rw [f4_size_n b2]
      simp only [Option.bind_some]
      have a5 := FrB_BR a1 b3 (by omega) (by omega) (by omega)
      have w := WS_40 r (x : Int)
      rw [ec, bs, k1, nI_add]
      by_cases hs : s ≤ (WS (shR r (x : Int)) 0).length
      · rw [if_pos (by rw [xI_le (by omega) (by omega)]; exact hs), if_pos hs]
        obtain ⟨I', c1, c2⟩ := ih b s (x + 1) I1 a5 (by omega) (by omega) a4
        exact ⟨I', c1, b3.trans c2⟩
      · rw [if_neg (by rw [xI_le (by omega) (by omega)]; exact hs), if_neg hs]
        obtain ⟨I', c1, c2⟩ := ih x _ (x + 1) I1 a5 (by omega) (by omega) w
        exact ⟨I', c1, b3.trans c2⟩
theorem shR_0 {r : Row} (h : okR r) : shR r 0 = r := by
  have e : shL r 0 = r.1 := by
    have := h.1
    simp only [shL]
    omega
  refine Prod.ext e ?_
  funext i
  show (decide (i < shL r 0) && zof r.2 ((i : Int) - 0)) = r.2 i
  rw [e]
  unfold zof
  by_cases hi : i < r.1
  · rw [decide_eq_true hi, Bool.true_and, decide_eq_true (by omega), Bool.true_and]
    congr 1
  · rw [decide_eq_false hi, Bool.false_and, h.2 i (by omega)]
def smN (φ : Nat → Nat) : Nat → Nat → Nat
  | _, 0 => 0
  | j, c + 1 => φ j + smN φ (j + 1) c
def prN (p : Nat) (r : Row) : Nat := if p = 0 then r.1 else if p = 1 then (WS r 0).length else cnt r.2 0 r.1
theorem f5_sum_L_n {I : gI} {n p : Nat} {ρ : Nat → Row} (hn : n ≤ 8) (h0 : I 0 1 = nI n) (h : ∀ q, q < 8 → BR I (63 + 2 * q) (ρ q)) (hp : p = 0 ∨ p = 1 ∨ p = 5) : ∀ (k s j : Nat), j ≤ n → n < k + j → f5_sum_L4 k I (nI p) (nI s) (nI j) = some (nI (s + smN (fun q => prN p (ρ q)) j (n - j))) := by
  intro k
  induction k with
  | zero => intro s j a1 a2; omega
  | succ k ih =>
    intro s j a1 a2
    rw [f5_sum_L4, h0]
    by_cases hj : j = n
    · subst hj
      rw [if_pos (by rw [xI_le (by omega) (by omega)]; omega), Nat.sub_self]
      rfl
    · have ec : n - j = (n - (j + 1)) + 1 := by omega
      have hb := h j (by omega)
      rw [if_neg (by rw [xI_le (by omega) (by omega)]; omega), xI_ib (by omega), if_pos (by simp; omega), xI_cl (by omega)]
      have e : f5_property I (63 + 2 * j) (nI p) = some (nI (prN p (ρ j))) := by
        rcases hp with rfl | rfl | rfl
        · unfold f5_property
          rw [if_pos (by decide), hb.2.1]
          rfl
        · unfold f5_property
          rw [if_neg (by decide), if_pos (by decide), f4_size_n hb]
          rfl
        · unfold f5_property
          rw [if_neg (by decide), if_neg (by decide), if_neg (by decide), if_neg (by decide), if_neg (by decide), if_pos (by decide), f0_ones_n hb]
          rfl
      rw [e]
      simp only [Option.bind_some]
      rw [nI_add, k1, nI_add, ih _ (j + 1) (by omega) (by omega), ec]
      simp only [smN]
      rw [Nat.add_assoc]
theorem isW_row {a : Int32} {n : Nat} (hn : n ≤ 8) (h : f5_isWithin a 0 (nI n - 1) = true) : ∃ q, q < n ∧ a = nI q := by
  unfold f5_isWithin at h
  rcases Nat.eq_zero_or_pos n with h0 | h0
  · subst h0
    exfalso
    by_cases h1 : a < 0
    · rw [if_pos h1] at h; cases h
    · rw [if_neg h1] at h
      by_cases h2 : (nI 0 - 1) < a
      · rw [if_pos h2] at h; cases h
      · apply h2
        have h3 : ¬ a.toInt < 0 := by rw [← Int32.toInt_zero, ← Int32.lt_iff_toInt_lt]; exact h1
        rw [Int32.lt_iff_toInt_lt]
        have : (nI 0 - 1).toInt = -1 := by decide
        omega
  · by_cases h1 : a < 0
    · rw [if_pos h1] at h; cases h
    · rw [if_neg h1] at h
      by_cases h2 : (nI n - 1) < a
      · rw [if_pos h2] at h; cases h
      · rw [k1, xI_sub h0] at h2
        obtain ⟨j, hj, rfl⟩ := xI_of (show n - 1 < 2 ^ 31 by omega) h1 h2
        exact ⟨j, by omega, rfl⟩
theorem isW_n {a : Int32} {m n : Nat} (hm : m < 2 ^ 31) (hn : n < 2 ^ 31) (h : f5_isWithin a (nI m) (nI n) = true) : ∃ q, m ≤ q ∧ q ≤ n ∧ a = nI q := by
  unfold f5_isWithin at h
  by_cases h1 : a < nI m
  · rw [if_pos h1] at h; cases h
  · rw [if_neg h1] at h
    by_cases h2 : nI n < a
    · rw [if_pos h2] at h; cases h
    · have h3 : ¬ a < 0 := fun h3 => h1 (by
        rw [Int32.lt_iff_toInt_lt] at h3 ⊢
        have e1 := nI_toInt hm
        have e0 : (0 : Int32).toInt = 0 := by decide
        omega)
      obtain ⟨j, hj, rfl⟩ := xI_of hn h3 h2
      exact ⟨j, by rw [xI_lt (by omega) hm] at h1; omega, hj, rfl⟩
theorem f5_isRow_n {I : gI} {A : Snap} {H : List Snap} (h : CR I A H) (a : Int32) : f5_isRow I a = f5_isWithin a 0 (nI A.1 - 1) := by
  unfold f5_isRow
  rw [h.n]
theorem ib_q {q : Nat} (hq : q < 8) : ib (nI q) 8 = true := by
  rw [xI_ib (by omega)]
  simp
  omega
theorem cl_q {q : Nat} (hq : q < 8) : (nI q).toNatClampNeg = q := xI_cl (by omega)
theorem isW_bit {a : Int32} (h : f5_isWithin a 0 1 = true) : ∃ v : Bool, a = nI v.toNat := by
  obtain ⟨q, h1, h2, rfl⟩ := isW_n (m := 0) (n := 1) (by omega) (by omega) h
  rcases Nat.eq_zero_or_pos q with h0 | h0
  · exact ⟨false, by rw [h0]; rfl⟩
  · exact ⟨true, by rw [show q = 1 by omega]; rfl⟩
theorem isW_600 {a : Int32} (h : f5_isWithin a (-600) 600 = true) : -600 ≤ a.toInt ∧ a.toInt ≤ 600 := by
  unfold f5_isWithin at h
  have e1 : (-600 : Int32).toInt = -600 := by decide
  have e2 : (600 : Int32).toInt = 600 := by decide
  by_cases h1 : a < -600
  · rw [if_pos h1] at h; cases h
  · rw [if_neg h1] at h
    by_cases h2 : 600 < a
    · rw [if_pos h2] at h; cases h
    · rw [Int32.lt_iff_toInt_lt] at h1 h2
      omega
theorem nonneg {a : Int32} (h : 0 ≤ a) : ∃ i, i < 2 ^ 31 ∧ a = nI i := by
  have h1 : ¬ a < 0 := by
    rw [Int32.lt_iff_toInt_lt]
    rw [Int32.le_iff_toInt_le] at h
    omega
  have h2 : ¬ nI 2147483647 < a := by
    rw [Int32.lt_iff_toInt_lt]
    have e : (nI 2147483647).toInt = 2147483647 := by decide
    have := Int32.toInt_lt a
    omega
  obtain ⟨j, hj, e⟩ := xI_of (by omega) h1 h2
  exact ⟨j, by omega, e⟩
theorem CR_stepB {J J' : gI} {A : Snap} {H : List Snap} {q : Nat} {r : Row} (h : CR J A H) (hq : q < 8) (hr : ∀ r, HC J (updR A.2 q r) H) (hb : BR J' (63 + 2 * q) r) (hF : ∀ c, c < 61 ∨ 62 < c → c ≠ 63 + 2 * q → c ≠ 64 + 2 * q → J' c = J c) : CR J' (A.1, updR A.2 q r) H :=
  CR_step h hq hr hb (by rw [hF 0 (by omega) (by omega) (by omega)]; exact h.n) h.n8 (fun c _ _ h3 h4 h5 => hF c (by omega) h4 h5)
theorem FrB_fb {J J' : gI} {q : Nat} (hq : q < 8) (h : FrB J J' (63 + 2 * q)) : ∀ c, c = 19 ∨ c = 20 ∨ 79 ≤ c → J' c = J c := fun c hc => h c (by omega) (by omega)
theorem FrB_st {J J' : gI} {q : Nat} (h : FrB J J' (63 + 2 * q)) : ∀ c, c < 61 ∨ 62 < c → c ≠ 63 + 2 * q → c ≠ 64 + 2 * q → J' c = J c := fun c _ h1 h2 => h c h1 (by omega)
theorem isW_pl {a : Int32} {n : Nat} (hn : n ≤ 1000) (h : f5_isWithin a 0 (nI n - 1) = true) : ∃ q, q < n ∧ a = nI q := by
  unfold f5_isWithin at h
  rcases Nat.eq_zero_or_pos n with h0 | h0
  · subst h0
    exact isW_row (n := 0) (by omega) h
  · by_cases h1 : a < 0
    · rw [if_pos h1] at h; cases h
    · rw [if_neg h1] at h
      by_cases h2 : (nI n - 1) < a
      · rw [if_pos h2] at h; cases h
      · rw [k1, xI_sub h0] at h2
        obtain ⟨j, hj, rfl⟩ := xI_of (show n - 1 < 2 ^ 31 by omega) h1 h2
        exact ⟨j, by omega, rfl⟩
theorem f5_isPlace_n {I : gI} {A : Snap} {H : List Snap} {q : Nat} (h : CR I A H) (hq : q < 8) (a : Int32) : f5_isPlace I (nI q) a = some (f5_isWithin a 0 (nI (A.2 q).1 - 1)) := by
  unfold f5_isPlace
  rw [if_pos (ib_q hq), cl_q hq, (h.rows hq).2.1]
def R0 : Row := (0, fun _ => false)
theorem R0_ok : okR R0 := ⟨Nat.zero_le _, fun _ _ => rfl⟩
theorem gw_R0 (j : Nat) : gw R0.2 j = 0 := gw_zero (fun _ _ => rfl)
theorem I0_0 {a j : Nat} (h1 : a ≠ 3) (h2 : a ≠ 19 ∨ j ≠ 6) : I0 a j = 0 := by
  unfold I0
  rw [if_neg h1, if_neg (by omega)]
theorem I0_3 (j : Nat) : I0 3 j = nI (4 + 3 * j) := by
  unfold I0
  rw [if_pos rfl]
theorem cO_I0 {j : Nat} (hj : j < 5) : cO I0 j = 4 + 3 * j := by
  unfold cO
  rw [I0_3, xI_cl (by omega)]
