/-! all numbers in one: they speak of the rows alone -/
def fo (g : Nat → Int32) : Nat → Nat → Int64 → Int64
  | 0, _, s => s
  | c + 1, j, s => fo g c (j + 1) ((31 * s) + (Int32.toInt64 (g j)))
def wdV (r : Row) (i : Nat) : Int32 := cdo r ((WS r 0)[i]?)
section
variable {I : gI} {A : Snap} {H : List Snap}
theorem all_L75 {K : gI → Int64 → Int32 → Option Int64} {q : Nat} (hc : CR I A H) (hq : q < A.1) : ∀ (k j : Nat) (s : Int64), j ≤ (WS (A.2 q) 0).length → (WS (A.2 q) 0).length < k + j → fL_all_L75 K k I s (nI q) (nI j) = K I (fo (wdV (A.2 q)) ((WS (A.2 q) 0).length - j) j s) (nI (q + 1)) := by
  have h8 := hc.n8
  have hw := WS_len (ng_le (hc.rows (show q < 8 by omega)).1)
  intro k
  induction k with
  | zero => intro j s a1 a2; omega
  | succ k ih =>
    intro j s a1 a2
    rw [fL_all_L75, k1, row_n hc hq (by omega)]
    simp only [Option.bind_some]
    rw [show rowV (A.2 q) 1 = nI (WS (A.2 q) 0).length from rfl]
    by_cases hj : j = (WS (A.2 q) 0).length
    · rw [if_pos (by rw [xI_le (by omega) (by omega)]; omega), nI_add, ← hj, Nat.sub_self]
      rfl
    · rw [if_neg (by rw [xI_le (by omega) (by omega)]; omega), word_n hc hq (by omega)]
      simp only [Option.bind_some]
      rw [nI_add, ih (j + 1) _ (by omega) (by omega), show (WS (A.2 q) 0).length - j = ((WS (A.2 q) 0).length - (j + 1)) + 1 by omega]
      rfl
theorem all_L44 {K : gI → Int64 → Int32 → Option Int64} {q : Nat} (hc : CR I A H) (hq : q < A.1) : ∀ (k j : Nat) (s : Int64), j ≤ 8 → 8 < k + j → fL_all_L44 K k I s (nI q) (nI j) = K I (fo (wdV (A.2 q)) (WS (A.2 q) 0).length 0 (fo (rowV (A.2 q)) (8 - j) j s)) (nI (q + 1)) := by
  have h8 := hc.n8
  have hw := WS_len (ng_le (hc.rows (show q < 8 by omega)).1)
  intro k
  induction k with
  | zero => intro j s a1 a2; omega
  | succ k ih =>
    intro j s a1 a2
    rw [fL_all_L44]
    by_cases hj : j = 8
    · subst hj
      rw [if_pos (by rw [k8, xI_le (by omega) (by omega)]; omega), k0, all_L75 hc hq FU 0 s (by omega) (by unfold FU; omega), Nat.sub_zero]
      rfl
    · rw [if_neg (by rw [k8, xI_le (by omega) (by omega)]; omega), row_n hc hq (by omega)]
      simp only [Option.bind_some]
      rw [k1, nI_add, ih (j + 1) _ (by omega) (by omega), show 8 - j = (8 - (j + 1)) + 1 by omega]
      rfl
def rsF (A : Snap) : Nat → Nat → Int64 → Int64
  | 0, _, s => s
  | c + 1, q, s => rsF A c (q + 1) (fo (wdV (A.2 q)) (WS (A.2 q) 0).length 0 (fo (rowV (A.2 q)) 8 0 s))
theorem all_L32 (hc : CR I A H) : ∀ (k q : Nat) (s : Int64), q ≤ A.1 → A.1 < k + q → fL_all_L32 k I s (nI q) = some (rsF A (A.1 - q) q s) := by
  have h8 := hc.n8
  intro k
  induction k with
  | zero => intro q s a1 a2; omega
  | succ k ih =>
    intro q s a1 a2
    rw [fL_all_L32, count_0 hc]
    simp only [Option.bind_some]
    by_cases hq : q = A.1
    · rw [if_pos (by rw [xI_le (by omega) (by omega)]; omega), hq, Nat.sub_self]
      rfl
    · rw [if_neg (by rw [xI_le (by omega) (by omega)]; omega), k0, all_L44 hc (by omega) FU 0 s (by omega) (by unfold FU; omega), Nat.sub_zero, ih (q + 1) _ (by omega) (by omega), show A.1 - q = (A.1 - (q + 1)) + 1 by omega]
      rfl
def ALL (A : Snap) : Int64 := rsF A A.1 0 (fo (cntV A) 4 0 41)
theorem all_L6 (hc : CR I A H) : ∀ (k j : Nat) (s : Int64), j ≤ 4 → 4 < k + j → fL_all_L6 k I s (nI j) = some (rsF A A.1 0 (fo (cntV A) (4 - j) j s)) := by
  have h8 := hc.n8
  intro k
  induction k with
  | zero => intro j s a1 a2; omega
  | succ k ih =>
    intro j s a1 a2
    rw [fL_all_L6]
    by_cases hj : j = 4
    · subst hj
      rw [if_pos (by rw [k4, xI_le (by omega) (by omega)]; omega), k0, all_L32 hc FU 0 s (by omega) (by unfold FU; omega), Nat.sub_zero]
      rfl
    · rw [if_neg (by rw [k4, xI_le (by omega) (by omega)]; omega), count_n hc (by omega)]
      simp only [Option.bind_some]
      rw [k1, nI_add, ih (j + 1) _ (by omega) (by omega), show 4 - j = (4 - (j + 1)) + 1 by omega]
      rfl
theorem all_n (hc : CR I A H) : fL_all I = some (ALL A) := by
  unfold fL_all
  rw [k0]
  exact all_L6 hc FU 0 41 (by omega) (by unfold FU; omega)
end
theorem cmp_self (v : Int64) : lg_cmp v v = 0 := by simp [lg_cmp]
