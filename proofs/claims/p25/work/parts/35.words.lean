/-! WORDS of a row: where each begins and ends -/
def isLit (v : Nat) : Bool := v != 0 && v != 32767
def rn (f : Nat → Bool) (v : Nat) : Nat → Nat → Nat
  | 0, e => e
  | c + 1, e => if gw f e = v then rn f v c (e + 1) else e
theorem rn_ge (f : Nat → Bool) (v : Nat) : ∀ (c e : Nat), e ≤ rn f v c e
  | 0, e => Nat.le_refl _
  | c + 1, e => by
    simp only [rn]
    split
    · have := rn_ge f v c (e + 1); omega
    · exact Nat.le_refl _
theorem rn_le (f : Nat → Bool) (v : Nat) : ∀ (c e : Nat), rn f v c e ≤ e + c
  | 0, e => Nat.le_refl _
  | c + 1, e => by
    simp only [rn]
    split
    · have := rn_le f v c (e + 1); omega
    · omega
theorem rn_all (f : Nat → Bool) (v : Nat) : ∀ (c e h : Nat), e ≤ h → h < rn f v c e → gw f h = v
  | 0, e, h, h1, h2 => by simp only [rn] at h2; omega
  | c + 1, e, h, h1, h2 => by
    simp only [rn] at h2
    split at h2
    · by_cases he : h = e
      · subst he; assumption
      · exact rn_all f v c (e + 1) h (by omega) h2
    · omega
/-- the end of the word that begins with a group -/
def we (r : Row) (g : Nat) : Nat := if isLit (gw r.2 g) = true then g + 1 else rn r.2 (gw r.2 g) (min (ng r) (g + 20) - (g + 1)) (g + 1)
theorem we_gt (r : Row) (g : Nat) : g < we r g := by
  unfold we
  split
  · omega
  · have := rn_ge r.2 (gw r.2 g) (min (ng r) (g + 20) - (g + 1)) (g + 1); omega
theorem we_le {r : Row} {g : Nat} (h : g < ng r) : we r g ≤ ng r := by
  unfold we
  split
  · omega
  · have := rn_le r.2 (gw r.2 g) (min (ng r) (g + 20) - (g + 1)) (g + 1); omega
theorem we_fill {r : Row} {g h : Nat} (hl : isLit (gw r.2 g) = false) (h1 : g ≤ h) (h2 : h < we r g) : gw r.2 h = gw r.2 g := by
  unfold we at h2
  rw [hl, if_neg (by simp)] at h2
  by_cases he : h = g
  · rw [he]
  · exact rn_all _ _ _ _ h (by omega) h2
theorem we_lit {r : Row} {g : Nat} (hl : isLit (gw r.2 g) = true) : we r g = g + 1 := by
  unfold we
  rw [if_pos hl]
theorem ng_le {r : Row} (h : okR r) : ng r ≤ 40 := by
  have := h.1
  unfold ng
  omega
theorem f4_isLiteral_n {v : Nat} (hv : v < 2 ^ 31) : f4_isLiteral (nI v) = isLit v := by
  unfold f4_isLiteral isLit
  by_cases h0 : v = 0
  · subst h0; rfl
  · rw [if_neg (by rw [k0, xI_eq hv (by omega)]; exact h0)]
    by_cases h1 : v = 32767
    · subst h1; rfl
    · rw [if_neg (by rw [k32767, xI_eq hv (by omega)]; exact h1)]
      simp [h0, h1]
theorem f4_endOf_L_n {I : gI} {b m : Nat} {r : Row} (h : BR I b r) {v : Nat} (hv : v < 32768) (hm : m ≤ 40) : ∀ (k e : Nat), e ≤ m → m < k + e → f4_endOf_L45 k I b (nI v) (nI m) (nI e) = some (nI (rn r.2 v (m - e) e)) := by
  intro k
  induction k with
  | zero => intro e h1 h2; omega
  | succ k ih =>
    intro e h1 h2
    rw [f4_endOf_L45]
    by_cases he : e = m
    · subst he
      rw [if_pos (by rw [xI_le (by omega) (by omega)]; omega), Nat.sub_self]
      rfl
    · have hl := gw_lt r.2 e
      have ec : m - e = (m - (e + 1)) + 1 := by omega
      rw [if_neg (by rw [xI_le (by omega) (by omega)]; omega), f0_groupAt_n h (by omega), ec]
      simp only [Option.bind_some, rn]
      by_cases hg : gw r.2 e = v
      · rw [if_pos (by rw [hg]), if_pos hg, k1, nI_add]
        exact ih (e + 1) (by omega) (by omega)
      · rw [if_neg (by rw [xI_eq (by omega) (by omega)]; exact hg), if_neg hg]
theorem f4_endOf_n {I : gI} {b g : Nat} {r : Row} (h : BR I b r) (hg : g ≤ 40) : f4_endOf I b (nI g) = some (nI (if g < ng r then we r g else 40)) := by
  have hn := ng_le h.1
  unfold f4_endOf
  rw [f0_groupCount_n h]
  by_cases h1 : g < ng r
  · have hl := gw_lt r.2 g
    rw [if_pos (by rw [xI_lt (by omega) (by omega)]; exact h1), if_pos h1, f0_groupAt_n h (by omega)]
    simp only [Option.bind_some]
    rw [f4_isLiteral_n (by omega)]
    by_cases h2 : isLit (gw r.2 g) = true
    · rw [if_pos h2, we_lit h2, k1, nI_add]
    · rw [if_neg h2, k20, k1, nI_add, nI_add]
      have em : (if nI (g + 20) < nI (ng r) then nI (g + 20) else nI (ng r)) = nI (min (ng r) (g + 20)) := by
        by_cases h3 : g + 20 < ng r
        · rw [if_pos (by rw [xI_lt (by omega) (by omega)]; exact h3)]
          have e : min (ng r) (g + 20) = g + 20 := by omega
          rw [e]
        · rw [if_neg (by rw [xI_lt (by omega) (by omega)]; exact h3)]
          have e : min (ng r) (g + 20) = ng r := by omega
          rw [e]
      rw [em, f4_endOf_L_n h hl (by omega) FU (g + 1) (by omega) (by unfold FU; omega)]
      unfold we
      rw [if_neg h2]
  · rw [if_neg (by rw [xI_lt (by omega) (by omega)]; exact h1), if_neg h1, k40]
/-- the beginnings of words from a group on -/
def wsl (r : Row) : Nat → Nat → List Nat
  | 0, _ => []
  | k + 1, g => if g < ng r then g :: wsl r k (we r g) else []
theorem wsl_fuel (r : Row) : ∀ (k k' g : Nat), ng r ≤ k + g → ng r ≤ k' + g → wsl r k g = wsl r k' g
  | 0, 0, g, _, _ => rfl
  | 0, k' + 1, g, h1, _ => by
    have : ¬ g < ng r := by omega
    simp only [wsl, if_neg this]
  | k + 1, 0, g, _, h2 => by
    have : ¬ g < ng r := by omega
    simp only [wsl, if_neg this]
  | k + 1, k' + 1, g, h1, h2 => by
    have h3 := we_gt r g
    simp only [wsl]
    split
    · rw [wsl_fuel r k k' (we r g) (by omega) (by omega)]
    · rfl
def WS (r : Row) (g : Nat) : List Nat := wsl r 40 g
theorem WS_nil {r : Row} {g : Nat} (h : ng r ≤ g) : WS r g = [] := by
  have : ¬ g < ng r := by omega
  unfold WS
  simp only [wsl, if_neg this]
theorem WS_cons {r : Row} {g : Nat} (hn : ng r ≤ 40) (h : g < ng r) : WS r g = g :: WS r (we r g) := by
  have h3 := we_gt r g
  unfold WS
  have e : wsl r 40 g = g :: wsl r 39 (we r g) := by simp only [wsl, if_pos h]
  rw [e, wsl_fuel r 39 40 (we r g) (by omega) (by omega)]
/-! how many words of a kind -/
def clit (f : Nat → Bool) : Nat → Nat → Nat
  | _, 0 => 0
  | g, c + 1 => (isLit (gw f g)).toNat + clit f (g + 1) c
theorem clit_add (f : Nat → Bool) : ∀ (a g b : Nat), clit f g (a + b) = clit f g a + clit f (g + a) b
  | 0, g, b => by simp [clit]
  | a + 1, g, b => by
    have e : a + 1 + b = (a + b) + 1 := by omega
    have e2 : g + 1 + a = g + (a + 1) := by omega
    rw [e]
    simp only [clit]
    rw [clit_add f a (g + 1) b, e2]
    omega
theorem clit_zero {f : Nat → Bool} : ∀ {c g : Nat}, (∀ h, g ≤ h → h < g + c → isLit (gw f h) = false) → clit f g c = 0
  | 0, _, _ => rfl
  | c + 1, g, h => by
    simp only [clit, h g (by omega) (by omega)]
    rw [clit_zero fun j h1 h2 => h j (by omega) (by omega)]
    rfl
theorem clit_WS {r : Row} (hn : ng r ≤ 40) : ∀ (m g : Nat), ng r - g ≤ m → g ≤ ng r → clit r.2 g (ng r - g) = (WS r g).countP (fun s => isLit (gw r.2 s)) := by
  intro m
  induction m with
  | zero =>
    intro g h1 h2
    have e : ng r - g = 0 := by omega
    rw [e, WS_nil (by omega)]
    rfl
  | succ m ih =>
    intro g h1 h2
    by_cases hg : g < ng r
    · have h3 := we_gt r g
      have h4 := we_le hg
      have e : ng r - g = (we r g - g) + (ng r - we r g) := by omega
      have e2 : g + (we r g - g) = we r g := by omega
      rw [e, clit_add, e2, ih (we r g) (by omega) h4, WS_cons hn hg, List.countP_cons]
      by_cases hl : isLit (gw r.2 g) = true
      · have e3 : we r g - g = 1 := by rw [we_lit hl]; omega
        rw [e3, if_pos hl]
        simp only [clit, hl, Bool.toNat_true]
        omega
      · have hl' : isLit (gw r.2 g) = false := by simpa using hl
        rw [clit_zero (fun h q1 q2 => by rw [we_fill hl' q1 (by omega)]; exact hl'), if_neg hl]
        omega
    · have e : ng r - g = 0 := by omega
      rw [e, WS_nil (by omega)]
      rfl
theorem f4_literals_L_n {I : gI} {b n : Nat} {r : Row} (h : BR I b r) (hn : n ≤ 40) : ∀ (k s g : Nat), g ≤ n → n < k + g → s + n ≤ 100 + g → f4_literals_L9 k I b (nI s) (nI n) (nI g) = some (nI (s + clit r.2 g (n - g))) := by
  intro k
  induction k with
  | zero => intro s g h1 h2; omega
  | succ k ih =>
    intro s g h1 h2 h3
    rw [f4_literals_L9]
    by_cases hg : g = n
    · subst hg
      rw [if_pos (by rw [xI_le (by omega) (by omega)]; omega), Nat.sub_self]
      rfl
    · have hl := gw_lt r.2 g
      have ec : n - g = (n - (g + 1)) + 1 := by omega
      rw [if_neg (by rw [xI_le (by omega) (by omega)]; omega), f0_groupAt_n h (by omega), ec]
      simp only [Option.bind_some, clit]
      rw [f4_isLiteral_n (by omega)]
      by_cases h4 : isLit (gw r.2 g) = true
      · rw [if_pos h4, k1, nI_add, nI_add, ih (s + 1) (g + 1) (by omega) (by omega) (by omega), h4, Bool.toNat_true, Nat.add_assoc]
      · have h5 : isLit (gw r.2 g) = false := by simpa using h4
        rw [if_neg h4, k1, nI_add, ih s (g + 1) (by omega) (by omega) (by omega), h5, Bool.toNat_false, Nat.zero_add]
theorem f4_literals_n {I : gI} {b : Nat} {r : Row} (h : BR I b r) : f4_literals I b = some (nI ((WS r 0).countP (fun s => isLit (gw r.2 s)))) := by
  have hn := ng_le h.1
  unfold f4_literals
  rw [f0_groupCount_n h, k0, f4_literals_L_n h hn FU 0 0 (by omega) (by unfold FU; omega) (by omega), ← clit_WS hn 40 0 (by omega) (by omega), Nat.zero_add]
theorem f4_fillsOf_L_n {I : gI} {b v : Nat} {r : Row} (h : BR I b r) (hv : v < 32768) : ∀ (k s beg g : Nat), g ≤ ng r → ng r < k + g → g ≤ beg → beg ≤ 40 → f4_fillsOf_L13 k I b (nI v) (nI s) (nI beg) (nI (ng r)) (nI g) = some (nI (s + (WS r beg).countP (fun q => gw r.2 q == v))) := by
  have hn := ng_le h.1
  intro k
  induction k with
  | zero => intro s beg g h1 h2; omega
  | succ k ih =>
    intro s beg g h1 h2 h3 h4
    rw [f4_fillsOf_L13]
    by_cases hg : g = ng r
    · rw [if_pos (by rw [xI_le (by omega) (by omega)]; omega), WS_nil (by omega)]
      rfl
    · rw [if_neg (by rw [xI_le (by omega) (by omega)]; omega)]
      by_cases hb : g = beg
      · subst hb
        have hl := gw_lt r.2 g
        have hlt : g < ng r := by omega
        have w1 := we_gt r g
        have w2 := we_le hlt
        rw [if_pos rfl, f4_endOf_n h (by omega), if_pos hlt, f0_groupAt_n h (by omega), WS_cons hn hlt, List.countP_cons]
        simp only [Option.bind_some]
        by_cases he : gw r.2 g = v
        · rw [if_pos (by rw [he]), if_pos (by simp [he]), k1, nI_add, nI_add, ih (s + 1) (we r g) (g + 1) (by omega) (by omega) (by omega) (by omega)]
          have e : s + 1 + List.countP (fun q => gw r.2 q == v) (WS r (we r g)) = s + (List.countP (fun q => gw r.2 q == v) (WS r (we r g)) + 1) := by omega
          rw [e]
        · rw [if_neg (by rw [xI_eq (by omega) (by omega)]; exact he), if_neg (by simp [he]), k1, k0, nI_add, nI_add, Nat.add_zero, ih s (we r g) (g + 1) (by omega) (by omega) (by omega) (by omega), Nat.add_zero]
      · rw [if_neg (by rw [xI_eq (by omega) (by omega)]; exact hb), k1, nI_add]
        exact ih s beg (g + 1) (by omega) (by omega) (by omega) h4
theorem f4_fillsOf_n {I : gI} {b v : Nat} {r : Row} (h : BR I b r) (hv : v < 32768) : f4_fillsOf I b (nI v) = some (nI ((WS r 0).countP (fun q => gw r.2 q == v))) := by
  have hn := ng_le h.1
  unfold f4_fillsOf
  rw [f0_groupCount_n h, k0, f4_fillsOf_L_n h hv FU 0 0 0 (by omega) (by unfold FU; omega) (by omega) (by omega), Nat.zero_add]
theorem kinds_len (f : Nat → Nat) : ∀ l : List Nat, l.countP (fun s => isLit (f s)) + l.countP (fun q => f q == 0) + l.countP (fun q => f q == 32767) = l.length
  | [] => rfl
  | a :: l => by
    have ih := kinds_len f l
    simp only [List.countP_cons, List.length_cons]
    have : (if isLit (f a) = true then 1 else 0) + (if (f a == 0) = true then 1 else 0) + (if (f a == 32767) = true then 1 else 0) = 1 := by
      unfold isLit
      by_cases h0 : f a = 0
      · simp [h0]
      · by_cases h1 : f a = 32767
        · simp [h1]
        · simp [h0, h1]
    omega
theorem WS_len {r : Row} (hn : ng r ≤ 40) : (WS r 0).length ≤ 40 := by
  have : ∀ (k g : Nat), (wsl r k g).length ≤ k := by
    intro k
    induction k with
    | zero => intro g; exact Nat.le_refl _
    | succ k ih =>
      intro g
      simp only [wsl]
      split
      · have := ih (we r g); simp; omega
      · simp
  exact this 40 0
theorem f4_size_n {I : gI} {b : Nat} {r : Row} (h : BR I b r) : f4_size I b = some (nI (WS r 0).length) := by
  unfold f4_size
  rw [f4_literals_n h, k0, f4_fillsOf_n h (by omega), k32767, f4_fillsOf_n h (by omega)]
  simp only [Option.bind_some]
  rw [nI_add, nI_add, kinds_len]
/-! the code of a word -/
def cd (r : Row) (g : Nat) : Nat := if isLit (gw r.2 g) = true then gw r.2 g else if gw r.2 g = 0 then 32768 + (we r g - g) else 49152 + (we r g - g)
def cdo (r : Row) (o : Option Nat) : Int32 := match o with
  | some g => nI (cd r g)
  | none => -9
theorem f4_code_n {v m : Nat} (hv : v < 2 ^ 31) : f4_code (nI v) (nI m) = nI (if isLit v = true then v else if v = 0 then 32768 + m else 49152 + m) := by
  unfold f4_code
  rw [f4_isLiteral_n hv]
  by_cases h : isLit v = true
  · rw [if_pos h, if_pos h]
  · rw [if_neg h, if_neg h]
    by_cases h0 : v = 0
    · subst h0
      rw [if_pos (show nI 0 = 0 from rfl), if_pos rfl, k32768, nI_add]
    · rw [if_neg (by rw [k0, xI_eq hv (by omega)]; exact h0), if_neg h0, k49152, nI_add]
theorem f4_codeOf_L_n {I : gI} {b : Nat} {r : Row} (h : BR I b r) : ∀ (k i beg g : Nat), g ≤ ng r → ng r < k + g → g ≤ beg → beg ≤ 40 → i < 2 ^ 31 → f4_codeOf_L13 k I b (nI i) (nI beg) (nI (ng r)) (nI g) = some (cdo r ((WS r beg)[i]?)) := by
  have hn := ng_le h.1
  intro k
  induction k with
  | zero => intro i beg g h1 h2; omega
  | succ k ih =>
    intro i beg g h1 h2 h3 h4 hi
    rw [f4_codeOf_L13]
    by_cases hg : g = ng r
    · rw [if_pos (by rw [xI_le (by omega) (by omega)]; omega), WS_nil (by omega)]
      rfl
    · rw [if_neg (by rw [xI_le (by omega) (by omega)]; omega)]
      by_cases hb : g = beg
      · subst hb
        have hl := gw_lt r.2 g
        have hlt : g < ng r := by omega
        have w1 := we_gt r g
        have w2 := we_le hlt
        rw [if_pos rfl, f4_endOf_n h (by omega), if_pos hlt, f0_groupAt_n h (by omega), WS_cons hn hlt]
        simp only [Option.bind_some]
        by_cases h0 : i = 0
        · subst h0
          rw [if_pos (by decide), xI_sub (by omega), f4_code_n (by omega)]
          rfl
        · rw [if_neg (by rw [k0, xI_eq hi (by omega)]; exact h0)]
          obtain ⟨i', rfl⟩ : ∃ i', i = i' + 1 := ⟨i - 1, by omega⟩
          rw [xI_pred, List.getElem?_cons_succ, k1, nI_add]
          exact ih i' (we r g) (g + 1) (by omega) (by omega) (by omega) (by omega) (by omega)
      · rw [if_neg (by rw [xI_eq (by omega) (by omega)]; exact hb), k1, nI_add]
        exact ih i beg (g + 1) (by omega) (by omega) (by omega) h4 hi
theorem f4_codeOf_n {I : gI} {b i : Nat} {r : Row} (h : BR I b r) (hi : i < 2 ^ 31) : f4_codeOf I b (nI i) = some (cdo r ((WS r 0)[i]?)) := by
  have hn := ng_le h.1
  unfold f4_codeOf
  rw [f0_groupCount_n h, k0]
  exact f4_codeOf_L_n h FU i 0 0 (by omega) (by unfold FU; omega) (by omega) (by omega) hi
