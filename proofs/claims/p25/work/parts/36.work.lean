/-! THE WORK of two rows -/
def EL (r : Row) (g : Nat) : List Nat := (WS r g).map (we r)
theorem WS_EL {r : Row} (hn : ng r ≤ 40) : ∀ (m g : Nat), ng r - g ≤ m → g ≤ ng r → WS r g ++ [ng r] = g :: EL r g := by
  intro m
  induction m with
  | zero =>
    intro g h1 h2
    have e : g = ng r := by omega
    unfold EL
    rw [WS_nil (by omega), e]
    rfl
  | succ m ih =>
    intro g h1 h2
    by_cases hg : g < ng r
    · have w1 := we_gt r g
      have w2 := we_le hg
      have h3 := ih (we r g) (by omega) w2
      unfold EL at h3 ⊢
      rw [WS_cons hn hg, List.cons_append, h3, List.map_cons]
    · have e : g = ng r := by omega
      unfold EL
      rw [WS_nil (by omega), e]
      rfl
theorem WS_ge {r : Row} (hn : ng r ≤ 40) : ∀ (m g : Nat), ng r - g ≤ m → ∀ h ∈ WS r g, g ≤ h ∧ h < ng r := by
  intro m
  induction m with
  | zero =>
    intro g h1 h hh
    rw [WS_nil (by omega)] at hh
    cases hh
  | succ m ih =>
    intro g h1 h hh
    by_cases hg : g < ng r
    · have w1 := we_gt r g
      rw [WS_cons hn hg] at hh
      rcases List.mem_cons.mp hh with rfl | hh
      · exact ⟨Nat.le_refl _, hg⟩
      · have := ih (we r g) (by omega) h hh
        omega
    · rw [WS_nil (by omega)] at hh
      cases hh
theorem EL_ge {r : Row} (hn : ng r ≤ 40) {g h : Nat} (hh : h ∈ EL r g) : g < h ∧ h ≤ ng r := by
  obtain ⟨x, hx, rfl⟩ := List.mem_map.mp hh
  have h1 := WS_ge hn 40 g (by omega) x hx
  have h2 := we_gt r x
  have h3 := we_le h1.2
  omega
/-- a boundary: the row's beginning, or the end of a word -/
def bd (r : Row) (g : Nat) : Bool := decide (g = 0 ∨ g ∈ EL r 0)
theorem bd_iff {r : Row} (hn : ng r ≤ 40) {g : Nat} : bd r g = true ↔ g ∈ WS r 0 ∨ g = ng r := by
  have h := WS_EL hn 40 0 (by omega) (by omega)
  unfold bd
  rw [decide_eq_true_iff]
  have h2 : (g ∈ WS r 0 ++ [ng r]) ↔ g ∈ (0 :: EL r 0) := by rw [h]
  simp only [List.mem_append, List.mem_cons, List.not_mem_nil, or_false] at h2
  exact h2.symm
/-- no boundary lies within a word -/
theorem WS_between {r : Row} (hn : ng r ≤ 40) : ∀ (m g : Nat), ng r - g ≤ m → ∀ x ∈ WS r g, (we r x ∈ WS r g ∨ we r x = ng r) ∧ ∀ h, x < h → h < we r x → h ∉ WS r g := by
  intro m
  induction m with
  | zero =>
    intro g h1 x hx
    rw [WS_nil (by omega)] at hx
    cases hx
  | succ m ih =>
    intro g h1 x hx
    by_cases hg : g < ng r
    · have w1 := we_gt r g
      have w2 := we_le hg
      rw [WS_cons hn hg] at hx ⊢
      rcases List.mem_cons.mp hx with rfl | hx
      · refine ⟨?_, fun h q1 q2 q3 => ?_⟩
        · by_cases hw : we r x < ng r
          · left
            rw [WS_cons hn hw]
            exact List.mem_cons_of_mem _ List.mem_cons_self
          · right; omega
        · rcases List.mem_cons.mp q3 with rfl | q3
          · omega
          · have := WS_ge hn 40 (we r x) (by omega) h q3
            omega
      · obtain ⟨a1, a2⟩ := ih (we r g) (by omega) x hx
        have a3 := WS_ge hn 40 (we r g) (by omega) x hx
        refine ⟨a1.elim (fun q => Or.inl (List.mem_cons_of_mem _ q)) Or.inr, fun h q1 q2 q3 => ?_⟩
        rcases List.mem_cons.mp q3 with rfl | q3
        · omega
        · exact a2 h q1 q2 q3
    · rw [WS_nil (by omega)] at hx
      cases hx
/-- 'beg' is the next boundary from g on -/
def Nx (r : Row) (g beg : Nat) : Prop := g ≤ beg ∧ (∀ h, g ≤ h → h < beg → bd r h = false) ∧ (bd r beg = true ∨ 40 ≤ beg)
theorem Nx_0 (r : Row) : Nx r 0 0 := ⟨Nat.le_refl _, fun h h1 h2 => by omega, Or.inl (by simp [bd])⟩
theorem Nx_skip {r : Row} {g beg : Nat} (h : Nx r g beg) (hne : g ≠ beg) : Nx r (g + 1) beg := ⟨by have := h.1; omega, fun j h1 h2 => h.2.1 j (by omega) h2, h.2.2⟩
theorem Nx_bd {r : Row} {g beg : Nat} (h : Nx r g beg) (hg : g < 40) : (g = beg) ↔ bd r g = true := by
  constructor
  · rintro rfl
    rcases h.2.2 with q | q
    · exact q
    · omega
  · intro q
    by_cases h1 : g < beg
    · rw [h.2.1 g (Nat.le_refl _) h1] at q; cases q
    · have := h.1; omega
theorem Nx_end {r : Row} (hn : ng r ≤ 40) {g : Nat} (hb : bd r g = true) : Nx r (g + 1) (if g < ng r then we r g else 40) ∨ 40 ≤ g := by
  by_cases h40 : 40 ≤ g
  · exact Or.inr h40
  · left
    rcases (bd_iff hn).mp hb with hm | hm
    · have h1 := WS_ge hn 40 0 (by omega) g hm
      obtain ⟨a1, a2⟩ := WS_between hn 40 0 (by omega) g hm
      have w := we_gt r g
      have w2 := we_le h1.2
      rw [if_pos h1.2]
      refine ⟨by omega, fun h q1 q2 => ?_, Or.inl ((bd_iff hn).mpr a1)⟩
      cases hbh : bd r h with
      | false => rfl
      | true =>
        rcases (bd_iff hn).mp hbh with q | q
        · exact absurd q (a2 h (by omega) q2)
        · omega
    · rw [if_neg (by omega)]
      refine ⟨by omega, fun h q1 q2 => ?_, Or.inr (Nat.le_refl _)⟩
      cases hbh : bd r h with
      | false => rfl
      | true =>
        rcases (bd_iff hn).mp hbh with q | q
        · have := WS_ge hn 40 0 (by omega) h q; omega
        · omega
def bd2 (r s : Row) (g : Nat) : Bool := bd r g || bd s g
theorem f4_work_L_n {I : gI} {b b1 n : Nat} {r s : Row} (h : BR I b r) (h1 : BR I b1 s) (hN : n ≤ 40) : ∀ (k q beg beg1 g : Nat), g ≤ n → n < k + g → q ≤ g → Nx r g beg → Nx s g beg1 → beg ≤ 40 → beg1 ≤ 40 → f4_work_L23 k I b b1 (nI q) (nI beg) (nI beg1) (nI n) (nI g) = some (nI (q + cnt (bd2 r s) g (n - g))) := by
  have hn := ng_le h.1
  have hn1 := ng_le h1.1
  intro k
  induction k with
  | zero => intro q beg beg1 g a1 a2; omega
  | succ k ih =>
    intro q beg beg1 g a1 a2 a3 x1 x2 y1 y2
    rw [f4_work_L23]
    by_cases hg : g = n
    · subst hg
      rw [if_pos (by rw [xI_le (by omega) (by omega)]; omega), Nat.sub_self]
      rfl
    · have ec : n - g = (n - (g + 1)) + 1 := by omega
      have i1 : (nI g = nI beg) = (g = beg) := xI_eq (by omega) (by omega)
      have i2 : (nI g = nI beg1) = (g = beg1) := xI_eq (by omega) (by omega)
      rw [if_neg (by rw [xI_le (by omega) (by omega)]; omega), ec]
      simp only [cnt]
      have e40 : ∀ (t : Row), ng t ≤ 40 → (if g < ng t then we t g else 40) ≤ 40 := fun t ht => by
        split
        · rename_i q3; have := we_le q3; omega
        · exact Nat.le_refl _
      by_cases c1 : g = beg
      · have b1' := (Nx_bd x1 (by omega)).mp c1
        have n1' := (Nx_end hn b1').resolve_right (by omega)
        rw [if_pos (i1.mpr c1), if_pos (i1.mpr c1), f4_endOf_n h (by omega)]
        simp only [Option.bind_some]
        by_cases c2 : g = beg1
        · have b2' := (Nx_bd x2 (by omega)).mp c2
          have n2' := (Nx_end hn1 b2').resolve_right (by omega)
          rw [if_pos (i2.mpr c2), f4_endOf_n h1 (by omega)]
          simp only [Option.bind_some]
          rw [k1, nI_add, nI_add, ih (q + 1) _ _ (g + 1) (by omega) (by omega) (by omega) n1' n2' (e40 r hn) (e40 s hn1)]
          have e : bd2 r s g = true := by unfold bd2; rw [b1']; rfl
          rw [e, Bool.toNat_true, Nat.add_assoc]
        · rw [if_neg (fun z => c2 (i2.mp z)), k1, nI_add, nI_add, ih (q + 1) _ _ (g + 1) (by omega) (by omega) (by omega) n1' (Nx_skip x2 c2) (e40 r hn) y2]
          have e : bd2 r s g = true := by unfold bd2; rw [b1']; rfl
          rw [e, Bool.toNat_true, Nat.add_assoc]
      · rw [if_neg (fun z => c1 (i1.mp z))]
        have f1' : bd r g = false := by
          cases hbb : bd r g with
          | false => rfl
          | true => exact absurd ((Nx_bd x1 (by omega)).mpr hbb) c1
        by_cases c2 : g = beg1
        · have b2' := (Nx_bd x2 (by omega)).mp c2
          have n2' := (Nx_end hn1 b2').resolve_right (by omega)
          rw [if_pos (i2.mpr c2), if_neg (fun z => c1 (i1.mp z)), if_pos (i2.mpr c2), f4_endOf_n h1 (by omega)]
          simp only [Option.bind_some]
          rw [k1, nI_add, nI_add, ih (q + 1) _ _ (g + 1) (by omega) (by omega) (by omega) (Nx_skip x1 c1) n2' y1 (e40 s hn1)]
          have e : bd2 r s g = true := by unfold bd2; rw [b2', Bool.or_true]
          rw [e, Bool.toNat_true, Nat.add_assoc]
        · have f2' : bd s g = false := by
            cases hbb : bd s g with
            | false => rfl
            | true => exact absurd ((Nx_bd x2 (by omega)).mpr hbb) c2
          rw [if_neg (fun z => c2 (i2.mp z)), if_neg (fun z => c1 (i1.mp z)), if_neg (fun z => c2 (i2.mp z)), k1, nI_add, ih q _ _ (g + 1) (by omega) (by omega) (by omega) (Nx_skip x1 c1) (Nx_skip x2 c2) y1 y2]
          have e : bd2 r s g = false := by unfold bd2; rw [f1', f2']; rfl
          rw [e, Bool.toNat_false, Nat.zero_add]
/-- whether a word of one of the two ends there -/
def en2 (r s : Row) (g : Nat) : Bool := decide (g ∈ EL r 0) || decide (g ∈ EL s 0)
def wkR (r s : Row) : Nat := cnt (en2 r s) 0 41
theorem EL_last {r : Row} (hn : ng r ≤ 40) (h : 0 < ng r) : ng r ∈ EL r 0 := by
  have h1 := WS_EL hn 40 0 (by omega) (by omega)
  have h2 : ng r ∈ WS r 0 ++ [ng r] := List.mem_append_right _ List.mem_cons_self
  rw [h1] at h2
  rcases List.mem_cons.mp h2 with q | q
  · omega
  · exact q
theorem wk_eq {r s : Row} (hr : ng r ≤ 40) (hs : ng s ≤ 40) : cnt (bd2 r s) 0 (max (ng r) (ng s)) = wkR r s := by
  unfold wkR
  have hen : ∀ g, en2 r s g = true → 0 < g ∧ g ≤ max (ng r) (ng s) := by
    intro g hg
    unfold en2 at hg
    rw [Bool.or_eq_true, decide_eq_true_iff, decide_eq_true_iff] at hg
    rcases hg with q | q
    · have := EL_ge hr q; omega
    · have := EL_ge hs q; omega
  have hbe : ∀ g, 0 < g → bd2 r s g = en2 r s g := by
    intro g hg
    unfold bd2 en2 bd
    have : ¬ g = 0 := by omega
    simp [this]
  generalize hN : max (ng r) (ng s) = N at hen
  cases N with
  | zero =>
    have : cnt (en2 r s) 0 41 = 0 := cnt_zero fun k hk => by
      cases he : en2 r s (0 + k) with
      | false => rfl
      | true => have := hen _ he; omega
    rw [this]
    rfl
  | succ N =>
    have e1 : cnt (bd2 r s) 0 (N + 1) = 1 + cnt (en2 r s) 1 N := by
      have b0 : bd2 r s 0 = true := by simp [bd2, bd]
      have c0 : cnt (bd2 r s) 1 N = cnt (en2 r s) 1 N := cnt_congr fun k hk => hbe _ (by omega)
      simp only [cnt, Nat.zero_add, b0, c0, Bool.toNat_true]
    have e2 : (41 : Nat) = (N + 1) + (1 + (40 - (N + 1))) := by omega
    have e3 : cnt (en2 r s) 0 (N + 1) = cnt (en2 r s) 1 N := by
      have : en2 r s 0 = false := by
        cases he : en2 r s 0 with
        | false => rfl
        | true => have := hen _ he; omega
      simp only [cnt, Nat.zero_add, this, Bool.toNat_false]
    have e4 : en2 r s (N + 1) = true := by
      unfold en2
      rw [Bool.or_eq_true, decide_eq_true_iff, decide_eq_true_iff]
      by_cases q : ng r = N + 1
      · left
        rw [← q]
        exact EL_last hr (by omega)
      · right
        have q2 : ng s = N + 1 := by omega
        rw [← q2]
        exact EL_last hs (by omega)
    have e5 : cnt (en2 r s) (0 + (N + 1) + 1) (40 - (N + 1)) = 0 := cnt_zero fun k hk => by
      cases he : en2 r s (0 + (N + 1) + 1 + k) with
      | false => rfl
      | true => have := hen _ he; omega
    rw [e1, e2, cnt_add (en2 r s) (N + 1) 0, e3, cnt_add (en2 r s) 1 (0 + (N + 1)), e5]
    simp only [cnt, Nat.zero_add, e4, Bool.toNat_true]
    omega
theorem f4_work_n {I : gI} {b b1 : Nat} {r s : Row} (h : BR I b r) (h1 : BR I b1 s) : f4_work I b b1 = some (nI (wkR r s)) := by
  have hn := ng_le h.1
  have hn1 := ng_le h1.1
  unfold f4_work
  rw [f0_groupCount_n h, f0_groupCount_n h1]
  have em : (if nI (ng r) < nI (ng s) then nI (ng s) else nI (ng r)) = nI (max (ng r) (ng s)) := by
    by_cases h3 : ng r < ng s
    · rw [if_pos (by rw [xI_lt (by omega) (by omega)]; exact h3)]
      have e : max (ng r) (ng s) = ng s := by omega
      rw [e]
    · rw [if_neg (by rw [xI_lt (by omega) (by omega)]; exact h3)]
      have e : max (ng r) (ng s) = ng r := by omega
      rw [e]
  rw [em, k0, f4_work_L_n h h1 (by omega) FU 0 0 0 0 (by omega) (by unfold FU; omega) (by omega) (Nx_0 r) (Nx_0 s) (by omega) (by omega), Nat.sub_zero, Nat.zero_add, wk_eq hn hn1]
