/-! the law -/
section
variable {I : gI} {A : Snap} {H : List Snap}
theorem ACT_ite {p : Prop} [Decidable p] {a b : Option (Int32 × gI)} (h1 : ACT I A H a) (h2 : ACT I A H b) : ACT I A H (if p then a else b) := by
  split <;> assumption
theorem ACT_eta {c : Option (Int32 × gI)} (h : ACT I A H c) : ACT I A H (c.bind fun q => some (q.1, q.2)) := by
  obtain ⟨v, J, rfl, h2⟩ := h
  exact ⟨v, J, rfl, h2⟩
theorem ACT_low {x m : Int32} {n : Nat} {f : Int32 → Option (Int32 × gI)} (hm : m = nI n) (h0 : 0 < n) (hn : n < 2 ^ 31) (h : ∀ v, ACT I A H (f v)) : ACT I A H ((fL_low x m).bind f) := by
  obtain ⟨j, _, e⟩ := low_n x h0 hn
  rw [hm, e]
  exact h _
theorem ACT_set {x e z m : Int32} {r : Nat} (hc : CR I A H) (hr : r < A.1) (hm : m = nI r) : ACT I A H ((f5_row I m 0).bind fun v => (fL_low e (1 + v)).bind fun w => (f5_set I x w z).bind fun q => some (q.1, q.2)) := by
  have h8 := hc.n8
  have l0 := (hc.rows (show r < 8 by omega)).1.1
  have e0 : f5_row I m 0 = some (nI (A.2 r).1) := by
    rw [hm]
    exact row_n (w := 0) hc hr (by omega)
  rw [e0]
  simp only [Option.bind_some]
  exact ACT_low (n := 1 + (A.2 r).1) (by rw [k1, nI_add]) (by omega) (by omega) fun w => ACT_eta (act_set hc _ _ _)
theorem acts_30 {t r : Nat} {y : Int32} (hc : CR I A H) (hT : TT I t) (hn : 1 ≤ A.1) (hr : r ≤ A.1) : ACT I A H (fL_acts_J30 I y (nI A.1) (nI r)) := by
  have h8 := hc.n8
  unfold fL_acts_J30
  refine ACT_low (n := 16) rfl (by omega) (by omega) fun v => ?_
  have ap : ∀ (x : Int32) (a : Int32) (f : Int32 → Int32) (m : Int32) (n : Nat), m = nI n → 0 < n → n < 2 ^ 31 → ACT I A H ((fL_low x m).bind fun v => (f5_append I (nI r) a (f v)).bind fun q => some (q.1, q.2)) := fun x a f m n hm h0 h1 => ACT_low hm h0 h1 fun v => ACT_eta (act_append hc _ _ _)
  have wr : ∀ (x : Int32) (a : Int32) (f : Int32 → Int32) (m : Int32) (n : Nat), m = nI n → 0 < n → n < 2 ^ 31 → ACT I A H ((fL_low x m).bind fun v => (f5_write I (nI r) a (f v)).bind fun q => some (q.1, q.2)) := fun x a f m n hm h0 h1 => ACT_low hm h0 h1 fun v => ACT_eta (act_write hc _ _ _)
  have se : ∀ (x z : Int32), ACT I A H (if nI A.1 ≤ nI r then (f5_row I 0 0).bind fun v => (fL_low x (1 + v)).bind fun w => (f5_set I (nI r) w z).bind fun q => some (q.1, q.2) else (f5_row I (nI r) 0).bind fun v => (fL_low x (1 + v)).bind fun w => (f5_set I (nI r) w z).bind fun q => some (q.1, q.2)) := fun x z => by
    by_cases h : A.1 ≤ r
    · rw [if_pos (by rw [xI_le (by omega) (by omega)]; exact h)]
      exact ACT_set hc hn k0
    · rw [if_neg (by rw [xI_le (by omega) (by omega)]; exact h)]
      exact ACT_set hc (by omega) rfl
  have op : ∀ (x x' x'' : Int32), ACT I A H ((fL_low x 4).bind fun a => (fL_low x' (nI A.1)).bind fun b => (fL_low x'' (nI A.1)).bind fun c => (f5_operate I (nI r) a b c).bind fun q => some (q.1, q.2)) := fun x x' x'' => ACT_low k4 (by omega) (by omega) fun a => ACT_low rfl (by omega) (by omega) fun b => ACT_low rfl (by omega) (by omega) fun c => ACT_eta (act_operate hc _ _ _ _)
  have sh : ∀ (x : Int32) (f : Int32 → Int32), ACT I A H ((fL_low x 1210).bind fun v => (f5_shift I (nI r) (f v)).bind fun q => some (q.1, q.2)) := fun x f => ACT_low (n := 1210) rfl (by omega) (by omega) fun v => ACT_eta (act_shift hc _ _)
  refine ACT_ite (ACT_ite (ap _ _ (fun v => 15 * (1 + v)) 22 22 rfl (by omega) (by omega)) (ap _ _ (fun v => 1 + v) 90 90 rfl (by omega) (by omega))) ?_
  refine ACT_ite (ACT_ite (ap _ _ (fun v => 15 * (1 + v)) 22 22 rfl (by omega) (by omega)) (ap _ _ (fun v => 1 + v) 90 90 rfl (by omega) (by omega))) ?_
  refine ACT_ite (ACT_ite (ap _ _ (fun v => 15 * (1 + v)) 22 22 rfl (by omega) (by omega)) (ap _ _ (fun v => 1 + v) 90 90 rfl (by omega) (by omega))) ?_
  refine ACT_ite (wr _ _ (fun v => 1 + v) 17 17 rfl (by omega) (by omega)) ?_
  refine ACT_ite (wr _ _ (fun v => 1 + v) 17 17 rfl (by omega) (by omega)) ?_
  refine ACT_ite (se _ _) ?_
  refine ACT_ite (se _ _) ?_
  refine ACT_ite (ACT_low (n := 610) rfl (by omega) (by omega) fun v => ACT_eta (act_resize hc _ _)) ?_
  refine ACT_ite (op _ _ _) ?_
  refine ACT_ite (op _ _ _) ?_
  refine ACT_ite (op _ _ _) ?_
  refine ACT_ite (ACT_eta (act_not hc _)) ?_
  refine ACT_ite (sh _ (fun v => v - 605)) ?_
  refine ACT_ite (sh _ (fun v => v - 605)) ?_
  exact ACT_ite (ACT_eta (act_evaluate hc hT _)) (ACT_eta (act_make hc))
theorem acts_n {t : Nat} {y : Int32} (hc : CR I A H) (hT : TT I t) (hn : 1 ≤ A.1) : ACT I A H (fL_acts I y) := by
  have h8 := hc.n8
  unfold fL_acts
  rw [count_0 hc]
  simp only [Option.bind_some]
  refine ACT_ite ?_ ?_
  · obtain ⟨j, hj, e⟩ := low_n (y >>> (4 &&& 31)) (n := A.1 + 1) (by omega) (by omega)
    rw [k1, nI_add, e]
    exact acts_30 hc hT hn (by omega)
  · obtain ⟨j, hj, e⟩ := low_n (y >>> (4 &&& 31)) (n := A.1) (by omega) (by omega)
    rw [e]
    exact acts_30 hc hT hn (by omega)
end
/-- what stands between the law's actions -/
def ST (I : gI) (A : Snap) (H : List Snap) : Prop := CR I A H ∧ TT I 4 ∧ 1 ≤ A.1 ∧ ∀ s ∈ H, 1 ≤ s.1
section
variable {L : Nat} {xs : Nat → Int32} {K : gI → Int32 → Option Bool} {I : gI} {A : Snap} {H : List Snap} {x3 y : Int32}
theorem bd_t {c : Option (Bool × gI)} {J : gI} {F : gI → Option Bool} (h : c = some (true, J)) : (c.bind fun q => if q.1 = true then F q.2 else some false) = F J := by
  subst h
  rfl
theorem J256_a (h : ST I A H) (hK : ∀ J B G, ST J B G → K J (x3 + 1) = some true) {q b : Nat} (hq : q < A.1) (hb : b < 15) : ((fL_isBest I (nI q) (nI b)).bind fun q49 => (if q49.1 = true then K q49.2 (x3 + 1) else some false)) = some true := by
  obtain ⟨hc, hT, hn, hH⟩ := id h
  obtain ⟨J, H', b1, b2, b3, b4⟩ := isBest_n hc hq hb
  exact (bd_t (F := fun J => K J (x3 + 1)) b1).trans (hK J A H' ⟨b2, hT.kept b3, hn, fun s hs => hH s (b4 s hs)⟩)
theorem bnd {α β : Type} {o : Option α} {a : α} {f : α → Option β} (h : o = some a) : o.bind f = f a := by
  subst h
  rfl
theorem J256_n (h : ST I A H) (hK : ∀ J B G, ST J B G → K J (x3 + 1) = some true) : fL_law_J256 L xs K I x3 y (nI A.1) = some true := by
  have h8 := h.1.n8
  have hn := h.2.2.1
  obtain ⟨q, hq, e1⟩ := low_n (y >>> (7 &&& 31)) (n := A.1) (by omega) (by omega)
  obtain ⟨b, hb, e2⟩ := low_n (y >>> (16 &&& 31)) (n := 15) (by omega) (by omega)
  rw [← k15] at e2
  have key := J256_a (x3 := x3) h hK hq hb
  have other := hK I A H h
  unfold fL_law_J256
  by_cases h1 : (x3 - x3 / 8 * 8) = 3
  · exact (if_pos h1).trans ((bnd e1).trans ((bnd e2).trans key))
  · exact (if_neg h1).trans other
theorem J198_n (h : ST I A H) (hK : ∀ J B G, ST J B G → K J (x3 + 1) = some true) : fL_law_J198 L xs K I x3 y = some true := by
  obtain ⟨hc, hT, hn, hH⟩ := id h
  have h8 := hc.n8
  unfold fL_law_J198
  obtain ⟨q, hq, e1⟩ := low_n (y >>> (6 &&& 31)) (n := A.1) (by omega) (by omega)
  rw [count_0 hc]
  simp only [Option.bind_some]
  rw [e1]
  simp only [Option.bind_some]
  rw [packed_n hc hq]
  simp only [Option.bind_some]
  rw [if_pos trivial]
  by_cases h1 : (x3 - x3 / 3 * 3) = 1
  · rw [if_pos h1]
    obtain ⟨a, ha, e2⟩ := low_n (y >>> (9 &&& 31)) (n := A.1) (by omega) (by omega)
    obtain ⟨b, hb, e3⟩ := low_n (y >>> (12 &&& 31)) (n := A.1) (by omega) (by omega)
    obtain ⟨J, b1, b2, b3⟩ := sound_n hc ha hb
    rw [e2]
    simp only [Option.bind_some]
    rw [e3]
    simp only [Option.bind_some]
    rw [b1]
    simp only [Option.bind_some]
    rw [if_pos trivial]
    exact J256_n (H := H) ⟨b2, hT.kept b3, hn, hH⟩ hK
  · rw [if_neg h1]
    exact J256_n h hK
theorem undo_nil (hc : CR I A []) : f5_undo I = some (-2, I) := by
  unfold f5_undo
  rw [hc.hl, if_pos (by rfl)]
theorem w8 {n : Nat} (h1 : 1 ≤ n) (h : n ≤ 8) : ¬ f5_isWithin 8 0 (nI n - 1) = true := by
  unfold f5_isWithin
  rw [k0, k1, k8, xI_sub h1, if_neg (by rw [xI_lt (by omega) (by omega)]; omega), if_pos (by rw [xI_lt (by omega) (by omega)]; omega)]
  decide
theorem wm1 {n : Nat} : ¬ f5_isWithin (-1) 0 (nI n - 1) = true := by
  unfold f5_isWithin
  rw [if_pos (by decide)]
  decide
theorem top_0 (n : Nat) (ρ : Nat → Row) : topS (fun _ => 0) n ρ = .inl (1, 0, 0) := rfl
theorem L308_end {J : gI} (hc : CR I A []) (hT : TT I 4) (hn : 1 ≤ A.1) (hJ : J = uI I 19 1 0) : ∃ J', f5_evaluate J 0 = some (-1000, J') ∧ CR J' A [] ∧ J' 19 2 = 1 ∧ J' 19 3 = 0 := by
  have h8 := hc.n8
  have c1 : CR J A [] := CR_kept hc (fun c _ h2 => by rw [hJ, uI_row (by omega)])
  have b1 : J 19 1 = nI 0 := by rw [hJ, uI_self]; rfl
  obtain ⟨b, I1, r1, r2, r3, r4⟩ := f2_read_n (t := 0) (ch := fun _ => 0) (n := A.1) (ρ := A.2) ⟨by omega, fun j hj => by omega, fun _ _ => rfl⟩ hn h8 b1 (fun j hj => by omega) (fun q hq => c1.rows hq)
  rw [top_0] at r4
  obtain ⟨s1, s2, s3, s4⟩ := r4
  refine ⟨I1, ?_, CR_kept c1 (fun c a b => r2 c (by omega) (by omega)), s2, s3⟩
  have h1 : f5_isWithin 0 0 (nI A.1 - 1) = true := isWp (q := 0) h8 (by omega)
  unfold f5_evaluate
  rw [f5_isRow_n c1, if_pos h1, c1.n, r1]
  simp only [Option.bind_some]
  rw [s1, if_neg (by decide), s3]
  rfl
theorem L308_n : ∀ (k : Nat) (I : gI) (A : Snap) (H : List Snap) (n j : Nat), ST I A H → H.length + j = n → n ≤ 5 → n < k + j → fL_law_L308 L xs k I (nI n) (nI j) = some true := by
  intro k
  induction k with
  | zero => intro I A H n j h h1 h2 h3; omega
  | succ k ih =>
    intro I A H n j h h1 h2 h3
    obtain ⟨hc, hT, hn, hH⟩ := id h
    have h8 := hc.n8
    rw [fL_law_L308]
    cases H with
    | nil =>
      have h1' : j = n := by
        have : ([] : List Snap).length = 0 := rfl
        omega
      obtain ⟨J', d1, d2, d3, d4⟩ := L308_end hc hT hn rfl
      rw [if_pos (by rw [xI_le (by omega) (by omega)]; omega), undo_nil hc]
      simp only [Option.bind_some]
      rw [if_pos trivial, count_5 hT]
      simp only [Option.bind_some]
      rw [if_pos (by decide)]
      unfold f5_clearText
      rw [hT.2.1]
      simp only [Option.bind_some]
      rw [if_pos (by decide), d1]
      simp only [Option.bind_some]
      have f0 : f5_failure J' 0 = 1 := by
        unfold f5_failure
        rw [if_pos (by decide), d3, if_neg (by decide), if_pos rfl]
      have f1 : f5_failure J' 1 = 0 := by
        unfold f5_failure
        rw [if_pos (by decide), d3, if_neg (by decide), if_neg (by decide), if_pos rfl, d4]
      rw [if_pos trivial, if_pos f0, if_pos f1, row_bad d2 (w8 hn h8)]
      simp only [Option.bind_some]
      rw [if_pos trivial, count_6]
      simp only [Option.bind_some]
      rw [if_pos trivial, same_bad d2 (w8 hn h8)]
      simp only [Option.bind_some]
      rw [if_pos trivial, best_bad d2 wm1]
      simp only [Option.bind_some]
      rw [if_pos trivial]
    | cons s t =>
      have ln : (s :: t).length = t.length + 1 := rfl
      obtain ⟨J, b1, b2, b3⟩ := f5_undo_n hc
      have s1 : 1 ≤ s.1 := hH s List.mem_cons_self
      have sT : ST J s t := ⟨b2, hT.kept ⟨by rw [b3 19 (by omega) (by omega)], b3 20 (by omega) (by omega)⟩, s1, fun z hz => hH z (List.mem_cons_of_mem _ hz)⟩
      have s8 := b2.n8
      have nx := ih J s t n (j + 1) sT (by omega) h2 (by omega)
      have pk : fL_isPacked J 0 = some true := packed_n (q := 0) b2 (by omega)
      rw [if_neg (by rw [xI_le (by omega) (by omega)]; omega), b1]
      simp only [Option.bind_some]
      rw [if_pos (by rw [k1, xI_sub (by omega), xI_sub (by omega), show n - 1 - j = t.length by omega]), count_0 b2]
      simp only [Option.bind_some]
      rw [if_neg (by rw [k0, xI_le (by omega) (by omega)]; omega), pk]
      simp only [Option.bind_some]
      rw [if_pos trivial, k1, nI_add]
      exact nx
theorem cell_n {t : Nat} (hL : L ≤ 260) (ht : t ≤ 24) : ∃ v, fL_cell L xs (nI t) = some v := by
  unfold fL_cell
  by_cases h : L ≤ t
  · rw [if_pos (by rw [xI_le (by omega) (by omega)]; exact h)]
    exact ⟨_, rfl⟩
  · rw [if_neg (by rw [xI_le (by omega) (by omega)]; exact h), xI_ib (by omega), if_pos (by simp; omega)]
    exact ⟨_, rfl⟩
theorem nn_lt {v : Int32} (h : v < 0) : ¬ 0 ≤ v := by
  rw [Int32.lt_iff_toInt_lt] at h
  rw [Int32.le_iff_toInt_le]
  omega
theorem nn_le {v : Int32} (h : 0 ≤ v) : ¬ v < 0 := by
  rw [Int32.le_iff_toInt_le] at h
  rw [Int32.lt_iff_toInt_lt]
  omega
theorem L118_n (hL : L ≤ 260) : ∀ (k t : Nat) (I : gI) (A : Snap) (H : List Snap), ST I A H → t ≤ 24 → 24 < k + t → fL_law_L118 L xs k I (nI t) = some true := by
  intro k
  induction k with
  | zero => intro t I A H h h1 h2; omega
  | succ k ih =>
    intro t I A H h h1 h2
    obtain ⟨hc, hT, hn, hH⟩ := id h
    have h8 := hc.n8
    have h5 := hc.h5
    rw [fL_law_L118]
    by_cases ht : t = 24
    · subst ht
      rw [if_pos (by decide), count_4 hc]
      simp only [Option.bind_some]
      rw [k0]
      exact L308_n FU I A H H.length 0 h rfl h5 (by unfold FU; omega)
    · obtain ⟨v, e1⟩ := cell_n (L := L) (xs := xs) (t := 1 + t) hL (by omega)
      have hK : ∀ J B G, ST J B G → fL_law_L118 L xs k J (nI t + 1) = some true := fun J B G hs => by
        rw [k1, nI_add]
        exact ih (t + 1) J B G hs (by omega) (by omega)
      obtain ⟨w, J, a1, a2, a3⟩ := acts_n (y := v) hc hT hn
      rw [if_neg (by rw [show (24 : Int32) = nI 24 from rfl, xI_le (by omega) (by omega)]; omega), show (1 : Int32) + nI t = nI (1 + t) from by rw [k1, nI_add], e1]
      simp only [Option.bind_some]
      rw [all_n hc]
      simp only [Option.bind_some]
      rw [a1]
      simp only [Option.bind_some]
      rcases a3 with ⟨w0, c1⟩ | ⟨w0, A', hA, c1⟩
      · rw [if_neg (nn_lt w0), all_n c1]
        simp only [Option.bind_some]
        rw [if_pos (cmp_self _)]
        unfold fL_law_J164
        rw [if_pos w0]
        exact J198_n (A := A) (H := H) ⟨c1, hT.kept a2, hn, hH⟩ hK
      · rw [if_pos w0]
        unfold fL_law_J164
        rw [if_neg (nn_le w0)]
        have hr : ∀ s ∈ recH A H, 1 ≤ s.1 := fun s hs => by
          rw [recH_eq] at hs
          rcases List.mem_cons.mp hs with rfl | h2
          · exact hn
          · exact hH s (dr_mem h2)
        by_cases hu : ((v >>> (28 &&& 31)) &&& 3) = 0
        · rw [if_pos hu]
          rw [recH_eq] at c1
          obtain ⟨J2, b1, b2, b3⟩ := f5_undo_n c1
          have l3 := b2.h5
          rw [b1]
          simp only [Option.bind_some]
          rw [if_neg (by rw [k0, xI_lt (by omega) (by omega)]; omega), all_n b2]
          simp only [Option.bind_some]
          rw [if_pos (cmp_self _)]
          exact J198_n (A := A) (H := dr H) ⟨b2, (hT.kept a2).kept ⟨by rw [b3 19 (by omega) (by omega)], b3 20 (by omega) (by omega)⟩, hn, fun s hs => hH s (dr_mem hs)⟩ hK
        · rw [if_neg hu]
          exact J198_n (A := A') (H := recH A H) ⟨c1, hT.kept a2, by omega, hr⟩ hK
/-! the start -/
def nark (c : Nat) : Bool := vp_nar .char ((nI c).toUInt32 % 65536).toInt32 == nI c
theorem nark_all : ((List.range 256).all nark) = true := by decide +kernel
theorem type_n {t c : Nat} (hc : CR I A H) (hT : TT I t) (ht : t < 100) (c1 : 1 ≤ c) (c2 : c ≤ 255) : ∃ J, f5_type I (nI c) = some (nI (t + 1), J) ∧ CR J A H ∧ TT J (t + 1) := by
  obtain ⟨t1, t2, t4⟩ := hT
  have nar : vp_nar .char ((nI c).toUInt32 % 65536).toInt32 = nI c := by
    have := List.all_eq_true.mp nark_all c (List.mem_range.mpr (by omega))
    exact eq_of_beq this
  have e1 : f2_addSign I ((nI c).toUInt32 % 65536).toInt32 = some (uI (uI I 20 t (nI c)) 19 1 (nI (t + 1))) := by
    unfold f2_addSign
    rw [t2, if_neg (by rw [k100, xI_le (by omega) (by omega)]; omega), xI_ib (by omega), if_pos (by simp; omega), xI_cl (by omega), nar]
    have : uI I 20 t (nI c) 19 1 = nI t := by rw [uI_row (by omega)]; exact t2
    rw [this, k1, nI_add]
  have o2 : uI (uI I 20 t (nI c)) 19 1 (nI (t + 1)) 20 = uI I 20 t (nI c) 20 := uI_row (by omega)
  have o4 : uI (uI I 20 t (nI c)) 19 1 (nI (t + 1)) 19 1 = nI (t + 1) := uI_self _ _ _ _
  refine ⟨uI (uI I 20 t (nI c)) 19 1 (nI (t + 1)), ?_, CR_kept hc (fun d h1 h2 => by rw [uI_row (by omega), uI_row (by omega)]), by omega, o4, fun j hj => ?_⟩
  · unfold f5_type
    rw [if_pos (show f5_isWithin (nI c) 1 255 = true from isWr (m := 1) (n := 255) c1 c2 (by omega)), t2, if_pos (by rw [k100, xI_lt (by omega) (by omega)]; omega), e1]
    simp only [Option.bind_some]
    rw [o4]
  · rw [o2, uI_ap]
    by_cases hjt : j = t
    · exact ⟨c, c1, c2, by rw [if_pos ⟨rfl, hjt⟩]⟩
    · rw [if_neg (by omega)]
      exact t4 j (by omega)
theorem and1 (x : Int32) : ∃ v : Bool, x &&& 1 = nI v.toNat := by
  refine ⟨x.toBitVec.getLsbD 0, ?_⟩
  apply Int32.toBitVec_inj.mp
  have e : (x &&& 1).toBitVec = x.toBitVec &&& 1#32 := rfl
  rw [e, xI_bv]
  apply BitVec.eq_of_getLsbD_eq
  intro i hi
  rw [BitVec.getLsbD_and, BitVec.getLsbD_one]
  cases hx : x.toBitVec.getLsbD 0 with
  | true =>
    by_cases h0 : i = 0
    · subst h0
      simp [hx]
    · simp [h0, BitVec.getLsbD_one]
  | false =>
    by_cases h0 : i = 0
    · subst h0
      rw [hx]
      simp
    · simp [h0]
def recN (n : Nat) (l : List Nat) : List Nat := n :: (if l.length = 5 then l.dropLast else l)
theorem recN_n (A : Snap) (H : List Snap) : (recH A H).map Prod.fst = recN A.1 (H.map Prod.fst) := by
  unfold recH recN
  rw [List.map_cons, List.length_map]
  split
  · rw [List.map_dropLast]
  · rfl
def LL : Nat → List Nat
  | 0 => []
  | i + 1 => recN (i + 1) (recN i (LL i))
theorem J93_n (hL : L ≤ 260) {x2 : Int32} (hc : CR I A H) (hT : TT I 2) (hn : 1 ≤ A.1) (hH : ∀ s ∈ H, 1 ≤ s.1) : fL_law_J93 L xs I x2 = some true := by
  unfold fL_law_J93
  obtain ⟨J1, a1, a2, a3⟩ := type_n (c := 126) hc hT (by omega) (by omega) (by omega)
  obtain ⟨j, hj, e⟩ := low_n (x2 >>> (13 &&& 31)) (n := 4) (by omega) (by omega)
  obtain ⟨J2, b1, b2, b3⟩ := type_n (c := 48 + j) a2 a3 (by omega) (by omega) (by omega)
  have a1 : f5_type I 126 = some (nI (2 + 1), J1) := a1
  have e : fL_low (x2 >>> (13 &&& 31)) 4 = some (nI j) := e
  rw [a1]
  simp only [Option.bind_some]
  rw [e]
  simp only [Option.bind_some]
  rw [k48, nI_add, b1]
  simp only [Option.bind_some]
  rw [k0]
  exact L118_n hL FU 0 J2 A H ⟨b2, b3, hn, hH⟩ (by omega) (by unfold FU; omega)
theorem L16_n (hL : L ≤ 260) {x2 : Int32} : ∀ (k i : Nat) (I : gI) (A : Snap) (H : List Snap), CR I A H → TT I 0 → A.1 = i → H.map Prod.fst = LL i → i ≤ 3 → 3 < k + i → fL_law_L16 L xs k I x2 (nI i) = some true := by
  intro k
  induction k with
  | zero => intro i I A H h h1 h2 h3 h4 h5; omega
  | succ k ih =>
    intro i I A H hc hT hi hm h3 h4
    rw [fL_law_L16]
    by_cases h : i = 3
    · subst h
      have hn : 1 ≤ A.1 := by omega
      have hH : ∀ s ∈ H, 1 ≤ s.1 := fun s hs => by
        have : s.1 ∈ LL 3 := by
          rw [← hm]
          exact List.mem_map_of_mem hs
        have all : ∀ z ∈ LL 3, 1 ≤ z := by decide
        exact all _ this
      obtain ⟨j, hj, e⟩ := low_n (x2 >>> (9 &&& 31)) (n := 3) (by omega) (by omega)
      obtain ⟨J1, a1, a2, a3⟩ := type_n (c := 48 + j) hc hT (by omega) (by omega) (by omega)
      have e : fL_low (x2 >>> (9 &&& 31)) 3 = some (nI j) := e
      rw [if_pos (by decide), e]
      simp only [Option.bind_some]
      rw [k48, nI_add, a1]
      simp only [Option.bind_some]
      split
      · obtain ⟨J2, b1, b2, b3⟩ := type_n (c := 38) a2 a3 (by omega) (by omega) (by omega)
        have b1 : f5_type J1 38 = _ := b1
        rw [b1]
        exact J93_n hL b2 b3 hn hH
      · obtain ⟨J2, b1, b2, b3⟩ := type_n (c := 94) a2 a3 (by omega) (by omega) (by omega)
        have b1 : f5_type J1 94 = _ := b1
        rw [b1]
        exact J93_n hL b2 b3 hn hH
    · obtain ⟨J1, a1, a2, a3⟩ := make_n hc (by omega)
      obtain ⟨j, hj, e⟩ := low_n (x2 >>> ((3 * nI i) &&& 31)) (n := 300) (by omega) (by omega)
      obtain ⟨v, hv⟩ := and1 (x2 >>> (nI i &&& 31))
      rw [hi] at a3
      have l0 : (updR A.2 i (cutR (A.2 i) 0) i).1 = 0 := by rw [updR_self]; rfl
      obtain ⟨J2, w, b1, b2, b3⟩ := append_n (v := v) (n := 1 + j) (q := i) a3 (by show i < i + 1; omega) (by omega) (by show (updR A.2 i (cutR (A.2 i) 0) i).1 + (1 + j) ≤ 600; omega)
      have e : fL_low (x2 >>> ((3 * nI i) &&& 31)) 300 = some (nI j) := e
      rw [if_neg (by rw [show (3 : Int32) = nI 3 from rfl, xI_le (by omega) (by omega)]; omega), a1]
      simp only [Option.bind_some]
      rw [e]
      simp only [Option.bind_some]
      rw [hv, k1, nI_add, b1]
      simp only [Option.bind_some]
      rw [nI_add]
      refine ih (i + 1) J2 _ _ b3 ((hT.kept a2).kept b2) rfl ?_ (by omega) (by omega)
      rw [recN_n, recN_n, hm, hi]
      rfl
theorem CR_I0 : CR I0 (0, fun _ => R0) [] := by
  refine ⟨I0_0 (by omega) (by omega), by decide, fun q hq => ⟨R0_ok, I0_0 (by omega) (by omega), fun j _ => ?_⟩, I0_0 (by omega) (by omega), by decide, ⟨fun j hj => ?_, fun j hj => ?_, fun i j hi hj e => ?_⟩, trivial⟩
  · rw [gw_R0]
    exact I0_0 (by omega) (by omega)
  · rw [cO_I0 hj]
    rcases (show j = 0 ∨ j = 1 ∨ j = 2 ∨ j = 3 ∨ j = 4 by omega) with rfl | rfl | rfl | rfl | rfl <;> rfl
  · rw [cO_I0 hj, I0_3]
  · rw [cO_I0 hi, cO_I0 hj] at e
    omega
end
theorem HLAW_of (L : Nat) (xs : Nat → Int32) (hL : L ≤ 260) : lawF L xs = some true := by
  unfold lawF
  obtain ⟨v, e⟩ := cell_n (L := L) (xs := xs) (t := 0) hL (by omega)
  rw [k0, e]
  simp only [Option.bind_some]
  exact L16_n hL FU 0 I0 (0, fun _ => R0) [] CR_I0 ⟨by omega, I0_0 (by omega) (by omega), fun j hj => by omega⟩ rfl rfl (by omega) (by unfold FU; omega)
