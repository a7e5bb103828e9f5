/-! what the reference writes -/
/-- n numbers have been copied within cell 80 -/
def cpA (I : gI) (a b n : Nat) : gI := fun c j => if c = 80 ∧ b ≤ j ∧ j < b + n then I 80 (a + (j - b)) else I c j
theorem cpA_0 (I : gI) (a b : Nat) : cpA I a b 0 = I := by
  funext c j
  unfold cpA
  rw [if_neg (by omega)]
theorem cpA_s {I : gI} {a b n : Nat} (h : b ≤ a ∨ a + n < b) : uI (cpA I a b n) 80 (b + n) ((cpA I a b n) 80 (a + n)) = cpA I a b (n + 1) := by
  have e : (cpA I a b n) 80 (a + n) = I 80 (a + n) := by
    unfold cpA
    rw [if_neg (by omega)]
  rw [e]
  funext c j
  rw [uI_ap]
  unfold cpA
  by_cases hc : c = 80
  · by_cases hj : j = b + n
    · subst hc; subst hj
      have e2 : a + (b + n - b) = a + n := by omega
      rw [if_pos ⟨rfl, rfl⟩, if_pos ⟨rfl, by omega, by omega⟩, e2]
    · rw [if_neg (by omega)]
      by_cases h2 : b ≤ j ∧ j < b + n
      · rw [if_pos ⟨hc, h2.1, h2.2⟩, if_pos ⟨hc, h2.1, by omega⟩]
      · rw [if_neg (by omega), if_neg (by omega)]
  · rw [if_neg (by omega), if_neg (by omega), if_neg (by omega)]
theorem cpA_row {I : gI} {a b n c : Nat} (h : c ≠ 80) : cpA I a b n c = I c := by
  funext j
  unfold cpA
  rw [if_neg (by omega)]
theorem cpA_in {I : gI} {a b n k : Nat} (h : k < n) : cpA I a b n 80 (b + k) = I 80 (a + k) := by
  unfold cpA
  have e : a + (b + k - b) = a + k := by omega
  rw [if_pos ⟨rfl, by omega, by omega⟩, e]
theorem cpA_out {I : gI} {a b n j : Nat} (h : j < b ∨ b + n ≤ j) : cpA I a b n 80 j = I 80 j := by
  unfold cpA
  rw [if_neg (by omega)]
theorem f6_copy_L_n {I : gI} {a b : Nat} (ha : a + 601 ≤ 48086) (hb : b + 601 ≤ 48086) (h : b ≤ a ∨ a + 601 ≤ b) : ∀ (k n : Nat), n ≤ 601 → 601 < k + n → f6_copy_L2 k (cpA I a b n) (nI a) (nI b) (nI n) = some (cpA I a b 601) := by
  intro k
  induction k with
  | zero => intro n h1 h2; omega
  | succ k ih =>
    intro n h1 h2
    rw [f6_copy_L2]
    by_cases hn : n = 601
    · subst hn
      rw [if_pos (by decide)]
    · rw [if_neg (by rw [k601, xI_le (by omega) (by omega)]; omega), nI_add, nI_add, xI_ib (by omega), if_pos (by simp; omega), xI_ib (by omega), if_pos (by simp; omega), xI_cl (by omega), xI_cl (by omega), cpA_s (by omega), k1, nI_add]
      exact ih (n + 1) (by omega) (by omega)
theorem f6_copy_n {I : gI} {a b : Nat} (ha : a + 601 ≤ 48086) (hb : b + 601 ≤ 48086) (h : b ≤ a ∨ a + 601 ≤ b) : f6_copy I (nI a) (nI b) = some (cpA I a b 601) := by
  have h1 := f6_copy_L_n (I := I) ha hb h FU 0 (by omega) (by decide)
  rw [cpA_0] at h1
  exact h1
theorem cpA_AR {I : gI} {a b n : Nat} {r : Row} (h : AR I a r) (hn : 601 ≤ n) : AR (cpA I a b n) b r := by
  have hL := h.1.1
  refine ⟨h.1, ?_, fun k hk => ?_⟩
  · have e := cpA_in (I := I) (a := a) (b := b) (n := n) (k := 0) (by omega)
    rw [Nat.add_zero, Nat.add_zero] at e
    rw [e]; exact h.2.1
  · have e : b + 1 + k = b + (1 + k) := by omega
    have e2 : a + (1 + k) = a + 1 + k := by omega
    rw [e, cpA_in (by omega), e2]
    exact h.2.2 k hk
theorem cpA_FrO {I : gI} {a b : Nat} : FrO I (cpA I a b 601) b := ⟨fun c hc => cpA_row hc, fun j h _ => cpA_out (by omega)⟩
theorem f6_at_n (r : Nat) : f6_at (nI r) = nI (601 * r) := by
  unfold f6_at
  rw [k601, xI_mul]
theorem f6_asked_n (k : Nat) : f6_asked (nI k) = nI (28854 + 601 * k) := by
  unfold f6_asked
  rw [k28854, k601, xI_mul, nI_add]
theorem asked31 : f6_asked 31 = nI 47485 := f6_asked_n 31
/-- the first m bits of the last row asked for -/
def SC (I : gI) (m : Nat) (f : Nat → Bool) : Prop := ∀ k, k < m → I 80 (47486 + k) = nI (f k).toNat
theorem SC_s {I : gI} {m : Nat} {f : Nat → Bool} {v : Int32} (h : SC I m f) (hv : v = nI (f m).toNat) : SC (uI I 80 (47486 + m) v) (m + 1) f := by
  intro k hk
  rw [uI_ap]
  by_cases e : k = m
  · subst e; rw [if_pos ⟨rfl, rfl⟩, hv]
  · rw [if_neg (by omega)]
    exact h k (by omega)
/-- nothing but the last row asked for has changed -/
def FrS (I I' : gI) : Prop := (∀ c, c ≠ 80 → I' c = I c) ∧ ∀ j, j < 47485 → I' 80 j = I 80 j
theorem FrS_uI {I : gI} {j : Nat} {x : Int32} (h : 47485 ≤ j) : FrS I (uI I 80 j x) := ⟨fun c hc => uI_row hc, fun i hi => by rw [uI_ap, if_neg (by omega)]⟩
theorem FrS.trans {I1 I2 I3 : gI} (h1 : FrS I1 I2) (h2 : FrS I2 I3) : FrS I1 I3 := ⟨fun c hc => (h2.1 c hc).trans (h1.1 c hc), fun j a => (h2.2 j a).trans (h1.2 j a)⟩
theorem FrS.rfl' {I : gI} : FrS I I := ⟨fun _ _ => rfl, fun _ _ => rfl⟩
theorem FrS.toO {I I' : gI} (h : FrS I I') (o : Nat) : FrO I I' o := ⟨h.1, fun j _ b => h.2 j b⟩
theorem AR_keptS {I I' : gI} {o : Nat} {r : Row} (h : AR I o r) (hF : FrS I I') (hs : o + 601 ≤ 47485) : AR I' o r := by
  have hL := h.1.1
  refine ⟨h.1, ?_, fun k hk => ?_⟩
  · rw [hF.2 o (by omega)]; exact h.2.1
  · rw [hF.2 (o + 1 + k) (by omega)]; exact h.2.2 k hk
/-- the end of what is built in the last row asked for: its length, and the copy -/
theorem fin_copy {I : gI} {to : Nat} {r : Row} (hr : okR r) (h : SC I r.1 r.2) (ht : to + 601 ≤ 47485) : ∃ I', f6_copy (uI I 80 47485 (nI r.1)) (nI 47485) (nI to) = some I' ∧ AR I' to r ∧ FrO I I' to := by
  refine ⟨_, f6_copy_n (by omega) (by omega) (by omega), cpA_AR ⟨hr, uI_self _ _ _ _, fun k hk => ?_⟩ (Nat.le_refl _), ?_⟩
  · rw [uI_ap, if_neg (by omega)]
    exact h k hk
  · exact ((FrS_uI (Nat.le_refl _)).toO to).trans cpA_FrO
theorem f6_result_n {op : Nat} (h : op ≤ 3) (x y : Bool) : f6_result (nI op) (nI x.toNat) (nI y.toNat) = nI (bop op x y).toNat := by
  rcases (show op = 0 ∨ op = 1 ∨ op = 2 ∨ op = 3 by omega) with rfl | rfl | rfl | rfl <;> cases x <;> cases y <;> decide +kernel
theorem f6_operateOn_L_n {o1 o2 to op : Nat} {r s : Row} (hop : op ≤ 3) (ht : to + 601 ≤ 47485) (h1 : o1 + 601 ≤ 47485) (h2 : o2 + 601 ≤ 47485) : ∀ (k m : Nat) (I : gI), AR I o1 r → AR I o2 s → m ≤ max r.1 s.1 → max r.1 s.1 < k + m → SC I m (opR op r s).2 → ∃ I', f6_operateOn_L35 k I (nI op) (nI o1) (nI o2) (nI to) (nI (max r.1 s.1)) (nI m) = some I' ∧ AR I' to (opR op r s) ∧ FrO I I' to := by
  intro k
  induction k with
  | zero => intro m I a1 a2 a3 a4; omega
  | succ k ih =>
    intro m I a1 a2 a3 a4 a5
    have hL1 := a1.1.1
    have hL2 := a2.1.1
    rw [f6_operateOn_L35]
    by_cases hm : m = max r.1 s.1
    · subst hm
      rw [if_pos (by rw [xI_le (by omega) (by omega)]; omega), asked31, xI_ib (by omega), if_pos (by decide), xI_cl (by omega)]
      obtain ⟨I', b1, b2, b3⟩ := fin_copy (r := opR op r s) (opR_ok a1.1 a2.1) a5 ht
      have b1' : f6_copy (uI I 80 47485 (nI (max r.1 s.1))) (nI 47485) (nI to) = some I' := b1
      rw [b1']
      exact ⟨I', rfl, b2, b3⟩
    · rw [if_neg (by rw [xI_le (by omega) (by omega)]; omega), f6_bitOf_n a1 (by omega) (by omega), f6_bitOf_n a2 (by omega) (by omega)]
      simp only [Option.bind_some]
      rw [asked31, f6_put_n (by omega), f6_result_n hop]
      simp only [Option.bind_some]
      have hF : FrS I (uI I 80 (47485 + 1 + m) (nI (bop op (r.2 m) (s.2 m)).toNat)) := FrS_uI (by omega)
      obtain ⟨I', b1, b2, b3⟩ := ih (m + 1) _ (AR_keptS a1 hF h1) (AR_keptS a2 hF h2) (by omega) (by omega) (SC_s (v := nI (bop op (r.2 m) (s.2 m)).toNat) a5 rfl)
      rw [k1, nI_add]
      exact ⟨I', b1, b2, (hF.toO to).trans b3⟩
theorem f6_operateOn_n {I : gI} {o1 o2 to op : Nat} {r s : Row} (hop : op ≤ 3) (ht : to + 601 ≤ 47485) (h1 : o1 + 601 ≤ 47485) (h2 : o2 + 601 ≤ 47485) (a1 : AR I o1 r) (a2 : AR I o2 s) : ∃ I', f6_operateOn I (nI op) (nI o1) (nI o2) (nI to) = some I' ∧ AR I' to (opR op r s) ∧ FrO I I' to := by
  have hL1 := a1.1.1
  have hL2 := a2.1.1
  unfold f6_operateOn
  rw [xI_ib (by omega), if_pos (by simp; omega), xI_ib (by omega), if_pos (by simp; omega), xI_cl (by omega), xI_cl (by omega), a1.2.1, a2.2.1]
  obtain ⟨I', b1, b2, b3⟩ := f6_operateOn_L_n (op := op) (to := to) hop ht h1 h2 FU 0 I a1 a2 (by omega) (by unfold FU; omega) (fun k hk => by omega)
  by_cases hle : r.1 ≤ s.1
  · have e : max r.1 s.1 = s.1 := by omega
    rw [e] at b1
    rw [if_pos (by rw [xI_le (by omega) (by omega)]; exact hle), if_pos (by simp; omega), k0]
    exact ⟨I', b1, b2, b3⟩
  · have e : max r.1 s.1 = r.1 := by omega
    rw [e] at b1
    rw [if_neg (by rw [xI_le (by omega) (by omega)]; exact hle), if_pos (by simp; omega), k0]
    exact ⟨I', b1, b2, b3⟩
/-! turn -/
theorem AR_put {I : gI} {o k : Nat} {r : Row} {v : Bool} (h : AR I o r) (hk : k < r.1) : AR (uI I 80 (o + 1 + k) (nI v.toNat)) o (r.1, setf r.2 k v) := by
  have hL := h.1.1
  refine ⟨⟨h.1.1, fun i hi => ?_⟩, ?_, fun j hj => ?_⟩
  · have hi : r.1 ≤ i := hi
    simp only [setf]
    rw [if_neg (by omega)]
    exact h.1.2 i hi
  · rw [uI_ap, if_neg (by omega)]
    exact h.2.1
  · rw [uI_ap]
    simp only [setf]
    by_cases e : j = k
    · subst e; rw [if_pos (by simp), if_pos rfl]
    · rw [if_neg (by omega), if_neg e]
      exact h.2.2 j hj
def turf (r : Row) (k : Nat) : Nat → Bool := fun i => if i < k then (notR r).2 i else r.2 i
theorem turf_s {r : Row} {k : Nat} (hk : k < r.1) : setf (turf r k) k (!r.2 k) = turf r (k + 1) := by
  funext i
  unfold setf turf
  by_cases e : i = k
  · subst e
    rw [if_pos rfl, if_pos (by omega)]
    simp [notR, hk]
  · rw [if_neg e]
    by_cases h2 : i < k
    · rw [if_pos h2, if_pos (by omega)]
    · rw [if_neg h2, if_neg (by omega)]
theorem f6_turn_L_n {o : Nat} {r : Row} (ho : o + 601 ≤ 48086) (hr : okR r) : ∀ (k m : Nat) (I : gI), AR I o (r.1, turf r m) → m ≤ r.1 → r.1 < k + m → ∃ I', f6_turn_L2 k I (nI o) (nI m) = some I' ∧ AR I' o (notR r) ∧ FrO I I' o := by
  intro k
  induction k with
  | zero => intro m I a1 a2 a3; omega
  | succ k ih =>
    intro m I a1 a2 a3
    have hL := hr.1
    have e1 : I 80 o = nI r.1 := a1.2.1
    rw [f6_turn_L2, xI_ib (by omega), if_pos (by simp; omega), xI_cl (by omega), e1]
    by_cases hm : m = r.1
    · subst hm
      rw [if_pos (by rw [xI_le (by omega) (by omega)]; omega)]
      refine ⟨I, rfl, ?_, FrO.rfl'⟩
      have e : turf r r.1 = (notR r).2 := by
        funext i
        unfold turf
        by_cases h : i < r.1
        · rw [if_pos h]
        · rw [if_neg h, hr.2 i (by omega), (notR_ok hr).2 i (by show r.1 ≤ i; omega)]
      rw [e] at a1
      exact a1
    · rw [if_neg (by rw [xI_le (by omega) (by omega)]; omega), f6_bitOf_n a1 ho (by omega)]
      have e2 : turf r m m = r.2 m := by unfold turf; rw [if_neg (by omega)]
      simp only [Option.bind_some]
      have e3 : (1 : Int32) - nI (turf r m m).toNat = nI (!r.2 m).toNat := by
        rw [e2]
        cases r.2 m <;> decide
      rw [e3, f6_put_n (by omega)]
      simp only [Option.bind_some]
      have a4 := AR_put (v := !r.2 m) a1 (show m < r.1 by omega)
      rw [turf_s (by omega)] at a4
      obtain ⟨I', b1, b2, b3⟩ := ih (m + 1) _ a4 (by omega) (by omega)
      rw [k1, nI_add]
      exact ⟨I', b1, b2, (FrO_uI (by omega) (by omega)).trans b3⟩
theorem f6_turn_n {I : gI} {o : Nat} {r : Row} (ho : o + 601 ≤ 48086) (h : AR I o r) : ∃ I', f6_turn I (nI o) = some I' ∧ AR I' o (notR r) ∧ FrO I I' o := by
  have hL := h.1.1
  have e : turf r 0 = r.2 := by
    funext i
    unfold turf
    rw [if_neg (by omega)]
  exact f6_turn_L_n ho h.1 FU 0 I (by rw [e]; exact h) (by omega) (by unfold FU; omega)
/-! shiftOn -/
theorem f6_shiftOn_L_n {o : Nat} {r : Row} {x : Int32} (ho : o + 601 ≤ 47485) (hr : okR r) (h1 : -600 ≤ x.toInt) (h2 : x.toInt ≤ 600) : ∀ (k m : Nat) (I : gI), AR I o r → m ≤ shL r x.toInt → shL r x.toInt < k + m → SC I m (shR r x.toInt).2 → ∃ I', f6_shiftOn_L35 k I (nI o) x (nI (shL r x.toInt)) (nI m) = some I' ∧ AR I' o (shR r x.toInt) ∧ FrO I I' o := by
  have hS : shL r x.toInt ≤ 600 := (shR_ok r x.toInt).1
  intro k
  induction k with
  | zero => intro m I a1 a2 a3; omega
  | succ k ih =>
    intro m I a1 a2 a3 a4
    rw [f6_shiftOn_L35]
    by_cases hm : m = shL r x.toInt
    · rw [if_pos (by rw [xI_le (by omega) (by omega)]; omega), asked31, xI_ib (by omega), if_pos (by decide), xI_cl (by omega)]
      obtain ⟨I', b1, b2, b3⟩ := fin_copy (r := shR r x.toInt) (to := o) (shR_ok r x.toInt) (by rw [hm] at a4; exact a4) ho
      have b1' : f6_copy (uI I 80 47485 (nI (shL r x.toInt))) (nI 47485) (nI o) = some I' := b1
      rw [b1']
      exact ⟨I', rfl, b2, b3⟩
    · rw [if_neg (by rw [xI_le (by omega) (by omega)]; omega)]
      have em : (nI m).toInt = (m : Int) := nI_toInt (by omega)
      by_cases hx : x.toInt ≤ (m : Int)
      · have e1 : (nI m - x).toInt = (m : Int) - x.toInt := by
          rw [Int32.toInt_sub, em]
          unfold Int.bmod
          dsimp only
          omega
        have e2 := xI_ofInt e1 (by omega)
        rw [if_pos (by rw [Int32.le_iff_toInt_le, em]; exact hx), e2, f6_bitOf_n a1 (by omega) (by omega)]
        simp only [Option.bind_some]
        rw [asked31, f6_put_n (by omega)]
        simp only [Option.bind_some]
        have hbit : (shR r x.toInt).2 m = r.2 ((m : Int) - x.toInt).toNat := by
          rw [shR_bit hr (by omega)]
          unfold zof
          rw [decide_eq_true (by omega), Bool.true_and]
        have hF : FrS I (uI I 80 (47485 + 1 + m) (nI (r.2 ((m : Int) - x.toInt).toNat).toNat)) := FrS_uI (by omega)
        obtain ⟨I', b1, b2, b3⟩ := ih (m + 1) _ (AR_keptS a1 hF ho) (by omega) (by omega) (SC_s (v := nI (r.2 ((m : Int) - x.toInt).toNat).toNat) a4 (by rw [hbit]))
        rw [k1, nI_add]
        exact ⟨I', b1, b2, (hF.toO o).trans b3⟩
      · rw [if_neg (by rw [Int32.le_iff_toInt_le, em]; exact hx), asked31, f6_put_n (by omega)]
        simp only [Option.bind_some]
        have hbit : (shR r x.toInt).2 m = false := by
          rw [shR_bit hr (by omega)]
          unfold zof
          rw [decide_eq_false (by omega), Bool.false_and]
        have hF : FrS I (uI I 80 (47485 + 1 + m) 0) := FrS_uI (by omega)
        obtain ⟨I', b1, b2, b3⟩ := ih (m + 1) _ (AR_keptS a1 hF ho) (by omega) (by omega) (SC_s (v := 0) a4 (by rw [hbit]; rfl))
        rw [k1, nI_add]
        exact ⟨I', b1, b2, (hF.toO o).trans b3⟩
theorem f6_shiftOn_n {I : gI} {o : Nat} {r : Row} {x : Int32} (ho : o + 601 ≤ 47485) (h : AR I o r) (h1 : -600 ≤ x.toInt) (h2 : x.toInt ≤ 600) : ∃ I', f6_shiftOn I (nI o) x = some I' ∧ AR I' o (shR r x.toInt) ∧ FrO I I' o := by
  have hL := h.1.1
  have hS : shL r x.toInt ≤ 600 := (shR_ok r x.toInt).1
  obtain ⟨I', b1, b2, b3⟩ := f6_shiftOn_L_n ho h.1 h1 h2 FU 0 I h (by omega) (by unfold FU; omega) (fun k hk => by omega)
  unfold f6_shiftOn
  have e : (nI r.1 + x).toInt = (r.1 : Int) + x.toInt := by
    rw [Int32.toInt_add, nI_toInt (by omega)]
    unfold Int.bmod
    dsimp only
    omega
  have e6 : (600 : Int32).toInt = 600 := by decide
  have e7 : (nI (shL r x.toInt)).toInt = (shL r x.toInt : Nat) := nI_toInt (by omega)
  rw [xI_ib (by omega), if_pos (by simp; omega), xI_cl (by omega), h.2.1]
  by_cases h0 : 0 ≤ (r.1 : Int) + x.toInt
  · rw [if_pos (by rw [Int32.le_iff_toInt_le, e, Int32.toInt_zero]; exact h0)]
    by_cases h6 : (r.1 : Int) + x.toInt ≤ 600
    · have e8 : nI r.1 + x = nI (shL r x.toInt) := Int32.toInt_inj.mp (by rw [e, e7]; unfold shL; omega)
      rw [if_pos (by rw [Int32.le_iff_toInt_le, e, e6]; exact h6), e8, k0]
      exact ⟨I', b1, b2, b3⟩
    · have e8 : (600 : Int32) = nI (shL r x.toInt) := Int32.toInt_inj.mp (by rw [e6, e7]; unfold shL; omega)
      rw [if_neg (by rw [Int32.le_iff_toInt_le, e, e6]; exact h6), e8, k0]
      exact ⟨I', b1, b2, b3⟩
  · have e8 : (0 : Int32) = nI (shL r x.toInt) := Int32.toInt_inj.mp (by rw [Int32.toInt_zero, e7]; unfold shL; omega)
    rw [if_neg (by rw [Int32.le_iff_toInt_le, e, Int32.toInt_zero]; exact h0)]
    have b1' : f6_shiftOn_L35 FU I (nI o) x (nI (shL r x.toInt)) 0 = some I' := b1
    rw [← e8] at b1'
    exact ⟨I', b1', b2, b3⟩
