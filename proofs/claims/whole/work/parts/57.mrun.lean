/-! the reference's reading as a machine that runs on -/
def endc (J : gI) : Option (Bool × gI) := if (J 79 3) ≤ (J 79 8) then (f6_doTo J 1).bind fun I12 => (if (I12 79 10) = 0 then some (true, I12) else some (false, I12)) else some (false, J)
def mO (kO k : Nat) (J : gI) : Option (Bool × gI) := (f6_code J).bind fun q => (f6_readsOn_L5 kO q.2 q.1).bind fun q8 => (if q8.1 = true then (f6_readsFactor q8.2).bind fun q14 => f6_reads_L35 k q14.2 (b2i q14.1) else endc q8.2)
def mF (kF k : Nat) (J : gI) : Option (Bool × gI) := (f6_code J).bind fun q => (f6_readsFactor_L5 kF q.2 q.1).bind fun q14 => f6_reads_L35 k q14.2 (b2i q14.1)
def mC (kC kO k : Nat) (ad : Bool) (J : gI) : Option (Bool × gI) := (f6_closeFactor_L0 kC J).bind fun K => mO kO k (if ad = true then uI K 79 8 (K 79 8 + 1) else K)
theorem reads_0 {k : Nat} {J : gI} : f6_reads_L35 (k + 1) J (b2i false) = some (false, J) := by
  rw [f6_reads_L35, if_pos (by rfl), if_pos (by rfl)]
theorem reads_1 {k : Nat} {J : gI} : f6_reads_L35 (k + 1) J (b2i true) = mO FU k J := by
  have e : ¬ b2i true = 0 := by decide
  rw [f6_reads_L35, if_neg e]
  unfold mO f6_readsOn
  rw [Option.bind_assoc]
  simp only [if_neg e]
  rfl
theorem reads_F {k : Nat} {J : gI} : ((f6_readsFactor J).bind fun q14 => f6_reads_L35 k q14.2 (b2i q14.1)) = mF FU k J := by
  unfold mF f6_readsFactor
  rw [Option.bind_assoc]
abbrev PT : Type := List Nat → List Row → Row → List Nat → List Row → Prop
def P0 : PT := fun σ vs v σ' vs' => σ' = σ ∧ vs' = v :: vs
def PN (c1 c2 : Nat) (P : PT) : PT := fun σ vs v σ' vs' => P σ vs v σ' vs' ∨ ∃ c a b, (c = c1 ∨ c = c2) ∧ v = opR (opc c) a b ∧ P (c :: σ) (a :: vs) b σ' vs'
def DP (P : PT) : Prop := ∀ σ vs v σ' vs', P σ vs v σ' vs' → dep σ' = dep σ
theorem DP_0 : DP P0 := fun σ vs v σ' vs' h => by rw [h.1]
theorem DP_N {c1 c2 : Nat} {P : PT} (h : DP P) (h1 : nst c1 = 0) (h2 : nst c2 = 0) : DP (PN c1 c2 P) := by
  intro σ vs v σ' vs' hp
  rcases hp with hp | ⟨c, a, b, hc, -, hp⟩
  · exact h _ _ _ _ _ hp
  · rw [h _ _ _ _ _ hp]
    show dep σ + nst c = dep σ
    rcases hc with rfl | rfl
    · rw [h1]; rfl
    · rw [h2]; rfl
section
variable {ch : Nat → Nat} {t n : Nat} {ρ : Nat → Row} {dz : Bool}
def RSv (ch : Nat → Nat) (t n : Nat) (ρ : Nat → Row) (dz : Bool) (r : Nat) (P : PT) (j : Nat) : Prop := ∀ (J : gI) (p : Nat) (w : Wg) (σ : List Nat) (vs : List Row) (v : Row) (σ' : List Nat) (vs' : List Row) (k : Nat), MB ch t n ρ dz J → MI dz J p w σ' vs' → P σ vs v σ' vs' → σ.length + j < 40 → vs.length + j ≤ 25 → ∃ J' k', f6_doTo_L0 (k + j) J (nI r) = f6_doTo_L0 k' J' (nI r) ∧ FQ J J' ∧ MI dz J' p w σ (v :: vs) ∧ k ≤ k'
theorem RSv_0 {r : Nat} : RSv ch t n ρ dz r P0 0 := by
  intro J p w σ vs v σ' vs' k hB hM hP _ _
  obtain ⟨rfl, rfl⟩ := hP
  exact ⟨J, k, rfl, FQ.rfl', hM, Nat.le_refl k⟩
theorem RSv_N {r j c1 c2 : Nat} {P : PT} (h : RSv ch t n ρ dz r P j) (h1 : r ≤ rkN c1) (h2 : r ≤ rkN c2) : RSv ch t n ρ dz r (PN c1 c2 P) (j + 1) := by
  intro J p w σ vs v σ' vs' k hB hM hP l1 l2
  have ek : k + (j + 1) = (k + 1) + j := by omega
  rw [ek]
  rcases hP with hP | ⟨c, a, b, hc, hv, hP⟩
  · obtain ⟨J', k', e1, e2, e3, e4⟩ := h J p w σ vs v σ' vs' (k + 1) hB hM hP (by omega) (by omega)
    exact ⟨J', k', e1, e2, e3, by omega⟩
  · obtain ⟨J', k', e1, e2, e3, e4⟩ := h J p w (c :: σ) (a :: vs) b σ' vs' (k + 1) hB hM hP (by simp only [List.length_cons]; omega) (by simp only [List.length_cons]; omega)
    obtain ⟨k2, rfl⟩ : ∃ k2, k' = k2 + 1 := ⟨k' - 1, by omega⟩
    obtain ⟨J2, f1, f2, f3⟩ := doTo_step (k := k2) (r := r) (MB_FQ hB e2) e3 (by omega) (by omega) (by rcases hc with rfl | rfl <;> assumption)
    refine ⟨J2, k2, e1.trans f1, e2.trans f2, ?_, by omega⟩
    rw [hv]
    exact f3
theorem doTo_n {r j p : Nat} {P : PT} {J : gI} {w : Wg} {σ : List Nat} {vs : List Row} {v : Row} {σ' : List Nat} {vs' : List Row} (h : RSv ch t n ρ dz r P j) (hj : j ≤ 2) (hB : MB ch t n ρ dz J) (hM : MI dz J p w σ' vs') (hP : P σ vs v σ' vs') (l1 : σ.length + j < 40) (l2 : vs.length + j ≤ 25) (hr : rkN (tp σ) < r) (hr2 : r ≤ 2) : ∃ J', f6_doTo J (nI r) = some J' ∧ FQ J J' ∧ MI dz J' p w σ (v :: vs) := by
  obtain ⟨J', k', e1, e2, e3, e4⟩ := h J p w σ vs v σ' vs' (5000 - j) hB hM hP l1 l2
  obtain ⟨k2, rfl⟩ : ∃ k2, k' = k2 + 1 := ⟨k' - 1, by omega⟩
  rw [doTo_stop e3 (by omega) hr hr2] at e1
  refine ⟨J', ?_, e2, e3⟩
  unfold f6_doTo
  rw [show FU = 5000 - j + j by unfold FU; omega]
  exact e1
def FO (I J : gI) (r : Option (Bool × gI)) (pf df : Nat) : Prop := r = some (false, J) ∧ FQ I J ∧ J 79 8 = nI pf ∧ J 79 11 = nI df
def RC (ch : Nat → Nat) (t n : Nat) (ρ : Nat → Row) (dz : Bool) (R : Rd) (P : PT) (r kk m : Nat) : Prop := ∀ (J : gI) (s d p : Nat) (w : Wg) (σ : List Nat) (vs : List Row) (kF k : Nat), MB ch t n ρ dz J → p ≤ t → MI dz J p w σ vs → vs.length = s → σ.length = s + d → dep σ = d → d ≤ 8 → 9 ≤ kk + d → s ≤ 2 * d + m → tp σ ≠ 126 → rkN (tp σ) < r → 3000 ≤ kF + d → 3000 ≤ k + p → match R p d w with
    | .inl (pf, df) => dz = false → ∃ J', FO J J' (mF kF k J) pf df
    | .inr (p', w', v) => (dz = true → w' = none) → ∃ J' kO k' σ' vs', mF kF k J = mO kO k' J' ∧ FQ J J' ∧ MI dz J' p' w' σ' vs' ∧ P σ vs v σ' vs' ∧ 100 + d ≤ kO ∧ 3000 ≤ k' + p'
theorem mO_op {r j p q c kO k : Nat} {P : PT} {J : gI} {w : Wg} {σ : List Nat} {vs : List Row} {v : Row} {σ' : List Nat} {vs' : List Row} (h : TXT ch t) (hS : RSv ch t n ρ dz r P j) (hj : j ≤ 2) (hB : MB ch t n ρ dz J) (hM : MI dz J p w σ' vs') (hP : P σ vs v σ' vs') (hp : p ≤ t) (l1 : σ.length + j < 38) (l2 : vs.length + j ≤ 24) (hr : rkN (tp σ) < r) (hr2 : r ≤ 2) (hq : sk ch p = q) (hc : ch q = c) (hcr : rkN c = r) (h41 : c ≠ 41) : ∃ J', mO (kO + 1) k J = mF FU k J' ∧ FQ J J' ∧ MI dz J' (q + 1) w (c :: σ) (v :: vs) := by
  have hc2 := h.le q
  rw [hc] at hc2
  have m1 := MI_p (q := q) hM
  obtain ⟨J1, e1, e2, e3⟩ := doTo_n hS hj (MB_FQ hB (pM_FQ (p := q))) m1 hP (by omega) (by omega) hr hr2
  obtain ⟨J2, f1, f2, f3⟩ := f6_push_n' e3 (by omega) hc2
  refine ⟨pM J2 (q + 1), ?_, (((pM_FQ (p := q)).trans e2).trans f2).trans pM_FQ, MI_p f3⟩
  rw [← reads_F]
  unfold mO
  rw [f6_code_n h hB hM.1 hp, hq]
  simp only [Option.bind_some]
  rw [hc, f6_readsOn_L5, if_neg (by rw [k41, xI_eq (by omega) (by omega)]; exact h41), f6_rank_n hc2, hcr, if_neg (by rw [k0, xI_eq (by omega) (by omega)]; omega), e1]
  simp only [Option.bind_some]
  rw [f1]
  simp only [Option.bind_some]
  rw [if_pos trivial, pM_up f3.1]
theorem lp_RC {R : Rd} {P : PT} {r r' j c1 c2 o1 o2 kk m s d : Nat} (h : TXT ch t) (hP : PG t R) (hR : RC ch t n ρ dz R P r' kk (m + 1)) (hS : RSv ch t n ρ dz r P j) (hj : j ≤ 1) (q1 : rkN c1 = r) (q2 : rkN c2 = r) (q3 : opc c1 = o1) (q4 : opc c2 = o2) (q5 : nst c1 = 0) (q6 : nst c2 = 0) (q7 : c1 ≠ 41 ∧ c1 ≠ 126 ∧ c1 ≠ 0) (q8 : c2 ≠ 41 ∧ c2 ≠ 126 ∧ c2 ≠ 0) (hr : r < r') (hr1 : r ≤ 2) {σ : List Nat} {vs : List Row} (g1 : vs.length = s) (g2 : σ.length = s + d) (g3 : dep σ = d) (g4 : d ≤ 8) (g5 : 9 ≤ kk + d) (g6 : s ≤ 2 * d + m) (hm : m ≤ 1) (g8 : rkN (tp σ) < r) : ∀ (k' p : Nat) (w : Wg) (v : Row) (J : gI) (kO k : Nat) (σ' : List Nat) (vs' : List Row), MB ch t n ρ dz J → MI dz J p w σ' vs' → PN c1 c2 P σ vs v σ' vs' → p ≤ t → t < k' + p → 100 + d ≤ kO → 3000 ≤ k + p → match lpS ch c1 c2 o1 o2 R d k' p w v with
    | .inl (pf, df) => dz = false → ∃ J', FO J J' (mO kO k J) pf df
    | .inr (p', w', v') => (dz = true → w' = none) → ∃ J' kO' k1 σ1 vs1, mO kO k J = mO kO' k1 J' ∧ FQ J J' ∧ MI dz J' p' w' σ1 vs1 ∧ PN c1 c2 P σ vs v' σ1 vs1 ∧ 100 + d ≤ kO' ∧ 3000 ≤ k1 + p' := by
  intro k'
  induction k' with
  | zero => intro p w v J kO k σ' vs' a1 a2 a3 a4 a5; omega
  | succ k' ih =>
    intro p w v J kO k σ' vs' a1 a2 a3 a4 a5 a6 a7
    have s1 := sk_ge ch p
    have s2 := sk_le h a4
    have s3 := sk_ne h p
    rw [lpS]
    generalize hq : sk ch p = q at *
    by_cases hc : ch q = c1 ∨ ch q = c2
    · rw [if_pos hc]
      have qt := h.lt (j := q) (by omega)
      have hcr : rkN (ch q) = r := by rcases hc with e | e <;> rw [e] <;> assumption
      have hop : (if ch q = c1 then o1 else o2) = opc (ch q) := by
        by_cases e : ch q = c1
        · rw [if_pos e, e, q3]
        · rw [if_neg e, (show ch q = c2 by omega), q4]
      have hns : nst (ch q) = 0 := by rcases hc with e | e <;> rw [e] <;> assumption
      obtain ⟨kO2, rfl⟩ : ∃ x, kO = x + 1 := ⟨kO - 1, by omega⟩
      obtain ⟨J1, b1, b2, b3⟩ := mO_op (kO := kO2) (k := k) h (RSv_N (c1 := c1) (c2 := c2) hS (by omega) (by omega)) (by omega) a1 a2 a3 a4 (by omega) (by omega) g8 hr1 hq rfl hcr (by omega)
      have main := hR J1 (s + 1) d (q + 1) w (ch q :: σ) (v :: vs) FU k (MB_FQ a1 b2) (by omega) b3 (by simp only [List.length_cons]; omega) (by simp only [List.length_cons]; omega) (by show dep σ + nst (ch q) = d; omega) g4 g5 (by omega) (by show ch q ≠ 126; omega) (by show rkN (ch q) < r'; omega) (by unfold FU; omega) (by omega)
      rw [hop, b1]
      rcases hres : R (q + 1) d w with ⟨pf, df⟩ | ⟨p1, w1, v1⟩
      · rw [hres] at main
        intro z
        obtain ⟨J', c1, c2, c3, c4⟩ := main z
        exact ⟨J', c1, b2.trans c2, c3, c4⟩
      · rw [hres] at main
        obtain ⟨i1, i2, i3⟩ := hP _ _ _ _ _ _ (by omega) hres
        have go : (dz = true → w1 = none) → ∃ J2 kO3 k3 σ3 vs3, mF FU k J1 = mO kO3 k3 J2 ∧ FQ J J2 ∧ MI dz J2 p1 w1 σ3 vs3 ∧ PN c1 c2 P σ vs (opR (opc (ch q)) v v1) σ3 vs3 ∧ 100 + d ≤ kO3 ∧ 3000 ≤ k3 + p1 := fun z => by
          obtain ⟨J2, kO3, k3, σ3, vs3, d1, d2, d3, d4, d5, d6⟩ := main z
          exact ⟨J2, kO3, k3, σ3, vs3, d1, b2.trans d2, d3, Or.inr ⟨ch q, v, v1, hc, rfl, d4⟩, d5, d6⟩
        rcases hrest : lpS ch c1 c2 o1 o2 R d k' p1 w1 (opR (opc (ch q)) v v1) with ⟨pf, df⟩ | ⟨p', w', v'⟩
        · simp only [hrest]
          intro z
          obtain ⟨J2, kO3, k3, σ3, vs3, d1, d2, d3, d4, d5, d6⟩ := go (fun y => by rw [z] at y; cases y)
          have nxt := ih p1 w1 (opR (opc (ch q)) v v1) J2 kO3 k3 σ3 vs3 (MB_FQ a1 d2) d3 d4 i2 (by omega) d5 d6
          rw [hrest] at nxt
          obtain ⟨J', e1, e2, e3, e4⟩ := nxt z
          exact ⟨J', d1.trans e1, d2.trans e2, e3, e4⟩
        · simp only [hrest]
          intro z
          have mono := lpS_pg h q7.2.2 q8.2.2 hP _ _ _ _ _ _ _ i2 hrest
          obtain ⟨J2, kO3, k3, σ3, vs3, d1, d2, d3, d4, d5, d6⟩ := go (fun y => mono.2.2 (z y))
          have nxt := ih p1 w1 (opR (opc (ch q)) v v1) J2 kO3 k3 σ3 vs3 (MB_FQ a1 d2) d3 d4 i2 (by omega) d5 d6
          rw [hrest] at nxt
          obtain ⟨J', kO4, k4, σ4, vs4, e1, e2, e3, e4, e5, e6⟩ := nxt z
          exact ⟨J', kO4, k4, σ4, vs4, d1.trans e1, d2.trans e2, e3, e4, e5, e6⟩
    · rw [if_neg hc]
      intro z
      refine ⟨pM J q, kO, k, σ', vs', ?_, pM_FQ, MI_p a2, a3, a6, by omega⟩
      unfold mO
      rw [f6_code_n h a1 a2.1 a4, f6_code_n h (MB_FQ a1 pM_FQ) (pM_8 _ _) s2, sk_n s3, pM_pM, hq]
theorem seq_RC {R : Rd} {P : PT} {r r' j c1 c2 o1 o2 kk m : Nat} (h : TXT ch t) (hP : PG t R) (hR : RC ch t n ρ dz R P r' kk (m + 1)) (hS : RSv ch t n ρ dz r P j) (hj : j ≤ 1) (q1 : rkN c1 = r) (q2 : rkN c2 = r) (q3 : opc c1 = o1) (q4 : opc c2 = o2) (q5 : nst c1 = 0) (q6 : nst c2 = 0) (q7 : c1 ≠ 41 ∧ c1 ≠ 126 ∧ c1 ≠ 0) (q8 : c2 ≠ 41 ∧ c2 ≠ 126 ∧ c2 ≠ 0) (hr : r < r') (hr1 : r ≤ 2) (hm : m ≤ 1) : RC ch t n ρ dz (seqS ch c1 c2 o1 o2 R) (PN c1 c2 P) r kk m := by
  intro J s d p w σ vs kF k a1 a2 a3 g1 g2 g3 g4 g5 g6 g7 g8 g9 g10
  have ht := h.1
  have main := hR J s d p w σ vs kF k a1 a2 a3 g1 g2 g3 g4 g5 (by omega) g7 (by omega) g9 g10
  unfold seqS
  rcases hres : R p d w with ⟨pf, df⟩ | ⟨p1, w1, v1⟩
  · rw [hres] at main
    exact main
  · rw [hres] at main
    obtain ⟨i1, i2, i3⟩ := hP _ _ _ _ _ _ a2 hres
    have lp := lp_RC (s := s) (d := d) (m := m) h hP hR hS hj q1 q2 q3 q4 q5 q6 q7 q8 hr hr1 g1 g2 g3 g4 g5 g6 hm g8 200 p1 w1 v1
    rcases hrest : lpS ch c1 c2 o1 o2 R d 200 p1 w1 v1 with ⟨pf, df⟩ | ⟨p', w', v'⟩
    · simp only [hrest]
      intro z
      obtain ⟨J2, kO3, k3, σ3, vs3, d1, d2, d3, d4, d5, d6⟩ := main (fun y => by rw [z] at y; cases y)
      have nxt := lp J2 kO3 k3 σ3 vs3 (MB_FQ a1 d2) d3 (Or.inl d4) i2 (by omega) d5 d6
      rw [hrest] at nxt
      obtain ⟨J', e1, e2, e3, e4⟩ := nxt z
      exact ⟨J', d1.trans e1, d2.trans e2, e3, e4⟩
    · simp only [hrest]
      intro z
      have mono := lpS_pg h q7.2.2 q8.2.2 hP _ _ _ _ _ _ _ i2 hrest
      obtain ⟨J2, kO3, k3, σ3, vs3, d1, d2, d3, d4, d5, d6⟩ := main (fun y => mono.2.2 (z y))
      have nxt := lp J2 kO3 k3 σ3 vs3 (MB_FQ a1 d2) d3 (Or.inl d4) i2 (by omega) d5 d6
      rw [hrest] at nxt
      obtain ⟨J', kO4, k4, σ4, vs4, e1, e2, e3, e4, e5, e6⟩ := nxt z
      exact ⟨J', kO4, k4, σ4, vs4, d1.trans e1, d2.trans e2, e3, e4, e5, e6⟩
end
