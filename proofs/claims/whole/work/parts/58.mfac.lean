/-! the reference's factors, brackets, and whole texts -/
def EQ (ch : Nat → Nat) (t : Nat) (Q : Nat → Prop) (R : Rd) : Prop := ∀ p d w p' w' v, p ≤ t → R p d w = .inr (p', w', v) → Q (ch (sk ch p'))
theorem lpS_eq {ch : Nat → Nat} {t c1 c2 o1 o2 d : Nat} {R : Rd} {Q : Nat → Prop} (h : TXT ch t) (hc1 : c1 ≠ 0) (hc2 : c2 ≠ 0) (hP : PG t R) (hR : EQ ch t Q R) : ∀ (k p : Nat) (w : Wg) (v : Row) (p' : Nat) (w' : Wg) (v' : Row), p ≤ t → Q (ch (sk ch p)) → lpS ch c1 c2 o1 o2 R d k p w v = .inr (p', w', v') → Q (ch (sk ch p')) ∧ ch (sk ch p') ≠ c1 ∧ ch (sk ch p') ≠ c2 := by
  intro k
  induction k with
  | zero => intro p w v p' w' v' hp hq e; cases e
  | succ k ih =>
    intro p w v p' w' v' hp hq e
    have a2 := sk_le h hp
    rw [lpS] at e
    by_cases h1 : ch (sk ch p) = c1 ∨ ch (sk ch p) = c2
    · rw [if_pos h1] at e
      have a3 := h.lt (j := sk ch p) (by omega)
      rcases hr : R (sk ch p + 1) d w with e1 | ⟨q, w1, v1⟩
      · rw [hr] at e; cases e
      · rw [hr] at e
        obtain ⟨b1, b2, b3⟩ := hP _ _ _ _ _ _ (by omega) hr
        exact ih _ _ _ _ _ _ b2 (hR _ _ _ _ _ _ (by omega) hr) e
    · rw [if_neg h1] at e
      cases e
      rw [sk_n (sk_ne h p)]
      exact ⟨hq, by omega, by omega⟩
theorem seqS_eq {ch : Nat → Nat} {t c1 c2 o1 o2 : Nat} {R : Rd} {Q : Nat → Prop} (h : TXT ch t) (hc1 : c1 ≠ 0) (hc2 : c2 ≠ 0) (hP : PG t R) (hR : EQ ch t Q R) : EQ ch t (fun c => Q c ∧ c ≠ c1 ∧ c ≠ c2) (seqS ch c1 c2 o1 o2 R) := by
  intro p d w p' w' v hp e
  unfold seqS at e
  rcases hr : R p d w with e1 | ⟨q, w1, v1⟩
  · rw [hr] at e; cases e
  · rw [hr] at e
    obtain ⟨b1, b2, b3⟩ := hP _ _ _ _ _ _ hp hr
    exact lpS_eq h hc1 hc2 hP hR _ _ _ _ _ _ _ b2 (hR _ _ _ _ _ _ hp hr) e
def P2 : PT := PN 124 94 (PN 38 45 P0)
theorem DP_2 : DP P2 := DP_N (DP_N DP_0 rfl rfl) rfl rfl
section
variable {ch : Nat → Nat} {t n : Nat} {ρ : Nat → Row} {dz : Bool}
theorem sum_eq {R : Rd} (h : TXT ch t) (hP : PG t R) : EQ ch t (fun c => ((True ∧ c ≠ 38 ∧ c ≠ 45) ∧ c ≠ 124 ∧ c ≠ 94)) (suS ch (prS ch R)) :=
  seqS_eq h (by omega) (by omega) (seqS_pg h (by omega) (by omega) hP) (seqS_eq (Q := fun _ => True) h (by omega) (by omega) hP (fun _ _ _ _ _ _ _ _ => trivial))
theorem RSv_2 : RSv ch t n ρ dz 1 P2 2 := RSv_N (RSv_N RSv_0 (by decide) (by decide)) (by decide) (by decide)
def FCl (ch : Nat → Nat) (t n : Nat) (ρ : Nat → Row) (dz : Bool) (R : Rd) (kk m : Nat) : Prop := ∀ (J : gI) (s d p : Nat) (w : Wg) (σ : List Nat) (vs : List Row) (kF k : Nat), MB ch t n ρ dz J → p ≤ t → MI dz J p w σ vs → vs.length = s → σ.length = s + d → dep σ = d → d ≤ 8 → 9 ≤ kk + d → s ≤ 2 * d + m → 3000 ≤ kF + d → 3000 ≤ k + p → match R p d w with
    | .inl (pf, df) => dz = false → ∃ J', FO J J' (mF kF k J) pf df
    | .inr (p', w', v) => (dz = true → w' = none) → ∃ J' kC kO k' pp ad, mF kF k J = mC kC kO k' ad J' ∧ FQ J J' ∧ MI dz J' pp w' σ (v :: vs) ∧ pp + ad.toNat = p' ∧ 100 + d ≤ kC ∧ 100 + d ≤ kO ∧ 3000 ≤ k' + p'
theorem FCl_RC {R : Rd} {kk m : Nat} (hm : m ≤ 2) (hR : FCl ch t n ρ dz R kk m) : RC ch t n ρ dz R P0 3 kk m := by
  intro J s d p w σ vs kF k a1 a2 a3 g1 g2 g3 g4 g5 g6 g7 g8 g9 g10
  have main := hR J s d p w σ vs kF k a1 a2 a3 g1 g2 g3 g4 g5 g6 g9 g10
  rcases hres : R p d w with ⟨pf, df⟩ | ⟨p', w', v⟩
  · rw [hres] at main
    exact main
  · rw [hres] at main
    intro z
    obtain ⟨J', kC, kO, k', pp, ad, b1, b2, b3, b4, b5, b6, b7⟩ := main z
    obtain ⟨kC2, rfl⟩ : ∃ x, kC = x + 1 := ⟨kC - 1, by omega⟩
    unfold mC at b1
    rw [close_stop b3 (by omega) g7] at b1
    simp only [Option.bind_some] at b1
    cases ad with
    | false =>
      have e : pp = p' := b4
      subst e
      exact ⟨J', kO, k', σ, v :: vs, b1, b2, b3, ⟨rfl, rfl⟩, b6, b7⟩
    | true =>
      have e : pp + 1 = p' := b4
      subst e
      rw [if_pos rfl, pM_up b3.1] at b1
      exact ⟨pM J' (pp + 1), kO, k', σ, v :: vs, b1, b2.trans pM_FQ, MI_p b3, ⟨rfl, rfl⟩, b6, b7⟩
theorem mF_stop {kF k p q : Nat} {J : gI} {w : Wg} {σ : List Nat} {vs : List Row} (h : TXT ch t) (hB : MB ch t n ρ dz J) (hM : MI dz J p w σ vs) (hp : p ≤ t) (hq : sk ch p = q) (h1 : f6_readsFactor_L5 kF (pM J q) (nI (ch q)) = some (false, pM J q)) : FO J (pM J q) (mF kF (k + 1) J) q (dep σ) := by
  refine ⟨?_, pM_FQ, pM_8 _ _, (MI_p (q := q) hM).2.2.2.2.1⟩
  unfold mF
  rw [f6_code_n h hB hM.1 hp, hq]
  simp only [Option.bind_some]
  rw [h1]
  simp only [Option.bind_some]
  exact reads_0
theorem in_no {c : Nat} (hc : c ≤ 255) (h : isD c = false) : ¬ f6_in (nI c) 48 57 = true := by
  rw [f6_dig hc, h]
  decide
theorem endc_no {J : gI} {q : Nat} (hB : MB ch t n ρ dz J) (h8 : J 79 8 = nI q) (ht : t ≤ 100) (hq : q < t) : endc J = some (false, J) := by
  unfold endc
  rw [h8, hB.1, if_neg (by rw [xI_le (by omega) (by omega)]; omega)]
theorem fa_FCl {R Rf : Rd} {kk : Nat} (h : TXT ch t) (hn1 : 1 ≤ n) (hn8 : n ≤ 8) (hP : PG t R) (hb : RC ch t n ρ dz (suS ch (prS ch R)) P2 1 kk 0) (hf : FCl ch t n ρ dz Rf kk 2) : FCl ch t n ρ dz (faS ch n ρ (brS ch (suS ch (prS ch R))) Rf) (kk + 1) 2 := by
  intro J s d p w σ vs kF k a1 a2 a3 g1 g2 g3 g4 g5 g6 g9 g10
  have ht := h.1
  have s1 := sk_ge ch p
  have s2 := sk_le h a2
  have s3 := sk_ne h p
  have code := f6_code_n h a1 a3.1 a2
  unfold faS
  have hc := h.le (sk ch p)
  generalize hq : sk ch p = q at *
  have m1 := MI_p (q := q) a3
  have B1 := MB_FQ a1 (pM_FQ (p := q))
  obtain ⟨kF2, rfl⟩ : ∃ x, kF = x + 1 := ⟨kF - 1, by omega⟩
  obtain ⟨k2, rfl⟩ : ∃ x, k = x + 1 := ⟨k - 1, by omega⟩
  have e11 : pM J q 79 11 = nI d := by rw [m1.2.2.2.2.1, g3]
  -- a sign of nesting
  have nest : (ch q = 126 ∨ ch q = 40) → 8 ≤ d → FO J (pM J q) (mF (kF2 + 1) (k2 + 1) J) q d := fun hcc h8 => by
    have nd : isD (ch q) = false := by
      rcases hcc with e | e <;> rw [e] <;> rfl
    have := mF_stop (kF := kF2 + 1) (k := k2) h a1 a3 a2 hq (by
      rw [f6_readsFactor_L5, e11]
      have c8 : (8 : Int32) ≤ nI d := by rw [k8, xI_le (by omega) (by omega)]; exact h8
      rcases hcc with e | e
      · rw [if_neg (by rw [e]; decide), if_pos (by rw [e]; rfl), if_pos c8, if_neg (in_no hc nd)]
      · rw [if_pos (by rw [e]; rfl), if_pos c8, if_neg (in_no hc nd)])
    rw [g3] at this
    exact this
  have open_ : (ch q = 126 ∨ ch q = 40) → ¬ 8 ≤ d → ∃ J1, mF (kF2 + 1) (k2 + 1) J = mF kF2 (k2 + 1) J1 ∧ FQ J J1 ∧ MI dz J1 (q + 1) w (ch q :: σ) vs := fun hcc h8 => by
    obtain ⟨J1, b1, b2, b3⟩ := f6_push_n' (c := ch q) m1 (by omega) hc
    refine ⟨pM J1 (q + 1), ?_, (pM_FQ.trans b2).trans pM_FQ, MI_p b3⟩
    have c8 : ¬ (8 : Int32) ≤ nI d := by rw [k8, xI_le (by omega) (by omega)]; exact h8
    unfold mF
    rw [code]
    simp only [Option.bind_some]
    rw [f6_readsFactor_L5, e11]
    rcases hcc with e | e
    · rw [if_neg (by rw [e]; decide), if_pos (by rw [e]; rfl), if_neg c8, b1]
      simp only [Option.bind_some]
      rw [pM_up b3.1, Option.bind_assoc]
    · rw [if_pos (by rw [e]; rfl), if_neg c8, b1]
      simp only [Option.bind_some]
      rw [pM_up b3.1, Option.bind_assoc]
  by_cases h1 : ch q = 126
  · rw [if_pos h1]
    have qt := h.lt (j := q) (by omega)
    by_cases h8 : 8 ≤ d
    · rw [if_pos h8]
      intro _
      exact ⟨_, nest (Or.inl h1) h8⟩
    · rw [if_neg h8]
      obtain ⟨J1, b1, b2, b3⟩ := open_ (Or.inl h1) h8
      rw [h1] at b3
      have main := hf J1 s (d + 1) (q + 1) w (126 :: σ) vs kF2 (k2 + 1) (MB_FQ a1 b2) (by omega) b3 g1 (by simp only [List.length_cons]; omega) (by show dep σ + 1 = d + 1; omega) (by omega) (by omega) (by omega) (by omega) (by omega)
      rw [b1]
      rcases hres : Rf (q + 1) (d + 1) w with ⟨pf, df⟩ | ⟨p', w', v⟩
      · rw [hres] at main
        intro z
        obtain ⟨J', c1, c2, c3, c4⟩ := main z
        exact ⟨J', c1, b2.trans c2, c3, c4⟩
      · rw [hres] at main
        intro z
        obtain ⟨J', kC, kO, k', pp, ad, d1, d2, d3, d4, d5, d6, d7⟩ := main z
        obtain ⟨kC2, rfl⟩ : ∃ x, kC = x + 1 := ⟨kC - 1, by omega⟩
        obtain ⟨J2, f1, f2, f3⟩ := close_step (k := kC2) (MB_FQ a1 (b2.trans d2)) d3 (by omega) (by omega)
        refine ⟨J2, kC2, kO, k', pp, ad, ?_, (b2.trans d2).trans f2, f3, d4, by omega, by omega, d7⟩
        rw [d1]
        unfold mC
        rw [f1]
  rw [if_neg h1]
  by_cases h2 : ch q = 40
  · rw [if_pos h2]
    have qt := h.lt (j := q) (by omega)
    by_cases h8 : 8 ≤ d
    · rw [if_pos h8]
      intro _
      exact ⟨_, nest (Or.inr h2) h8⟩
    · rw [if_neg h8]
      obtain ⟨J1, b1, b2, b3⟩ := open_ (Or.inr h2) h8
      rw [h2] at b3
      have main := hb J1 s (d + 1) (q + 1) w (40 :: σ) vs kF2 (k2 + 1) (MB_FQ a1 b2) (by omega) b3 g1 (by simp only [List.length_cons]; omega) (by show dep σ + 1 = d + 1; omega) (by omega) (by omega) (by omega) (show (40 : Nat) ≠ 126 by decide) (show rkN 40 < 1 by decide) (by omega) (by omega)
      rw [b1]
      unfold brS
      rcases hres : suS ch (prS ch R) (q + 1) (d + 1) w with ⟨pf, df⟩ | ⟨p1, w1, v1⟩
      · rw [hres] at main
        intro z
        obtain ⟨J', c1, c2, c3, c4⟩ := main z
        exact ⟨J', c1, b2.trans c2, c3, c4⟩
      · rw [hres] at main
        have pg := seqS_pg (c1 := 124) (c2 := 94) (o1 := 1) (o2 := 3) h (by omega) (by omega) (seqS_pg (c1 := 38) (c2 := 45) (o1 := 0) (o2 := 2) h (by omega) (by omega) hP)
        obtain ⟨i1, i2, i3⟩ := pg _ _ _ _ _ _ (by omega) hres
        have ends := sum_eq h hP _ _ _ _ _ _ (by omega) hres
        have r1 := sk_ge ch p1
        have r2 := sk_le h i2
        have hc1 := h.le (sk ch p1)
        simp only
        generalize hx : sk ch p1 = x at *
        have dp : ∀ σ2 vs2, P2 (40 :: σ) vs v1 σ2 vs2 → dep σ2 = d + 1 := fun σ2 vs2 hp2 => by
          rw [DP_2 _ _ _ _ _ hp2]
          show dep σ + 1 = d + 1
          omega
        by_cases h41 : ch x = 41
        · rw [if_pos h41]
          have xt := h.lt (j := x) (by omega)
          intro z
          obtain ⟨J2, kO, k', σ2, vs2, d1, d2, d3, d4, d5, d6⟩ := main z
          have B2 := MB_FQ a1 (b2.trans d2)
          obtain ⟨kO2, rfl⟩ : ∃ x, kO = x + 1 := ⟨kO - 1, by omega⟩
          obtain ⟨J3, e1, e2, e3⟩ := doTo_n (RSv_2 (dz := dz)) (by omega) (MB_FQ B2 (pM_FQ (p := x))) (MI_p (q := x) d3) d4 (by simp only [List.length_cons]; omega) (by omega) (show rkN 40 < 1 by decide) (by omega)
          obtain ⟨J4, f1, f2, f3⟩ := f6_pop_n e3 (by omega)
          have ft := f6_top_n e3 (by simp only [List.length_cons]; omega)
          refine ⟨J4, FU, kO2, k', x, true, ?_, (((b2.trans d2).trans pM_FQ).trans e2).trans f2, f3, rfl, by unfold FU; omega, by omega, by omega⟩
          rw [d1]
          unfold mO mC
          rw [f6_code_n h B2 d3.1 i2, hx]
          simp only [Option.bind_some]
          rw [f6_readsOn_L5, if_pos (by rw [h41]; rfl), k1, e1]
          simp only [Option.bind_some]
          rw [ft]
          simp only [Option.bind_some]
          rw [if_pos (by rfl), f1]
          simp only [Option.bind_some]
          unfold f6_closeFactor mO
          rw [Option.bind_assoc]
          congr 1
          funext K
          rw [Option.bind_assoc, if_pos trivial]
        · rw [if_neg h41]
          intro z
          obtain ⟨J2, kO, k', σ2, vs2, d1, d2, d3, d4, d5, d6⟩ := main (fun y => by rw [z] at y; cases y)
          have B2 := MB_FQ a1 (b2.trans d2)
          obtain ⟨kO2, rfl⟩ : ∃ x, kO = x + 1 := ⟨kO - 1, by omega⟩
          have rk0 : rkN (ch x) = 0 := by
            unfold rkN
            rw [if_neg ends.2.1, if_neg ends.2.2, if_neg ends.1.2.1, if_neg ends.1.2.2]
          have mx := MI_p (q := x) d3
          have step : mF kF2 (k2 + 1) J1 = endc (pM J2 x) := by
            rw [d1]
            unfold mO
            rw [f6_code_n h B2 d3.1 i2, hx]
            simp only [Option.bind_some]
            rw [f6_readsOn_L5, if_neg (by rw [k41, xI_eq (by omega) (by omega)]; exact h41), f6_rank_n hc1, rk0, if_pos (by rfl)]
            simp only [Option.bind_some]
            rw [if_neg (by decide)]
          rw [step]
          by_cases hxt : x < t
          · rw [endc_no (MB_FQ B2 pM_FQ) (pM_8 _ _) ht hxt]
            exact ⟨pM J2 x, rfl, (b2.trans d2).trans pM_FQ, pM_8 _ _, by rw [mx.2.2.2.2.1, dp _ _ d4]⟩
          · obtain ⟨J3, e1, e2, e3⟩ := doTo_n (RSv_2 (dz := dz)) (by omega) (MB_FQ B2 (pM_FQ (p := x))) mx d4 (by simp only [List.length_cons]; omega) (by omega) (show rkN 40 < 1 by decide) (by omega)
            refine ⟨J3, ?_, ((b2.trans d2).trans pM_FQ).trans e2, e3.1, by rw [e3.2.2.2.2.1]; show nI (dep σ + 1) = nI (d + 1); rw [g3]⟩
            unfold endc
            rw [pM_8, (MB_FQ B2 (pM_FQ (p := x))).1, if_pos (by rw [xI_le (by omega) (by omega)]; omega), k1, e1]
            simp only [Option.bind_some]
            rw [e3.2.2.2.1, if_neg (by simp only [List.length_cons]; rw [k0, xI_eq (by omega) (by omega)]; omega)]
  rw [if_neg h2]
  have L5 : f6_readsFactor_L5 (kF2 + 1) (pM J q) (nI (ch q)) = (if (f6_in (nI (ch q)) 48 57) = true then (f6_readsRow (pM J q)).bind fun q11 => (if q11.1 = true then some (true, q11.2) else some (false, q11.2)) else some (false, pM J q)) := by
    rw [f6_readsFactor_L5, if_neg (by rw [k40, xI_eq (by omega) (by omega)]; exact h2), if_neg (by rw [k126, xI_eq (by omega) (by omega)]; exact h1)]
  by_cases hd : isD (ch q) = true
  · have row := mrow_n h hn1 hn8 B1 m1 s2 hd (by omega)
    rw [g3] at row
    rw [f6_dig hc, if_pos hd] at L5
    have un : mF (kF2 + 1) (k2 + 1) J = ((f6_readsRow (pM J q)).bind fun q11 => (if q11.1 = true then some (true, q11.2) else some (false, q11.2))).bind fun q14 => f6_reads_L35 (k2 + 1) q14.2 (b2i q14.1) := by
      unfold mF
      rw [code]
      simp only [Option.bind_some]
      rw [L5]
    rw [un]
    rcases hres : rowS ch n ρ q d w with ⟨pf, df⟩ | ⟨p', w', v⟩
    · rw [hres] at row
      intro z
      obtain ⟨J', c1, c2, c3, c4⟩ := row z
      refine ⟨J', ?_, pM_FQ.trans c2, c3, c4⟩
      rw [c1]
      simp only [Option.bind_some]
      rw [if_neg (by decide)]
      simp only [Option.bind_some]
      exact reads_0
    · rw [hres] at row
      have pgr := rowS_pg h _ _ _ _ _ _ s2 hres
      intro z
      obtain ⟨J', c1, c2, c3⟩ := row z
      refine ⟨J', FU, FU, k2, p', false, ?_, pM_FQ.trans c2, c3, rfl, by unfold FU; omega, by unfold FU; omega, by omega⟩
      rw [c1]
      unfold closeT mC f6_closeFactor
      rw [Option.bind_assoc, Option.bind_assoc]
      congr 1
      funext K
      simp only [Option.bind_some]
      rw [if_pos trivial]
      simp only [Option.bind_some]
      rw [if_neg (by decide)]
      exact reads_1
  · have hd' : isD (ch q) = false := by simpa using hd
    have res : rowS ch n ρ q d w = .inl (q, d) := by
      unfold rowS
      rw [if_pos hd']
    rw [res]
    intro _
    have := mF_stop (kF := kF2 + 1) (k := k2) h a1 a3 a2 hq (by rw [L5, if_neg (in_no hc hd')])
    rw [g3] at this
    exact ⟨_, this⟩
theorem sF_FCl (h : TXT ch t) (hn1 : 1 ≤ n) (hn8 : n ≤ 8) : ∀ k, FCl ch t n ρ dz (sF ch n ρ k) k 2 := by
  intro k
  induction k with
  | zero => intro J s d p w σ vs kF k a1 a2 a3 g1 g2 g3 g4 g5; omega
  | succ k ih =>
    rw [sF]
    exact fa_FCl h hn1 hn8 (sF_pg h k) (seq_RC (r' := 2) (j := 1) h (seqS_pg h (by omega) (by omega) (sF_pg h k)) (seq_RC (r' := 3) (j := 0) h (sF_pg h k) (FCl_RC (by omega) ih) RSv_0 (by omega) rfl rfl rfl rfl rfl rfl (by decide) (by decide) (by omega) (by omega) (by omega)) (RSv_N RSv_0 (by decide) (by decide)) (by omega) rfl rfl rfl rfl rfl rfl (by decide) (by decide) (by omega) (by omega) (by omega)) ih
theorem sum_RC (h : TXT ch t) (hn1 : 1 ≤ n) (hn8 : n ≤ 8) (k : Nat) : RC ch t n ρ dz (suS ch (prS ch (sF ch n ρ k))) P2 1 k 0 :=
  seq_RC (r' := 2) (j := 1) h (seqS_pg h (by omega) (by omega) (sF_pg h k)) (seq_RC (r' := 3) (j := 0) h (sF_pg h k) (FCl_RC (by omega) (sF_FCl h hn1 hn8 k)) RSv_0 (by omega) rfl rfl rfl rfl rfl rfl (by decide) (by decide) (by omega) (by omega) (by omega)) (RSv_N RSv_0 (by decide) (by decide)) (by omega) rfl rfl rfl rfl rfl rfl (by decide) (by decide) (by omega) (by omega) (by omega)
end
