/-! a whole text is read by the reference, and evaluated by both -/
def FT (I J : gI) : Prop := (∀ c, c ≠ 79 → c ≠ 80 → c ≠ 83 → J c = I c) ∧ (∀ j, j < 8 → J 79 j = I 79 j) ∧ ∀ j, j < 28854 → J 80 j = I 80 j
theorem zb_n (dz : Bool) : zb (nI dz.toNat) = true := by
  cases dz <;> decide
section
variable {ch : Nat → Nat} {t n : Nat} {ρ : Nat → Row}
theorem f6_reads_n {dz : Bool} {I : gI} (h : TXT ch t) (hn1 : 1 ≤ n) (hn8 : n ≤ 8) (b1 : I 79 3 = nI t) (b2 : ∀ j, j < t → I 81 j = nI (ch j)) (b3 : I 80 4808 = nI n) (b4 : ∀ q, q < 8 → AR I (601 * q) (ρ q)) : match topS ch n ρ with
    | .inl (kd, p, d) => dz = false → (kd = 1 ∧ ∃ J, f6_reads I (nI dz.toNat) = some (false, J) ∧ FT I J ∧ J 79 8 = nI p ∧ J 79 11 = nI d) ∨ (kd = 2 ∧ ∃ J, f6_reads I (nI dz.toNat) = some (true, J) ∧ FT I J ∧ WM J (some (p, d)))
    | .inr v => ∃ J, f6_reads I (nI dz.toNat) = some (true, J) ∧ FT I J ∧ WM J none ∧ (dz = true → AR J 28854 v) := by
  have ht := h.1
  have key : ∀ K : gI, K = uI (uI (uI (uI (uI (uI I 79 13 (nI dz.toNat)) 79 8 0) 79 10 0) 79 11 0) 79 12 0) 79 14 (-1) → MB ch t n ρ dz K ∧ MI dz K 0 none [] [] ∧ (∀ c, c ≠ 79 → K c = I c) ∧ ∀ j, j < 8 → K 79 j = I 79 j := by
    intro K hK
    have o : ∀ c, c ≠ 79 → K c = I c := fun c hc => by rw [hK, uI_row hc, uI_row hc, uI_row hc, uI_row hc, uI_row hc, uI_row hc]
    have e : ∀ j, j < 8 → K 79 j = I 79 j := fun j hj => by rw [hK, uI_ap, if_neg (by omega), uI_ap, if_neg (by omega), uI_ap, if_neg (by omega), uI_ap, if_neg (by omega), uI_ap, if_neg (by omega), uI_ap, if_neg (by omega)]
    refine ⟨⟨(e 3 (by omega)).trans b1, fun j hj => by rw [o 81 (by omega)]; exact b2 j hj, by rw [o 80 (by omega)]; exact b3, fun q hq => AR_cells (b4 q hq) (fun j _ _ => by rw [o 80 (by omega)]), ?_⟩, ⟨?_, ?_, trivial, ?_, ?_, ?_, fun _ => trivial⟩, o, e⟩
    · rw [hK, uI_ap, if_neg (by omega), uI_ap, if_neg (by omega), uI_ap, if_neg (by omega), uI_ap, if_neg (by omega), uI_ap, if_neg (by omega), uI_self]
    · rw [hK, uI_ap, if_neg (by omega), uI_ap, if_neg (by omega), uI_ap, if_neg (by omega), uI_ap, if_neg (by omega), uI_self]
      rfl
    · show K 79 14 = -1
      rw [hK, uI_self]
    · rw [hK, uI_ap, if_neg (by omega), uI_ap, if_neg (by omega), uI_ap, if_neg (by omega), uI_self]
      rfl
    · rw [hK, uI_ap, if_neg (by omega), uI_ap, if_neg (by omega), uI_self]
      rfl
    · rw [hK, uI_ap, if_neg (by omega), uI_self]
      rfl
  have un : f6_reads I (nI dz.toNat) = mF FU FU (uI (uI (uI (uI (uI (uI I 79 13 (nI dz.toNat)) 79 8 0) 79 10 0) 79 11 0) 79 12 0) 79 14 (-1)) := by
    unfold f6_reads
    rw [if_pos (zb_n dz), reads_F]
  rw [un]
  generalize hK : uI (uI (uI (uI (uI (uI I 79 13 (nI dz.toNat)) 79 8 0) 79 10 0) 79 11 0) 79 12 0) 79 14 (-1) = K
  obtain ⟨B, M, o, e⟩ := key K hK.symm
  have ft : ∀ J, FQ K J → FT I J := fun J f => ⟨fun c c1 c2 c3 => (f.1 c c1 c2 c3).trans (o c c1), fun j hj => (f.2.1 j (by omega)).trans (e j hj), fun j hj => (f.2.2 j hj).trans (by rw [o 80 (by omega)])⟩
  have main := sum_RC (dz := dz) h hn1 hn8 20 K 0 0 0 none [] [] FU FU B (by omega) M rfl rfl rfl (by omega) (by omega) (by omega) (by decide) (by decide) (by unfold FU; omega) (by unfold FU; omega)
  have pg := seqS_pg (c1 := 124) (c2 := 94) (o1 := 1) (o2 := 3) h (by omega) (by omega) (seqS_pg (c1 := 38) (c2 := 45) (o1 := 0) (o2 := 2) h (by omega) (by omega) (sF_pg (n := n) (ρ := ρ) h 20))
  unfold topS
  rcases hres : suS ch (prS ch (sF ch n ρ 20)) 0 0 none with ⟨pf, df⟩ | ⟨p1, w1, v1⟩
  · rw [hres] at main
    intro z
    obtain ⟨J, c1, c2, c3, c4⟩ := main z
    exact Or.inl ⟨rfl, J, c1, ft J c2, c3, c4⟩
  · rw [hres] at main
    obtain ⟨i1, i2, i3⟩ := pg _ _ _ _ _ _ (by omega) hres
    have ends := sum_eq h (sF_pg h 20) _ _ _ _ _ _ (by omega) hres
    have r1 := sk_ge ch p1
    have r2 := sk_le h i2
    have hc1 := h.le (sk ch p1)
    simp only
    generalize hx : sk ch p1 = x at *
    have rk0 : rkN (ch x) = 0 := by
      unfold rkN
      rw [if_neg ends.2.1, if_neg ends.2.2, if_neg ends.1.2.1, if_neg ends.1.2.2]
    by_cases h0 : ch x = 0
    · rw [if_pos h0]
      have xt : t ≤ x := by
        rcases Nat.lt_or_ge x t with g | g
        · have := h.2.1 x g; omega
        · exact g
      have fin : (dz = true → w1 = none) → ∃ J, mF FU FU K = some (true, J) ∧ FQ K J ∧ MI dz J x w1 [] [v1] := fun z => by
        obtain ⟨J2, kO, k', σ2, vs2, d1, d2, d3, d4, d5, d6⟩ := main z
        have B2 := MB_FQ B d2
        obtain ⟨kO2, rfl⟩ : ∃ x, kO = x + 1 := ⟨kO - 1, by omega⟩
        obtain ⟨J3, e1, e2, e3⟩ := doTo_n (RSv_2 (dz := dz)) (by omega) (MB_FQ B2 (pM_FQ (p := x))) (MI_p (q := x) d3) d4 (by decide) (by decide) (by decide) (by omega)
        refine ⟨J3, ?_, (d2.trans pM_FQ).trans e2, e3⟩
        rw [d1]
        unfold mO
        rw [f6_code_n h B2 d3.1 i2, hx]
        simp only [Option.bind_some]
        rw [f6_readsOn_L5, if_neg (by rw [h0]; decide), f6_rank_n hc1, rk0, if_pos (by rfl)]
        simp only [Option.bind_some]
        rw [if_neg (by decide)]
        unfold endc
        rw [pM_8, (MB_FQ B2 (pM_FQ (p := x))).1, if_pos (by rw [xI_le (by omega) (by omega)]; omega), k1, e1]
        simp only [Option.bind_some]
        rw [e3.2.2.2.1, if_pos (by rfl)]
      cases w1 with
      | none =>
        obtain ⟨J, c1, c2, c3⟩ := fin (fun _ => rfl)
        exact ⟨J, c1, ft J c2, c3.2.1, fun z => (c3.2.2.2.2.2.2 z).1⟩
      | some y =>
        intro z
        obtain ⟨J, c1, c2, c3⟩ := fin (fun y => by rw [z] at y; cases y)
        exact Or.inr ⟨rfl, J, c1, ft J c2, c3.2.1⟩
    · rw [if_neg h0]
      have xt := h.lt (j := x) h0
      intro z
      obtain ⟨J2, kO, k', σ2, vs2, d1, d2, d3, d4, d5, d6⟩ := main (fun y => by rw [z] at y; cases y)
      have B2 := MB_FQ B d2
      have mx := MI_p (q := x) d3
      have dp : dep σ2 = 0 := DP_2 _ _ _ _ _ d4
      obtain ⟨kO2, rfl⟩ : ∃ x, kO = x + 1 := ⟨kO - 1, by omega⟩
      by_cases h41 : ch x = 41
      · obtain ⟨J3, e1, e2, e3⟩ := doTo_n (RSv_2 (dz := dz)) (by omega) (MB_FQ B2 (pM_FQ (p := x))) mx d4 (by decide) (by decide) (by decide) (by omega)
        have ft3 := f6_top_n e3 (by decide)
        have f3 := (d2.trans pM_FQ).trans e2
        refine Or.inl ⟨rfl, J3, ?_, ft J3 f3, e3.1, e3.2.2.2.2.1⟩
        rw [d1]
        unfold mO
        rw [f6_code_n h B2 d3.1 i2, hx]
        simp only [Option.bind_some]
        rw [f6_readsOn_L5, if_pos (by rw [h41]; rfl), k1, e1]
        simp only [Option.bind_some]
        rw [ft3]
        simp only [Option.bind_some]
        rw [if_neg (by decide)]
        simp only [Option.bind_some]
        rw [if_neg (by decide)]
        exact endc_no (MB_FQ B f3) e3.1 ht xt
      · refine Or.inl ⟨rfl, pM J2 x, ?_, ft _ (d2.trans pM_FQ), pM_8 _ _, by rw [mx.2.2.2.2.1, dp]⟩
        rw [d1]
        unfold mO
        rw [f6_code_n h B2 d3.1 i2, hx]
        simp only [Option.bind_some]
        rw [f6_readsOn_L5, if_neg (by rw [k41, xI_eq (by omega) (by omega)]; exact h41), f6_rank_n hc1, rk0, if_pos (by rfl)]
        simp only [Option.bind_some]
        rw [if_neg (by decide)]
        exact endc_no (MB_FQ B2 pM_FQ) (pM_8 _ _) ht xt
end
theorem f6_fail_n {J : gI} {a b c : Int32} : f6_fail J a b c = some (-1000 - b, uI (uI (uI J 79 5 a) 79 6 b) 79 7 c) := rfl
theorem op_evaluate (I : gI) (A : Snap) (H : List Snap) (h : Rel I A H) (x : Int32) : OK1 (f5_evaluate I x) (fun J => f6_evaluate J x) := by
  obtain ⟨hc, hm, ⟨t, t1, t2, t3, t4⟩, u1, u2, u3⟩ := id h
  by_cases h1 : f5_isWithin x 0 (nI A.1 - 1) = true
  case neg => exact OK1_same (v := -1) ⟨A, H, h⟩ (by simp only [f5_evaluate, f5_isRow_n hc, f6_isRow_n hm, f5_isBit, f5_isOperation, f6_in_eq, Option.bind_some, if_true, if_false, eq_self, Bool.false_eq_true, h1]) (by simp only [f6_evaluate, f5_isRow_n hc, f6_isRow_n hm, f5_isBit, f5_isOperation, f6_in_eq, Option.bind_some, if_true, if_false, eq_self, Bool.false_eq_true, h1])
  have h8 := hc.n8
  obtain ⟨q, hqn, rfl⟩ := isW_row hc.n8 h1
  have hq : q < 8 := by omega
  have hi := ib_q hq
  have hl := cl_q hq
  obtain ⟨ch, hch⟩ : ∃ ch : Nat → Nat, ch = fun j => if j < t then (I 20 j).toNatClampNeg else 0 := ⟨_, rfl⟩
  have c20 : ∀ j, j < t → I 20 j = nI (ch j) ∧ I 81 j = nI (ch j) ∧ 1 ≤ ch j ∧ ch j ≤ 255 := fun j hj => by
    obtain ⟨c, k1', k2', k3', k4'⟩ := t4 j hj
    have e : ch j = c := by
      rw [hch]
      show (if j < t then (I 20 j).toNatClampNeg else 0) = c
      rw [if_pos hj, k3', xI_cl (by omega)]
    rw [e]
    exact ⟨k3', k4', k1', k2'⟩
  have hT : TXT ch t := ⟨t1, fun j hj => (c20 j hj).2.2, fun j hj => by
    rw [hch]
    show (if j < t then (I 20 j).toNatClampNeg else 0) = 0
    rw [if_neg (by omega)]⟩
  obtain ⟨b, I1, r1, r2, r3, r4⟩ := f2_read_n (n := A.1) (ρ := A.2) hT (by omega) h8 t2 (fun j hj => (c20 j hj).1) (fun q hq => hc.rows hq)
  have c1 : CR I1 A H := CR_kept hc (fun c a b => r2 c (by omega) (by omega))
  have m1 : MR I1 A H := MR_kept hm (fun j _ => by rw [r2 80 (by omega) (by omega)]) (by rw [r2 79 (by omega) (by omega)])
  -- the reference reads what is as it was
  have rd : ∀ (dz : Bool) (J : gI), MR J A H ∨ MR J A (recH A H) → (∀ j, j ≠ 1 → J 79 j = I 79 j) → J 81 = I 81 → match topS ch A.1 A.2 with
      | .inl (kd, p, d) => dz = false → (kd = 1 ∧ ∃ K, f6_reads J (nI dz.toNat) = some (false, K) ∧ FT J K ∧ K 79 8 = nI p ∧ K 79 11 = nI d) ∨ (kd = 2 ∧ ∃ K, f6_reads J (nI dz.toNat) = some (true, K) ∧ FT J K ∧ WM K (some (p, d)))
      | .inr v => ∃ K, f6_reads J (nI dz.toNat) = some (true, K) ∧ FT J K ∧ WM K none ∧ (dz = true → AR K 28854 v) := fun dz J hM e79 e81 =>
    f6_reads_n hT (by omega) h8 ((e79 3 (by omega)).trans t3) (fun j hj => by rw [e81]; exact (c20 j hj).2.1) (by rcases hM with hM | hM <;> exact hM.n) (fun q hq => by rcases hM with hM | hM <;> exact hM.rows hq)
  rcases hres : topS ch A.1 A.2 with ⟨kd, p, d⟩ | v
  · rw [hres] at r4
    obtain ⟨s1, s2, s3, s4⟩ := r4
    have R := rd false I1 (Or.inl m1) (fun j _ => by rw [r2 79 (by omega) (by omega)]) (by rw [r2 81 (by omega) (by omega)])
    rw [hres] at R
    have e5 : f5_evaluate I (nI q) = some (-1000 - nI p, I1) := by
      unfold f5_evaluate
      rw [f5_isRow_n hc, if_pos h1, hc.n, r1]
      simp only [Option.bind_some]
      rw [s1, if_neg (by decide), s3]
    have fin : ∀ K, FT I1 K → RelE (uI (uI (uI K 79 5 (nI kd)) 79 6 (nI p)) 79 7 (nI d)) := fun K f => by
      have o : ∀ c, c ≠ 79 → uI (uI (uI K 79 5 (nI kd)) 79 6 (nI p)) 79 7 (nI d) c = K c := fun c hc => by rw [uI_row hc, uI_row hc, uI_row hc]
      have e : ∀ j, j ≠ 5 → j ≠ 6 → j ≠ 7 → uI (uI (uI K 79 5 (nI kd)) 79 6 (nI p)) 79 7 (nI d) 79 j = K 79 j := fun j j1 j2 j3 => by rw [uI_ap, if_neg (by omega), uI_ap, if_neg (by omega), uI_ap, if_neg (by omega)]
      refine ⟨A, H, CR_kept c1 (fun c a _ => (o c (by omega)).trans (f.1 c (by omega) (by omega) (by omega))), MR_kept m1 (fun j hj => by rw [o 80 (by omega)]; exact f.2.2 j hj) ((e 1 (by omega) (by omega) (by omega)).trans (f.2.1 1 (by omega))), ⟨t, t1, ?_, ?_, fun j hj => ⟨ch j, (c20 j hj).2.2.1, (c20 j hj).2.2.2, ?_, ?_⟩⟩, ?_, ?_, ?_⟩
      · rw [o 19 (by omega), f.1 19 (by omega) (by omega) (by omega)]; exact r3
      · rw [e 3 (by omega) (by omega) (by omega), f.2.1 3 (by omega), r2 79 (by omega) (by omega)]; exact t3
      · rw [o 20 (by omega), f.1 20 (by omega) (by omega) (by omega), r2 20 (by omega) (by omega)]; exact (c20 j hj).1
      · rw [o 81 (by omega), f.1 81 (by omega) (by omega) (by omega), r2 81 (by omega) (by omega)]; exact (c20 j hj).2.1
      · rw [o 19 (by omega), f.1 19 (by omega) (by omega) (by omega), s2, uI_ap, if_neg (by omega), uI_ap, if_neg (by omega), uI_self]
      · rw [o 19 (by omega), f.1 19 (by omega) (by omega) (by omega), s3, uI_ap, if_neg (by omega), uI_self]
      · rw [o 19 (by omega), f.1 19 (by omega) (by omega) (by omega), s4, uI_self]
    rcases R rfl with ⟨hk, K, y1, y2, y3, y4⟩ | ⟨hk, K, y1, y2, y3⟩
    · refine ⟨-1000 - nI p, I1, _, e5, ?_, fin K y2⟩
      show f6_evaluate I1 (nI q) = _
      have y1' : f6_reads I1 0 = some (false, K) := y1
      unfold f6_evaluate
      rw [f6_isRow_n m1]
      simp only [Option.bind_some]
      rw [if_pos h1, y1']
      simp only [Option.bind_some]
      rw [if_neg (by decide), y3, y4, f6_fail_n, hk]
      rfl
    · refine ⟨-1000 - nI p, I1, _, e5, ?_, fin K y2⟩
      show f6_evaluate I1 (nI q) = _
      have y1' : f6_reads I1 0 = some (true, K) := y1
      have z1 : K 79 14 = nI p := y3.1
      have z2 : K 79 15 = nI d := y3.2.1
      have z3 : p ≤ 1000 := y3.2.2
      unfold f6_evaluate
      rw [f6_isRow_n m1]
      simp only [Option.bind_some]
      rw [if_pos h1, y1']
      simp only [Option.bind_some]
      rw [if_pos trivial, z1, z2, if_neg (by rw [k0, xI_lt (by omega) (by omega)]; omega), f6_fail_n, hk]
      rfl
  · rw [hres] at r4
    obtain ⟨s1, s2, s3, s4, s5⟩ := r4
    obtain ⟨J, a1, a2, a3, a4⟩ := f5_record_n c1 hq
    have b0 : BR J 23 v := BR_cells s2 (a4 23 (by omega)) (a4 24 (by omega))
    obtain ⟨J', b1, b2, b3⟩ := f0_copyFrom_n (b := 63 + 2 * q) b0 (by omega)
    have sz := f4_size_n b2
    have cr : CR J' (A.1, updR A.2 q v) (recH A H) := CR_stepB a2 hq a3 b2 (FrB_st b3)
    have fJ : ∀ c, c = 19 ∨ c = 20 ∨ 79 ≤ c → J' c = I1 c := fun c hc => (FrB_fb hq b3 c hc).trans (a4 c (by omega))
    have fI : ∀ c, c = 20 ∨ 79 ≤ c → J' c = I c := fun c hc => (fJ c (by omega)).trans (r2 c (by omega) (by omega))
    have m2 : MR J' A H := MR_kept hm (fun j _ => by rw [fI 80 (by omega)]) (by rw [fI 79 (by omega)])
    have R0 := rd false J' (Or.inl m2) (fun j _ => by rw [fI 79 (by omega)]) (by rw [fI 81 (by omega)])
    rw [hres] at R0
    obtain ⟨K1, y1, y2, y3, -⟩ := R0
    have m3 : MR K1 A H := MR_kept m2 (fun j hj => y2.2.2 j hj) (y2.2.1 1 (by omega))
    obtain ⟨K2, d1, d2, d3, d4⟩ := f6_record_n m3
    -- its second reading stands at a state whose other cells are as they were
    have k79 : ∀ j, j < 8 → j ≠ 1 → K2 79 j = I 79 j := fun j hj hj1 => (d4 j hj1).trans ((y2.2.1 j hj).trans (by rw [fI 79 (by omega)]))
    have k81 : K2 81 = I 81 := (d3 81 (by omega) (by omega)).trans ((y2.1 81 (by omega) (by omega) (by omega)).trans (fI 81 (by omega)))
    have R1 := f6_reads_n (dz := true) (I := K2) hT (show 1 ≤ A.1 by omega) h8 ((k79 3 (by omega) (by omega)).trans t3) (fun j hj => by rw [k81]; exact (c20 j hj).2.1) d2.n (fun q hq => d2.rows hq)
    rw [hres] at R1
    obtain ⟨K3, x1, x2, x3, x4⟩ := R1
    have m4 : MR K3 A (recH A H) := MR_kept d2 (fun j hj => x2.2.2 j hj) (x2.2.1 1 (by omega))
    have ar := cpA_AR (b := 601 * q) (n := 601) (x4 rfl) (by omega)
    have cf := cpA_FrO (I := K3) (a := 28854) (b := 601 * q)
    have mr : MR (cpA K3 28854 (601 * q) 601) (A.1, updR A.2 q v) (recH A H) := MR_stepO m4 hq ar cf
    have cp := f6_copy_n (I := K3) (a := 28854) (b := 601 * q) (by omega) (by omega) (by omega)
    have wd := f6_words_n (kk := 3) ar (by omega) (by omega)
    rw [kq3] at wd
    have lo : ∀ c, c < 79 ∨ c = 81 → cpA K3 28854 (601 * q) 601 c = J' c := fun c hc => (cf.1 c (by omega)).trans ((x2.1 c (by omega) (by omega) (by omega)).trans ((d3 c (by omega) (by omega)).trans (y2.1 c (by omega) (by omega) (by omega))))
    have l79 : ∀ j, j < 8 → j ≠ 1 → cpA K3 28854 (601 * q) 601 79 j = I 79 j := fun j hj hj1 => by
      rw [cf.1 79 (by omega), x2.2.1 j hj]
      exact k79 j hj hj1
    have l19 : cpA K3 28854 (601 * q) 601 19 = I1 19 := (lo 19 (by omega)).trans (fJ 19 (by omega))
    refine ⟨nI (WS v 0).length, J', cpA K3 28854 (601 * q) 601, ?_, ?_, (A.1, updR A.2 q v), recH A H, CR_kept cr (fun c a _ => lo c (by omega)), mr, ⟨t, t1, by rw [l19]; exact r3, (l79 3 (by omega) (by omega)).trans t3, fun j hj => ⟨ch j, (c20 j hj).2.2.1, (c20 j hj).2.2.2, ?_, ?_⟩⟩, ?_, ?_, ?_⟩
    · unfold f5_evaluate
      rw [f5_isRow_n hc, if_pos h1, hc.n, r1]
      simp only [Option.bind_some]
      rw [s1, if_pos (by rfl), a1]
      simp only [Option.bind_some]
      rw [if_pos hi]
      unfold f2_result
      simp only [Option.bind_some]
      rw [if_pos (by decide), hl, b1]
      simp only [Option.bind_some]
      rw [if_pos hi, sz]
      rfl
    · show f6_evaluate J' (nI q) = _
      have y1' : f6_reads J' 0 = some (true, K1) := y1
      have x1' : f6_reads K2 1 = some (true, K3) := x1
      have z1 : K1 79 14 = -1 := y3
      have as0 : f6_asked 0 = nI 28854 := f6_asked_n 0
      unfold f6_evaluate
      rw [f6_isRow_n m2]
      simp only [Option.bind_some]
      rw [if_pos h1, y1']
      simp only [Option.bind_some]
      rw [if_pos trivial, z1, if_pos (by decide), d1]
      simp only [Option.bind_some]
      rw [x1']
      simp only [Option.bind_some]
      rw [as0, f6_at_n, cp]
      simp only [Option.bind_some]
      rw [k3, wd]
      rfl
    · rw [lo 20 (by omega), fI 20 (by omega)]; exact (c20 j hj).1
    · rw [lo 81 (by omega), fI 81 (by omega)]; exact (c20 j hj).2.1
    · rw [l19, s3, l79 5 (by omega) (by omega)]; exact u1
    · rw [l19, s4, l79 6 (by omega) (by omega)]; exact u2
    · rw [l19, s5, l79 7 (by omega) (by omega)]; exact u3
