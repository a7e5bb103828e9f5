theorem isW_pl {a : Int32} {n : Nat} (hn : n ≤ 1000) (h : f5_isWithin a 0 (nI n - 1) = true) : ∃ q, q < n ∧ a = nI q := by
  unfold f5_isWithin at h
  rcases Nat.eq_zero_or_pos n with h0 | h0
  · subst h0
    exact isW_row (n := 0) (by omega) h
  · by_cases h1 : a < 0
    · rw [if_pos h1] at h; cases h
    · rw [if_neg h1] at h
      by_cases h2 : (nI n - 1) < a
      · rw [if_pos h2] at h; cases h
      · rw [k1, xI_sub h0] at h2
        obtain ⟨j, hj, rfl⟩ := xI_of (show n - 1 < 2 ^ 31 by omega) h1 h2
        exact ⟨j, by omega, rfl⟩
theorem f5_isPlace_n {I : gI} {A : Snap} {H : List Snap} {q : Nat} (h : CR I A H) (hq : q < 8) (a : Int32) : f5_isPlace I (nI q) a = some (f5_isWithin a 0 (nI (A.2 q).1 - 1)) := by
  unfold f5_isPlace
  rw [if_pos (ib_q hq), cl_q hq, (h.rows hq).2.1]
theorem f6_isPlace_b {I : gI} {A : Snap} {H : List Snap} {x : Int32} (h : MR I A H) (h1 : ¬ f5_isWithin x 0 (nI A.1 - 1) = true) (a b : Int32) : f6_isPlace I x a b = some false := by
  unfold f6_isPlace
  rw [f6_isRow_n h]
  simp only [Option.bind_some]
  rw [if_neg h1]
theorem if_bt (b : Bool) : (if b = true then some true else some false) = some b := by
  cases b <;> rfl
theorem f6_isPlace_0 {I : gI} {A : Snap} {H : List Snap} {q : Nat} (h : MR I A H) (hq : q < 8) (h1 : f5_isWithin (nI q) 0 (nI A.1 - 1) = true) (a : Int32) : f6_isPlace I (nI q) a 0 = some (f5_isWithin a 0 (nI (A.2 q).1 - 1)) := by
  unfold f6_isPlace
  rw [f6_isRow_n h]
  simp only [Option.bind_some]
  rw [if_pos h1, f6_at_n, if_pos (ib_6 hq), cl_6 hq, (h.rows hq).2.1, Int32.add_zero, f6_in_eq, if_bt]
theorem f6_isPlace_1 {I : gI} {A : Snap} {H : List Snap} {q : Nat} (h : MR I A H) (hq : q < 8) (h1 : f5_isWithin (nI q) 0 (nI A.1 - 1) = true) (a : Int32) : f6_isPlace I (nI q) a 1 = some (f5_isWithin a 0 (nI (A.2 q).1)) := by
  unfold f6_isPlace
  rw [f6_isRow_n h]
  simp only [Option.bind_some]
  rw [if_pos h1, f6_at_n, if_pos (ib_6 hq), cl_6 hq, (h.rows hq).2.1, Int32.sub_add_cancel, f6_in_eq, if_bt]
theorem op_set {I : gI} {A : Snap} {H : List Snap} (h : Rel I A H) (x y z : Int32) : OK1 (f5_set I x y z) (fun J => f6_set J x y z) := by
  obtain ⟨hc, hm, ht⟩ := id h
  by_cases h1 : f5_isWithin x 0 (nI A.1 - 1) = true
  case neg =>
    have hp := fun a b => f6_isPlace_b hm h1 a b
    exact OK1_same (v := -1) ⟨A, H, h⟩ (by simp only [f5_set, f5_isRow_n hc, f6_isRow_n hm, f5_isBit, f5_isOperation, f6_in_eq, Option.bind_some, if_true, if_false, eq_self, Bool.false_eq_true, h1, hp]) (by simp only [f6_set, f5_isRow_n hc, f6_isRow_n hm, f5_isBit, f5_isOperation, f6_in_eq, Option.bind_some, if_true, if_false, eq_self, Bool.false_eq_true, h1, hp])
  obtain ⟨q, hqn, rfl⟩ := isW_row hc.n8 h1
  have hq : q < 8 := by have := hc.n8; omega
  have hi := ib_q hq
  have hl := cl_q hq
  have hp5 := f5_isPlace_n hc hq y
  have hp6 := f6_isPlace_0 hm hq h1 y
  by_cases h2 : f5_isWithin y 0 (nI (A.2 q).1 - 1) = true
  case neg => exact OK1_same (v := -1) ⟨A, H, h⟩ (by simp only [f5_set, f5_isRow_n hc, f6_isRow_n hm, f5_isBit, f5_isOperation, f6_in_eq, Option.bind_some, if_true, if_false, eq_self, Bool.false_eq_true, h1, hp5, hp6, h2]) (by simp only [f6_set, f5_isRow_n hc, f6_isRow_n hm, f5_isBit, f5_isOperation, f6_in_eq, Option.bind_some, if_true, if_false, eq_self, Bool.false_eq_true, h1, hp5, hp6, h2])
  by_cases h3 : f5_isWithin z 0 1 = true
  case neg => exact OK1_same (v := -1) ⟨A, H, h⟩ (by simp only [f5_set, f5_isRow_n hc, f6_isRow_n hm, f5_isBit, f5_isOperation, f6_in_eq, Option.bind_some, if_true, if_false, eq_self, Bool.false_eq_true, h1, hp5, hp6, h2, h3]) (by simp only [f6_set, f5_isRow_n hc, f6_isRow_n hm, f5_isBit, f5_isOperation, f6_in_eq, Option.bind_some, if_true, if_false, eq_self, Bool.false_eq_true, h1, hp5, hp6, h2, h3])
  have l0 := (hc.rows hq).1.1
  obtain ⟨p, hp, rfl⟩ := isW_pl (by omega) h2
  obtain ⟨v, rfl⟩ := isW_bit h3
  obtain ⟨J, a1, a2, a3, a4⟩ := f5_record_n hc hq
  have b0 := f0_valueAt_n (p := p) (a2.rows hq) (by omega)
  obtain ⟨J', b1, b2, b3⟩ := f0_putAt_r (v := v) (a2.rows hq) hp
  have fb := FrB_fb hq b3
  have hm' := MR_of hm (FC_j a4 fb)
  have hp7 := f6_isPlace_0 hm' hq h1 (nI p)
  obtain ⟨K, d1, d2, d3, d4⟩ := f6_record_n hm'
  have e0 := f6_bitOf_n (k := p) (d2.rows hq) (by omega) (by omega)
  have e1 := f6_put_n (I := K) (o := 601 * q) (k := p) (v := nI v.toNat) (by omega)
  have e2 := AR_put (v := v) (d2.rows hq) hp
  have e3 : FrO K (uI K 80 (601 * q + 1 + p) (nI v.toNat)) (601 * q) := FrO_uI (by omega) (by omega)
  refine ⟨nI ((A.2 q).2 p).toNat, J', _, ?_, ?_, fin_j h a4 (CR_stepB a2 hq a3 b2 (FrB_st b3)) fb (MR_stepO d2 hq e2 e3) d3 d4 (FrO_g e3)⟩
  · simp only [f5_set, f5_isRow_n hc, f6_isRow_n hm, f5_isBit, f5_isOperation, f6_in_eq, Option.bind_some, if_true, if_false, eq_self, Bool.false_eq_true, h1, hp5, h2, h3, hi, hl, a1, b0, b1]
  · simp only [f6_set, f5_isRow_n hc, f5_isBit, f5_isOperation, f6_in_eq, Option.bind_some, if_true, if_false, eq_self, Bool.false_eq_true, hp7, h2, h3, f6_at_n, d1, e0, e1]
theorem op_make {I : gI} {A : Snap} {H : List Snap} (h : Rel I A H) : OK1 (f5_make I) (fun J => f6_make J) := by
  obtain ⟨hc, hm, ht⟩ := id h
  have h8 := hc.n8
  by_cases h1 : A.1 = 8
  · refine OK1_same (v := -3) ⟨A, H, h⟩ ?_ ?_
    · unfold f5_make
      rw [hc.n, if_neg (by rw [k8, xI_lt (by omega) (by omega)]; omega)]
    · unfold f6_make
      rw [hm.n, if_pos (by rw [h1]; rfl)]
  have hq : A.1 < 8 := by omega
  have hi := ib_q hq
  have hl := cl_q hq
  obtain ⟨J, a1, a2, a3, a4⟩ := f5_record_n hc hq
  obtain ⟨J', b1, b2, b3⟩ := f0_cutTo_n (p := 0) (a2.rows hq) (by omega)
  have n1 : J' 0 1 = nI A.1 := by rw [b3 0 (by omega) (by omega)]; exact a2.n
  have fb : ∀ c, c = 19 ∨ c = 20 ∨ 79 ≤ c → uI J' 0 1 (nI (A.1 + 1)) c = J c := fun c hc => by rw [uI_row (by omega)]; exact FrB_fb hq b3 c hc
  have hm' := MR_of hm (FC_j a4 fb)
  have n2 := hm'.n
  obtain ⟨K, d1, d2, d3, d4⟩ := f6_record_n hm'
  have n3 := d2.n
  have cr : CR (uI J' 0 1 (nI (A.1 + 1))) (A.1 + 1, updR A.2 A.1 (cutR (A.2 A.1) 0)) (recH A H) := CR_step a2 hq a3 (BR_cells b2 (uI_row (by omega)) (uI_row (by omega))) (uI_self _ _ _ _) (by omega) (fun c _ h0 _ h3 h4 => by rw [uI_row h0]; exact b3 c h3 (by omega))
  have mr : MR (uI (uI K 80 (601 * A.1) 0) 80 4808 (nI (A.1 + 1))) (A.1 + 1, updR A.2 A.1 (cutR (A.2 A.1) 0)) (recH A H) := by
    refine MR_step d2 hq ⟨cutR_ok (by omega), ?_, fun k hk => ?_⟩ (uI_self _ _ _ _) (fun j j1 j2 _ => ?_) ?_
    · rw [uI_ap, if_neg (by omega), uI_self]
      rfl
    · exact absurd hk (Nat.not_lt_zero k)
    · rw [uI_ap, if_neg (by omega), uI_ap, if_neg (by omega)]
    · rw [uI_row (by omega), uI_row (by omega)]
  refine ⟨nI A.1, uI J' 0 1 (nI (A.1 + 1)), _, ?_, ?_, fin_j h a4 cr fb mr d3 d4 (fun c h1 _ => by rw [uI_row h1, uI_row h1])⟩
  · unfold f5_make
    rw [hc.n, if_pos (by rw [k8, xI_lt (by omega) (by omega)]; omega), a1]
    simp only [Option.bind_some]
    rw [if_pos hi, hl, k0, b1]
    simp only [Option.bind_some]
    rw [n1, k1, nI_add]
  · show f6_make (uI J' 0 1 (nI (A.1 + 1))) = _
    unfold f6_make
    rw [n2, if_neg (by rw [k8, xI_eq (by omega) (by omega)]; exact h1), d1]
    simp only [Option.bind_some]
    have n4 : uI K 80 (601 * A.1) 0 80 4808 = nI A.1 := by rw [uI_ap, if_neg (by omega)]; exact n3
    rw [n3, f6_at_n, if_pos (ib_6 hq), cl_6 hq, n4, uI_self, k1, nI_add, xI_sub (by omega)]
    rfl
theorem op_undo {I : gI} {A : Snap} {H : List Snap} (h : Rel I A H) : OK1 (f5_undo I) (fun J => f6_undo J) := by
  obtain ⟨hc, hm, ht⟩ := id h
  cases H with
  | nil =>
    refine OK1_same (v := -2) ⟨A, [], h⟩ ?_ ?_
    · unfold f5_undo
      rw [hc.hl, if_pos (by rfl)]
    · unfold f6_undo
      rw [hm.hl, if_pos (by rfl)]
  | cons s t =>
    obtain ⟨J, a1, a2, a3⟩ := f5_undo_n hc
    have fc : FC I J := fun c hc => a3 c (by omega) (by omega)
    obtain ⟨K, b1, b2, b3, b4⟩ := f6_undo_n (MR_of hm fc)
    exact ⟨_, J, K, a1, b1, s, t, Rel_of h a2 fc b2 ⟨fun c hc => b3 c (by omega) (by omega), b4⟩⟩
theorem fin_q {I J K : gI} {A : Snap} {H : List Snap} (h : Rel I A H) (hJ : ∀ c, c < 61 ∨ 62 < c → J c = I c) (g : ∀ c, c ≠ 80 → c ≠ 82 → K c = J c) (g2 : ∀ j, j < 28854 → K 80 j = J 80 j) : RelE K := by
  have fc : FC I J := fun c hc => hJ c (by omega)
  exact ⟨A, H, Rel_of h (CR_kept h.1 (fun c _ h2 => hJ c (by omega))) fc (MR_kept (MR_of h.2.1 fc) g2 (by rw [g 79 (by omega) (by omega)])) ⟨fun c hc => g c (by omega) (by omega), fun j _ => by rw [g 79 (by omega) (by omega)]⟩⟩
theorem op_best {I : gI} {A : Snap} {H : List Snap} (h : Rel I A H) (x : Int32) : OK1 (f5_bestShift I x) (fun J => f6_bestShift J x) := by
  obtain ⟨hc, hm, ht⟩ := id h
  by_cases h1 : f5_isWithin x 0 (nI A.1 - 1) = true
  case neg => exact OK1_same (v := -1) ⟨A, H, h⟩ (by simp only [f5_bestShift, f5_isRow_n hc, f6_isRow_n hm, f5_isBit, f5_isOperation, f6_in_eq, Option.bind_some, if_true, if_false, eq_self, Bool.false_eq_true, h1]) (by simp only [f6_bestShift, f5_isRow_n hc, f6_isRow_n hm, f5_isBit, f5_isOperation, f6_in_eq, Option.bind_some, if_true, if_false, eq_self, Bool.false_eq_true, h1])
  obtain ⟨q, hqn, rfl⟩ := isW_row hc.n8 h1
  have hq : q < 8 := by have := hc.n8; omega
  have hi := ib_q hq
  have hl := cl_q hq
  have a0 := f4_size_n (hc.rows hq)
  obtain ⟨J, a1, a2⟩ := f5_best_L_n hq FU 0 (WS (A.2 q) 0).length 1 I (hc.rows hq) (by omega) (by unfold FU; omega) (WS_len (ng_le (hc.rows hq).1))
  have hJ : ∀ c, c < 61 ∨ 62 < c → J c = I c := fun c hc => a2 c (by omega) (by omega)
  have hm' : MR J A H := MR_of hm (fun c hc => hJ c (by omega))
  obtain ⟨K, b1, b2⟩ := f6_best_0_n hq (hm'.rows hq)
  refine ⟨nI (bs (A.2 q) 14 0 (WS (A.2 q) 0).length 1), J, K, ?_, ?_, fin_q h hJ (FrO_g b2) (fun j hj => b2.2 j (by omega) (by omega))⟩
  · unfold f5_bestShift
    rw [f5_isRow_n hc, if_pos h1, if_pos hi, hl, a0]
    simp only [Option.bind_some]
    rw [k0, k1]
    exact a1
  · show f6_bestShift J (nI q) = _
    unfold f6_bestShift
    rw [f6_isRow_n hm']
    simp only [Option.bind_some]
    rw [if_pos h1]
    exact b1
theorem op_would {I : gI} {A : Snap} {H : List Snap} (h : Rel I A H) (x y z w : Int32) : OK1 (f5_would I x y z w) (fun J => f6_would J x y z w) := by
  obtain ⟨hc, hm, ht⟩ := id h
  by_cases h1 : f5_isWithin x 0 3 = true
  case neg => exact OK1_same (v := -1) ⟨A, H, h⟩ (by simp only [f5_would, f5_isRow_n hc, f6_isRow_n hm, f5_isBit, f5_isOperation, f6_in_eq, Option.bind_some, if_true, if_false, eq_self, Bool.false_eq_true, h1]) (by simp only [f6_would, f5_isRow_n hc, f6_isRow_n hm, f5_isBit, f5_isOperation, f6_in_eq, Option.bind_some, if_true, if_false, eq_self, Bool.false_eq_true, h1])
  by_cases h2 : f5_isWithin y 0 (nI A.1 - 1) = true
  case neg => exact OK1_same (v := -1) ⟨A, H, h⟩ (by simp only [f5_would, f5_isRow_n hc, f6_isRow_n hm, f5_isBit, f5_isOperation, f6_in_eq, Option.bind_some, if_true, if_false, eq_self, Bool.false_eq_true, h1, h2]) (by simp only [f6_would, f5_isRow_n hc, f6_isRow_n hm, f5_isBit, f5_isOperation, f6_in_eq, Option.bind_some, if_true, if_false, eq_self, Bool.false_eq_true, h1, h2])
  by_cases h3 : f5_isWithin z 0 (nI A.1 - 1) = true
  case neg => exact OK1_same (v := -1) ⟨A, H, h⟩ (by simp only [f5_would, f5_isRow_n hc, f6_isRow_n hm, f5_isBit, f5_isOperation, f6_in_eq, Option.bind_some, if_true, if_false, eq_self, Bool.false_eq_true, h1, h2, h3]) (by simp only [f6_would, f5_isRow_n hc, f6_isRow_n hm, f5_isBit, f5_isOperation, f6_in_eq, Option.bind_some, if_true, if_false, eq_self, Bool.false_eq_true, h1, h2, h3])
  by_cases h4 : f5_isWithin w 0 2 = true
  case neg => exact OK1_same (v := -1) ⟨A, H, h⟩ (by simp only [f5_would, f5_isRow_n hc, f6_isRow_n hm, f5_isBit, f5_isOperation, f6_in_eq, Option.bind_some, if_true, if_false, eq_self, Bool.false_eq_true, h1, h2, h3, h4]) (by simp only [f6_would, f5_isRow_n hc, f6_isRow_n hm, f5_isBit, f5_isOperation, f6_in_eq, Option.bind_some, if_true, if_false, eq_self, Bool.false_eq_true, h1, h2, h3, h4])
  have h8 := hc.n8
  obtain ⟨op, hp1, hp2, rfl⟩ := isW_n (m := 0) (n := 3) (by omega) (by omega) h1
  obtain ⟨s, hsn, rfl⟩ := isW_row hc.n8 h2
  obtain ⟨t, htn, rfl⟩ := isW_row hc.n8 h3
  obtain ⟨u, hu1, hu2, rfl⟩ := isW_n (m := 0) (n := 2) (by omega) (by omega) h4
  have hs : s < 8 := by omega
  have htt : t < 8 := by omega
  have his := ib_q hs
  have hls := cl_q hs
  have hit := ib_q htt
  have hlt := cl_q htt
  have wk := f4_work_n (hc.rows hs) (hc.rows htt)
  obtain ⟨J, b1, b2, b3⟩ := f0_combine_n (b := 61) (op := op) (hc.rows hs) (hc.rows htt) hp2 (by omega) (by omega)
  have ref : ∀ J, MR J A H → ∃ K, f6_operateOn J (nI op) (nI (601 * s)) (nI (601 * t)) (nI 28854) = some K ∧ MR K A H ∧ AR K 28854 (opR op (A.2 s) (A.2 t)) ∧ FrO J K 28854 := fun J hm' => by
    obtain ⟨K, e1, e2, e3⟩ := f6_operateOn_n (to := 28854) (op := op) hp2 (by omega) (by omega) (by omega) (hm'.rows hs) (hm'.rows htt)
    exact ⟨K, e1, MR_kept hm' (fun j hj => e3.2 j (by omega) (by omega)) (by rw [e3.1 79 (by omega)]), e2, e3⟩
  have asked0 : f6_asked 0 = nI 28854 := f6_asked_n 0
  rcases (show u = 0 ∨ u = 1 ∨ u = 2 by omega) with rfl | rfl | rfl
  · obtain ⟨K, e1, e2, e3, e4⟩ := ref I hm
    obtain ⟨K1, g1, g2⟩ := f6_workOf_n (by omega) (by omega) (e2.rows hs) (e2.rows htt)
    refine ⟨nI (wkR (A.2 s) (A.2 t)), I, K1, ?_, ?_, fin_q h (fun _ _ => rfl) (fun c c1 c2 => by rw [g2 c c2, e4.1 c c1]) (fun j hj => by rw [g2 80 (by omega)]; exact e4.2 j (by omega) (by omega))⟩
    · unfold f5_would
      rw [f5_isOperation, if_pos h1, f5_isRow_n hc, if_pos h2, f5_isRow_n hc, if_pos h3, if_pos h4, if_pos (by decide), if_pos his, if_pos hit, hls, hlt, wk]
      rfl
    · show f6_would I (nI op) (nI s) (nI t) (nI 0) = _
      unfold f6_would
      rw [f6_in_eq, if_pos h1, f6_isRow_n hm]
      simp only [Option.bind_some]
      rw [if_pos h2, f6_isRow_n hm]
      simp only [Option.bind_some]
      rw [if_pos h3, f6_in_eq, if_pos h4, f6_at_n, f6_at_n, asked0, e1]
      simp only [Option.bind_some]
      rw [if_pos (by decide), g1]
      rfl
  · have hJ : ∀ c, c < 61 ∨ 62 < c → J c = I c := fun c hc => b3 c (by omega) (by omega)
    have hm' : MR J A H := MR_of hm (fun c hc => hJ c (by omega))
    obtain ⟨K, e1, e2, e3, e4⟩ := ref J hm'
    have sz := f4_size_n b2
    have wd := f6_words_n (kk := 3) e3 (by omega) (by omega)
    rw [kq3] at wd
    refine ⟨nI (WS (opR op (A.2 s) (A.2 t)) 0).length, J, K, ?_, ?_, fin_q h hJ (FrO_g e4) (fun j hj => e4.2 j (by omega) (by omega))⟩
    · unfold f5_would
      rw [f5_isOperation, if_pos h1, f5_isRow_n hc, if_pos h2, f5_isRow_n hc, if_pos h3, if_pos h4, if_neg (by decide), if_pos his, if_pos hit, hls, hlt, b1]
      simp only [Option.bind_some]
      rw [if_pos (by decide), sz]
      rfl
    · show f6_would J (nI op) (nI s) (nI t) (nI 1) = _
      unfold f6_would
      rw [f6_in_eq, if_pos h1, f6_isRow_n hm']
      simp only [Option.bind_some]
      rw [if_pos h2, f6_isRow_n hm']
      simp only [Option.bind_some]
      rw [if_pos h3, f6_in_eq, if_pos h4, f6_at_n, f6_at_n, asked0, e1]
      simp only [Option.bind_some]
      rw [if_neg (by decide), if_pos (by decide), k3, wd]
      rfl
  · have hJ : ∀ c, c < 61 ∨ 62 < c → J c = I c := fun c hc => b3 c (by omega) (by omega)
    have hm' : MR J A H := MR_of hm (fun c hc => hJ c (by omega))
    obtain ⟨K, e1, e2, e3, e4⟩ := ref J hm'
    have sz := f0_ones_n b2
    have wd := f6_ones_n e3 (by omega)
    refine ⟨nI (cnt (opR op (A.2 s) (A.2 t)).2 0 (opR op (A.2 s) (A.2 t)).1), J, K, ?_, ?_, fin_q h hJ (FrO_g e4) (fun j hj => e4.2 j (by omega) (by omega))⟩
    · unfold f5_would
      rw [f5_isOperation, if_pos h1, f5_isRow_n hc, if_pos h2, f5_isRow_n hc, if_pos h3, if_pos h4, if_neg (by decide), if_pos his, if_pos hit, hls, hlt, b1]
      simp only [Option.bind_some]
      rw [if_neg (by decide), sz]
      rfl
    · show f6_would J (nI op) (nI s) (nI t) (nI 2) = _
      unfold f6_would
      rw [f6_in_eq, if_pos h1, f6_isRow_n hm']
      simp only [Option.bind_some]
      rw [if_pos h2, f6_isRow_n hm']
      simp only [Option.bind_some]
      rw [if_pos h3, f6_in_eq, if_pos h4, f6_at_n, f6_at_n, asked0, e1]
      simp only [Option.bind_some]
      rw [if_neg (by decide), if_neg (by decide), wd]
      rfl
