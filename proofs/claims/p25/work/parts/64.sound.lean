/-! the operations' ones, the work and the equal rows -/
theorem cnt_or_and (f g : Nat → Bool) : ∀ c m, cnt (fun i => f i || g i) m c + cnt (fun i => f i && g i) m c = cnt f m c + cnt g m c := by
  intro c
  induction c with
  | zero => intro m; rfl
  | succ c ih =>
    intro m
    have h := ih (m + 1)
    have e : (f m || g m).toNat + (f m && g m).toNat = (f m).toNat + (g m).toNat := by cases f m <;> cases g m <;> rfl
    simp only [cnt]
    omega
theorem cnt_dif_and (f g : Nat → Bool) : ∀ c m, cnt (fun i => f i && !g i) m c + cnt (fun i => f i && g i) m c = cnt f m c := by
  intro c
  induction c with
  | zero => intro m; rfl
  | succ c ih =>
    intro m
    have h := ih (m + 1)
    have e : (f m && !g m).toNat + (f m && g m).toNat = (f m).toNat := by cases f m <;> cases g m <;> rfl
    simp only [cnt]
    omega
theorem cnt_xor_and (f g : Nat → Bool) : ∀ c m, cnt (fun i => f i != g i) m c + cnt (fun i => f i && g i) m c = cnt (fun i => f i || g i) m c := by
  intro c
  induction c with
  | zero => intro m; rfl
  | succ c ih =>
    intro m
    have h := ih (m + 1)
    have e : (f m != g m).toNat + (f m && g m).toNat = (f m || g m).toNat := by cases f m <;> cases g m <;> rfl
    simp only [cnt]
    omega
theorem cnt_and_comm (f g : Nat → Bool) (m c : Nat) : cnt (fun i => f i && g i) m c = cnt (fun i => g i && f i) m c := cnt_congr fun k _ => Bool.and_comm _ _
theorem cnt_or_comm (f g : Nat → Bool) (m c : Nat) : cnt (fun i => f i || g i) m c = cnt (fun i => g i || f i) m c := cnt_congr fun k _ => Bool.or_comm _ _
theorem cnt_one (w : Nat) : ∀ c m, cnt (fun h => decide (h = w)) m c = if m ≤ w ∧ w < m + c then 1 else 0 := by
  intro c
  induction c with
  | zero =>
    intro m
    rw [if_neg (by omega)]
    rfl
  | succ c ih =>
    intro m
    simp only [cnt]
    rw [ih (m + 1)]
    by_cases h : m = w
    · rw [if_neg (by omega), if_pos (by omega), decide_eq_true h]
      rfl
    · rw [decide_eq_false h]
      by_cases h2 : m + 1 ≤ w ∧ w < m + 1 + c
      · rw [if_pos h2, if_pos (by omega)]
        rfl
      · rw [if_neg h2, if_neg (by omega)]
        rfl
theorem on_600 {r : Row} (h : okR r) : cnt r.2 0 r.1 = cnt r.2 0 600 := by
  have l0 := h.1
  have e := cnt_add r.2 r.1 0 (600 - r.1)
  rw [show r.1 + (600 - r.1) = 600 by omega, Nat.zero_add, cnt_zero (f := r.2) (c := 600 - r.1) (m := r.1) (fun k _ => h.2 _ (by omega))] at e
  omega
def opC (op : Nat) (r s : Row) : Nat := cnt (fun i => bop op (r.2 i) (s.2 i)) 0 600
theorem would_2 {op : Nat} {r s : Row} (hr : okR r) (hs : okR s) : wouldV op r s 2 = opC op r s := by
  show cnt (opR op r s).2 0 (opR op r s).1 = _
  rw [on_600 (opR_ok hr hs)]
  rfl
theorem opC_0 (r s : Row) : opC 0 r s = cnt (fun i => r.2 i && s.2 i) 0 600 := rfl
theorem opC_1 (r s : Row) : opC 1 r s = cnt (fun i => r.2 i || s.2 i) 0 600 := rfl
theorem opC_2 (r s : Row) : opC 2 r s = cnt (fun i => r.2 i && !s.2 i) 0 600 := rfl
theorem opC_3 (r s : Row) : opC 3 r s = cnt (fun i => r.2 i != s.2 i) 0 600 := rfl
theorem op1_comm (r s : Row) : opR 1 s r = opR 1 r s := by
  show (max s.1 r.1, fun i => s.2 i || r.2 i) = (max r.1 s.1, fun i => r.2 i || s.2 i)
  rw [Nat.max_comm]
  congr 1
  funext i
  exact Bool.or_comm _ _
theorem wk_comm (r s : Row) : wkR s r = wkR r s := cnt_congr fun k _ => Bool.or_comm _ _
theorem EL_cons {r : Row} {g : Nat} (hn : ng r ≤ 40) (h : g < ng r) : EL r g = we r g :: EL r (we r g) := by
  unfold EL
  rw [WS_cons hn h]
  rfl
theorem el_cnt {r : Row} (hn : ng r ≤ 40) : ∀ (m g : Nat), ng r - g ≤ m → cnt (fun h => decide (h ∈ EL r g)) 0 41 = (WS r g).length := by
  intro m
  induction m with
  | zero =>
    intro g hm
    have e : EL r g = [] := by unfold EL; rw [WS_nil (by omega)]; rfl
    rw [e, WS_nil (by omega), cnt_zero (fun k _ => by simp)]
    rfl
  | succ m ih =>
    intro g hm
    by_cases hg : g < ng r
    · have w1 := we_gt r g
      have w2 := we_le hg
      have h1 := ih (we r g) (by omega)
      have h2 := cnt_or_and (fun h => decide (h = we r g)) (fun h => decide (h ∈ EL r (we r g))) 41 0
      have h3 : cnt (fun h => decide (h = we r g) && decide (h ∈ EL r (we r g))) 0 41 = 0 := cnt_zero fun k _ => by
        by_cases hk : 0 + k = we r g
        · have : ¬ (0 + k) ∈ EL r (we r g) := fun z => by
            have := (EL_ge hn z).1
            omega
          simp only [decide_eq_false this, Bool.and_false]
        · simp only [decide_eq_false hk, Bool.false_and]
      have h4 : cnt (fun h => decide (h ∈ EL r g)) 0 41 = cnt (fun h => decide (h = we r g) || decide (h ∈ EL r (we r g))) 0 41 := cnt_congr fun k _ => by
        rw [EL_cons hn hg]
        simp only [List.mem_cons, Bool.decide_or]
      rw [h4, WS_cons hn hg, List.length_cons]
      have h5 := cnt_one (we r g) 41 0
      rw [if_pos (by omega)] at h5
      omega
    · have e : EL r g = [] := by unfold EL; rw [WS_nil (by omega)]; rfl
      rw [e, WS_nil (by omega), cnt_zero (fun k _ => by simp)]
      rfl
theorem wk_bounds {r s : Row} (hr : okR r) (hs : okR s) : (WS r 0).length ≤ wkR r s ∧ (WS s 0).length ≤ wkR r s ∧ wkR r s ≤ (WS r 0).length + (WS s 0).length := by
  have h1 := el_cnt (ng_le hr) 40 0 (by have := ng_le hr; omega)
  have h2 := el_cnt (ng_le hs) 40 0 (by have := ng_le hs; omega)
  have h3 := cnt_or_and (fun h => decide (h ∈ EL r 0)) (fun h => decide (h ∈ EL s 0)) 41 0
  have h4 := cnt_dif_and (fun h => decide (h ∈ EL r 0)) (fun h => decide (h ∈ EL s 0)) 41 0
  have h5 := cnt_dif_and (fun h => decide (h ∈ EL s 0)) (fun h => decide (h ∈ EL r 0)) 41 0
  have h6 := cnt_and_comm (fun h => decide (h ∈ EL r 0)) (fun h => decide (h ∈ EL s 0)) 0 41
  have e : wkR r s = cnt (fun h => decide (h ∈ EL r 0) || decide (h ∈ EL s 0)) 0 41 := rfl
  omega
theorem wk_same {r : Row} (hr : okR r) : wkR r r = (WS r 0).length := by
  rw [← el_cnt (ng_le hr) 40 0 (by have := ng_le hr; omega)]
  exact cnt_congr fun k _ => Bool.or_self _
theorem WS_zero {r : Row} (hr : okR r) (h : (WS r 0).length = 0) : r.1 = 0 := by
  by_cases hg : 0 < ng r
  · rw [WS_cons (ng_le hr) hg] at h
    cases h
  · have : ng r = (r.1 + 14) / 15 := rfl
    omega
theorem and_zero {r s : Row} (hr : okR r) (hs : okR s) (h : wkR r s = 0) : (WS (opR 0 r s) 0).length = 0 := by
  obtain ⟨h1, h2, -⟩ := wk_bounds hr hs
  have z1 := WS_zero hr (by omega)
  have z2 := WS_zero hs (by omega)
  have z3 : (opR 0 r s).1 = 0 := by
    show max r.1 s.1 = 0
    omega
  have z4 : ng (opR 0 r s) = 0 := by
    show ((opR 0 r s).1 + 14) / 15 = 0
    rw [z3]
  rw [WS_nil (by omega)]
  rfl
section
variable {I : gI} {A : Snap} {H : List Snap}
theorem J222_n {a b : Nat} (hc : CR I A H) (ha : a < A.1) (hb : b < A.1) : ∃ J, fL_isSound_J222 I (nI a) (nI b) (nI (cnt (A.2 a).2 0 (A.2 a).1)) (nI (wkR (A.2 a) (A.2 b))) = some (true, J) ∧ CR J A H ∧ KT I J := by
  have h8 := hc.n8
  have oa := (hc.rows (show a < 8 by omega)).1
  have ob := (hc.rows (show b < 8 by omega)).1
  obtain ⟨J1, w1, c1, t1⟩ := would_n (op := 0) (u := 1) hc (by omega) ha hb (by omega)
  obtain ⟨J2, w2, c2, t2⟩ := would_n (op := 0) (u := 2) c1 (by omega) ha ha (by omega)
  obtain ⟨J3, w3, c3, t3⟩ := would_n (op := 3) (u := 2) c2 (by omega) ha ha (by omega)
  have w1 : f5_would I 0 (nI a) (nI b) 1 = some (nI (WS (opR 0 (A.2 a) (A.2 b)) 0).length, J1) := w1
  have w2 : f5_would J1 0 (nI a) (nI a) 2 = some (nI (wouldV 0 (A.2 a) (A.2 a) 2), J2) := w2
  have w3 : f5_would J2 3 (nI a) (nI a) 2 = some (nI (wouldV 3 (A.2 a) (A.2 a) 2), J3) := w3
  obtain ⟨m, s1, s2⟩ := same_n c3 ha
  have ma : m ≤ a := s2.2.1
  obtain ⟨m', s3, s4⟩ := same_n c3 (show m < A.1 by omega)
  have em := smF_self s2 s4
  have e2 : wouldV 0 (A.2 a) (A.2 a) 2 = cnt (A.2 a).2 0 (A.2 a).1 := by
    rw [would_2 oa oa, opC_0, on_600 oa]
    exact cnt_congr fun k _ => Bool.and_self _
  have e3 : wouldV 3 (A.2 a) (A.2 a) 2 = 0 := by
    rw [would_2 oa oa, opC_3]
    exact cnt_zero fun k _ => bne_self_eq_false _
  have wl := wk_le (A.2 a) (A.2 b)
  have sl := WS_len (ng_le (opR_ok (op := 0) oa ob))
  refine ⟨J3, ?_, c3, (t1.trans t2).trans t3⟩
  unfold fL_isSound_J222
  rw [w1]
  simp only [Option.bind_some]
  by_cases h0 : wkR (A.2 a) (A.2 b) = 0
  · rw [if_pos (by rw [k0, xI_le (by omega) (by omega)]; omega), if_pos (by rw [and_zero oa ob h0]; decide), w2]
    simp only [Option.bind_some]
    rw [if_pos (by rw [e2]), w3]
    simp only [Option.bind_some]
    rw [if_pos (by rw [e3]; rfl), s1]
    simp only [Option.bind_some]
    rw [if_neg (by rw [xI_lt (by omega) (by omega)]; omega), s3]
    simp only [Option.bind_some]
    rw [if_pos (by rw [em])]
  · rw [if_neg (by rw [k0, xI_le (by omega) (by omega)]; omega), if_pos (by rw [k40, xI_le (by omega) (by omega)]; omega), w2]
    simp only [Option.bind_some]
    rw [if_pos (by rw [e2]), w3]
    simp only [Option.bind_some]
    rw [if_pos (by rw [e3]; rfl), s1]
    simp only [Option.bind_some]
    rw [if_neg (by rw [xI_lt (by omega) (by omega)]; omega), s3]
    simp only [Option.bind_some]
    rw [if_pos (by rw [em])]
theorem J77_n {a b x : Nat} (hc : CR I A H) (ha : a < A.1) (hb : b < A.1) (hx : x ≤ wkR (A.2 a) (A.2 b)) : ∃ J, fL_isSound_J77 I (nI a) (nI b) (nI (opC 0 (A.2 a) (A.2 b))) (nI (opC 1 (A.2 a) (A.2 b))) (nI (cnt (A.2 a).2 0 (A.2 a).1)) (nI (cnt (A.2 b).2 0 (A.2 b).1)) (nI (wkR (A.2 a) (A.2 b))) (nI x) = some (true, J) ∧ CR J A H ∧ KT I J := by
  have h8 := hc.n8
  have oa := (hc.rows (show a < 8 by omega)).1
  have ob := (hc.rows (show b < 8 by omega)).1
  have wl := wk_le (A.2 a) (A.2 b)
  have wb := wk_bounds oa ob
  have n1 := on_600 oa
  have n2 := on_600 ob
  have f1 := cnt_or_and (A.2 a).2 (A.2 b).2 600 0
  have f2 := cnt_dif_and (A.2 a).2 (A.2 b).2 600 0
  have f3 := cnt_xor_and (A.2 a).2 (A.2 b).2 600 0
  have f4 := cnt_xor_and (A.2 b).2 (A.2 a).2 600 0
  have f5 := cnt_and_comm (A.2 a).2 (A.2 b).2 0 600
  have f6 := cnt_or_comm (A.2 a).2 (A.2 b).2 0 600
  have l1 := cnt_le (A.2 a).2 600 0
  have l2 := cnt_le (A.2 b).2 600 0
  obtain ⟨J1, w1, c1, t1⟩ := would_n (op := 2) (u := 2) hc (by omega) ha hb (by omega)
  obtain ⟨J2, w2, c2, t2⟩ := would_n (op := 3) (u := 2) c1 (by omega) ha hb (by omega)
  obtain ⟨J3, w3, c3, t3⟩ := would_n (op := 3) (u := 2) c2 (by omega) hb ha (by omega)
  obtain ⟨J4, w4, c4, t4⟩ := would_n (op := 1) (u := 1) c3 (by omega) hb ha (by omega)
  obtain ⟨J5, w5, c5, t5⟩ := would_n (op := 1) (u := 1) c4 (by omega) ha hb (by omega)
  obtain ⟨J6, w6, c6, t6⟩ := would_n (op := 3) (u := 0) c5 (by omega) ha hb (by omega)
  obtain ⟨J7, w7, c7, t7⟩ := would_n (op := 2) (u := 0) c6 (by omega) hb ha (by omega)
  rw [would_2 oa ob] at w1 w2
  rw [would_2 ob oa] at w3
  have w1 : f5_would I 2 (nI a) (nI b) 2 = some (nI (opC 2 (A.2 a) (A.2 b)), J1) := w1
  have w2 : f5_would J1 3 (nI a) (nI b) 2 = some (nI (opC 3 (A.2 a) (A.2 b)), J2) := w2
  have w3 : f5_would J2 3 (nI b) (nI a) 2 = some (nI (opC 3 (A.2 b) (A.2 a)), J3) := w3
  have w4 : f5_would J3 1 (nI b) (nI a) 1 = some (nI (WS (opR 1 (A.2 b) (A.2 a)) 0).length, J4) := w4
  have w5 : f5_would J4 1 (nI a) (nI b) 1 = some (nI (WS (opR 1 (A.2 a) (A.2 b)) 0).length, J5) := w5
  have w6 : f5_would J5 3 (nI a) (nI b) 0 = some (nI (wkR (A.2 a) (A.2 b)), J6) := w6
  have w7 : f5_would J6 2 (nI b) (nI a) 0 = some (nI (wkR (A.2 b) (A.2 a)), J7) := w7
  obtain ⟨J, j1, j2, j3⟩ := J222_n c7 ha hb
  have g0 := opC_0 (A.2 a) (A.2 b)
  have g1 := opC_1 (A.2 a) (A.2 b)
  have g2 := opC_2 (A.2 a) (A.2 b)
  have g3 := opC_3 (A.2 a) (A.2 b)
  have g4 := opC_3 (A.2 b) (A.2 a)
  have z1 : opC 0 (A.2 a) (A.2 b) + opC 1 (A.2 a) (A.2 b) = cnt (A.2 a).2 0 (A.2 a).1 + cnt (A.2 b).2 0 (A.2 b).1 := by omega
  have z2 : opC 2 (A.2 a) (A.2 b) = cnt (A.2 a).2 0 (A.2 a).1 - opC 0 (A.2 a) (A.2 b) := by omega
  have z3 : opC 3 (A.2 a) (A.2 b) = opC 1 (A.2 a) (A.2 b) - opC 0 (A.2 a) (A.2 b) := by omega
  have z4 : opC 3 (A.2 b) (A.2 a) = opC 1 (A.2 a) (A.2 b) - opC 0 (A.2 a) (A.2 b) := by omega
  refine ⟨J, ?_, j2, ((((((t1.trans t2).trans t3).trans t4).trans t5).trans t6).trans t7).trans j3⟩
  unfold fL_isSound_J77
  rw [if_pos (by rw [nI_add, nI_add, z1]), w1]
  simp only [Option.bind_some]
  rw [if_pos (by rw [xI_sub (by omega), z2]), w2]
  simp only [Option.bind_some]
  rw [if_pos (by rw [xI_sub (by omega), z3]), w3]
  simp only [Option.bind_some]
  rw [if_pos (by rw [xI_sub (by omega), z4]), w4]
  simp only [Option.bind_some]
  rw [w5]
  simp only [Option.bind_some]
  rw [if_pos (by rw [op1_comm]), w6]
  simp only [Option.bind_some]
  rw [if_pos trivial, w7]
  simp only [Option.bind_some]
  rw [if_pos (by rw [wk_comm]), if_neg (by rw [xI_lt (by omega) (by omega)]; omega), k1, row_n c7 ha (by omega)]
  simp only [Option.bind_some]
  rw [row_n c7 hb (by omega)]
  simp only [Option.bind_some]
  rw [show rowV (A.2 a) 1 = nI (WS (A.2 a) 0).length from rfl, show rowV (A.2 b) 1 = nI (WS (A.2 b) 0).length from rfl]
  have sa := WS_len (ng_le oa)
  have sb := WS_len (ng_le ob)
  rw [if_neg (by rw [nI_add, xI_lt (by omega) (by omega)]; omega)]
  by_cases hab : a = b
  · rw [if_pos (by rw [hab]), if_pos (by rw [← hab, wk_same oa])]
    exact j1
  · rw [if_neg (by rw [xI_eq (by omega) (by omega)]; exact hab)]
    exact j1
theorem sound_n {a b : Nat} (hc : CR I A H) (ha : a < A.1) (hb : b < A.1) : ∃ J, fL_isSound I (nI a) (nI b) = some (true, J) ∧ CR J A H ∧ KT I J := by
  have h8 := hc.n8
  have oa := (hc.rows (show a < 8 by omega)).1
  have ob := (hc.rows (show b < 8 by omega)).1
  have wb := wk_bounds oa ob
  obtain ⟨J1, w1, c1, t1⟩ := would_n (op := 0) (u := 2) hc (by omega) ha hb (by omega)
  obtain ⟨J2, w2, c2, t2⟩ := would_n (op := 1) (u := 2) c1 (by omega) ha hb (by omega)
  obtain ⟨J3, w3, c3, t3⟩ := would_n (op := 0) (u := 0) c2 (by omega) ha hb (by omega)
  rw [would_2 oa ob] at w1 w2
  have w1 : f5_would I 0 (nI a) (nI b) 2 = some (nI (opC 0 (A.2 a) (A.2 b)), J1) := w1
  have w2 : f5_would J1 1 (nI a) (nI b) 2 = some (nI (opC 1 (A.2 a) (A.2 b)), J2) := w2
  have w3 : f5_would J2 0 (nI a) (nI b) 0 = some (nI (wkR (A.2 a) (A.2 b)), J3) := w3
  have r1 : f5_row J2 (nI a) 5 = some (nI (cnt (A.2 a).2 0 (A.2 a).1)) := row_n (w := 5) c2 ha (by omega)
  have r2 : f5_row J2 (nI b) 5 = some (nI (cnt (A.2 b).2 0 (A.2 b).1)) := row_n (w := 5) c2 hb (by omega)
  have r3 : f5_row J3 (nI a) 1 = some (nI (WS (A.2 a) 0).length) := row_n (w := 1) c3 ha (by omega)
  have r4 : f5_row J3 (nI b) 1 = some (nI (WS (A.2 b) 0).length) := row_n (w := 1) c3 hb (by omega)
  unfold fL_isSound
  rw [w1]
  simp only [Option.bind_some]
  rw [w2]
  simp only [Option.bind_some]
  rw [r1, r2]
  simp only [Option.bind_some]
  rw [w3]
  simp only [Option.bind_some]
  rw [r3, r4]
  simp only [Option.bind_some]
  split
  · obtain ⟨J, j1, j2, j3⟩ := J77_n c3 ha hb wb.2.1
    exact ⟨J, j1, j2, ((t1.trans t2).trans t3).trans j3⟩
  · obtain ⟨J, j1, j2, j3⟩ := J77_n c3 ha hb wb.1
    exact ⟨J, j1, j2, ((t1.trans t2).trans t3).trans j3⟩
end
