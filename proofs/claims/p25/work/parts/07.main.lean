/-! THE MEMORY BEHIND THE CONSTRUCTORS: 79 cells whose shapes stay; all that changes are numbers (a change's number among them: cell 3 and field 6 of cell 19 keep cells' numbers as numbers) -/
def SH : List (Nat × Nat) := [(4, 0), (12, 8), (3, 0), (13, 5), (1, 0), (0, 0), (10, 40), (1, 0), (0, 0), (10, 40), (1, 0), (0, 0), (10, 40), (1, 0), (0, 0), (10, 40), (1, 0), (0, 0), (10, 40), (2, 0), (11, 100), (12, 19), (12, 0),
  (0, 0), (10, 40), (0, 0), (10, 40), (0, 0), (10, 40), (0, 0), (10, 40), (0, 0), (10, 40), (0, 0), (10, 40), (0, 0), (10, 40), (0, 0), (10, 40), (0, 0), (10, 40), (0, 0), (10, 40), (0, 0), (10, 40), (0, 0), (10, 40), (0, 0), (10, 40), (0, 0), (10, 40), (0, 0), (10, 40), (0, 0), (10, 40), (0, 0), (10, 40), (0, 0), (10, 40), (0, 0), (10, 40),
  (0, 0), (10, 40), (0, 0), (10, 40), (0, 0), (10, 40), (0, 0), (10, 40), (0, 0), (10, 40), (0, 0), (10, 40), (0, 0), (10, 40), (0, 0), (10, 40), (0, 0), (10, 40)]
/-- the cells that stand in fields and rows for good -/
def pv (a k : Nat) : Option Nat := match SH[a]? with
  | some (0, _) => if k = 0 then some (a + 1) else none
  | some (1, _) => if k = 0 then some (a + 1) else none
  | some (2, _) => if k = 0 then some 20 else if k = 5 then some 21 else none
  | some (3, _) => if k = 0 then some 3 else none
  | some (4, _) => if k = 0 then some 1 else if k = 2 then some 2 else if k = 3 then some 19 else if k = 4 then some 61 else none
  | some (5, _) => if k = 0 then some 80 else if k = 2 then some 81 else if k = 4 then some 82 else if k = 9 then some 83 else none
  | some (12, 8) => if k < 8 then some (63 + 2 * k) else none
  | some (12, 19) => if k < 19 then some (23 + 2 * k) else none
  | _ => none
def Pof (I : gI) : gP := fun a k => if a = 3 then some (I 3 k).toNatClampNeg else if a = 19 ∧ k = 6 then some (I 19 6).toNatClampNeg else pv a k
def mm (I : gI) : gM := (SH, I, Pof I)
def isB (b : Nat) : Prop := SH[b]? = some (0, 0) ∧ SH[b + 1]? = some (10, 40)
def isC (c : Nat) : Prop := SH[c]? = some (1, 0) ∧ isB (c + 1)
def ib (i : Int32) (n : Nat) : Bool := decide (¬ i < 0) && decide (i.toNatClampNeg < n)
def b2i (b : Bool) : Int32 := if b = true then 1 else 0
theorem ib_in {i : Int32} {n : Nat} (h : ib i n = true) : vp_in i n := by
  simp only [ib, Bool.and_eq_true, decide_eq_true_eq] at h
  exact fun q => q.elim h.1 (fun z => absurd h.2 (Nat.not_lt.mpr z))
theorem ib_lt {i : Int32} {n : Nat} (h : ib i n = true) : i.toNatClampNeg < n := by
  simp only [ib, Bool.and_eq_true, decide_eq_true_eq] at h
  exact h.2
def isCb (c : Nat) : Bool := c == 4 || c == 7 || c == 10 || c == 13 || c == 16
theorem isCb_isC {c : Nat} (h : isCb c = true) : isC c := by
  simp only [isCb, Bool.or_eq_true, beq_iff_eq] at h
  rcases h with (((rfl | rfl) | rfl) | rfl) | rfl <;> exact ⟨rfl, rfl, rfl⟩
theorem isB_ne3 {b : Nat} (h : isB b) : b ≠ 3 ∧ b ≠ 19 ∧ b + 1 ≠ 3 ∧ b + 1 ≠ 19 := by
  obtain ⟨h1, h2⟩ := h
  refine ⟨?_, ?_, ?_, ?_⟩ <;> rintro e
  · subst e; exact absurd h1 (by decide)
  · subst e; exact absurd h1 (by decide)
  · rw [e] at h2; exact absurd h2 (by decide)
  · rw [e] at h2; exact absurd h2 (by decide)
theorem isC_ne3 {c : Nat} (h : isC c) : c ≠ 3 ∧ c ≠ 19 := by
  obtain ⟨h1, -⟩ := h
  refine ⟨?_, ?_⟩ <;> rintro e <;> subst e <;> exact absurd h1 (by decide)
theorem isB_p {b : Nat} {I : gI} (h : isB b) : Pof I b 0 = some (b + 1) := by
  obtain ⟨h3, h19, -⟩ := isB_ne3 h
  simp [Pof, h3, pv, h.1]
theorem isC_p {c : Nat} {I : gI} (h : isC c) : Pof I c 0 = some (c + 1) := by
  obtain ⟨h3, h19⟩ := isC_ne3 h
  simp [Pof, h3, pv, h.1]
theorem rB_is {i : Nat} (h : i < 8) : isB (63 + 2 * i) := by
  rcases (show i = 0 ∨ i = 1 ∨ i = 2 ∨ i = 3 ∨ i = 4 ∨ i = 5 ∨ i = 6 ∨ i = 7 by omega) with rfl | rfl | rfl | rfl | rfl | rfl | rfl | rfl <;> exact ⟨rfl, rfl⟩
theorem vB_is {i : Nat} (h : i < 19) : isB (23 + 2 * i) := by
  rcases (show i = 0 ∨ i = 1 ∨ i = 2 ∨ i = 3 ∨ i = 4 ∨ i = 5 ∨ i = 6 ∨ i = 7 ∨ i = 8 ∨ i = 9 ∨ i = 10 ∨ i = 11 ∨ i = 12 ∨ i = 13 ∨ i = 14 ∨ i = 15 ∨ i = 16 ∨ i = 17 ∨ i = 18 by omega) with rfl | rfl | rfl | rfl | rfl | rfl | rfl | rfl | rfl | rfl | rfl | rfl | rfl | rfl | rfl | rfl | rfl | rfl | rfl <;> exact ⟨rfl, rfl⟩
theorem sB_is : isB 61 := ⟨rfl, rfl⟩
theorem p_row {I : gI} {i : Nat} (h : i < 8) : Pof I 1 i = some (63 + 2 * i) := by
  show (if i < 8 then some (63 + 2 * i) else none) = _
  rw [if_pos h]
theorem p_val {I : gI} {i : Nat} (h : i < 19) : Pof I 21 i = some (23 + 2 * i) := by
  show (if i < 19 then some (23 + 2 * i) else none) = _
  rw [if_pos h]
theorem p_chg (I : gI) (i : Nat) : Pof I 3 i = some (I 3 i).toNatClampNeg := rfl
theorem p_rw {I : gI} (h : I 19 6 = 1) : Pof I 19 6 = some 1 := by
  show some (I 19 6).toNatClampNeg = _
  rw [h]
  rfl
theorem Pof_uI {I : gI} {a k : Nat} {x : Int32} (h3 : a ≠ 3) (h19 : ¬ (a = 19 ∧ k = 6)) : Pof (uI I a k x) = Pof I := by
  funext c j
  have e3 : uI I a k x 3 = I 3 := by simp [uI, Ne.symm h3]
  have e19 : uI I a k x 19 6 = I 19 6 := by
    by_cases ha : a = 19
    · subst ha
      have hk : k ≠ 6 := fun q => h19 ⟨rfl, q⟩
      simp [uI, upd, Ne.symm hk]
    · simp [uI, Ne.symm ha]
  simp only [Pof, e3, e19]
theorem mm_uI {I : gI} {a k : Nat} {x : Int32} (h3 : a ≠ 3) (h19 : ¬ (a = 19 ∧ k = 6)) : mm (uI I a k x) = (SH, uI I a k x, Pof I) := by
  simp only [mm, Pof_uI h3 h19]
/-- a number in a place that holds a cell is not looked at -/
theorem gW_hidden3 {Gc : Nat → ClassId} {B : Nat} {I : gI} {P : gP} {k : Nat} {x : Int32} : gW Gc B (SH, uI I 3 k x, P) = gW Gc B (SH, I, P) := by
  have h : SH[3]? = some (13, 5) := rfl
  rw [gW_uI h, gE_ref (by decide)]
  apply List.ext_getElem?
  intro i
  by_cases hi : i = 3
  · subst hi
    rw [List.getElem?_set_self (by rw [gW_len]; exact (by decide : 3 < SH.length)), gW_at h, gE_ref (by decide)]
  · rw [List.getElem?_set_ne (Ne.symm hi)]
theorem gW_hidden19 {Gc : Nat → ClassId} {B : Nat} {I : gI} {P : gP} {x : Int32} : gW Gc B (SH, uI I 19 6 x, P) = gW Gc B (SH, I, P) := by
  have h : SH[19]? = some (2, 0) := rfl
  rw [gW_uI h, gE_obj (by decide)]
  have e : (List.range (gN 2)).map (gF B (uI I 19 6 x) P 2 19) = (List.range (gN 2)).map (gF B I P 2 19) := by
    apply List.map_congr_left
    intro j hj
    by_cases h6 : j = 6
    · subst h6; rfl
    · simp [gF, uI, upd, h6]
  rw [e]
  apply List.ext_getElem?
  intro i
  by_cases hi : i = 19
  · subst hi
    rw [List.getElem?_set_self (by rw [gW_len]; exact (by decide : 19 < SH.length)), gW_at h, gE_obj (by decide)]
  · rw [List.getElem?_set_ne (Ne.symm hi)]
theorem mm_chg {I : gI} {k c : Nat} (hc : c < 79) : Pof (uI I 3 k (nI c)) = uP (Pof I) 3 k (some c) := by
  funext a j
  by_cases ha : a = 3
  · subst ha
    have e : (nI c).toNatClampNeg = c := nI_clamp (by omega)
    by_cases hj : j = k
    · subst hj
      simp [Pof, uP, va_up, uI, upd, e]
    · simp [Pof, uP, va_up, uI, upd, hj]
  · have e19 : uI I 3 k (nI c) 19 = I 19 := by simp [uI]
    simp [Pof, uP, ha, e19]
theorem mm_rw {I : gI} : Pof (uI I 19 6 1) = uP (Pof I) 19 6 (some 1) := by
  funext a j
  by_cases ha : a = 3
  · subst ha; simp [Pof, uP, uI]
  · by_cases h19 : a = 19
    · subst h19
      by_cases hj : j = 6
      · subst hj
        have e : uI I 19 6 1 19 6 = 1 := by simp [uI, upd]
        simp [Pof, uP, va_up, e]
      · simp [Pof, uP, va_up, hj]
    · simp [Pof, uP, ha, h19]
section GMain
variable {E : gEnv} {κ : gCtx} {cc : ByteArray} {nL d cz sz cells slots pc : Nat} {own : String} {ret : Option FieldType} {ls : List (Option gV)} {st : List gV} {I : gI}
theorem M_getI (X : Cx E κ cc nL own ret d cz sz) {ix ci k a n : Nat} {fin : Bool} {ty : FieldType} (hF : gFd own ix ci k fin ty) (hr : gR ci k = false) (hsh : SH[a]? = some (ci, n)) (hd : decode cc pc = .ok (.getfield ix, 3)) (kk : G E κ cells slots (pc + 3) ls (vi (I a k) :: st) (mm I)) : G E κ cells slots pc ls (vr a :: st) (mm I) := G_getI X hF hr hsh hd kk
theorem M_getR (X : Cx E κ cc nL own ret d cz sz) {ix ci k a n r : Nat} {fin : Bool} {ty : FieldType} (hF : gFd own ix ci k fin ty) (hr : gR ci k = true) (hsh : SH[a]? = some (ci, n)) (hv : Pof I a k = some r) (hd : decode cc pc = .ok (.getfield ix, 3)) (kk : G E κ cells slots (pc + 3) ls (vr r :: st) (mm I)) : G E κ cells slots pc ls (vr a :: st) (mm I) := G_getR X hF hr hsh hv hd kk
theorem M_putI (X : Cx E κ cc nL own ret d cz sz) {ix ci k a n : Nat} {ty : FieldType} {x : Int32} (hF : gFd own ix ci k false ty) (hr : gR ci k = false) (hsh : SH[a]? = some (ci, n)) (hn : narrow ty (.int x) = .int x) (hf : fits ty (.int x) = true) (hd : decode cc pc = .ok (.putfield ix, 3)) (kk : G E κ cells slots (pc + 3) ls st (mm (uI I a k x))) : G E κ cells slots pc ls (vi x :: vr a :: st) (mm I) := by
  have h10 : ci < 10 := by obtain ⟨C, T, N, tys, hc, -⟩ := hF; exact lt10 hc
  refine G_putI X hF hr hsh hn hf hd ?_
  rw [mm_uI] at kk
  · exact kk
  · rintro rfl
    have h13 : SH[3]? = some (13, 5) := rfl
    have := h13.symm.trans hsh
    simp at this
    omega
  · rintro ⟨rfl, rfl⟩
    have h2 : SH[19]? = some (2, 0) := rfl
    have := h2.symm.trans hsh
    simp at this
    obtain ⟨rfl, -⟩ := this
    exact absurd hr (by decide)
theorem M_iald (X : Cx E κ cc nL own ret d cz sz) {a n : Nat} {i : Int32} (hsh : SH[a]? = some (10, n)) (hin : ib i n = true) (hd : decode cc pc = .ok (.iaload, 1)) (kk : G E κ cells slots (pc + 1) ls (vi (I a i.toNatClampNeg) :: st) (mm I)) : G E κ cells slots pc ls (vi i :: vr a :: st) (mm I) := G_iald X hsh (ib_in hin) hd kk
theorem M_cald (X : Cx E κ cc nL own ret d cz sz) {a n : Nat} {i : Int32} (hsh : SH[a]? = some (11, n)) (hin : ib i n = true) (hd : decode cc pc = .ok (.caload, 1)) (kk : G E κ cells slots (pc + 1) ls (vi (I a i.toNatClampNeg) :: st) (mm I)) : G E κ cells slots pc ls (vi i :: vr a :: st) (mm I) := G_cald X hsh (ib_in hin) hd kk
theorem kd_ne {a kd n : Nat} (hsh : SH[a]? = some (kd, n)) (h : kd = 10 ∨ kd = 11) : a ≠ 3 ∧ ∀ k, ¬ (a = 19 ∧ k = 6) := by
  refine ⟨?_, fun k => ?_⟩
  · rintro rfl
    have h13 : SH[3]? = some (13, 5) := rfl
    have := h13.symm.trans hsh
    simp at this
    omega
  · rintro ⟨rfl, rfl⟩
    have h2 : SH[19]? = some (2, 0) := rfl
    have := h2.symm.trans hsh
    simp at this
    omega
theorem M_iast (X : Cx E κ cc nL own ret d cz sz) {a n : Nat} {i x : Int32} (hsh : SH[a]? = some (10, n)) (hin : ib i n = true) (hd : decode cc pc = .ok (.iastore, 1)) (kk : G E κ cells slots (pc + 1) ls st (mm (uI I a i.toNatClampNeg x))) : G E κ cells slots pc ls (vi x :: vi i :: vr a :: st) (mm I) := by
  have hk := kd_ne hsh (Or.inl rfl)
  refine G_iast X hsh (ib_in hin) hd ?_
  rw [mm_uI hk.1 (hk.2 _)] at kk
  exact kk
theorem M_cast (X : Cx E κ cc nL own ret d cz sz) {a n : Nat} {i x : Int32} (hsh : SH[a]? = some (11, n)) (hin : ib i n = true) (hd : decode cc pc = .ok (.castore, 1)) (kk : G E κ cells slots (pc + 1) ls st (mm (uI I a i.toNatClampNeg (vp_nar .char x)))) : G E κ cells slots pc ls (vi x :: vi i :: vr a :: st) (mm I) := by
  have hk := kd_ne hsh (Or.inr rfl)
  refine G_cast X hsh (ib_in hin) hd ?_
  rw [mm_uI hk.1 (hk.2 _)] at kk
  exact kk
theorem M_aald (X : Cx E κ cc nL own ret d cz sz) {a n kd r : Nat} {i : Int32} (hsh : SH[a]? = some (kd, n)) (hkd : kd = 12 ∨ kd = 13) (hin : ib i n = true) (hv : Pof I a i.toNatClampNeg = some r) (hd : decode cc pc = .ok (.aaload, 1)) (kk : G E κ cells slots (pc + 1) ls (vr r :: st) (mm I)) : G E κ cells slots pc ls (vi i :: vr a :: st) (mm I) := G_aald X hsh hkd (ib_in hin) hv hd kk
theorem M_alen (X : Cx E κ cc nL own ret d cz sz) {a n kd : Nat} (hsh : SH[a]? = some (kd, n)) (hkd : kd = 10 ∨ kd = 11 ∨ kd = 12 ∨ kd = 13) (hd : decode cc pc = .ok (.arraylength, 1)) {v : Int32} (hv : nI n = v) (kk : G E κ cells slots (pc + 1) ls (vi v :: st) (mm I)) : G E κ cells slots pc ls (vr a :: st) (mm I) := by
  subst hv; exact G_alen X hsh hkd hd kk
theorem G_eqW {S : List (Nat × Nat)} {I1 I2 : gI} {P : gP} (h : ∀ (Gc : Nat → ClassId) (B : Nat), gW Gc B (S, I1, P) = gW Gc B (S, I2, P)) (kk : G E κ cells slots pc ls st (S, I1, P)) : G E κ cells slots pc ls st (S, I2, P) := by
  obtain ⟨l, D, Gc, B, b⟩ := E
  obtain ⟨p, e, R, s, m, args, below, meth, c, Q⟩ := κ
  intro H locs la hl hP hS
  exact kk H locs la hl (by rw [h]; exact hP) hS
theorem M_aast (X : Cx E κ cc nL own ret d cz sz) {c : Nat} {i : Int32} (hc : isC c) (hin : ib i 5 = true) (hd : decode cc pc = .ok (.aastore, 1)) (kk : G E κ cells slots (pc + 1) ls st (mm (uI I 3 i.toNatClampNeg (nI c)))) : G E κ cells slots pc ls (vr c :: vi i :: vr 3 :: st) (mm I) := by
  have hlt : c < 79 := (List.getElem?_eq_some_iff.mp hc.1).1
  refine G_aast X (kd := 13) (n := 5) rfl (Or.inr rfl) hc.1 (ib_in hin) hd ?_
  have e : mm (uI I 3 i.toNatClampNeg (nI c)) = (SH, uI I 3 i.toNatClampNeg (nI c), uP (Pof I) 3 i.toNatClampNeg (some c)) := by simp only [mm, mm_chg hlt]
  rw [e] at kk
  exact G_eqW (fun Gc B => gW_hidden3) kk
theorem M_putRw (X : Cx E κ cc nL own ret d cz sz) {ix : Nat} {ty : FieldType} (hF : gFd own ix 2 6 false ty) (hn : ∀ q, narrow ty (.ref q) = .ref q) (hf : ∀ q, fits ty (.ref q) = true) (hd : decode cc pc = .ok (.putfield ix, 3)) (kk : G E κ cells slots (pc + 3) ls st (mm (uI I 19 6 1))) : G E κ cells slots pc ls (vr 1 :: vr 19 :: st) (mm I) := by
  refine G_putR X hF rfl (n := 0) rfl hn hf hd ?_
  have e : mm (uI I 19 6 1) = (SH, uI I 19 6 1, uP (Pof I) 19 6 (some 1)) := by simp only [mm, mm_rw]
  rw [e] at kk
  exact G_eqW (fun Gc B => gW_hidden19) kk
theorem M_copyi (X : Cx E κ cc nL own ret d cz sz) {ix b0 b : Nat} (hw1 : Cond.methodLink own ix arraycopyName ∈ gT) (hw2 : Cond.native arraycopyName ∈ gT) (hw3 : Cond.static arraycopyName ∈ gT) (hw4 : Cond.initialized "java/lang/System" ∈ gT) (hs0 : isB b0) (hs1 : isB b)
    (hst : gsz st ≤ 8) (hfr : 1 ≤ d) (hlen : ls.length = nL) (hd : decode cc pc = .ok (.invokestatic ix, 3))
    (kk : G E κ cells slots (pc + 3) ls st (mm (uC I (b + 1) (va_cpy (I (b0 + 1)) (I (b + 1)) 0 0 40)))) : G E κ cells slots pc ls (vi 40 :: vi 0 :: vr (b + 1) :: vi 0 :: vr (b0 + 1) :: st) (mm I) := by
  obtain ⟨-, -, h3, h19⟩ := isB_ne3 hs1
  have e : mm (uC I (b + 1) (va_cpy (I (b0 + 1)) (I (b + 1)) 0 0 40)) = (SH, uC I (b + 1) (va_cpy (I (b0 + 1)) (I (b + 1)) 0 0 40), Pof I) := by
    have e1 : Pof (uC I (b + 1) (va_cpy (I (b0 + 1)) (I (b + 1)) 0 0 40)) = Pof I := by
      funext c j
      simp only [Pof, uC, if_neg (Ne.symm h3), if_neg (Ne.symm h19)]
    simp only [mm, e1]
  rw [e] at kk
  refine G_copyi X hw1 hw2 hw3 hw4 hs0.2 hs1.2 (by decide) (by decide) (by decide) ?_ ?_ hst hfr hlen hd kk
  · exact Nat.le_of_ble_eq_true rfl
  · exact Nat.le_of_ble_eq_true rfl
end GMain
/-! steps of the functions that are printed -/
theorem obd {α β : Type} {o : Option α} {f : α → Option β} {r : β} (h : o.bind f = some r) : ∃ v, o = some v ∧ f v = some r := by
  cases o with
  | none => cases h
  | some v => exact ⟨v, rfl, h⟩
theorem ock {β : Type} {c : Prop} [Decidable c] {a : Option β} {r : β} (h : (if c then a else none) = some r) : c ∧ a = some r := by
  by_cases hc : c
  · rw [if_pos hc] at h; exact ⟨hc, h⟩
  · rw [if_neg hc] at h; cases h
theorem nar_b2i (b : Bool) : narrow .boolean (.int (b2i b)) = .int (b2i b) := by cases b <;> decide +kernel
theorem fit_b2i (b : Bool) : fits .boolean (.int (b2i b)) = true := by cases b <;> decide +kernel
def zb (x : Int32) : Bool := x == 0 || x == 1
theorem zb_or {x : Int32} (h : zb x = true) : x = 0 ∨ x = 1 := by simpa [zb] using h
theorem nar_zb {x : Int32} (h : zb x = true) : narrow .boolean (.int x) = .int x := by rcases zb_or h with rfl | rfl <;> decide +kernel
theorem fit_zb {x : Int32} (h : zb x = true) : fits .boolean (.int x) = true := by rcases zb_or h with rfl | rfl <;> decide +kernel
def zB (x : Int32) : Bool := x == 1
theorem zB_b2i {x : Int32} (h : zb x = true) : b2i (zB x) = x := by rcases zb_or h with rfl | rfl <;> decide +kernel
def cb (x : Int32) : Bool := decide (0 ≤ x) && decide (x ≤ 65535)
theorem cb_nat {x : Int32} (h : cb x = true) : x.toBitVec.toNat < 65536 := by
  simp only [cb, Bool.and_eq_true, decide_eq_true_eq] at h
  obtain ⟨h1, h2⟩ := h
  rw [Int32.le_iff_toInt_le] at h1 h2
  have e1 : (65535 : Int32).toInt = 65535 := by decide
  rw [e1] at h2
  have e0 : (0 : Int32).toInt = 0 := by decide
  rw [e0] at h1
  have h3 : x.toInt = x.toBitVec.toInt := rfl
  rw [h3, BitVec.toInt_eq_toNat_cond] at h1 h2
  have h4 := x.toBitVec.isLt
  split at h1 <;> omega
theorem nar_cb {x : Int32} (h : cb x = true) : narrow .char (.int x) = .int x := by
  have h1 := cb_nat h
  show Value.int (x.toUInt32.toUInt16.toUInt32.toInt32) = .int x
  congr 1
  apply Int32.toBitVec_inj.mp
  show ((x.toBitVec.setWidth 16).setWidth 32) = x.toBitVec
  apply BitVec.eq_of_toNat_eq
  simp only [BitVec.toNat_setWidth]
  omega
def FU : Nat := 5000
def isBb (b : Nat) : Bool := SH[b]? == some (0, 0) && SH[b + 1]? == some (10, 40)
theorem isBb_isB {b : Nat} (h : isBb b = true) : isB b := by
  simp only [isBb, Bool.and_eq_true, beq_iff_eq] at h
  exact h
theorem b2i_t {b : Bool} (h : ¬ b2i b = 0) : b = true := by cases b with
  | true => rfl
  | false => exact absurd rfl h
theorem b2i_f {b : Bool} (h : b2i b = 0) : ¬ b = true := by cases b with
  | true => exact absurd h (by decide)
  | false => exact fun q => by cases q
def Wk : List (Option gV) → List (Option gV) → Prop
  | [], [] => True
  | x :: r, y :: s => (y = none ∨ x = y) ∧ Wk r s
  | _, _ => False
theorem Wk_ok : ∀ {ls ls' : List (Option gV)}, Wk ls ls' → ls.length = ls'.length ∧ ∀ (i : Nat) (v : gV), ls'[i]? = some (some v) → ls[i]? = some (some v)
  | [], [], _ => ⟨rfl, fun _ _ h => h⟩
  | x :: r, y :: s, h => by
    obtain ⟨h1, h2⟩ := Wk_ok (ls := r) (ls' := s) h.2
    refine ⟨by simp [h1], fun i v hv => ?_⟩
    cases i with
    | zero =>
      simp only [List.getElem?_cons_zero, Option.some.injEq] at hv ⊢
      rcases h.1 with rfl | rfl
      · cases hv
      · exact hv
    | succ i =>
      simp only [List.getElem?_cons_succ] at hv ⊢
      exact h2 i v hv
  | [], _ :: _, h => h.elim
  | _ :: _, [], h => h.elim
section GMain2
variable {E : gEnv} {κ : gCtx} {cc : ByteArray} {nL d cz sz cells slots pc : Nat} {own : String} {ret : Option FieldType} {ls : List (Option gV)} {st : List gV} {M : gM}
theorem G_weakL {ls' : List (Option gV)} (h : Wk ls ls') (k : G E κ cells slots pc ls' st M) : G E κ cells slots pc ls st M := G_weak (Wk_ok h) k
theorem G_tableJ (X : Cx E κ cc nL own ret d cz sz) {dflt hi : Int} {offs : Array Int} {len : Nat} {x : Int32} {off : Int} {tgt : Nat} (j : Nat) (hd : decode cc pc = .ok (.tableswitch dflt 0 hi offs, len)) (hx : x = nI j) (hj : j < 1000) (hh : (j : Int) ≤ hi) (ho : offs[j]? = some off) (ht : (pc : Int) + off = (tgt : Int)) (k : G E κ cells slots tgt ls st M) : G E κ cells slots pc ls (vi x :: st) M := by
  subst hx
  have e : (nI j).toInt = (j : Int) := nI_toInt (by omega)
  refine G_tableIn X hd (by rw [e]; omega) (by rw [e]; omega) ?_ ht k
  rw [e]
  simpa using ho
theorem G_tableD (X : Cx E κ cc nL own ret d cz sz) {dflt hi : Int} {offs : Array Int} {len : Nat} {x : Int32} {tgt : Nat} (n : Nat) (hd : decode cc pc = .ok (.tableswitch dflt 0 hi offs, len)) (hn : hi + 1 = (n : Int)) (h : ∀ j, j < n → ¬ x = nI j) (ht : (pc : Int) + dflt = (tgt : Int)) (k : G E κ cells slots tgt ls st M) : G E κ cells slots pc ls (vi x :: st) M := by
  refine G_tableOut X hd ?_ ht k
  by_cases h1 : x.toInt < 0
  · exact Or.inl h1
  · by_cases h2 : hi < x.toInt
    · exact Or.inr h2
    · exfalso
      have h3 : x.toInt < 2 ^ 31 := x.toInt_lt
      refine h x.toInt.toNat (by omega) (Int32.toInt_inj.mp ?_)
      rw [nI_toInt (by omega)]
      omega
end GMain2
