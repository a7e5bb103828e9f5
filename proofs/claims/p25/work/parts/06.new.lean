/-! THE RULES for what is made, and for the library's members -/
/-- the cells so far: those of the start and those that were made -/
def gSz (E : gEnv) (κ : gCtx) (cells n : Nat) : Prop := κ.2.2.2.1.heap.size + cells = E.2.2.2.1 + n
def uZ (I : gI) (a : Nat) : gI := uC I a (fun _ => 0)
def uZP (P : gP) (a : Nat) : gP := uQ P a (fun _ => none)
section GNew
variable {E : gEnv} {κ : gCtx} {cc : ByteArray} {nL d cz sz cells slots pc : Nat} {own : String} {ret : Option FieldType} {ls : List (Option gV)} {st : List gV} {S : List (Nat × Nat)} {I : gI} {P : gP}
theorem gE_uC_ne {Gc : Nat → ClassId} {B : Nat} {I : gI} {P : gP} {a c : Nat} {f : Nat → Int32} {sh : Nat × Nat} (h : c ≠ a) : gE Gc B (uC I a f) P c sh = gE Gc B I P c sh := by
  have e : uC I a f c = I c := by simp [uC, h]
  have e2 : gF B (uC I a f) P sh.1 c = gF B I P sh.1 c := by funext j; simp [gF, e]
  simp only [gE, e, e2]
theorem gE_uQ_ne {Gc : Nat → ClassId} {B : Nat} {I : gI} {P : gP} {a c : Nat} {f : Nat → Option Nat} {sh : Nat × Nat} (h : c ≠ a) : gE Gc B I (uQ P a f) c sh = gE Gc B I P c sh := by
  have e : uQ P a f c = P c := by simp [uQ, h]
  have e2 : gF B I (uQ P a f) sh.1 c = gF B I P sh.1 c := by funext j; simp [gF, e]
  simp only [gE, e, e2]
theorem gW_push {Gc : Nat → ClassId} {B : Nat} {f : Nat → Int32} {g : Nat → Option Nat} (sh : Nat × Nat) : gW Gc B (S ++ [sh], uC I S.length f, uQ P S.length g) = gW Gc B (S, I, P) ++ [(B + S.length, gE Gc B (uC I S.length f) (uQ P S.length g) S.length sh)] := by
  apply List.ext_getElem?
  intro i
  by_cases hi : i < S.length
  · rw [List.getElem?_append_left (by simpa [gW] using hi)]
    simp only [gW, List.getElem?_mapIdx, List.getElem?_append_left hi]
    rw [List.getElem?_eq_getElem hi]
    simp only [Option.map_some]
    rw [gE_uQ_ne (by omega), gE_uC_ne (by omega)]
  · by_cases hj : i = S.length
    · subst hj
      rw [List.getElem?_append_right (by simp [gW])]
      simp [gW]
    · rw [List.getElem?_eq_none (by simp [gW]; omega), List.getElem?_eq_none (by simp [gW]; omega)]
/-- how many cells there can be -/
theorem W_sz {p : Program} {l : Launch} {e : Env} {R : Room} {s : State} {m : MethodId} {args : Array Value} {below : List Frame} {meth : Method} {c : Code} {H : Heap} {locs : List Loc} {cells slots : Nat} {Q : State → Prop} {g : JFrame} (h : H.size ≤ s.heap.size + cells → W p l e R s m args below meth c H locs cells slots Q g) : W p l e R s m args below meth c H locs cells slots Q g := by
  intro T hT X
  exact h (by rw [← hT]; exact X.heapSize) T hT X
theorem gW_len {Gc : Nat → ClassId} {B : Nat} {M : gM} : (gW Gc B M).length = M.1.length := by simp [gW]
/-- the new cell's place -/
theorem g_fresh {Gc : Nat → ClassId} {B q : Nat} {M : gM} {x : va_E} {D : va_G} {H1 : Heap} {n : Nat} (hP : va_P D vwCl (gW Gc B M ++ [(q, x)]) H1) (hD : va_D (fun q => B ≤ q) (gW Gc B M ++ [(q, x)])) (hz : H1.size ≤ B + n + 1) (hn : M.1.length = n) : q = B + n := by
  subst hn
  have hq : (gW Gc B M ++ [(q, x)])[M.1.length]? = some (q, x) := by
    rw [List.getElem?_append_right (by rw [gW_len]; exact Nat.le_refl _), gW_len]
    simp
  have h1 : B ≤ q := hD.2 _ _ hq
  have h2 : q < H1.size := (hP _ _ hq).lt
  by_cases h3 : q = B + M.1.length
  · exact h3
  · exfalso
    have h4 : q - B < M.1.length := by omega
    obtain ⟨sh, hsh⟩ : ∃ sh, M.1[q - B]? = some sh := ⟨_, List.getElem?_eq_getElem h4⟩
    have h5 := gW_at (Gc := Gc) (B := B) hsh
    have h6 : (gW Gc B M ++ [(q, x)])[q - B]? = some (B + (q - B), gE Gc B M.2.1 M.2.2 (q - B) sh) := by
      rw [List.getElem?_append_left (by rw [gW_len]; exact h4)]
      exact h5
    have h7 := hD.1 _ _ _ _ hq h6 (by show q = B + (q - B); omega)
    omega
def gCl (own : String) (ix ci : Nat) : Prop := ∃ (C : String) (T : u_T) (N : Nat) (tys : Nat → FieldType), vwCl[ci]? = some (C, T, N) ∧ N = gN ci ∧ (∀ w ∈ u_ws C T N, w ∈ gT) ∧ (∀ j, j < N → parseFieldDescriptor (T j).2.2.1 = some (tys j)) ∧ Cond.classLink own ix C ∈ gT ∧ Cond.instantiable C N ∈ gT ∧ Cond.initialized C ∈ gT ∧ ∀ j, j < N → defaultValue (tys j) = if gR ci j = true then .null else .int 0
theorem G_new (X : Cx E κ cc nL own ret d cz sz) {ix ci : Nat} (hcl : gCl own ix ci) (hZ : gSz E κ cells S.length) (hcz : cells + 1 ≤ cz) (hsz : slots + gN ci ≤ sz) (hd : decode cc pc = .ok (.new ix, 3)) (kk : G E κ (cells + 1) (slots + gN ci) (pc + 3) ls (vr S.length :: st) (S ++ [(ci, 0)], uZ I S.length, uZP P S.length)) : G E κ cells slots pc ls st (S, I, P) := by
  obtain ⟨l, D, Gc, B, b⟩ := E
  obtain ⟨p, e, R, s, m, args, below, meth, c, Q⟩ := κ
  obtain ⟨hx, hb, hml, ho, hts, hK, hB, -, -, hfr2, hlo, hcz2, hsz2⟩ := X
  obtain ⟨C, T, N, tys, hc, hN, hin, hty, w1, w2, w3, hdf⟩ := hcl
  have hZ : s.heap.size + cells = B + S.length := hZ
  have h10 := lt10 hc
  subst hN
  intro H locs la hl0 hP hS
  refine va_new (D := D) (fs := (List.range (gN ci)).map (gF B (uZ I S.length) (uZP P S.length) ci S.length)) hx hb hts hin tys hty ho (hts _ w1) (hts _ w2) (hts _ w3) hK.1 hP gW_D hS (fun q hq => Nat.le_trans hB hq) hc (fun j hj => ?_) (by omega) (by omega) hd (fun q H1 hP1 hD1 hS1 => W_sz fun hz => ?_)
  · rw [hdf j hj]
    simp only [vp_V, List.getD, gFs_at hj, Option.getD_some]
    unfold gF
    split <;> simp [uZ, uZP, uC, uQ, va_rf]
  · have hq : q = B + S.length := g_fresh hP1 hD1 (by omega) rfl
    subst hq
    refine kk H1 locs la hl0 ?_ hS1
    have e := gW_push (Gc := Gc) (B := B) (S := S) (I := I) (P := P) (f := fun _ => 0) (g := fun _ => none) (ci, 0)
    rw [gE_obj h10] at e
    show va_P D vwCl (gW Gc B (S ++ [(ci, 0)], uC I S.length (fun _ => 0), uQ P S.length (fun _ => none))) H1
    rw [e]
    exact hP1
theorem va_RA_inj {U : State} {c1 c2 : ClassId} {ty : FieldType} (h1 : va_RA U c1 ty) (h2 : va_RA U c2 ty) : c1 = c2 := by
  cases ty with
  | object C =>
    obtain ⟨_, _, _, _, _, h⟩ := h1
    obtain ⟨_, _, _, _, _, h'⟩ := h2
    exact Option.some.inj (h.symm.trans h')
  | _ => exact Option.some.inj (h1.symm.trans h2)
theorem G_newa_int (X : Cx E κ cc nL own ret d cz sz) {n : Int32} {N : Nat} (hw : Cond.arrayClass .int ∈ gT) (hn : ¬ n < 0) (hN : n.toNatClampNeg = N) (hby : N ≤ 100000) (hZ : gSz E κ cells S.length) (hcz : cells + 1 ≤ cz) (hsz : slots + N ≤ sz) (hd : decode cc pc = .ok (.newarray .int, 2)) (kk : G E κ (cells + 1) (slots + N) (pc + 2) ls (vr S.length :: st) (S ++ [(10, N)], uZ I S.length, uZP P S.length)) : G E κ cells slots pc ls (vi n :: st) (S, I, P) := by
  obtain ⟨l, D, Gc, B, b⟩ := E
  obtain ⟨p, e, R, s, m, args, below, meth, c, Q⟩ := κ
  obtain ⟨hx, hb, hml, ho, hts, hK, hB, -, -, hfr2, hlo, hcz2, hsz2⟩ := X
  have hZ : s.heap.size + cells = B + S.length := hZ
  intro H locs la hl0 hP hS
  refine va_newa (atype := .int) (D := D) (ty := .int) (a0 := (N, .inl (fun _ => 0))) hx hb (hts _ hw) rfl hK.1 hP gW_D hS (fun q hq => Nat.le_trans hB hq) (fun cA => rfl) hn hN (by show N * 4 ≤ _; omega) (by omega) (by omega) hd (fun q cA H1 hK1 hP1 hD1 hS1 => W_sz fun hz => ?_)
  have hc : cA = Gc 10 := va_RA_inj (hK1.2 4 (cA, .int) rfl).2 (hK1.2 0 (Gc 10, .int) rfl).2
  subst hc
  have hq : q = B + S.length := g_fresh hP1 hD1 (by omega) rfl
  subst hq
  refine kk H1 locs la hl0 ?_ hS1
  have e := gW_push (Gc := Gc) (B := B) (S := S) (I := I) (P := P) (f := fun _ => 0) (g := fun _ => none) (10, N)
  rw [gE_int (by decide) (by decide)] at e
  show va_P D vwCl (gW Gc B (S ++ [(10, N)], uC I S.length (fun _ => 0), uQ P S.length (fun _ => none))) H1
  rw [e]
  have e2 : uC I S.length (fun _ => 0) S.length = fun _ => 0 := by simp [uC]
  rw [e2]
  exact hP1
theorem G_newa_char (X : Cx E κ cc nL own ret d cz sz) {n : Int32} {N : Nat} (hw : Cond.arrayClass .char ∈ gT) (hn : ¬ n < 0) (hN : n.toNatClampNeg = N) (hby : N ≤ 100000) (hZ : gSz E κ cells S.length) (hcz : cells + 1 ≤ cz) (hsz : slots + N ≤ sz) (hd : decode cc pc = .ok (.newarray .char, 2)) (kk : G E κ (cells + 1) (slots + N) (pc + 2) ls (vr S.length :: st) (S ++ [(11, N)], uZ I S.length, uZP P S.length)) : G E κ cells slots pc ls (vi n :: st) (S, I, P) := by
  obtain ⟨l, D, Gc, B, b⟩ := E
  obtain ⟨p, e, R, s, m, args, below, meth, c, Q⟩ := κ
  obtain ⟨hx, hb, hml, ho, hts, hK, hB, -, -, hfr2, hlo, hcz2, hsz2⟩ := X
  have hZ : s.heap.size + cells = B + S.length := hZ
  intro H locs la hl0 hP hS
  refine va_newa (atype := .char) (D := D) (ty := .char) (a0 := (N, .inl (fun _ => 0))) hx hb (hts _ hw) rfl hK.1 hP gW_D hS (fun q hq => Nat.le_trans hB hq) (fun cA => rfl) hn hN (by show N * 2 ≤ _; omega) (by omega) (by omega) hd (fun q cA H1 hK1 hP1 hD1 hS1 => W_sz fun hz => ?_)
  have hc : cA = Gc 11 := va_RA_inj (hK1.2 4 (cA, .char) rfl).2 (hK1.2 1 (Gc 11, .char) rfl).2
  subst hc
  have hq : q = B + S.length := g_fresh hP1 hD1 (by omega) rfl
  subst hq
  refine kk H1 locs la hl0 ?_ hS1
  have e := gW_push (Gc := Gc) (B := B) (S := S) (I := I) (P := P) (f := fun _ => 0) (g := fun _ => none) (11, N)
  rw [gE_int (by decide) (by decide)] at e
  show va_P D vwCl (gW Gc B (S ++ [(11, N)], uC I S.length (fun _ => 0), uQ P S.length (fun _ => none))) H1
  rw [e]
  have e2 : uC I S.length (fun _ => 0) S.length = fun _ => 0 := by simp [uC]
  rw [e2]
  exact hP1
theorem G_newq (X : Cx E κ cc nL own ret d cz sz) {ix kd : Nat} {n : Int32} {N : Nat} (hkd : kd = 12 ∨ kd = 13) (hw : Cond.classLink own ix (if kd = 12 then RX0 else RX1) ∈ gT) (hn : ¬ n < 0) (hN : n.toNatClampNeg = N) (hby : N ≤ 100000) (hZ : gSz E κ cells S.length) (hcz : cells + 1 ≤ cz) (hsz : slots + N ≤ sz) (hd : decode cc pc = .ok (.anewarray ix, 3)) (kk : G E κ (cells + 1) (slots + N) (pc + 3) ls (vr S.length :: st) (S ++ [(kd, N)], uZ I S.length, uZP P S.length)) : G E κ cells slots pc ls (vi n :: st) (S, I, P) := by
  obtain ⟨l, D, Gc, B, b⟩ := E
  obtain ⟨p, e, R, s, m, args, below, meth, c, Q⟩ := κ
  obtain ⟨hx, hb, hml, ho, hts, hK, hB, -, -, hfr2, hlo, hcz2, hsz2⟩ := X
  have hZ : s.heap.size + cells = B + S.length := hZ
  have hao : va_AO (if kd = 12 then RX0 else RX1) s := by
    split
    · exact hK.2.1
    · exact hK.2.2.1
  intro H locs la hl0 hP hS
  refine va_newq (D := D) (C := if kd = 12 then RX0 else RX1) hx hb ho (hts _ hw) hao hK.1 hP gW_D hS (fun q hq => Nat.le_trans hB hq) hn hN (by omega) (by omega) (by omega) hd (fun q cA H1 hK1 hP1 hD1 hS1 => W_sz fun hz => ?_)
  have hc : cA = Gc kd := by
    have h1 := gTy_at Gc hkd
    have h2 : kd - 10 < (gTy Gc).length := (List.getElem?_eq_some_iff.mp h1).1
    exact va_RA_inj (hK1.2 4 (cA, .object (if kd = 12 then RX0 else RX1)) rfl).2 (hK1.2 (kd - 10) _ (by rw [List.getElem?_append_left h2]; exact h1)).2
  subst hc
  have hq : q = B + S.length := g_fresh hP1 hD1 (by omega) rfl
  subst hq
  refine kk H1 locs la hl0 ?_ hS1
  have e := gW_push (Gc := Gc) (B := B) (S := S) (I := I) (P := P) (f := fun _ => 0) (g := fun _ => none) (kd, N)
  rw [gE_ref (by omega)] at e
  show va_P D vwCl (gW Gc B (S ++ [(kd, N)], uC I S.length (fun _ => 0), uQ P S.length (fun _ => none))) H1
  rw [e]
  have e2 : (fun j => (uQ P S.length (fun _ => none) S.length j).map (fun x => B + x)) = fun _ => none := by funext j; simp [uQ]
  rw [e2]
  exact hP1
theorem G_max (X : Cx E κ cc nL own ret d cz sz) {ix : Nat} {x y : Int32} {M : gM} (hw1 : Cond.methodLink own ix Lib.Math.max.name ∈ gT) (hw2 : Cond.static Lib.Math.max.name ∈ gT) (hw3 : Cond.initialized "java/lang/Math" ∈ gT) (hw4 : Cond.code Lib.Math.max.name Lib.Math.max.code 2 (some .int) ∈ gT) (hst : gsz st ≤ 8) (hfr : 1 ≤ d) (hlen : ls.length = nL) (hcz : cells ≤ cz) (hsz : slots ≤ sz) (hd : decode cc pc = .ok (.invokestatic ix, 3)) (kk : G E κ cells slots (pc + 3) ls (vi (if x < y then y else x) :: st) M) : G E κ cells slots pc ls (vi y :: vi x :: st) M := by
  obtain ⟨l, D, Gc, B, b⟩ := E
  obtain ⟨p, e, R, s, m, args, below, meth, c, Q⟩ := κ
  obtain ⟨hx, hb, hml, ho, hts, hK, hB, -, -, hfr2, hlo, hcz2, hsz2⟩ := X
  intro H locs la hl0 hP hS
  exact va_mmax hx hb (hml.trans (hlen.symm.trans hl0.1.symm)) ho (hts _ hw1) (hts _ hw2) (hts _ hw3) (hts _ hw4) (by omega) (by rw [gcat_sum]; omega) (by omega) (by omega) hd (kk H locs la hl0 hP hS)
theorem G_min (X : Cx E κ cc nL own ret d cz sz) {ix : Nat} {x y : Int32} {M : gM} (hw1 : Cond.methodLink own ix Lib.Math.min.name ∈ gT) (hw2 : Cond.static Lib.Math.min.name ∈ gT) (hw3 : Cond.initialized "java/lang/Math" ∈ gT) (hw4 : Cond.code Lib.Math.min.name Lib.Math.min.code 2 (some .int) ∈ gT) (hst : gsz st ≤ 8) (hfr : 1 ≤ d) (hlen : ls.length = nL) (hcz : cells ≤ cz) (hsz : slots ≤ sz) (hd : decode cc pc = .ok (.invokestatic ix, 3)) (kk : G E κ cells slots (pc + 3) ls (vi (if y < x then y else x) :: st) M) : G E κ cells slots pc ls (vi y :: vi x :: st) M := by
  obtain ⟨l, D, Gc, B, b⟩ := E
  obtain ⟨p, e, R, s, m, args, below, meth, c, Q⟩ := κ
  obtain ⟨hx, hb, hml, ho, hts, hK, hB, -, -, hfr2, hlo, hcz2, hsz2⟩ := X
  intro H locs la hl0 hP hS
  exact va_mmin hx hb (hml.trans (hlen.symm.trans hl0.1.symm)) ho (hts _ hw1) (hts _ hw2) (hts _ hw3) (hts _ hw4) (by omega) (by rw [gcat_sum]; omega) (by omega) (by omega) hd (kk H locs la hl0 hP hS)
theorem G_copyi (X : Cx E κ cc nL own ret d cz sz) {ix a0 a n0 n1 : Nat} {sp dp n : Int32} (hw1 : Cond.methodLink own ix arraycopyName ∈ gT) (hw2 : Cond.native arraycopyName ∈ gT) (hw3 : Cond.static arraycopyName ∈ gT) (hw4 : Cond.initialized "java/lang/System" ∈ gT) (hs0 : S[a0]? = some (10, n0)) (hs1 : S[a]? = some (10, n1))
    (h1 : ¬ sp < 0) (h2 : ¬ dp < 0) (h3 : ¬ n < 0) (h4 : sp.toNatClampNeg + n.toNatClampNeg ≤ n0) (h5 : dp.toNatClampNeg + n.toNatClampNeg ≤ n1) (hst : gsz st ≤ 8) (hfr : 1 ≤ d) (hlen : ls.length = nL) (hd : decode cc pc = .ok (.invokestatic ix, 3))
    (kk : G E κ cells slots (pc + 3) ls st (S, uC I a (va_cpy (I a0) (I a) sp.toNatClampNeg dp.toNatClampNeg n.toNatClampNeg), P)) : G E κ cells slots pc ls (vi n :: vi dp :: vr a :: vi sp :: vr a0 :: st) (S, I, P) := by
  obtain ⟨l, D, Gc, B, b⟩ := E
  obtain ⟨p, e, R, s, m, args, below, meth, c, Q⟩ := κ
  obtain ⟨hx, hb, hml, ho, hts, hK, hB, -, -, hfr2, hlo, hcz2, hsz2⟩ := X
  intro H locs la hl0 hP hS
  have he0 := gW_at (Gc := Gc) (B := B) (M := (S, I, P)) hs0
  rw [gE_int (by decide) (by decide)] at he0
  have he1 := gW_at (Gc := Gc) (B := B) (M := (S, I, P)) hs1
  rw [gE_int (by decide) (by decide)] at he1
  refine va_copyi hx hb (hml.trans (hlen.symm.trans hl0.1.symm)) ho (hts _ hw1) (hts _ hw2) (hts _ hw3) (hts _ hw4) hK.1 hP gW_D hS a0 a 0 0 he0 he1 rfl rfl rfl h1 h2 h3 h4 h5 (fun i _ => rfl) (by omega) ?_ hd (fun H1 locs1 hP1 _ hS1 => kk H1 locs1 la hl0 ?_ hS1)
  · rw [gcat_sum]
    have : nativeFrameWords "java/lang/System" "arraycopy" 5 ≤ 20 := by decide +kernel
    omega
  · have e := gW_set (Gc := Gc) (B := B) (I := I) (P := P) (P' := P) (I' := uC I a (va_cpy (I a0) (I a) sp.toNatClampNeg dp.toNatClampNeg n.toNatClampNeg)) hs1 (fun _ _ hc => gE_uC_ne hc)
    rw [e, gE_int (by decide) (by decide)]
    have e2 : uC I a (va_cpy (I a0) (I a) sp.toNatClampNeg dp.toNatClampNeg n.toNatClampNeg) a = va_cpy (I a0) (I a) sp.toNatClampNeg dp.toNatClampNeg n.toNatClampNeg := by simp [uC]
    rw [e2]
    exact hP1
end GNew
