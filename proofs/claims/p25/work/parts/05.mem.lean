/-! THE RULES for fields, arrays, calls and returns -/
def uC (I : gI) (a : Nat) (f : Nat → Int32) : gI := fun c => if c = a then f else I c
def uQ (P : gP) (a : Nat) (f : Nat → Option Nat) : gP := fun c => if c = a then f else P c
/-- a field, as an instruction of the class 'own' names it -/
def gFd (own : String) (ix ci k : Nat) (fin : Bool) (ty : FieldType) : Prop := ∃ (C : String) (T : u_T) (N : Nat) (tys : Nat → FieldType), vwCl[ci]? = some (C, T, N) ∧ N = gN ci ∧ (∀ w ∈ u_ws C T N, w ∈ gT) ∧ k < N ∧ Cond.fieldLink own ix C (T k).2.1 (T k).2.2.1 ∈ gT ∧ (T k).1 = C ∧ (T k).2.2.2 = fin ∧ parseFieldDescriptor (T k).2.2.1 = some ty ∧ (∀ j, j < N → parseFieldDescriptor (T j).2.2.1 = some (tys j)) ∧ (∀ a, a < N → ∀ b, b < N → a ≠ b → (T a).2.1 ≠ (T b).2.1)
def gCB (own : String) (ix : Nat) (y : MethodName) (bc : ByteArray) (nL : Nat) (ret : Option FieldType) (n : Nat) : Prop := Cond.methodLink own ix y ∈ gT ∧ Cond.initialized y.cls ∈ gT ∧ Cond.code y bc nL ret ∈ gT ∧ (y.cls ≠ "java/lang/invoke/MethodHandle" ∧ y.cls ≠ "java/lang/invoke/VarHandle" ∧ (parseMethodDescriptor y.desc).map (fun d => d.parameters.length) = some n)
def gCN (y : MethodName) (bc : ByteArray) (nL : Nat) (ret : Option FieldType) (n : Nat) : Prop := Cond.initialized y.cls ∈ gT ∧ Cond.code y bc nL ret ∈ gT ∧ (y.cls ≠ "java/lang/invoke/MethodHandle" ∧ y.cls ≠ "java/lang/invoke/VarHandle" ∧ (parseMethodDescriptor y.desc).map (fun d => d.parameters.length) = some n)
def gVI (y : MethodName) : Prop := Cond.instanceMethod y ∈ gT ∧ Cond.selects y.cls y y ∈ gT
theorem lt10 {ci : Nat} {q : vw_C} (h : vwCl[ci]? = some q) : ci < 10 := by
  have h1 : ci < 5 := (List.getElem?_eq_some_iff.mp h).1
  omega
section GMem
variable {E : gEnv} {κ : gCtx} {cc : ByteArray} {nL d cz sz cells slots pc : Nat} {own : String} {ret : Option FieldType} {ls : List (Option gV)} {st : List gV} {S : List (Nat × Nat)} {I : gI} {P : gP}
theorem G_getI (X : Cx E κ cc nL own ret d cz sz) {ix ci k a n : Nat} {fin : Bool} {ty : FieldType} (hF : gFd own ix ci k fin ty) (hr : gR ci k = false) (hsh : S[a]? = some (ci, n)) (hd : decode cc pc = .ok (.getfield ix, 3)) (kk : G E κ cells slots (pc + 3) ls (vi (I a k) :: st) (S, I, P)) : G E κ cells slots pc ls (vr a :: st) (S, I, P) := by
  obtain ⟨l, D, Gc, B, b⟩ := E
  obtain ⟨p, e, R, s, m, args, below, meth, c, Q⟩ := κ
  obtain ⟨hx, hb, -, ho, hts, hK, -⟩ := X
  obtain ⟨C, T, N, tys, hc, hN, hin, hk, hl, hT, -⟩ := hF
  intro H locs la hl0 hP hS
  have h10 := lt10 hc
  have he := gW_at (Gc := Gc) (B := B) (M := (S, I, P)) hsh
  rw [gE_obj h10] at he
  refine va_get (D := D) hx hb hts hin ho hK.1 hP a he hc k hk (hts _ hl) (fun x h => by rw [hT] at h; exact h) (v := .int (I a k)) ?_ hd (kk H locs la hl0 hP hS)
  rw [gFs_at (by rw [← hN]; exact hk)]
  simp [gF, hr]
theorem G_getR (X : Cx E κ cc nL own ret d cz sz) {ix ci k a n r : Nat} {fin : Bool} {ty : FieldType} (hF : gFd own ix ci k fin ty) (hr : gR ci k = true) (hsh : S[a]? = some (ci, n)) (hv : P a k = some r) (hd : decode cc pc = .ok (.getfield ix, 3)) (kk : G E κ cells slots (pc + 3) ls (vr r :: st) (S, I, P)) : G E κ cells slots pc ls (vr a :: st) (S, I, P) := by
  obtain ⟨l, D, Gc, B, b⟩ := E
  obtain ⟨p, e, R, s, m, args, below, meth, c, Q⟩ := κ
  obtain ⟨hx, hb, -, ho, hts, hK, -⟩ := X
  obtain ⟨C, T, N, tys, hc, hN, hin, hk, hl, hT, -⟩ := hF
  intro H locs la hl0 hP hS
  have h10 := lt10 hc
  have he := gW_at (Gc := Gc) (B := B) (M := (S, I, P)) hsh
  rw [gE_obj h10] at he
  refine va_get (D := D) hx hb hts hin ho hK.1 hP a he hc k hk (hts _ hl) (fun x h => by rw [hT] at h; exact h) (v := .ref (B + r)) ?_ hd (kk H locs la hl0 hP hS)
  rw [gFs_at (by rw [← hN]; exact hk)]
  simp [gF, hr, hv, va_rf]
theorem G_putI (X : Cx E κ cc nL own ret d cz sz) {ix ci k a n : Nat} {ty : FieldType} {x : Int32} (hF : gFd own ix ci k false ty) (hr : gR ci k = false) (hsh : S[a]? = some (ci, n)) (hn : narrow ty (.int x) = .int x) (hf : fits ty (.int x) = true) (hd : decode cc pc = .ok (.putfield ix, 3)) (kk : G E κ cells slots (pc + 3) ls st (S, uI I a k x, P)) : G E κ cells slots pc ls (vi x :: vr a :: st) (S, I, P) := by
  obtain ⟨l, D, Gc, B, b⟩ := E
  obtain ⟨p, e, R, s, m, args, below, meth, c, Q⟩ := κ
  obtain ⟨hx, hb, -, ho, hts, hK, -⟩ := X
  obtain ⟨C, T, N, tys, hc, hN, hin, hk, hl, hT, hfin, hpd, hty, hnm⟩ := hF
  intro H locs la hl0 hP hS
  have h10 := lt10 hc
  have he := gW_at (Gc := Gc) (B := B) (M := (S, I, P)) hsh
  rw [gE_obj h10] at he
  have hk' : k < gN ci := by rw [← hN]; exact hk
  refine va_put (D := D) hx hb hts hin tys hty hnm ho hK.1 hP gW_D hS a he hc k hk (hts _ hl) (fun x h => by rw [hT] at h; exact h) hfin hpd hn hf (by simpa using hk') hd (fun H1 locs1 hP1 _ hS1 => kk H1 locs1 la hl0 ?_ hS1)
  rw [gW_uI hsh, gE_obj h10, gFs_uI hk' hr]
  exact hP1
theorem G_putR (X : Cx E κ cc nL own ret d cz sz) {ix ci k a n r : Nat} {ty : FieldType} (hF : gFd own ix ci k false ty) (hr : gR ci k = true) (hsh : S[a]? = some (ci, n)) (hn : ∀ q, narrow ty (.ref q) = .ref q) (hf : ∀ q, fits ty (.ref q) = true) (hd : decode cc pc = .ok (.putfield ix, 3)) (kk : G E κ cells slots (pc + 3) ls st (S, I, uP P a k (some r))) : G E κ cells slots pc ls (vr r :: vr a :: st) (S, I, P) := by
  obtain ⟨l, D, Gc, B, b⟩ := E
  obtain ⟨p, e, R, s, m, args, below, meth, c, Q⟩ := κ
  obtain ⟨hx, hb, -, ho, hts, hK, -⟩ := X
  obtain ⟨C, T, N, tys, hc, hN, hin, hk, hl, hT, hfin, hpd, hty, hnm⟩ := hF
  intro H locs la hl0 hP hS
  have h10 := lt10 hc
  have he := gW_at (Gc := Gc) (B := B) (M := (S, I, P)) hsh
  rw [gE_obj h10] at he
  have hk' : k < gN ci := by rw [← hN]; exact hk
  refine va_put (D := D) (v := .ref (B + r)) hx hb hts hin tys hty hnm ho hK.1 hP gW_D hS a he hc k hk (hts _ hl) (fun x h => by rw [hT] at h; exact h) hfin hpd (hn _) (hf _) (by simpa using hk') hd (fun H1 locs1 hP1 _ hS1 => kk H1 locs1 la hl0 ?_ hS1)
  rw [gW_uP hsh, gE_obj h10, gFs_uP hk' hr]
  exact hP1
theorem G_putF (X : Cx E κ cc nL own ret d cz sz) {ix ci k a n r : Nat} {ty : FieldType} (hF : gFd own ix ci k true ty) (hO : ∀ q : vw_C, vwCl[ci]? = some q → q.1 = own) (hr : gR ci k = true) (hsh : S[a]? = some (ci, n)) (hn : ∀ q, narrow ty (.ref q) = .ref q) (hf : ∀ q, fits ty (.ref q) = true) (hnm2 : κ.2.2.2.2.2.2.2.1.name = "<init>") (hd : decode cc pc = .ok (.putfield ix, 3)) (kk : G E κ cells slots (pc + 3) ls st (S, I, uP P a k (some r))) : G E κ cells slots pc ls (vr r :: vr a :: st) (S, I, P) := by
  obtain ⟨l, D, Gc, B, b⟩ := E
  obtain ⟨p, e, R, s, m, args, below, meth, c, Q⟩ := κ
  obtain ⟨hx, hb, -, ho, hts, hK, -⟩ := X
  obtain ⟨C, T, N, tys, hc, hN, hin, hk, hl, hT, hfin, hpd, hty, hnm⟩ := hF
  intro H locs la hl0 hP hS
  have h10 := lt10 hc
  have he := gW_at (Gc := Gc) (B := B) (M := (S, I, P)) hsh
  rw [gE_obj h10] at he
  have hk' : k < gN ci := by rw [← hN]; exact hk
  have hO' : C = own := hO _ hc
  refine va_putF (D := D) (v := .ref (B + r)) hx hb hts hin tys hty hnm ho hK.1 hP gW_D hS a he hc k hk (hts _ hl) (fun x h => by rw [hT] at h; exact h) hfin hnm2 (by rw [hT, hO']) hpd (hn _) (hf _) (by simpa using hk') hd (fun H1 locs1 hP1 _ hS1 => kk H1 locs1 la hl0 ?_ hS1)
  rw [gW_uP hsh, gE_obj h10, gFs_uP hk' hr]
  exact hP1
theorem G_iald (X : Cx E κ cc nL own ret d cz sz) {a n : Nat} {i : Int32} (hsh : S[a]? = some (10, n)) (hin : vp_in i n) (hd : decode cc pc = .ok (.iaload, 1)) (kk : G E κ cells slots (pc + 1) ls (vi (I a i.toNatClampNeg) :: st) (S, I, P)) : G E κ cells slots pc ls (vi i :: vr a :: st) (S, I, P) := by
  obtain ⟨l, D, Gc, B, b⟩ := E
  obtain ⟨p, e, R, s, m, args, below, meth, c, Q⟩ := κ
  obtain ⟨hx, hb, -, ho, hts, hK, -⟩ := X
  intro H locs la hl0 hP hS
  have he := gW_at (Gc := Gc) (B := B) (M := (S, I, P)) hsh
  rw [gE_int (by decide) (by decide)] at he
  exact va_iald hx hb hK.1 hP a 0 he rfl hin hd (kk H locs la hl0 hP hS)
theorem G_cald (X : Cx E κ cc nL own ret d cz sz) {a n : Nat} {i : Int32} (hsh : S[a]? = some (11, n)) (hin : vp_in i n) (hd : decode cc pc = .ok (.caload, 1)) (kk : G E κ cells slots (pc + 1) ls (vi (I a i.toNatClampNeg) :: st) (S, I, P)) : G E κ cells slots pc ls (vi i :: vr a :: st) (S, I, P) := by
  obtain ⟨l, D, Gc, B, b⟩ := E
  obtain ⟨p, e, R, s, m, args, below, meth, c, Q⟩ := κ
  obtain ⟨hx, hb, -, ho, hts, hK, -⟩ := X
  intro H locs la hl0 hP hS
  have he := gW_at (Gc := Gc) (B := B) (M := (S, I, P)) hsh
  rw [gE_int (by decide) (by decide)] at he
  exact va_cald hx hb hK.1 hP a 1 he rfl hin hd (kk H locs la hl0 hP hS)
theorem G_iast (X : Cx E κ cc nL own ret d cz sz) {a n : Nat} {i x : Int32} (hsh : S[a]? = some (10, n)) (hin : vp_in i n) (hd : decode cc pc = .ok (.iastore, 1)) (kk : G E κ cells slots (pc + 1) ls st (S, uI I a i.toNatClampNeg x, P)) : G E κ cells slots pc ls (vi x :: vi i :: vr a :: st) (S, I, P) := by
  obtain ⟨l, D, Gc, B, b⟩ := E
  obtain ⟨p, e, R, s, m, args, below, meth, c, Q⟩ := κ
  obtain ⟨hx, hb, -, ho, hts, hK, -⟩ := X
  intro H locs la hl0 hP hS
  have he := gW_at (Gc := Gc) (B := B) (M := (S, I, P)) hsh
  rw [gE_int (by decide) (by decide)] at he
  refine va_iast hx hb hK.1 hP gW_D hS a 0 he rfl hin hd (fun H1 locs1 hP1 _ hS1 => kk H1 locs1 la hl0 ?_ hS1)
  rw [gW_uI hsh, gE_int (by decide) (by decide)]
  have e : uI I a i.toNatClampNeg x a = upd (I a) i.toNatClampNeg x := by simp [uI]
  rw [e]
  exact hP1
theorem G_cast (X : Cx E κ cc nL own ret d cz sz) {a n : Nat} {i x : Int32} (hsh : S[a]? = some (11, n)) (hin : vp_in i n) (hd : decode cc pc = .ok (.castore, 1)) (kk : G E κ cells slots (pc + 1) ls st (S, uI I a i.toNatClampNeg (vp_nar .char x), P)) : G E κ cells slots pc ls (vi x :: vi i :: vr a :: st) (S, I, P) := by
  obtain ⟨l, D, Gc, B, b⟩ := E
  obtain ⟨p, e, R, s, m, args, below, meth, c, Q⟩ := κ
  obtain ⟨hx, hb, -, ho, hts, hK, -⟩ := X
  intro H locs la hl0 hP hS
  have he := gW_at (Gc := Gc) (B := B) (M := (S, I, P)) hsh
  rw [gE_int (by decide) (by decide)] at he
  refine va_cast hx hb hK.1 hP gW_D hS a 1 he rfl hin hd (fun H1 locs1 hP1 _ hS1 => kk H1 locs1 la hl0 ?_ hS1)
  rw [gW_uI hsh, gE_int (by decide) (by decide)]
  have e : uI I a i.toNatClampNeg (vp_nar .char x) a = upd (I a) i.toNatClampNeg (vp_nar .char x) := by simp [uI]
  rw [e]
  exact hP1
theorem gTy_at (Gc : Nat → ClassId) {kd : Nat} (h : kd = 12 ∨ kd = 13) : (gTy Gc)[kd - 10]? = some (Gc kd, .object (if kd = 12 then RX0 else RX1)) := by
  rcases h with rfl | rfl <;> rfl
theorem G_aald (X : Cx E κ cc nL own ret d cz sz) {a n kd r : Nat} {i : Int32} (hsh : S[a]? = some (kd, n)) (hkd : kd = 12 ∨ kd = 13) (hin : vp_in i n) (hv : P a i.toNatClampNeg = some r) (hd : decode cc pc = .ok (.aaload, 1)) (kk : G E κ cells slots (pc + 1) ls (vr r :: st) (S, I, P)) : G E κ cells slots pc ls (vi i :: vr a :: st) (S, I, P) := by
  obtain ⟨l, D, Gc, B, b⟩ := E
  obtain ⟨p, e, R, s, m, args, below, meth, c, Q⟩ := κ
  obtain ⟨hx, hb, -, ho, hts, hK, -⟩ := X
  intro H locs la hl0 hP hS
  have he := gW_at (Gc := Gc) (B := B) (M := (S, I, P)) hsh
  rw [gE_ref (by omega)] at he
  refine va_aldq hx hb hK.1 hP a (kd - 10) he (gTy_at Gc hkd) hin hd ?_
  have e : va_rf ((fun j => (P a j).map (fun x => B + x)) i.toNatClampNeg) = .ref (B + r) := by simp [hv, va_rf]
  rw [e]
  exact kk H locs la hl0 hP hS
theorem G_aast (X : Cx E κ cc nL own ret d cz sz) {a n kd r nr : Nat} {i : Int32} (hsh : S[a]? = some (kd, n)) (hkd : kd = 12 ∨ kd = 13) (hr : S[r]? = some (kd - 12, nr)) (hin : vp_in i n) (hd : decode cc pc = .ok (.aastore, 1)) (kk : G E κ cells slots (pc + 1) ls st (S, I, uP P a i.toNatClampNeg (some r))) : G E κ cells slots pc ls (vr r :: vi i :: vr a :: st) (S, I, P) := by
  obtain ⟨l, D, Gc, B, b⟩ := E
  obtain ⟨p, e, R, s, m, args, below, meth, c, Q⟩ := κ
  obtain ⟨hx, hb, -, ho, hts, hK, -⟩ := X
  intro H locs la hl0 hP hS
  have he := gW_at (Gc := Gc) (B := B) (M := (S, I, P)) hsh
  rw [gE_ref (by omega)] at he
  have hv := gW_at (Gc := Gc) (B := B) (M := (S, I, P)) hr
  rw [gE_obj (by omega)] at hv
  have hc : ∃ q : vw_C, vwCl[kd - 12]? = some q ∧ (if kd = 12 then RX0 else RX1) = q.1 := by
    rcases hkd with rfl | rfl
    · exact ⟨_, rfl, rfl⟩
    · exact ⟨_, rfl, rfl⟩
  obtain ⟨q, hq, hqe⟩ := hc
  have ht := gTy_at Gc hkd
  rw [hqe] at ht
  refine va_astq hx hb hK.1 hP gW_D hS a (kd - 10) r (kd - 12) he ht hv hq hin hd (fun H1 locs1 hP1 _ hS1 => kk H1 locs1 la hl0 ?_ hS1)
  rw [gW_uP hsh, gE_ref (by omega)]
  have e : (fun j => (uP P a i.toNatClampNeg (some r) a j).map (fun x => B + x)) = va_up (fun j => (P a j).map (fun x => B + x)) i.toNatClampNeg (some (B + r)) := by
    funext j
    by_cases hj : j = i.toNatClampNeg
    · simp [uP, va_up, hj]
    · simp [uP, va_up, hj]
  rw [e]
  exact hP1
theorem G_alen (X : Cx E κ cc nL own ret d cz sz) {a n kd : Nat} (hsh : S[a]? = some (kd, n)) (hkd : kd = 10 ∨ kd = 11 ∨ kd = 12 ∨ kd = 13) (hd : decode cc pc = .ok (.arraylength, 1)) (kk : G E κ cells slots (pc + 1) ls (vi (nI n) :: st) (S, I, P)) : G E κ cells slots pc ls (vr a :: st) (S, I, P) := by
  obtain ⟨l, D, Gc, B, b⟩ := E
  obtain ⟨p, e, R, s, m, args, below, meth, c, Q⟩ := κ
  obtain ⟨hx, hb, -, ho, hts, hK, -⟩ := X
  intro H locs la hl0 hP hS
  have he := gW_at (Gc := Gc) (B := B) (M := (S, I, P)) hsh
  rcases hkd with rfl | rfl | rfl | rfl
  · rw [gE_int (by decide) (by decide)] at he
    exact va_alen hx hb hK.1 hP a 0 he rfl rfl hd (kk H locs la hl0 hP hS)
  · rw [gE_int (by decide) (by decide)] at he
    exact va_alen hx hb hK.1 hP a 1 he rfl rfl hd (kk H locs la hl0 hP hS)
  · rw [gE_ref (by decide)] at he
    exact va_alen hx hb hK.1 hP a 2 he rfl rfl hd (kk H locs la hl0 hP hS)
  · rw [gE_ref (by decide)] at he
    exact va_alen hx hb hK.1 hP a 3 he rfl rfl hd (kk H locs la hl0 hP hS)
/-- the law's script -/
def gX (E : gEnv) (κ : gCtx) (L : Nat) (xs : Nat → Int32) : Prop := match E, κ with
  | (_, _, _, B, b), (_, _, _, s, _) => va_X b L xs s s.heap ∧ b < B ∧ b < s.heap.size
theorem G_sld (X : Cx E κ cc nL own ret d cz sz) {L : Nat} {xs : Nat → Int32} {M : gM} (hX : gX E κ L xs) {i : Int32} (hin : vp_in i L) (hd : decode cc pc = .ok (.iaload, 1)) (kk : G E κ cells slots (pc + 1) ls (vi (xs i.toNatClampNeg) :: st) M) : G E κ cells slots pc ls (vi i :: vsc :: st) M := by
  obtain ⟨l, D, Gc, B, b⟩ := E
  obtain ⟨p, e, R, s, m, args, below, meth, c, Q⟩ := κ
  obtain ⟨hx, hb, -, ho, hts, hK, -⟩ := X
  intro H locs la hl0 hP hS
  exact va_sld hx hb hX.1 hX.2.2 (Nat.not_le.mpr hX.2.1) hS hin hd (kk H locs la hl0 hP hS)
theorem G_slen (X : Cx E κ cc nL own ret d cz sz) {L : Nat} {xs : Nat → Int32} {M : gM} (hX : gX E κ L xs) (hd : decode cc pc = .ok (.arraylength, 1)) (kk : G E κ cells slots (pc + 1) ls (vi (nI L) :: st) M) : G E κ cells slots pc ls (vsc :: st) M := by
  obtain ⟨l, D, Gc, B, b⟩ := E
  obtain ⟨p, e, R, s, m, args, below, meth, c, Q⟩ := κ
  obtain ⟨hx, hb, -, ho, hts, hK, -⟩ := X
  intro H locs la hl0 hP hS
  exact va_slen hx hb hX.1 hX.2.2 (Nat.not_le.mpr hX.2.1) hS hd (kk H locs la hl0 hP hS)
def gsz : List gV → Nat
  | [] => 0
  | v :: r => (match v with | .inl _ => 1 | .inr _ => 2) + gsz r
theorem gcat_sum (B b : Nat) : ∀ st : List gV, ((st.map (gv B b)).map fun v => v.category).sum = gsz st
  | [] => rfl
  | v :: r => by
    rw [List.map_cons, List.map_cons, List.sum_cons, gcat_sum B b r]
    rcases v with (x | (_ | a)) | x <;> rfl
theorem groom (B b : Nat) {m : MethodId} {pc : Nat} {la : Array Slot} {s0 : List Value} {st : List gV} (h : gsz st ≤ 8) : 2 * (F0 m pc la s0).monitorRoom + ((st.map (gv B b)).map fun v => v.category).sum ≤ 8 := lv_room (by rw [gcat_sum]; exact h)
theorem gws_good {y : MethodName} {bc : ByteArray} {nL' : Nat} {ret' : Option FieldType} (h : Cond.code y bc nL' ret' ∈ gT) : GoodIn gT (gws y bc nL' ret') := gT_good fun w hw => by
  rcases List.mem_cons.mp hw with rfl | h1
  · exact h
  · exact h1
theorem gPr_blind {D : va_G} {Gc : Nat → ClassId} {B : Nat} {M : gM} {av : List Value} : FrameBlind (va_Pc av (gPr D Gc B M)) := fun a U g mk q => ⟨q.1, q.2.1, gKK.same (s := U) (U := U.calling g mk a) rfl q.2.2.1, q.2.2.2⟩
/-- behind a call, whatever the kind of the invoke -/
theorem G_back {l : Launch} {D : va_G} {Gc : Nat → ClassId} {B b : Nat} {p : Program} {e : Env} {R : Room} {s : State} {m : MethodId} {args : Array Value} {below : List Frame} {meth : Method} {c : Code} {Q : State → Prop} {H : Heap} {locs : List Loc} {la : Array Slot} {s0 : List Value} {a : Array Value} {mc ms : Nat} {rv : Option gV} {M1 : gM} (hB : B ≤ s.heap.size)
    (hr : va_Run p l e R s m args below meth c H locs cells slots mc ms (F0 m pc la s0) (st.map (gv B b)) (gQo D Gc B b rv M1 a) (fun q => B ≤ q)) (hl0 : gLk B b la ls) (hS : va_S (fun q => B ≤ q) s.heap H locs)
    (kk : G (l, D, Gc, B, b) (p, e, R, s, m, args, below, meth, c, Q) (cells + mc) (slots + ms) (pc + 3) ls (rv.toList ++ st) M1) : W p l e R s m args below meth c H locs cells slots Q (F0 m pc la s0) := by
  intro T hT X
  obtain ⟨v, st₀, t, T', L, h0, X', hL, e1, e2, ⟨hv, hP, hz, hk⟩, st1⟩ := hr T hT X
  cases hv
  rw [h0] at hz hk
  have hS' : va_S (fun q => B ≤ q) s.heap T'.heap (locs ++ L) := ⟨Nat.le_trans hS.1 (by rw [e1]; exact hz), fun q h1 h2 => by
      rw [e1, hk q (Nat.lt_of_lt_of_le h1 hS.1) h2]
      exact hS.2.1 q h1 h2, fun q hq => by
      rcases List.mem_append.mp hq with h | h
      · exact hS.2.2 q h
      · exact hL q h⟩
  obtain ⟨t2, a1, b1⟩ := kk T'.heap (locs ++ L) la hl0 (by rw [e1]; exact hP) hS' T' rfl X'
  refine ⟨t2, st1 t2 ?_, b1⟩
  cases rv with
  | none => exact a1
  | some w => exact a1
theorem G_callV (X : Cx E κ cc nL own ret d cz sz) {y : MethodName} {bc : ByteArray} {nL' ix n d' mc ms a ci k : Nat} {ret' : Option FieldType} {As sk : List gV} {M M1 : gM} {rv : Option gV} {C : String} {T : u_T} {N : Nat} (hM : Ctr E y bc nL' ret' d' mc ms (vr a :: As) M rv M1) (hw : gCB own ix y bc nL' ret' n) (hv : gVI y) (hc : vwCl[ci]? = some (C, T, N)) (hC : y.cls = C) (hsh : M.1[a]? = some (ci, k))
    (hn : As.length = n) (hsk : sk = As.reverse ++ vr a :: st) (hst : gsz st ≤ 8) (hfr : d' + 1 ≤ d) (hnL : nL' ≤ 21) (hlen : ls.length = nL) (hcz : cells + mc ≤ cz) (hsz : slots + ms ≤ sz) (hd : decode cc pc = .ok (.invokevirtual ix, 3)) (kk : G E κ (cells + mc) (slots + ms) (pc + 3) ls (rv.toList ++ st) M1) : G E κ cells slots pc ls sk M := by
  subst hsk
  obtain ⟨l, D, Gc, B, b⟩ := E
  obtain ⟨p, e, R, s, m, args, below, meth, c, Q⟩ := κ
  obtain ⟨hx, hb, hml, ho, hts, hK, hB, -, -, hfr2, hlo, hcz2, hsz2⟩ := X
  obtain ⟨w1, w2, w3, w4⟩ := hw
  intro H locs la hl0 hP hS
  have h10 := lt10 hc
  have he := gW_at (Gc := Gc) (B := B) (M := M) hsh
  rw [gE_obj h10] at he
  have cb : CallB R s args own ix y bc nL' ret' (gws y bc nL' ret') { frames := d', cells := mc, slots := ms, locals := 40 * d' } mc ms n :=
    callB_of n hts (gws_good w3) rfl rfl rfl (hts _ w2) (hts _ w1) w4 ⟨by show d' + 1 ≤ R.frames; omega, by show 8 + (nL' + 11) + 40 * d' ≤ R.locals; omega⟩
  subst hC
  have hr := va_runV (b := B + a) (As := As.map (gv B b)) (rest := st.map (gv B b)) (g := F0 m pc la ((As.reverse ++ vr a :: st).map (gv B b))) (cells := cells) (slots := slots) (locs := locs) (below := below) (meth := meth) (e := e) (H := H) (C := y.cls) ⟨hx, hb, hml, ho, hts⟩ hM ⟨cb, hts _ hv.1, hts _ hv.2⟩
    ⟨gPr_blind, va_recv hK.1 hP hc he, fun U hU hW => ⟨rfl, by rw [hU]; exact hP, gKK.moved hW hK, by rw [hU]; exact Nat.le_trans hB hS.1⟩⟩ rfl (by simpa using hn) (hl0.1.trans hlen) (by simp [gv]) (groom B b hst) hd ⟨by omega, by omega⟩
  exact G_back hB hr hl0 hS kk
theorem G_callS (X : Cx E κ cc nL own ret d cz sz) {y : MethodName} {bc : ByteArray} {nL' ix n d' mc ms : Nat} {ret' : Option FieldType} {As sk : List gV} {M M1 : gM} {rv : Option gV} (hM : Ctr E y bc nL' ret' d' mc ms As M rv M1) (hw : gCB own ix y bc nL' ret' n) (hv : Cond.static y ∈ gT)
    (hn : As.length = n) (hsk : sk = As.reverse ++ st) (hst : gsz st ≤ 8) (hfr : d' + 1 ≤ d) (hnL : nL' ≤ 21) (hlen : ls.length = nL) (hcz : cells + mc ≤ cz) (hsz : slots + ms ≤ sz) (hd : decode cc pc = .ok (.invokestatic ix, 3)) (kk : G E κ (cells + mc) (slots + ms) (pc + 3) ls (rv.toList ++ st) M1) : G E κ cells slots pc ls sk M := by
  subst hsk
  obtain ⟨l, D, Gc, B, b⟩ := E
  obtain ⟨p, e, R, s, m, args, below, meth, c, Q⟩ := κ
  obtain ⟨hx, hb, hml, ho, hts, hK, hB, -, -, hfr2, hlo, hcz2, hsz2⟩ := X
  obtain ⟨w1, w2, w3, w4⟩ := hw
  intro H locs la hl0 hP hS
  have cb : CallB R s args own ix y bc nL' ret' (gws y bc nL' ret') { frames := d', cells := mc, slots := ms, locals := 40 * d' } mc ms n :=
    callB_of n hts (gws_good w3) rfl rfl rfl (hts _ w2) (hts _ w1) w4 ⟨by show d' + 1 ≤ R.frames; omega, by show 8 + (nL' + 11) + 40 * d' ≤ R.locals; omega⟩
  have hr := va_runS (As := As.map (gv B b)) (rest := st.map (gv B b)) (g := F0 m pc la ((As.reverse ++ st).map (gv B b))) (cells := cells) (slots := slots) (locs := locs) (below := below) (meth := meth) (e := e) (H := H) ⟨hx, hb, hml, ho, hts⟩ hM ⟨cb, hts _ hv⟩
    ⟨gPr_blind, fun U hU hW => ⟨rfl, by rw [hU]; exact hP, gKK.moved hW hK, by rw [hU]; exact Nat.le_trans hB hS.1⟩⟩ rfl (by simpa using hn) (hl0.1.trans hlen) (by simp) (groom B b hst) hd ⟨by omega, by omega⟩
  exact G_back hB hr hl0 hS kk
theorem G_callI (X : Cx E κ cc nL own ret d cz sz) {y : MethodName} {bc : ByteArray} {nL' ix n d' mc ms a : Nat} {As sk : List gV} {M M1 : gM} {rv : Option gV} (hM : Ctr E y bc nL' none d' mc ms (vr a :: As) M rv M1) (hw : gCB own ix y bc nL' none n) (hv : Cond.instanceMethod y ∈ gT) (hy : y.name = "<init>")
    (hn : As.length = n) (hsk : sk = As.reverse ++ vr a :: st) (hst : gsz st ≤ 8) (hfr : d' + 1 ≤ d) (hnL : nL' ≤ 21) (hlen : ls.length = nL) (hcz : cells + mc ≤ cz) (hsz : slots + ms ≤ sz) (hd : decode cc pc = .ok (.invokespecial ix, 3)) (kk : G E κ (cells + mc) (slots + ms) (pc + 3) ls (rv.toList ++ st) M1) : G E κ cells slots pc ls sk M := by
  subst hsk
  obtain ⟨l, D, Gc, B, b⟩ := E
  obtain ⟨p, e, R, s, m, args, below, meth, c, Q⟩ := κ
  obtain ⟨hx, hb, hml, ho, hts, hK, hB, -, -, hfr2, hlo, hcz2, hsz2⟩ := X
  obtain ⟨w1, w2, w3, w4⟩ := hw
  intro H locs la hl0 hP hS
  have cb : CallB R s args own ix y bc nL' none (gws y bc nL' none) { frames := d', cells := mc, slots := ms, locals := 40 * d' } mc ms n :=
    callB_of n hts (gws_good w3) rfl rfl rfl (hts _ w2) (hts _ w1) w4 ⟨by show d' + 1 ≤ R.frames; omega, by show 8 + (nL' + 11) + 40 * d' ≤ R.locals; omega⟩
  have hr := va_runI (b := B + a) (As := As.map (gv B b)) (rest := st.map (gv B b)) (g := F0 m pc la ((As.reverse ++ vr a :: st).map (gv B b))) (cells := cells) (slots := slots) (locs := locs) (below := below) (meth := meth) (e := e) (H := H) ⟨hx, hb, hml, ho, hts⟩ hM ⟨cb, hy, hts _ hv⟩
    ⟨gPr_blind, fun U hU hW => ⟨rfl, by rw [hU]; exact hP, gKK.moved hW hK, by rw [hU]; exact Nat.le_trans hB hS.1⟩⟩ rfl (by simpa using hn) (hl0.1.trans hlen) (by simp [gv]) (groom B b hst) hd ⟨by omega, by omega⟩
  exact G_back hB hr hl0 hS kk
def gNw (E : gEnv) (κ : gCtx) (w : Cond) : Prop := va_Nw w κ.2.2.2.1
theorem G_callIN (X : Cx E κ cc nL own ret d cz sz) {y : MethodName} {bc : ByteArray} {nL' ix n d' mc ms a : Nat} {As sk : List gV} {M M1 : gM} {rv : Option gV} {host : String} (hM : Ctr E y bc nL' none d' mc ms (vr a :: As) M rv M1) (hw : gCN y bc nL' none n) (hNw : gNw E κ (.methodLinkNest own ix y host)) (hv : Cond.instanceMethod y ∈ gT) (hy : y.name = "<init>")
    (hn : As.length = n) (hsk : sk = As.reverse ++ vr a :: st) (hst : gsz st ≤ 8) (hfr : d' + 1 ≤ d) (hnL : nL' ≤ 21) (hlen : ls.length = nL) (hcz : cells + mc ≤ cz) (hsz : slots + ms ≤ sz) (hd : decode cc pc = .ok (.invokespecial ix, 3)) (kk : G E κ (cells + mc) (slots + ms) (pc + 3) ls (rv.toList ++ st) M1) : G E κ cells slots pc ls sk M := by
  subst hsk
  obtain ⟨l, D, Gc, B, b⟩ := E
  obtain ⟨p, e, R, s, m, args, below, meth, c, Q⟩ := κ
  obtain ⟨hx, hb, hml, ho, hts, hK, hB, -, -, hfr2, hlo, hcz2, hsz2⟩ := X
  obtain ⟨w2, w3, w4⟩ := hw
  intro H locs la hl0 hP hS
  have cb : va_CN R s args own ix y host bc nL' none (gws y bc nL' none) { frames := d', cells := mc, slots := ms, locals := 40 * d' } mc ms n :=
    va_cnB n hts (gws_good w3) rfl rfl rfl hNw (hts _ w2) w4 ⟨by show d' + 1 ≤ R.frames; omega, by show 8 + (nL' + 11) + 40 * d' ≤ R.locals; omega⟩
  have hr := va_runIN (b := B + a) (As := As.map (gv B b)) (rest := st.map (gv B b)) (g := F0 m pc la ((As.reverse ++ vr a :: st).map (gv B b))) (cells := cells) (slots := slots) (locs := locs) (below := below) (meth := meth) (e := e) (H := H) ⟨hx, hb, hml, ho, hts⟩ hM ⟨cb, hy, hts _ hv⟩
    ⟨gPr_blind, fun U hU hW => ⟨rfl, by rw [hU]; exact hP, gKK.moved hW hK, by rw [hU]; exact Nat.le_trans hB hS.1⟩⟩ rfl (by simpa using hn) (hl0.1.trans hlen) (by simp [gv]) (groom B b hst) hd ⟨by omega, by omega⟩
  exact G_back hB hr hl0 hS kk
theorem G_objInit (X : Cx E κ cc nL own ret d cz sz) {ix : Nat} {a : Nat} {M : gM} (h1 : Cond.methodLink own ix Lib.objectInit ∈ gT) (h2 : Cond.instanceMethod Lib.objectInit ∈ gT) (h3 : Cond.code Lib.objectInit ⟨#[0xb1]⟩ 1 none ∈ gT) (hst : gsz st ≤ 8) (hfr : 1 ≤ d) (hlen : ls.length = nL) (hd : decode cc pc = .ok (.invokespecial ix, 3)) (kk : G E κ cells slots (pc + 3) ls st M) : G E κ cells slots pc ls (vr a :: st) M := by
  obtain ⟨l, D, Gc, B, b⟩ := E
  obtain ⟨p, e, R, s, m, args, below, meth, c, Q⟩ := κ
  obtain ⟨hx, hb, hml, ho, hts, hK, hB, -, -, hfr2, hlo, hcz2, hsz2⟩ := X
  intro H locs la hl0 hP hS
  refine W.objInit hx hb ho (hts _ h1) (hts _ h2) (hts _ h3) (g := F0 m pc la ((vr a :: st).map (gv B b))) rfl (by rw [hml]; exact hl0.1.trans hlen) rfl hd (by omega) ?_ (kk H locs la hl0 hP hS)
  have := groom B b (m := m) (pc := pc) (la := la) (s0 := (vr a :: st).map (gv B b)) hst
  omega
theorem G_iret (X : Cx E κ cc nL own ret d cz sz) {x : Int32} {M : gM} {ty : FieldType} (hR : gRt E κ cells slots (some (vi x)) M) (hret : ret = some ty) (hn : narrow ty (.int x) = .int x) (hd : decode cc pc = .ok (.ireturn, 1)) : G E κ cells slots pc ls [vi x] M := by
  subst hret
  obtain ⟨l, D, Gc, B, b⟩ := E
  obtain ⟨p, e, R, s, m, args, below, meth, c, Q⟩ := κ
  obtain ⟨hx, hb, hml, ho, hts, hK, hB, hlk, hr, -⟩ := X
  have hR : Q = _ := hR
  subst hR
  intro H locs la hl0 hP hS
  exact W.zret hx hb hr hn (fun t ht hW => ⟨rfl, by rw [ht]; exact hP, hS.F ht⟩) hS.2.2 hd hlk
theorem G_lret (X : Cx E κ cc nL own ret d cz sz) {x : Int64} {M : gM} (hR : gRt E κ cells slots (some (vl x)) M) (hret : ret = some .long) (hd : decode cc pc = .ok (.lreturn, 1)) : G E κ cells slots pc ls [vl x] M := by
  subst hret
  obtain ⟨l, D, Gc, B, b⟩ := E
  obtain ⟨p, e, R, s, m, args, below, meth, c, Q⟩ := κ
  obtain ⟨hx, hb, hml, ho, hts, hK, hB, hlk, hr, -⟩ := X
  have hR : Q = _ := hR
  subst hR
  intro H locs la hl0 hP hS
  exact W.lret hx hb hr (fun t ht hW => ⟨rfl, by rw [ht]; exact hP, hS.F ht⟩) hS.2.2 hd hlk
theorem G_vret (X : Cx E κ cc nL own ret d cz sz) {M : gM} (hR : gRt E κ cells slots none M) (hret : ret = none) (hd : decode cc pc = .ok (.return_, 1)) : G E κ cells slots pc ls [] M := by
  subst hret
  obtain ⟨l, D, Gc, B, b⟩ := E
  obtain ⟨p, e, R, s, m, args, below, meth, c, Q⟩ := κ
  obtain ⟨hx, hb, hml, ho, hts, hK, hB, hlk, hr, -⟩ := X
  have hR : Q = _ := hR
  subst hR
  intro H locs la hl0 hP hS
  exact W.vret hx hb hr (fun t ht hW => ⟨rfl, by rw [ht]; exact hP, hS.F ht⟩) hS.2.2 hd hlk
theorem G_aret (X : Cx E κ cc nL own ret d cz sz) {a : Nat} {M : gM} {C : String} (hR : gRt E κ cells slots (some (vr a)) M) (hret : ret = some (.object C)) (hd : decode cc pc = .ok (.areturn, 1)) : G E κ cells slots pc ls [vr a] M := by
  subst hret
  obtain ⟨l, D, Gc, B, b⟩ := E
  obtain ⟨p, e, R, s, m, args, below, meth, c, Q⟩ := κ
  obtain ⟨hx, hb, hml, ho, hts, hK, hB, hlk, hr, -⟩ := X
  have hR : Q = _ := hR
  subst hR
  intro H locs la hl0 hP hS
  exact W.aret hx hb hr (Or.inl ⟨_, rfl⟩) (Or.inr ⟨_, rfl⟩) (fun t ht hW => ⟨rfl, by rw [ht]; exact hP, hS.F ht⟩) hS.2.2 hd hlk
/-- the contract of a static method that reads the script -/
def CtrX (E : gEnv) (L : Nat) (xs : Nat → Int32) (y : MethodName) (bc : ByteArray) (nL : Nat) (ret : Option FieldType) (d mc ms : Nat) (av : List gV) (M : gM) (rv : Option gV) (M' : gM) : Prop := match E with
  | (l, D, Gc, B, b) => Met l y (gws y bc nL ret) { frames := d, cells := mc, slots := ms, locals := 40 * d } (va_Pc (av.map (gv B b)) (fun U => gPr D Gc B M U ∧ va_X b L xs U U.heap ∧ b < B ∧ b < U.heap.size)) (gQo D Gc B b rv M') mc ms (fun q => B ≤ q)
theorem CtrX.mk {E : gEnv} {L : Nat} {xs : Nat → Int32} {y : MethodName} {bc : ByteArray} {nL d mc ms : Nat} {ret : Option FieldType} {av : List gV} {M M' : gM} {rv : Option gV} (hy : plainFor y = true) (hc : av.all c1 = true) (hn : av.length ≤ nL)
    (h : ∀ κ : gCtx, Cx E κ bc nL y.cls ret d mc ms → gRt E κ mc ms rv M' → gX E κ L xs → G E κ 0 0 0 (gent nL av) [] M) : CtrX E L xs y bc nL ret d mc ms av M rv M' := by
  obtain ⟨l, D, Gc, B, b⟩ := E
  refine va_MetF (cc := bc) (maxL := nL) (ret := ret) hy rfl ?_
  intro p e s m args below meth c s₁ Bd hml hv
  obtain ⟨rfl, ⟨hP, hKK, hB⟩, hXs⟩ := hv
  have hts : ∀ w ∈ gT, w.before (av.map (gv B b)).toArray s = true := fun w hw => atoms_spec (ws := gws y bc nL ret) Bd.pre w (List.mem_cons_of_mem _ hw)
  have hown : s.vm.findClass y.cls = some m.cls := findClass_of_methodNamed Bd.named
  have h1 := h (p, e, (headSpec (gws y bc nL ret) { frames := d, cells := mc, slots := ms, locals := 40 * d }).room, s, m, (av.map (gv B b)).toArray, below, meth, c, MQ below (gQo D Gc B b rv M') (av.map (gv B b)).toArray s mc ms (fun q => B ≤ q))
    ⟨Bd.exec, Bd.bytes, hml, hown, hts, hKK, hB, Bd.notSynchronized, Bd.returns, Nat.le_refl _, Nat.le_refl _, Nat.le_refl _, Nat.le_refl _⟩ rfl hXs
  rw [lg_entry_eq]
  exact h1 s.heap [] _ (gLk_entry hc hn) hP va_S.rf
theorem G_callX (X : Cx E κ cc nL own ret d cz sz) {L : Nat} {xs : Nat → Int32} (hX : gX E κ L xs) {y : MethodName} {bc : ByteArray} {nL' ix n d' mc ms : Nat} {ret' : Option FieldType} {As sk : List gV} {M M1 : gM} {rv : Option gV} (hM : CtrX E L xs y bc nL' ret' d' mc ms As M rv M1) (hw : gCB own ix y bc nL' ret' n) (hv : Cond.static y ∈ gT)
    (hn : As.length = n) (hsk : sk = As.reverse ++ st) (hst : gsz st ≤ 8) (hfr : d' + 1 ≤ d) (hnL : nL' ≤ 21) (hlen : ls.length = nL) (hcz : cells + mc ≤ cz) (hsz : slots + ms ≤ sz) (hd : decode cc pc = .ok (.invokestatic ix, 3)) (kk : G E κ (cells + mc) (slots + ms) (pc + 3) ls (rv.toList ++ st) M1) : G E κ cells slots pc ls sk M := by
  subst hsk
  obtain ⟨l, D, Gc, B, b⟩ := E
  obtain ⟨p, e, R, s, m, args, below, meth, c, Q⟩ := κ
  obtain ⟨hx, hb, hml, ho, hts, hK, hB, -, -, hfr2, hlo, hcz2, hsz2⟩ := X
  obtain ⟨w1, w2, w3, w4⟩ := hw
  obtain ⟨hX1, hX2, hX3⟩ := hX
  intro H locs la hl0 hP hS
  have cb : CallB R s args own ix y bc nL' ret' (gws y bc nL' ret') { frames := d', cells := mc, slots := ms, locals := 40 * d' } mc ms n :=
    callB_of n hts (gws_good w3) rfl rfl rfl (hts _ w2) (hts _ w1) w4 ⟨by show d' + 1 ≤ R.frames; omega, by show 8 + (nL' + 11) + 40 * d' ≤ R.locals; omega⟩
  have hr := va_runS (As := As.map (gv B b)) (rest := st.map (gv B b)) (g := F0 m pc la ((As.reverse ++ st).map (gv B b))) (cells := cells) (slots := slots) (locs := locs) (below := below) (meth := meth) (e := e) (H := H) ⟨hx, hb, hml, ho, hts⟩ hM ⟨cb, hts _ hv⟩
    ⟨fun a U g mk q => ⟨q.1, ⟨q.2.1.1, gKK.same (s := U) (U := U.calling g mk a) rfl q.2.1.2.1, q.2.1.2.2⟩, va_X.moved (Vm.Alike.refl _) q.2.2.1, q.2.2.2⟩, fun U hU hW => ⟨rfl, ⟨by rw [hU]; exact hP, gKK.moved hW hK, by rw [hU]; exact Nat.le_trans hB hS.1⟩, by rw [hU]; exact va_X.moved hW.alike (hX1.kept (hS.2.1 b hX3 (Nat.not_le.mpr hX2))), hX2, by rw [hU]; exact Nat.lt_of_lt_of_le hX3 hS.1⟩⟩ rfl (by simpa using hn) (hl0.1.trans hlen) (by simp) (groom B b hst) hd ⟨by omega, by omega⟩
  exact G_back hB hr hl0 hS kk
end GMem
