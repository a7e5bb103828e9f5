theorem im_obj : Cond.instanceMethod Lib.objectInit ∈ gT := gT_t1 16 (by decide +kernel) rfl
theorem cd_obj : Cond.code Lib.objectInit ⟨#[0xb1]⟩ 1 none ∈ gT := gT_t1 17 (by decide +kernel) rfl
theorem ml_X5_1 : Cond.methodLink RX5 1 Lib.objectInit ∈ gT := gT_t1 15 (by decide +kernel) rfl
theorem cl_X5_9 : Cond.classLink RX5 9 RX0 ∈ gT := gT_t1 18 (by decide +kernel) rfl
theorem cl_X5_15 : Cond.classLink RX5 15 RX3 ∈ gT := gT_t1 20 (by decide +kernel) rfl
theorem is_X3 : Cond.instantiable RX3 2 ∈ gT := gT_t1 21 (by decide +kernel) rfl
theorem cw_X5_15 : gCl RX5 15 3 := ⟨RX3, TX3, 2, tyX3, rfl, rfl, ws_inX3, tyX3_ok, cl_X5_15, is_X3, in_X3, by decide +kernel⟩
theorem cd_X3_init : Cond.code yX3_init cX3_init 2 none ∈ gT := gT_t1 24 (by decide +kernel) rfl
theorem cn_X3_init : gCN yX3_init cX3_init 2 none 0 := ⟨in_X3, cd_X3_init, ⟨by decide +kernel, by decide +kernel, by decide +kernel⟩⟩
theorem im_X3_init : Cond.instanceMethod yX3_init ∈ gT := gT_t1 23 (by decide +kernel) rfl
theorem ml_X3_3 : Cond.methodLink RX3 3 Lib.objectInit ∈ gT := gT_t1 25 (by decide +kernel) rfl
theorem cl_X3_9 : Cond.classLink RX3 9 RX1 ∈ gT := gT_t1 26 (by decide +kernel) rfl
theorem is_X1 : Cond.instantiable RX1 3 ∈ gT := gT_t1 28 (by decide +kernel) rfl
theorem in_X1 : Cond.initialized RX1 ∈ gT := gT_t1 3 (by decide +kernel) rfl
theorem cw_X3_9 : gCl RX3 9 1 := ⟨RX1, TX1, 3, tyX1, rfl, rfl, ws_inX1, tyX1_ok, cl_X3_9, is_X1, in_X1, by decide +kernel⟩
theorem cd_X1_init : Cond.code yX1_init cX1_init 1 none ∈ gT := gT_t1 31 (by decide +kernel) rfl
theorem cn_X1_init : gCN yX1_init cX1_init 1 none 0 := ⟨in_X1, cd_X1_init, ⟨by decide +kernel, by decide +kernel, by decide +kernel⟩⟩
theorem im_X1_init : Cond.instanceMethod yX1_init ∈ gT := gT_t1 30 (by decide +kernel) rfl
theorem ml_X5_17 : Cond.methodLink RX5 17 yX3_init ∈ gT := gT_t1 22 (by decide +kernel) rfl
theorem cb_X5_17 : gCB RX5 17 yX3_init cX3_init 2 none 0 := ⟨ml_X5_17, cn_X3_init.1, cn_X3_init.2.1, cn_X3_init.2.2⟩
theorem cl_X5_22 : Cond.classLink RX5 22 RX2 ∈ gT := gT_t1 70 (by decide +kernel) rfl
theorem is_X2 : Cond.instantiable RX2 10 ∈ gT := gT_t1 71 (by decide +kernel) rfl
theorem cw_X5_22 : gCl RX5 22 2 := ⟨RX2, TX2, 10, tyX2, rfl, rfl, ws_inX2, tyX2_ok, cl_X5_22, is_X2, in_X2, by decide +kernel⟩
theorem cd_X2_init : Cond.code yX2_init cX2_init 2 none ∈ gT := gT_t1 74 (by decide +kernel) rfl
theorem cn_X2_init : gCN yX2_init cX2_init 2 none 0 := ⟨in_X2, cd_X2_init, ⟨by decide +kernel, by decide +kernel, by decide +kernel⟩⟩
theorem im_X2_init : Cond.instanceMethod yX2_init ∈ gT := gT_t1 73 (by decide +kernel) rfl
theorem ml_X2_3 : Cond.methodLink RX2 3 Lib.objectInit ∈ gT := gT_t1 75 (by decide +kernel) rfl
theorem ac_char : Cond.arrayClass .char ∈ gT := gT_t1 113 (by decide +kernel) rfl
theorem cl_X2_15 : Cond.classLink RX2 15 RX0 ∈ gT := gT_t1 76 (by decide +kernel) rfl
theorem is_X0 : Cond.instantiable RX0 2 ∈ gT := gT_t1 34 (by decide +kernel) rfl
theorem cw_X2_15 : gCl RX2 15 0 := ⟨RX0, TX0, 2, tyX0, rfl, rfl, ws_inX0, tyX0_ok, cl_X2_15, is_X0, in_X0, by decide +kernel⟩
theorem cd_X0_init : Cond.code yX0_init cX0_init 1 none ∈ gT := gT_t1 37 (by decide +kernel) rfl
theorem cn_X0_init : gCN yX0_init cX0_init 1 none 0 := ⟨in_X0, cd_X0_init, ⟨by decide +kernel, by decide +kernel, by decide +kernel⟩⟩
theorem im_X0_init : Cond.instanceMethod yX0_init ∈ gT := gT_t1 36 (by decide +kernel) rfl
theorem ml_X5_24 : Cond.methodLink RX5 24 yX2_init ∈ gT := gT_t1 72 (by decide +kernel) rfl
theorem cb_X5_24 : gCB RX5 24 yX2_init cX2_init 2 none 0 := ⟨ml_X5_24, cn_X2_init.1, cn_X2_init.2.1, cn_X2_init.2.2⟩
theorem cw_X5_9 : gCl RX5 9 0 := ⟨RX0, TX0, 2, tyX0, rfl, rfl, ws_inX0, tyX0_ok, cl_X5_9, is_X0, in_X0, by decide +kernel⟩
theorem fl_X1_10 : Cond.fieldLink RX1 10 RX1 "before" "LPackedBits$Bits;" ∈ gT := gT_t1 48 (by decide +kernel) rfl
theorem fd_X1_10 : gFd RX1 10 1 0 true (.object "PackedBits$Bits") := ⟨RX1, TX1, 3, tyX1, rfl, rfl, ws_inX1, by decide, fl_X1_10, rfl, rfl, by decide +kernel, tyX1_ok, nmX1⟩
theorem ac_int : Cond.arrayClass .int ∈ gT := gT_t1 47 (by decide +kernel) rfl
theorem ml_X0_3 : Cond.methodLink RX0 3 Lib.objectInit ∈ gT := gT_t1 38 (by decide +kernel) rfl
theorem ml_X1_1 : Cond.methodLink RX1 1 Lib.objectInit ∈ gT := gT_t1 32 (by decide +kernel) rfl
theorem cl_X1_7 : Cond.classLink RX1 7 RX0 ∈ gT := gT_t1 33 (by decide +kernel) rfl
theorem cw_X1_7 : gCl RX1 7 0 := ⟨RX0, TX0, 2, tyX0, rfl, rfl, ws_inX0, tyX0_ok, cl_X1_7, is_X0, in_X0, by decide +kernel⟩
/-! THE CONSTRUCTORS: the memory is known cell by cell: the first n of SH's shapes, all numbers 0, the first m of the stores of cells in RS -/
def RS : List (Nat × Nat × Nat) := [(0, 0, 1), (2, 0, 3), (5, 0, 6), (4, 0, 5), (3, 0, 4), (8, 0, 9), (7, 0, 8), (3, 1, 7), (11, 0, 12), (10, 0, 11), (3, 2, 10), (14, 0, 15), (13, 0, 14), (3, 3, 13), (17, 0, 18), (16, 0, 17), (3, 4, 16), (0, 2, 2), (19, 0, 20), (19, 5, 21), (19, 6, 22), (23, 0, 24), (21, 0, 23), (25, 0, 26), (21, 1, 25), (27, 0, 28), (21, 2, 27), (29, 0, 30), (21, 3, 29), (31, 0, 32), (21, 4, 31), (33, 0, 34), (21, 5, 33), (35, 0, 36), (21, 6, 35), (37, 0, 38), (21, 7, 37), (39, 0, 40), (21, 8, 39), (41, 0, 42), (21, 9, 41), (43, 0, 44), (21, 10, 43), (45, 0, 46), (21, 11, 45), (47, 0, 48), (21, 12, 47), (49, 0, 50), (21, 13, 49), (51, 0, 52), (21, 14, 51), (53, 0, 54), (21, 15, 53), (55, 0, 56), (21, 16, 55), (57, 0, 58), (21, 17, 57), (59, 0, 60), (21, 18, 59), (0, 3, 19), (61, 0, 62), (0, 4, 61), (63, 0, 64), (1, 0, 63), (65, 0, 66), (1, 1, 65), (67, 0, 68), (1, 2, 67), (69, 0, 70), (1, 3, 69), (71, 0, 72), (1, 4, 71), (73, 0, 74), (1, 5, 73), (75, 0, 76), (1, 6, 75), (77, 0, 78), (1, 7, 77)]
def PP (m : Nat) : gP := (RS.take m).foldl (fun P q => uP P q.1 q.2.1 (some q.2.2)) (fun _ _ => none)
def Z0 : gI := fun _ _ => 0
abbrev cm (n m : Nat) : gM := (SH.take n, Z0, PP m)
def PPf (m n : Nat) : Bool := (RS.take m).all (fun q => q.1 != n)
theorem PP_s {m a k r : Nat} (h : RS[m]? = some (a, k, r)) : PP (m + 1) = uP (PP m) a k (some r) := by
  unfold PP
  rw [List.take_succ, h, List.foldl_append]
  rfl
theorem PP_fold (n : Nat) : ∀ (L : List (Nat × Nat × Nat)) (P : gP), L.all (fun q => q.1 != n) = true → (L.foldl (fun P q => uP P q.1 q.2.1 (some q.2.2)) P) n = P n
  | [], _, _ => rfl
  | q :: r, P, h => by
    simp only [List.all_cons, Bool.and_eq_true, bne_iff_ne, ne_eq] at h
    rw [List.foldl_cons, PP_fold n r _ h.2]
    simp [uP, Ne.symm h.1]
theorem PP_z {m n : Nat} (h : PPf m n = true) : uZP (PP m) n = PP m := by
  have e : PP m n = fun _ => none := PP_fold n _ _ h
  funext c
  by_cases hc : c = n
  · subst hc; simp [uZP, uQ, e]
  · simp [uZP, uQ, hc]
theorem Z0_z (n : Nat) : uZ Z0 n = Z0 := by
  funext c
  by_cases hc : c = n
  · subst hc; funext j; simp [uZ, uC, Z0]
  · simp [uZ, uC, hc]
theorem tk {a n : Nat} {sh : Nat × Nat} (h : SH[a]? = some sh) (hlt : a < n) : (SH.take n)[a]? = some sh := by
  rw [List.getElem?_take, if_pos hlt]
  exact h
theorem tk_len {n : Nat} {sh : Nat × Nat} (h : SH[n]? = some sh) : (SH.take n).length = n := by
  have := (List.getElem?_eq_some_iff.mp h).1
  simp; omega
theorem tk_s {n : Nat} {sh : Nat × Nat} (h : SH[n]? = some sh) : SH.take n ++ [sh] = SH.take (n + 1) := by
  rw [List.take_succ, h]
  rfl
theorem cmm_new {n m : Nat} {sh : Nat × Nat} (h : SH[n]? = some sh) (hf : PPf m n = true) : (SH.take n ++ [sh], uZ Z0 (SH.take n).length, uZP (PP m) (SH.take n).length) = cm (n + 1) m := by
  rw [tk_len h, tk_s h, Z0_z, PP_z hf]
theorem gSz_s {E : gEnv} {κ : gCtx} {c n : Nat} (k : Nat) (h : gSz E κ c n) : gSz E κ (c + k) (n + k) := by
  unfold gSz at h ⊢
  omega
def CtrN (E : gEnv) (y : MethodName) (bc : ByteArray) (nL : Nat) (ret : Option FieldType) (d mc ms : Nat) (av : List gV) (M : gM) (rv : Option gV) (M' : gM) : Prop := match E with
  | (l, D, Gc, B, b) => Met l y (gws y bc nL ret) { frames := d, cells := mc, slots := ms, locals := 40 * d } (va_Pc (av.map (gv B b)) (fun U => gPr D Gc B M U ∧ U.heap.size ≤ B + M.1.length)) (gQo D Gc B b rv M') mc ms (fun q => B ≤ q)
theorem gW_size {D : va_G} {Gc : Nat → ClassId} {B : Nat} {M : gM} {H : Heap} (hP : va_P D vwCl (gW Gc B M) H) (hn : 0 < M.1.length) : B + M.1.length ≤ H.size := by
  obtain ⟨sh, hsh⟩ : ∃ sh, M.1[M.1.length - 1]? = some sh := ⟨_, List.getElem?_eq_getElem (by omega)⟩
  have h := (hP _ _ (gW_at (Gc := Gc) (B := B) hsh)).lt
  have h' : B + (M.1.length - 1) < H.size := h
  omega
theorem CtrN.mk {E : gEnv} {y : MethodName} {bc : ByteArray} {nL d mc ms : Nat} {ret : Option FieldType} {av : List gV} {M M' : gM} {rv : Option gV} (hy : plainFor y = true) (hc : av.all c1 = true) (hn : av.length ≤ nL) (hpos : 0 < M.1.length)
    (h : ∀ κ : gCtx, Cx E κ bc nL y.cls ret d mc ms → gRt E κ mc ms rv M' → κ.2.2.2.2.2.2.2.1.name = y.name → gSz E κ 0 M.1.length → G E κ 0 0 0 (gent nL av) [] M) : CtrN E y bc nL ret d mc ms av M rv M' := by
  obtain ⟨l, D, Gc, B, b⟩ := E
  refine va_MetF (cc := bc) (maxL := nL) (ret := ret) hy rfl ?_
  intro p e s m args below meth c s₁ Bd hml hv
  obtain ⟨rfl, ⟨hP, hKK, hB⟩, hsz⟩ := hv
  have hts : ∀ w ∈ gT, w.before (av.map (gv B b)).toArray s = true := fun w hw => atoms_spec (ws := gws y bc nL ret) Bd.pre w (List.mem_cons_of_mem _ hw)
  have hown : s.vm.findClass y.cls = some m.cls := findClass_of_methodNamed Bd.named
  have hnm : meth.name = y.name := (name_of_methodNamed Bd.named Bd.method).1
  have hlow := gW_size hP hpos
  have h1 := h (p, e, (headSpec (gws y bc nL ret) { frames := d, cells := mc, slots := ms, locals := 40 * d }).room, s, m, (av.map (gv B b)).toArray, below, meth, c, MQ below (gQo D Gc B b rv M') (av.map (gv B b)).toArray s mc ms (fun q => B ≤ q))
    ⟨Bd.exec, Bd.bytes, hml, hown, hts, hKK, hB, Bd.notSynchronized, Bd.returns, Nat.le_refl _, Nat.le_refl _, Nat.le_refl _, Nat.le_refl _⟩ rfl hnm (by show s.heap.size + 0 = B + M.1.length; omega)
  rw [lg_entry_eq]
  exact h1 s.heap [] _ (gLk_entry hc hn) hP va_S.rf
section GCtor
variable {E : gEnv} {κ : gCtx} {cc : ByteArray} {nL d cz sz cells slots pc n m : Nat} {own : String} {ret : Option FieldType} {ls : List (Option gV)} {st : List gV}
theorem C_new (X : Cx E κ cc nL own ret d cz sz) {ix ci : Nat} (hcl : gCl own ix ci) (hZ : gSz E κ cells n) (hn : SH[n]? = some (ci, 0)) (hf : PPf m n = true) (hcz : cells + 1 ≤ cz) (hsz : slots + gN ci ≤ sz) (hd : decode cc pc = .ok (.new ix, 3)) (kk : G E κ (cells + 1) (slots + gN ci) (pc + 3) ls (vr n :: st) (cm (n + 1) m)) : G E κ cells slots pc ls st (cm n m) := by
  refine G_new X hcl (by rw [tk_len hn]; exact hZ) hcz hsz hd ?_
  rw [cmm_new hn hf, tk_len hn]
  exact kk
theorem C_newa_int (X : Cx E κ cc nL own ret d cz sz) {k : Int32} {N : Nat} (hw : Cond.arrayClass .int ∈ gT) (h0 : ¬ k < 0) (hn : SH[n]? = some (10, N)) (hN : k.toNatClampNeg = N) (hby : N ≤ 100000) (hZ : gSz E κ cells n) (hf : PPf m n = true) (hcz : cells + 1 ≤ cz) (hsz : slots + N ≤ sz) (hd : decode cc pc = .ok (.newarray .int, 2)) (kk : G E κ (cells + 1) (slots + N) (pc + 2) ls (vr n :: st) (cm (n + 1) m)) : G E κ cells slots pc ls (vi k :: st) (cm n m) := by
  refine G_newa_int X hw h0 hN hby (by rw [tk_len hn]; exact hZ) hcz hsz hd ?_
  rw [cmm_new hn hf, tk_len hn]
  exact kk
theorem C_newa_char (X : Cx E κ cc nL own ret d cz sz) {k : Int32} {N : Nat} (hw : Cond.arrayClass .char ∈ gT) (h0 : ¬ k < 0) (hn : SH[n]? = some (11, N)) (hN : k.toNatClampNeg = N) (hby : N ≤ 100000) (hZ : gSz E κ cells n) (hf : PPf m n = true) (hcz : cells + 1 ≤ cz) (hsz : slots + N ≤ sz) (hd : decode cc pc = .ok (.newarray .char, 2)) (kk : G E κ (cells + 1) (slots + N) (pc + 2) ls (vr n :: st) (cm (n + 1) m)) : G E κ cells slots pc ls (vi k :: st) (cm n m) := by
  refine G_newa_char X hw h0 hN hby (by rw [tk_len hn]; exact hZ) hcz hsz hd ?_
  rw [cmm_new hn hf, tk_len hn]
  exact kk
theorem C_newq (X : Cx E κ cc nL own ret d cz sz) {ix kd : Nat} {k : Int32} {N : Nat} (hkd : kd = 12 ∨ kd = 13) (hw : Cond.classLink own ix (if kd = 12 then RX0 else RX1) ∈ gT) (h0 : ¬ k < 0) (hn : SH[n]? = some (kd, N)) (hN : k.toNatClampNeg = N) (hby : N ≤ 100000) (hZ : gSz E κ cells n) (hf : PPf m n = true) (hcz : cells + 1 ≤ cz) (hsz : slots + N ≤ sz) (hd : decode cc pc = .ok (.anewarray ix, 3)) (kk : G E κ (cells + 1) (slots + N) (pc + 3) ls (vr n :: st) (cm (n + 1) m)) : G E κ cells slots pc ls (vi k :: st) (cm n m) := by
  refine G_newq X hkd hw h0 hN hby (by rw [tk_len hn]; exact hZ) hcz hsz hd ?_
  rw [cmm_new hn hf, tk_len hn]
  exact kk
theorem C_putF (X : Cx E κ cc nL own ret d cz sz) {ix ci k a r : Nat} {ty : FieldType} (hF : gFd own ix ci k true ty) (hO : ∀ q : vw_C, vwCl[ci]? = some q → q.1 = own) (hr : gR ci k = true) (hsh : SH[a]? = some (ci, 0)) (hlt : a < n) (hn : ∀ q, narrow ty (.ref q) = .ref q) (hf : ∀ q, fits ty (.ref q) = true) (hnm : κ.2.2.2.2.2.2.2.1.name = "<init>") (hRS : RS[m]? = some (a, k, r)) (hd : decode cc pc = .ok (.putfield ix, 3)) (kk : G E κ cells slots (pc + 3) ls st (cm n (m + 1))) : G E κ cells slots pc ls (vr r :: vr a :: st) (cm n m) := by
  refine G_putF X hF hO hr (tk hsh hlt) hn hf hnm hd ?_
  rw [cm, PP_s hRS] at kk
  exact kk
theorem C_putR (X : Cx E κ cc nL own ret d cz sz) {ix ci k a r : Nat} {ty : FieldType} (hF : gFd own ix ci k false ty) (hr : gR ci k = true) (hsh : SH[a]? = some (ci, 0)) (hlt : a < n) (hn : ∀ q, narrow ty (.ref q) = .ref q) (hf : ∀ q, fits ty (.ref q) = true) (hRS : RS[m]? = some (a, k, r)) (hd : decode cc pc = .ok (.putfield ix, 3)) (kk : G E κ cells slots (pc + 3) ls st (cm n (m + 1))) : G E κ cells slots pc ls (vr r :: vr a :: st) (cm n m) := by
  refine G_putR X hF hr (tk hsh hlt) hn hf hd ?_
  rw [cm, PP_s hRS] at kk
  exact kk
theorem C_aast (X : Cx E κ cc nL own ret d cz sz) {a N kd r j : Nat} {i : Int32} (hsh : SH[a]? = some (kd, N)) (hkd : kd = 12 ∨ kd = 13) (hr : SH[r]? = some (kd - 12, 0)) (ha : a < n) (hrn : r < n) (hin : ib i N = true) (hj : i.toNatClampNeg = j) (hRS : RS[m]? = some (a, j, r)) (hd : decode cc pc = .ok (.aastore, 1)) (kk : G E κ cells slots (pc + 1) ls st (cm n (m + 1))) : G E κ cells slots pc ls (vr r :: vi i :: vr a :: st) (cm n m) := by
  refine G_aast X (tk hsh ha) hkd (tk hr hrn) (ib_in hin) hd ?_
  rw [cm, PP_s hRS] at kk
  rw [hj]
  exact kk
theorem C_callIN (X : Cx E κ cc nL own ret d cz sz) {y : MethodName} {bc : ByteArray} {nL' ix k d' mc ms a : Nat} {As sk : List gV} {M M1 : gM} {rv : Option gV} {host : String} (hM : CtrN E y bc nL' none d' mc ms (vr a :: As) M rv M1) (hw : gCN y bc nL' none k) (hNw : gNw E κ (.methodLinkNest own ix y host)) (hv : Cond.instanceMethod y ∈ gT) (hy : y.name = "<init>")
    (hn : As.length = k) (hsk : sk = As.reverse ++ vr a :: st) (hst : gsz st ≤ 8) (hfr : d' + 1 ≤ d) (hnL : nL' ≤ 21) (hlen : ls.length = nL) (hcz : cells + mc ≤ cz) (hsz : slots + ms ≤ sz) (hZ : gSz E κ cells n) (hnM : n ≤ M.1.length) (hd : decode cc pc = .ok (.invokespecial ix, 3)) (kk : G E κ (cells + mc) (slots + ms) (pc + 3) ls (rv.toList ++ st) M1) : G E κ cells slots pc ls sk M := by
  subst hsk
  obtain ⟨l, D, Gc, B, b⟩ := E
  obtain ⟨p, e, R, s, m, args, below, meth, c, Q⟩ := κ
  obtain ⟨hx, hb, hml, ho, hts, hK, hB, -, -, hfr2, hlo, hcz2, hsz2⟩ := X
  obtain ⟨w2, w3, w4⟩ := hw
  have hZ : s.heap.size + cells = B + n := hZ
  intro H locs la hl0 hP hS
  refine W_sz fun hz => ?_
  have cb : va_CN R s args own ix y host bc nL' none (gws y bc nL' none) { frames := d', cells := mc, slots := ms, locals := 40 * d' } mc ms k :=
    va_cnB k hts (gws_good w3) rfl rfl rfl hNw (hts _ w2) w4 ⟨by show d' + 1 ≤ R.frames; omega, by show 8 + (nL' + 11) + 40 * d' ≤ R.locals; omega⟩
  have hr := va_runIN (b := B + a) (As := As.map (gv B b)) (rest := st.map (gv B b)) (g := F0 m pc la ((As.reverse ++ vr a :: st).map (gv B b))) (cells := cells) (slots := slots) (locs := locs) (below := below) (meth := meth) (e := e) (H := H) ⟨hx, hb, hml, ho, hts⟩ hM ⟨cb, hy, hts _ hv⟩
    ⟨fun a U g mk q => ⟨q.1, ⟨q.2.1.1, gKK.same (s := U) (U := U.calling g mk a) rfl q.2.1.2.1, q.2.1.2.2⟩, q.2.2⟩, fun U hU hW => ⟨rfl, ⟨by rw [hU]; exact hP, gKK.moved hW hK, by rw [hU]; exact Nat.le_trans hB hS.1⟩, by rw [hU]; omega⟩⟩ rfl (by simpa using hn) (hl0.1.trans hlen) (by simp [gv]) (groom B b hst) hd ⟨by omega, by omega⟩
  exact G_back hB hr hl0 hS kk
theorem C_callI (X : Cx E κ cc nL own ret d cz sz) {y : MethodName} {bc : ByteArray} {nL' ix k d' mc ms a : Nat} {As sk : List gV} {M M1 : gM} {rv : Option gV} (hM : CtrN E y bc nL' none d' mc ms (vr a :: As) M rv M1) (hw : gCB own ix y bc nL' none k) (hv : Cond.instanceMethod y ∈ gT) (hy : y.name = "<init>")
    (hn : As.length = k) (hsk : sk = As.reverse ++ vr a :: st) (hst : gsz st ≤ 8) (hfr : d' + 1 ≤ d) (hnL : nL' ≤ 21) (hlen : ls.length = nL) (hcz : cells + mc ≤ cz) (hsz : slots + ms ≤ sz) (hZ : gSz E κ cells n) (hnM : n ≤ M.1.length) (hd : decode cc pc = .ok (.invokespecial ix, 3)) (kk : G E κ (cells + mc) (slots + ms) (pc + 3) ls (rv.toList ++ st) M1) : G E κ cells slots pc ls sk M := by
  subst hsk
  obtain ⟨l, D, Gc, B, b⟩ := E
  obtain ⟨p, e, R, s, m, args, below, meth, c, Q⟩ := κ
  obtain ⟨hx, hb, hml, ho, hts, hK, hB, -, -, hfr2, hlo, hcz2, hsz2⟩ := X
  obtain ⟨w1, w2, w3, w4⟩ := hw
  have hZ : s.heap.size + cells = B + n := hZ
  intro H locs la hl0 hP hS
  refine W_sz fun hz => ?_
  have cb : CallB R s args own ix y bc nL' none (gws y bc nL' none) { frames := d', cells := mc, slots := ms, locals := 40 * d' } mc ms k :=
    callB_of k hts (gws_good w3) rfl rfl rfl (hts _ w2) (hts _ w1) w4 ⟨by show d' + 1 ≤ R.frames; omega, by show 8 + (nL' + 11) + 40 * d' ≤ R.locals; omega⟩
  have hr := va_runI (b := B + a) (As := As.map (gv B b)) (rest := st.map (gv B b)) (g := F0 m pc la ((As.reverse ++ vr a :: st).map (gv B b))) (cells := cells) (slots := slots) (locs := locs) (below := below) (meth := meth) (e := e) (H := H) ⟨hx, hb, hml, ho, hts⟩ hM ⟨cb, hy, hts _ hv⟩
    ⟨fun a U g mk q => ⟨q.1, ⟨q.2.1.1, gKK.same (s := U) (U := U.calling g mk a) rfl q.2.1.2.1, q.2.1.2.2⟩, q.2.2⟩, fun U hU hW => ⟨rfl, ⟨by rw [hU]; exact hP, gKK.moved hW hK, by rw [hU]; exact Nat.le_trans hB hS.1⟩, by rw [hU]; omega⟩⟩ rfl (by simpa using hn) (hl0.1.trans hlen) (by simp [gv]) (groom B b hst) hd ⟨by omega, by omega⟩
  exact G_back hB hr hl0 hS kk
theorem gKK_of (X : Cx E κ cc nL own ret d cz sz) : gKK E.2.1 E.2.2.1 κ.2.2.2.1 := by
  obtain ⟨l, D, Gc, B, b⟩ := E
  obtain ⟨p, e, R, s, m, args, below, meth, c, Q⟩ := κ
  exact X.2.2.2.2.2.1
theorem gNw_X5 (X : Cx E κ cc nL own ret d cz sz) : gNw E κ (.methodLinkNest RX5 29 yX0_init RX5) := (gKK_of X).2.2.2.1
theorem gNw_X1 (X : Cx E κ cc nL own ret d cz sz) : gNw E κ (.methodLinkNest RX1 9 yX0_init RX5) := (gKK_of X).2.2.2.2.1
theorem gNw_X2 (X : Cx E κ cc nL own ret d cz sz) : gNw E κ (.methodLinkNest RX2 24 yX0_init RX5) := (gKK_of X).2.2.2.2.2.1
theorem gNw_X3 (X : Cx E κ cc nL own ret d cz sz) : gNw E κ (.methodLinkNest RX3 17 yX1_init RX5) := (gKK_of X).2.2.2.2.2.2
end GCtor
theorem c_X0_init (E : gEnv) (n m a : Nat) (ha : SH[a]? = some (0, 0)) (hlt : a < n) (hn : SH[n]? = some (10, 40)) (hf : PPf m n = true) (hr : RS[m]? = some (a, 0, n)) : CtrN E yX0_init cX0_init 1 none 1 1 40 [vr a] (cm n m) none (cm (n + 1) (m + 1)) := by
  refine CtrN.mk (by decide +kernel) rfl (Nat.le_of_ble_eq_true rfl) (by show 0 < (SH.take n).length; rw [tk_len hn]; omega) fun κ X hR hnm hZ => ?_
  have X : Cx E κ cX0_init 1 RX0 none 1 1 40 := X
  have hZ : gSz E κ 0 (SH.take n).length := hZ
  rw [tk_len hn] at hZ
  show G E κ 0 0 0 [some (vr a)] [] (cm n m)
  refine G_aload_n (x := some a) X dX0_init_0 rfl rfl ?_
  refine G_objInit X ml_X0_3 im_obj cd_obj (Nat.le_of_ble_eq_true rfl) (by decide) rfl dX0_init_1 ?_
  refine G_aload_n (x := some a) X dX0_init_4 rfl rfl ?_
  refine G_bipush (v := 40) X dX0_init_5 rfl ?_
  refine C_newa_int X ac_int (by decide) hn (by decide +kernel) (by decide) hZ hf (by decide) (by decide) dX0_init_7 ?_
  refine C_putF X fd_X0_9 (fun q h => by cases h; rfl) rfl ha (by omega) (fun _ => rfl) (fun _ => rfl) hnm hr dX0_init_9 ?_
  exact G_vret X hR rfl dX0_init_12
theorem c_X1_init (E : gEnv) (n m a : Nat) (ha : SH[a]? = some (1, 0)) (hlt : a < n) (hn : SH[n]? = some (0, 0)) (hn1 : SH[n + 1]? = some (10, 40)) (hf : PPf m n = true) (hf1 : PPf m (n + 1) = true) (hr : RS[m]? = some (n, 0, n + 1)) (hr1 : RS[m + 1]? = some (a, 0, n)) : CtrN E yX1_init cX1_init 1 none 2 2 42 [vr a] (cm n m) none (cm (n + 2) (m + 2)) := by
  refine CtrN.mk (by decide +kernel) rfl (Nat.le_of_ble_eq_true rfl) (by show 0 < (SH.take n).length; rw [tk_len hn]; omega) fun κ X hR hnm hZ => ?_
  have X : Cx E κ cX1_init 1 RX1 none 2 2 42 := X
  have hZ : gSz E κ 0 (SH.take n).length := hZ
  rw [tk_len hn] at hZ
  show G E κ 0 0 0 [some (vr a)] [] (cm n m)
  refine G_aload_n (x := some a) X dX1_init_0 rfl rfl ?_
  refine G_objInit X ml_X1_1 im_obj cd_obj (Nat.le_of_ble_eq_true rfl) (by decide) rfl dX1_init_1 ?_
  refine G_aload_n (x := some a) X dX1_init_4 rfl rfl ?_
  refine C_new X cw_X1_7 hZ hn hf (by decide) (by decide) dX1_init_5 ?_
  have hZ := gSz_s 1 hZ
  refine G_dup X rfl dX1_init_8 ?_
  refine C_callIN (As := []) X (c_X0_init E (n + 1) m n hn (by omega) hn1 hf1 hr) cn_X0_init (gNw_X1 X) im_X0_init rfl rfl rfl (Nat.le_of_ble_eq_true rfl) (by decide) (by decide) rfl (by decide) (by decide) hZ (by show n + 1 ≤ (SH.take (n + 1)).length; rw [tk_len hn1]; exact Nat.le_refl _) dX1_init_9 ?_
  show G E κ _ _ _ [some (vr a)] [vr n, vr a] (cm (n + 2) (m + 1))
  refine C_putF X fd_X1_10 (fun q h => by cases h; rfl) rfl ha (by omega) (fun _ => rfl) (fun _ => rfl) hnm hr1 dX1_init_12 ?_
  exact G_vret X hR rfl dX1_init_15
set_option maxRecDepth 100000 in
set_option maxHeartbeats 4000000 in
theorem c_X3_init (E : gEnv) : CtrN E yX3_init cX3_init 2 none 3 16 230 [vr 2] (cm 3 1) none (cm 19 17) := by
  refine CtrN.mk (by decide +kernel) rfl (Nat.le_of_ble_eq_true rfl) (by decide) fun κ X hR hnm hZ => ?_
  have X : Cx E κ cX3_init 2 RX3 none 3 16 230 := X
  have hZ : gSz E κ 0 3 := hZ
  show G E κ 0 0 0 [some (vr 2), none] [] (cm 3 1)
  refine G_aload_n (x := some 2) X dX3_init_0 rfl rfl ?_
  refine G_objInit X ml_X3_3 im_obj cd_obj (Nat.le_of_ble_eq_true rfl) (by decide) rfl dX3_init_1 ?_
  refine G_aload_n (x := some 2) X dX3_init_4 rfl rfl ?_
  refine G_iconst (v := 5) X dX3_init_5 rfl ?_
  refine C_newq (kd := 13) X (by decide) cl_X3_9 (by decide) (show SH[3]? = some (13, 5) from rfl) (by decide +kernel) (by decide) hZ rfl (by decide) (by decide) dX3_init_6 ?_
  have hZ := gSz_s 1 hZ
  show G E κ 1 5 _ _ _ _
  refine C_putF X fd_X3_11 (fun q h => by cases h; rfl) rfl (show SH[2]? = some (3, 0) from rfl) (by decide) (fun _ => rfl) (fun _ => rfl) hnm (show RS[1]? = some (2, 0, 3) from rfl) dX3_init_9 ?_
  refine G_iconst (v := 0) X dX3_init_12 rfl ?_
  refine G_istore_n X dX3_init_13 rfl rfl (ls' := [some (vr 2), some (vi 0)]) rfl ?_
  refine G_iload_n (x := 0) X dX3_init_14 rfl rfl ?_
  refine G_aload_n (x := some 2) X dX3_init_15 rfl rfl ?_
  refine G_getR X fd_X3_11 rfl (tk (show SH[2]? = some (3, 0) from rfl) (by decide)) (show PP 2 2 0 = some 3 by decide +kernel) dX3_init_16 ?_
  refine G_alen X (tk (show SH[3]? = some (13, 5) from rfl) (by decide)) (by decide) dX3_init_19 ?_
  show G E κ _ _ _ _ [vi 5, vi 0] _
  refine G_icmp_ge (tgt := 42) X dX3_init_20 (by decide) (fun hc => absurd hc (by decide)) (fun _ => ?_)
  refine G_aload_n (x := some 2) X dX3_init_23 rfl rfl ?_
  refine G_getR X fd_X3_11 rfl (tk (show SH[2]? = some (3, 0) from rfl) (by decide)) (show PP 2 2 0 = some 3 by decide +kernel) dX3_init_24 ?_
  refine G_iload_n (x := 0) X dX3_init_27 rfl rfl ?_
  refine C_new X cw_X3_9 hZ (show SH[4]? = some (1, 0) from rfl) rfl (by decide) (by decide) dX3_init_28 ?_
  have hZ := gSz_s 1 hZ
  show G E κ 2 8 _ _ _ _
  refine G_dup X rfl dX3_init_31 ?_
  refine C_callIN (As := []) X (c_X1_init E 5 2 4 (show SH[4]? = some (1, 0) from rfl) (by decide) (show SH[5]? = some (0, 0) from rfl) (show SH[6]? = some (10, 40) from rfl) rfl rfl (show RS[2]? = some (5, 0, 6) from rfl) (show RS[3]? = some (4, 0, 5) from rfl)) cn_X1_init (gNw_X3 X) im_X1_init rfl rfl rfl (Nat.le_of_ble_eq_true rfl) (by decide) (by decide) rfl (by decide) (by decide) hZ (Nat.le_of_ble_eq_true rfl) dX3_init_32 ?_
  have hZ := gSz_s 2 hZ
  show G E κ 4 50 _ _ _ _
  show G E κ _ _ _ [some (vr 2), some (vi 0)] [vr 4, vi 0, vr 3] (cm 7 4)
  refine C_aast (i := 0) (j := 0) X (show SH[3]? = some (13, 5) from rfl) (by decide) (show SH[4]? = some (13 - 12, 0) from rfl) (by decide) (by decide) (by decide) rfl (show RS[4]? = some (3, 0, 4) from rfl) dX3_init_35 ?_
  refine G_iinc (x := 0) (v := 1) X dX3_init_36 rfl rfl rfl (ls' := [some (vr 2), some (vi 1)]) rfl ?_
  refine G_goto (tgt := 14) X dX3_init_39 (by decide) ?_
  refine G_iload_n (x := 1) X dX3_init_14 rfl rfl ?_
  refine G_aload_n (x := some 2) X dX3_init_15 rfl rfl ?_
  refine G_getR X fd_X3_11 rfl (tk (show SH[2]? = some (3, 0) from rfl) (by decide)) (show PP 5 2 0 = some 3 by decide +kernel) dX3_init_16 ?_
  refine G_alen X (tk (show SH[3]? = some (13, 5) from rfl) (by decide)) (by decide) dX3_init_19 ?_
  show G E κ _ _ _ _ [vi 5, vi 1] _
  refine G_icmp_ge (tgt := 42) X dX3_init_20 (by decide) (fun hc => absurd hc (by decide)) (fun _ => ?_)
  refine G_aload_n (x := some 2) X dX3_init_23 rfl rfl ?_
  refine G_getR X fd_X3_11 rfl (tk (show SH[2]? = some (3, 0) from rfl) (by decide)) (show PP 5 2 0 = some 3 by decide +kernel) dX3_init_24 ?_
  refine G_iload_n (x := 1) X dX3_init_27 rfl rfl ?_
  refine C_new X cw_X3_9 hZ (show SH[7]? = some (1, 0) from rfl) rfl (by decide) (by decide) dX3_init_28 ?_
  have hZ := gSz_s 1 hZ
  show G E κ 5 53 _ _ _ _
  refine G_dup X rfl dX3_init_31 ?_
  refine C_callIN (As := []) X (c_X1_init E 8 5 7 (show SH[7]? = some (1, 0) from rfl) (by decide) (show SH[8]? = some (0, 0) from rfl) (show SH[9]? = some (10, 40) from rfl) rfl rfl (show RS[5]? = some (8, 0, 9) from rfl) (show RS[6]? = some (7, 0, 8) from rfl)) cn_X1_init (gNw_X3 X) im_X1_init rfl rfl rfl (Nat.le_of_ble_eq_true rfl) (by decide) (by decide) rfl (by decide) (by decide) hZ (Nat.le_of_ble_eq_true rfl) dX3_init_32 ?_
  have hZ := gSz_s 2 hZ
  show G E κ 7 95 _ _ _ _
  show G E κ _ _ _ [some (vr 2), some (vi 1)] [vr 7, vi 1, vr 3] (cm 10 7)
  refine C_aast (i := 1) (j := 1) X (show SH[3]? = some (13, 5) from rfl) (by decide) (show SH[7]? = some (13 - 12, 0) from rfl) (by decide) (by decide) (by decide) rfl (show RS[7]? = some (3, 1, 7) from rfl) dX3_init_35 ?_
  refine G_iinc (x := 1) (v := 1) X dX3_init_36 rfl rfl rfl (ls' := [some (vr 2), some (vi 2)]) rfl ?_
  refine G_goto (tgt := 14) X dX3_init_39 (by decide) ?_
  refine G_iload_n (x := 2) X dX3_init_14 rfl rfl ?_
  refine G_aload_n (x := some 2) X dX3_init_15 rfl rfl ?_
  refine G_getR X fd_X3_11 rfl (tk (show SH[2]? = some (3, 0) from rfl) (by decide)) (show PP 8 2 0 = some 3 by decide +kernel) dX3_init_16 ?_
  refine G_alen X (tk (show SH[3]? = some (13, 5) from rfl) (by decide)) (by decide) dX3_init_19 ?_
  show G E κ _ _ _ _ [vi 5, vi 2] _
  refine G_icmp_ge (tgt := 42) X dX3_init_20 (by decide) (fun hc => absurd hc (by decide)) (fun _ => ?_)
  refine G_aload_n (x := some 2) X dX3_init_23 rfl rfl ?_
  refine G_getR X fd_X3_11 rfl (tk (show SH[2]? = some (3, 0) from rfl) (by decide)) (show PP 8 2 0 = some 3 by decide +kernel) dX3_init_24 ?_
  refine G_iload_n (x := 2) X dX3_init_27 rfl rfl ?_
  refine C_new X cw_X3_9 hZ (show SH[10]? = some (1, 0) from rfl) rfl (by decide) (by decide) dX3_init_28 ?_
  have hZ := gSz_s 1 hZ
  show G E κ 8 98 _ _ _ _
  refine G_dup X rfl dX3_init_31 ?_
  refine C_callIN (As := []) X (c_X1_init E 11 8 10 (show SH[10]? = some (1, 0) from rfl) (by decide) (show SH[11]? = some (0, 0) from rfl) (show SH[12]? = some (10, 40) from rfl) rfl rfl (show RS[8]? = some (11, 0, 12) from rfl) (show RS[9]? = some (10, 0, 11) from rfl)) cn_X1_init (gNw_X3 X) im_X1_init rfl rfl rfl (Nat.le_of_ble_eq_true rfl) (by decide) (by decide) rfl (by decide) (by decide) hZ (Nat.le_of_ble_eq_true rfl) dX3_init_32 ?_
  have hZ := gSz_s 2 hZ
  show G E κ 10 140 _ _ _ _
  show G E κ _ _ _ [some (vr 2), some (vi 2)] [vr 10, vi 2, vr 3] (cm 13 10)
  refine C_aast (i := 2) (j := 2) X (show SH[3]? = some (13, 5) from rfl) (by decide) (show SH[10]? = some (13 - 12, 0) from rfl) (by decide) (by decide) (by decide) rfl (show RS[10]? = some (3, 2, 10) from rfl) dX3_init_35 ?_
  refine G_iinc (x := 2) (v := 1) X dX3_init_36 rfl rfl rfl (ls' := [some (vr 2), some (vi 3)]) rfl ?_
  refine G_goto (tgt := 14) X dX3_init_39 (by decide) ?_
  refine G_iload_n (x := 3) X dX3_init_14 rfl rfl ?_
  refine G_aload_n (x := some 2) X dX3_init_15 rfl rfl ?_
  refine G_getR X fd_X3_11 rfl (tk (show SH[2]? = some (3, 0) from rfl) (by decide)) (show PP 11 2 0 = some 3 by decide +kernel) dX3_init_16 ?_
  refine G_alen X (tk (show SH[3]? = some (13, 5) from rfl) (by decide)) (by decide) dX3_init_19 ?_
  show G E κ _ _ _ _ [vi 5, vi 3] _
  refine G_icmp_ge (tgt := 42) X dX3_init_20 (by decide) (fun hc => absurd hc (by decide)) (fun _ => ?_)
  refine G_aload_n (x := some 2) X dX3_init_23 rfl rfl ?_
  refine G_getR X fd_X3_11 rfl (tk (show SH[2]? = some (3, 0) from rfl) (by decide)) (show PP 11 2 0 = some 3 by decide +kernel) dX3_init_24 ?_
  refine G_iload_n (x := 3) X dX3_init_27 rfl rfl ?_
  refine C_new X cw_X3_9 hZ (show SH[13]? = some (1, 0) from rfl) rfl (by decide) (by decide) dX3_init_28 ?_
  have hZ := gSz_s 1 hZ
  show G E κ 11 143 _ _ _ _
  refine G_dup X rfl dX3_init_31 ?_
  refine C_callIN (As := []) X (c_X1_init E 14 11 13 (show SH[13]? = some (1, 0) from rfl) (by decide) (show SH[14]? = some (0, 0) from rfl) (show SH[15]? = some (10, 40) from rfl) rfl rfl (show RS[11]? = some (14, 0, 15) from rfl) (show RS[12]? = some (13, 0, 14) from rfl)) cn_X1_init (gNw_X3 X) im_X1_init rfl rfl rfl (Nat.le_of_ble_eq_true rfl) (by decide) (by decide) rfl (by decide) (by decide) hZ (Nat.le_of_ble_eq_true rfl) dX3_init_32 ?_
  have hZ := gSz_s 2 hZ
  show G E κ 13 185 _ _ _ _
  show G E κ _ _ _ [some (vr 2), some (vi 3)] [vr 13, vi 3, vr 3] (cm 16 13)
  refine C_aast (i := 3) (j := 3) X (show SH[3]? = some (13, 5) from rfl) (by decide) (show SH[13]? = some (13 - 12, 0) from rfl) (by decide) (by decide) (by decide) rfl (show RS[13]? = some (3, 3, 13) from rfl) dX3_init_35 ?_
  refine G_iinc (x := 3) (v := 1) X dX3_init_36 rfl rfl rfl (ls' := [some (vr 2), some (vi 4)]) rfl ?_
  refine G_goto (tgt := 14) X dX3_init_39 (by decide) ?_
  refine G_iload_n (x := 4) X dX3_init_14 rfl rfl ?_
  refine G_aload_n (x := some 2) X dX3_init_15 rfl rfl ?_
  refine G_getR X fd_X3_11 rfl (tk (show SH[2]? = some (3, 0) from rfl) (by decide)) (show PP 14 2 0 = some 3 by decide +kernel) dX3_init_16 ?_
  refine G_alen X (tk (show SH[3]? = some (13, 5) from rfl) (by decide)) (by decide) dX3_init_19 ?_
  show G E κ _ _ _ _ [vi 5, vi 4] _
  refine G_icmp_ge (tgt := 42) X dX3_init_20 (by decide) (fun hc => absurd hc (by decide)) (fun _ => ?_)
  refine G_aload_n (x := some 2) X dX3_init_23 rfl rfl ?_
  refine G_getR X fd_X3_11 rfl (tk (show SH[2]? = some (3, 0) from rfl) (by decide)) (show PP 14 2 0 = some 3 by decide +kernel) dX3_init_24 ?_
  refine G_iload_n (x := 4) X dX3_init_27 rfl rfl ?_
  refine C_new X cw_X3_9 hZ (show SH[16]? = some (1, 0) from rfl) rfl (by decide) (by decide) dX3_init_28 ?_
  have hZ := gSz_s 1 hZ
  show G E κ 14 188 _ _ _ _
  refine G_dup X rfl dX3_init_31 ?_
  refine C_callIN (As := []) X (c_X1_init E 17 14 16 (show SH[16]? = some (1, 0) from rfl) (by decide) (show SH[17]? = some (0, 0) from rfl) (show SH[18]? = some (10, 40) from rfl) rfl rfl (show RS[14]? = some (17, 0, 18) from rfl) (show RS[15]? = some (16, 0, 17) from rfl)) cn_X1_init (gNw_X3 X) im_X1_init rfl rfl rfl (Nat.le_of_ble_eq_true rfl) (by decide) (by decide) rfl (by decide) (by decide) hZ (Nat.le_of_ble_eq_true rfl) dX3_init_32 ?_
  have hZ := gSz_s 2 hZ
  show G E κ 16 230 _ _ _ _
  show G E κ _ _ _ [some (vr 2), some (vi 4)] [vr 16, vi 4, vr 3] (cm 19 16)
  refine C_aast (i := 4) (j := 4) X (show SH[3]? = some (13, 5) from rfl) (by decide) (show SH[16]? = some (13 - 12, 0) from rfl) (by decide) (by decide) (by decide) rfl (show RS[16]? = some (3, 4, 16) from rfl) dX3_init_35 ?_
  refine G_iinc (x := 4) (v := 1) X dX3_init_36 rfl rfl rfl (ls' := [some (vr 2), some (vi 5)]) rfl ?_
  refine G_goto (tgt := 14) X dX3_init_39 (by decide) ?_
  refine G_iload_n (x := 5) X dX3_init_14 rfl rfl ?_
  refine G_aload_n (x := some 2) X dX3_init_15 rfl rfl ?_
  refine G_getR X fd_X3_11 rfl (tk (show SH[2]? = some (3, 0) from rfl) (by decide)) (show PP 17 2 0 = some 3 by decide +kernel) dX3_init_16 ?_
  refine G_alen X (tk (show SH[3]? = some (13, 5) from rfl) (by decide)) (by decide) dX3_init_19 ?_
  show G E κ _ _ _ _ [vi 5, vi 5] _
  refine G_icmp_ge (tgt := 42) X dX3_init_20 (by decide) (fun _ => ?_) (fun hc => absurd (by decide) hc)
  exact G_vret X hR rfl dX3_init_42
set_option maxRecDepth 100000 in
set_option maxHeartbeats 4000000 in
theorem c_X2_init (E : gEnv) : CtrN E yX2_init cX2_init 2 none 2 41 917 [vr 19] (cm 20 18) none (cm 61 59) := by
  refine CtrN.mk (by decide +kernel) rfl (Nat.le_of_ble_eq_true rfl) (by decide) fun κ X hR hnm hZ => ?_
  have X : Cx E κ cX2_init 2 RX2 none 2 41 917 := X
  have hZ : gSz E κ 0 20 := hZ
  show G E κ 0 0 0 [some (vr 19), none] [] (cm 20 18)
  refine G_aload_n (x := some 19) X dX2_init_0 rfl rfl ?_
  refine G_objInit X ml_X2_3 im_obj cd_obj (Nat.le_of_ble_eq_true rfl) (by decide) rfl dX2_init_1 ?_
  refine G_aload_n (x := some 19) X dX2_init_4 rfl rfl ?_
  refine G_bipush (v := 100) X dX2_init_5 rfl ?_
  refine C_newa_char X ac_char (by decide) (show SH[20]? = some (11, 100) from rfl) (by decide +kernel) (by decide) hZ rfl (by decide) (by decide) dX2_init_7 ?_
  have hZ := gSz_s 1 hZ
  show G E κ 1 100 _ _ _ _
  refine C_putF X fd_X2_9 (fun q h => by cases h; rfl) rfl (show SH[19]? = some (2, 0) from rfl) (by decide) (fun _ => rfl) (fun _ => rfl) hnm (show RS[18]? = some (19, 0, 20) from rfl) dX2_init_9 ?_
  refine G_aload_n (x := some 19) X dX2_init_12 rfl rfl ?_
  refine G_bipush (v := 19) X dX2_init_13 rfl ?_
  refine C_newq (kd := 12) X (by decide) cl_X2_15 (by decide) (show SH[21]? = some (12, 19) from rfl) (by decide +kernel) (by decide) hZ rfl (by decide) (by decide) dX2_init_15 ?_
  have hZ := gSz_s 1 hZ
  show G E κ 2 119 _ _ _ _
  refine C_putF X fd_X2_17 (fun q h => by cases h; rfl) rfl (show SH[19]? = some (2, 0) from rfl) (by decide) (fun _ => rfl) (fun _ => rfl) hnm (show RS[19]? = some (19, 5, 21) from rfl) dX2_init_18 ?_
  refine G_aload_n (x := some 19) X dX2_init_21 rfl rfl ?_
  refine G_iconst (v := 0) X dX2_init_22 rfl ?_
  refine C_newq (kd := 12) X (by decide) cl_X2_15 (by decide) (show SH[22]? = some (12, 0) from rfl) (by decide +kernel) (by decide) hZ rfl (by decide) (by decide) dX2_init_23 ?_
  have hZ := gSz_s 1 hZ
  show G E κ 3 119 _ _ _ _
  refine C_putR X fd_X2_21 rfl (show SH[19]? = some (2, 0) from rfl) (by decide) (fun _ => rfl) (fun _ => rfl) (show RS[20]? = some (19, 6, 22) from rfl) dX2_init_26 ?_
  refine G_iconst (v := 0) X dX2_init_29 rfl ?_
  refine G_istore_n X dX2_init_30 rfl rfl (ls' := [some (vr 19), some (vi 0)]) rfl ?_
  refine G_iload_n (x := 0) X dX2_init_31 rfl rfl ?_
  refine G_aload_n (x := some 19) X dX2_init_32 rfl rfl ?_
  refine G_getR X fd_X2_17 rfl (tk (show SH[19]? = some (2, 0) from rfl) (by decide)) (show PP 21 19 5 = some 21 by decide +kernel) dX2_init_33 ?_
  refine G_alen X (tk (show SH[21]? = some (12, 19) from rfl) (by decide)) (by decide) dX2_init_36 ?_
  show G E κ _ _ _ _ [vi 19, vi 0] _
  refine G_icmp_ge (tgt := 59) X dX2_init_37 (by decide) (fun hc => absurd hc (by decide)) (fun _ => ?_)
  refine G_aload_n (x := some 19) X dX2_init_40 rfl rfl ?_
  refine G_getR X fd_X2_17 rfl (tk (show SH[19]? = some (2, 0) from rfl) (by decide)) (show PP 21 19 5 = some 21 by decide +kernel) dX2_init_41 ?_
  refine G_iload_n (x := 0) X dX2_init_44 rfl rfl ?_
  refine C_new X cw_X2_15 hZ (show SH[23]? = some (0, 0) from rfl) rfl (by decide) (by decide) dX2_init_45 ?_
  have hZ := gSz_s 1 hZ
  show G E κ 4 121 _ _ _ _
  refine G_dup X rfl dX2_init_48 ?_
  refine C_callIN (As := []) X (c_X0_init E 24 21 23 (show SH[23]? = some (0, 0) from rfl) (by decide) (show SH[24]? = some (10, 40) from rfl) rfl (show RS[21]? = some (23, 0, 24) from rfl)) cn_X0_init (gNw_X2 X) im_X0_init rfl rfl rfl (Nat.le_of_ble_eq_true rfl) (by decide) (by decide) rfl (by decide) (by decide) hZ (Nat.le_of_ble_eq_true rfl) dX2_init_49 ?_
  have hZ := gSz_s 1 hZ
  show G E κ 5 161 _ _ _ _
  show G E κ _ _ _ [some (vr 19), some (vi 0)] [vr 23, vi 0, vr 21] (cm 25 22)
  refine C_aast (i := 0) (j := 0) X (show SH[21]? = some (12, 19) from rfl) (by decide) (show SH[23]? = some (12 - 12, 0) from rfl) (by decide) (by decide) (by decide) rfl (show RS[22]? = some (21, 0, 23) from rfl) dX2_init_52 ?_
  refine G_iinc (x := 0) (v := 1) X dX2_init_53 rfl rfl rfl (ls' := [some (vr 19), some (vi 1)]) rfl ?_
  refine G_goto (tgt := 31) X dX2_init_56 (by decide) ?_
  refine G_iload_n (x := 1) X dX2_init_31 rfl rfl ?_
  refine G_aload_n (x := some 19) X dX2_init_32 rfl rfl ?_
  refine G_getR X fd_X2_17 rfl (tk (show SH[19]? = some (2, 0) from rfl) (by decide)) (show PP 23 19 5 = some 21 by decide +kernel) dX2_init_33 ?_
  refine G_alen X (tk (show SH[21]? = some (12, 19) from rfl) (by decide)) (by decide) dX2_init_36 ?_
  show G E κ _ _ _ _ [vi 19, vi 1] _
  refine G_icmp_ge (tgt := 59) X dX2_init_37 (by decide) (fun hc => absurd hc (by decide)) (fun _ => ?_)
  refine G_aload_n (x := some 19) X dX2_init_40 rfl rfl ?_
  refine G_getR X fd_X2_17 rfl (tk (show SH[19]? = some (2, 0) from rfl) (by decide)) (show PP 23 19 5 = some 21 by decide +kernel) dX2_init_41 ?_
  refine G_iload_n (x := 1) X dX2_init_44 rfl rfl ?_
  refine C_new X cw_X2_15 hZ (show SH[25]? = some (0, 0) from rfl) rfl (by decide) (by decide) dX2_init_45 ?_
  have hZ := gSz_s 1 hZ
  show G E κ 6 163 _ _ _ _
  refine G_dup X rfl dX2_init_48 ?_
  refine C_callIN (As := []) X (c_X0_init E 26 23 25 (show SH[25]? = some (0, 0) from rfl) (by decide) (show SH[26]? = some (10, 40) from rfl) rfl (show RS[23]? = some (25, 0, 26) from rfl)) cn_X0_init (gNw_X2 X) im_X0_init rfl rfl rfl (Nat.le_of_ble_eq_true rfl) (by decide) (by decide) rfl (by decide) (by decide) hZ (Nat.le_of_ble_eq_true rfl) dX2_init_49 ?_
  have hZ := gSz_s 1 hZ
  show G E κ 7 203 _ _ _ _
  show G E κ _ _ _ [some (vr 19), some (vi 1)] [vr 25, vi 1, vr 21] (cm 27 24)
  refine C_aast (i := 1) (j := 1) X (show SH[21]? = some (12, 19) from rfl) (by decide) (show SH[25]? = some (12 - 12, 0) from rfl) (by decide) (by decide) (by decide) rfl (show RS[24]? = some (21, 1, 25) from rfl) dX2_init_52 ?_
  refine G_iinc (x := 1) (v := 1) X dX2_init_53 rfl rfl rfl (ls' := [some (vr 19), some (vi 2)]) rfl ?_
  refine G_goto (tgt := 31) X dX2_init_56 (by decide) ?_
  refine G_iload_n (x := 2) X dX2_init_31 rfl rfl ?_
  refine G_aload_n (x := some 19) X dX2_init_32 rfl rfl ?_
  refine G_getR X fd_X2_17 rfl (tk (show SH[19]? = some (2, 0) from rfl) (by decide)) (show PP 25 19 5 = some 21 by decide +kernel) dX2_init_33 ?_
  refine G_alen X (tk (show SH[21]? = some (12, 19) from rfl) (by decide)) (by decide) dX2_init_36 ?_
  show G E κ _ _ _ _ [vi 19, vi 2] _
  refine G_icmp_ge (tgt := 59) X dX2_init_37 (by decide) (fun hc => absurd hc (by decide)) (fun _ => ?_)
  refine G_aload_n (x := some 19) X dX2_init_40 rfl rfl ?_
  refine G_getR X fd_X2_17 rfl (tk (show SH[19]? = some (2, 0) from rfl) (by decide)) (show PP 25 19 5 = some 21 by decide +kernel) dX2_init_41 ?_
  refine G_iload_n (x := 2) X dX2_init_44 rfl rfl ?_
  refine C_new X cw_X2_15 hZ (show SH[27]? = some (0, 0) from rfl) rfl (by decide) (by decide) dX2_init_45 ?_
  have hZ := gSz_s 1 hZ
  show G E κ 8 205 _ _ _ _
  refine G_dup X rfl dX2_init_48 ?_
  refine C_callIN (As := []) X (c_X0_init E 28 25 27 (show SH[27]? = some (0, 0) from rfl) (by decide) (show SH[28]? = some (10, 40) from rfl) rfl (show RS[25]? = some (27, 0, 28) from rfl)) cn_X0_init (gNw_X2 X) im_X0_init rfl rfl rfl (Nat.le_of_ble_eq_true rfl) (by decide) (by decide) rfl (by decide) (by decide) hZ (Nat.le_of_ble_eq_true rfl) dX2_init_49 ?_
  have hZ := gSz_s 1 hZ
  show G E κ 9 245 _ _ _ _
  show G E κ _ _ _ [some (vr 19), some (vi 2)] [vr 27, vi 2, vr 21] (cm 29 26)
  refine C_aast (i := 2) (j := 2) X (show SH[21]? = some (12, 19) from rfl) (by decide) (show SH[27]? = some (12 - 12, 0) from rfl) (by decide) (by decide) (by decide) rfl (show RS[26]? = some (21, 2, 27) from rfl) dX2_init_52 ?_
  refine G_iinc (x := 2) (v := 1) X dX2_init_53 rfl rfl rfl (ls' := [some (vr 19), some (vi 3)]) rfl ?_
  refine G_goto (tgt := 31) X dX2_init_56 (by decide) ?_
  refine G_iload_n (x := 3) X dX2_init_31 rfl rfl ?_
  refine G_aload_n (x := some 19) X dX2_init_32 rfl rfl ?_
  refine G_getR X fd_X2_17 rfl (tk (show SH[19]? = some (2, 0) from rfl) (by decide)) (show PP 27 19 5 = some 21 by decide +kernel) dX2_init_33 ?_
  refine G_alen X (tk (show SH[21]? = some (12, 19) from rfl) (by decide)) (by decide) dX2_init_36 ?_
  show G E κ _ _ _ _ [vi 19, vi 3] _
  refine G_icmp_ge (tgt := 59) X dX2_init_37 (by decide) (fun hc => absurd hc (by decide)) (fun _ => ?_)
  refine G_aload_n (x := some 19) X dX2_init_40 rfl rfl ?_
  refine G_getR X fd_X2_17 rfl (tk (show SH[19]? = some (2, 0) from rfl) (by decide)) (show PP 27 19 5 = some 21 by decide +kernel) dX2_init_41 ?_
  refine G_iload_n (x := 3) X dX2_init_44 rfl rfl ?_
  refine C_new X cw_X2_15 hZ (show SH[29]? = some (0, 0) from rfl) rfl (by decide) (by decide) dX2_init_45 ?_
  have hZ := gSz_s 1 hZ
  show G E κ 10 247 _ _ _ _
  refine G_dup X rfl dX2_init_48 ?_
  refine C_callIN (As := []) X (c_X0_init E 30 27 29 (show SH[29]? = some (0, 0) from rfl) (by decide) (show SH[30]? = some (10, 40) from rfl) rfl (show RS[27]? = some (29, 0, 30) from rfl)) cn_X0_init (gNw_X2 X) im_X0_init rfl rfl rfl (Nat.le_of_ble_eq_true rfl) (by decide) (by decide) rfl (by decide) (by decide) hZ (Nat.le_of_ble_eq_true rfl) dX2_init_49 ?_
  have hZ := gSz_s 1 hZ
  show G E κ 11 287 _ _ _ _
  show G E κ _ _ _ [some (vr 19), some (vi 3)] [vr 29, vi 3, vr 21] (cm 31 28)
  refine C_aast (i := 3) (j := 3) X (show SH[21]? = some (12, 19) from rfl) (by decide) (show SH[29]? = some (12 - 12, 0) from rfl) (by decide) (by decide) (by decide) rfl (show RS[28]? = some (21, 3, 29) from rfl) dX2_init_52 ?_
  refine G_iinc (x := 3) (v := 1) X dX2_init_53 rfl rfl rfl (ls' := [some (vr 19), some (vi 4)]) rfl ?_
  refine G_goto (tgt := 31) X dX2_init_56 (by decide) ?_
  refine G_iload_n (x := 4) X dX2_init_31 rfl rfl ?_
  refine G_aload_n (x := some 19) X dX2_init_32 rfl rfl ?_
  refine G_getR X fd_X2_17 rfl (tk (show SH[19]? = some (2, 0) from rfl) (by decide)) (show PP 29 19 5 = some 21 by decide +kernel) dX2_init_33 ?_
  refine G_alen X (tk (show SH[21]? = some (12, 19) from rfl) (by decide)) (by decide) dX2_init_36 ?_
  show G E κ _ _ _ _ [vi 19, vi 4] _
  refine G_icmp_ge (tgt := 59) X dX2_init_37 (by decide) (fun hc => absurd hc (by decide)) (fun _ => ?_)
  refine G_aload_n (x := some 19) X dX2_init_40 rfl rfl ?_
  refine G_getR X fd_X2_17 rfl (tk (show SH[19]? = some (2, 0) from rfl) (by decide)) (show PP 29 19 5 = some 21 by decide +kernel) dX2_init_41 ?_
  refine G_iload_n (x := 4) X dX2_init_44 rfl rfl ?_
  refine C_new X cw_X2_15 hZ (show SH[31]? = some (0, 0) from rfl) rfl (by decide) (by decide) dX2_init_45 ?_
  have hZ := gSz_s 1 hZ
  show G E κ 12 289 _ _ _ _
  refine G_dup X rfl dX2_init_48 ?_
  refine C_callIN (As := []) X (c_X0_init E 32 29 31 (show SH[31]? = some (0, 0) from rfl) (by decide) (show SH[32]? = some (10, 40) from rfl) rfl (show RS[29]? = some (31, 0, 32) from rfl)) cn_X0_init (gNw_X2 X) im_X0_init rfl rfl rfl (Nat.le_of_ble_eq_true rfl) (by decide) (by decide) rfl (by decide) (by decide) hZ (Nat.le_of_ble_eq_true rfl) dX2_init_49 ?_
  have hZ := gSz_s 1 hZ
  show G E κ 13 329 _ _ _ _
  show G E κ _ _ _ [some (vr 19), some (vi 4)] [vr 31, vi 4, vr 21] (cm 33 30)
  refine C_aast (i := 4) (j := 4) X (show SH[21]? = some (12, 19) from rfl) (by decide) (show SH[31]? = some (12 - 12, 0) from rfl) (by decide) (by decide) (by decide) rfl (show RS[30]? = some (21, 4, 31) from rfl) dX2_init_52 ?_
  refine G_iinc (x := 4) (v := 1) X dX2_init_53 rfl rfl rfl (ls' := [some (vr 19), some (vi 5)]) rfl ?_
  refine G_goto (tgt := 31) X dX2_init_56 (by decide) ?_
  refine G_iload_n (x := 5) X dX2_init_31 rfl rfl ?_
  refine G_aload_n (x := some 19) X dX2_init_32 rfl rfl ?_
  refine G_getR X fd_X2_17 rfl (tk (show SH[19]? = some (2, 0) from rfl) (by decide)) (show PP 31 19 5 = some 21 by decide +kernel) dX2_init_33 ?_
  refine G_alen X (tk (show SH[21]? = some (12, 19) from rfl) (by decide)) (by decide) dX2_init_36 ?_
  show G E κ _ _ _ _ [vi 19, vi 5] _
  refine G_icmp_ge (tgt := 59) X dX2_init_37 (by decide) (fun hc => absurd hc (by decide)) (fun _ => ?_)
  refine G_aload_n (x := some 19) X dX2_init_40 rfl rfl ?_
  refine G_getR X fd_X2_17 rfl (tk (show SH[19]? = some (2, 0) from rfl) (by decide)) (show PP 31 19 5 = some 21 by decide +kernel) dX2_init_41 ?_
  refine G_iload_n (x := 5) X dX2_init_44 rfl rfl ?_
  refine C_new X cw_X2_15 hZ (show SH[33]? = some (0, 0) from rfl) rfl (by decide) (by decide) dX2_init_45 ?_
  have hZ := gSz_s 1 hZ
  show G E κ 14 331 _ _ _ _
  refine G_dup X rfl dX2_init_48 ?_
  refine C_callIN (As := []) X (c_X0_init E 34 31 33 (show SH[33]? = some (0, 0) from rfl) (by decide) (show SH[34]? = some (10, 40) from rfl) rfl (show RS[31]? = some (33, 0, 34) from rfl)) cn_X0_init (gNw_X2 X) im_X0_init rfl rfl rfl (Nat.le_of_ble_eq_true rfl) (by decide) (by decide) rfl (by decide) (by decide) hZ (Nat.le_of_ble_eq_true rfl) dX2_init_49 ?_
  have hZ := gSz_s 1 hZ
  show G E κ 15 371 _ _ _ _
  show G E κ _ _ _ [some (vr 19), some (vi 5)] [vr 33, vi 5, vr 21] (cm 35 32)
  refine C_aast (i := 5) (j := 5) X (show SH[21]? = some (12, 19) from rfl) (by decide) (show SH[33]? = some (12 - 12, 0) from rfl) (by decide) (by decide) (by decide) rfl (show RS[32]? = some (21, 5, 33) from rfl) dX2_init_52 ?_
  refine G_iinc (x := 5) (v := 1) X dX2_init_53 rfl rfl rfl (ls' := [some (vr 19), some (vi 6)]) rfl ?_
  refine G_goto (tgt := 31) X dX2_init_56 (by decide) ?_
  refine G_iload_n (x := 6) X dX2_init_31 rfl rfl ?_
  refine G_aload_n (x := some 19) X dX2_init_32 rfl rfl ?_
  refine G_getR X fd_X2_17 rfl (tk (show SH[19]? = some (2, 0) from rfl) (by decide)) (show PP 33 19 5 = some 21 by decide +kernel) dX2_init_33 ?_
  refine G_alen X (tk (show SH[21]? = some (12, 19) from rfl) (by decide)) (by decide) dX2_init_36 ?_
  show G E κ _ _ _ _ [vi 19, vi 6] _
  refine G_icmp_ge (tgt := 59) X dX2_init_37 (by decide) (fun hc => absurd hc (by decide)) (fun _ => ?_)
  refine G_aload_n (x := some 19) X dX2_init_40 rfl rfl ?_
  refine G_getR X fd_X2_17 rfl (tk (show SH[19]? = some (2, 0) from rfl) (by decide)) (show PP 33 19 5 = some 21 by decide +kernel) dX2_init_41 ?_
  refine G_iload_n (x := 6) X dX2_init_44 rfl rfl ?_
  refine C_new X cw_X2_15 hZ (show SH[35]? = some (0, 0) from rfl) rfl (by decide) (by decide) dX2_init_45 ?_
  have hZ := gSz_s 1 hZ
  show G E κ 16 373 _ _ _ _
  refine G_dup X rfl dX2_init_48 ?_
  refine C_callIN (As := []) X (c_X0_init E 36 33 35 (show SH[35]? = some (0, 0) from rfl) (by decide) (show SH[36]? = some (10, 40) from rfl) rfl (show RS[33]? = some (35, 0, 36) from rfl)) cn_X0_init (gNw_X2 X) im_X0_init rfl rfl rfl (Nat.le_of_ble_eq_true rfl) (by decide) (by decide) rfl (by decide) (by decide) hZ (Nat.le_of_ble_eq_true rfl) dX2_init_49 ?_
  have hZ := gSz_s 1 hZ
  show G E κ 17 413 _ _ _ _
  show G E κ _ _ _ [some (vr 19), some (vi 6)] [vr 35, vi 6, vr 21] (cm 37 34)
  refine C_aast (i := 6) (j := 6) X (show SH[21]? = some (12, 19) from rfl) (by decide) (show SH[35]? = some (12 - 12, 0) from rfl) (by decide) (by decide) (by decide) rfl (show RS[34]? = some (21, 6, 35) from rfl) dX2_init_52 ?_
  refine G_iinc (x := 6) (v := 1) X dX2_init_53 rfl rfl rfl (ls' := [some (vr 19), some (vi 7)]) rfl ?_
  refine G_goto (tgt := 31) X dX2_init_56 (by decide) ?_
  refine G_iload_n (x := 7) X dX2_init_31 rfl rfl ?_
  refine G_aload_n (x := some 19) X dX2_init_32 rfl rfl ?_
  refine G_getR X fd_X2_17 rfl (tk (show SH[19]? = some (2, 0) from rfl) (by decide)) (show PP 35 19 5 = some 21 by decide +kernel) dX2_init_33 ?_
  refine G_alen X (tk (show SH[21]? = some (12, 19) from rfl) (by decide)) (by decide) dX2_init_36 ?_
  show G E κ _ _ _ _ [vi 19, vi 7] _
  refine G_icmp_ge (tgt := 59) X dX2_init_37 (by decide) (fun hc => absurd hc (by decide)) (fun _ => ?_)
  refine G_aload_n (x := some 19) X dX2_init_40 rfl rfl ?_
  refine G_getR X fd_X2_17 rfl (tk (show SH[19]? = some (2, 0) from rfl) (by decide)) (show PP 35 19 5 = some 21 by decide +kernel) dX2_init_41 ?_
  refine G_iload_n (x := 7) X dX2_init_44 rfl rfl ?_
  refine C_new X cw_X2_15 hZ (show SH[37]? = some (0, 0) from rfl) rfl (by decide) (by decide) dX2_init_45 ?_
  have hZ := gSz_s 1 hZ
  show G E κ 18 415 _ _ _ _
  refine G_dup X rfl dX2_init_48 ?_
  refine C_callIN (As := []) X (c_X0_init E 38 35 37 (show SH[37]? = some (0, 0) from rfl) (by decide) (show SH[38]? = some (10, 40) from rfl) rfl (show RS[35]? = some (37, 0, 38) from rfl)) cn_X0_init (gNw_X2 X) im_X0_init rfl rfl rfl (Nat.le_of_ble_eq_true rfl) (by decide) (by decide) rfl (by decide) (by decide) hZ (Nat.le_of_ble_eq_true rfl) dX2_init_49 ?_
  have hZ := gSz_s 1 hZ
  show G E κ 19 455 _ _ _ _
  show G E κ _ _ _ [some (vr 19), some (vi 7)] [vr 37, vi 7, vr 21] (cm 39 36)
  refine C_aast (i := 7) (j := 7) X (show SH[21]? = some (12, 19) from rfl) (by decide) (show SH[37]? = some (12 - 12, 0) from rfl) (by decide) (by decide) (by decide) rfl (show RS[36]? = some (21, 7, 37) from rfl) dX2_init_52 ?_
  refine G_iinc (x := 7) (v := 1) X dX2_init_53 rfl rfl rfl (ls' := [some (vr 19), some (vi 8)]) rfl ?_
  refine G_goto (tgt := 31) X dX2_init_56 (by decide) ?_
  refine G_iload_n (x := 8) X dX2_init_31 rfl rfl ?_
  refine G_aload_n (x := some 19) X dX2_init_32 rfl rfl ?_
  refine G_getR X fd_X2_17 rfl (tk (show SH[19]? = some (2, 0) from rfl) (by decide)) (show PP 37 19 5 = some 21 by decide +kernel) dX2_init_33 ?_
  refine G_alen X (tk (show SH[21]? = some (12, 19) from rfl) (by decide)) (by decide) dX2_init_36 ?_
  show G E κ _ _ _ _ [vi 19, vi 8] _
  refine G_icmp_ge (tgt := 59) X dX2_init_37 (by decide) (fun hc => absurd hc (by decide)) (fun _ => ?_)
  refine G_aload_n (x := some 19) X dX2_init_40 rfl rfl ?_
  refine G_getR X fd_X2_17 rfl (tk (show SH[19]? = some (2, 0) from rfl) (by decide)) (show PP 37 19 5 = some 21 by decide +kernel) dX2_init_41 ?_
  refine G_iload_n (x := 8) X dX2_init_44 rfl rfl ?_
  refine C_new X cw_X2_15 hZ (show SH[39]? = some (0, 0) from rfl) rfl (by decide) (by decide) dX2_init_45 ?_
  have hZ := gSz_s 1 hZ
  show G E κ 20 457 _ _ _ _
  refine G_dup X rfl dX2_init_48 ?_
  refine C_callIN (As := []) X (c_X0_init E 40 37 39 (show SH[39]? = some (0, 0) from rfl) (by decide) (show SH[40]? = some (10, 40) from rfl) rfl (show RS[37]? = some (39, 0, 40) from rfl)) cn_X0_init (gNw_X2 X) im_X0_init rfl rfl rfl (Nat.le_of_ble_eq_true rfl) (by decide) (by decide) rfl (by decide) (by decide) hZ (Nat.le_of_ble_eq_true rfl) dX2_init_49 ?_
  have hZ := gSz_s 1 hZ
  show G E κ 21 497 _ _ _ _
  show G E κ _ _ _ [some (vr 19), some (vi 8)] [vr 39, vi 8, vr 21] (cm 41 38)
  refine C_aast (i := 8) (j := 8) X (show SH[21]? = some (12, 19) from rfl) (by decide) (show SH[39]? = some (12 - 12, 0) from rfl) (by decide) (by decide) (by decide) rfl (show RS[38]? = some (21, 8, 39) from rfl) dX2_init_52 ?_
  refine G_iinc (x := 8) (v := 1) X dX2_init_53 rfl rfl rfl (ls' := [some (vr 19), some (vi 9)]) rfl ?_
  refine G_goto (tgt := 31) X dX2_init_56 (by decide) ?_
  refine G_iload_n (x := 9) X dX2_init_31 rfl rfl ?_
  refine G_aload_n (x := some 19) X dX2_init_32 rfl rfl ?_
  refine G_getR X fd_X2_17 rfl (tk (show SH[19]? = some (2, 0) from rfl) (by decide)) (show PP 39 19 5 = some 21 by decide +kernel) dX2_init_33 ?_
  refine G_alen X (tk (show SH[21]? = some (12, 19) from rfl) (by decide)) (by decide) dX2_init_36 ?_
  show G E κ _ _ _ _ [vi 19, vi 9] _
  refine G_icmp_ge (tgt := 59) X dX2_init_37 (by decide) (fun hc => absurd hc (by decide)) (fun _ => ?_)
  refine G_aload_n (x := some 19) X dX2_init_40 rfl rfl ?_
  refine G_getR X fd_X2_17 rfl (tk (show SH[19]? = some (2, 0) from rfl) (by decide)) (show PP 39 19 5 = some 21 by decide +kernel) dX2_init_41 ?_
  refine G_iload_n (x := 9) X dX2_init_44 rfl rfl ?_
  refine C_new X cw_X2_15 hZ (show SH[41]? = some (0, 0) from rfl) rfl (by decide) (by decide) dX2_init_45 ?_
  have hZ := gSz_s 1 hZ
  show G E κ 22 499 _ _ _ _
  refine G_dup X rfl dX2_init_48 ?_
  refine C_callIN (As := []) X (c_X0_init E 42 39 41 (show SH[41]? = some (0, 0) from rfl) (by decide) (show SH[42]? = some (10, 40) from rfl) rfl (show RS[39]? = some (41, 0, 42) from rfl)) cn_X0_init (gNw_X2 X) im_X0_init rfl rfl rfl (Nat.le_of_ble_eq_true rfl) (by decide) (by decide) rfl (by decide) (by decide) hZ (Nat.le_of_ble_eq_true rfl) dX2_init_49 ?_
  have hZ := gSz_s 1 hZ
  show G E κ 23 539 _ _ _ _
  show G E κ _ _ _ [some (vr 19), some (vi 9)] [vr 41, vi 9, vr 21] (cm 43 40)
  refine C_aast (i := 9) (j := 9) X (show SH[21]? = some (12, 19) from rfl) (by decide) (show SH[41]? = some (12 - 12, 0) from rfl) (by decide) (by decide) (by decide) rfl (show RS[40]? = some (21, 9, 41) from rfl) dX2_init_52 ?_
  refine G_iinc (x := 9) (v := 1) X dX2_init_53 rfl rfl rfl (ls' := [some (vr 19), some (vi 10)]) rfl ?_
  refine G_goto (tgt := 31) X dX2_init_56 (by decide) ?_
  refine G_iload_n (x := 10) X dX2_init_31 rfl rfl ?_
  refine G_aload_n (x := some 19) X dX2_init_32 rfl rfl ?_
  refine G_getR X fd_X2_17 rfl (tk (show SH[19]? = some (2, 0) from rfl) (by decide)) (show PP 41 19 5 = some 21 by decide +kernel) dX2_init_33 ?_
  refine G_alen X (tk (show SH[21]? = some (12, 19) from rfl) (by decide)) (by decide) dX2_init_36 ?_
  show G E κ _ _ _ _ [vi 19, vi 10] _
  refine G_icmp_ge (tgt := 59) X dX2_init_37 (by decide) (fun hc => absurd hc (by decide)) (fun _ => ?_)
  refine G_aload_n (x := some 19) X dX2_init_40 rfl rfl ?_
  refine G_getR X fd_X2_17 rfl (tk (show SH[19]? = some (2, 0) from rfl) (by decide)) (show PP 41 19 5 = some 21 by decide +kernel) dX2_init_41 ?_
  refine G_iload_n (x := 10) X dX2_init_44 rfl rfl ?_
  refine C_new X cw_X2_15 hZ (show SH[43]? = some (0, 0) from rfl) rfl (by decide) (by decide) dX2_init_45 ?_
  have hZ := gSz_s 1 hZ
  show G E κ 24 541 _ _ _ _
  refine G_dup X rfl dX2_init_48 ?_
  refine C_callIN (As := []) X (c_X0_init E 44 41 43 (show SH[43]? = some (0, 0) from rfl) (by decide) (show SH[44]? = some (10, 40) from rfl) rfl (show RS[41]? = some (43, 0, 44) from rfl)) cn_X0_init (gNw_X2 X) im_X0_init rfl rfl rfl (Nat.le_of_ble_eq_true rfl) (by decide) (by decide) rfl (by decide) (by decide) hZ (Nat.le_of_ble_eq_true rfl) dX2_init_49 ?_
  have hZ := gSz_s 1 hZ
  show G E κ 25 581 _ _ _ _
  show G E κ _ _ _ [some (vr 19), some (vi 10)] [vr 43, vi 10, vr 21] (cm 45 42)
  refine C_aast (i := 10) (j := 10) X (show SH[21]? = some (12, 19) from rfl) (by decide) (show SH[43]? = some (12 - 12, 0) from rfl) (by decide) (by decide) (by decide) rfl (show RS[42]? = some (21, 10, 43) from rfl) dX2_init_52 ?_
  refine G_iinc (x := 10) (v := 1) X dX2_init_53 rfl rfl rfl (ls' := [some (vr 19), some (vi 11)]) rfl ?_
  refine G_goto (tgt := 31) X dX2_init_56 (by decide) ?_
  refine G_iload_n (x := 11) X dX2_init_31 rfl rfl ?_
  refine G_aload_n (x := some 19) X dX2_init_32 rfl rfl ?_
  refine G_getR X fd_X2_17 rfl (tk (show SH[19]? = some (2, 0) from rfl) (by decide)) (show PP 43 19 5 = some 21 by decide +kernel) dX2_init_33 ?_
  refine G_alen X (tk (show SH[21]? = some (12, 19) from rfl) (by decide)) (by decide) dX2_init_36 ?_
  show G E κ _ _ _ _ [vi 19, vi 11] _
  refine G_icmp_ge (tgt := 59) X dX2_init_37 (by decide) (fun hc => absurd hc (by decide)) (fun _ => ?_)
  refine G_aload_n (x := some 19) X dX2_init_40 rfl rfl ?_
  refine G_getR X fd_X2_17 rfl (tk (show SH[19]? = some (2, 0) from rfl) (by decide)) (show PP 43 19 5 = some 21 by decide +kernel) dX2_init_41 ?_
  refine G_iload_n (x := 11) X dX2_init_44 rfl rfl ?_
  refine C_new X cw_X2_15 hZ (show SH[45]? = some (0, 0) from rfl) rfl (by decide) (by decide) dX2_init_45 ?_
  have hZ := gSz_s 1 hZ
  show G E κ 26 583 _ _ _ _
  refine G_dup X rfl dX2_init_48 ?_
  refine C_callIN (As := []) X (c_X0_init E 46 43 45 (show SH[45]? = some (0, 0) from rfl) (by decide) (show SH[46]? = some (10, 40) from rfl) rfl (show RS[43]? = some (45, 0, 46) from rfl)) cn_X0_init (gNw_X2 X) im_X0_init rfl rfl rfl (Nat.le_of_ble_eq_true rfl) (by decide) (by decide) rfl (by decide) (by decide) hZ (Nat.le_of_ble_eq_true rfl) dX2_init_49 ?_
  have hZ := gSz_s 1 hZ
  show G E κ 27 623 _ _ _ _
  show G E κ _ _ _ [some (vr 19), some (vi 11)] [vr 45, vi 11, vr 21] (cm 47 44)
  refine C_aast (i := 11) (j := 11) X (show SH[21]? = some (12, 19) from rfl) (by decide) (show SH[45]? = some (12 - 12, 0) from rfl) (by decide) (by decide) (by decide) rfl (show RS[44]? = some (21, 11, 45) from rfl) dX2_init_52 ?_
  refine G_iinc (x := 11) (v := 1) X dX2_init_53 rfl rfl rfl (ls' := [some (vr 19), some (vi 12)]) rfl ?_
  refine G_goto (tgt := 31) X dX2_init_56 (by decide) ?_
  refine G_iload_n (x := 12) X dX2_init_31 rfl rfl ?_
  refine G_aload_n (x := some 19) X dX2_init_32 rfl rfl ?_
  refine G_getR X fd_X2_17 rfl (tk (show SH[19]? = some (2, 0) from rfl) (by decide)) (show PP 45 19 5 = some 21 by decide +kernel) dX2_init_33 ?_
  refine G_alen X (tk (show SH[21]? = some (12, 19) from rfl) (by decide)) (by decide) dX2_init_36 ?_
  show G E κ _ _ _ _ [vi 19, vi 12] _
  refine G_icmp_ge (tgt := 59) X dX2_init_37 (by decide) (fun hc => absurd hc (by decide)) (fun _ => ?_)
  refine G_aload_n (x := some 19) X dX2_init_40 rfl rfl ?_
  refine G_getR X fd_X2_17 rfl (tk (show SH[19]? = some (2, 0) from rfl) (by decide)) (show PP 45 19 5 = some 21 by decide +kernel) dX2_init_41 ?_
  refine G_iload_n (x := 12) X dX2_init_44 rfl rfl ?_
  refine C_new X cw_X2_15 hZ (show SH[47]? = some (0, 0) from rfl) rfl (by decide) (by decide) dX2_init_45 ?_
  have hZ := gSz_s 1 hZ
  show G E κ 28 625 _ _ _ _
  refine G_dup X rfl dX2_init_48 ?_
  refine C_callIN (As := []) X (c_X0_init E 48 45 47 (show SH[47]? = some (0, 0) from rfl) (by decide) (show SH[48]? = some (10, 40) from rfl) rfl (show RS[45]? = some (47, 0, 48) from rfl)) cn_X0_init (gNw_X2 X) im_X0_init rfl rfl rfl (Nat.le_of_ble_eq_true rfl) (by decide) (by decide) rfl (by decide) (by decide) hZ (Nat.le_of_ble_eq_true rfl) dX2_init_49 ?_
  have hZ := gSz_s 1 hZ
  show G E κ 29 665 _ _ _ _
  show G E κ _ _ _ [some (vr 19), some (vi 12)] [vr 47, vi 12, vr 21] (cm 49 46)
  refine C_aast (i := 12) (j := 12) X (show SH[21]? = some (12, 19) from rfl) (by decide) (show SH[47]? = some (12 - 12, 0) from rfl) (by decide) (by decide) (by decide) rfl (show RS[46]? = some (21, 12, 47) from rfl) dX2_init_52 ?_
  refine G_iinc (x := 12) (v := 1) X dX2_init_53 rfl rfl rfl (ls' := [some (vr 19), some (vi 13)]) rfl ?_
  refine G_goto (tgt := 31) X dX2_init_56 (by decide) ?_
  refine G_iload_n (x := 13) X dX2_init_31 rfl rfl ?_
  refine G_aload_n (x := some 19) X dX2_init_32 rfl rfl ?_
  refine G_getR X fd_X2_17 rfl (tk (show SH[19]? = some (2, 0) from rfl) (by decide)) (show PP 47 19 5 = some 21 by decide +kernel) dX2_init_33 ?_
  refine G_alen X (tk (show SH[21]? = some (12, 19) from rfl) (by decide)) (by decide) dX2_init_36 ?_
  show G E κ _ _ _ _ [vi 19, vi 13] _
  refine G_icmp_ge (tgt := 59) X dX2_init_37 (by decide) (fun hc => absurd hc (by decide)) (fun _ => ?_)
  refine G_aload_n (x := some 19) X dX2_init_40 rfl rfl ?_
  refine G_getR X fd_X2_17 rfl (tk (show SH[19]? = some (2, 0) from rfl) (by decide)) (show PP 47 19 5 = some 21 by decide +kernel) dX2_init_41 ?_
  refine G_iload_n (x := 13) X dX2_init_44 rfl rfl ?_
  refine C_new X cw_X2_15 hZ (show SH[49]? = some (0, 0) from rfl) rfl (by decide) (by decide) dX2_init_45 ?_
  have hZ := gSz_s 1 hZ
  show G E κ 30 667 _ _ _ _
  refine G_dup X rfl dX2_init_48 ?_
  refine C_callIN (As := []) X (c_X0_init E 50 47 49 (show SH[49]? = some (0, 0) from rfl) (by decide) (show SH[50]? = some (10, 40) from rfl) rfl (show RS[47]? = some (49, 0, 50) from rfl)) cn_X0_init (gNw_X2 X) im_X0_init rfl rfl rfl (Nat.le_of_ble_eq_true rfl) (by decide) (by decide) rfl (by decide) (by decide) hZ (Nat.le_of_ble_eq_true rfl) dX2_init_49 ?_
  have hZ := gSz_s 1 hZ
  show G E κ 31 707 _ _ _ _
  show G E κ _ _ _ [some (vr 19), some (vi 13)] [vr 49, vi 13, vr 21] (cm 51 48)
  refine C_aast (i := 13) (j := 13) X (show SH[21]? = some (12, 19) from rfl) (by decide) (show SH[49]? = some (12 - 12, 0) from rfl) (by decide) (by decide) (by decide) rfl (show RS[48]? = some (21, 13, 49) from rfl) dX2_init_52 ?_
  refine G_iinc (x := 13) (v := 1) X dX2_init_53 rfl rfl rfl (ls' := [some (vr 19), some (vi 14)]) rfl ?_
  refine G_goto (tgt := 31) X dX2_init_56 (by decide) ?_
  refine G_iload_n (x := 14) X dX2_init_31 rfl rfl ?_
  refine G_aload_n (x := some 19) X dX2_init_32 rfl rfl ?_
  refine G_getR X fd_X2_17 rfl (tk (show SH[19]? = some (2, 0) from rfl) (by decide)) (show PP 49 19 5 = some 21 by decide +kernel) dX2_init_33 ?_
  refine G_alen X (tk (show SH[21]? = some (12, 19) from rfl) (by decide)) (by decide) dX2_init_36 ?_
  show G E κ _ _ _ _ [vi 19, vi 14] _
  refine G_icmp_ge (tgt := 59) X dX2_init_37 (by decide) (fun hc => absurd hc (by decide)) (fun _ => ?_)
  refine G_aload_n (x := some 19) X dX2_init_40 rfl rfl ?_
  refine G_getR X fd_X2_17 rfl (tk (show SH[19]? = some (2, 0) from rfl) (by decide)) (show PP 49 19 5 = some 21 by decide +kernel) dX2_init_41 ?_
  refine G_iload_n (x := 14) X dX2_init_44 rfl rfl ?_
  refine C_new X cw_X2_15 hZ (show SH[51]? = some (0, 0) from rfl) rfl (by decide) (by decide) dX2_init_45 ?_
  have hZ := gSz_s 1 hZ
  show G E κ 32 709 _ _ _ _
  refine G_dup X rfl dX2_init_48 ?_
  refine C_callIN (As := []) X (c_X0_init E 52 49 51 (show SH[51]? = some (0, 0) from rfl) (by decide) (show SH[52]? = some (10, 40) from rfl) rfl (show RS[49]? = some (51, 0, 52) from rfl)) cn_X0_init (gNw_X2 X) im_X0_init rfl rfl rfl (Nat.le_of_ble_eq_true rfl) (by decide) (by decide) rfl (by decide) (by decide) hZ (Nat.le_of_ble_eq_true rfl) dX2_init_49 ?_
  have hZ := gSz_s 1 hZ
  show G E κ 33 749 _ _ _ _
  show G E κ _ _ _ [some (vr 19), some (vi 14)] [vr 51, vi 14, vr 21] (cm 53 50)
  refine C_aast (i := 14) (j := 14) X (show SH[21]? = some (12, 19) from rfl) (by decide) (show SH[51]? = some (12 - 12, 0) from rfl) (by decide) (by decide) (by decide) rfl (show RS[50]? = some (21, 14, 51) from rfl) dX2_init_52 ?_
  refine G_iinc (x := 14) (v := 1) X dX2_init_53 rfl rfl rfl (ls' := [some (vr 19), some (vi 15)]) rfl ?_
  refine G_goto (tgt := 31) X dX2_init_56 (by decide) ?_
  refine G_iload_n (x := 15) X dX2_init_31 rfl rfl ?_
  refine G_aload_n (x := some 19) X dX2_init_32 rfl rfl ?_
  refine G_getR X fd_X2_17 rfl (tk (show SH[19]? = some (2, 0) from rfl) (by decide)) (show PP 51 19 5 = some 21 by decide +kernel) dX2_init_33 ?_
  refine G_alen X (tk (show SH[21]? = some (12, 19) from rfl) (by decide)) (by decide) dX2_init_36 ?_
  show G E κ _ _ _ _ [vi 19, vi 15] _
  refine G_icmp_ge (tgt := 59) X dX2_init_37 (by decide) (fun hc => absurd hc (by decide)) (fun _ => ?_)
  refine G_aload_n (x := some 19) X dX2_init_40 rfl rfl ?_
  refine G_getR X fd_X2_17 rfl (tk (show SH[19]? = some (2, 0) from rfl) (by decide)) (show PP 51 19 5 = some 21 by decide +kernel) dX2_init_41 ?_
  refine G_iload_n (x := 15) X dX2_init_44 rfl rfl ?_
  refine C_new X cw_X2_15 hZ (show SH[53]? = some (0, 0) from rfl) rfl (by decide) (by decide) dX2_init_45 ?_
  have hZ := gSz_s 1 hZ
  show G E κ 34 751 _ _ _ _
  refine G_dup X rfl dX2_init_48 ?_
  refine C_callIN (As := []) X (c_X0_init E 54 51 53 (show SH[53]? = some (0, 0) from rfl) (by decide) (show SH[54]? = some (10, 40) from rfl) rfl (show RS[51]? = some (53, 0, 54) from rfl)) cn_X0_init (gNw_X2 X) im_X0_init rfl rfl rfl (Nat.le_of_ble_eq_true rfl) (by decide) (by decide) rfl (by decide) (by decide) hZ (Nat.le_of_ble_eq_true rfl) dX2_init_49 ?_
  have hZ := gSz_s 1 hZ
  show G E κ 35 791 _ _ _ _
  show G E κ _ _ _ [some (vr 19), some (vi 15)] [vr 53, vi 15, vr 21] (cm 55 52)
  refine C_aast (i := 15) (j := 15) X (show SH[21]? = some (12, 19) from rfl) (by decide) (show SH[53]? = some (12 - 12, 0) from rfl) (by decide) (by decide) (by decide) rfl (show RS[52]? = some (21, 15, 53) from rfl) dX2_init_52 ?_
  refine G_iinc (x := 15) (v := 1) X dX2_init_53 rfl rfl rfl (ls' := [some (vr 19), some (vi 16)]) rfl ?_
  refine G_goto (tgt := 31) X dX2_init_56 (by decide) ?_
  refine G_iload_n (x := 16) X dX2_init_31 rfl rfl ?_
  refine G_aload_n (x := some 19) X dX2_init_32 rfl rfl ?_
  refine G_getR X fd_X2_17 rfl (tk (show SH[19]? = some (2, 0) from rfl) (by decide)) (show PP 53 19 5 = some 21 by decide +kernel) dX2_init_33 ?_
  refine G_alen X (tk (show SH[21]? = some (12, 19) from rfl) (by decide)) (by decide) dX2_init_36 ?_
  show G E κ _ _ _ _ [vi 19, vi 16] _
  refine G_icmp_ge (tgt := 59) X dX2_init_37 (by decide) (fun hc => absurd hc (by decide)) (fun _ => ?_)
  refine G_aload_n (x := some 19) X dX2_init_40 rfl rfl ?_
  refine G_getR X fd_X2_17 rfl (tk (show SH[19]? = some (2, 0) from rfl) (by decide)) (show PP 53 19 5 = some 21 by decide +kernel) dX2_init_41 ?_
  refine G_iload_n (x := 16) X dX2_init_44 rfl rfl ?_
  refine C_new X cw_X2_15 hZ (show SH[55]? = some (0, 0) from rfl) rfl (by decide) (by decide) dX2_init_45 ?_
  have hZ := gSz_s 1 hZ
  show G E κ 36 793 _ _ _ _
  refine G_dup X rfl dX2_init_48 ?_
  refine C_callIN (As := []) X (c_X0_init E 56 53 55 (show SH[55]? = some (0, 0) from rfl) (by decide) (show SH[56]? = some (10, 40) from rfl) rfl (show RS[53]? = some (55, 0, 56) from rfl)) cn_X0_init (gNw_X2 X) im_X0_init rfl rfl rfl (Nat.le_of_ble_eq_true rfl) (by decide) (by decide) rfl (by decide) (by decide) hZ (Nat.le_of_ble_eq_true rfl) dX2_init_49 ?_
  have hZ := gSz_s 1 hZ
  show G E κ 37 833 _ _ _ _
  show G E κ _ _ _ [some (vr 19), some (vi 16)] [vr 55, vi 16, vr 21] (cm 57 54)
  refine C_aast (i := 16) (j := 16) X (show SH[21]? = some (12, 19) from rfl) (by decide) (show SH[55]? = some (12 - 12, 0) from rfl) (by decide) (by decide) (by decide) rfl (show RS[54]? = some (21, 16, 55) from rfl) dX2_init_52 ?_
  refine G_iinc (x := 16) (v := 1) X dX2_init_53 rfl rfl rfl (ls' := [some (vr 19), some (vi 17)]) rfl ?_
  refine G_goto (tgt := 31) X dX2_init_56 (by decide) ?_
  refine G_iload_n (x := 17) X dX2_init_31 rfl rfl ?_
  refine G_aload_n (x := some 19) X dX2_init_32 rfl rfl ?_
  refine G_getR X fd_X2_17 rfl (tk (show SH[19]? = some (2, 0) from rfl) (by decide)) (show PP 55 19 5 = some 21 by decide +kernel) dX2_init_33 ?_
  refine G_alen X (tk (show SH[21]? = some (12, 19) from rfl) (by decide)) (by decide) dX2_init_36 ?_
  show G E κ _ _ _ _ [vi 19, vi 17] _
  refine G_icmp_ge (tgt := 59) X dX2_init_37 (by decide) (fun hc => absurd hc (by decide)) (fun _ => ?_)
  refine G_aload_n (x := some 19) X dX2_init_40 rfl rfl ?_
  refine G_getR X fd_X2_17 rfl (tk (show SH[19]? = some (2, 0) from rfl) (by decide)) (show PP 55 19 5 = some 21 by decide +kernel) dX2_init_41 ?_
  refine G_iload_n (x := 17) X dX2_init_44 rfl rfl ?_
  refine C_new X cw_X2_15 hZ (show SH[57]? = some (0, 0) from rfl) rfl (by decide) (by decide) dX2_init_45 ?_
  have hZ := gSz_s 1 hZ
  show G E κ 38 835 _ _ _ _
  refine G_dup X rfl dX2_init_48 ?_
  refine C_callIN (As := []) X (c_X0_init E 58 55 57 (show SH[57]? = some (0, 0) from rfl) (by decide) (show SH[58]? = some (10, 40) from rfl) rfl (show RS[55]? = some (57, 0, 58) from rfl)) cn_X0_init (gNw_X2 X) im_X0_init rfl rfl rfl (Nat.le_of_ble_eq_true rfl) (by decide) (by decide) rfl (by decide) (by decide) hZ (Nat.le_of_ble_eq_true rfl) dX2_init_49 ?_
  have hZ := gSz_s 1 hZ
  show G E κ 39 875 _ _ _ _
  show G E κ _ _ _ [some (vr 19), some (vi 17)] [vr 57, vi 17, vr 21] (cm 59 56)
  refine C_aast (i := 17) (j := 17) X (show SH[21]? = some (12, 19) from rfl) (by decide) (show SH[57]? = some (12 - 12, 0) from rfl) (by decide) (by decide) (by decide) rfl (show RS[56]? = some (21, 17, 57) from rfl) dX2_init_52 ?_
  refine G_iinc (x := 17) (v := 1) X dX2_init_53 rfl rfl rfl (ls' := [some (vr 19), some (vi 18)]) rfl ?_
  refine G_goto (tgt := 31) X dX2_init_56 (by decide) ?_
  refine G_iload_n (x := 18) X dX2_init_31 rfl rfl ?_
  refine G_aload_n (x := some 19) X dX2_init_32 rfl rfl ?_
  refine G_getR X fd_X2_17 rfl (tk (show SH[19]? = some (2, 0) from rfl) (by decide)) (show PP 57 19 5 = some 21 by decide +kernel) dX2_init_33 ?_
  refine G_alen X (tk (show SH[21]? = some (12, 19) from rfl) (by decide)) (by decide) dX2_init_36 ?_
  show G E κ _ _ _ _ [vi 19, vi 18] _
  refine G_icmp_ge (tgt := 59) X dX2_init_37 (by decide) (fun hc => absurd hc (by decide)) (fun _ => ?_)
  refine G_aload_n (x := some 19) X dX2_init_40 rfl rfl ?_
  refine G_getR X fd_X2_17 rfl (tk (show SH[19]? = some (2, 0) from rfl) (by decide)) (show PP 57 19 5 = some 21 by decide +kernel) dX2_init_41 ?_
  refine G_iload_n (x := 18) X dX2_init_44 rfl rfl ?_
  refine C_new X cw_X2_15 hZ (show SH[59]? = some (0, 0) from rfl) rfl (by decide) (by decide) dX2_init_45 ?_
  have hZ := gSz_s 1 hZ
  show G E κ 40 877 _ _ _ _
  refine G_dup X rfl dX2_init_48 ?_
  refine C_callIN (As := []) X (c_X0_init E 60 57 59 (show SH[59]? = some (0, 0) from rfl) (by decide) (show SH[60]? = some (10, 40) from rfl) rfl (show RS[57]? = some (59, 0, 60) from rfl)) cn_X0_init (gNw_X2 X) im_X0_init rfl rfl rfl (Nat.le_of_ble_eq_true rfl) (by decide) (by decide) rfl (by decide) (by decide) hZ (Nat.le_of_ble_eq_true rfl) dX2_init_49 ?_
  have hZ := gSz_s 1 hZ
  show G E κ 41 917 _ _ _ _
  show G E κ _ _ _ [some (vr 19), some (vi 18)] [vr 59, vi 18, vr 21] (cm 61 58)
  refine C_aast (i := 18) (j := 18) X (show SH[21]? = some (12, 19) from rfl) (by decide) (show SH[59]? = some (12 - 12, 0) from rfl) (by decide) (by decide) (by decide) rfl (show RS[58]? = some (21, 18, 59) from rfl) dX2_init_52 ?_
  refine G_iinc (x := 18) (v := 1) X dX2_init_53 rfl rfl rfl (ls' := [some (vr 19), some (vi 19)]) rfl ?_
  refine G_goto (tgt := 31) X dX2_init_56 (by decide) ?_
  refine G_iload_n (x := 19) X dX2_init_31 rfl rfl ?_
  refine G_aload_n (x := some 19) X dX2_init_32 rfl rfl ?_
  refine G_getR X fd_X2_17 rfl (tk (show SH[19]? = some (2, 0) from rfl) (by decide)) (show PP 59 19 5 = some 21 by decide +kernel) dX2_init_33 ?_
  refine G_alen X (tk (show SH[21]? = some (12, 19) from rfl) (by decide)) (by decide) dX2_init_36 ?_
  show G E κ _ _ _ _ [vi 19, vi 19] _
  refine G_icmp_ge (tgt := 59) X dX2_init_37 (by decide) (fun _ => ?_) (fun hc => absurd (by decide) hc)
  exact G_vret X hR rfl dX2_init_59
set_option maxRecDepth 100000 in
set_option maxHeartbeats 4000000 in
theorem c_X5_init (E : gEnv) : CtrN E yX5_init cX5_init 2 none 4 78 1545 [vr 0] (cm 1 0) none (cm 79 78) := by
  refine CtrN.mk (by decide +kernel) rfl (Nat.le_of_ble_eq_true rfl) (by decide) fun κ X hR hnm hZ => ?_
  have X : Cx E κ cX5_init 2 RX5 none 4 78 1545 := X
  have hZ : gSz E κ 0 1 := hZ
  show G E κ 0 0 0 [some (vr 0), none] [] (cm 1 0)
  refine G_aload_n (x := some 0) X dX5_init_0 rfl rfl ?_
  refine G_objInit X ml_X5_1 im_obj cd_obj (Nat.le_of_ble_eq_true rfl) (by decide) rfl dX5_init_1 ?_
  refine G_aload_n (x := some 0) X dX5_init_4 rfl rfl ?_
  refine G_bipush (v := 8) X dX5_init_5 rfl ?_
  refine C_newq (kd := 12) X (by decide) cl_X5_9 (by decide) (show SH[1]? = some (12, 8) from rfl) (by decide +kernel) (by decide) hZ rfl (by decide) (by decide) dX5_init_7 ?_
  have hZ := gSz_s 1 hZ
  show G E κ 1 8 _ _ _ _
  refine C_putF X fd_X5_11 (fun q h => by cases h; rfl) rfl (show SH[0]? = some (4, 0) from rfl) (by decide) (fun _ => rfl) (fun _ => rfl) hnm (show RS[0]? = some (0, 0, 1) from rfl) dX5_init_10 ?_
  refine G_aload_n (x := some 0) X dX5_init_13 rfl rfl ?_
  refine C_new X cw_X5_15 hZ (show SH[2]? = some (3, 0) from rfl) rfl (by decide) (by decide) dX5_init_14 ?_
  have hZ := gSz_s 1 hZ
  show G E κ 2 10 _ _ _ _
  refine G_dup X rfl dX5_init_17 ?_
  refine C_callI (As := []) X (c_X3_init E ) cb_X5_17 im_X3_init rfl rfl rfl (Nat.le_of_ble_eq_true rfl) (by decide) (by decide) rfl (by decide) (by decide) hZ (Nat.le_of_ble_eq_true rfl) dX5_init_18 ?_
  have hZ := gSz_s 16 hZ
  show G E κ 18 240 _ _ _ _
  show G E κ _ _ _ [some (vr 0), none] [vr 2, vr 0] (cm 19 17)
  refine C_putF X fd_X5_18 (fun q h => by cases h; rfl) rfl (show SH[0]? = some (4, 0) from rfl) (by decide) (fun _ => rfl) (fun _ => rfl) hnm (show RS[17]? = some (0, 2, 2) from rfl) dX5_init_21 ?_
  refine G_aload_n (x := some 0) X dX5_init_24 rfl rfl ?_
  refine C_new X cw_X5_22 hZ (show SH[19]? = some (2, 0) from rfl) rfl (by decide) (by decide) dX5_init_25 ?_
  have hZ := gSz_s 1 hZ
  show G E κ 19 250 _ _ _ _
  refine G_dup X rfl dX5_init_28 ?_
  refine C_callI (As := []) X (c_X2_init E ) cb_X5_24 im_X2_init rfl rfl rfl (Nat.le_of_ble_eq_true rfl) (by decide) (by decide) rfl (by decide) (by decide) hZ (Nat.le_of_ble_eq_true rfl) dX5_init_29 ?_
  have hZ := gSz_s 41 hZ
  show G E κ 60 1167 _ _ _ _
  show G E κ _ _ _ [some (vr 0), none] [vr 19, vr 0] (cm 61 59)
  refine C_putF X fd_X5_25 (fun q h => by cases h; rfl) rfl (show SH[0]? = some (4, 0) from rfl) (by decide) (fun _ => rfl) (fun _ => rfl) hnm (show RS[59]? = some (0, 3, 19) from rfl) dX5_init_32 ?_
  refine G_aload_n (x := some 0) X dX5_init_35 rfl rfl ?_
  refine C_new X cw_X5_9 hZ (show SH[61]? = some (0, 0) from rfl) rfl (by decide) (by decide) dX5_init_36 ?_
  have hZ := gSz_s 1 hZ
  show G E κ 61 1169 _ _ _ _
  refine G_dup X rfl dX5_init_39 ?_
  refine C_callIN (As := []) X (c_X0_init E 62 60 61 (show SH[61]? = some (0, 0) from rfl) (by decide) (show SH[62]? = some (10, 40) from rfl) rfl (show RS[60]? = some (61, 0, 62) from rfl)) cn_X0_init (gNw_X5 X) im_X0_init rfl rfl rfl (Nat.le_of_ble_eq_true rfl) (by decide) (by decide) rfl (by decide) (by decide) hZ (Nat.le_of_ble_eq_true rfl) dX5_init_40 ?_
  have hZ := gSz_s 1 hZ
  show G E κ 62 1209 _ _ _ _
  show G E κ _ _ _ [some (vr 0), none] [vr 61, vr 0] (cm 63 61)
  refine C_putF X fd_X5_30 (fun q h => by cases h; rfl) rfl (show SH[0]? = some (4, 0) from rfl) (by decide) (fun _ => rfl) (fun _ => rfl) hnm (show RS[61]? = some (0, 4, 61) from rfl) dX5_init_43 ?_
  refine G_iconst (v := 0) X dX5_init_46 rfl ?_
  refine G_istore_n X dX5_init_47 rfl rfl (ls' := [some (vr 0), some (vi 0)]) rfl ?_
  refine G_iload_n (x := 0) X dX5_init_48 rfl rfl ?_
  refine G_aload_n (x := some 0) X dX5_init_49 rfl rfl ?_
  refine G_getR X fd_X5_11 rfl (tk (show SH[0]? = some (4, 0) from rfl) (by decide)) (show PP 62 0 0 = some 1 by decide +kernel) dX5_init_50 ?_
  refine G_alen X (tk (show SH[1]? = some (12, 8) from rfl) (by decide)) (by decide) dX5_init_53 ?_
  show G E κ _ _ _ _ [vi 8, vi 0] _
  refine G_icmp_ge (tgt := 76) X dX5_init_54 (by decide) (fun hc => absurd hc (by decide)) (fun _ => ?_)
  refine G_aload_n (x := some 0) X dX5_init_57 rfl rfl ?_
  refine G_getR X fd_X5_11 rfl (tk (show SH[0]? = some (4, 0) from rfl) (by decide)) (show PP 62 0 0 = some 1 by decide +kernel) dX5_init_58 ?_
  refine G_iload_n (x := 0) X dX5_init_61 rfl rfl ?_
  refine C_new X cw_X5_9 hZ (show SH[63]? = some (0, 0) from rfl) rfl (by decide) (by decide) dX5_init_62 ?_
  have hZ := gSz_s 1 hZ
  show G E κ 63 1211 _ _ _ _
  refine G_dup X rfl dX5_init_65 ?_
  refine C_callIN (As := []) X (c_X0_init E 64 62 63 (show SH[63]? = some (0, 0) from rfl) (by decide) (show SH[64]? = some (10, 40) from rfl) rfl (show RS[62]? = some (63, 0, 64) from rfl)) cn_X0_init (gNw_X5 X) im_X0_init rfl rfl rfl (Nat.le_of_ble_eq_true rfl) (by decide) (by decide) rfl (by decide) (by decide) hZ (Nat.le_of_ble_eq_true rfl) dX5_init_66 ?_
  have hZ := gSz_s 1 hZ
  show G E κ 64 1251 _ _ _ _
  show G E κ _ _ _ [some (vr 0), some (vi 0)] [vr 63, vi 0, vr 1] (cm 65 63)
  refine C_aast (i := 0) (j := 0) X (show SH[1]? = some (12, 8) from rfl) (by decide) (show SH[63]? = some (12 - 12, 0) from rfl) (by decide) (by decide) (by decide) rfl (show RS[63]? = some (1, 0, 63) from rfl) dX5_init_69 ?_
  refine G_iinc (x := 0) (v := 1) X dX5_init_70 rfl rfl rfl (ls' := [some (vr 0), some (vi 1)]) rfl ?_
  refine G_goto (tgt := 48) X dX5_init_73 (by decide) ?_
  refine G_iload_n (x := 1) X dX5_init_48 rfl rfl ?_
  refine G_aload_n (x := some 0) X dX5_init_49 rfl rfl ?_
  refine G_getR X fd_X5_11 rfl (tk (show SH[0]? = some (4, 0) from rfl) (by decide)) (show PP 64 0 0 = some 1 by decide +kernel) dX5_init_50 ?_
  refine G_alen X (tk (show SH[1]? = some (12, 8) from rfl) (by decide)) (by decide) dX5_init_53 ?_
  show G E κ _ _ _ _ [vi 8, vi 1] _
  refine G_icmp_ge (tgt := 76) X dX5_init_54 (by decide) (fun hc => absurd hc (by decide)) (fun _ => ?_)
  refine G_aload_n (x := some 0) X dX5_init_57 rfl rfl ?_
  refine G_getR X fd_X5_11 rfl (tk (show SH[0]? = some (4, 0) from rfl) (by decide)) (show PP 64 0 0 = some 1 by decide +kernel) dX5_init_58 ?_
  refine G_iload_n (x := 1) X dX5_init_61 rfl rfl ?_
  refine C_new X cw_X5_9 hZ (show SH[65]? = some (0, 0) from rfl) rfl (by decide) (by decide) dX5_init_62 ?_
  have hZ := gSz_s 1 hZ
  show G E κ 65 1253 _ _ _ _
  refine G_dup X rfl dX5_init_65 ?_
  refine C_callIN (As := []) X (c_X0_init E 66 64 65 (show SH[65]? = some (0, 0) from rfl) (by decide) (show SH[66]? = some (10, 40) from rfl) rfl (show RS[64]? = some (65, 0, 66) from rfl)) cn_X0_init (gNw_X5 X) im_X0_init rfl rfl rfl (Nat.le_of_ble_eq_true rfl) (by decide) (by decide) rfl (by decide) (by decide) hZ (Nat.le_of_ble_eq_true rfl) dX5_init_66 ?_
  have hZ := gSz_s 1 hZ
  show G E κ 66 1293 _ _ _ _
  show G E κ _ _ _ [some (vr 0), some (vi 1)] [vr 65, vi 1, vr 1] (cm 67 65)
  refine C_aast (i := 1) (j := 1) X (show SH[1]? = some (12, 8) from rfl) (by decide) (show SH[65]? = some (12 - 12, 0) from rfl) (by decide) (by decide) (by decide) rfl (show RS[65]? = some (1, 1, 65) from rfl) dX5_init_69 ?_
  refine G_iinc (x := 1) (v := 1) X dX5_init_70 rfl rfl rfl (ls' := [some (vr 0), some (vi 2)]) rfl ?_
  refine G_goto (tgt := 48) X dX5_init_73 (by decide) ?_
  refine G_iload_n (x := 2) X dX5_init_48 rfl rfl ?_
  refine G_aload_n (x := some 0) X dX5_init_49 rfl rfl ?_
  refine G_getR X fd_X5_11 rfl (tk (show SH[0]? = some (4, 0) from rfl) (by decide)) (show PP 66 0 0 = some 1 by decide +kernel) dX5_init_50 ?_
  refine G_alen X (tk (show SH[1]? = some (12, 8) from rfl) (by decide)) (by decide) dX5_init_53 ?_
  show G E κ _ _ _ _ [vi 8, vi 2] _
  refine G_icmp_ge (tgt := 76) X dX5_init_54 (by decide) (fun hc => absurd hc (by decide)) (fun _ => ?_)
  refine G_aload_n (x := some 0) X dX5_init_57 rfl rfl ?_
  refine G_getR X fd_X5_11 rfl (tk (show SH[0]? = some (4, 0) from rfl) (by decide)) (show PP 66 0 0 = some 1 by decide +kernel) dX5_init_58 ?_
  refine G_iload_n (x := 2) X dX5_init_61 rfl rfl ?_
  refine C_new X cw_X5_9 hZ (show SH[67]? = some (0, 0) from rfl) rfl (by decide) (by decide) dX5_init_62 ?_
  have hZ := gSz_s 1 hZ
  show G E κ 67 1295 _ _ _ _
  refine G_dup X rfl dX5_init_65 ?_
  refine C_callIN (As := []) X (c_X0_init E 68 66 67 (show SH[67]? = some (0, 0) from rfl) (by decide) (show SH[68]? = some (10, 40) from rfl) rfl (show RS[66]? = some (67, 0, 68) from rfl)) cn_X0_init (gNw_X5 X) im_X0_init rfl rfl rfl (Nat.le_of_ble_eq_true rfl) (by decide) (by decide) rfl (by decide) (by decide) hZ (Nat.le_of_ble_eq_true rfl) dX5_init_66 ?_
  have hZ := gSz_s 1 hZ
  show G E κ 68 1335 _ _ _ _
  show G E κ _ _ _ [some (vr 0), some (vi 2)] [vr 67, vi 2, vr 1] (cm 69 67)
  refine C_aast (i := 2) (j := 2) X (show SH[1]? = some (12, 8) from rfl) (by decide) (show SH[67]? = some (12 - 12, 0) from rfl) (by decide) (by decide) (by decide) rfl (show RS[67]? = some (1, 2, 67) from rfl) dX5_init_69 ?_
  refine G_iinc (x := 2) (v := 1) X dX5_init_70 rfl rfl rfl (ls' := [some (vr 0), some (vi 3)]) rfl ?_
  refine G_goto (tgt := 48) X dX5_init_73 (by decide) ?_
  refine G_iload_n (x := 3) X dX5_init_48 rfl rfl ?_
  refine G_aload_n (x := some 0) X dX5_init_49 rfl rfl ?_
  refine G_getR X fd_X5_11 rfl (tk (show SH[0]? = some (4, 0) from rfl) (by decide)) (show PP 68 0 0 = some 1 by decide +kernel) dX5_init_50 ?_
  refine G_alen X (tk (show SH[1]? = some (12, 8) from rfl) (by decide)) (by decide) dX5_init_53 ?_
  show G E κ _ _ _ _ [vi 8, vi 3] _
  refine G_icmp_ge (tgt := 76) X dX5_init_54 (by decide) (fun hc => absurd hc (by decide)) (fun _ => ?_)
  refine G_aload_n (x := some 0) X dX5_init_57 rfl rfl ?_
  refine G_getR X fd_X5_11 rfl (tk (show SH[0]? = some (4, 0) from rfl) (by decide)) (show PP 68 0 0 = some 1 by decide +kernel) dX5_init_58 ?_
  refine G_iload_n (x := 3) X dX5_init_61 rfl rfl ?_
  refine C_new X cw_X5_9 hZ (show SH[69]? = some (0, 0) from rfl) rfl (by decide) (by decide) dX5_init_62 ?_
  have hZ := gSz_s 1 hZ
  show G E κ 69 1337 _ _ _ _
  refine G_dup X rfl dX5_init_65 ?_
  refine C_callIN (As := []) X (c_X0_init E 70 68 69 (show SH[69]? = some (0, 0) from rfl) (by decide) (show SH[70]? = some (10, 40) from rfl) rfl (show RS[68]? = some (69, 0, 70) from rfl)) cn_X0_init (gNw_X5 X) im_X0_init rfl rfl rfl (Nat.le_of_ble_eq_true rfl) (by decide) (by decide) rfl (by decide) (by decide) hZ (Nat.le_of_ble_eq_true rfl) dX5_init_66 ?_
  have hZ := gSz_s 1 hZ
  show G E κ 70 1377 _ _ _ _
  show G E κ _ _ _ [some (vr 0), some (vi 3)] [vr 69, vi 3, vr 1] (cm 71 69)
  refine C_aast (i := 3) (j := 3) X (show SH[1]? = some (12, 8) from rfl) (by decide) (show SH[69]? = some (12 - 12, 0) from rfl) (by decide) (by decide) (by decide) rfl (show RS[69]? = some (1, 3, 69) from rfl) dX5_init_69 ?_
  refine G_iinc (x := 3) (v := 1) X dX5_init_70 rfl rfl rfl (ls' := [some (vr 0), some (vi 4)]) rfl ?_
  refine G_goto (tgt := 48) X dX5_init_73 (by decide) ?_
  refine G_iload_n (x := 4) X dX5_init_48 rfl rfl ?_
  refine G_aload_n (x := some 0) X dX5_init_49 rfl rfl ?_
  refine G_getR X fd_X5_11 rfl (tk (show SH[0]? = some (4, 0) from rfl) (by decide)) (show PP 70 0 0 = some 1 by decide +kernel) dX5_init_50 ?_
  refine G_alen X (tk (show SH[1]? = some (12, 8) from rfl) (by decide)) (by decide) dX5_init_53 ?_
  show G E κ _ _ _ _ [vi 8, vi 4] _
  refine G_icmp_ge (tgt := 76) X dX5_init_54 (by decide) (fun hc => absurd hc (by decide)) (fun _ => ?_)
  refine G_aload_n (x := some 0) X dX5_init_57 rfl rfl ?_
  refine G_getR X fd_X5_11 rfl (tk (show SH[0]? = some (4, 0) from rfl) (by decide)) (show PP 70 0 0 = some 1 by decide +kernel) dX5_init_58 ?_
  refine G_iload_n (x := 4) X dX5_init_61 rfl rfl ?_
  refine C_new X cw_X5_9 hZ (show SH[71]? = some (0, 0) from rfl) rfl (by decide) (by decide) dX5_init_62 ?_
  have hZ := gSz_s 1 hZ
  show G E κ 71 1379 _ _ _ _
  refine G_dup X rfl dX5_init_65 ?_
  refine C_callIN (As := []) X (c_X0_init E 72 70 71 (show SH[71]? = some (0, 0) from rfl) (by decide) (show SH[72]? = some (10, 40) from rfl) rfl (show RS[70]? = some (71, 0, 72) from rfl)) cn_X0_init (gNw_X5 X) im_X0_init rfl rfl rfl (Nat.le_of_ble_eq_true rfl) (by decide) (by decide) rfl (by decide) (by decide) hZ (Nat.le_of_ble_eq_true rfl) dX5_init_66 ?_
  have hZ := gSz_s 1 hZ
  show G E κ 72 1419 _ _ _ _
  show G E κ _ _ _ [some (vr 0), some (vi 4)] [vr 71, vi 4, vr 1] (cm 73 71)
  refine C_aast (i := 4) (j := 4) X (show SH[1]? = some (12, 8) from rfl) (by decide) (show SH[71]? = some (12 - 12, 0) from rfl) (by decide) (by decide) (by decide) rfl (show RS[71]? = some (1, 4, 71) from rfl) dX5_init_69 ?_
  refine G_iinc (x := 4) (v := 1) X dX5_init_70 rfl rfl rfl (ls' := [some (vr 0), some (vi 5)]) rfl ?_
  refine G_goto (tgt := 48) X dX5_init_73 (by decide) ?_
  refine G_iload_n (x := 5) X dX5_init_48 rfl rfl ?_
  refine G_aload_n (x := some 0) X dX5_init_49 rfl rfl ?_
  refine G_getR X fd_X5_11 rfl (tk (show SH[0]? = some (4, 0) from rfl) (by decide)) (show PP 72 0 0 = some 1 by decide +kernel) dX5_init_50 ?_
  refine G_alen X (tk (show SH[1]? = some (12, 8) from rfl) (by decide)) (by decide) dX5_init_53 ?_
  show G E κ _ _ _ _ [vi 8, vi 5] _
  refine G_icmp_ge (tgt := 76) X dX5_init_54 (by decide) (fun hc => absurd hc (by decide)) (fun _ => ?_)
  refine G_aload_n (x := some 0) X dX5_init_57 rfl rfl ?_
  refine G_getR X fd_X5_11 rfl (tk (show SH[0]? = some (4, 0) from rfl) (by decide)) (show PP 72 0 0 = some 1 by decide +kernel) dX5_init_58 ?_
  refine G_iload_n (x := 5) X dX5_init_61 rfl rfl ?_
  refine C_new X cw_X5_9 hZ (show SH[73]? = some (0, 0) from rfl) rfl (by decide) (by decide) dX5_init_62 ?_
  have hZ := gSz_s 1 hZ
  show G E κ 73 1421 _ _ _ _
  refine G_dup X rfl dX5_init_65 ?_
  refine C_callIN (As := []) X (c_X0_init E 74 72 73 (show SH[73]? = some (0, 0) from rfl) (by decide) (show SH[74]? = some (10, 40) from rfl) rfl (show RS[72]? = some (73, 0, 74) from rfl)) cn_X0_init (gNw_X5 X) im_X0_init rfl rfl rfl (Nat.le_of_ble_eq_true rfl) (by decide) (by decide) rfl (by decide) (by decide) hZ (Nat.le_of_ble_eq_true rfl) dX5_init_66 ?_
  have hZ := gSz_s 1 hZ
  show G E κ 74 1461 _ _ _ _
  show G E κ _ _ _ [some (vr 0), some (vi 5)] [vr 73, vi 5, vr 1] (cm 75 73)
  refine C_aast (i := 5) (j := 5) X (show SH[1]? = some (12, 8) from rfl) (by decide) (show SH[73]? = some (12 - 12, 0) from rfl) (by decide) (by decide) (by decide) rfl (show RS[73]? = some (1, 5, 73) from rfl) dX5_init_69 ?_
  refine G_iinc (x := 5) (v := 1) X dX5_init_70 rfl rfl rfl (ls' := [some (vr 0), some (vi 6)]) rfl ?_
  refine G_goto (tgt := 48) X dX5_init_73 (by decide) ?_
  refine G_iload_n (x := 6) X dX5_init_48 rfl rfl ?_
  refine G_aload_n (x := some 0) X dX5_init_49 rfl rfl ?_
  refine G_getR X fd_X5_11 rfl (tk (show SH[0]? = some (4, 0) from rfl) (by decide)) (show PP 74 0 0 = some 1 by decide +kernel) dX5_init_50 ?_
  refine G_alen X (tk (show SH[1]? = some (12, 8) from rfl) (by decide)) (by decide) dX5_init_53 ?_
  show G E κ _ _ _ _ [vi 8, vi 6] _
  refine G_icmp_ge (tgt := 76) X dX5_init_54 (by decide) (fun hc => absurd hc (by decide)) (fun _ => ?_)
  refine G_aload_n (x := some 0) X dX5_init_57 rfl rfl ?_
  refine G_getR X fd_X5_11 rfl (tk (show SH[0]? = some (4, 0) from rfl) (by decide)) (show PP 74 0 0 = some 1 by decide +kernel) dX5_init_58 ?_
  refine G_iload_n (x := 6) X dX5_init_61 rfl rfl ?_
  refine C_new X cw_X5_9 hZ (show SH[75]? = some (0, 0) from rfl) rfl (by decide) (by decide) dX5_init_62 ?_
  have hZ := gSz_s 1 hZ
  show G E κ 75 1463 _ _ _ _
  refine G_dup X rfl dX5_init_65 ?_
  refine C_callIN (As := []) X (c_X0_init E 76 74 75 (show SH[75]? = some (0, 0) from rfl) (by decide) (show SH[76]? = some (10, 40) from rfl) rfl (show RS[74]? = some (75, 0, 76) from rfl)) cn_X0_init (gNw_X5 X) im_X0_init rfl rfl rfl (Nat.le_of_ble_eq_true rfl) (by decide) (by decide) rfl (by decide) (by decide) hZ (Nat.le_of_ble_eq_true rfl) dX5_init_66 ?_
  have hZ := gSz_s 1 hZ
  show G E κ 76 1503 _ _ _ _
  show G E κ _ _ _ [some (vr 0), some (vi 6)] [vr 75, vi 6, vr 1] (cm 77 75)
  refine C_aast (i := 6) (j := 6) X (show SH[1]? = some (12, 8) from rfl) (by decide) (show SH[75]? = some (12 - 12, 0) from rfl) (by decide) (by decide) (by decide) rfl (show RS[75]? = some (1, 6, 75) from rfl) dX5_init_69 ?_
  refine G_iinc (x := 6) (v := 1) X dX5_init_70 rfl rfl rfl (ls' := [some (vr 0), some (vi 7)]) rfl ?_
  refine G_goto (tgt := 48) X dX5_init_73 (by decide) ?_
  refine G_iload_n (x := 7) X dX5_init_48 rfl rfl ?_
  refine G_aload_n (x := some 0) X dX5_init_49 rfl rfl ?_
  refine G_getR X fd_X5_11 rfl (tk (show SH[0]? = some (4, 0) from rfl) (by decide)) (show PP 76 0 0 = some 1 by decide +kernel) dX5_init_50 ?_
  refine G_alen X (tk (show SH[1]? = some (12, 8) from rfl) (by decide)) (by decide) dX5_init_53 ?_
  show G E κ _ _ _ _ [vi 8, vi 7] _
  refine G_icmp_ge (tgt := 76) X dX5_init_54 (by decide) (fun hc => absurd hc (by decide)) (fun _ => ?_)
  refine G_aload_n (x := some 0) X dX5_init_57 rfl rfl ?_
  refine G_getR X fd_X5_11 rfl (tk (show SH[0]? = some (4, 0) from rfl) (by decide)) (show PP 76 0 0 = some 1 by decide +kernel) dX5_init_58 ?_
  refine G_iload_n (x := 7) X dX5_init_61 rfl rfl ?_
  refine C_new X cw_X5_9 hZ (show SH[77]? = some (0, 0) from rfl) rfl (by decide) (by decide) dX5_init_62 ?_
  have hZ := gSz_s 1 hZ
  show G E κ 77 1505 _ _ _ _
  refine G_dup X rfl dX5_init_65 ?_
  refine C_callIN (As := []) X (c_X0_init E 78 76 77 (show SH[77]? = some (0, 0) from rfl) (by decide) (show SH[78]? = some (10, 40) from rfl) rfl (show RS[76]? = some (77, 0, 78) from rfl)) cn_X0_init (gNw_X5 X) im_X0_init rfl rfl rfl (Nat.le_of_ble_eq_true rfl) (by decide) (by decide) rfl (by decide) (by decide) hZ (Nat.le_of_ble_eq_true rfl) dX5_init_66 ?_
  have hZ := gSz_s 1 hZ
  show G E κ 78 1545 _ _ _ _
  show G E κ _ _ _ [some (vr 0), some (vi 7)] [vr 77, vi 7, vr 1] (cm 79 77)
  refine C_aast (i := 7) (j := 7) X (show SH[1]? = some (12, 8) from rfl) (by decide) (show SH[77]? = some (12 - 12, 0) from rfl) (by decide) (by decide) (by decide) rfl (show RS[77]? = some (1, 7, 77) from rfl) dX5_init_69 ?_
  refine G_iinc (x := 7) (v := 1) X dX5_init_70 rfl rfl rfl (ls' := [some (vr 0), some (vi 8)]) rfl ?_
  refine G_goto (tgt := 48) X dX5_init_73 (by decide) ?_
  refine G_iload_n (x := 8) X dX5_init_48 rfl rfl ?_
  refine G_aload_n (x := some 0) X dX5_init_49 rfl rfl ?_
  refine G_getR X fd_X5_11 rfl (tk (show SH[0]? = some (4, 0) from rfl) (by decide)) (show PP 78 0 0 = some 1 by decide +kernel) dX5_init_50 ?_
  refine G_alen X (tk (show SH[1]? = some (12, 8) from rfl) (by decide)) (by decide) dX5_init_53 ?_
  show G E κ _ _ _ _ [vi 8, vi 8] _
  refine G_icmp_ge (tgt := 76) X dX5_init_54 (by decide) (fun _ => ?_) (fun hc => absurd (by decide) hc)
  exact G_vret X hR rfl dX5_init_76
/-! behind both constructors: the memory with which the calls begin -/
def I0 : gI := fun a j => if a = 3 then nI (4 + 3 * j) else if a = 19 ∧ j = 6 then nI 22 else 0
def chk0 (a : Nat) : Bool := match SH[a]? with
  | some (kd, n) => if kd < 10 then (List.range (gN kd)).all (fun k => if gR kd k = true then PP 78 a k == Pof I0 a k else I0 a k == 0) else if kd < 12 then a != 3 && a != 19 else (List.range n).all (fun j => PP 78 a j == Pof I0 a j)
  | none => true
theorem chk0_all : ∀ a, a < 79 → chk0 a = true := by decide +kernel
theorem I0_zero {a : Nat} (h3 : a ≠ 3) (h19 : a ≠ 19) : I0 a = Z0 a := by
  funext j
  simp [I0, Z0, h3, h19]
theorem arrV_congr {cA : ClassId} {n : Nat} {f g : Nat → Value} (h : ∀ j, j < n → f j = g j) : arrV cA n f = arrV cA n g := by
  unfold arrV
  congr 2
  funext j
  exact h j.val j.isLt
theorem start_world {D : va_G} {Gc : Nat → ClassId} {B : Nat} {H : Heap} (h : va_P D vwCl (gW Gc B (cm 79 78)) H) : va_P D vwCl (gW Gc B (mm I0)) H := by
  intro a q hq
  obtain ⟨⟨kd, n⟩, hsh, rfl⟩ := gW_of hq
  have hsh' : SH[a]? = some (kd, n) := hsh
  have hlt : a < 79 := (List.getElem?_eq_some_iff.mp hsh').1
  have h0 := h a _ (gW_at (Gc := Gc) (B := B) (M := cm 79 78) (tk hsh' hlt))
  have hc := chk0_all a hlt
  unfold chk0 at hc
  rw [hsh'] at hc
  simp only at hc
  by_cases h10 : kd < 10
  · rw [if_pos h10] at hc
    rw [gE_obj h10] at h0 ⊢
    have e : (List.range (gN kd)).map (gF B I0 (Pof I0) kd a) = (List.range (gN kd)).map (gF B Z0 (PP 78) kd a) := by
      apply List.map_congr_left
      intro k hk
      have hk2 := List.all_eq_true.mp hc k hk
      unfold gF
      by_cases hr : gR kd k = true
      · rw [if_pos hr] at hk2
        rw [if_pos hr, if_pos hr, eq_of_beq hk2]
      · rw [if_neg hr] at hk2
        rw [if_neg hr, if_neg hr, eq_of_beq hk2]
        rfl
    show va_at D vwCl (B + a, .inr (kd, (List.range (gN kd)).map (gF B I0 (Pof I0) kd a))) H
    rw [e]
    exact h0
  · rw [if_neg h10] at hc
    by_cases h12 : kd < 12
    · rw [if_pos h12] at hc
      simp only [Bool.and_eq_true, bne_iff_ne, ne_eq] at hc
      rw [gE_int h10 h12] at h0 ⊢
      show va_at D vwCl (B + a, .inl (Gc kd, n, .inl (I0 a))) H
      rw [I0_zero hc.1 hc.2]
      exact h0
    · rw [if_neg h12] at hc
      rw [gE_ref h12] at h0 ⊢
      have h0' : H[B + a]? = some (vp_cell (Gc kd) (n, .inr (.inr (.inr (.inr (fun j => (PP 78 a j).map (fun x => B + x))))))) := h0
      show H[B + a]? = some (vp_cell (Gc kd) (n, .inr (.inr (.inr (.inr (fun j => (Pof I0 a j).map (fun x => B + x)))))))
      rw [h0', vp_cell_q, vp_cell_q]
      refine congrArg some (arrV_congr fun j hj => ?_)
      have hk2 := List.all_eq_true.mp hc j (List.mem_range.mpr hj)
      rw [eq_of_beq hk2]
