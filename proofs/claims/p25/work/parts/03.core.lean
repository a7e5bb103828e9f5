/-! THE MEMORY: cells in the order in which they are made, from the address B on; a cell has a kind and a size, numbers I and cells' numbers P -/
abbrev gV : Type := (Int32 ⊕ Option Nat) ⊕ Int64
abbrev vi (x : Int32) : gV := .inl (.inl x)
abbrev vr (a : Nat) : gV := .inl (.inr (some a))
abbrev vsc : gV := .inl (.inr none)
abbrev vl (x : Int64) : gV := .inr x
def gv (B b : Nat) (v : gV) : Value := match v with
  | .inl (.inl x) => .int x
  | .inl (.inr (some a)) => .ref (B + a)
  | .inl (.inr none) => .ref b
  | .inr x => .long x
/-- a value of one word -/
def c1 (v : gV) : Bool := match v with
  | .inl _ => true
  | .inr _ => false
abbrev gI : Type := Nat → Nat → Int32
abbrev gP : Type := Nat → Nat → Option Nat
abbrev gM : Type := List (Nat × Nat) × gI × gP
/-- number of fields of a class (its place in vwCl), and which of them hold cells -/
def gN (ci : Nat) : Nat := match ci with
  | 0 => 2
  | 1 => 3
  | 2 => 10
  | 3 => 2
  | 4 => 5
  | _ => 17
def gR (ci k : Nat) : Bool := match ci with
  | 0 => k == 0
  | 1 => k == 0
  | 2 => k == 0 || k == 5 || k == 6
  | 3 => k == 0
  | 4 => k == 0 || k == 2 || k == 3 || k == 4
  | _ => k == 0 || k == 2 || k == 4 || k == 9
def gF (B : Nat) (I : gI) (P : gP) (ci a k : Nat) : Value := if gR ci k = true then va_rf ((P a k).map (fun x => B + x)) else .int (I a k)
/-- kinds: 0 to 5 an object of this place in vwCl; 10 ints, 11 chars, 12 rows of bits, 13 changes -/
def gE (Gc : Nat → ClassId) (B : Nat) (I : gI) (P : gP) (a : Nat) (sh : Nat × Nat) : va_E :=
  if sh.1 < 10 then .inr (sh.1, (List.range (gN sh.1)).map (gF B I P sh.1 a))
  else if sh.1 < 12 then .inl (Gc sh.1, sh.2, .inl (I a))
  else .inl (Gc sh.1, sh.2, .inr (.inr (.inr (.inr (fun j => (P a j).map (fun x => B + x))))))
def gW (Gc : Nat → ClassId) (B : Nat) (M : gM) : va_W := M.1.mapIdx fun a sh => (B + a, gE Gc B M.2.1 M.2.2 a sh)
def uI (I : gI) (a k : Nat) (x : Int32) : gI := fun c => if c = a then upd (I c) k x else I c
def uP (P : gP) (a k : Nat) (x : Option Nat) : gP := fun c => if c = a then va_up (P c) k x else P c
theorem gW_at {Gc : Nat → ClassId} {B : Nat} {M : gM} {a : Nat} {sh : Nat × Nat} (h : M.1[a]? = some sh) : (gW Gc B M)[a]? = some (B + a, gE Gc B M.2.1 M.2.2 a sh) := by
  simp [gW, List.getElem?_mapIdx, h]
theorem gW_of {Gc : Nat → ClassId} {B : Nat} {M : gM} {a : Nat} {q : Nat × va_E} (h : (gW Gc B M)[a]? = some q) : ∃ sh, M.1[a]? = some sh ∧ q = (B + a, gE Gc B M.2.1 M.2.2 a sh) := by
  simp only [gW, List.getElem?_mapIdx, Option.map_eq_some_iff] at h
  obtain ⟨sh, h1, h2⟩ := h
  exact ⟨sh, h1, h2.symm⟩
theorem gW_D {Gc : Nat → ClassId} {B : Nat} {M : gM} : va_D (fun q => B ≤ q) (gW Gc B M) := by
  refine ⟨fun i j p q hp hq h => ?_, fun k q hq => ?_⟩
  · obtain ⟨_, _, rfl⟩ := gW_of hp
    obtain ⟨_, _, rfl⟩ := gW_of hq
    have h' : B + i = B + j := h
    omega
  · obtain ⟨_, _, rfl⟩ := gW_of hq
    exact Nat.le_add_right _ _
theorem gE_uI_ne {Gc : Nat → ClassId} {B : Nat} {I : gI} {P : gP} {a c k : Nat} {x : Int32} {sh : Nat × Nat} (h : c ≠ a) : gE Gc B (uI I a k x) P c sh = gE Gc B I P c sh := by
  have e : uI I a k x c = I c := by simp [uI, h]
  have e2 : gF B (uI I a k x) P sh.1 c = gF B I P sh.1 c := by funext j; simp [gF, e]
  simp only [gE, e, e2]
theorem gE_uP_ne {Gc : Nat → ClassId} {B : Nat} {I : gI} {P : gP} {a c k : Nat} {x : Option Nat} {sh : Nat × Nat} (h : c ≠ a) : gE Gc B I (uP P a k x) c sh = gE Gc B I P c sh := by
  have e : uP P a k x c = P c := by simp [uP, h]
  have e2 : gF B I (uP P a k x) sh.1 c = gF B I P sh.1 c := by funext j; simp [gF, e]
  simp only [gE, e, e2]
theorem gW_set {Gc : Nat → ClassId} {B : Nat} {S : List (Nat × Nat)} {I I' : gI} {P P' : gP} {a : Nat} {sh : Nat × Nat} (h : S[a]? = some sh) (hne : ∀ c s, c ≠ a → gE Gc B I' P' c s = gE Gc B I P c s) : gW Gc B (S, I', P') = (gW Gc B (S, I, P)).set a (B + a, gE Gc B I' P' a sh) := by
  apply List.ext_getElem?
  intro i
  by_cases hi : i = a
  · subst hi
    have hlt : i < (gW Gc B (S, I, P)).length := by
      simp only [gW, List.length_mapIdx]
      exact (List.getElem?_eq_some_iff.mp h).1
    rw [List.getElem?_set_self hlt]
    exact gW_at h
  · rw [List.getElem?_set_ne (Ne.symm hi)]
    simp only [gW, List.getElem?_mapIdx]
    cases S[i]? with
    | none => rfl
    | some s => simp [hne i s hi]
theorem gW_uI {Gc : Nat → ClassId} {B : Nat} {S : List (Nat × Nat)} {I : gI} {P : gP} {a k : Nat} {x : Int32} {sh : Nat × Nat} (h : S[a]? = some sh) : gW Gc B (S, uI I a k x, P) = (gW Gc B (S, I, P)).set a (B + a, gE Gc B (uI I a k x) P a sh) := gW_set h fun _ _ hc => gE_uI_ne hc
theorem gW_uP {Gc : Nat → ClassId} {B : Nat} {S : List (Nat × Nat)} {I : gI} {P : gP} {a k : Nat} {x : Option Nat} {sh : Nat × Nat} (h : S[a]? = some sh) : gW Gc B (S, I, uP P a k x) = (gW Gc B (S, I, P)).set a (B + a, gE Gc B I (uP P a k x) a sh) := gW_set h fun _ _ hc => gE_uP_ne hc
theorem gE_obj {Gc : Nat → ClassId} {B : Nat} {I : gI} {P : gP} {a ci n : Nat} (h : ci < 10) : gE Gc B I P a (ci, n) = .inr (ci, (List.range (gN ci)).map (gF B I P ci a)) := by simp [gE, h]
theorem gE_int {Gc : Nat → ClassId} {B : Nat} {I : gI} {P : gP} {a kd n : Nat} (h1 : ¬ kd < 10) (h2 : kd < 12) : gE Gc B I P a (kd, n) = .inl (Gc kd, n, .inl (I a)) := by simp [gE, h1, h2]
theorem gE_ref {Gc : Nat → ClassId} {B : Nat} {I : gI} {P : gP} {a kd n : Nat} (h2 : ¬ kd < 12) : gE Gc B I P a (kd, n) = .inl (Gc kd, n, .inr (.inr (.inr (.inr (fun j => (P a j).map (fun x => B + x)))))) := by
  have h1 : ¬ kd < 10 := by omega
  simp [gE, h1, h2]
theorem gFs_at {B : Nat} {I : gI} {P : gP} {ci a k : Nat} (h : k < gN ci) : ((List.range (gN ci)).map (gF B I P ci a))[k]? = some (gF B I P ci a k) := by
  simp [h]
theorem gFs_uI {B : Nat} {I : gI} {P : gP} {ci a k : Nat} {x : Int32} (h : k < gN ci) (hr : gR ci k = false) : (List.range (gN ci)).map (gF B (uI I a k x) P ci a) = ((List.range (gN ci)).map (gF B I P ci a)).set k (.int x) := by
  apply List.ext_getElem?
  intro i
  by_cases hi : i = k
  · subst hi
    rw [List.getElem?_set_self (by simpa using h), gFs_at h]
    simp [gF, hr, uI, upd]
  · rw [List.getElem?_set_ne (Ne.symm hi)]
    simp only [List.getElem?_map]
    cases hh : (List.range (gN ci))[i]? with
    | none => rfl
    | some j =>
      by_cases hj : j = k
      · exfalso
        obtain ⟨_, h3⟩ := List.getElem?_eq_some_iff.mp hh
        simp at h3
        omega
      · simp [gF, uI, upd, hj]
theorem gFs_uP {B : Nat} {I : gI} {P : gP} {ci a k : Nat} {x : Option Nat} (h : k < gN ci) (hr : gR ci k = true) : (List.range (gN ci)).map (gF B I (uP P a k x) ci a) = ((List.range (gN ci)).map (gF B I P ci a)).set k (va_rf (x.map (fun y => B + y))) := by
  apply List.ext_getElem?
  intro i
  by_cases hi : i = k
  · subst hi
    rw [List.getElem?_set_self (by simpa using h), gFs_at h]
    simp [gF, hr, uP, va_up]
  · rw [List.getElem?_set_ne (Ne.symm hi)]
    simp only [List.getElem?_map]
    cases hh : (List.range (gN ci))[i]? with
    | none => rfl
    | some j =>
      by_cases hj : j = k
      · exfalso
        obtain ⟨_, h3⟩ := List.getElem?_eq_some_iff.mp hh
        simp at h3
        omega
      · simp [gF, uP, va_up, hj]
/-! THE WORDS that every method may use, and what the tables say besides -/
def gT : List Cond := lw_tbl.filter goodWord
theorem gT_in {w : Cond} (i : Nat) (h : lw_tbl[i]? = some w) (hg : goodWord w = true) : w ∈ gT := List.mem_filter.mpr ⟨List.mem_of_getElem? h, hg⟩
theorem gT_good {ws : List Cond} (h : ∀ w ∈ ws, w ∈ gT) : GoodIn gT ws := fun w hw => ⟨h w hw, good_of_word (List.mem_filter.mp (h w hw)).2⟩
def gTy (Gc : Nat → ClassId) : List (ClassId × FieldType) := [(Gc 10, .int), (Gc 11, .char), (Gc 12, .object RX0), (Gc 13, .object RX1)]
def gKK (D : va_G) (Gc : Nat → ClassId) (U : State) : Prop := va_K D vwCl (gTy Gc) U ∧ va_AO RX0 U ∧ va_AO RX1 U ∧ va_Nw (.methodLinkNest RX5 29 yX0_init RX5) U ∧ va_Nw (.methodLinkNest RX1 9 yX0_init RX5) U ∧ va_Nw (.methodLinkNest RX2 24 yX0_init RX5) U ∧ va_Nw (.methodLinkNest RX3 17 yX1_init RX5) U
theorem gKK.moved {D : va_G} {Gc : Nat → ClassId} {s U : State} (hW : s.WarmedH U.vm) (h : gKK D Gc s) : gKK D Gc U :=
  ⟨va_K.moved hW.alike h.1, va_AO.moved hW.alike h.2.1, va_AO.moved hW.alike h.2.2.1, va_Nw.warmM hW h.2.2.2.1, va_Nw.warmM hW h.2.2.2.2.1, va_Nw.warmM hW h.2.2.2.2.2.1, va_Nw.warmM hW h.2.2.2.2.2.2⟩
theorem gKK.same {D : va_G} {Gc : Nat → ClassId} {s U : State} (e : s.vm = U.vm) (h : gKK D Gc s) : gKK D Gc U :=
  ⟨va_K.moved (by rw [e]; exact Vm.Alike.refl _) h.1, va_AO.moved (by rw [e]; exact Vm.Alike.refl _) h.2.1, va_AO.moved (by rw [e]; exact Vm.Alike.refl _) h.2.2.1, va_Nw.same rfl e h.2.2.2.1, va_Nw.same rfl e h.2.2.2.2.1, va_Nw.same rfl e h.2.2.2.2.2.1, va_Nw.same rfl e h.2.2.2.2.2.2⟩
/-! THE JUDGEMENT -/
abbrev gEnv : Type := Launch × va_G × (Nat → ClassId) × Nat × Nat
abbrev gCtx : Type := Program × Env × Room × State × MethodId × Array Value × List Frame × Method × Code × (State → Prop)
def gLk (B b : Nat) (la : Array Slot) (ls : List (Option gV)) : Prop := la.size = ls.length ∧ lv_wf la ∧ ∀ (i : Nat) (v : gV), ls[i]? = some (some v) → la[i]? = some (Slot.val (gv B b v))
def G (E : gEnv) (κ : gCtx) (cells slots pc : Nat) (ls : List (Option gV)) (st : List gV) (M : gM) : Prop := match E, κ with
  | (l, D, Gc, B, b), (p, e, R, s, m, args, below, meth, c, Q) =>
    ∀ (H : Heap) (locs : List Loc) (la : Array Slot), gLk B b la ls → va_P D vwCl (gW Gc B M) H → va_S (fun q => B ≤ q) s.heap H locs → W p l e R s m args below meth c H locs cells slots Q (F0 m pc la (st.map (gv B b)))
def Cx (E : gEnv) (κ : gCtx) (cc : ByteArray) (nL : Nat) (own : String) (ret : Option FieldType) (d cz sz : Nat) : Prop := match E, κ with
  | (_, D, Gc, B, _), (p, _, R, s, m, args, _, meth, c, _) =>
    p.tables.exec = Jvm.exec ∧ c.code = cc ∧ c.maxLocals = nL ∧ s.vm.findClass own = some m.cls ∧ (∀ w ∈ gT, w.before args s = true) ∧ gKK D Gc s ∧ B ≤ s.heap.size ∧ meth.locks = false ∧ meth.sig.returnType = ret ∧ d ≤ R.frames ∧ 40 * d ≤ R.locals ∧ cz ≤ R.cells ∧ sz ≤ R.slots
def gQo (D : va_G) (Gc : Nat → ClassId) (B b : Nat) (rv : Option gV) (M' : gM) : Array Value → State → Outcome → State → Prop := fun _ st oc t => oc = .returned (rv.map (gv B b)) ∧ va_P D vwCl (gW Gc B M') t.heap ∧ va_F (fun q => B ≤ q) st t
def gPr (D : va_G) (Gc : Nat → ClassId) (B : Nat) (M : gM) (U : State) : Prop := va_P D vwCl (gW Gc B M) U.heap ∧ gKK D Gc U ∧ B ≤ U.heap.size
def gRt (E : gEnv) (κ : gCtx) (mc ms : Nat) (rv : Option gV) (M' : gM) : Prop := match E, κ with
  | (_, D, Gc, B, b), (_, _, _, s, _, args, below, _, _, Q) => Q = MQ below (gQo D Gc B b rv M') args s mc ms (fun q => B ≤ q)
def gws (y : MethodName) (b : ByteArray) (nL : Nat) (ret : Option FieldType) : List Cond := .code y b nL ret :: gT
def Ctr (E : gEnv) (y : MethodName) (bc : ByteArray) (nL : Nat) (ret : Option FieldType) (d mc ms : Nat) (av : List gV) (M : gM) (rv : Option gV) (M' : gM) : Prop := match E with
  | (l, D, Gc, B, b) => Met l y (gws y bc nL ret) { frames := d, cells := mc, slots := ms, locals := 40 * d } (va_Pc (av.map (gv B b)) (gPr D Gc B M)) (gQo D Gc B b rv M') mc ms (fun q => B ≤ q)
def gent (nL : Nat) (av : List gV) : List (Option gV) := av.map some ++ List.replicate (nL - av.length) none
theorem gv_cat (B b : Nat) (v : gV) (h : c1 v = true) : (gv B b v).category = 1 := by
  rcases v with (x | (_ | a)) | x
  · rfl
  · rfl
  · rfl
  · cases h
theorem lg_sl_gv (B b : Nat) : ∀ av : List gV, av.all c1 = true → lg_sl (av.map (gv B b)) = av.map (fun v => Slot.val (gv B b v))
  | [], _ => rfl
  | v :: r, h => by
    simp only [List.all_cons, Bool.and_eq_true] at h
    have ih := lg_sl_gv B b r h.2
    unfold lg_sl at ih ⊢
    rw [List.map_cons, List.flatMap_cons, ih]
    simp [gv_cat B b v h.1]
theorem gLk_entry {B b nL : Nat} {av : List gV} (hc : av.all c1 = true) (h : av.length ≤ nL) : gLk B b ((lg_sl (av.map (gv B b)) ++ List.replicate (nL - (lg_sl (av.map (gv B b))).length) Slot.unset).toArray) (gent nL av) := by
  have hlen : (lg_sl (av.map (gv B b))).length = av.length := by rw [lg_sl_gv _ _ _ hc]; simp
  have h1 := lv_entry (av.map (gv B b)) (n := nL) (by rw [hlen]; exact h)
  refine ⟨by rw [h1.1]; simp [gent]; omega, h1.2.1, fun i v hv => ?_⟩
  simp only [gent] at hv
  simp only [lg_sl_gv _ _ _ hc]
  by_cases hi : i < av.length
  · rw [List.getElem?_append_left (by simpa using hi)] at hv
    simp only [List.getElem?_map, Option.map_eq_some_iff] at hv
    obtain ⟨w, hw, he⟩ := hv
    cases he
    obtain ⟨_, e⟩ := List.getElem?_eq_some_iff.mp hw
    simp [List.getElem?_append_left, hi, e]
  · rw [List.getElem?_append_right (by simpa using hi)] at hv
    simp [List.getElem?_replicate] at hv
theorem Ctr.mk {E : gEnv} {y : MethodName} {bc : ByteArray} {nL d mc ms : Nat} {ret : Option FieldType} {av : List gV} {M M' : gM} {rv : Option gV} (hy : plainFor y = true) (hc : av.all c1 = true) (hn : av.length ≤ nL)
    (h : ∀ κ : gCtx, Cx E κ bc nL y.cls ret d mc ms → gRt E κ mc ms rv M' → κ.2.2.2.2.2.2.2.1.name = y.name → G E κ 0 0 0 (gent nL av) [] M) : Ctr E y bc nL ret d mc ms av M rv M' := by
  obtain ⟨l, D, Gc, B, b⟩ := E
  refine va_MetF (cc := bc) (maxL := nL) (ret := ret) hy rfl ?_
  intro p e s m args below meth c s₁ Bd hml hv
  obtain ⟨rfl, hP, hKK, hB⟩ := hv
  have hts : ∀ w ∈ gT, w.before (av.map (gv B b)).toArray s = true := fun w hw => atoms_spec (ws := gws y bc nL ret) Bd.pre w (List.mem_cons_of_mem _ hw)
  have hown : s.vm.findClass y.cls = some m.cls := findClass_of_methodNamed Bd.named
  have hnm : meth.name = y.name := (name_of_methodNamed Bd.named Bd.method).1
  have h1 := h (p, e, (headSpec (gws y bc nL ret) { frames := d, cells := mc, slots := ms, locals := 40 * d }).room, s, m, (av.map (gv B b)).toArray, below, meth, c, MQ below (gQo D Gc B b rv M') (av.map (gv B b)).toArray s mc ms (fun q => B ≤ q))
    ⟨Bd.exec, Bd.bytes, hml, hown, hts, hKK, hB, Bd.notSynchronized, Bd.returns, Nat.le_refl _, Nat.le_refl _, Nat.le_refl _, Nat.le_refl _⟩ rfl hnm
  rw [lg_entry_eq]
  exact h1 s.heap [] _ (gLk_entry hc hn) hP va_S.rf
