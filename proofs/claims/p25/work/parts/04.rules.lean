/-! THE RULES: one instruction each -/
section GRules
variable {E : gEnv} {κ : gCtx} {cc : ByteArray} {nL d cz sz cells slots pc : Nat} {own : String} {ret : Option FieldType} {ls : List (Option gV)} {st : List gV} {M : gM}
theorem G_iconst (X : Cx E κ cc nL own ret d cz sz) {n : Int} {v : Int32} (hd : decode cc pc = .ok (.iconst n, 1)) (hv : Int32.ofInt n = v) (k : G E κ cells slots (pc + 1) ls (vi v :: st) M) : G E κ cells slots pc ls st M := by
  obtain ⟨l, D, Gc, B, b⟩ := E
  obtain ⟨p, e, R, s, m, args, below, meth, c, Q⟩ := κ
  obtain ⟨hx, hb, -⟩ := X
  exact fun H locs la hl hP hS => lv_iconst hx hb hd hv (k H locs la hl hP hS)
theorem G_bipush (X : Cx E κ cc nL own ret d cz sz) {n : Int} {v : Int32} (hd : decode cc pc = .ok (.bipush n, 2)) (hv : (Int8.ofInt n).toInt32 = v) (k : G E κ cells slots (pc + 2) ls (vi v :: st) M) : G E κ cells slots pc ls st M := by
  obtain ⟨l, D, Gc, B, b⟩ := E
  obtain ⟨p, e, R, s, m, args, below, meth, c, Q⟩ := κ
  obtain ⟨hx, hb, -⟩ := X
  exact fun H locs la hl hP hS => lv_bipush hx hb hd hv (k H locs la hl hP hS)
theorem G_sipush (X : Cx E κ cc nL own ret d cz sz) {n : Int} {v : Int32} (hd : decode cc pc = .ok (.sipush n, 3)) (hv : (Int16.ofInt n).toInt32 = v) (k : G E κ cells slots (pc + 3) ls (vi v :: st) M) : G E κ cells slots pc ls st M := by
  obtain ⟨l, D, Gc, B, b⟩ := E
  obtain ⟨p, e, R, s, m, args, below, meth, c, Q⟩ := κ
  obtain ⟨hx, hb, -⟩ := X
  exact fun H locs la hl hP hS => lv_sipush hx hb hd hv (k H locs la hl hP hS)
theorem G_ldc (X : Cx E κ cc nL own ret d cz sz) {ix : Nat} {v : Int32} (hc : Cond.constant own ix v ∈ gT) (hd : decode cc pc = .ok (.ldc ix, 2)) (k : G E κ cells slots (pc + 2) ls (vi v :: st) M) : G E κ cells slots pc ls st M := by
  obtain ⟨l, D, Gc, B, b⟩ := E
  obtain ⟨p, e, R, s, m, args, below, meth, c, Q⟩ := κ
  obtain ⟨hx, hb, -, ho, hts, -⟩ := X
  exact fun H locs la hl hP hS => lv_ldc hx hb ho (hts _ hc) hd (k H locs la hl hP hS)
theorem G_ldc_w (X : Cx E κ cc nL own ret d cz sz) {ix : Nat} {v : Int32} (hc : Cond.constant own ix v ∈ gT) (hd : decode cc pc = .ok (.ldc_w ix, 3)) (k : G E κ cells slots (pc + 3) ls (vi v :: st) M) : G E κ cells slots pc ls st M := by
  obtain ⟨l, D, Gc, B, b⟩ := E
  obtain ⟨p, e, R, s, m, args, below, meth, c, Q⟩ := κ
  obtain ⟨hx, hb, -, ho, hts, -⟩ := X
  exact fun H locs la hl hP hS => lv_ldcw hx hb ho (hts _ hc) hd (k H locs la hl hP hS)
theorem G_iload_n (X : Cx E κ cc nL own ret d cz sz) {j : Fin 4} {i : Nat} {x : Int32} (hd : decode cc pc = .ok (.iload_n j, 1)) (hi : (j : Nat) = i) (hv : ls[i]? = some (some (vi x))) (k : G E κ cells slots (pc + 1) ls (vi x :: st) M) : G E κ cells slots pc ls st M := by
  obtain ⟨l, D, Gc, B, b⟩ := E
  obtain ⟨p, e, R, s, m, args, below, meth, c, Q⟩ := κ
  obtain ⟨hx, hb, -⟩ := X
  exact fun H locs la hl hP hS => lv_iload_n hx hb hd hi (hl.2.2 i _ hv) (k H locs la hl hP hS)
theorem G_iload (X : Cx E κ cc nL own ret d cz sz) {i : Nat} {x : Int32} (hd : decode cc pc = .ok (.iload i, 2)) (hv : ls[i]? = some (some (vi x))) (k : G E κ cells slots (pc + 2) ls (vi x :: st) M) : G E κ cells slots pc ls st M := by
  obtain ⟨l, D, Gc, B, b⟩ := E
  obtain ⟨p, e, R, s, m, args, below, meth, c, Q⟩ := κ
  obtain ⟨hx, hb, -⟩ := X
  exact fun H locs la hl hP hS => lv_iload hx hb hd (hl.2.2 i _ hv) (k H locs la hl hP hS)
theorem G_aload_n (X : Cx E κ cc nL own ret d cz sz) {j : Fin 4} {i : Nat} {x : Option Nat} (hd : decode cc pc = .ok (.aload_n j, 1)) (hi : (j : Nat) = i) (hv : ls[i]? = some (some (.inl (.inr x)))) (k : G E κ cells slots (pc + 1) ls (.inl (.inr x) :: st) M) : G E κ cells slots pc ls st M := by
  obtain ⟨l, D, Gc, B, b⟩ := E
  obtain ⟨p, e, R, s, m, args, below, meth, c, Q⟩ := κ
  obtain ⟨hx, hb, -⟩ := X
  intro H locs la hl hP hS
  cases x with
  | none => exact lv_aload_n hx hb hd hi (hl.2.2 i _ hv) (k H locs la hl hP hS)
  | some a => exact lv_aload_n hx hb hd hi (hl.2.2 i _ hv) (k H locs la hl hP hS)
theorem G_aload (X : Cx E κ cc nL own ret d cz sz) {i : Nat} {x : Option Nat} (hd : decode cc pc = .ok (.aload i, 2)) (hv : ls[i]? = some (some (.inl (.inr x)))) (k : G E κ cells slots (pc + 2) ls (.inl (.inr x) :: st) M) : G E κ cells slots pc ls st M := by
  obtain ⟨l, D, Gc, B, b⟩ := E
  obtain ⟨p, e, R, s, m, args, below, meth, c, Q⟩ := κ
  obtain ⟨hx, hb, -⟩ := X
  intro H locs la hl hP hS
  cases x with
  | none => exact lv_aload hx hb hd (hl.2.2 i _ hv) (k H locs la hl hP hS)
  | some a => exact lv_aload hx hb hd (hl.2.2 i _ hv) (k H locs la hl hP hS)
/-- all that is known of the locals, as the kit lists it -/
def gls (B b : Nat) (ls : List (Option gV)) : List (Nat × Value) := (List.range ls.length).filterMap (fun i => (ls[i]?.join).map (fun v => (i, gv B b v)))
theorem gls_has {B b : Nat} {la : Array Slot} {ls : List (Option gV)} (h : gLk B b la ls) : lv_has la ls.length (gls B b ls) := by
  refine ⟨h.1, h.2.1, fun q hq => ?_⟩
  obtain ⟨i, -, hi⟩ := List.mem_filterMap.mp hq
  rw [Option.map_eq_some_iff] at hi
  obtain ⟨v, hv, rfl⟩ := hi
  refine h.2.2 i v ?_
  cases h3 : ls[i]? with
  | none => rw [h3] at hv; cases hv
  | some w => rw [h3] at hv; simp at hv; rw [hv]
/-- a place that may be written: it is there, and no long reaches into it -/
def nlAt (ls : List (Option gV)) (i : Nat) : Bool := match i with
  | 0 => true
  | k + 1 => match ls[k]? with
    | some (some v) => c1 v
    | _ => true
def okS (ls : List (Option gV)) (i : Nat) : Bool := Nat.ble (i + 1) ls.length && nlAt ls i
theorem okS_lt {ls : List (Option gV)} {i : Nat} (h : okS ls i = true) : i < ls.length := by
  simp only [okS, Bool.and_eq_true] at h
  exact Nat.le_of_ble_eq_true h.1
theorem okS_nl {ls : List (Option gV)} {i j : Nat} {w : gV} (h : okS ls i = true) (hj : j + 1 = i) (hw : ls[j]? = some (some w)) : c1 w = true := by
  simp only [okS, Bool.and_eq_true] at h
  subst hj
  have h2 := h.2
  simp only [nlAt, hw] at h2
  exact h2
theorem gls_set {B b : Nat} {la : Array Slot} {ls : List (Option gV)} {i : Nat} {v : gV} (hi : okS ls i = true) (h : lv_has la ls.length ((i, gv B b v) :: (gls B b ls).filter (fun q => !(q.1 == i) && !(q.1 + 1 == i && q.2.category == 2)))) : gLk B b la (ls.set i (some v)) := by
  refine ⟨by rw [h.1]; simp, h.2.1, fun j w hw => ?_⟩
  by_cases hj : j = i
  · subst hj
    rw [List.getElem?_set_self (okS_lt hi)] at hw
    cases hw
    exact h.2.2 (j, gv B b v) List.mem_cons_self
  · rw [List.getElem?_set_ne (Ne.symm hj)] at hw
    refine h.2.2 (j, gv B b w) (List.mem_cons_of_mem _ (List.mem_filter.mpr ⟨List.mem_filterMap.mpr ⟨j, ?_, ?_⟩, ?_⟩))
    · exact List.mem_range.mpr (List.getElem?_eq_some_iff.mp hw).1
    · simp [hw]
    · by_cases hj1 : j + 1 = i
      · have := gv_cat B b w (okS_nl hi hj1 hw)
        simp [hj, this]
      · simp [hj, hj1]
theorem gls_set2 {B b : Nat} {la : Array Slot} {ls : List (Option gV)} {i : Nat} {v : gV} (hi : okS ls i = true) (hi2 : i + 1 < ls.length) (h : lv_has la ls.length ((i, gv B b v) :: (gls B b ls).filter (fun q => !(q.1 == i) && (!(q.1 == i + 1) && !(q.1 + 1 == i && q.2.category == 2))))) : gLk B b la ((ls.set i (some v)).set (i + 1) none) := by
  refine ⟨by rw [h.1]; simp, h.2.1, fun j w hw => ?_⟩
  by_cases hj2 : j = i + 1
  · subst hj2
    rw [List.getElem?_set_self (by simpa using hi2)] at hw
    cases hw
  · rw [List.getElem?_set_ne (Ne.symm hj2)] at hw
    by_cases hj : j = i
    · subst hj
      rw [List.getElem?_set_self (okS_lt hi)] at hw
      cases hw
      exact h.2.2 (j, gv B b v) List.mem_cons_self
    · rw [List.getElem?_set_ne (Ne.symm hj)] at hw
      refine h.2.2 (j, gv B b w) (List.mem_cons_of_mem _ (List.mem_filter.mpr ⟨List.mem_filterMap.mpr ⟨j, ?_, ?_⟩, ?_⟩))
      · exact List.mem_range.mpr (List.getElem?_eq_some_iff.mp hw).1
      · simp [hw]
      · by_cases hj1 : j + 1 = i
        · have := gv_cat B b w (okS_nl hi hj1 hw)
          simp [hj, hj2, this]
        · simp [hj, hj1, hj2]
theorem gls_self {ls : List (Option gV)} {B b : Nat} {la : Array Slot} {nL : Nat} (h : gLk B b la ls) (hn : ls.length = nL) : lv_has la nL (gls B b ls) := by
  subst hn; exact gls_has h
theorem G_istore_n (X : Cx E κ cc nL own ret d cz sz) {j : Fin 4} {i : Nat} {x : Int32} {ls' : List (Option gV)} (hd : decode cc pc = .ok (.istore_n j, 1)) (hi : (j : Nat) = i) (hn : okS ls i = true) (hs : ls.set i (some (vi x)) = ls') (k : G E κ cells slots (pc + 1) ls' st M) : G E κ cells slots pc ls (vi x :: st) M := by
  subst hs
  obtain ⟨l, D, Gc, B, b⟩ := E
  obtain ⟨p, e, R, s, m, args, below, meth, c, Q⟩ := κ
  obtain ⟨hx, hb, -⟩ := X
  exact fun H locs la hl hP hS => lv_istore_n hx hb hd hi (gls_has hl) (okS_lt hn) rfl (fun la' hl' => k H locs la' (gls_set hn hl') hP hS)
theorem G_istore (X : Cx E κ cc nL own ret d cz sz) {i : Nat} {x : Int32} {ls' : List (Option gV)} (hd : decode cc pc = .ok (.istore i, 2)) (hn : okS ls i = true) (hs : ls.set i (some (vi x)) = ls') (k : G E κ cells slots (pc + 2) ls' st M) : G E κ cells slots pc ls (vi x :: st) M := by
  subst hs
  obtain ⟨l, D, Gc, B, b⟩ := E
  obtain ⟨p, e, R, s, m, args, below, meth, c, Q⟩ := κ
  obtain ⟨hx, hb, -⟩ := X
  exact fun H locs la hl hP hS => lv_istore hx hb hd (gls_has hl) (okS_lt hn) rfl (fun la' hl' => k H locs la' (gls_set hn hl') hP hS)
theorem G_astore_n (X : Cx E κ cc nL own ret d cz sz) {j : Fin 4} {i : Nat} {x : Nat} {ls' : List (Option gV)} (hd : decode cc pc = .ok (.astore_n j, 1)) (hi : (j : Nat) = i) (hn : okS ls i = true) (hs : ls.set i (some (vr x)) = ls') (k : G E κ cells slots (pc + 1) ls' st M) : G E κ cells slots pc ls (vr x :: st) M := by
  subst hs
  obtain ⟨l, D, Gc, B, b⟩ := E
  obtain ⟨p, e, R, s, m, args, below, meth, c, Q⟩ := κ
  obtain ⟨hx, hb, -⟩ := X
  exact fun H locs la hl hP hS => lv_astore_n hx hb hd hi (gls_has hl) (okS_lt hn) rfl (fun la' hl' => k H locs la' (gls_set (v := vr x) hn hl') hP hS)
theorem G_astore (X : Cx E κ cc nL own ret d cz sz) {i : Nat} {x : Nat} {ls' : List (Option gV)} (hd : decode cc pc = .ok (.astore i, 2)) (hn : okS ls i = true) (hs : ls.set i (some (vr x)) = ls') (k : G E κ cells slots (pc + 2) ls' st M) : G E κ cells slots pc ls (vr x :: st) M := by
  subst hs
  obtain ⟨l, D, Gc, B, b⟩ := E
  obtain ⟨p, e, R, s, m, args, below, meth, c, Q⟩ := κ
  obtain ⟨hx, hb, -⟩ := X
  exact fun H locs la hl hP hS => lv_astore hx hb hd (gls_has hl) (okS_lt hn) rfl (fun la' hl' => k H locs la' (gls_set (v := vr x) hn hl') hP hS)
theorem gls_at {B b : Nat} {ls : List (Option gV)} {i : Nat} {v : gV} (h : ls[i]? = some (some v)) : ∃ k : Nat, (gls B b ls)[k]? = some (i, gv B b v) :=
  List.getElem?_of_mem (List.mem_filterMap.mpr ⟨i, List.mem_range.mpr (List.getElem?_eq_some_iff.mp h).1, by simp [h]⟩)
theorem G_iinc (X : Cx E κ cc nL own ret d cz sz) {i : Nat} {n : Int} {x v : Int32} {ls' : List (Option gV)} (hd : decode cc pc = .ok (.iinc i n, 3)) (hv : ls[i]? = some (some (vi x))) (hok : okS ls i = true) (hn : Int32.ofInt n = v) (hs : ls.set i (some (vi (x + v))) = ls') (k : G E κ cells slots (pc + 3) ls' st M) : G E κ cells slots pc ls st M := by
  subst hs
  subst hn
  obtain ⟨l, D, Gc, B, b⟩ := E
  obtain ⟨p, e, R, s, m, args, below, meth, c, Q⟩ := κ
  obtain ⟨hx, hb, -⟩ := X
  intro H locs la hl hP hS
  have hn : i < ls.length := (List.getElem?_eq_some_iff.mp hv).1
  obtain ⟨k0, hk0⟩ := gls_at (B := B) (b := b) hv
  exact lv_iinc hx hb hd (gls_has hl) hk0 rfl hn rfl (fun la' hl' => k H locs la' (gls_set (v := vi (x + Int32.ofInt n)) hok hl') hP hS)
/-- less is known of the locals -/
theorem G_weak {ls' : List (Option gV)} (h : ls.length = ls'.length ∧ ∀ (i : Nat) (v : gV), ls'[i]? = some (some v) → ls[i]? = some (some v)) (k : G E κ cells slots pc ls' st M) : G E κ cells slots pc ls st M := by
  obtain ⟨l, D, Gc, B, b⟩ := E
  obtain ⟨p, e, R, s, m, args, below, meth, c, Q⟩ := κ
  exact fun H locs la hl hP hS => k H locs la ⟨hl.1.trans h.1, hl.2.1, fun i v hv => hl.2.2 i v (h.2 i v hv)⟩ hP hS
end GRules
section GRules2
variable {E : gEnv} {κ : gCtx} {cc : ByteArray} {nL d cz sz cells slots pc : Nat} {own : String} {ret : Option FieldType} {ls : List (Option gV)} {st : List gV} {M : gM}
theorem G_iadd (X : Cx E κ cc nL own ret d cz sz) {x y : Int32} (hd : decode cc pc = .ok (.iadd, 1)) (k : G E κ cells slots (pc + 1) ls (vi (x + y) :: st) M) : G E κ cells slots pc ls (vi y :: vi x :: st) M := by
  obtain ⟨l, D, Gc, B, b⟩ := E
  obtain ⟨p, e, R, s, m, args, below, meth, c, Q⟩ := κ
  obtain ⟨hx, hb, -⟩ := X
  exact fun H locs la hl hP hS => lv_iadd hx hb hd (k H locs la hl hP hS)
theorem G_isub (X : Cx E κ cc nL own ret d cz sz) {x y : Int32} (hd : decode cc pc = .ok (.isub, 1)) (k : G E κ cells slots (pc + 1) ls (vi (x - y) :: st) M) : G E κ cells slots pc ls (vi y :: vi x :: st) M := by
  obtain ⟨l, D, Gc, B, b⟩ := E
  obtain ⟨p, e, R, s, m, args, below, meth, c, Q⟩ := κ
  obtain ⟨hx, hb, -⟩ := X
  exact fun H locs la hl hP hS => lv_isub hx hb hd (k H locs la hl hP hS)
theorem G_imul (X : Cx E κ cc nL own ret d cz sz) {x y : Int32} (hd : decode cc pc = .ok (.imul, 1)) (k : G E κ cells slots (pc + 1) ls (vi (x * y) :: st) M) : G E κ cells slots pc ls (vi y :: vi x :: st) M := by
  obtain ⟨l, D, Gc, B, b⟩ := E
  obtain ⟨p, e, R, s, m, args, below, meth, c, Q⟩ := κ
  obtain ⟨hx, hb, -⟩ := X
  exact fun H locs la hl hP hS => lv_imul hx hb hd (k H locs la hl hP hS)
theorem G_iand (X : Cx E κ cc nL own ret d cz sz) {x y : Int32} (hd : decode cc pc = .ok (.iand, 1)) (k : G E κ cells slots (pc + 1) ls (vi (x &&& y) :: st) M) : G E κ cells slots pc ls (vi y :: vi x :: st) M := by
  obtain ⟨l, D, Gc, B, b⟩ := E
  obtain ⟨p, e, R, s, m, args, below, meth, c, Q⟩ := κ
  obtain ⟨hx, hb, -⟩ := X
  exact fun H locs la hl hP hS => lv_iand hx hb hd (k H locs la hl hP hS)
theorem G_ior (X : Cx E κ cc nL own ret d cz sz) {x y : Int32} (hd : decode cc pc = .ok (.ior, 1)) (k : G E κ cells slots (pc + 1) ls (vi (x ||| y) :: st) M) : G E κ cells slots pc ls (vi y :: vi x :: st) M := by
  obtain ⟨l, D, Gc, B, b⟩ := E
  obtain ⟨p, e, R, s, m, args, below, meth, c, Q⟩ := κ
  obtain ⟨hx, hb, -⟩ := X
  exact fun H locs la hl hP hS => lv_ior hx hb hd (k H locs la hl hP hS)
theorem G_ixor (X : Cx E κ cc nL own ret d cz sz) {x y : Int32} (hd : decode cc pc = .ok (.ixor, 1)) (k : G E κ cells slots (pc + 1) ls (vi (x ^^^ y) :: st) M) : G E κ cells slots pc ls (vi y :: vi x :: st) M := by
  obtain ⟨l, D, Gc, B, b⟩ := E
  obtain ⟨p, e, R, s, m, args, below, meth, c, Q⟩ := κ
  obtain ⟨hx, hb, -⟩ := X
  exact fun H locs la hl hP hS => lv_ixor hx hb hd (k H locs la hl hP hS)
theorem G_ishl (X : Cx E κ cc nL own ret d cz sz) {x y : Int32} (hd : decode cc pc = .ok (.ishl, 1)) (k : G E κ cells slots (pc + 1) ls (vi (x <<< (y &&& 31)) :: st) M) : G E κ cells slots pc ls (vi y :: vi x :: st) M := by
  obtain ⟨l, D, Gc, B, b⟩ := E
  obtain ⟨p, e, R, s, m, args, below, meth, c, Q⟩ := κ
  obtain ⟨hx, hb, -⟩ := X
  exact fun H locs la hl hP hS => lv_ishl hx hb hd (k H locs la hl hP hS)
theorem G_ishr (X : Cx E κ cc nL own ret d cz sz) {x y : Int32} (hd : decode cc pc = .ok (.ishr, 1)) (k : G E κ cells slots (pc + 1) ls (vi (x >>> (y &&& 31)) :: st) M) : G E κ cells slots pc ls (vi y :: vi x :: st) M := by
  obtain ⟨l, D, Gc, B, b⟩ := E
  obtain ⟨p, e, R, s, m, args, below, meth, c, Q⟩ := κ
  obtain ⟨hx, hb, -⟩ := X
  exact fun H locs la hl hP hS => lv_ishr hx hb hd (k H locs la hl hP hS)
theorem G_idiv (X : Cx E κ cc nL own ret d cz sz) {x y : Int32} (hd : decode cc pc = .ok (.idiv, 1)) (hne : ¬ y = 0) (k : G E κ cells slots (pc + 1) ls (vi (x / y) :: st) M) : G E κ cells slots pc ls (vi y :: vi x :: st) M := by
  obtain ⟨l, D, Gc, B, b⟩ := E
  obtain ⟨p, e, R, s, m, args, below, meth, c, Q⟩ := κ
  obtain ⟨hx, hb, -⟩ := X
  exact fun H locs la hl hP hS => lv_idiv hx hb hd hne (k H locs la hl hP hS)
theorem G_irem (X : Cx E κ cc nL own ret d cz sz) {x y : Int32} (hd : decode cc pc = .ok (.irem, 1)) (hne : ¬ y = 0) (k : G E κ cells slots (pc + 1) ls (vi (x - x / y * y) :: st) M) : G E κ cells slots pc ls (vi y :: vi x :: st) M := by
  obtain ⟨l, D, Gc, B, b⟩ := E
  obtain ⟨p, e, R, s, m, args, below, meth, c, Q⟩ := κ
  obtain ⟨hx, hb, -⟩ := X
  exact fun H locs la hl hP hS => lv_irem hx hb hd hne (k H locs la hl hP hS)
theorem G_ineg (X : Cx E κ cc nL own ret d cz sz) {x : Int32} (hd : decode cc pc = .ok (.ineg, 1)) (k : G E κ cells slots (pc + 1) ls (vi (-x) :: st) M) : G E κ cells slots pc ls (vi x :: st) M := by
  obtain ⟨l, D, Gc, B, b⟩ := E
  obtain ⟨p, e, R, s, m, args, below, meth, c, Q⟩ := κ
  obtain ⟨hx, hb, -⟩ := X
  exact fun H locs la hl hP hS => lv_ineg hx hb hd (k H locs la hl hP hS)
theorem G_iushr (X : Cx E κ cc nL own ret d cz sz) {x y : Int32} (hd : decode cc pc = .ok (.iushr, 1)) (k : G E κ cells slots (pc + 1) ls (vi ((x.toUInt32 >>> (y.toUInt32 &&& Int32.toUInt32 31)).toInt32) :: st) M) : G E κ cells slots pc ls (vi y :: vi x :: st) M := by
  obtain ⟨l, D, Gc, B, b⟩ := E
  obtain ⟨p, e, R, s, m, args, below, meth, c, Q⟩ := κ
  obtain ⟨hx, hb, -⟩ := X
  exact fun H locs la hl hP hS => lv_iushr hx hb hd rfl (k H locs la hl hP hS)
theorem G_i2c (X : Cx E κ cc nL own ret d cz sz) {x : Int32} (hd : decode cc pc = .ok (.i2c, 1)) (k : G E κ cells slots (pc + 1) ls (vi ((x.toUInt32 % 65536).toInt32) :: st) M) : G E κ cells slots pc ls (vi x :: st) M := by
  obtain ⟨l, D, Gc, B, b⟩ := E
  obtain ⟨p, e, R, s, m, args, below, meth, c, Q⟩ := κ
  obtain ⟨hx, hb, -⟩ := X
  exact fun H locs la hl hP hS => lv_i2c hx hb hd rfl (k H locs la hl hP hS)
theorem G_dup (X : Cx E κ cc nL own ret d cz sz) {v : gV} (hc : c1 v = true) (hd : decode cc pc = .ok (.dup, 1)) (k : G E κ cells slots (pc + 1) ls (v :: v :: st) M) : G E κ cells slots pc ls (v :: st) M := by
  obtain ⟨l, D, Gc, B, b⟩ := E
  obtain ⟨p, e, R, s, m, args, below, meth, c, Q⟩ := κ
  obtain ⟨hx, hb, -⟩ := X
  exact fun H locs la hl hP hS => lv_dup hx hb hd (gv_cat _ _ _ hc) (k H locs la hl hP hS)
theorem G_dup2 (X : Cx E κ cc nL own ret d cz sz) {v w : gV} (hc : c1 v = true) (hc2 : c1 w = true) (hd : decode cc pc = .ok (.dup2, 1)) (k : G E κ cells slots (pc + 1) ls (v :: w :: v :: w :: st) M) : G E κ cells slots pc ls (v :: w :: st) M := by
  obtain ⟨l, D, Gc, B, b⟩ := E
  obtain ⟨p, e, R, s, m, args, below, meth, c, Q⟩ := κ
  obtain ⟨hx, hb, -⟩ := X
  exact fun H locs la hl hP hS => lv_dup2_11 hx hb hd (gv_cat _ _ _ hc) (gv_cat _ _ _ hc2) (k H locs la hl hP hS)
theorem G_pop (X : Cx E κ cc nL own ret d cz sz) {v : gV} (hc : c1 v = true) (hd : decode cc pc = .ok (.pop, 1)) (k : G E κ cells slots (pc + 1) ls st M) : G E κ cells slots pc ls (v :: st) M := by
  obtain ⟨l, D, Gc, B, b⟩ := E
  obtain ⟨p, e, R, s, m, args, below, meth, c, Q⟩ := κ
  obtain ⟨hx, hb, -⟩ := X
  exact fun H locs la hl hP hS => lv_pop hx hb hd (gv_cat _ _ _ hc) (k H locs la hl hP hS)
theorem G_if_eq (X : Cx E κ cc nL own ret d cz sz) {x : Int32} {off : Int} {tgt : Nat} (hd : decode cc pc = .ok (.ifCond .eq off, 3)) (ht : (pc : Int) + off = (tgt : Int)) (kt : x = 0 → G E κ cells slots tgt ls st M) (kf : ¬ x = 0 → G E κ cells slots (pc + 3) ls st M) : G E κ cells slots pc ls (vi x :: st) M := by
  obtain ⟨l, D, Gc, B, b⟩ := E
  obtain ⟨p, e, R, s, m, args, below, meth, c, Q⟩ := κ
  obtain ⟨hx, hb, -⟩ := X
  exact fun H locs la hl hP hS => lv_if_eq hx hb hd ht (fun q => kt q H locs la hl hP hS) (fun q => kf q H locs la hl hP hS)
theorem G_icmp_eq (X : Cx E κ cc nL own ret d cz sz) {x y : Int32} {off : Int} {tgt : Nat} (hd : decode cc pc = .ok (.if_icmp .eq off, 3)) (ht : (pc : Int) + off = (tgt : Int)) (kt : x = y → G E κ cells slots tgt ls st M) (kf : ¬ x = y → G E κ cells slots (pc + 3) ls st M) : G E κ cells slots pc ls (vi y :: vi x :: st) M := by
  obtain ⟨l, D, Gc, B, b⟩ := E
  obtain ⟨p, e, R, s, m, args, below, meth, c, Q⟩ := κ
  obtain ⟨hx, hb, -⟩ := X
  exact fun H locs la hl hP hS => lv_icmp_eq hx hb hd ht (fun q => kt q H locs la hl hP hS) (fun q => kf q H locs la hl hP hS)
theorem G_if_ne (X : Cx E κ cc nL own ret d cz sz) {x : Int32} {off : Int} {tgt : Nat} (hd : decode cc pc = .ok (.ifCond .ne off, 3)) (ht : (pc : Int) + off = (tgt : Int)) (kt : ¬ x = 0 → G E κ cells slots tgt ls st M) (kf : x = 0 → G E κ cells slots (pc + 3) ls st M) : G E κ cells slots pc ls (vi x :: st) M := by
  obtain ⟨l, D, Gc, B, b⟩ := E
  obtain ⟨p, e, R, s, m, args, below, meth, c, Q⟩ := κ
  obtain ⟨hx, hb, -⟩ := X
  exact fun H locs la hl hP hS => lv_if_ne hx hb hd ht (fun q => kt q H locs la hl hP hS) (fun q => kf q H locs la hl hP hS)
theorem G_icmp_ne (X : Cx E κ cc nL own ret d cz sz) {x y : Int32} {off : Int} {tgt : Nat} (hd : decode cc pc = .ok (.if_icmp .ne off, 3)) (ht : (pc : Int) + off = (tgt : Int)) (kt : ¬ x = y → G E κ cells slots tgt ls st M) (kf : x = y → G E κ cells slots (pc + 3) ls st M) : G E κ cells slots pc ls (vi y :: vi x :: st) M := by
  obtain ⟨l, D, Gc, B, b⟩ := E
  obtain ⟨p, e, R, s, m, args, below, meth, c, Q⟩ := κ
  obtain ⟨hx, hb, -⟩ := X
  exact fun H locs la hl hP hS => lv_icmp_ne hx hb hd ht (fun q => kt q H locs la hl hP hS) (fun q => kf q H locs la hl hP hS)
theorem G_if_lt (X : Cx E κ cc nL own ret d cz sz) {x : Int32} {off : Int} {tgt : Nat} (hd : decode cc pc = .ok (.ifCond .lt off, 3)) (ht : (pc : Int) + off = (tgt : Int)) (kt : x < 0 → G E κ cells slots tgt ls st M) (kf : ¬ x < 0 → G E κ cells slots (pc + 3) ls st M) : G E κ cells slots pc ls (vi x :: st) M := by
  obtain ⟨l, D, Gc, B, b⟩ := E
  obtain ⟨p, e, R, s, m, args, below, meth, c, Q⟩ := κ
  obtain ⟨hx, hb, -⟩ := X
  exact fun H locs la hl hP hS => lv_if_lt hx hb hd ht (fun q => kt q H locs la hl hP hS) (fun q => kf q H locs la hl hP hS)
theorem G_icmp_lt (X : Cx E κ cc nL own ret d cz sz) {x y : Int32} {off : Int} {tgt : Nat} (hd : decode cc pc = .ok (.if_icmp .lt off, 3)) (ht : (pc : Int) + off = (tgt : Int)) (kt : x < y → G E κ cells slots tgt ls st M) (kf : ¬ x < y → G E κ cells slots (pc + 3) ls st M) : G E κ cells slots pc ls (vi y :: vi x :: st) M := by
  obtain ⟨l, D, Gc, B, b⟩ := E
  obtain ⟨p, e, R, s, m, args, below, meth, c, Q⟩ := κ
  obtain ⟨hx, hb, -⟩ := X
  exact fun H locs la hl hP hS => lv_icmp_lt hx hb hd ht (fun q => kt q H locs la hl hP hS) (fun q => kf q H locs la hl hP hS)
theorem G_if_ge (X : Cx E κ cc nL own ret d cz sz) {x : Int32} {off : Int} {tgt : Nat} (hd : decode cc pc = .ok (.ifCond .ge off, 3)) (ht : (pc : Int) + off = (tgt : Int)) (kt : 0 ≤ x → G E κ cells slots tgt ls st M) (kf : ¬ 0 ≤ x → G E κ cells slots (pc + 3) ls st M) : G E κ cells slots pc ls (vi x :: st) M := by
  obtain ⟨l, D, Gc, B, b⟩ := E
  obtain ⟨p, e, R, s, m, args, below, meth, c, Q⟩ := κ
  obtain ⟨hx, hb, -⟩ := X
  exact fun H locs la hl hP hS => lv_if_ge hx hb hd ht (fun q => kt q H locs la hl hP hS) (fun q => kf q H locs la hl hP hS)
theorem G_icmp_ge (X : Cx E κ cc nL own ret d cz sz) {x y : Int32} {off : Int} {tgt : Nat} (hd : decode cc pc = .ok (.if_icmp .ge off, 3)) (ht : (pc : Int) + off = (tgt : Int)) (kt : y ≤ x → G E κ cells slots tgt ls st M) (kf : ¬ y ≤ x → G E κ cells slots (pc + 3) ls st M) : G E κ cells slots pc ls (vi y :: vi x :: st) M := by
  obtain ⟨l, D, Gc, B, b⟩ := E
  obtain ⟨p, e, R, s, m, args, below, meth, c, Q⟩ := κ
  obtain ⟨hx, hb, -⟩ := X
  exact fun H locs la hl hP hS => lv_icmp_ge hx hb hd ht (fun q => kt q H locs la hl hP hS) (fun q => kf q H locs la hl hP hS)
theorem G_if_gt (X : Cx E κ cc nL own ret d cz sz) {x : Int32} {off : Int} {tgt : Nat} (hd : decode cc pc = .ok (.ifCond .gt off, 3)) (ht : (pc : Int) + off = (tgt : Int)) (kt : 0 < x → G E κ cells slots tgt ls st M) (kf : ¬ 0 < x → G E κ cells slots (pc + 3) ls st M) : G E κ cells slots pc ls (vi x :: st) M := by
  obtain ⟨l, D, Gc, B, b⟩ := E
  obtain ⟨p, e, R, s, m, args, below, meth, c, Q⟩ := κ
  obtain ⟨hx, hb, -⟩ := X
  exact fun H locs la hl hP hS => lv_if_gt hx hb hd ht (fun q => kt q H locs la hl hP hS) (fun q => kf q H locs la hl hP hS)
theorem G_icmp_gt (X : Cx E κ cc nL own ret d cz sz) {x y : Int32} {off : Int} {tgt : Nat} (hd : decode cc pc = .ok (.if_icmp .gt off, 3)) (ht : (pc : Int) + off = (tgt : Int)) (kt : y < x → G E κ cells slots tgt ls st M) (kf : ¬ y < x → G E κ cells slots (pc + 3) ls st M) : G E κ cells slots pc ls (vi y :: vi x :: st) M := by
  obtain ⟨l, D, Gc, B, b⟩ := E
  obtain ⟨p, e, R, s, m, args, below, meth, c, Q⟩ := κ
  obtain ⟨hx, hb, -⟩ := X
  exact fun H locs la hl hP hS => lv_icmp_gt hx hb hd ht (fun q => kt q H locs la hl hP hS) (fun q => kf q H locs la hl hP hS)
theorem G_if_le (X : Cx E κ cc nL own ret d cz sz) {x : Int32} {off : Int} {tgt : Nat} (hd : decode cc pc = .ok (.ifCond .le off, 3)) (ht : (pc : Int) + off = (tgt : Int)) (kt : x ≤ 0 → G E κ cells slots tgt ls st M) (kf : ¬ x ≤ 0 → G E κ cells slots (pc + 3) ls st M) : G E κ cells slots pc ls (vi x :: st) M := by
  obtain ⟨l, D, Gc, B, b⟩ := E
  obtain ⟨p, e, R, s, m, args, below, meth, c, Q⟩ := κ
  obtain ⟨hx, hb, -⟩ := X
  exact fun H locs la hl hP hS => lv_if_le hx hb hd ht (fun q => kt q H locs la hl hP hS) (fun q => kf q H locs la hl hP hS)
theorem G_icmp_le (X : Cx E κ cc nL own ret d cz sz) {x y : Int32} {off : Int} {tgt : Nat} (hd : decode cc pc = .ok (.if_icmp .le off, 3)) (ht : (pc : Int) + off = (tgt : Int)) (kt : x ≤ y → G E κ cells slots tgt ls st M) (kf : ¬ x ≤ y → G E κ cells slots (pc + 3) ls st M) : G E κ cells slots pc ls (vi y :: vi x :: st) M := by
  obtain ⟨l, D, Gc, B, b⟩ := E
  obtain ⟨p, e, R, s, m, args, below, meth, c, Q⟩ := κ
  obtain ⟨hx, hb, -⟩ := X
  exact fun H locs la hl hP hS => lv_icmp_le hx hb hd ht (fun q => kt q H locs la hl hP hS) (fun q => kf q H locs la hl hP hS)
theorem G_goto (X : Cx E κ cc nL own ret d cz sz) {off : Int} {tgt : Nat} (hd : decode cc pc = .ok (.goto off, 3)) (ht : (pc : Int) + off = (tgt : Int)) (k : G E κ cells slots tgt ls st M) : G E κ cells slots pc ls st M := by
  obtain ⟨l, D, Gc, B, b⟩ := E
  obtain ⟨p, e, R, s, m, args, below, meth, c, Q⟩ := κ
  obtain ⟨hx, hb, -⟩ := X
  exact fun H locs la hl hP hS => lv_goto hx hb hd ht (k H locs la hl hP hS)
theorem G_tableOut (X : Cx E κ cc nL own ret d cz sz) {dflt lo hi : Int} {offs : Array Int} {len : Nat} {x : Int32} {tgt : Nat} (hd : decode cc pc = .ok (.tableswitch dflt lo hi offs, len)) (h : x.toInt < lo ∨ hi < x.toInt) (ht : (pc : Int) + dflt = (tgt : Int)) (k : G E κ cells slots tgt ls st M) : G E κ cells slots pc ls (vi x :: st) M := by
  obtain ⟨l, D, Gc, B, b⟩ := E
  obtain ⟨p, e, R, s, m, args, below, meth, c, Q⟩ := κ
  obtain ⟨hx, hb, -⟩ := X
  exact fun H locs la hl hP hS => lv_tableOut hx hb hd h ht (k H locs la hl hP hS)
theorem G_tableIn (X : Cx E κ cc nL own ret d cz sz) {dflt lo hi : Int} {offs : Array Int} {len : Nat} {x : Int32} {off : Int} {tgt : Nat} (hd : decode cc pc = .ok (.tableswitch dflt lo hi offs, len)) (h1 : ¬ x.toInt < lo) (h2 : ¬ hi < x.toInt) (ho : offs[(x.toInt - lo).toNat]? = some off) (ht : (pc : Int) + off = (tgt : Int)) (k : G E κ cells slots tgt ls st M) : G E κ cells slots pc ls (vi x :: st) M := by
  obtain ⟨l, D, Gc, B, b⟩ := E
  obtain ⟨p, e, R, s, m, args, below, meth, c, Q⟩ := κ
  obtain ⟨hx, hb, -⟩ := X
  exact fun H locs la hl hP hS => lv_tableIn hx hb hd h1 h2 ho ht (k H locs la hl hP hS)
theorem G_lookup (X : Cx E κ cc nL own ret d cz sz) {dflt : Int} {ps : Array (Int × Int)} {len : Nat} {x : Int32} {off : Int} {tgt : Nat} (hd : decode cc pc = .ok (.lookupswitch dflt ps, len)) (hp : (ps.toList.zip (ps.toList.drop 1)).all (fun (a, next) => a.1 < next.1) = true) (ho : Op.lookupswitch.offset ps.toList dflt x.toInt = off) (ht : (pc : Int) + off = (tgt : Int)) (k : G E κ cells slots tgt ls st M) : G E κ cells slots pc ls (vi x :: st) M := by
  obtain ⟨l, D, Gc, B, b⟩ := E
  obtain ⟨p, e, R, s, m, args, below, meth, c, Q⟩ := κ
  obtain ⟨hx, hb, -⟩ := X
  exact fun H locs la hl hP hS => lv_lookup hx hb hd hp ho ht (k H locs la hl hP hS)
end GRules2
section GLong
variable {E : gEnv} {κ : gCtx} {cc : ByteArray} {nL d cz sz cells slots pc : Nat} {own : String} {ret : Option FieldType} {ls : List (Option gV)} {st : List gV} {M : gM}
theorem G_lload_n (X : Cx E κ cc nL own ret d cz sz) {j : Fin 4} {i : Nat} {x : Int64} (hd : decode cc pc = .ok (.lload_n j, 1)) (hi : (j : Nat) = i) (hv : ls[i]? = some (some (vl x))) (k : G E κ cells slots (pc + 1) ls (vl x :: st) M) : G E κ cells slots pc ls st M := by
  obtain ⟨l, D, Gc, B, b⟩ := E
  obtain ⟨p, e, R, s, m, args, below, meth, c, Q⟩ := κ
  obtain ⟨hx, hb, -⟩ := X
  exact fun H locs la hl hP hS => lv_lload_n hx hb hd hi (hl.2.2 i _ hv) (k H locs la hl hP hS)
theorem G_lload (X : Cx E κ cc nL own ret d cz sz) {i : Nat} {x : Int64} (hd : decode cc pc = .ok (.lload i, 2)) (hv : ls[i]? = some (some (vl x))) (k : G E κ cells slots (pc + 2) ls (vl x :: st) M) : G E κ cells slots pc ls st M := by
  obtain ⟨l, D, Gc, B, b⟩ := E
  obtain ⟨p, e, R, s, m, args, below, meth, c, Q⟩ := κ
  obtain ⟨hx, hb, -⟩ := X
  exact fun H locs la hl hP hS => lv_lload hx hb hd (hl.2.2 i _ hv) (k H locs la hl hP hS)
theorem G_lstore_n (X : Cx E κ cc nL own ret d cz sz) {j : Fin 4} {i : Nat} {x : Int64} {ls' : List (Option gV)} (hd : decode cc pc = .ok (.lstore_n j, 1)) (hi : (j : Nat) = i) (hn : okS ls i = true) (hn2 : i + 1 < ls.length) (hs : (ls.set i (some (vl x))).set (i + 1) none = ls') (k : G E κ cells slots (pc + 1) ls' st M) : G E κ cells slots pc ls (vl x :: st) M := by
  subst hs
  obtain ⟨l, D, Gc, B, b⟩ := E
  obtain ⟨p, e, R, s, m, args, below, meth, c, Q⟩ := κ
  obtain ⟨hx, hb, -⟩ := X
  exact fun H locs la hl hP hS => lv_lstore_n hx hb hd hi (gls_has hl) hn2 rfl (fun la' hl' => k H locs la' (gls_set2 (v := vl x) hn hn2 hl') hP hS)
theorem G_lstore (X : Cx E κ cc nL own ret d cz sz) {i : Nat} {x : Int64} {ls' : List (Option gV)} (hd : decode cc pc = .ok (.lstore i, 2)) (hn : okS ls i = true) (hn2 : i + 1 < ls.length) (hs : (ls.set i (some (vl x))).set (i + 1) none = ls') (k : G E κ cells slots (pc + 2) ls' st M) : G E κ cells slots pc ls (vl x :: st) M := by
  subst hs
  obtain ⟨l, D, Gc, B, b⟩ := E
  obtain ⟨p, e, R, s, m, args, below, meth, c, Q⟩ := κ
  obtain ⟨hx, hb, -⟩ := X
  exact fun H locs la hl hP hS => lv_lstore hx hb hd (gls_has hl) hn2 rfl (fun la' hl' => k H locs la' (gls_set2 (v := vl x) hn hn2 hl') hP hS)
theorem G_ladd (X : Cx E κ cc nL own ret d cz sz) {x y : Int64} (hd : decode cc pc = .ok (.ladd, 1)) (k : G E κ cells slots (pc + 1) ls (vl (x + y) :: st) M) : G E κ cells slots pc ls (vl y :: vl x :: st) M := by
  obtain ⟨l, D, Gc, B, b⟩ := E
  obtain ⟨p, e, R, s, m, args, below, meth, c, Q⟩ := κ
  obtain ⟨hx, hb, -⟩ := X
  exact fun H locs la hl hP hS => lv_ladd hx hb hd (k H locs la hl hP hS)
theorem G_lmul (X : Cx E κ cc nL own ret d cz sz) {x y : Int64} (hd : decode cc pc = .ok (.lmul, 1)) (k : G E κ cells slots (pc + 1) ls (vl (x * y) :: st) M) : G E κ cells slots pc ls (vl y :: vl x :: st) M := by
  obtain ⟨l, D, Gc, B, b⟩ := E
  obtain ⟨p, e, R, s, m, args, below, meth, c, Q⟩ := κ
  obtain ⟨hx, hb, -⟩ := X
  exact fun H locs la hl hP hS => lv_lmul hx hb hd (k H locs la hl hP hS)
theorem G_i2l (X : Cx E κ cc nL own ret d cz sz) {x : Int32} (hd : decode cc pc = .ok (.i2l, 1)) (k : G E κ cells slots (pc + 1) ls (vl x.toInt64 :: st) M) : G E κ cells slots pc ls (vi x :: st) M := by
  obtain ⟨l, D, Gc, B, b⟩ := E
  obtain ⟨p, e, R, s, m, args, below, meth, c, Q⟩ := κ
  obtain ⟨hx, hb, -⟩ := X
  exact fun H locs la hl hP hS => lv_i2l hx hb hd rfl (k H locs la hl hP hS)
theorem G_lcmp (X : Cx E κ cc nL own ret d cz sz) {x y : Int64} (hd : decode cc pc = .ok (.lcmp, 1)) (k : G E κ cells slots (pc + 1) ls (vi (lg_cmp x y) :: st) M) : G E κ cells slots pc ls (vl y :: vl x :: st) M := by
  obtain ⟨l, D, Gc, B, b⟩ := E
  obtain ⟨p, e, R, s, m, args, below, meth, c, Q⟩ := κ
  obtain ⟨hx, hb, -⟩ := X
  exact fun H locs la hl hP hS => W.lcmp hx hb hd (k H locs la hl hP hS)
theorem G_ldc2 (X : Cx E κ cc nL own ret d cz sz) {ix : Nat} {v : Int64} (hc : Cond.constantLong own ix v ∈ gT) (hd : decode cc pc = .ok (.ldc2_w ix, 3)) (k : G E κ cells slots (pc + 3) ls (vl v :: st) M) : G E κ cells slots pc ls st M := by
  obtain ⟨l, D, Gc, B, b⟩ := E
  obtain ⟨p, e, R, s, m, args, below, meth, c, Q⟩ := κ
  obtain ⟨hx, hb, -, ho, hts, -⟩ := X
  exact fun H locs la hl hP hS => lv_ldc2 hx hb ho (hts _ hc) hd (k H locs la hl hP hS)
end GLong
