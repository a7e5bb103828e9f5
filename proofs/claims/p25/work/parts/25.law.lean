theorem cd_X5_type : Cond.code yX5_type cX5_type 2 (some .int) ∈ gT := gT_t1 198 (by decide +kernel) rfl
theorem cn_X5_type : gCN yX5_type cX5_type 2 (some .int) 1 := ⟨in_X5, cd_X5_type, ⟨by decide +kernel, by decide +kernel, by decide +kernel⟩⟩
theorem im_X5_type : Cond.instanceMethod yX5_type ∈ gT := gT_t1 196 (by decide +kernel) rfl
theorem se_X5_type : Cond.selects RX5 yX5_type yX5_type ∈ gT := gT_t1 197 (by decide +kernel) rfl
theorem vi_X5_type : gVI yX5_type := ⟨im_X5_type, se_X5_type⟩
theorem ml_L_93 : Cond.methodLink RL 93 yX5_type ∈ gT := gT_t1 195 (by decide +kernel) rfl
theorem cb_L_93 : gCB RL 93 yX5_type cX5_type 2 (some .int) 1 := ⟨ml_L_93, cn_X5_type.1, cn_X5_type.2.1, cn_X5_type.2.2⟩
theorem cd_X5_clearText : Cond.code yX5_clearText cX5_clearText 2 (some .int) ∈ gT := gT_t1 206 (by decide +kernel) rfl
theorem cn_X5_clearText : gCN yX5_clearText cX5_clearText 2 (some .int) 0 := ⟨in_X5, cd_X5_clearText, ⟨by decide +kernel, by decide +kernel, by decide +kernel⟩⟩
theorem im_X5_clearText : Cond.instanceMethod yX5_clearText ∈ gT := gT_t1 204 (by decide +kernel) rfl
theorem se_X5_clearText : Cond.selects RX5 yX5_clearText yX5_clearText ∈ gT := gT_t1 205 (by decide +kernel) rfl
theorem vi_X5_clearText : gVI yX5_clearText := ⟨im_X5_clearText, se_X5_clearText⟩
theorem ml_L_111 : Cond.methodLink RL 111 yX5_clearText ∈ gT := gT_t1 203 (by decide +kernel) rfl
theorem cb_L_111 : gCB RL 111 yX5_clearText cX5_clearText 2 (some .int) 0 := ⟨ml_L_111, cn_X5_clearText.1, cn_X5_clearText.2.1, cn_X5_clearText.2.2⟩
theorem cd_X5_failure : Cond.code yX5_failure cX5_failure 2 (some .int) ∈ gT := gT_t2 75 (by decide +kernel) rfl
theorem cn_X5_failure : gCN yX5_failure cX5_failure 2 (some .int) 1 := ⟨in_X5, cd_X5_failure, ⟨by decide +kernel, by decide +kernel, by decide +kernel⟩⟩
theorem im_X5_failure : Cond.instanceMethod yX5_failure ∈ gT := gT_t2 73 (by decide +kernel) rfl
theorem se_X5_failure : Cond.selects RX5 yX5_failure yX5_failure ∈ gT := gT_t2 74 (by decide +kernel) rfl
theorem vi_X5_failure : gVI yX5_failure := ⟨im_X5_failure, se_X5_failure⟩
theorem ml_L_114 : Cond.methodLink RL 114 yX5_failure ∈ gT := gT_t2 72 (by decide +kernel) rfl
theorem cb_L_114 : gCB RL 114 yX5_failure cX5_failure 2 (some .int) 1 := ⟨ml_L_114, cn_X5_failure.1, cn_X5_failure.2.1, cn_X5_failure.2.2⟩
theorem cd_L_isPacked : Cond.code yL_isPacked cL_isPacked 12 (some .boolean) ∈ gT := gT_t2 153 (by decide +kernel) rfl
theorem cn_L_isPacked : gCN yL_isPacked cL_isPacked 12 (some .boolean) 2 := ⟨in_L, cd_L_isPacked, ⟨by decide +kernel, by decide +kernel, by decide +kernel⟩⟩
theorem st_L_isPacked : Cond.static yL_isPacked ∈ gT := gT_t2 152 (by decide +kernel) rfl
theorem ml_L_100 : Cond.methodLink RL 100 yL_isPacked ∈ gT := gT_t2 151 (by decide +kernel) rfl
theorem cb_L_100 : gCB RL 100 yL_isPacked cL_isPacked 12 (some .boolean) 2 := ⟨ml_L_100, cn_L_isPacked.1, cn_L_isPacked.2.1, cn_L_isPacked.2.2⟩
theorem cd_L_cell : Cond.code yL_cell cL_cell 2 (some .int) ∈ gT := gT_t2 129 (by decide +kernel) rfl
theorem cn_L_cell : gCN yL_cell cL_cell 2 (some .int) 2 := ⟨in_L, cd_L_cell, ⟨by decide +kernel, by decide +kernel, by decide +kernel⟩⟩
theorem st_L_cell : Cond.static yL_cell ∈ gT := gT_t2 128 (by decide +kernel) rfl
theorem ml_L_89 : Cond.methodLink RL 89 yL_cell ∈ gT := gT_t2 127 (by decide +kernel) rfl
theorem cb_L_89 : gCB RL 89 yL_cell cL_cell 2 (some .int) 2 := ⟨ml_L_89, cn_L_cell.1, cn_L_cell.2.1, cn_L_cell.2.2⟩
theorem cd_L_acts : Cond.code yL_acts cL_acts 4 (some .int) ∈ gT := gT_t2 201 (by decide +kernel) rfl
theorem cn_L_acts : gCN yL_acts cL_acts 4 (some .int) 2 := ⟨in_L, cd_L_acts, ⟨by decide +kernel, by decide +kernel, by decide +kernel⟩⟩
theorem st_L_acts : Cond.static yL_acts ∈ gT := gT_t2 200 (by decide +kernel) rfl
theorem ml_L_96 : Cond.methodLink RL 96 yL_acts ∈ gT := gT_t2 199 (by decide +kernel) rfl
theorem cb_L_96 : gCB RL 96 yL_acts cL_acts 4 (some .int) 2 := ⟨ml_L_96, cn_L_acts.1, cn_L_acts.2.1, cn_L_acts.2.2⟩
theorem cd_L_isBest : Cond.code yL_isBest cL_isBest 8 (some .boolean) ∈ gT := gT_t2 194 (by decide +kernel) rfl
theorem cn_L_isBest : gCN yL_isBest cL_isBest 8 (some .boolean) 3 := ⟨in_L, cd_L_isBest, ⟨by decide +kernel, by decide +kernel, by decide +kernel⟩⟩
theorem st_L_isBest : Cond.static yL_isBest ∈ gT := gT_t2 193 (by decide +kernel) rfl
theorem ml_L_108 : Cond.methodLink RL 108 yL_isBest ∈ gT := gT_t2 192 (by decide +kernel) rfl
theorem cb_L_108 : gCB RL 108 yL_isBest cL_isBest 8 (some .boolean) 3 := ⟨ml_L_108, cn_L_isBest.1, cn_L_isBest.2.1, cn_L_isBest.2.2⟩
theorem cd_L_isSound : Cond.code yL_isSound cL_isSound 9 (some .boolean) ∈ gT := gT_t2 179 (by decide +kernel) rfl
theorem cn_L_isSound : gCN yL_isSound cL_isSound 9 (some .boolean) 3 := ⟨in_L, cd_L_isSound, ⟨by decide +kernel, by decide +kernel, by decide +kernel⟩⟩
theorem st_L_isSound : Cond.static yL_isSound ∈ gT := gT_t2 178 (by decide +kernel) rfl
theorem ml_L_104 : Cond.methodLink RL 104 yL_isSound ∈ gT := gT_t2 177 (by decide +kernel) rfl
theorem cb_L_104 : gCB RL 104 yL_isSound cL_isSound 9 (some .boolean) 3 := ⟨ml_L_104, cn_L_isSound.1, cn_L_isSound.2.1, cn_L_isSound.2.2⟩
theorem cl_L_13 : Cond.classLink RL 13 RX5 ∈ gT := gT_t1 10 (by decide +kernel) rfl
theorem is_X5 : Cond.instantiable RX5 5 ∈ gT := gT_t1 11 (by decide +kernel) rfl
theorem cw_L_13 : gCl RL 13 4 := ⟨RX5, TX5, 5, tyX5, rfl, rfl, ws_inX5, tyX5_ok, cl_L_13, is_X5, in_X5, by decide +kernel⟩
theorem cd_X5_init : Cond.code yX5_init cX5_init 2 none ∈ gT := gT_t1 14 (by decide +kernel) rfl
theorem cn_X5_init : gCN yX5_init cX5_init 2 none 0 := ⟨in_X5, cd_X5_init, ⟨by decide +kernel, by decide +kernel, by decide +kernel⟩⟩
theorem im_X5_init : Cond.instanceMethod yX5_init ∈ gT := gT_t1 13 (by decide +kernel) rfl
theorem ml_L_88 : Cond.methodLink RL 88 yX5_init ∈ gT := gT_t1 12 (by decide +kernel) rfl
theorem cb_L_88 : gCB RL 88 yX5_init cX5_init 2 none 0 := ⟨ml_L_88, cn_X5_init.1, cn_X5_init.2.1, cn_X5_init.2.2⟩
/-! THE CLAIM OUT OF ONE WALK OF THE LAW'S BODY. Your part is whole_start (and what it stands on); all else here is the same for every law, but numbers. -/
def R_law : String := "PackedBitsLaw"
def lw_P (b : Addr) (xs : List Int32) (args : Array Value) (s : State) : Prop := args = #[.ref b] ∧ s.IntsAt b xs ∧ xs.length ≤ 260 ∧ (Jvm.Cond.and given_1 narrow_1).before args s = true
def lw_Q (_ : Array Value) (s : State) (o : Outcome) (t : State) : Prop := o = .returned (some (.int 1)) ∧ Framed s o t [] 600000 7302250
def lw_Z (below : List Frame) (a : Array Value) (s : State) : State → Prop := fun t => ∃ o, t.status = .running ∧ Ended t below o ∧ lw_Q a s o t
/-- the law's own end, with 1 on the stack, nothing written that was there before, its room as the claim has it -/
theorem lw_ret {p : Program} {l : Launch} {e : Env} {s : State} {m : MethodId} {below : List Frame} {meth : Method} {c : Code} {b : Nat} (hx : p.tables.exec = Jvm.exec) (hb : c.code = code) (hr : meth.sig.returnType = ret) (hlocks : meth.locks = false) {pc : Nat} {H : Heap} {ls : Array Slot} (hdg : decode code pc = .ok (.ireturn, 1)) : W p l e room_1 s m #[Value.ref b] below meth c H [] 600000 7302250 (lw_Z below #[Value.ref b] s) (F0 m pc ls [.int 1]) := by
  intro T hT X
  obtain ⟨fs, hret, hrun, hended, hW, hframe⟩ := X.leave (v := some (.int 1)) (hlocks := hlocks) (fun h => by rw [hr] at h; cases h)
  have hmeth' : T.vm.method? m = some meth := X.method'
  refine ⟨T.setFrames fs, ?_, .returned (some (.int 1)), hrun, hended, rfl, ⟨_, rfl⟩, hW, hframe⟩
  jvm_step X.here [X.here.top, hx, hb, hdg, hmeth', hr, ret, narrow_b1]
  (try refine ⟨rfl, ?_⟩); (try refine ⟨rfl, ?_⟩)
  first | (intro acts; rw [hret _ acts rfl rfl rfl]) | rw [hret _ _ rfl rfl rfl]
  exact Steps.refl _
/-- what holds at the law's entry: the machine, the code, the tables' words (any of lw_tbl by 'hts w (by decide +kernel)'), the script of L ints xs at the cell b, what the Statement gives of the start (any of its parts by flat_of_before) -/
def lw_At (p : Program) (s : State) (m : MethodId) (meth : Method) (c : Code) (b L : Nat) (xs : Nat → Int32) : Prop :=
  p.tables.exec = Jvm.exec ∧ c.code = code ∧ meth.sig.returnType = ret ∧ c.maxLocals = 9 ∧ s.vm.findClass R_law = some m.cls ∧ (∀ w ∈ lw_tbl, w.before #[Value.ref b] s = true) ∧ va_X b L xs s s.heap ∧ b < s.heap.size ∧ meth.locks = false ∧ (Jvm.Cond.and given_1 narrow_1).before #[Value.ref b] s = true
def gLE (E : gEnv) (κ : gCtx) : Prop := match E, κ with
  | (_, _, _, B, b), (_, _, R, s, _, args, below, _, _, Q) => R = room_1 ∧ args = #[Value.ref b] ∧ Q = lw_Z below #[Value.ref b] s ∧ B = s.heap.size
theorem G_lawret {E : gEnv} {κ : gCtx} (X : Cx E κ cL_law 9 RL (some .boolean) 2048 600000 7302249) (hE : gLE E κ) {ls : List (Option gV)} {M : gM} {pc : Nat} (hd : decode cL_law pc = .ok (.ireturn, 1)) : G E κ 79 1550 pc ls [vi 1] M := by
  obtain ⟨l, D, Gc, B, b⟩ := E
  obtain ⟨p, e, R, s, m, args, below, meth, c, Q⟩ := κ
  obtain ⟨hx, hb, hml, ho, hts, hK, hB, hlk, hr, -⟩ := X
  obtain ⟨e1, e2, e3, e4⟩ := hE
  subst e1; subst e2; subst e3
  intro H locs la hl hP hS
  refine va_forget (fun q hq => ?_) ?_
  · have := hS.2.2 q hq
    rw [← e4]; exact this
  refine W.widen (k := 600000) (n := 7302250) (by decide) (by decide) ?_
  exact lw_ret hx hb hr hlk hd
def fL_cell (L : Nat) (xs : Nat → Int32) (a1 : Int32) : Option Int32 := (if (nI L) ≤ a1 then some ((7919 * (a1 + 17)) * (a1 + 43)) else if ib a1 L = true then some (xs a1.toNatClampNeg) else none)
theorem fL_cell_ok (E : gEnv) (L : Nat) (xs : Nat → Int32) (I : gI) (a1 : Int32) (r : Int32) (hf : fL_cell L xs a1 = some r) : CtrX E L xs yL_cell cL_cell 2 (some .int) 0 0 0 [vsc, vi a1] (mm I) (some (vi r)) (mm I) := by
  refine CtrX.mk (by decide +kernel) rfl (Nat.le_of_ble_eq_true rfl) fun κ X hR hX => ?_
  have X : Cx E κ cL_cell 2 RL (some .int) 0 0 0 := X
  show G E κ 0 0 0 [some vsc, some (vi a1)] [] (mm I)
  unfold fL_cell at hf
  refine G_iload_n (x := a1) X dL_cell_0 rfl rfl ?_
  refine G_aload_n (x := none) X dL_cell_1 rfl rfl ?_
  refine G_slen X hX dL_cell_2 ?_
  refine G_icmp_ge (tgt := 12) X dL_cell_3 (by decide) (fun hc1 => ?_) (fun hc1 => ?_)
  · have hf := (if_pos hc1).symm.trans hf
    refine G_sipush (v := 7919) X dL_cell_12 rfl ?_
    refine G_iload_n (x := a1) X dL_cell_15 rfl rfl ?_
    refine G_bipush (v := 17) X dL_cell_16 rfl ?_
    refine G_iadd X dL_cell_18 ?_
    refine G_imul X dL_cell_19 ?_
    refine G_iload_n (x := a1) X dL_cell_20 rfl rfl ?_
    refine G_bipush (v := 43) X dL_cell_21 rfl ?_
    refine G_iadd X dL_cell_23 ?_
    refine G_imul X dL_cell_24 ?_
    obtain rfl := Option.some.inj hf
    exact G_iret X hR rfl rfl dL_cell_25
  · have hf := (if_neg hc1).symm.trans hf
    refine G_aload_n (x := none) X dL_cell_6 rfl rfl ?_
    refine G_iload_n (x := a1) X dL_cell_7 rfl rfl ?_
    obtain ⟨hc2, hf⟩ := ock hf
    refine G_sld X hX (ib_in hc2) dL_cell_8 ?_
    refine G_goto (tgt := 25) X dL_cell_9 (by decide) ?_
    obtain rfl := Option.some.inj hf
    exact G_iret X hR rfl rfl dL_cell_25
def fL_law_L308 (L : Nat) (xs : Nat → Int32) : Nat → gI → Int32 → Int32 → Option Bool
  | 0, _, _, _ => none
  | k + 1, I, x3, x4 => (if x3 ≤ x4 then (f5_undo I).bind fun q12 => (if q12.1 = ((-2)) then (f5_count q12.2 5).bind fun v14 => (if v14 = 4 then (f5_clearText q12.2).bind fun q16 => (if q16.1 = 4 then (f5_evaluate q16.2 0).bind fun q18 => (if q18.1 = ((-1000)) then (if (f5_failure q18.2 0) = 1 then (if (f5_failure q18.2 1) = 0 then (f5_row q18.2 8 0).bind fun v22 => (if v22 = ((-1)) then (f5_count q18.2 6).bind fun v24 => (if v24 = ((-1)) then (f5_same q18.2 8).bind fun v26 => (if v26 = ((-1)) then (f5_bestShift q18.2 ((-1))).bind fun q28 => (if q28.1 = ((-1)) then some true else some false) else some false) else some false) else some false) else some false) else some false) else some false) else some false) else some false) else some false) else (f5_undo I).bind fun q30 => (if q30.1 = ((x3 - 1) - x4) then (f5_count q30.2 0).bind fun v32 => (if v32 ≤ 0 then fL_law_L308 L xs k q30.2 x3 (x4 + 1) else (fL_isPacked q30.2 0).bind fun v34 => (if v34 = true then fL_law_L308 L xs k q30.2 x3 (x4 + 1) else some false)) else some false))
set_option maxRecDepth 100000 in
set_option maxHeartbeats 4000000 in
theorem fL_law_L308_ok (L : Nat) (xs : Nat → Int32) {E : gEnv} {κ : gCtx} (X : Cx E κ cL_law 9 RL (some .boolean) 2048 600000 7302249) : ∀ (k : Nat) (I : gI) (x3 : Int32) (x4 : Int32) (hR : gLE E κ ∧ gX E κ L xs) (hf : fL_law_L308 L xs k I x3 x4 = some true), G E κ 79 1550 308 [none, some (vr 0), none, some (vi x3), some (vi x4), none, none, none, none] [] (mm I) := by
  intro k
  induction k with
  | zero =>
    intros
    rename_i hf
    cases hf
  | succ k ih =>
    intro I x3 x4 hR hf
    refine G_iload (x := x4) X dL_law_308 rfl ?_
    refine G_iload_n (x := x3) X dL_law_310 rfl rfl ?_
    refine G_icmp_ge (tgt := 351) X dL_law_311 (by decide) (fun hc11 => ?_) (fun hc11 => ?_)
    · have hf := (if_pos hc11).symm.trans hf
      refine G_aload_n (x := some (0)) X dL_law_351 rfl rfl ?_
      obtain ⟨⟨v12, I12⟩, hk12, hf⟩ := obd hf
      try dsimp only at hf
      refine G_callV (As := []) X (f5_undo_ok E I v12 I12 hk12) cb_L_55 vi_X5_undo (ci := 4) rfl rfl (show SH[0]? = some (_, 0) from rfl) rfl rfl (Nat.le_of_ble_eq_true rfl) (by decide) (by decide) rfl (by decide) (by decide) dL_law_352 ?_
      show G E κ _ _ _ [none, some (vr 0), none, some (vi x3), some (vi x4), none, none, none, none] [vi v12] (mm I12)
      refine G_bipush (v := (-2)) X dL_law_355 rfl ?_
      refine G_icmp_ne (tgt := 449) X dL_law_357 (by decide) (fun hc13 => ?_) (fun hc13 => ?_)
      · have hf := (if_neg hc13).symm.trans hf
        refine G_iconst (v := 0) X dL_law_449 rfl ?_
        cases hf
      · have hf := (if_pos hc13).symm.trans hf
        refine G_aload_n (x := some (0)) X dL_law_360 rfl rfl ?_
        refine G_iconst (v := 5) X dL_law_361 rfl ?_
        obtain ⟨v14, hk14, hf⟩ := obd hf
        refine G_callV (As := [vi 5]) X (f5_count_ok E I12 5 v14 hk14) cb_L_12 vi_X5_count (ci := 4) rfl rfl (show SH[0]? = some (_, 0) from rfl) rfl rfl (Nat.le_of_ble_eq_true rfl) (by decide) (by decide) rfl (by decide) (by decide) dL_law_362 ?_
        show G E κ _ _ _ [none, some (vr 0), none, some (vi x3), some (vi x4), none, none, none, none] [vi v14] (mm I12)
        refine G_iconst (v := 4) X dL_law_365 rfl ?_
        refine G_icmp_ne (tgt := 449) X dL_law_366 (by decide) (fun hc15 => ?_) (fun hc15 => ?_)
        · have hf := (if_neg hc15).symm.trans hf
          refine G_iconst (v := 0) X dL_law_449 rfl ?_
          cases hf
        · have hf := (if_pos hc15).symm.trans hf
          refine G_aload_n (x := some (0)) X dL_law_369 rfl rfl ?_
          obtain ⟨⟨v16, I16⟩, hk16, hf⟩ := obd hf
          try dsimp only at hf
          refine G_callV (As := []) X (f5_clearText_ok E I12 v16 I16 hk16) cb_L_111 vi_X5_clearText (ci := 4) rfl rfl (show SH[0]? = some (_, 0) from rfl) rfl rfl (Nat.le_of_ble_eq_true rfl) (by decide) (by decide) rfl (by decide) (by decide) dL_law_370 ?_
          show G E κ _ _ _ [none, some (vr 0), none, some (vi x3), some (vi x4), none, none, none, none] [vi v16] (mm I16)
          refine G_iconst (v := 4) X dL_law_373 rfl ?_
          refine G_icmp_ne (tgt := 449) X dL_law_374 (by decide) (fun hc17 => ?_) (fun hc17 => ?_)
          · have hf := (if_neg hc17).symm.trans hf
            refine G_iconst (v := 0) X dL_law_449 rfl ?_
            cases hf
          · have hf := (if_pos hc17).symm.trans hf
            refine G_aload_n (x := some (0)) X dL_law_377 rfl rfl ?_
            refine G_iconst (v := 0) X dL_law_378 rfl ?_
            obtain ⟨⟨v18, I18⟩, hk18, hf⟩ := obd hf
            try dsimp only at hf
            refine G_callV (As := [vi 0]) X (f5_evaluate_ok E I16 0 v18 I18 hk18) cb_L_82 vi_X5_evaluate (ci := 4) rfl rfl (show SH[0]? = some (_, 0) from rfl) rfl rfl (Nat.le_of_ble_eq_true rfl) (by decide) (by decide) rfl (by decide) (by decide) dL_law_379 ?_
            show G E κ _ _ _ [none, some (vr 0), none, some (vi x3), some (vi x4), none, none, none, none] [vi v18] (mm I18)
            refine G_sipush (v := (-1000)) X dL_law_382 rfl ?_
            refine G_icmp_ne (tgt := 449) X dL_law_385 (by decide) (fun hc19 => ?_) (fun hc19 => ?_)
            · have hf := (if_neg hc19).symm.trans hf
              refine G_iconst (v := 0) X dL_law_449 rfl ?_
              cases hf
            · have hf := (if_pos hc19).symm.trans hf
              refine G_aload_n (x := some (0)) X dL_law_388 rfl rfl ?_
              refine G_iconst (v := 0) X dL_law_389 rfl ?_
              refine G_callV (As := [vi 0]) X (f5_failure_ok E I18 0 _ rfl) cb_L_114 vi_X5_failure (ci := 4) rfl rfl (show SH[0]? = some (_, 0) from rfl) rfl rfl (Nat.le_of_ble_eq_true rfl) (by decide) (by decide) rfl (by decide) (by decide) dL_law_390 ?_
              show G E κ _ _ _ [none, some (vr 0), none, some (vi x3), some (vi x4), none, none, none, none] [vi (f5_failure I18 0)] (mm I18)
              refine G_iconst (v := 1) X dL_law_393 rfl ?_
              refine G_icmp_ne (tgt := 449) X dL_law_394 (by decide) (fun hc20 => ?_) (fun hc20 => ?_)
              · have hf := (if_neg hc20).symm.trans hf
                refine G_iconst (v := 0) X dL_law_449 rfl ?_
                cases hf
              · have hf := (if_pos hc20).symm.trans hf
                refine G_aload_n (x := some (0)) X dL_law_397 rfl rfl ?_
                refine G_iconst (v := 1) X dL_law_398 rfl ?_
                refine G_callV (As := [vi 1]) X (f5_failure_ok E I18 1 _ rfl) cb_L_114 vi_X5_failure (ci := 4) rfl rfl (show SH[0]? = some (_, 0) from rfl) rfl rfl (Nat.le_of_ble_eq_true rfl) (by decide) (by decide) rfl (by decide) (by decide) dL_law_399 ?_
                show G E κ _ _ _ [none, some (vr 0), none, some (vi x3), some (vi x4), none, none, none, none] [vi (f5_failure I18 1)] (mm I18)
                refine G_if_ne (tgt := 449) X dL_law_402 (by decide) (fun hc21 => ?_) (fun hc21 => ?_)
                · have hf := (if_neg hc21).symm.trans hf
                  refine G_iconst (v := 0) X dL_law_449 rfl ?_
                  cases hf
                · have hf := (if_pos hc21).symm.trans hf
                  refine G_aload_n (x := some (0)) X dL_law_405 rfl rfl ?_
                  refine G_bipush (v := 8) X dL_law_406 rfl ?_
                  refine G_iconst (v := 0) X dL_law_408 rfl ?_
                  obtain ⟨v22, hk22, hf⟩ := obd hf
                  refine G_callV (As := [vi 8, vi 0]) X (f5_row_ok E I18 8 0 v22 hk22) cb_L_18 vi_X5_row (ci := 4) rfl rfl (show SH[0]? = some (_, 0) from rfl) rfl rfl (Nat.le_of_ble_eq_true rfl) (by decide) (by decide) rfl (by decide) (by decide) dL_law_409 ?_
                  show G E κ _ _ _ [none, some (vr 0), none, some (vi x3), some (vi x4), none, none, none, none] [vi v22] (mm I18)
                  refine G_iconst (v := (-1)) X dL_law_412 rfl ?_
                  refine G_icmp_ne (tgt := 449) X dL_law_413 (by decide) (fun hc23 => ?_) (fun hc23 => ?_)
                  · have hf := (if_neg hc23).symm.trans hf
                    refine G_iconst (v := 0) X dL_law_449 rfl ?_
                    cases hf
                  · have hf := (if_pos hc23).symm.trans hf
                    refine G_aload_n (x := some (0)) X dL_law_416 rfl rfl ?_
                    refine G_bipush (v := 6) X dL_law_417 rfl ?_
                    obtain ⟨v24, hk24, hf⟩ := obd hf
                    refine G_callV (As := [vi 6]) X (f5_count_ok E I18 6 v24 hk24) cb_L_12 vi_X5_count (ci := 4) rfl rfl (show SH[0]? = some (_, 0) from rfl) rfl rfl (Nat.le_of_ble_eq_true rfl) (by decide) (by decide) rfl (by decide) (by decide) dL_law_419 ?_
                    show G E κ _ _ _ [none, some (vr 0), none, some (vi x3), some (vi x4), none, none, none, none] [vi v24] (mm I18)
                    refine G_iconst (v := (-1)) X dL_law_422 rfl ?_
                    refine G_icmp_ne (tgt := 449) X dL_law_423 (by decide) (fun hc25 => ?_) (fun hc25 => ?_)
                    · have hf := (if_neg hc25).symm.trans hf
                      refine G_iconst (v := 0) X dL_law_449 rfl ?_
                      cases hf
                    · have hf := (if_pos hc25).symm.trans hf
                      refine G_aload_n (x := some (0)) X dL_law_426 rfl rfl ?_
                      refine G_bipush (v := 8) X dL_law_427 rfl ?_
                      obtain ⟨v26, hk26, hf⟩ := obd hf
                      refine G_callV (As := [vi 8]) X (f5_same_ok E I18 8 v26 hk26) cb_L_42 vi_X5_same (ci := 4) rfl rfl (show SH[0]? = some (_, 0) from rfl) rfl rfl (Nat.le_of_ble_eq_true rfl) (by decide) (by decide) rfl (by decide) (by decide) dL_law_429 ?_
                      show G E κ _ _ _ [none, some (vr 0), none, some (vi x3), some (vi x4), none, none, none, none] [vi v26] (mm I18)
                      refine G_iconst (v := (-1)) X dL_law_432 rfl ?_
                      refine G_icmp_ne (tgt := 449) X dL_law_433 (by decide) (fun hc27 => ?_) (fun hc27 => ?_)
                      · have hf := (if_neg hc27).symm.trans hf
                        refine G_iconst (v := 0) X dL_law_449 rfl ?_
                        cases hf
                      · have hf := (if_pos hc27).symm.trans hf
                        refine G_aload_n (x := some (0)) X dL_law_436 rfl rfl ?_
                        refine G_iconst (v := (-1)) X dL_law_437 rfl ?_
                        obtain ⟨⟨v28, I28⟩, hk28, hf⟩ := obd hf
                        try dsimp only at hf
                        refine G_callV (As := [vi ((-1))]) X (f5_bestShift_ok E I18 ((-1)) v28 I28 hk28) cb_L_49 vi_X5_bestShift (ci := 4) rfl rfl (show SH[0]? = some (_, 0) from rfl) rfl rfl (Nat.le_of_ble_eq_true rfl) (by decide) (by decide) rfl (by decide) (by decide) dL_law_438 ?_
                        show G E κ _ _ _ [none, some (vr 0), none, some (vi x3), some (vi x4), none, none, none, none] [vi v28] (mm I28)
                        refine G_iconst (v := (-1)) X dL_law_441 rfl ?_
                        refine G_icmp_ne (tgt := 449) X dL_law_442 (by decide) (fun hc29 => ?_) (fun hc29 => ?_)
                        · have hf := (if_neg hc29).symm.trans hf
                          refine G_iconst (v := 0) X dL_law_449 rfl ?_
                          cases hf
                        · have hf := (if_pos hc29).symm.trans hf
                          refine G_iconst (v := 1) X dL_law_445 rfl ?_
                          refine G_goto (tgt := 450) X dL_law_446 (by decide) ?_
                          exact G_lawret X hR.1 dL_law_450
    · have hf := (if_neg hc11).symm.trans hf
      refine G_aload_n (x := some (0)) X dL_law_314 rfl rfl ?_
      obtain ⟨⟨v30, I30⟩, hk30, hf⟩ := obd hf
      try dsimp only at hf
      refine G_callV (As := []) X (f5_undo_ok E I v30 I30 hk30) cb_L_55 vi_X5_undo (ci := 4) rfl rfl (show SH[0]? = some (_, 0) from rfl) rfl rfl (Nat.le_of_ble_eq_true rfl) (by decide) (by decide) rfl (by decide) (by decide) dL_law_315 ?_
      show G E κ _ _ _ [none, some (vr 0), none, some (vi x3), some (vi x4), none, none, none, none] [vi v30] (mm I30)
      refine G_iload_n (x := x3) X dL_law_318 rfl rfl ?_
      refine G_iconst (v := 1) X dL_law_319 rfl ?_
      refine G_isub X dL_law_320 ?_
      refine G_iload (x := x4) X dL_law_321 rfl ?_
      refine G_isub X dL_law_323 ?_
      refine G_icmp_ne (tgt := 343) X dL_law_324 (by decide) (fun hc31 => ?_) (fun hc31 => ?_)
      · have hf := (if_neg hc31).symm.trans hf
        refine G_iconst (v := 0) X dL_law_343 rfl ?_
        cases hf
      · have hf := (if_pos hc31).symm.trans hf
        refine G_aload_n (x := some (0)) X dL_law_327 rfl rfl ?_
        refine G_iconst (v := 0) X dL_law_328 rfl ?_
        obtain ⟨v32, hk32, hf⟩ := obd hf
        refine G_callV (As := [vi 0]) X (f5_count_ok E I30 0 v32 hk32) cb_L_12 vi_X5_count (ci := 4) rfl rfl (show SH[0]? = some (_, 0) from rfl) rfl rfl (Nat.le_of_ble_eq_true rfl) (by decide) (by decide) rfl (by decide) (by decide) dL_law_329 ?_
        show G E κ _ _ _ [none, some (vr 0), none, some (vi x3), some (vi x4), none, none, none, none] [vi v32] (mm I30)
        refine G_if_le (tgt := 345) X dL_law_332 (by decide) (fun hc33 => ?_) (fun hc33 => ?_)
        · have hf := (if_pos hc33).symm.trans hf
          refine G_iinc (x := x4) (v := 1) X dL_law_345 rfl rfl rfl (ls' := [none, some (vr 0), none, some (vi x3), some (vi (x4 + 1)), none, none, none, none]) rfl ?_
          refine G_goto (tgt := 308) X dL_law_348 (by decide) ?_
          exact ih I30 x3 (x4 + 1) hR hf
        · have hf := (if_neg hc33).symm.trans hf
          refine G_aload_n (x := some (0)) X dL_law_335 rfl rfl ?_
          refine G_iconst (v := 0) X dL_law_336 rfl ?_
          obtain ⟨v34, hk34, hf⟩ := obd hf
          refine G_callS (As := [vr 0, vi 0]) X (fL_isPacked_ok E I30 0 v34 hk34) cb_L_100 st_L_isPacked rfl rfl (Nat.le_of_ble_eq_true rfl) (by decide) (by decide) rfl (by decide) (by decide) dL_law_337 ?_
          show G E κ _ _ _ [none, some (vr 0), none, some (vi x3), some (vi x4), none, none, none, none] [vi (b2i v34)] (mm I30)
          refine G_if_ne (tgt := 345) X dL_law_340 (by decide) (fun hc35 => ?_) (fun hc35 => ?_)
          · have hf := (if_pos (b2i_t hc35)).symm.trans hf
            refine G_iinc (x := x4) (v := 1) X dL_law_345 rfl rfl rfl (ls' := [none, some (vr 0), none, some (vi x3), some (vi (x4 + 1)), none, none, none, none]) rfl ?_
            refine G_goto (tgt := 308) X dL_law_348 (by decide) ?_
            exact ih I30 x3 (x4 + 1) hR hf
          · have hf := (if_neg (b2i_f hc35)).symm.trans hf
            refine G_iconst (v := 0) X dL_law_343 rfl ?_
            cases hf

def fL_law_J256 (L : Nat) (xs : Nat → Int32) (K118 : gI → Int32 → Option Bool) (I : gI) (x3 : Int32) (x4 : Int32) (x8 : Int32) : Option Bool := (if (x3 - x3 / 8 * 8) = 3 then (fL_low (x4 >>> (7 &&& 31)) x8).bind fun v47 => (fL_low (x4 >>> (16 &&& 31)) 15).bind fun v48 => (fL_isBest I v47 v48).bind fun q49 => (if q49.1 = true then K118 q49.2 (x3 + 1) else some false) else K118 I (x3 + 1))
set_option maxRecDepth 100000 in
set_option maxHeartbeats 4000000 in
theorem fL_law_J256_ok (L : Nat) (xs : Nat → Int32) (K118 : gI → Int32 → Option Bool) {E : gEnv} {κ : gCtx} (X : Cx E κ cL_law 9 RL (some .boolean) 2048 600000 7302249) : ∀ (I : gI) (x3 : Int32) (x4 : Int32) (x8 : Int32) (hR : gLE E κ ∧ gX E κ L xs) (hK118 : ∀ (I : gI) (x3 : Int32), K118 I x3 = some true → G E κ 79 1550 118 [some (vsc), some (vr 0), none, some (vi x3), none, none, none, none, none] [] (mm I)) (hf : fL_law_J256 L xs K118 I x3 x4 x8 = some true), G E κ 79 1550 256 [some (vsc), some (vr 0), none, some (vi x3), some (vi x4), none, none, none, some (vi x8)] [] (mm I) := by
  intro I x3 x4 x8 hR hK118 hf
  unfold fL_law_J256 at hf
  refine G_iload_n (x := x3) X dL_law_256 rfl rfl ?_
  refine G_bipush (v := 8) X dL_law_257 rfl ?_
  refine G_irem X dL_law_259 (by decide) ?_
  refine G_iconst (v := 3) X dL_law_260 rfl ?_
  refine G_icmp_ne (tgt := 293) X dL_law_261 (by decide) (fun hc46 => ?_) (fun hc46 => ?_)
  · have hf := (if_neg hc46).symm.trans hf
    refine G_iinc (x := x3) (v := 1) X dL_law_293 rfl rfl rfl (ls' := [some (vsc), some (vr 0), none, some (vi (x3 + 1)), some (vi x4), none, none, none, some (vi x8)]) rfl ?_
    refine G_goto (tgt := 118) X dL_law_296 (by decide) ?_
    refine G_weakL (ls' := [some (vsc), some (vr 0), none, some (vi (x3 + 1)), none, none, none, none, none]) ⟨Or.inr rfl, ⟨Or.inr rfl, ⟨Or.inl rfl, ⟨Or.inr rfl, ⟨Or.inl rfl, ⟨Or.inl rfl, ⟨Or.inl rfl, ⟨Or.inl rfl, ⟨Or.inl rfl, trivial⟩⟩⟩⟩⟩⟩⟩⟩⟩ ?_
    exact hK118 I (x3 + 1) hf
  · have hf := (if_pos hc46).symm.trans hf
    refine G_aload_n (x := some (0)) X dL_law_264 rfl rfl ?_
    refine G_iload (x := x4) X dL_law_265 rfl ?_
    refine G_bipush (v := 7) X dL_law_267 rfl ?_
    refine G_ishr X dL_law_269 ?_
    refine G_iload (x := x8) X dL_law_270 rfl ?_
    obtain ⟨v47, hk47, hf⟩ := obd hf
    refine G_callS (As := [vi (x4 >>> (7 &&& 31)), vi x8]) X (fL_low_ok E I (x4 >>> (7 &&& 31)) x8 v47 hk47) cb_L_59 st_L_low rfl rfl (Nat.le_of_ble_eq_true rfl) (by decide) (by decide) rfl (by decide) (by decide) dL_law_272 ?_
    show G E κ _ _ _ [some (vsc), some (vr 0), none, some (vi x3), some (vi x4), none, none, none, some (vi x8)] [vi v47, vr 0] (mm I)
    refine G_iload (x := x4) X dL_law_275 rfl ?_
    refine G_bipush (v := 16) X dL_law_277 rfl ?_
    refine G_ishr X dL_law_279 ?_
    refine G_bipush (v := 15) X dL_law_280 rfl ?_
    obtain ⟨v48, hk48, hf⟩ := obd hf
    refine G_callS (As := [vi (x4 >>> (16 &&& 31)), vi 15]) X (fL_low_ok E I (x4 >>> (16 &&& 31)) 15 v48 hk48) cb_L_59 st_L_low rfl rfl (Nat.le_of_ble_eq_true rfl) (by decide) (by decide) rfl (by decide) (by decide) dL_law_282 ?_
    show G E κ _ _ _ [some (vsc), some (vr 0), none, some (vi x3), some (vi x4), none, none, none, some (vi x8)] [vi v48, vi v47, vr 0] (mm I)
    obtain ⟨⟨v49, I49⟩, hk49, hf⟩ := obd hf
    try dsimp only at hf
    refine G_callS (As := [vr 0, vi v47, vi v48]) X (fL_isBest_ok E I v47 v48 v49 I49 hk49) cb_L_108 st_L_isBest rfl rfl (Nat.le_of_ble_eq_true rfl) (by decide) (by decide) rfl (by decide) (by decide) dL_law_285 ?_
    show G E κ _ _ _ [some (vsc), some (vr 0), none, some (vi x3), some (vi x4), none, none, none, some (vi x8)] [vi (b2i v49)] (mm I49)
    refine G_if_ne (tgt := 293) X dL_law_288 (by decide) (fun hc50 => ?_) (fun hc50 => ?_)
    · have hf := (if_pos (b2i_t hc50)).symm.trans hf
      refine G_iinc (x := x3) (v := 1) X dL_law_293 rfl rfl rfl (ls' := [some (vsc), some (vr 0), none, some (vi (x3 + 1)), some (vi x4), none, none, none, some (vi x8)]) rfl ?_
      refine G_goto (tgt := 118) X dL_law_296 (by decide) ?_
      refine G_weakL (ls' := [some (vsc), some (vr 0), none, some (vi (x3 + 1)), none, none, none, none, none]) ⟨Or.inr rfl, ⟨Or.inr rfl, ⟨Or.inl rfl, ⟨Or.inr rfl, ⟨Or.inl rfl, ⟨Or.inl rfl, ⟨Or.inl rfl, ⟨Or.inl rfl, ⟨Or.inl rfl, trivial⟩⟩⟩⟩⟩⟩⟩⟩⟩ ?_
      exact hK118 I49 (x3 + 1) hf
    · have hf := (if_neg (b2i_f hc50)).symm.trans hf
      refine G_iconst (v := 0) X dL_law_291 rfl ?_
      cases hf

def fL_law_J198 (L : Nat) (xs : Nat → Int32) (K118 : gI → Int32 → Option Bool) (I : gI) (x3 : Int32) (x4 : Int32) : Option Bool := (f5_count I 0).bind fun v41 => (fL_low (x4 >>> (6 &&& 31)) v41).bind fun v42 => (fL_isPacked I v42).bind fun v43 => (if v43 = true then (if (x3 - x3 / 3 * 3) = 1 then (fL_low (x4 >>> (9 &&& 31)) v41).bind fun v51 => (fL_low (x4 >>> (12 &&& 31)) v41).bind fun v52 => (fL_isSound I v51 v52).bind fun q53 => (if q53.1 = true then fL_law_J256 L xs K118 q53.2 x3 x4 v41 else some false) else fL_law_J256 L xs K118 I x3 x4 v41) else some false)
set_option maxRecDepth 100000 in
set_option maxHeartbeats 4000000 in
theorem fL_law_J198_ok (L : Nat) (xs : Nat → Int32) (K118 : gI → Int32 → Option Bool) {E : gEnv} {κ : gCtx} (X : Cx E κ cL_law 9 RL (some .boolean) 2048 600000 7302249) : ∀ (I : gI) (x3 : Int32) (x4 : Int32) (hR : gLE E κ ∧ gX E κ L xs) (hK118 : ∀ (I : gI) (x3 : Int32), K118 I x3 = some true → G E κ 79 1550 118 [some (vsc), some (vr 0), none, some (vi x3), none, none, none, none, none] [] (mm I)) (hf : fL_law_J198 L xs K118 I x3 x4 = some true), G E κ 79 1550 198 [some (vsc), some (vr 0), none, some (vi x3), some (vi x4), none, none, none, none] [] (mm I) := by
  intro I x3 x4 hR hK118 hf
  unfold fL_law_J198 at hf
  refine G_aload_n (x := some (0)) X dL_law_198 rfl rfl ?_
  refine G_iconst (v := 0) X dL_law_199 rfl ?_
  obtain ⟨v41, hk41, hf⟩ := obd hf
  refine G_callV (As := [vi 0]) X (f5_count_ok E I 0 v41 hk41) cb_L_12 vi_X5_count (ci := 4) rfl rfl (show SH[0]? = some (_, 0) from rfl) rfl rfl (Nat.le_of_ble_eq_true rfl) (by decide) (by decide) rfl (by decide) (by decide) dL_law_200 ?_
  show G E κ _ _ _ [some (vsc), some (vr 0), none, some (vi x3), some (vi x4), none, none, none, none] [vi v41] (mm I)
  refine G_istore X dL_law_203 rfl (ls' := [some (vsc), some (vr 0), none, some (vi x3), some (vi x4), none, none, none, some (vi v41)]) rfl ?_
  refine G_aload_n (x := some (0)) X dL_law_205 rfl rfl ?_
  refine G_iload (x := x4) X dL_law_206 rfl ?_
  refine G_bipush (v := 6) X dL_law_208 rfl ?_
  refine G_ishr X dL_law_210 ?_
  refine G_iload (x := v41) X dL_law_211 rfl ?_
  obtain ⟨v42, hk42, hf⟩ := obd hf
  refine G_callS (As := [vi (x4 >>> (6 &&& 31)), vi v41]) X (fL_low_ok E I (x4 >>> (6 &&& 31)) v41 v42 hk42) cb_L_59 st_L_low rfl rfl (Nat.le_of_ble_eq_true rfl) (by decide) (by decide) rfl (by decide) (by decide) dL_law_213 ?_
  show G E κ _ _ _ [some (vsc), some (vr 0), none, some (vi x3), some (vi x4), none, none, none, some (vi v41)] [vi v42, vr 0] (mm I)
  obtain ⟨v43, hk43, hf⟩ := obd hf
  refine G_callS (As := [vr 0, vi v42]) X (fL_isPacked_ok E I v42 v43 hk43) cb_L_100 st_L_isPacked rfl rfl (Nat.le_of_ble_eq_true rfl) (by decide) (by decide) rfl (by decide) (by decide) dL_law_216 ?_
  show G E κ _ _ _ [some (vsc), some (vr 0), none, some (vi x3), some (vi x4), none, none, none, some (vi v41)] [vi (b2i v43)] (mm I)
  refine G_if_eq (tgt := 291) X dL_law_219 (by decide) (fun hc44 => ?_) (fun hc44 => ?_)
  · have hf := (if_neg (b2i_f hc44)).symm.trans hf
    refine G_iconst (v := 0) X dL_law_291 rfl ?_
    cases hf
  · have hf := (if_pos (b2i_t hc44)).symm.trans hf
    refine G_iload_n (x := x3) X dL_law_222 rfl rfl ?_
    refine G_iconst (v := 3) X dL_law_223 rfl ?_
    refine G_irem X dL_law_224 (by decide) ?_
    refine G_iconst (v := 1) X dL_law_225 rfl ?_
    refine G_icmp_ne (tgt := 256) X dL_law_226 (by decide) (fun hc45 => ?_) (fun hc45 => ?_)
    · have hf := (if_neg hc45).symm.trans hf
      exact fL_law_J256_ok L xs K118 X I x3 x4 v41 hR hK118 hf
    · have hf := (if_pos hc45).symm.trans hf
      refine G_aload_n (x := some (0)) X dL_law_229 rfl rfl ?_
      refine G_iload (x := x4) X dL_law_230 rfl ?_
      refine G_bipush (v := 9) X dL_law_232 rfl ?_
      refine G_ishr X dL_law_234 ?_
      refine G_iload (x := v41) X dL_law_235 rfl ?_
      obtain ⟨v51, hk51, hf⟩ := obd hf
      refine G_callS (As := [vi (x4 >>> (9 &&& 31)), vi v41]) X (fL_low_ok E I (x4 >>> (9 &&& 31)) v41 v51 hk51) cb_L_59 st_L_low rfl rfl (Nat.le_of_ble_eq_true rfl) (by decide) (by decide) rfl (by decide) (by decide) dL_law_237 ?_
      show G E κ _ _ _ [some (vsc), some (vr 0), none, some (vi x3), some (vi x4), none, none, none, some (vi v41)] [vi v51, vr 0] (mm I)
      refine G_iload (x := x4) X dL_law_240 rfl ?_
      refine G_bipush (v := 12) X dL_law_242 rfl ?_
      refine G_ishr X dL_law_244 ?_
      refine G_iload (x := v41) X dL_law_245 rfl ?_
      obtain ⟨v52, hk52, hf⟩ := obd hf
      refine G_callS (As := [vi (x4 >>> (12 &&& 31)), vi v41]) X (fL_low_ok E I (x4 >>> (12 &&& 31)) v41 v52 hk52) cb_L_59 st_L_low rfl rfl (Nat.le_of_ble_eq_true rfl) (by decide) (by decide) rfl (by decide) (by decide) dL_law_247 ?_
      show G E κ _ _ _ [some (vsc), some (vr 0), none, some (vi x3), some (vi x4), none, none, none, some (vi v41)] [vi v52, vi v51, vr 0] (mm I)
      obtain ⟨⟨v53, I53⟩, hk53, hf⟩ := obd hf
      try dsimp only at hf
      refine G_callS (As := [vr 0, vi v51, vi v52]) X (fL_isSound_ok E I v51 v52 v53 I53 hk53) cb_L_104 st_L_isSound rfl rfl (Nat.le_of_ble_eq_true rfl) (by decide) (by decide) rfl (by decide) (by decide) dL_law_250 ?_
      show G E κ _ _ _ [some (vsc), some (vr 0), none, some (vi x3), some (vi x4), none, none, none, some (vi v41)] [vi (b2i v53)] (mm I53)
      refine G_if_eq (tgt := 291) X dL_law_253 (by decide) (fun hc54 => ?_) (fun hc54 => ?_)
      · have hf := (if_neg (b2i_f hc54)).symm.trans hf
        refine G_iconst (v := 0) X dL_law_291 rfl ?_
        cases hf
      · have hf := (if_pos (b2i_t hc54)).symm.trans hf
        exact fL_law_J256_ok L xs K118 X I53 x3 x4 v41 hR hK118 hf

def fL_law_J164 (L : Nat) (xs : Nat → Int32) (K118 : gI → Int32 → Option Bool) (I : gI) (x3 : Int32) (x4 : Int32) (x5 : Int64) (x7 : Int32) : Option Bool := (if x7 < 0 then fL_law_J198 L xs K118 I x3 x4 else (if ((x4 >>> (28 &&& 31)) &&& 3) = 0 then (f5_undo I).bind fun q56 => (if q56.1 < 0 then some false else (fL_all q56.2).bind fun v58 => (if (lg_cmp v58 x5) = 0 then fL_law_J198 L xs K118 q56.2 x3 x4 else some false)) else fL_law_J198 L xs K118 I x3 x4))
set_option maxRecDepth 100000 in
set_option maxHeartbeats 4000000 in
theorem fL_law_J164_ok (L : Nat) (xs : Nat → Int32) (K118 : gI → Int32 → Option Bool) {E : gEnv} {κ : gCtx} (X : Cx E κ cL_law 9 RL (some .boolean) 2048 600000 7302249) : ∀ (I : gI) (x3 : Int32) (x4 : Int32) (x5 : Int64) (x7 : Int32) (hR : gLE E κ ∧ gX E κ L xs) (hK118 : ∀ (I : gI) (x3 : Int32), K118 I x3 = some true → G E κ 79 1550 118 [some (vsc), some (vr 0), none, some (vi x3), none, none, none, none, none] [] (mm I)) (hf : fL_law_J164 L xs K118 I x3 x4 x5 x7 = some true), G E κ 79 1550 164 [some (vsc), some (vr 0), none, some (vi x3), some (vi x4), some (vl x5), none, some (vi x7), none] [] (mm I) := by
  intro I x3 x4 x5 x7 hR hK118 hf
  unfold fL_law_J164 at hf
  refine G_iload (x := x7) X dL_law_164 rfl ?_
  refine G_if_lt (tgt := 198) X dL_law_166 (by decide) (fun hc40 => ?_) (fun hc40 => ?_)
  · have hf := (if_pos hc40).symm.trans hf
    refine G_weakL (ls' := [some (vsc), some (vr 0), none, some (vi x3), some (vi x4), none, none, none, none]) ⟨Or.inr rfl, ⟨Or.inr rfl, ⟨Or.inl rfl, ⟨Or.inr rfl, ⟨Or.inr rfl, ⟨Or.inl rfl, ⟨Or.inl rfl, ⟨Or.inl rfl, ⟨Or.inl rfl, trivial⟩⟩⟩⟩⟩⟩⟩⟩⟩ ?_
    exact fL_law_J198_ok L xs K118 X I x3 x4 hR hK118 hf
  · have hf := (if_neg hc40).symm.trans hf
    refine G_iload (x := x4) X dL_law_169 rfl ?_
    refine G_bipush (v := 28) X dL_law_171 rfl ?_
    refine G_ishr X dL_law_173 ?_
    refine G_iconst (v := 3) X dL_law_174 rfl ?_
    refine G_iand X dL_law_175 ?_
    refine G_if_ne (tgt := 198) X dL_law_176 (by decide) (fun hc55 => ?_) (fun hc55 => ?_)
    · have hf := (if_neg hc55).symm.trans hf
      refine G_weakL (ls' := [some (vsc), some (vr 0), none, some (vi x3), some (vi x4), none, none, none, none]) ⟨Or.inr rfl, ⟨Or.inr rfl, ⟨Or.inl rfl, ⟨Or.inr rfl, ⟨Or.inr rfl, ⟨Or.inl rfl, ⟨Or.inl rfl, ⟨Or.inl rfl, ⟨Or.inl rfl, trivial⟩⟩⟩⟩⟩⟩⟩⟩⟩ ?_
      exact fL_law_J198_ok L xs K118 X I x3 x4 hR hK118 hf
    · have hf := (if_pos hc55).symm.trans hf
      refine G_aload_n (x := some (0)) X dL_law_179 rfl rfl ?_
      obtain ⟨⟨v56, I56⟩, hk56, hf⟩ := obd hf
      try dsimp only at hf
      refine G_callV (As := []) X (f5_undo_ok E I v56 I56 hk56) cb_L_55 vi_X5_undo (ci := 4) rfl rfl (show SH[0]? = some (_, 0) from rfl) rfl rfl (Nat.le_of_ble_eq_true rfl) (by decide) (by decide) rfl (by decide) (by decide) dL_law_180 ?_
      show G E κ _ _ _ [some (vsc), some (vr 0), none, some (vi x3), some (vi x4), some (vl x5), none, some (vi x7), none] [vi v56] (mm I56)
      refine G_if_lt (tgt := 196) X dL_law_183 (by decide) (fun hc57 => ?_) (fun hc57 => ?_)
      · have hf := (if_pos hc57).symm.trans hf
        refine G_iconst (v := 0) X dL_law_196 rfl ?_
        cases hf
      · have hf := (if_neg hc57).symm.trans hf
        refine G_aload_n (x := some (0)) X dL_law_186 rfl rfl ?_
        obtain ⟨v58, hk58, hf⟩ := obd hf
        refine G_callS (As := [vr 0]) X (fL_all_ok E I56 v58 hk58) cb_L_45 st_L_all rfl rfl (Nat.le_of_ble_eq_true rfl) (by decide) (by decide) rfl (by decide) (by decide) dL_law_187 ?_
        show G E κ _ _ _ [some (vsc), some (vr 0), none, some (vi x3), some (vi x4), some (vl x5), none, some (vi x7), none] [vl v58] (mm I56)
        refine G_lload (x := x5) X dL_law_190 rfl ?_
        refine G_lcmp X dL_law_192 ?_
        refine G_if_eq (tgt := 198) X dL_law_193 (by decide) (fun hc59 => ?_) (fun hc59 => ?_)
        · have hf := (if_pos hc59).symm.trans hf
          refine G_weakL (ls' := [some (vsc), some (vr 0), none, some (vi x3), some (vi x4), none, none, none, none]) ⟨Or.inr rfl, ⟨Or.inr rfl, ⟨Or.inl rfl, ⟨Or.inr rfl, ⟨Or.inr rfl, ⟨Or.inl rfl, ⟨Or.inl rfl, ⟨Or.inl rfl, ⟨Or.inl rfl, trivial⟩⟩⟩⟩⟩⟩⟩⟩⟩ ?_
          exact fL_law_J198_ok L xs K118 X I56 x3 x4 hR hK118 hf
        · have hf := (if_neg hc59).symm.trans hf
          refine G_iconst (v := 0) X dL_law_196 rfl ?_
          cases hf

def fL_law_L118 (L : Nat) (xs : Nat → Int32) : Nat → gI → Int32 → Option Bool
  | 0, _, _ => none
  | k + 1, I, x3 => (if 24 ≤ x3 then (f5_count I 4).bind fun v10 => fL_law_L308 L xs FU I v10 0 else (fL_cell L xs (1 + x3)).bind fun v36 => (fL_all I).bind fun v37 => (fL_acts I v36).bind fun q38 => (if 0 ≤ q38.1 then fL_law_J164 L xs (fL_law_L118 L xs k) q38.2 x3 v36 v37 q38.1 else (fL_all q38.2).bind fun v60 => (if (lg_cmp v60 v37) = 0 then fL_law_J164 L xs (fL_law_L118 L xs k) q38.2 x3 v36 v37 q38.1 else some false)))
set_option maxRecDepth 100000 in
set_option maxHeartbeats 4000000 in
theorem fL_law_L118_ok (L : Nat) (xs : Nat → Int32) {E : gEnv} {κ : gCtx} (X : Cx E κ cL_law 9 RL (some .boolean) 2048 600000 7302249) : ∀ (k : Nat) (I : gI) (x3 : Int32) (hR : gLE E κ ∧ gX E κ L xs) (hf : fL_law_L118 L xs k I x3 = some true), G E κ 79 1550 118 [some (vsc), some (vr 0), none, some (vi x3), none, none, none, none, none] [] (mm I) := by
  intro k
  induction k with
  | zero =>
    intros
    rename_i hf
    cases hf
  | succ k ih =>
    intro I x3 hR hf
    refine G_iload_n (x := x3) X dL_law_118 rfl rfl ?_
    refine G_bipush (v := 24) X dL_law_119 rfl ?_
    refine G_icmp_ge (tgt := 299) X dL_law_121 (by decide) (fun hc9 => ?_) (fun hc9 => ?_)
    · have hf := (if_pos hc9).symm.trans hf
      refine G_aload_n (x := some (0)) X dL_law_299 rfl rfl ?_
      refine G_iconst (v := 4) X dL_law_300 rfl ?_
      obtain ⟨v10, hk10, hf⟩ := obd hf
      refine G_callV (As := [vi 4]) X (f5_count_ok E I 4 v10 hk10) cb_L_12 vi_X5_count (ci := 4) rfl rfl (show SH[0]? = some (_, 0) from rfl) rfl rfl (Nat.le_of_ble_eq_true rfl) (by decide) (by decide) rfl (by decide) (by decide) dL_law_301 ?_
      show G E κ _ _ _ [some (vsc), some (vr 0), none, some (vi x3), none, none, none, none, none] [vi v10] (mm I)
      refine G_istore_n X dL_law_304 rfl rfl (ls' := [some (vsc), some (vr 0), none, some (vi v10), none, none, none, none, none]) rfl ?_
      refine G_iconst (v := 0) X dL_law_305 rfl ?_
      refine G_istore X dL_law_306 rfl (ls' := [some (vsc), some (vr 0), none, some (vi v10), some (vi 0), none, none, none, none]) rfl ?_
      refine G_weakL (ls' := [none, some (vr 0), none, some (vi v10), some (vi 0), none, none, none, none]) ⟨Or.inl rfl, ⟨Or.inr rfl, ⟨Or.inl rfl, ⟨Or.inr rfl, ⟨Or.inr rfl, ⟨Or.inl rfl, ⟨Or.inl rfl, ⟨Or.inl rfl, ⟨Or.inl rfl, trivial⟩⟩⟩⟩⟩⟩⟩⟩⟩ ?_
      exact fL_law_L308_ok L xs X FU I v10 0 hR hf
    · have hf := (if_neg hc9).symm.trans hf
      refine G_aload_n (x := none) X dL_law_124 rfl rfl ?_
      refine G_iconst (v := 1) X dL_law_125 rfl ?_
      refine G_iload_n (x := x3) X dL_law_126 rfl rfl ?_
      refine G_iadd X dL_law_127 ?_
      obtain ⟨v36, hk36, hf⟩ := obd hf
      refine G_callX (As := [vsc, vi (1 + x3)]) X hR.2 (fL_cell_ok E L xs I (1 + x3) v36 hk36) cb_L_89 st_L_cell rfl rfl (Nat.le_of_ble_eq_true rfl) (by decide) (by decide) rfl (by decide) (by decide) dL_law_128 ?_
      show G E κ _ _ _ [some (vsc), some (vr 0), none, some (vi x3), none, none, none, none, none] [vi v36] (mm I)
      refine G_istore X dL_law_131 rfl (ls' := [some (vsc), some (vr 0), none, some (vi x3), some (vi v36), none, none, none, none]) rfl ?_
      refine G_aload_n (x := some (0)) X dL_law_133 rfl rfl ?_
      obtain ⟨v37, hk37, hf⟩ := obd hf
      refine G_callS (As := [vr 0]) X (fL_all_ok E I v37 hk37) cb_L_45 st_L_all rfl rfl (Nat.le_of_ble_eq_true rfl) (by decide) (by decide) rfl (by decide) (by decide) dL_law_134 ?_
      show G E κ _ _ _ [some (vsc), some (vr 0), none, some (vi x3), some (vi v36), none, none, none, none] [vl v37] (mm I)
      refine G_lstore X dL_law_137 rfl (Nat.le_of_ble_eq_true rfl) (ls' := [some (vsc), some (vr 0), none, some (vi x3), some (vi v36), some (vl v37), none, none, none]) rfl ?_
      refine G_aload_n (x := some (0)) X dL_law_139 rfl rfl ?_
      refine G_iload (x := v36) X dL_law_140 rfl ?_
      obtain ⟨⟨v38, I38⟩, hk38, hf⟩ := obd hf
      try dsimp only at hf
      refine G_callS (As := [vr 0, vi v36]) X (fL_acts_ok E I v36 v38 I38 hk38) cb_L_96 st_L_acts rfl rfl (Nat.le_of_ble_eq_true rfl) (by decide) (by decide) rfl (by decide) (by decide) dL_law_142 ?_
      show G E κ _ _ _ [some (vsc), some (vr 0), none, some (vi x3), some (vi v36), some (vl v37), none, none, none] [vi v38] (mm I38)
      refine G_istore X dL_law_145 rfl (ls' := [some (vsc), some (vr 0), none, some (vi x3), some (vi v36), some (vl v37), none, some (vi v38), none]) rfl ?_
      refine G_iload (x := v38) X dL_law_147 rfl ?_
      refine G_if_ge (tgt := 164) X dL_law_149 (by decide) (fun hc39 => ?_) (fun hc39 => ?_)
      · have hf := (if_pos hc39).symm.trans hf
        exact fL_law_J164_ok L xs (fL_law_L118 L xs k) X I38 x3 v36 v37 v38 hR (fun I x3 hf => ih I x3 hR hf) hf
      · have hf := (if_neg hc39).symm.trans hf
        refine G_aload_n (x := some (0)) X dL_law_152 rfl rfl ?_
        obtain ⟨v60, hk60, hf⟩ := obd hf
        refine G_callS (As := [vr 0]) X (fL_all_ok E I38 v60 hk60) cb_L_45 st_L_all rfl rfl (Nat.le_of_ble_eq_true rfl) (by decide) (by decide) rfl (by decide) (by decide) dL_law_153 ?_
        show G E κ _ _ _ [some (vsc), some (vr 0), none, some (vi x3), some (vi v36), some (vl v37), none, some (vi v38), none] [vl v60] (mm I38)
        refine G_lload (x := v37) X dL_law_156 rfl ?_
        refine G_lcmp X dL_law_158 ?_
        refine G_if_eq (tgt := 164) X dL_law_159 (by decide) (fun hc61 => ?_) (fun hc61 => ?_)
        · have hf := (if_pos hc61).symm.trans hf
          exact fL_law_J164_ok L xs (fL_law_L118 L xs k) X I38 x3 v36 v37 v38 hR (fun I x3 hf => ih I x3 hR hf) hf
        · have hf := (if_neg hc61).symm.trans hf
          refine G_iconst (v := 0) X dL_law_162 rfl ?_
          cases hf

def fL_law_J93 (L : Nat) (xs : Nat → Int32) (I : gI) (x2 : Int32) : Option Bool := (f5_type I 126).bind fun q6 => (fL_low (x2 >>> (13 &&& 31)) 4).bind fun v7 => (f5_type q6.2 (48 + v7)).bind fun q8 => fL_law_L118 L xs FU q8.2 0
set_option maxRecDepth 100000 in
set_option maxHeartbeats 4000000 in
theorem fL_law_J93_ok (L : Nat) (xs : Nat → Int32) {E : gEnv} {κ : gCtx} (X : Cx E κ cL_law 9 RL (some .boolean) 2048 600000 7302249) : ∀ (I : gI) (x2 : Int32) (hR : gLE E κ ∧ gX E κ L xs) (hf : fL_law_J93 L xs I x2 = some true), G E κ 79 1550 93 [some (vsc), some (vr 0), some (vi x2), none, none, none, none, none, none] [] (mm I) := by
  intro I x2 hR hf
  unfold fL_law_J93 at hf
  refine G_aload_n (x := some (0)) X dL_law_93 rfl rfl ?_
  refine G_bipush (v := 126) X dL_law_94 rfl ?_
  obtain ⟨⟨v6, I6⟩, hk6, hf⟩ := obd hf
  try dsimp only at hf
  refine G_callV (As := [vi 126]) X (f5_type_ok E I 126 v6 I6 hk6) cb_L_93 vi_X5_type (ci := 4) rfl rfl (show SH[0]? = some (_, 0) from rfl) rfl rfl (Nat.le_of_ble_eq_true rfl) (by decide) (by decide) rfl (by decide) (by decide) dL_law_96 ?_
  show G E κ _ _ _ [some (vsc), some (vr 0), some (vi x2), none, none, none, none, none, none] [vi v6] (mm I6)
  refine G_pop X rfl dL_law_99 ?_
  refine G_aload_n (x := some (0)) X dL_law_100 rfl rfl ?_
  refine G_bipush (v := 48) X dL_law_101 rfl ?_
  refine G_iload_n (x := x2) X dL_law_103 rfl rfl ?_
  refine G_bipush (v := 13) X dL_law_104 rfl ?_
  refine G_ishr X dL_law_106 ?_
  refine G_iconst (v := 4) X dL_law_107 rfl ?_
  obtain ⟨v7, hk7, hf⟩ := obd hf
  refine G_callS (As := [vi (x2 >>> (13 &&& 31)), vi 4]) X (fL_low_ok E I6 (x2 >>> (13 &&& 31)) 4 v7 hk7) cb_L_59 st_L_low rfl rfl (Nat.le_of_ble_eq_true rfl) (by decide) (by decide) rfl (by decide) (by decide) dL_law_108 ?_
  show G E κ _ _ _ [some (vsc), some (vr 0), some (vi x2), none, none, none, none, none, none] [vi v7, vi 48, vr 0] (mm I6)
  refine G_iadd X dL_law_111 ?_
  obtain ⟨⟨v8, I8⟩, hk8, hf⟩ := obd hf
  try dsimp only at hf
  refine G_callV (As := [vi (48 + v7)]) X (f5_type_ok E I6 (48 + v7) v8 I8 hk8) cb_L_93 vi_X5_type (ci := 4) rfl rfl (show SH[0]? = some (_, 0) from rfl) rfl rfl (Nat.le_of_ble_eq_true rfl) (by decide) (by decide) rfl (by decide) (by decide) dL_law_112 ?_
  show G E κ _ _ _ [some (vsc), some (vr 0), some (vi x2), none, none, none, none, none, none] [vi v8] (mm I8)
  refine G_pop X rfl dL_law_115 ?_
  refine G_iconst (v := 0) X dL_law_116 rfl ?_
  refine G_istore_n X dL_law_117 rfl rfl (ls' := [some (vsc), some (vr 0), some (vi x2), some (vi 0), none, none, none, none, none]) rfl ?_
  refine G_weakL (ls' := [some (vsc), some (vr 0), none, some (vi 0), none, none, none, none, none]) ⟨Or.inr rfl, ⟨Or.inr rfl, ⟨Or.inl rfl, ⟨Or.inr rfl, ⟨Or.inl rfl, ⟨Or.inl rfl, ⟨Or.inl rfl, ⟨Or.inl rfl, ⟨Or.inl rfl, trivial⟩⟩⟩⟩⟩⟩⟩⟩⟩ ?_
  exact fL_law_L118_ok L xs X FU I8 0 hR hf

def fL_law_L16 (L : Nat) (xs : Nat → Int32) : Nat → gI → Int32 → Int32 → Option Bool
  | 0, _, _, _ => none
  | k + 1, I, x2, x3 => (if 3 ≤ x3 then (fL_low (x2 >>> (9 &&& 31)) 3).bind fun v2 => (f5_type I (48 + v2)).bind fun q3 => (if ((x2 >>> (12 &&& 31)) &&& 1) = 0 then (f5_type q3.2 38).bind fun q62 => fL_law_J93 L xs q62.2 x2 else (f5_type q3.2 94).bind fun q5 => fL_law_J93 L xs q5.2 x2) else (f5_make I).bind fun q63 => (fL_low (x2 >>> ((3 * x3) &&& 31)) 300).bind fun v64 => (f5_append q63.2 x3 ((x2 >>> (x3 &&& 31)) &&& 1) (1 + v64)).bind fun q65 => fL_law_L16 L xs k q65.2 x2 (x3 + 1))
set_option maxRecDepth 100000 in
set_option maxHeartbeats 4000000 in
theorem fL_law_L16_ok (L : Nat) (xs : Nat → Int32) {E : gEnv} {κ : gCtx} (X : Cx E κ cL_law 9 RL (some .boolean) 2048 600000 7302249) : ∀ (k : Nat) (I : gI) (x2 : Int32) (x3 : Int32) (hR : gLE E κ ∧ gX E κ L xs) (hf : fL_law_L16 L xs k I x2 x3 = some true), G E κ 79 1550 16 [some (vsc), some (vr 0), some (vi x2), some (vi x3), none, none, none, none, none] [] (mm I) := by
  intro k
  induction k with
  | zero =>
    intros
    rename_i hf
    cases hf
  | succ k ih =>
    intro I x2 x3 hR hf
    refine G_iload_n (x := x3) X dL_law_16 rfl rfl ?_
    refine G_iconst (v := 3) X dL_law_17 rfl ?_
    refine G_icmp_ge (tgt := 56) X dL_law_18 (by decide) (fun hc1 => ?_) (fun hc1 => ?_)
    · have hf := (if_pos hc1).symm.trans hf
      refine G_aload_n (x := some (0)) X dL_law_56 rfl rfl ?_
      refine G_bipush (v := 48) X dL_law_57 rfl ?_
      refine G_iload_n (x := x2) X dL_law_59 rfl rfl ?_
      refine G_bipush (v := 9) X dL_law_60 rfl ?_
      refine G_ishr X dL_law_62 ?_
      refine G_iconst (v := 3) X dL_law_63 rfl ?_
      obtain ⟨v2, hk2, hf⟩ := obd hf
      refine G_callS (As := [vi (x2 >>> (9 &&& 31)), vi 3]) X (fL_low_ok E I (x2 >>> (9 &&& 31)) 3 v2 hk2) cb_L_59 st_L_low rfl rfl (Nat.le_of_ble_eq_true rfl) (by decide) (by decide) rfl (by decide) (by decide) dL_law_64 ?_
      show G E κ _ _ _ [some (vsc), some (vr 0), some (vi x2), some (vi x3), none, none, none, none, none] [vi v2, vi 48, vr 0] (mm I)
      refine G_iadd X dL_law_67 ?_
      obtain ⟨⟨v3, I3⟩, hk3, hf⟩ := obd hf
      try dsimp only at hf
      refine G_callV (As := [vi (48 + v2)]) X (f5_type_ok E I (48 + v2) v3 I3 hk3) cb_L_93 vi_X5_type (ci := 4) rfl rfl (show SH[0]? = some (_, 0) from rfl) rfl rfl (Nat.le_of_ble_eq_true rfl) (by decide) (by decide) rfl (by decide) (by decide) dL_law_68 ?_
      show G E κ _ _ _ [some (vsc), some (vr 0), some (vi x2), some (vi x3), none, none, none, none, none] [vi v3] (mm I3)
      refine G_pop X rfl dL_law_71 ?_
      refine G_aload_n (x := some (0)) X dL_law_72 rfl rfl ?_
      refine G_iload_n (x := x2) X dL_law_73 rfl rfl ?_
      refine G_bipush (v := 12) X dL_law_74 rfl ?_
      refine G_ishr X dL_law_76 ?_
      refine G_iconst (v := 1) X dL_law_77 rfl ?_
      refine G_iand X dL_law_78 ?_
      refine G_if_ne (tgt := 87) X dL_law_79 (by decide) (fun hc4 => ?_) (fun hc4 => ?_)
      · have hf := (if_neg hc4).symm.trans hf
        refine G_bipush (v := 94) X dL_law_87 rfl ?_
        obtain ⟨⟨v5, I5⟩, hk5, hf⟩ := obd hf
        try dsimp only at hf
        refine G_callV (As := [vi 94]) X (f5_type_ok E I3 94 v5 I5 hk5) cb_L_93 vi_X5_type (ci := 4) rfl rfl (show SH[0]? = some (_, 0) from rfl) rfl rfl (Nat.le_of_ble_eq_true rfl) (by decide) (by decide) rfl (by decide) (by decide) dL_law_89 ?_
        show G E κ _ _ _ [some (vsc), some (vr 0), some (vi x2), some (vi x3), none, none, none, none, none] [vi v5] (mm I5)
        refine G_pop X rfl dL_law_92 ?_
        refine G_weakL (ls' := [some (vsc), some (vr 0), some (vi x2), none, none, none, none, none, none]) ⟨Or.inr rfl, ⟨Or.inr rfl, ⟨Or.inr rfl, ⟨Or.inl rfl, ⟨Or.inl rfl, ⟨Or.inl rfl, ⟨Or.inl rfl, ⟨Or.inl rfl, ⟨Or.inl rfl, trivial⟩⟩⟩⟩⟩⟩⟩⟩⟩ ?_
        exact fL_law_J93_ok L xs X I5 x2 hR hf
      · have hf := (if_pos hc4).symm.trans hf
        refine G_bipush (v := 38) X dL_law_82 rfl ?_
        refine G_goto (tgt := 89) X dL_law_84 (by decide) ?_
        obtain ⟨⟨v62, I62⟩, hk62, hf⟩ := obd hf
        try dsimp only at hf
        refine G_callV (As := [vi 38]) X (f5_type_ok E I3 38 v62 I62 hk62) cb_L_93 vi_X5_type (ci := 4) rfl rfl (show SH[0]? = some (_, 0) from rfl) rfl rfl (Nat.le_of_ble_eq_true rfl) (by decide) (by decide) rfl (by decide) (by decide) dL_law_89 ?_
        show G E κ _ _ _ [some (vsc), some (vr 0), some (vi x2), some (vi x3), none, none, none, none, none] [vi v62] (mm I62)
        refine G_pop X rfl dL_law_92 ?_
        refine G_weakL (ls' := [some (vsc), some (vr 0), some (vi x2), none, none, none, none, none, none]) ⟨Or.inr rfl, ⟨Or.inr rfl, ⟨Or.inr rfl, ⟨Or.inl rfl, ⟨Or.inl rfl, ⟨Or.inl rfl, ⟨Or.inl rfl, ⟨Or.inl rfl, ⟨Or.inl rfl, trivial⟩⟩⟩⟩⟩⟩⟩⟩⟩ ?_
        exact fL_law_J93_ok L xs X I62 x2 hR hf
    · have hf := (if_neg hc1).symm.trans hf
      refine G_aload_n (x := some (0)) X dL_law_21 rfl rfl ?_
      obtain ⟨⟨v63, I63⟩, hk63, hf⟩ := obd hf
      try dsimp only at hf
      refine G_callV (As := []) X (f5_make_ok E I v63 I63 hk63) cb_L_85 vi_X5_make (ci := 4) rfl rfl (show SH[0]? = some (_, 0) from rfl) rfl rfl (Nat.le_of_ble_eq_true rfl) (by decide) (by decide) rfl (by decide) (by decide) dL_law_22 ?_
      show G E κ _ _ _ [some (vsc), some (vr 0), some (vi x2), some (vi x3), none, none, none, none, none] [vi v63] (mm I63)
      refine G_pop X rfl dL_law_25 ?_
      refine G_aload_n (x := some (0)) X dL_law_26 rfl rfl ?_
      refine G_iload_n (x := x3) X dL_law_27 rfl rfl ?_
      refine G_iload_n (x := x2) X dL_law_28 rfl rfl ?_
      refine G_iload_n (x := x3) X dL_law_29 rfl rfl ?_
      refine G_ishr X dL_law_30 ?_
      refine G_iconst (v := 1) X dL_law_31 rfl ?_
      refine G_iand X dL_law_32 ?_
      refine G_iconst (v := 1) X dL_law_33 rfl ?_
      refine G_iload_n (x := x2) X dL_law_34 rfl rfl ?_
      refine G_iconst (v := 3) X dL_law_35 rfl ?_
      refine G_iload_n (x := x3) X dL_law_36 rfl rfl ?_
      refine G_imul X dL_law_37 ?_
      refine G_ishr X dL_law_38 ?_
      refine G_sipush (v := 300) X dL_law_39 rfl ?_
      obtain ⟨v64, hk64, hf⟩ := obd hf
      refine G_callS (As := [vi (x2 >>> ((3 * x3) &&& 31)), vi 300]) X (fL_low_ok E I63 (x2 >>> ((3 * x3) &&& 31)) 300 v64 hk64) cb_L_59 st_L_low rfl rfl (Nat.le_of_ble_eq_true rfl) (by decide) (by decide) rfl (by decide) (by decide) dL_law_42 ?_
      show G E κ _ _ _ [some (vsc), some (vr 0), some (vi x2), some (vi x3), none, none, none, none, none] [vi v64, vi 1, vi ((x2 >>> (x3 &&& 31)) &&& 1), vi x3, vr 0] (mm I63)
      refine G_iadd X dL_law_45 ?_
      obtain ⟨⟨v65, I65⟩, hk65, hf⟩ := obd hf
      try dsimp only at hf
      refine G_callV (As := [vi x3, vi ((x2 >>> (x3 &&& 31)) &&& 1), vi (1 + v64)]) X (f5_append_ok E I63 x3 ((x2 >>> (x3 &&& 31)) &&& 1) (1 + v64) v65 I65 hk65) cb_L_62 vi_X5_append (ci := 4) rfl rfl (show SH[0]? = some (_, 0) from rfl) rfl rfl (Nat.le_of_ble_eq_true rfl) (by decide) (by decide) rfl (by decide) (by decide) dL_law_46 ?_
      show G E κ _ _ _ [some (vsc), some (vr 0), some (vi x2), some (vi x3), none, none, none, none, none] [vi v65] (mm I65)
      refine G_pop X rfl dL_law_49 ?_
      refine G_iinc (x := x3) (v := 1) X dL_law_50 rfl rfl rfl (ls' := [some (vsc), some (vr 0), some (vi x2), some (vi (x3 + 1)), none, none, none, none, none]) rfl ?_
      refine G_goto (tgt := 16) X dL_law_53 (by decide) ?_
      exact ih I65 x2 (x3 + 1) hR hf

/-- the law as a function -/
def lawF (L : Nat) (xs : Nat → Int32) : Option Bool := (fL_cell L xs 0).bind fun z => fL_law_L16 L xs FU I0 z 0
theorem gE_start {s : State} {args : Array Value} (hts : ∀ w ∈ lw_tbl, w.before args s = true) : ∃ (D : va_G) (Gc : Nat → ClassId), gKK D Gc s := by
  have hg : ∀ w ∈ gT, w.before args s = true := fun w hw => hts w (List.mem_filter.mp hw).1
  obtain ⟨c0, i0, h0⟩ := u_known (C := RX0) (T := TX0) (N := 2) (n := 2) hg ws_inX0 (hg _ is_X0)
  obtain ⟨c1, i1, h1⟩ := u_known (C := RX1) (T := TX1) (N := 3) (n := 3) hg ws_inX1 (hg _ is_X1)
  obtain ⟨c2, i2, h2⟩ := u_known (C := RX2) (T := TX2) (N := 10) (n := 10) hg ws_inX2 (hg _ is_X2)
  obtain ⟨c3, i3, h3⟩ := u_known (C := RX3) (T := TX3) (N := 2) (n := 2) hg ws_inX3 (hg _ is_X3)
  obtain ⟨c4, i4, h4⟩ := u_known (C := RX5) (T := TX5) (N := 5) (n := 5) hg ws_inX5 (hg _ is_X5)
  have hao0 : (Cond.arrayOver (.object RX0)).before args s = true := hts _ (List.mem_append_right _ (List.mem_append_left _ (List.mem_of_getElem? (i := 19) (by decide +kernel))))
  have hao1 : (Cond.arrayOver (.object RX1)).before args s = true := hts _ (List.mem_append_right _ (List.mem_append_left _ (List.mem_of_getElem? (i := 27) (by decide +kernel))))
  obtain ⟨a0, k0, p0, q1, q2, q3⟩ := Cond.arrayClass_spec (hg _ ac_int)
  obtain ⟨a1, k1, p1, r1, r2, r3⟩ := Cond.arrayClass_spec (hg _ ac_char)
  obtain ⟨p2, a2, k2, s1, s2, s3, s4, s5⟩ := Cond.arrayOver_spec hao0
  obtain ⟨p3, a3, k3, t1, t2, t3, t4, t5⟩ := Cond.arrayOver_spec hao1
  refine ⟨(fun k => match k with | 0 => c0 | 1 => c1 | 2 => c2 | 3 => c3 | _ => c4, fun k => match k with | 0 => i0 | 1 => i1 | 2 => i2 | 3 => i3 | _ => i4), fun k => match k with | 10 => a0 | 11 => a1 | 12 => a2 | _ => a3, ⟨?_, ?_⟩, va_AO.of hao0, va_AO.of hao1, va_Nw.of rfl (hts _ ?_), va_Nw.of rfl (hts _ ?_), va_Nw.of rfl (hts _ ?_), va_Nw.of rfl (hts _ ?_)⟩
  · intro k q hq
    match k, hq with
    | 0, hq => cases hq; exact h0
    | 1, hq => cases hq; exact h1
    | 2, hq => cases hq; exact h2
    | 3, hq => cases hq; exact h3
    | 4, hq => cases hq; exact h4
    | k + 5, hq => simp [vwCl] at hq
  · intro k q hq
    match k, hq with
    | 0, hq => cases hq; exact ⟨fun n z => ⟨fun k h => (by cases h), k0, q2, p0, q3⟩, q1⟩
    | 1, hq => cases hq; exact ⟨fun n z => ⟨fun k h => (by cases h), k1, r2, p1, r3⟩, r1⟩
    | 2, hq => cases hq; exact ⟨fun n z => ⟨fun k h => (by cases h), k2, s3, p2, s4⟩, k2, p2, s3, s4, s1, s5⟩
    | 3, hq => cases hq; exact ⟨fun n z => ⟨fun k h => (by cases h), k3, t3, p3, t4⟩, k3, p3, t3, t4, t1, t5⟩
    | k + 4, hq => simp [gTy] at hq
  · exact List.mem_append_right _ (List.mem_append_left _ (List.mem_of_getElem? (i := 114) (by decide +kernel)))
  · exact List.mem_append_right _ (List.mem_append_left _ (List.mem_of_getElem? (i := 35) (by decide +kernel)))
  · exact List.mem_append_right _ (List.mem_append_left _ (List.mem_of_getElem? (i := 77) (by decide +kernel)))
  · exact List.mem_append_right _ (List.mem_append_left _ (List.mem_of_getElem? (i := 29) (by decide +kernel)))
set_option maxRecDepth 100000 in
set_option maxHeartbeats 4000000 in
/-- the walk of the law's body, given that the law's function answers true on every script -/
theorem start_of (HLAW : ∀ (L : Nat) (xs : Nat → Int32), L ≤ 260 → lawF L xs = some true) {p : Program} {e : Env} {s : State} {m : MethodId} {below : List Frame} {meth : Method} {c : Code} (l : Launch) {b L : Nat} {xs : Nat → Int32} (hL : L ≤ 260) (C0 : lw_At p s m meth c b L xs) : W p l e room_1 s m #[Value.ref b] below meth c s.heap [] 0 0 (lw_Z below #[Value.ref b] s) (entryFrame m ([Value.ref b] : List Value).toArray 9) := by
  obtain ⟨hx, hb, hr, hml, hown, hts, hX, hbl, hlocks, hgv⟩ := id C0
  obtain ⟨D, Gc, hKK⟩ := gE_start hts
  have hk := HLAW L xs hL
  have hgT : ∀ w ∈ gT, w.before #[Value.ref b] s = true := fun w hw => hts w (List.mem_filter.mp hw).1
  generalize hE : ((l, D, Gc, s.heap.size, b) : gEnv) = E
  generalize hκ : ((p, e, room_1, s, m, #[Value.ref b], below, meth, c, lw_Z below #[Value.ref b] s) : gCtx) = κ
  have X : Cx E κ cL_law 9 RL (some .boolean) 2048 600000 7302249 := by
    subst hE; subst hκ
    exact ⟨hx, hb, hml, hown, hgT, hKK, Nat.le_refl _, hlocks, hr, Nat.le_of_ble_eq_true rfl, Nat.le_of_ble_eq_true rfl, Nat.le_refl _, Nat.le_of_ble_eq_true rfl⟩
  have hgX : gX E κ L xs := by subst hE; subst hκ; exact ⟨hX, hbl, hbl⟩
  have hLE : gLE E κ := by subst hE; subst hκ; exact ⟨rfl, rfl, rfl, rfl⟩
  have hR : gLE E κ ∧ gX E κ L xs := ⟨hLE, hgX⟩
  have hZ : gSz E κ 0 0 := by subst hE; subst hκ; exact rfl
  have main : G E κ 0 0 0 [some vsc, none, none, none, none, none, none, none, none] [] (cm 0 0) := by
    refine C_new X cw_L_13 hZ (show SH[0]? = some (4, 0) from rfl) rfl (by decide) (by decide) dL_law_0 ?_
    have hZ := gSz_s 1 hZ
    show G E κ 1 5 _ _ _ _
    refine G_dup X rfl dL_law_3 ?_
    refine C_callI (As := []) X (c_X5_init E) cb_L_88 im_X5_init rfl rfl rfl (Nat.le_of_ble_eq_true rfl) (by decide) (by decide) rfl (by decide) (by decide) hZ (Nat.le_of_ble_eq_true rfl) dL_law_4 ?_
    have hZ := gSz_s 78 hZ
    show G E κ 79 1550 _ _ _ _
    suffices h : G E κ 79 1550 7 [some vsc, none, none, none, none, none, none, none, none] [vr 0] (mm I0) by
      subst hE; subst hκ
      intro H locs la hl hP hS
      exact h H locs la hl (start_world hP) hS
    refine G_astore_n X dL_law_7 rfl rfl (ls' := [some vsc, some (vr 0), none, none, none, none, none, none, none]) rfl ?_
    refine G_aload_n (x := none) X dL_law_8 rfl rfl ?_
    refine G_iconst (v := 0) X dL_law_9 rfl ?_
    unfold lawF at hk
    obtain ⟨z, hkz, hf⟩ := obd hk
    refine G_callX (As := [vsc, vi 0]) X hR.2 (fL_cell_ok E L xs I0 0 z hkz) cb_L_89 st_L_cell rfl rfl (Nat.le_of_ble_eq_true rfl) (by decide) (by decide) rfl (by decide) (by decide) dL_law_10 ?_
    show G E κ 79 1550 _ _ _ _
    refine G_istore_n X dL_law_13 rfl rfl (ls' := [some vsc, some (vr 0), some (vi z), none, none, none, none, none, none]) rfl ?_
    refine G_iconst (v := 0) X dL_law_14 rfl ?_
    refine G_istore_n X dL_law_15 rfl rfl (ls' := [some vsc, some (vr 0), some (vi z), some (vi 0), none, none, none, none, none]) rfl ?_
    exact fL_law_L16_ok L xs X FU I0 z 0 hR hf
  subst hE; subst hκ
  rw [lg_entry_eq]
  exact main s.heap [] _ (gLk_entry (av := [vsc]) rfl (by decide)) (fun k q h => by simp [gW] at h) va_S.rf
