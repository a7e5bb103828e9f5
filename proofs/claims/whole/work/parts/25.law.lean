theorem cd_X5_make : Cond.code yX5_make cX5_make 2 (some .int) ∈ gT := gT_t1 135 (by decide +kernel) rfl
theorem cn_X5_make : gCN yX5_make cX5_make 2 (some .int) 0 := ⟨in_X5, cd_X5_make, ⟨by decide +kernel, by decide +kernel, by decide +kernel⟩⟩
theorem im_X5_make : Cond.instanceMethod yX5_make ∈ gT := gT_t1 133 (by decide +kernel) rfl
theorem se_X5_make : Cond.selects RX5 yX5_make yX5_make ∈ gT := gT_t1 134 (by decide +kernel) rfl
theorem vi_X5_make : gVI yX5_make := ⟨im_X5_make, se_X5_make⟩
theorem ml_L_13 : Cond.methodLink RL 13 yX5_make ∈ gT := gT_t1 132 (by decide +kernel) rfl
theorem cb_L_13 : gCB RL 13 yX5_make cX5_make 2 (some .int) 0 := ⟨ml_L_13, cn_X5_make.1, cn_X5_make.2.1, cn_X5_make.2.2⟩
theorem cd_X6_make : Cond.code yX6_make cX6_make 1 (some .int) ∈ gT := gT_t3 38 (by decide +kernel) rfl
theorem cn_X6_make : gCN yX6_make cX6_make 1 (some .int) 0 := ⟨in_X6, cd_X6_make, ⟨by decide +kernel, by decide +kernel, by decide +kernel⟩⟩
theorem im_X6_make : Cond.instanceMethod yX6_make ∈ gT := gT_t3 36 (by decide +kernel) rfl
theorem se_X6_make : Cond.selects RX6 yX6_make yX6_make ∈ gT := gT_t3 37 (by decide +kernel) rfl
theorem vi_X6_make : gVI yX6_make := ⟨im_X6_make, se_X6_make⟩
theorem ml_L_17 : Cond.methodLink RL 17 yX6_make ∈ gT := gT_t3 35 (by decide +kernel) rfl
theorem cb_L_17 : gCB RL 17 yX6_make cX6_make 1 (some .int) 0 := ⟨ml_L_17, cn_X6_make.1, cn_X6_make.2.1, cn_X6_make.2.2⟩
theorem cd_X5_append : Cond.code yX5_append cX5_append 4 (some .int) ∈ gT := gT_t1 171 (by decide +kernel) rfl
theorem cn_X5_append : gCN yX5_append cX5_append 4 (some .int) 3 := ⟨in_X5, cd_X5_append, ⟨by decide +kernel, by decide +kernel, by decide +kernel⟩⟩
theorem im_X5_append : Cond.instanceMethod yX5_append ∈ gT := gT_t1 169 (by decide +kernel) rfl
theorem se_X5_append : Cond.selects RX5 yX5_append yX5_append ∈ gT := gT_t1 170 (by decide +kernel) rfl
theorem vi_X5_append : gVI yX5_append := ⟨im_X5_append, se_X5_append⟩
theorem ml_L_18 : Cond.methodLink RL 18 yX5_append ∈ gT := gT_t1 168 (by decide +kernel) rfl
theorem cb_L_18 : gCB RL 18 yX5_append cX5_append 4 (some .int) 3 := ⟨ml_L_18, cn_X5_append.1, cn_X5_append.2.1, cn_X5_append.2.2⟩
theorem cd_X6_append : Cond.code yX6_append cX6_append 5 (some .int) ∈ gT := gT_t3 49 (by decide +kernel) rfl
theorem cn_X6_append : gCN yX6_append cX6_append 5 (some .int) 3 := ⟨in_X6, cd_X6_append, ⟨by decide +kernel, by decide +kernel, by decide +kernel⟩⟩
theorem im_X6_append : Cond.instanceMethod yX6_append ∈ gT := gT_t3 47 (by decide +kernel) rfl
theorem se_X6_append : Cond.selects RX6 yX6_append yX6_append ∈ gT := gT_t3 48 (by decide +kernel) rfl
theorem vi_X6_append : gVI yX6_append := ⟨im_X6_append, se_X6_append⟩
theorem ml_L_22 : Cond.methodLink RL 22 yX6_append ∈ gT := gT_t3 46 (by decide +kernel) rfl
theorem cb_L_22 : gCB RL 22 yX6_append cX6_append 5 (some .int) 3 := ⟨ml_L_22, cn_X6_append.1, cn_X6_append.2.1, cn_X6_append.2.2⟩
theorem cd_X5_write : Cond.code yX5_write cX5_write 4 (some .int) ∈ gT := gT_t1 189 (by decide +kernel) rfl
theorem cn_X5_write : gCN yX5_write cX5_write 4 (some .int) 3 := ⟨in_X5, cd_X5_write, ⟨by decide +kernel, by decide +kernel, by decide +kernel⟩⟩
theorem im_X5_write : Cond.instanceMethod yX5_write ∈ gT := gT_t1 187 (by decide +kernel) rfl
theorem se_X5_write : Cond.selects RX5 yX5_write yX5_write ∈ gT := gT_t1 188 (by decide +kernel) rfl
theorem vi_X5_write : gVI yX5_write := ⟨im_X5_write, se_X5_write⟩
theorem ml_L_23 : Cond.methodLink RL 23 yX5_write ∈ gT := gT_t1 186 (by decide +kernel) rfl
theorem cb_L_23 : gCB RL 23 yX5_write cX5_write 4 (some .int) 3 := ⟨ml_L_23, cn_X5_write.1, cn_X5_write.2.1, cn_X5_write.2.2⟩
theorem cd_X6_write : Cond.code yX6_write cX6_write 5 (some .int) ∈ gT := gT_t3 68 (by decide +kernel) rfl
theorem cn_X6_write : gCN yX6_write cX6_write 5 (some .int) 3 := ⟨in_X6, cd_X6_write, ⟨by decide +kernel, by decide +kernel, by decide +kernel⟩⟩
theorem im_X6_write : Cond.instanceMethod yX6_write ∈ gT := gT_t3 66 (by decide +kernel) rfl
theorem se_X6_write : Cond.selects RX6 yX6_write yX6_write ∈ gT := gT_t3 67 (by decide +kernel) rfl
theorem vi_X6_write : gVI yX6_write := ⟨im_X6_write, se_X6_write⟩
theorem ml_L_26 : Cond.methodLink RL 26 yX6_write ∈ gT := gT_t3 65 (by decide +kernel) rfl
theorem cb_L_26 : gCB RL 26 yX6_write cX6_write 5 (some .int) 3 := ⟨ml_L_26, cn_X6_write.1, cn_X6_write.2.1, cn_X6_write.2.2⟩
theorem cd_X5_set : Cond.code yX5_set cX5_set 5 (some .int) ∈ gT := gT_t1 226 (by decide +kernel) rfl
theorem cn_X5_set : gCN yX5_set cX5_set 5 (some .int) 3 := ⟨in_X5, cd_X5_set, ⟨by decide +kernel, by decide +kernel, by decide +kernel⟩⟩
theorem im_X5_set : Cond.instanceMethod yX5_set ∈ gT := gT_t1 224 (by decide +kernel) rfl
theorem se_X5_set : Cond.selects RX5 yX5_set yX5_set ∈ gT := gT_t1 225 (by decide +kernel) rfl
theorem vi_X5_set : gVI yX5_set := ⟨im_X5_set, se_X5_set⟩
theorem ml_L_27 : Cond.methodLink RL 27 yX5_set ∈ gT := gT_t1 223 (by decide +kernel) rfl
theorem cb_L_27 : gCB RL 27 yX5_set cX5_set 5 (some .int) 3 := ⟨ml_L_27, cn_X5_set.1, cn_X5_set.2.1, cn_X5_set.2.2⟩
theorem cd_X6_set : Cond.code yX6_set cX6_set 5 (some .int) ∈ gT := gT_t3 97 (by decide +kernel) rfl
theorem cn_X6_set : gCN yX6_set cX6_set 5 (some .int) 3 := ⟨in_X6, cd_X6_set, ⟨by decide +kernel, by decide +kernel, by decide +kernel⟩⟩
theorem im_X6_set : Cond.instanceMethod yX6_set ∈ gT := gT_t3 95 (by decide +kernel) rfl
theorem se_X6_set : Cond.selects RX6 yX6_set yX6_set ∈ gT := gT_t3 96 (by decide +kernel) rfl
theorem vi_X6_set : gVI yX6_set := ⟨im_X6_set, se_X6_set⟩
theorem ml_L_30 : Cond.methodLink RL 30 yX6_set ∈ gT := gT_t3 94 (by decide +kernel) rfl
theorem cb_L_30 : gCB RL 30 yX6_set cX6_set 5 (some .int) 3 := ⟨ml_L_30, cn_X6_set.1, cn_X6_set.2.1, cn_X6_set.2.2⟩
theorem cd_X5_resize : Cond.code yX5_resize cX5_resize 4 (some .int) ∈ gT := gT_t2 0 (by decide +kernel) rfl
theorem cn_X5_resize : gCN yX5_resize cX5_resize 4 (some .int) 2 := ⟨in_X5, cd_X5_resize, ⟨by decide +kernel, by decide +kernel, by decide +kernel⟩⟩
theorem im_X5_resize : Cond.instanceMethod yX5_resize ∈ gT := gT_t1 238 (by decide +kernel) rfl
theorem se_X5_resize : Cond.selects RX5 yX5_resize yX5_resize ∈ gT := gT_t1 239 (by decide +kernel) rfl
theorem vi_X5_resize : gVI yX5_resize := ⟨im_X5_resize, se_X5_resize⟩
theorem ml_L_31 : Cond.methodLink RL 31 yX5_resize ∈ gT := gT_t1 237 (by decide +kernel) rfl
theorem cb_L_31 : gCB RL 31 yX5_resize cX5_resize 4 (some .int) 2 := ⟨ml_L_31, cn_X5_resize.1, cn_X5_resize.2.1, cn_X5_resize.2.2⟩
theorem cd_X6_resize : Cond.code yX6_resize cX6_resize 5 (some .int) ∈ gT := gT_t3 105 (by decide +kernel) rfl
theorem cn_X6_resize : gCN yX6_resize cX6_resize 5 (some .int) 2 := ⟨in_X6, cd_X6_resize, ⟨by decide +kernel, by decide +kernel, by decide +kernel⟩⟩
theorem im_X6_resize : Cond.instanceMethod yX6_resize ∈ gT := gT_t3 103 (by decide +kernel) rfl
theorem se_X6_resize : Cond.selects RX6 yX6_resize yX6_resize ∈ gT := gT_t3 104 (by decide +kernel) rfl
theorem vi_X6_resize : gVI yX6_resize := ⟨im_X6_resize, se_X6_resize⟩
theorem ml_L_35 : Cond.methodLink RL 35 yX6_resize ∈ gT := gT_t3 102 (by decide +kernel) rfl
theorem cb_L_35 : gCB RL 35 yX6_resize cX6_resize 5 (some .int) 2 := ⟨ml_L_35, cn_X6_resize.1, cn_X6_resize.2.1, cn_X6_resize.2.2⟩
theorem cd_X5_operate : Cond.code yX5_operate cX5_operate 6 (some .int) ∈ gT := gT_t2 4 (by decide +kernel) rfl
theorem cn_X5_operate : gCN yX5_operate cX5_operate 6 (some .int) 4 := ⟨in_X5, cd_X5_operate, ⟨by decide +kernel, by decide +kernel, by decide +kernel⟩⟩
theorem im_X5_operate : Cond.instanceMethod yX5_operate ∈ gT := gT_t2 2 (by decide +kernel) rfl
theorem se_X5_operate : Cond.selects RX5 yX5_operate yX5_operate ∈ gT := gT_t2 3 (by decide +kernel) rfl
theorem vi_X5_operate : gVI yX5_operate := ⟨im_X5_operate, se_X5_operate⟩
theorem ml_L_36 : Cond.methodLink RL 36 yX5_operate ∈ gT := gT_t2 1 (by decide +kernel) rfl
theorem cb_L_36 : gCB RL 36 yX5_operate cX5_operate 6 (some .int) 4 := ⟨ml_L_36, cn_X5_operate.1, cn_X5_operate.2.1, cn_X5_operate.2.2⟩
theorem cd_X6_operate : Cond.code yX6_operate cX6_operate 6 (some .int) ∈ gT := gT_t3 109 (by decide +kernel) rfl
theorem cn_X6_operate : gCN yX6_operate cX6_operate 6 (some .int) 4 := ⟨in_X6, cd_X6_operate, ⟨by decide +kernel, by decide +kernel, by decide +kernel⟩⟩
theorem im_X6_operate : Cond.instanceMethod yX6_operate ∈ gT := gT_t3 107 (by decide +kernel) rfl
theorem se_X6_operate : Cond.selects RX6 yX6_operate yX6_operate ∈ gT := gT_t3 108 (by decide +kernel) rfl
theorem vi_X6_operate : gVI yX6_operate := ⟨im_X6_operate, se_X6_operate⟩
theorem ml_L_40 : Cond.methodLink RL 40 yX6_operate ∈ gT := gT_t3 106 (by decide +kernel) rfl
theorem cb_L_40 : gCB RL 40 yX6_operate cX6_operate 6 (some .int) 4 := ⟨ml_L_40, cn_X6_operate.1, cn_X6_operate.2.1, cn_X6_operate.2.2⟩
theorem cd_X5_not : Cond.code yX5_not cX5_not 2 (some .int) ∈ gT := gT_t2 22 (by decide +kernel) rfl
theorem cn_X5_not : gCN yX5_not cX5_not 2 (some .int) 1 := ⟨in_X5, cd_X5_not, ⟨by decide +kernel, by decide +kernel, by decide +kernel⟩⟩
theorem im_X5_not : Cond.instanceMethod yX5_not ∈ gT := gT_t2 20 (by decide +kernel) rfl
theorem se_X5_not : Cond.selects RX5 yX5_not yX5_not ∈ gT := gT_t2 21 (by decide +kernel) rfl
theorem vi_X5_not : gVI yX5_not := ⟨im_X5_not, se_X5_not⟩
theorem ml_L_41 : Cond.methodLink RL 41 yX5_not ∈ gT := gT_t2 19 (by decide +kernel) rfl
theorem cb_L_41 : gCB RL 41 yX5_not cX5_not 2 (some .int) 1 := ⟨ml_L_41, cn_X5_not.1, cn_X5_not.2.1, cn_X5_not.2.2⟩
theorem cd_X6_not : Cond.code yX6_not cX6_not 2 (some .int) ∈ gT := gT_t3 131 (by decide +kernel) rfl
theorem cn_X6_not : gCN yX6_not cX6_not 2 (some .int) 1 := ⟨in_X6, cd_X6_not, ⟨by decide +kernel, by decide +kernel, by decide +kernel⟩⟩
theorem im_X6_not : Cond.instanceMethod yX6_not ∈ gT := gT_t3 129 (by decide +kernel) rfl
theorem se_X6_not : Cond.selects RX6 yX6_not yX6_not ∈ gT := gT_t3 130 (by decide +kernel) rfl
theorem vi_X6_not : gVI yX6_not := ⟨im_X6_not, se_X6_not⟩
theorem ml_L_45 : Cond.methodLink RL 45 yX6_not ∈ gT := gT_t3 128 (by decide +kernel) rfl
theorem cb_L_45 : gCB RL 45 yX6_not cX6_not 2 (some .int) 1 := ⟨ml_L_45, cn_X6_not.1, cn_X6_not.2.1, cn_X6_not.2.2⟩
theorem cd_X5_shift : Cond.code yX5_shift cX5_shift 3 (some .int) ∈ gT := gT_t2 44 (by decide +kernel) rfl
theorem cn_X5_shift : gCN yX5_shift cX5_shift 3 (some .int) 2 := ⟨in_X5, cd_X5_shift, ⟨by decide +kernel, by decide +kernel, by decide +kernel⟩⟩
theorem im_X5_shift : Cond.instanceMethod yX5_shift ∈ gT := gT_t2 42 (by decide +kernel) rfl
theorem se_X5_shift : Cond.selects RX5 yX5_shift yX5_shift ∈ gT := gT_t2 43 (by decide +kernel) rfl
theorem vi_X5_shift : gVI yX5_shift := ⟨im_X5_shift, se_X5_shift⟩
theorem ml_L_46 : Cond.methodLink RL 46 yX5_shift ∈ gT := gT_t2 41 (by decide +kernel) rfl
theorem cb_L_46 : gCB RL 46 yX5_shift cX5_shift 3 (some .int) 2 := ⟨ml_L_46, cn_X5_shift.1, cn_X5_shift.2.1, cn_X5_shift.2.2⟩
theorem cd_X6_shift : Cond.code yX6_shift cX6_shift 3 (some .int) ∈ gT := gT_t3 143 (by decide +kernel) rfl
theorem cn_X6_shift : gCN yX6_shift cX6_shift 3 (some .int) 2 := ⟨in_X6, cd_X6_shift, ⟨by decide +kernel, by decide +kernel, by decide +kernel⟩⟩
theorem im_X6_shift : Cond.instanceMethod yX6_shift ∈ gT := gT_t3 141 (by decide +kernel) rfl
theorem se_X6_shift : Cond.selects RX6 yX6_shift yX6_shift ∈ gT := gT_t3 142 (by decide +kernel) rfl
theorem vi_X6_shift : gVI yX6_shift := ⟨im_X6_shift, se_X6_shift⟩
theorem ml_L_49 : Cond.methodLink RL 49 yX6_shift ∈ gT := gT_t3 140 (by decide +kernel) rfl
theorem cb_L_49 : gCB RL 49 yX6_shift cX6_shift 3 (some .int) 2 := ⟨ml_L_49, cn_X6_shift.1, cn_X6_shift.2.1, cn_X6_shift.2.2⟩
theorem cd_X5_undo : Cond.code yX5_undo cX5_undo 2 (some .int) ∈ gT := gT_t2 59 (by decide +kernel) rfl
theorem cn_X5_undo : gCN yX5_undo cX5_undo 2 (some .int) 0 := ⟨in_X5, cd_X5_undo, ⟨by decide +kernel, by decide +kernel, by decide +kernel⟩⟩
theorem im_X5_undo : Cond.instanceMethod yX5_undo ∈ gT := gT_t2 57 (by decide +kernel) rfl
theorem se_X5_undo : Cond.selects RX5 yX5_undo yX5_undo ∈ gT := gT_t2 58 (by decide +kernel) rfl
theorem vi_X5_undo : gVI yX5_undo := ⟨im_X5_undo, se_X5_undo⟩
theorem ml_L_50 : Cond.methodLink RL 50 yX5_undo ∈ gT := gT_t2 56 (by decide +kernel) rfl
theorem cb_L_50 : gCB RL 50 yX5_undo cX5_undo 2 (some .int) 0 := ⟨ml_L_50, cn_X5_undo.1, cn_X5_undo.2.1, cn_X5_undo.2.2⟩
theorem cd_X6_undo : Cond.code yX6_undo cX6_undo 1 (some .int) ∈ gT := gT_t3 30 (by decide +kernel) rfl
theorem cn_X6_undo : gCN yX6_undo cX6_undo 1 (some .int) 0 := ⟨in_X6, cd_X6_undo, ⟨by decide +kernel, by decide +kernel, by decide +kernel⟩⟩
theorem im_X6_undo : Cond.instanceMethod yX6_undo ∈ gT := gT_t3 28 (by decide +kernel) rfl
theorem se_X6_undo : Cond.selects RX6 yX6_undo yX6_undo ∈ gT := gT_t3 29 (by decide +kernel) rfl
theorem vi_X6_undo : gVI yX6_undo := ⟨im_X6_undo, se_X6_undo⟩
theorem ml_L_53 : Cond.methodLink RL 53 yX6_undo ∈ gT := gT_t3 27 (by decide +kernel) rfl
theorem cb_L_53 : gCB RL 53 yX6_undo cX6_undo 1 (some .int) 0 := ⟨ml_L_53, cn_X6_undo.1, cn_X6_undo.2.1, cn_X6_undo.2.2⟩
theorem cd_X5_type : Cond.code yX5_type cX5_type 2 (some .int) ∈ gT := gT_t2 68 (by decide +kernel) rfl
theorem cn_X5_type : gCN yX5_type cX5_type 2 (some .int) 1 := ⟨in_X5, cd_X5_type, ⟨by decide +kernel, by decide +kernel, by decide +kernel⟩⟩
theorem im_X5_type : Cond.instanceMethod yX5_type ∈ gT := gT_t2 66 (by decide +kernel) rfl
theorem se_X5_type : Cond.selects RX5 yX5_type yX5_type ∈ gT := gT_t2 67 (by decide +kernel) rfl
theorem vi_X5_type : gVI yX5_type := ⟨im_X5_type, se_X5_type⟩
theorem ml_L_54 : Cond.methodLink RL 54 yX5_type ∈ gT := gT_t2 65 (by decide +kernel) rfl
theorem cb_L_54 : gCB RL 54 yX5_type cX5_type 2 (some .int) 1 := ⟨ml_L_54, cn_X5_type.1, cn_X5_type.2.1, cn_X5_type.2.2⟩
theorem cd_X6_type : Cond.code yX6_type cX6_type 2 (some .int) ∈ gT := gT_t3 151 (by decide +kernel) rfl
theorem cn_X6_type : gCN yX6_type cX6_type 2 (some .int) 1 := ⟨in_X6, cd_X6_type, ⟨by decide +kernel, by decide +kernel, by decide +kernel⟩⟩
theorem im_X6_type : Cond.instanceMethod yX6_type ∈ gT := gT_t3 149 (by decide +kernel) rfl
theorem se_X6_type : Cond.selects RX6 yX6_type yX6_type ∈ gT := gT_t3 150 (by decide +kernel) rfl
theorem vi_X6_type : gVI yX6_type := ⟨im_X6_type, se_X6_type⟩
theorem ml_L_57 : Cond.methodLink RL 57 yX6_type ∈ gT := gT_t3 148 (by decide +kernel) rfl
theorem cb_L_57 : gCB RL 57 yX6_type cX6_type 2 (some .int) 1 := ⟨ml_L_57, cn_X6_type.1, cn_X6_type.2.1, cn_X6_type.2.2⟩
theorem cd_X5_clearText : Cond.code yX5_clearText cX5_clearText 2 (some .int) ∈ gT := gT_t2 76 (by decide +kernel) rfl
theorem cn_X5_clearText : gCN yX5_clearText cX5_clearText 2 (some .int) 0 := ⟨in_X5, cd_X5_clearText, ⟨by decide +kernel, by decide +kernel, by decide +kernel⟩⟩
theorem im_X5_clearText : Cond.instanceMethod yX5_clearText ∈ gT := gT_t2 74 (by decide +kernel) rfl
theorem se_X5_clearText : Cond.selects RX5 yX5_clearText yX5_clearText ∈ gT := gT_t2 75 (by decide +kernel) rfl
theorem vi_X5_clearText : gVI yX5_clearText := ⟨im_X5_clearText, se_X5_clearText⟩
theorem ml_L_58 : Cond.methodLink RL 58 yX5_clearText ∈ gT := gT_t2 73 (by decide +kernel) rfl
theorem cb_L_58 : gCB RL 58 yX5_clearText cX5_clearText 2 (some .int) 0 := ⟨ml_L_58, cn_X5_clearText.1, cn_X5_clearText.2.1, cn_X5_clearText.2.2⟩
theorem cd_X6_clearText : Cond.code yX6_clearText cX6_clearText 2 (some .int) ∈ gT := gT_t3 155 (by decide +kernel) rfl
theorem cn_X6_clearText : gCN yX6_clearText cX6_clearText 2 (some .int) 0 := ⟨in_X6, cd_X6_clearText, ⟨by decide +kernel, by decide +kernel, by decide +kernel⟩⟩
theorem im_X6_clearText : Cond.instanceMethod yX6_clearText ∈ gT := gT_t3 153 (by decide +kernel) rfl
theorem se_X6_clearText : Cond.selects RX6 yX6_clearText yX6_clearText ∈ gT := gT_t3 154 (by decide +kernel) rfl
theorem vi_X6_clearText : gVI yX6_clearText := ⟨im_X6_clearText, se_X6_clearText⟩
theorem ml_L_61 : Cond.methodLink RL 61 yX6_clearText ∈ gT := gT_t3 152 (by decide +kernel) rfl
theorem cb_L_61 : gCB RL 61 yX6_clearText cX6_clearText 2 (some .int) 0 := ⟨ml_L_61, cn_X6_clearText.1, cn_X6_clearText.2.1, cn_X6_clearText.2.2⟩
theorem cd_X5_evaluate : Cond.code yX5_evaluate cX5_evaluate 2 (some .int) ∈ gT := gT_t2 80 (by decide +kernel) rfl
theorem cn_X5_evaluate : gCN yX5_evaluate cX5_evaluate 2 (some .int) 1 := ⟨in_X5, cd_X5_evaluate, ⟨by decide +kernel, by decide +kernel, by decide +kernel⟩⟩
theorem im_X5_evaluate : Cond.instanceMethod yX5_evaluate ∈ gT := gT_t2 78 (by decide +kernel) rfl
theorem se_X5_evaluate : Cond.selects RX5 yX5_evaluate yX5_evaluate ∈ gT := gT_t2 79 (by decide +kernel) rfl
theorem vi_X5_evaluate : gVI yX5_evaluate := ⟨im_X5_evaluate, se_X5_evaluate⟩
theorem ml_L_62 : Cond.methodLink RL 62 yX5_evaluate ∈ gT := gT_t2 77 (by decide +kernel) rfl
theorem cb_L_62 : gCB RL 62 yX5_evaluate cX5_evaluate 2 (some .int) 1 := ⟨ml_L_62, cn_X5_evaluate.1, cn_X5_evaluate.2.1, cn_X5_evaluate.2.2⟩
theorem cd_X6_evaluate : Cond.code yX6_evaluate cX6_evaluate 2 (some .int) ∈ gT := gT_t3 159 (by decide +kernel) rfl
theorem cn_X6_evaluate : gCN yX6_evaluate cX6_evaluate 2 (some .int) 1 := ⟨in_X6, cd_X6_evaluate, ⟨by decide +kernel, by decide +kernel, by decide +kernel⟩⟩
theorem im_X6_evaluate : Cond.instanceMethod yX6_evaluate ∈ gT := gT_t3 157 (by decide +kernel) rfl
theorem se_X6_evaluate : Cond.selects RX6 yX6_evaluate yX6_evaluate ∈ gT := gT_t3 158 (by decide +kernel) rfl
theorem vi_X6_evaluate : gVI yX6_evaluate := ⟨im_X6_evaluate, se_X6_evaluate⟩
theorem ml_L_65 : Cond.methodLink RL 65 yX6_evaluate ∈ gT := gT_t3 156 (by decide +kernel) rfl
theorem cb_L_65 : gCB RL 65 yX6_evaluate cX6_evaluate 2 (some .int) 1 := ⟨ml_L_65, cn_X6_evaluate.1, cn_X6_evaluate.2.1, cn_X6_evaluate.2.2⟩
theorem cd_X5_failure : Cond.code yX5_failure cX5_failure 2 (some .int) ∈ gT := gT_t2 142 (by decide +kernel) rfl
theorem cn_X5_failure : gCN yX5_failure cX5_failure 2 (some .int) 1 := ⟨in_X5, cd_X5_failure, ⟨by decide +kernel, by decide +kernel, by decide +kernel⟩⟩
theorem im_X5_failure : Cond.instanceMethod yX5_failure ∈ gT := gT_t2 140 (by decide +kernel) rfl
theorem se_X5_failure : Cond.selects RX5 yX5_failure yX5_failure ∈ gT := gT_t2 141 (by decide +kernel) rfl
theorem vi_X5_failure : gVI yX5_failure := ⟨im_X5_failure, se_X5_failure⟩
theorem ml_L_66 : Cond.methodLink RL 66 yX5_failure ∈ gT := gT_t2 139 (by decide +kernel) rfl
theorem cb_L_66 : gCB RL 66 yX5_failure cX5_failure 2 (some .int) 1 := ⟨ml_L_66, cn_X5_failure.1, cn_X5_failure.2.1, cn_X5_failure.2.2⟩
theorem cd_X6_failure : Cond.code yX6_failure cX6_failure 2 (some .int) ∈ gT := gT_t3 221 (by decide +kernel) rfl
theorem cn_X6_failure : gCN yX6_failure cX6_failure 2 (some .int) 1 := ⟨in_X6, cd_X6_failure, ⟨by decide +kernel, by decide +kernel, by decide +kernel⟩⟩
theorem im_X6_failure : Cond.instanceMethod yX6_failure ∈ gT := gT_t3 219 (by decide +kernel) rfl
theorem se_X6_failure : Cond.selects RX6 yX6_failure yX6_failure ∈ gT := gT_t3 220 (by decide +kernel) rfl
theorem vi_X6_failure : gVI yX6_failure := ⟨im_X6_failure, se_X6_failure⟩
theorem ml_L_69 : Cond.methodLink RL 69 yX6_failure ∈ gT := gT_t3 218 (by decide +kernel) rfl
theorem cb_L_69 : gCB RL 69 yX6_failure cX6_failure 2 (some .int) 1 := ⟨ml_L_69, cn_X6_failure.1, cn_X6_failure.2.1, cn_X6_failure.2.2⟩
theorem cd_X5_count : Cond.code yX5_count cX5_count 2 (some .int) ∈ gT := gT_t2 146 (by decide +kernel) rfl
theorem cn_X5_count : gCN yX5_count cX5_count 2 (some .int) 1 := ⟨in_X5, cd_X5_count, ⟨by decide +kernel, by decide +kernel, by decide +kernel⟩⟩
theorem im_X5_count : Cond.instanceMethod yX5_count ∈ gT := gT_t2 144 (by decide +kernel) rfl
theorem se_X5_count : Cond.selects RX5 yX5_count yX5_count ∈ gT := gT_t2 145 (by decide +kernel) rfl
theorem vi_X5_count : gVI yX5_count := ⟨im_X5_count, se_X5_count⟩
theorem ml_L_70 : Cond.methodLink RL 70 yX5_count ∈ gT := gT_t2 143 (by decide +kernel) rfl
theorem cb_L_70 : gCB RL 70 yX5_count cX5_count 2 (some .int) 1 := ⟨ml_L_70, cn_X5_count.1, cn_X5_count.2.1, cn_X5_count.2.2⟩
theorem cd_X6_count : Cond.code yX6_count cX6_count 6 (some .int) ∈ gT := gT_t3 225 (by decide +kernel) rfl
theorem cn_X6_count : gCN yX6_count cX6_count 6 (some .int) 1 := ⟨in_X6, cd_X6_count, ⟨by decide +kernel, by decide +kernel, by decide +kernel⟩⟩
theorem im_X6_count : Cond.instanceMethod yX6_count ∈ gT := gT_t3 223 (by decide +kernel) rfl
theorem se_X6_count : Cond.selects RX6 yX6_count yX6_count ∈ gT := gT_t3 224 (by decide +kernel) rfl
theorem vi_X6_count : gVI yX6_count := ⟨im_X6_count, se_X6_count⟩
theorem ml_L_73 : Cond.methodLink RL 73 yX6_count ∈ gT := gT_t3 222 (by decide +kernel) rfl
theorem cb_L_73 : gCB RL 73 yX6_count cX6_count 6 (some .int) 1 := ⟨ml_L_73, cn_X6_count.1, cn_X6_count.2.1, cn_X6_count.2.2⟩
theorem cd_X5_row : Cond.code yX5_row cX5_row 3 (some .int) ∈ gT := gT_t2 166 (by decide +kernel) rfl
theorem cn_X5_row : gCN yX5_row cX5_row 3 (some .int) 2 := ⟨in_X5, cd_X5_row, ⟨by decide +kernel, by decide +kernel, by decide +kernel⟩⟩
theorem im_X5_row : Cond.instanceMethod yX5_row ∈ gT := gT_t2 164 (by decide +kernel) rfl
theorem se_X5_row : Cond.selects RX5 yX5_row yX5_row ∈ gT := gT_t2 165 (by decide +kernel) rfl
theorem vi_X5_row : gVI yX5_row := ⟨im_X5_row, se_X5_row⟩
theorem ml_L_74 : Cond.methodLink RL 74 yX5_row ∈ gT := gT_t2 163 (by decide +kernel) rfl
theorem cb_L_74 : gCB RL 74 yX5_row cX5_row 3 (some .int) 2 := ⟨ml_L_74, cn_X5_row.1, cn_X5_row.2.1, cn_X5_row.2.2⟩
theorem cd_X6_row : Cond.code yX6_row cX6_row 4 (some .int) ∈ gT := gT_t3 229 (by decide +kernel) rfl
theorem cn_X6_row : gCN yX6_row cX6_row 4 (some .int) 2 := ⟨in_X6, cd_X6_row, ⟨by decide +kernel, by decide +kernel, by decide +kernel⟩⟩
theorem im_X6_row : Cond.instanceMethod yX6_row ∈ gT := gT_t3 227 (by decide +kernel) rfl
theorem se_X6_row : Cond.selects RX6 yX6_row yX6_row ∈ gT := gT_t3 228 (by decide +kernel) rfl
theorem vi_X6_row : gVI yX6_row := ⟨im_X6_row, se_X6_row⟩
theorem ml_L_77 : Cond.methodLink RL 77 yX6_row ∈ gT := gT_t3 226 (by decide +kernel) rfl
theorem cb_L_77 : gCB RL 77 yX6_row cX6_row 4 (some .int) 2 := ⟨ml_L_77, cn_X6_row.1, cn_X6_row.2.1, cn_X6_row.2.2⟩
theorem cd_X5_word : Cond.code yX5_word cX5_word 3 (some .int) ∈ gT := gT_t2 170 (by decide +kernel) rfl
theorem cn_X5_word : gCN yX5_word cX5_word 3 (some .int) 2 := ⟨in_X5, cd_X5_word, ⟨by decide +kernel, by decide +kernel, by decide +kernel⟩⟩
theorem im_X5_word : Cond.instanceMethod yX5_word ∈ gT := gT_t2 168 (by decide +kernel) rfl
theorem se_X5_word : Cond.selects RX5 yX5_word yX5_word ∈ gT := gT_t2 169 (by decide +kernel) rfl
theorem vi_X5_word : gVI yX5_word := ⟨im_X5_word, se_X5_word⟩
theorem ml_L_78 : Cond.methodLink RL 78 yX5_word ∈ gT := gT_t2 167 (by decide +kernel) rfl
theorem cb_L_78 : gCB RL 78 yX5_word cX5_word 3 (some .int) 2 := ⟨ml_L_78, cn_X5_word.1, cn_X5_word.2.1, cn_X5_word.2.2⟩
theorem cd_X6_word : Cond.code yX6_word cX6_word 5 (some .int) ∈ gT := gT_t3 237 (by decide +kernel) rfl
theorem cn_X6_word : gCN yX6_word cX6_word 5 (some .int) 2 := ⟨in_X6, cd_X6_word, ⟨by decide +kernel, by decide +kernel, by decide +kernel⟩⟩
theorem im_X6_word : Cond.instanceMethod yX6_word ∈ gT := gT_t3 235 (by decide +kernel) rfl
theorem se_X6_word : Cond.selects RX6 yX6_word yX6_word ∈ gT := gT_t3 236 (by decide +kernel) rfl
theorem vi_X6_word : gVI yX6_word := ⟨im_X6_word, se_X6_word⟩
theorem ml_L_81 : Cond.methodLink RL 81 yX6_word ∈ gT := gT_t3 234 (by decide +kernel) rfl
theorem cb_L_81 : gCB RL 81 yX6_word cX6_word 5 (some .int) 2 := ⟨ml_L_81, cn_X6_word.1, cn_X6_word.2.1, cn_X6_word.2.2⟩
theorem cd_X5_bit : Cond.code yX5_bit cX5_bit 3 (some .int) ∈ gT := gT_t2 182 (by decide +kernel) rfl
theorem cn_X5_bit : gCN yX5_bit cX5_bit 3 (some .int) 2 := ⟨in_X5, cd_X5_bit, ⟨by decide +kernel, by decide +kernel, by decide +kernel⟩⟩
theorem im_X5_bit : Cond.instanceMethod yX5_bit ∈ gT := gT_t2 180 (by decide +kernel) rfl
theorem se_X5_bit : Cond.selects RX5 yX5_bit yX5_bit ∈ gT := gT_t2 181 (by decide +kernel) rfl
theorem vi_X5_bit : gVI yX5_bit := ⟨im_X5_bit, se_X5_bit⟩
theorem ml_L_82 : Cond.methodLink RL 82 yX5_bit ∈ gT := gT_t2 179 (by decide +kernel) rfl
theorem cb_L_82 : gCB RL 82 yX5_bit cX5_bit 3 (some .int) 2 := ⟨ml_L_82, cn_X5_bit.1, cn_X5_bit.2.1, cn_X5_bit.2.2⟩
theorem cd_X6_bit : Cond.code yX6_bit cX6_bit 3 (some .int) ∈ gT := gT_t4 7 (by decide +kernel) rfl
theorem cn_X6_bit : gCN yX6_bit cX6_bit 3 (some .int) 2 := ⟨in_X6, cd_X6_bit, ⟨by decide +kernel, by decide +kernel, by decide +kernel⟩⟩
theorem im_X6_bit : Cond.instanceMethod yX6_bit ∈ gT := gT_t4 5 (by decide +kernel) rfl
theorem se_X6_bit : Cond.selects RX6 yX6_bit yX6_bit ∈ gT := gT_t4 6 (by decide +kernel) rfl
theorem vi_X6_bit : gVI yX6_bit := ⟨im_X6_bit, se_X6_bit⟩
theorem ml_L_85 : Cond.methodLink RL 85 yX6_bit ∈ gT := gT_t4 4 (by decide +kernel) rfl
theorem cb_L_85 : gCB RL 85 yX6_bit cX6_bit 3 (some .int) 2 := ⟨ml_L_85, cn_X6_bit.1, cn_X6_bit.2.1, cn_X6_bit.2.2⟩
theorem cd_X5_rank : Cond.code yX5_rank cX5_rank 3 (some .int) ∈ gT := gT_t2 186 (by decide +kernel) rfl
theorem cn_X5_rank : gCN yX5_rank cX5_rank 3 (some .int) 2 := ⟨in_X5, cd_X5_rank, ⟨by decide +kernel, by decide +kernel, by decide +kernel⟩⟩
theorem im_X5_rank : Cond.instanceMethod yX5_rank ∈ gT := gT_t2 184 (by decide +kernel) rfl
theorem se_X5_rank : Cond.selects RX5 yX5_rank yX5_rank ∈ gT := gT_t2 185 (by decide +kernel) rfl
theorem vi_X5_rank : gVI yX5_rank := ⟨im_X5_rank, se_X5_rank⟩
theorem ml_L_86 : Cond.methodLink RL 86 yX5_rank ∈ gT := gT_t2 183 (by decide +kernel) rfl
theorem cb_L_86 : gCB RL 86 yX5_rank cX5_rank 3 (some .int) 2 := ⟨ml_L_86, cn_X5_rank.1, cn_X5_rank.2.1, cn_X5_rank.2.2⟩
theorem cd_X6_rank_ : Cond.code yX6_rank_ cX6_rank_ 5 (some .int) ∈ gT := gT_t4 11 (by decide +kernel) rfl
theorem cn_X6_rank_ : gCN yX6_rank_ cX6_rank_ 5 (some .int) 2 := ⟨in_X6, cd_X6_rank_, ⟨by decide +kernel, by decide +kernel, by decide +kernel⟩⟩
theorem im_X6_rank_ : Cond.instanceMethod yX6_rank_ ∈ gT := gT_t4 9 (by decide +kernel) rfl
theorem se_X6_rank_ : Cond.selects RX6 yX6_rank_ yX6_rank_ ∈ gT := gT_t4 10 (by decide +kernel) rfl
theorem vi_X6_rank_ : gVI yX6_rank_ := ⟨im_X6_rank_, se_X6_rank_⟩
theorem ml_L_89 : Cond.methodLink RL 89 yX6_rank_ ∈ gT := gT_t4 8 (by decide +kernel) rfl
theorem cb_L_89 : gCB RL 89 yX6_rank_ cX6_rank_ 5 (some .int) 2 := ⟨ml_L_89, cn_X6_rank_.1, cn_X6_rank_.2.1, cn_X6_rank_.2.2⟩
theorem cd_X5_select : Cond.code yX5_select cX5_select 3 (some .int) ∈ gT := gT_t2 191 (by decide +kernel) rfl
theorem cn_X5_select : gCN yX5_select cX5_select 3 (some .int) 2 := ⟨in_X5, cd_X5_select, ⟨by decide +kernel, by decide +kernel, by decide +kernel⟩⟩
theorem im_X5_select : Cond.instanceMethod yX5_select ∈ gT := gT_t2 189 (by decide +kernel) rfl
theorem se_X5_select : Cond.selects RX5 yX5_select yX5_select ∈ gT := gT_t2 190 (by decide +kernel) rfl
theorem vi_X5_select : gVI yX5_select := ⟨im_X5_select, se_X5_select⟩
theorem ml_L_90 : Cond.methodLink RL 90 yX5_select ∈ gT := gT_t2 188 (by decide +kernel) rfl
theorem cb_L_90 : gCB RL 90 yX5_select cX5_select 3 (some .int) 2 := ⟨ml_L_90, cn_X5_select.1, cn_X5_select.2.1, cn_X5_select.2.2⟩
theorem cd_X6_select : Cond.code yX6_select cX6_select 3 (some .int) ∈ gT := gT_t4 15 (by decide +kernel) rfl
theorem cn_X6_select : gCN yX6_select cX6_select 3 (some .int) 2 := ⟨in_X6, cd_X6_select, ⟨by decide +kernel, by decide +kernel, by decide +kernel⟩⟩
theorem im_X6_select : Cond.instanceMethod yX6_select ∈ gT := gT_t4 13 (by decide +kernel) rfl
theorem se_X6_select : Cond.selects RX6 yX6_select yX6_select ∈ gT := gT_t4 14 (by decide +kernel) rfl
theorem vi_X6_select : gVI yX6_select := ⟨im_X6_select, se_X6_select⟩
theorem ml_L_93 : Cond.methodLink RL 93 yX6_select ∈ gT := gT_t4 12 (by decide +kernel) rfl
theorem cb_L_93 : gCB RL 93 yX6_select cX6_select 3 (some .int) 2 := ⟨ml_L_93, cn_X6_select.1, cn_X6_select.2.1, cn_X6_select.2.2⟩
theorem cd_X5_would : Cond.code yX5_would cX5_would 5 (some .int) ∈ gT := gT_t2 195 (by decide +kernel) rfl
theorem cn_X5_would : gCN yX5_would cX5_would 5 (some .int) 4 := ⟨in_X5, cd_X5_would, ⟨by decide +kernel, by decide +kernel, by decide +kernel⟩⟩
theorem im_X5_would : Cond.instanceMethod yX5_would ∈ gT := gT_t2 193 (by decide +kernel) rfl
theorem se_X5_would : Cond.selects RX5 yX5_would yX5_would ∈ gT := gT_t2 194 (by decide +kernel) rfl
theorem vi_X5_would : gVI yX5_would := ⟨im_X5_would, se_X5_would⟩
theorem ml_L_94 : Cond.methodLink RL 94 yX5_would ∈ gT := gT_t2 192 (by decide +kernel) rfl
theorem cb_L_94 : gCB RL 94 yX5_would cX5_would 5 (some .int) 4 := ⟨ml_L_94, cn_X5_would.1, cn_X5_would.2.1, cn_X5_would.2.2⟩
theorem cd_X6_would : Cond.code yX6_would cX6_would 5 (some .int) ∈ gT := gT_t4 19 (by decide +kernel) rfl
theorem cn_X6_would : gCN yX6_would cX6_would 5 (some .int) 4 := ⟨in_X6, cd_X6_would, ⟨by decide +kernel, by decide +kernel, by decide +kernel⟩⟩
theorem im_X6_would : Cond.instanceMethod yX6_would ∈ gT := gT_t4 17 (by decide +kernel) rfl
theorem se_X6_would : Cond.selects RX6 yX6_would yX6_would ∈ gT := gT_t4 18 (by decide +kernel) rfl
theorem vi_X6_would : gVI yX6_would := ⟨im_X6_would, se_X6_would⟩
theorem ml_L_97 : Cond.methodLink RL 97 yX6_would ∈ gT := gT_t4 16 (by decide +kernel) rfl
theorem cb_L_97 : gCB RL 97 yX6_would cX6_would 5 (some .int) 4 := ⟨ml_L_97, cn_X6_would.1, cn_X6_would.2.1, cn_X6_would.2.2⟩
theorem cd_X5_same : Cond.code yX5_same cX5_same 3 (some .int) ∈ gT := gT_t2 199 (by decide +kernel) rfl
theorem cn_X5_same : gCN yX5_same cX5_same 3 (some .int) 1 := ⟨in_X5, cd_X5_same, ⟨by decide +kernel, by decide +kernel, by decide +kernel⟩⟩
theorem im_X5_same : Cond.instanceMethod yX5_same ∈ gT := gT_t2 197 (by decide +kernel) rfl
theorem se_X5_same : Cond.selects RX5 yX5_same yX5_same ∈ gT := gT_t2 198 (by decide +kernel) rfl
theorem vi_X5_same : gVI yX5_same := ⟨im_X5_same, se_X5_same⟩
theorem ml_L_98 : Cond.methodLink RL 98 yX5_same ∈ gT := gT_t2 196 (by decide +kernel) rfl
theorem cb_L_98 : gCB RL 98 yX5_same cX5_same 3 (some .int) 1 := ⟨ml_L_98, cn_X5_same.1, cn_X5_same.2.1, cn_X5_same.2.2⟩
theorem cd_X6_same : Cond.code yX6_same cX6_same 3 (some .int) ∈ gT := gT_t4 23 (by decide +kernel) rfl
theorem cn_X6_same : gCN yX6_same cX6_same 3 (some .int) 1 := ⟨in_X6, cd_X6_same, ⟨by decide +kernel, by decide +kernel, by decide +kernel⟩⟩
theorem im_X6_same : Cond.instanceMethod yX6_same ∈ gT := gT_t4 21 (by decide +kernel) rfl
theorem se_X6_same : Cond.selects RX6 yX6_same yX6_same ∈ gT := gT_t4 22 (by decide +kernel) rfl
theorem vi_X6_same : gVI yX6_same := ⟨im_X6_same, se_X6_same⟩
theorem ml_L_101 : Cond.methodLink RL 101 yX6_same ∈ gT := gT_t4 20 (by decide +kernel) rfl
theorem cb_L_101 : gCB RL 101 yX6_same cX6_same 3 (some .int) 1 := ⟨ml_L_101, cn_X6_same.1, cn_X6_same.2.1, cn_X6_same.2.2⟩
theorem cd_X5_bestShift : Cond.code yX5_bestShift cX5_bestShift 6 (some .int) ∈ gT := gT_t2 207 (by decide +kernel) rfl
theorem cn_X5_bestShift : gCN yX5_bestShift cX5_bestShift 6 (some .int) 1 := ⟨in_X5, cd_X5_bestShift, ⟨by decide +kernel, by decide +kernel, by decide +kernel⟩⟩
theorem im_X5_bestShift : Cond.instanceMethod yX5_bestShift ∈ gT := gT_t2 205 (by decide +kernel) rfl
theorem se_X5_bestShift : Cond.selects RX5 yX5_bestShift yX5_bestShift ∈ gT := gT_t2 206 (by decide +kernel) rfl
theorem vi_X5_bestShift : gVI yX5_bestShift := ⟨im_X5_bestShift, se_X5_bestShift⟩
theorem ml_L_102 : Cond.methodLink RL 102 yX5_bestShift ∈ gT := gT_t2 204 (by decide +kernel) rfl
theorem cb_L_102 : gCB RL 102 yX5_bestShift cX5_bestShift 6 (some .int) 1 := ⟨ml_L_102, cn_X5_bestShift.1, cn_X5_bestShift.2.1, cn_X5_bestShift.2.2⟩
theorem cd_X6_bestShift : Cond.code yX6_bestShift cX6_bestShift 6 (some .int) ∈ gT := gT_t4 31 (by decide +kernel) rfl
theorem cn_X6_bestShift : gCN yX6_bestShift cX6_bestShift 6 (some .int) 1 := ⟨in_X6, cd_X6_bestShift, ⟨by decide +kernel, by decide +kernel, by decide +kernel⟩⟩
theorem im_X6_bestShift : Cond.instanceMethod yX6_bestShift ∈ gT := gT_t4 29 (by decide +kernel) rfl
theorem se_X6_bestShift : Cond.selects RX6 yX6_bestShift yX6_bestShift ∈ gT := gT_t4 30 (by decide +kernel) rfl
theorem vi_X6_bestShift : gVI yX6_bestShift := ⟨im_X6_bestShift, se_X6_bestShift⟩
theorem ml_L_105 : Cond.methodLink RL 105 yX6_bestShift ∈ gT := gT_t4 28 (by decide +kernel) rfl
theorem cb_L_105 : gCB RL 105 yX6_bestShift cX6_bestShift 6 (some .int) 1 := ⟨ml_L_105, cn_X6_bestShift.1, cn_X6_bestShift.2.1, cn_X6_bestShift.2.2⟩
theorem cl_L_7 : Cond.classLink RL 7 RX5 ∈ gT := gT_t1 11 (by decide +kernel) rfl
theorem is_X5 : Cond.instantiable RX5 5 ∈ gT := gT_t1 12 (by decide +kernel) rfl
theorem cw_L_7 : gCl RL 7 4 := ⟨RX5, TX5, 5, tyX5, rfl, rfl, ws_inX5, tyX5_ok, cl_L_7, is_X5, in_X5, by decide +kernel⟩
theorem cl_L_10 : Cond.classLink RL 10 RX6 ∈ gT := gT_t2 208 (by decide +kernel) rfl
theorem is_X6 : Cond.instantiable RX6 17 ∈ gT := gT_t2 209 (by decide +kernel) rfl
theorem cw_L_10 : gCl RL 10 5 := ⟨RX6, TX6, 17, tyX6, rfl, rfl, ws_inX6, tyX6_ok, cl_L_10, is_X6, in_X6, by decide +kernel⟩
theorem cd_X5_init : Cond.code yX5_init cX5_init 2 none ∈ gT := gT_t1 15 (by decide +kernel) rfl
theorem cn_X5_init : gCN yX5_init cX5_init 2 none 0 := ⟨in_X5, cd_X5_init, ⟨by decide +kernel, by decide +kernel, by decide +kernel⟩⟩
theorem im_X5_init : Cond.instanceMethod yX5_init ∈ gT := gT_t1 14 (by decide +kernel) rfl
theorem ml_L_9 : Cond.methodLink RL 9 yX5_init ∈ gT := gT_t1 13 (by decide +kernel) rfl
theorem cb_L_9 : gCB RL 9 yX5_init cX5_init 2 none 0 := ⟨ml_L_9, cn_X5_init.1, cn_X5_init.2.1, cn_X5_init.2.2⟩
theorem cd_X6_init : Cond.code yX6_init cX6_init 1 none ∈ gT := gT_t2 212 (by decide +kernel) rfl
theorem cn_X6_init : gCN yX6_init cX6_init 1 none 0 := ⟨in_X6, cd_X6_init, ⟨by decide +kernel, by decide +kernel, by decide +kernel⟩⟩
theorem im_X6_init : Cond.instanceMethod yX6_init ∈ gT := gT_t2 211 (by decide +kernel) rfl
theorem ml_L_12 : Cond.methodLink RL 12 yX6_init ∈ gT := gT_t2 210 (by decide +kernel) rfl
theorem cb_L_12 : gCB RL 12 yX6_init cX6_init 1 none 0 := ⟨ml_L_12, cn_X6_init.1, cn_X6_init.2.1, cn_X6_init.2.2⟩
/-! THE CLAIM OUT OF ONE WALK OF THE LAW'S BODY. Your part is whole_start (and what it stands on); all else here is the same for every law, but numbers. -/
def R_law : String := "PackedBitsLaw"
def lw_P (b : Addr) (xs : List Int32) (args : Array Value) (s : State) : Prop := args = #[.ref b] ∧ s.IntsAt b xs ∧ xs.length ≤ 2560 ∧ (Jvm.Cond.and given_1 narrow_1).before args s = true
def lw_Q (_ : Array Value) (s : State) (o : Outcome) (t : State) : Prop := o = .returned (some (.int 1)) ∧ Framed s o t [] 600000 7302249
def lw_Z (below : List Frame) (a : Array Value) (s : State) : State → Prop := fun t => ∃ o, t.status = .running ∧ Ended t below o ∧ lw_Q a s o t
/-- the law's own end, with 1 on the stack, nothing written that was there before, its room as the claim has it -/
theorem lw_ret {p : Program} {l : Launch} {e : Env} {s : State} {m : MethodId} {below : List Frame} {meth : Method} {c : Code} {b : Nat} (hx : p.tables.exec = Jvm.exec) (hb : c.code = code) (hr : meth.sig.returnType = ret) (hlocks : meth.locks = false) {pc : Nat} {H : Heap} {ls : Array Slot} (hdg : decode code pc = .ok (.ireturn, 1)) : W p l e room_1 s m #[Value.ref b] below meth c H [] 600000 7302249 (lw_Z below #[Value.ref b] s) (F0 m pc ls [.int 1]) := by
  intro T hT X
  obtain ⟨fs, hret, hrun, hended, hW, hframe⟩ := X.leave (v := some (.int 1)) (hlocks := hlocks) (fun h => by rw [hr] at h; cases h)
  have hmeth' : T.vm.method? m = some meth := X.method'
  refine ⟨T.setFrames fs, ?_, .returned (some (.int 1)), hrun, hended, rfl, ⟨_, rfl⟩, hW, hframe⟩
  jvm_step X.here [X.here.top, hx, hb, hdg, hmeth', hr, ret, narrow_b1]
  (try refine ⟨rfl, ?_⟩); (try refine ⟨rfl, ?_⟩)
  first | (intro acts; rw [hret _ acts rfl rfl rfl]) | rw [hret _ _ rfl rfl rfl]
  exact Steps.refl _
/-- what holds at the law's entry: the machine, the code, the tables' words (any of lw_tbl by 'hts w (by decide +kernel)'), the script of L ints xs at the cell b, what the Statement gives of the start (any of its parts by flat_of_before) -/
def lw_At (p : Program) (s : State) (m : MethodId) (meth : Method) (c : Code) (b L : Nat) (xs : Nat → Int32) : Prop :=
  p.tables.exec = Jvm.exec ∧ c.code = code ∧ meth.sig.returnType = ret ∧ c.maxLocals = 4 ∧ s.vm.findClass R_law = some m.cls ∧ (∀ w ∈ lw_tbl, w.before #[Value.ref b] s = true) ∧ va_X b L xs s s.heap ∧ b < s.heap.size ∧ meth.locks = false ∧ (Jvm.Cond.and given_1 narrow_1).before #[Value.ref b] s = true
def gLE (E : gEnv) (κ : gCtx) : Prop := match E, κ with
  | (_, _, _, B, b), (_, _, R, s, _, args, below, _, _, Q) => R = room_1 ∧ args = #[Value.ref b] ∧ Q = lw_Z below #[Value.ref b] s ∧ B = s.heap.size
theorem G_lret {E : gEnv} {κ : gCtx} (X : Cx E κ cL_law 4 RL (some .boolean) 2048 600000 7302249) (hE : gLE E κ) {ls : List (Option gV)} {M : gM} {pc : Nat} (hd : decode cL_law pc = .ok (.ireturn, 1)) : G E κ 84 49834 pc ls [vi 1] M := by
  obtain ⟨l, D, Gc, B, b⟩ := E
  obtain ⟨p, e, R, s, m, args, below, meth, c, Q⟩ := κ
  obtain ⟨hx, hb, hml, ho, hts, hK, hB, hlk, hr, -⟩ := X
  obtain ⟨e1, e2, e3, e4⟩ := hE
  subst e1; subst e2; subst e3
  intro H locs la hl hP hS
  refine va_forget (fun q hq => ?_) ?_
  · have := hS.2.2 q hq
    rw [← e4]; exact this
  refine W.widen (k := 600000) (n := 7302249) (by decide) (by decide) ?_
  exact lw_ret hx hb hr hlk hd
/-- the law's loop: whether all that is left of the script is answered alike -/
def lawL (L : Nat) (xs : Nat → Int32) : Nat → gI → Int32 → Option Bool
  | 0, _, _ => none
  | k + 1, I, x3 => (if ((nI L) - 5) < x3 then some true else if ib x3 L = true then (if ((xs x3.toNatClampNeg) &&& 31) = 0 then (f5_make I).bind fun q4 => (f6_make q4.2).bind fun q5 => (if q4.1 = q5.1 then lawL L xs k q5.2 (x3 + 5) else some false) else (if ((xs x3.toNatClampNeg) &&& 31) = 1 then if ib (x3 + 1) L = true then if ib (x3 + 2) L = true then if ib (x3 + 3) L = true then (f5_append I (xs (x3 + 1).toNatClampNeg) (xs (x3 + 2).toNatClampNeg) (xs (x3 + 3).toNatClampNeg)).bind fun q11 => if ib (x3 + 1) L = true then if ib (x3 + 2) L = true then if ib (x3 + 3) L = true then (f6_append q11.2 (xs (x3 + 1).toNatClampNeg) (xs (x3 + 2).toNatClampNeg) (xs (x3 + 3).toNatClampNeg)).bind fun q15 => (if q11.1 = q15.1 then lawL L xs k q15.2 (x3 + 5) else some false) else none else none else none else none else none else none else (if ((xs x3.toNatClampNeg) &&& 31) = 2 then if ib (x3 + 1) L = true then if ib (x3 + 2) L = true then if ib (x3 + 3) L = true then (f5_write I (xs (x3 + 1).toNatClampNeg) (xs (x3 + 2).toNatClampNeg) (xs (x3 + 3).toNatClampNeg)).bind fun q21 => if ib (x3 + 1) L = true then if ib (x3 + 2) L = true then if ib (x3 + 3) L = true then (f6_write q21.2 (xs (x3 + 1).toNatClampNeg) (xs (x3 + 2).toNatClampNeg) (xs (x3 + 3).toNatClampNeg)).bind fun q25 => (if q21.1 = q25.1 then lawL L xs k q25.2 (x3 + 5) else some false) else none else none else none else none else none else none else (if ((xs x3.toNatClampNeg) &&& 31) = 3 then if ib (x3 + 1) L = true then if ib (x3 + 2) L = true then if ib (x3 + 3) L = true then (f5_set I (xs (x3 + 1).toNatClampNeg) (xs (x3 + 2).toNatClampNeg) (xs (x3 + 3).toNatClampNeg)).bind fun q31 => if ib (x3 + 1) L = true then if ib (x3 + 2) L = true then if ib (x3 + 3) L = true then (f6_set q31.2 (xs (x3 + 1).toNatClampNeg) (xs (x3 + 2).toNatClampNeg) (xs (x3 + 3).toNatClampNeg)).bind fun q35 => (if q31.1 = q35.1 then lawL L xs k q35.2 (x3 + 5) else some false) else none else none else none else none else none else none else (if ((xs x3.toNatClampNeg) &&& 31) = 4 then if ib (x3 + 1) L = true then if ib (x3 + 2) L = true then (f5_resize I (xs (x3 + 1).toNatClampNeg) (xs (x3 + 2).toNatClampNeg)).bind fun q40 => if ib (x3 + 1) L = true then if ib (x3 + 2) L = true then (f6_resize q40.2 (xs (x3 + 1).toNatClampNeg) (xs (x3 + 2).toNatClampNeg)).bind fun q43 => (if q40.1 = q43.1 then lawL L xs k q43.2 (x3 + 5) else some false) else none else none else none else none else (if ((xs x3.toNatClampNeg) &&& 31) = 5 then if ib (x3 + 1) L = true then if ib (x3 + 2) L = true then if ib (x3 + 3) L = true then if ib (x3 + 4) L = true then (f5_operate I (xs (x3 + 1).toNatClampNeg) (xs (x3 + 2).toNatClampNeg) (xs (x3 + 3).toNatClampNeg) (xs (x3 + 4).toNatClampNeg)).bind fun q50 => if ib (x3 + 1) L = true then if ib (x3 + 2) L = true then if ib (x3 + 3) L = true then if ib (x3 + 4) L = true then (f6_operate q50.2 (xs (x3 + 1).toNatClampNeg) (xs (x3 + 2).toNatClampNeg) (xs (x3 + 3).toNatClampNeg) (xs (x3 + 4).toNatClampNeg)).bind fun q55 => (if q50.1 = q55.1 then lawL L xs k q55.2 (x3 + 5) else some false) else none else none else none else none else none else none else none else none else (if ((xs x3.toNatClampNeg) &&& 31) = 6 then if ib (x3 + 1) L = true then (f5_not I (xs (x3 + 1).toNatClampNeg)).bind fun q59 => if ib (x3 + 1) L = true then (f6_not q59.2 (xs (x3 + 1).toNatClampNeg)).bind fun q61 => (if q59.1 = q61.1 then lawL L xs k q61.2 (x3 + 5) else some false) else none else none else (if ((xs x3.toNatClampNeg) &&& 31) = 7 then if ib (x3 + 1) L = true then if ib (x3 + 2) L = true then (f5_shift I (xs (x3 + 1).toNatClampNeg) (xs (x3 + 2).toNatClampNeg)).bind fun q66 => if ib (x3 + 1) L = true then if ib (x3 + 2) L = true then (f6_shift q66.2 (xs (x3 + 1).toNatClampNeg) (xs (x3 + 2).toNatClampNeg)).bind fun q69 => (if q66.1 = q69.1 then lawL L xs k q69.2 (x3 + 5) else some false) else none else none else none else none else (if ((xs x3.toNatClampNeg) &&& 31) = 8 then (f5_undo I).bind fun q72 => (f6_undo q72.2).bind fun q73 => (if q72.1 = q73.1 then lawL L xs k q73.2 (x3 + 5) else some false) else (if ((xs x3.toNatClampNeg) &&& 31) = 9 then if ib (x3 + 1) L = true then (f5_type I (xs (x3 + 1).toNatClampNeg)).bind fun q77 => if ib (x3 + 1) L = true then (f6_type q77.2 (xs (x3 + 1).toNatClampNeg)).bind fun q79 => (if q77.1 = q79.1 then lawL L xs k q79.2 (x3 + 5) else some false) else none else none else (if ((xs x3.toNatClampNeg) &&& 31) = 10 then (f5_clearText I).bind fun q82 => (f6_clearText q82.2).bind fun q83 => (if q82.1 = q83.1 then lawL L xs k q83.2 (x3 + 5) else some false) else (if ((xs x3.toNatClampNeg) &&& 31) = 11 then if ib (x3 + 1) L = true then (f5_evaluate I (xs (x3 + 1).toNatClampNeg)).bind fun q87 => if ib (x3 + 1) L = true then (f6_evaluate q87.2 (xs (x3 + 1).toNatClampNeg)).bind fun q89 => (if q87.1 = q89.1 then lawL L xs k q89.2 (x3 + 5) else some false) else none else none else (if ((xs x3.toNatClampNeg) &&& 31) = 12 then if ib (x3 + 1) L = true then if ib (x3 + 1) L = true then (if (f5_failure I (xs (x3 + 1).toNatClampNeg)) = (f6_failure I (xs (x3 + 1).toNatClampNeg)) then lawL L xs k I (x3 + 5) else some false) else none else none else (if ((xs x3.toNatClampNeg) &&& 31) = 13 then if ib (x3 + 1) L = true then (f5_count I (xs (x3 + 1).toNatClampNeg)).bind fun v97 => if ib (x3 + 1) L = true then (f6_count I (xs (x3 + 1).toNatClampNeg)).bind fun v99 => (if v97 = v99 then lawL L xs k I (x3 + 5) else some false) else none else none else (if ((xs x3.toNatClampNeg) &&& 31) = 14 then if ib (x3 + 1) L = true then if ib (x3 + 2) L = true then (f5_row I (xs (x3 + 1).toNatClampNeg) (xs (x3 + 2).toNatClampNeg)).bind fun v104 => if ib (x3 + 1) L = true then if ib (x3 + 2) L = true then (f6_row I (xs (x3 + 1).toNatClampNeg) (xs (x3 + 2).toNatClampNeg)).bind fun v107 => (if v104 = v107 then lawL L xs k I (x3 + 5) else some false) else none else none else none else none else (if ((xs x3.toNatClampNeg) &&& 31) = 15 then if ib (x3 + 1) L = true then if ib (x3 + 2) L = true then (f5_word I (xs (x3 + 1).toNatClampNeg) (xs (x3 + 2).toNatClampNeg)).bind fun v112 => if ib (x3 + 1) L = true then if ib (x3 + 2) L = true then (f6_word I (xs (x3 + 1).toNatClampNeg) (xs (x3 + 2).toNatClampNeg)).bind fun v115 => (if v112 = v115 then lawL L xs k I (x3 + 5) else some false) else none else none else none else none else (if ((xs x3.toNatClampNeg) &&& 31) = 16 then if ib (x3 + 1) L = true then if ib (x3 + 2) L = true then (f5_bit I (xs (x3 + 1).toNatClampNeg) (xs (x3 + 2).toNatClampNeg)).bind fun v120 => if ib (x3 + 1) L = true then if ib (x3 + 2) L = true then (f6_bit I (xs (x3 + 1).toNatClampNeg) (xs (x3 + 2).toNatClampNeg)).bind fun v123 => (if v120 = v123 then lawL L xs k I (x3 + 5) else some false) else none else none else none else none else (if ((xs x3.toNatClampNeg) &&& 31) = 17 then if ib (x3 + 1) L = true then if ib (x3 + 2) L = true then (f5_rank I (xs (x3 + 1).toNatClampNeg) (xs (x3 + 2).toNatClampNeg)).bind fun v128 => if ib (x3 + 1) L = true then if ib (x3 + 2) L = true then (f6_rank_ I (xs (x3 + 1).toNatClampNeg) (xs (x3 + 2).toNatClampNeg)).bind fun v131 => (if v128 = v131 then lawL L xs k I (x3 + 5) else some false) else none else none else none else none else (if ((xs x3.toNatClampNeg) &&& 31) = 18 then if ib (x3 + 1) L = true then if ib (x3 + 2) L = true then (f5_select I (xs (x3 + 1).toNatClampNeg) (xs (x3 + 2).toNatClampNeg)).bind fun v136 => if ib (x3 + 1) L = true then if ib (x3 + 2) L = true then (f6_select I (xs (x3 + 1).toNatClampNeg) (xs (x3 + 2).toNatClampNeg)).bind fun v139 => (if v136 = v139 then lawL L xs k I (x3 + 5) else some false) else none else none else none else none else (if ((xs x3.toNatClampNeg) &&& 31) = 19 then if ib (x3 + 1) L = true then if ib (x3 + 2) L = true then if ib (x3 + 3) L = true then if ib (x3 + 4) L = true then (f5_would I (xs (x3 + 1).toNatClampNeg) (xs (x3 + 2).toNatClampNeg) (xs (x3 + 3).toNatClampNeg) (xs (x3 + 4).toNatClampNeg)).bind fun q146 => if ib (x3 + 1) L = true then if ib (x3 + 2) L = true then if ib (x3 + 3) L = true then if ib (x3 + 4) L = true then (f6_would q146.2 (xs (x3 + 1).toNatClampNeg) (xs (x3 + 2).toNatClampNeg) (xs (x3 + 3).toNatClampNeg) (xs (x3 + 4).toNatClampNeg)).bind fun q151 => (if q146.1 = q151.1 then lawL L xs k q151.2 (x3 + 5) else some false) else none else none else none else none else none else none else none else none else (if ((xs x3.toNatClampNeg) &&& 31) = 20 then if ib (x3 + 1) L = true then (f5_same I (xs (x3 + 1).toNatClampNeg)).bind fun v155 => if ib (x3 + 1) L = true then (f6_same I (xs (x3 + 1).toNatClampNeg)).bind fun v157 => (if v155 = v157 then lawL L xs k I (x3 + 5) else some false) else none else none else (if ((xs x3.toNatClampNeg) &&& 31) = 21 then if ib (x3 + 1) L = true then (f5_bestShift I (xs (x3 + 1).toNatClampNeg)).bind fun q161 => if ib (x3 + 1) L = true then (f6_bestShift q161.2 (xs (x3 + 1).toNatClampNeg)).bind fun q163 => (if q161.1 = q163.1 then lawL L xs k q163.2 (x3 + 5) else some false) else none else none else lawL L xs k I (x3 + 5))))))))))))))))))))))) else none)
set_option maxRecDepth 100000 in
set_option maxHeartbeats 4000000 in
theorem lawL_ok {E : gEnv} {κ : gCtx} {L : Nat} {xs : Nat → Int32} (X : Cx E κ cL_law 4 RL (some .boolean) 2048 600000 7302249) (hX : gX E κ L xs) (hE : gLE E κ) : ∀ (k : Nat) (I : gI) (x3 : Int32) (hf : lawL L xs k I x3 = some true), G E κ 84 49834 18 [some vsc, some (vr 0), some (vr 79), some (vi x3)] [] (mm I) := by
  intro k
  induction k with
  | zero =>
    intros
    rename_i hf
    cases hf
  | succ k ih =>
    intro I x3 hf
    refine G_iload_n (x := x3) X dL_law_18 rfl rfl ?_
    refine G_aload_n (x := none) X dL_law_19 rfl rfl ?_
    refine G_slen X hX dL_law_20 ?_
    refine G_iconst (v := 5) X dL_law_21 rfl ?_
    refine G_isub X dL_law_22 ?_
    refine G_icmp_gt (tgt := 808) X dL_law_23 (by decide) (fun hc1 => ?_) (fun hc1 => ?_)
    · have hf := (if_pos hc1).symm.trans hf
      refine G_iconst (v := 1) X dL_law_808 rfl ?_
      exact G_lret X hE dL_law_809
    · have hf := (if_neg hc1).symm.trans hf
      refine G_aload_n (x := none) X dL_law_26 rfl rfl ?_
      refine G_iload_n (x := x3) X dL_law_27 rfl rfl ?_
      obtain ⟨hc2, hf⟩ := ock hf
      refine G_sld X hX (ib_in hc2) dL_law_28 ?_
      refine G_bipush (v := 31) X dL_law_29 rfl ?_
      refine G_iand X dL_law_31 ?_
      by_cases hc3 : ((xs x3.toNatClampNeg) &&& 31) = 0
      · have hf := (if_pos hc3).symm.trans hf
        refine G_tableJ (tgt := 136) X 0 dL_law_32 hc3 (by decide) (by decide) rfl (by decide) ?_
        refine G_aload_n (x := some (0)) X dL_law_136 rfl rfl ?_
        obtain ⟨⟨v4, I4⟩, hk4, hf⟩ := obd hf
        try dsimp only at hf
        refine G_callV (As := []) X (f5_make_ok E I  v4 I4 hk4) cb_L_13 vi_X5_make (ci := 4) rfl rfl (show SH[0]? = some (_, 0) from rfl) rfl rfl (Nat.le_of_ble_eq_true rfl) (by decide) (by decide) rfl (by decide) (by decide) dL_law_137 ?_
        show G E κ _ _ _ [some (vsc), some (vr 0), some (vr 79), some (vi x3)] [vi v4] (mm I4)
        refine G_aload_n (x := some (79)) X dL_law_140 rfl rfl ?_
        obtain ⟨⟨v5, I5⟩, hk5, hf⟩ := obd hf
        try dsimp only at hf
        refine G_callV (As := []) X (f6_make_ok E I4  v5 I5 hk5) cb_L_17 vi_X6_make (ci := 5) rfl rfl (show SH[79]? = some (_, 0) from rfl) rfl rfl (Nat.le_of_ble_eq_true rfl) (by decide) (by decide) rfl (by decide) (by decide) dL_law_141 ?_
        show G E κ _ _ _ [some (vsc), some (vr 0), some (vr 79), some (vi x3)] [vi v5, vi v4] (mm I5)
        refine G_icmp_eq (tgt := 802) X dL_law_144 (by decide) (fun hc6 => ?_) (fun hc6 => ?_)
        · have hf := (if_pos hc6).symm.trans hf
          refine G_iinc (x := x3) (v := 5) X dL_law_802 rfl rfl (ls' := [some (vsc), some (vr 0), some (vr 79), some (vi (x3 + 5))]) rfl ?_
          refine G_goto (tgt := 18) X dL_law_805 (by decide) ?_
          exact ih I5 (x3 + 5) hf
        · have hf := (if_neg hc6).symm.trans hf
          refine G_iconst (v := 0) X dL_law_147 rfl ?_
          cases hf
      have hf := (if_neg hc3).symm.trans hf
      by_cases hc7 : ((xs x3.toNatClampNeg) &&& 31) = 1
      · have hf := (if_pos hc7).symm.trans hf
        refine G_tableJ (tgt := 149) X 1 dL_law_32 hc7 (by decide) (by decide) rfl (by decide) ?_
        refine G_aload_n (x := some (0)) X dL_law_149 rfl rfl ?_
        refine G_aload_n (x := none) X dL_law_150 rfl rfl ?_
        refine G_iload_n (x := x3) X dL_law_151 rfl rfl ?_
        refine G_iconst (v := 1) X dL_law_152 rfl ?_
        refine G_iadd X dL_law_153 ?_
        obtain ⟨hc8, hf⟩ := ock hf
        refine G_sld X hX (ib_in hc8) dL_law_154 ?_
        refine G_aload_n (x := none) X dL_law_155 rfl rfl ?_
        refine G_iload_n (x := x3) X dL_law_156 rfl rfl ?_
        refine G_iconst (v := 2) X dL_law_157 rfl ?_
        refine G_iadd X dL_law_158 ?_
        obtain ⟨hc9, hf⟩ := ock hf
        refine G_sld X hX (ib_in hc9) dL_law_159 ?_
        refine G_aload_n (x := none) X dL_law_160 rfl rfl ?_
        refine G_iload_n (x := x3) X dL_law_161 rfl rfl ?_
        refine G_iconst (v := 3) X dL_law_162 rfl ?_
        refine G_iadd X dL_law_163 ?_
        obtain ⟨hc10, hf⟩ := ock hf
        refine G_sld X hX (ib_in hc10) dL_law_164 ?_
        obtain ⟨⟨v11, I11⟩, hk11, hf⟩ := obd hf
        try dsimp only at hf
        refine G_callV (As := [vi (xs (x3 + 1).toNatClampNeg), vi (xs (x3 + 2).toNatClampNeg), vi (xs (x3 + 3).toNatClampNeg)]) X (f5_append_ok E I (xs (x3 + 1).toNatClampNeg) (xs (x3 + 2).toNatClampNeg) (xs (x3 + 3).toNatClampNeg) v11 I11 hk11) cb_L_18 vi_X5_append (ci := 4) rfl rfl (show SH[0]? = some (_, 0) from rfl) rfl rfl (Nat.le_of_ble_eq_true rfl) (by decide) (by decide) rfl (by decide) (by decide) dL_law_165 ?_
        show G E κ _ _ _ [some (vsc), some (vr 0), some (vr 79), some (vi x3)] [vi v11] (mm I11)
        refine G_aload_n (x := some (79)) X dL_law_168 rfl rfl ?_
        refine G_aload_n (x := none) X dL_law_169 rfl rfl ?_
        refine G_iload_n (x := x3) X dL_law_170 rfl rfl ?_
        refine G_iconst (v := 1) X dL_law_171 rfl ?_
        refine G_iadd X dL_law_172 ?_
        obtain ⟨hc12, hf⟩ := ock hf
        refine G_sld X hX (ib_in hc12) dL_law_173 ?_
        refine G_aload_n (x := none) X dL_law_174 rfl rfl ?_
        refine G_iload_n (x := x3) X dL_law_175 rfl rfl ?_
        refine G_iconst (v := 2) X dL_law_176 rfl ?_
        refine G_iadd X dL_law_177 ?_
        obtain ⟨hc13, hf⟩ := ock hf
        refine G_sld X hX (ib_in hc13) dL_law_178 ?_
        refine G_aload_n (x := none) X dL_law_179 rfl rfl ?_
        refine G_iload_n (x := x3) X dL_law_180 rfl rfl ?_
        refine G_iconst (v := 3) X dL_law_181 rfl ?_
        refine G_iadd X dL_law_182 ?_
        obtain ⟨hc14, hf⟩ := ock hf
        refine G_sld X hX (ib_in hc14) dL_law_183 ?_
        obtain ⟨⟨v15, I15⟩, hk15, hf⟩ := obd hf
        try dsimp only at hf
        refine G_callV (As := [vi (xs (x3 + 1).toNatClampNeg), vi (xs (x3 + 2).toNatClampNeg), vi (xs (x3 + 3).toNatClampNeg)]) X (f6_append_ok E I11 (xs (x3 + 1).toNatClampNeg) (xs (x3 + 2).toNatClampNeg) (xs (x3 + 3).toNatClampNeg) v15 I15 hk15) cb_L_22 vi_X6_append (ci := 5) rfl rfl (show SH[79]? = some (_, 0) from rfl) rfl rfl (Nat.le_of_ble_eq_true rfl) (by decide) (by decide) rfl (by decide) (by decide) dL_law_184 ?_
        show G E κ _ _ _ [some (vsc), some (vr 0), some (vr 79), some (vi x3)] [vi v15, vi v11] (mm I15)
        refine G_icmp_eq (tgt := 802) X dL_law_187 (by decide) (fun hc16 => ?_) (fun hc16 => ?_)
        · have hf := (if_pos hc16).symm.trans hf
          refine G_iinc (x := x3) (v := 5) X dL_law_802 rfl rfl (ls' := [some (vsc), some (vr 0), some (vr 79), some (vi (x3 + 5))]) rfl ?_
          refine G_goto (tgt := 18) X dL_law_805 (by decide) ?_
          exact ih I15 (x3 + 5) hf
        · have hf := (if_neg hc16).symm.trans hf
          refine G_iconst (v := 0) X dL_law_190 rfl ?_
          cases hf
      have hf := (if_neg hc7).symm.trans hf
      by_cases hc17 : ((xs x3.toNatClampNeg) &&& 31) = 2
      · have hf := (if_pos hc17).symm.trans hf
        refine G_tableJ (tgt := 192) X 2 dL_law_32 hc17 (by decide) (by decide) rfl (by decide) ?_
        refine G_aload_n (x := some (0)) X dL_law_192 rfl rfl ?_
        refine G_aload_n (x := none) X dL_law_193 rfl rfl ?_
        refine G_iload_n (x := x3) X dL_law_194 rfl rfl ?_
        refine G_iconst (v := 1) X dL_law_195 rfl ?_
        refine G_iadd X dL_law_196 ?_
        obtain ⟨hc18, hf⟩ := ock hf
        refine G_sld X hX (ib_in hc18) dL_law_197 ?_
        refine G_aload_n (x := none) X dL_law_198 rfl rfl ?_
        refine G_iload_n (x := x3) X dL_law_199 rfl rfl ?_
        refine G_iconst (v := 2) X dL_law_200 rfl ?_
        refine G_iadd X dL_law_201 ?_
        obtain ⟨hc19, hf⟩ := ock hf
        refine G_sld X hX (ib_in hc19) dL_law_202 ?_
        refine G_aload_n (x := none) X dL_law_203 rfl rfl ?_
        refine G_iload_n (x := x3) X dL_law_204 rfl rfl ?_
        refine G_iconst (v := 3) X dL_law_205 rfl ?_
        refine G_iadd X dL_law_206 ?_
        obtain ⟨hc20, hf⟩ := ock hf
        refine G_sld X hX (ib_in hc20) dL_law_207 ?_
        obtain ⟨⟨v21, I21⟩, hk21, hf⟩ := obd hf
        try dsimp only at hf
        refine G_callV (As := [vi (xs (x3 + 1).toNatClampNeg), vi (xs (x3 + 2).toNatClampNeg), vi (xs (x3 + 3).toNatClampNeg)]) X (f5_write_ok E I (xs (x3 + 1).toNatClampNeg) (xs (x3 + 2).toNatClampNeg) (xs (x3 + 3).toNatClampNeg) v21 I21 hk21) cb_L_23 vi_X5_write (ci := 4) rfl rfl (show SH[0]? = some (_, 0) from rfl) rfl rfl (Nat.le_of_ble_eq_true rfl) (by decide) (by decide) rfl (by decide) (by decide) dL_law_208 ?_
        show G E κ _ _ _ [some (vsc), some (vr 0), some (vr 79), some (vi x3)] [vi v21] (mm I21)
        refine G_aload_n (x := some (79)) X dL_law_211 rfl rfl ?_
        refine G_aload_n (x := none) X dL_law_212 rfl rfl ?_
        refine G_iload_n (x := x3) X dL_law_213 rfl rfl ?_
        refine G_iconst (v := 1) X dL_law_214 rfl ?_
        refine G_iadd X dL_law_215 ?_
        obtain ⟨hc22, hf⟩ := ock hf
        refine G_sld X hX (ib_in hc22) dL_law_216 ?_
        refine G_aload_n (x := none) X dL_law_217 rfl rfl ?_
        refine G_iload_n (x := x3) X dL_law_218 rfl rfl ?_
        refine G_iconst (v := 2) X dL_law_219 rfl ?_
        refine G_iadd X dL_law_220 ?_
        obtain ⟨hc23, hf⟩ := ock hf
        refine G_sld X hX (ib_in hc23) dL_law_221 ?_
        refine G_aload_n (x := none) X dL_law_222 rfl rfl ?_
        refine G_iload_n (x := x3) X dL_law_223 rfl rfl ?_
        refine G_iconst (v := 3) X dL_law_224 rfl ?_
        refine G_iadd X dL_law_225 ?_
        obtain ⟨hc24, hf⟩ := ock hf
        refine G_sld X hX (ib_in hc24) dL_law_226 ?_
        obtain ⟨⟨v25, I25⟩, hk25, hf⟩ := obd hf
        try dsimp only at hf
        refine G_callV (As := [vi (xs (x3 + 1).toNatClampNeg), vi (xs (x3 + 2).toNatClampNeg), vi (xs (x3 + 3).toNatClampNeg)]) X (f6_write_ok E I21 (xs (x3 + 1).toNatClampNeg) (xs (x3 + 2).toNatClampNeg) (xs (x3 + 3).toNatClampNeg) v25 I25 hk25) cb_L_26 vi_X6_write (ci := 5) rfl rfl (show SH[79]? = some (_, 0) from rfl) rfl rfl (Nat.le_of_ble_eq_true rfl) (by decide) (by decide) rfl (by decide) (by decide) dL_law_227 ?_
        show G E κ _ _ _ [some (vsc), some (vr 0), some (vr 79), some (vi x3)] [vi v25, vi v21] (mm I25)
        refine G_icmp_eq (tgt := 802) X dL_law_230 (by decide) (fun hc26 => ?_) (fun hc26 => ?_)
        · have hf := (if_pos hc26).symm.trans hf
          refine G_iinc (x := x3) (v := 5) X dL_law_802 rfl rfl (ls' := [some (vsc), some (vr 0), some (vr 79), some (vi (x3 + 5))]) rfl ?_
          refine G_goto (tgt := 18) X dL_law_805 (by decide) ?_
          exact ih I25 (x3 + 5) hf
        · have hf := (if_neg hc26).symm.trans hf
          refine G_iconst (v := 0) X dL_law_233 rfl ?_
          cases hf
      have hf := (if_neg hc17).symm.trans hf
      by_cases hc27 : ((xs x3.toNatClampNeg) &&& 31) = 3
      · have hf := (if_pos hc27).symm.trans hf
        refine G_tableJ (tgt := 235) X 3 dL_law_32 hc27 (by decide) (by decide) rfl (by decide) ?_
        refine G_aload_n (x := some (0)) X dL_law_235 rfl rfl ?_
        refine G_aload_n (x := none) X dL_law_236 rfl rfl ?_
        refine G_iload_n (x := x3) X dL_law_237 rfl rfl ?_
        refine G_iconst (v := 1) X dL_law_238 rfl ?_
        refine G_iadd X dL_law_239 ?_
        obtain ⟨hc28, hf⟩ := ock hf
        refine G_sld X hX (ib_in hc28) dL_law_240 ?_
        refine G_aload_n (x := none) X dL_law_241 rfl rfl ?_
        refine G_iload_n (x := x3) X dL_law_242 rfl rfl ?_
        refine G_iconst (v := 2) X dL_law_243 rfl ?_
        refine G_iadd X dL_law_244 ?_
        obtain ⟨hc29, hf⟩ := ock hf
        refine G_sld X hX (ib_in hc29) dL_law_245 ?_
        refine G_aload_n (x := none) X dL_law_246 rfl rfl ?_
        refine G_iload_n (x := x3) X dL_law_247 rfl rfl ?_
        refine G_iconst (v := 3) X dL_law_248 rfl ?_
        refine G_iadd X dL_law_249 ?_
        obtain ⟨hc30, hf⟩ := ock hf
        refine G_sld X hX (ib_in hc30) dL_law_250 ?_
        obtain ⟨⟨v31, I31⟩, hk31, hf⟩ := obd hf
        try dsimp only at hf
        refine G_callV (As := [vi (xs (x3 + 1).toNatClampNeg), vi (xs (x3 + 2).toNatClampNeg), vi (xs (x3 + 3).toNatClampNeg)]) X (f5_set_ok E I (xs (x3 + 1).toNatClampNeg) (xs (x3 + 2).toNatClampNeg) (xs (x3 + 3).toNatClampNeg) v31 I31 hk31) cb_L_27 vi_X5_set (ci := 4) rfl rfl (show SH[0]? = some (_, 0) from rfl) rfl rfl (Nat.le_of_ble_eq_true rfl) (by decide) (by decide) rfl (by decide) (by decide) dL_law_251 ?_
        show G E κ _ _ _ [some (vsc), some (vr 0), some (vr 79), some (vi x3)] [vi v31] (mm I31)
        refine G_aload_n (x := some (79)) X dL_law_254 rfl rfl ?_
        refine G_aload_n (x := none) X dL_law_255 rfl rfl ?_
        refine G_iload_n (x := x3) X dL_law_256 rfl rfl ?_
        refine G_iconst (v := 1) X dL_law_257 rfl ?_
        refine G_iadd X dL_law_258 ?_
        obtain ⟨hc32, hf⟩ := ock hf
        refine G_sld X hX (ib_in hc32) dL_law_259 ?_
        refine G_aload_n (x := none) X dL_law_260 rfl rfl ?_
        refine G_iload_n (x := x3) X dL_law_261 rfl rfl ?_
        refine G_iconst (v := 2) X dL_law_262 rfl ?_
        refine G_iadd X dL_law_263 ?_
        obtain ⟨hc33, hf⟩ := ock hf
        refine G_sld X hX (ib_in hc33) dL_law_264 ?_
        refine G_aload_n (x := none) X dL_law_265 rfl rfl ?_
        refine G_iload_n (x := x3) X dL_law_266 rfl rfl ?_
        refine G_iconst (v := 3) X dL_law_267 rfl ?_
        refine G_iadd X dL_law_268 ?_
        obtain ⟨hc34, hf⟩ := ock hf
        refine G_sld X hX (ib_in hc34) dL_law_269 ?_
        obtain ⟨⟨v35, I35⟩, hk35, hf⟩ := obd hf
        try dsimp only at hf
        refine G_callV (As := [vi (xs (x3 + 1).toNatClampNeg), vi (xs (x3 + 2).toNatClampNeg), vi (xs (x3 + 3).toNatClampNeg)]) X (f6_set_ok E I31 (xs (x3 + 1).toNatClampNeg) (xs (x3 + 2).toNatClampNeg) (xs (x3 + 3).toNatClampNeg) v35 I35 hk35) cb_L_30 vi_X6_set (ci := 5) rfl rfl (show SH[79]? = some (_, 0) from rfl) rfl rfl (Nat.le_of_ble_eq_true rfl) (by decide) (by decide) rfl (by decide) (by decide) dL_law_270 ?_
        show G E κ _ _ _ [some (vsc), some (vr 0), some (vr 79), some (vi x3)] [vi v35, vi v31] (mm I35)
        refine G_icmp_eq (tgt := 802) X dL_law_273 (by decide) (fun hc36 => ?_) (fun hc36 => ?_)
        · have hf := (if_pos hc36).symm.trans hf
          refine G_iinc (x := x3) (v := 5) X dL_law_802 rfl rfl (ls' := [some (vsc), some (vr 0), some (vr 79), some (vi (x3 + 5))]) rfl ?_
          refine G_goto (tgt := 18) X dL_law_805 (by decide) ?_
          exact ih I35 (x3 + 5) hf
        · have hf := (if_neg hc36).symm.trans hf
          refine G_iconst (v := 0) X dL_law_276 rfl ?_
          cases hf
      have hf := (if_neg hc27).symm.trans hf
      by_cases hc37 : ((xs x3.toNatClampNeg) &&& 31) = 4
      · have hf := (if_pos hc37).symm.trans hf
        refine G_tableJ (tgt := 278) X 4 dL_law_32 hc37 (by decide) (by decide) rfl (by decide) ?_
        refine G_aload_n (x := some (0)) X dL_law_278 rfl rfl ?_
        refine G_aload_n (x := none) X dL_law_279 rfl rfl ?_
        refine G_iload_n (x := x3) X dL_law_280 rfl rfl ?_
        refine G_iconst (v := 1) X dL_law_281 rfl ?_
        refine G_iadd X dL_law_282 ?_
        obtain ⟨hc38, hf⟩ := ock hf
        refine G_sld X hX (ib_in hc38) dL_law_283 ?_
        refine G_aload_n (x := none) X dL_law_284 rfl rfl ?_
        refine G_iload_n (x := x3) X dL_law_285 rfl rfl ?_
        refine G_iconst (v := 2) X dL_law_286 rfl ?_
        refine G_iadd X dL_law_287 ?_
        obtain ⟨hc39, hf⟩ := ock hf
        refine G_sld X hX (ib_in hc39) dL_law_288 ?_
        obtain ⟨⟨v40, I40⟩, hk40, hf⟩ := obd hf
        try dsimp only at hf
        refine G_callV (As := [vi (xs (x3 + 1).toNatClampNeg), vi (xs (x3 + 2).toNatClampNeg)]) X (f5_resize_ok E I (xs (x3 + 1).toNatClampNeg) (xs (x3 + 2).toNatClampNeg) v40 I40 hk40) cb_L_31 vi_X5_resize (ci := 4) rfl rfl (show SH[0]? = some (_, 0) from rfl) rfl rfl (Nat.le_of_ble_eq_true rfl) (by decide) (by decide) rfl (by decide) (by decide) dL_law_289 ?_
        show G E κ _ _ _ [some (vsc), some (vr 0), some (vr 79), some (vi x3)] [vi v40] (mm I40)
        refine G_aload_n (x := some (79)) X dL_law_292 rfl rfl ?_
        refine G_aload_n (x := none) X dL_law_293 rfl rfl ?_
        refine G_iload_n (x := x3) X dL_law_294 rfl rfl ?_
        refine G_iconst (v := 1) X dL_law_295 rfl ?_
        refine G_iadd X dL_law_296 ?_
        obtain ⟨hc41, hf⟩ := ock hf
        refine G_sld X hX (ib_in hc41) dL_law_297 ?_
        refine G_aload_n (x := none) X dL_law_298 rfl rfl ?_
        refine G_iload_n (x := x3) X dL_law_299 rfl rfl ?_
        refine G_iconst (v := 2) X dL_law_300 rfl ?_
        refine G_iadd X dL_law_301 ?_
        obtain ⟨hc42, hf⟩ := ock hf
        refine G_sld X hX (ib_in hc42) dL_law_302 ?_
        obtain ⟨⟨v43, I43⟩, hk43, hf⟩ := obd hf
        try dsimp only at hf
        refine G_callV (As := [vi (xs (x3 + 1).toNatClampNeg), vi (xs (x3 + 2).toNatClampNeg)]) X (f6_resize_ok E I40 (xs (x3 + 1).toNatClampNeg) (xs (x3 + 2).toNatClampNeg) v43 I43 hk43) cb_L_35 vi_X6_resize (ci := 5) rfl rfl (show SH[79]? = some (_, 0) from rfl) rfl rfl (Nat.le_of_ble_eq_true rfl) (by decide) (by decide) rfl (by decide) (by decide) dL_law_303 ?_
        show G E κ _ _ _ [some (vsc), some (vr 0), some (vr 79), some (vi x3)] [vi v43, vi v40] (mm I43)
        refine G_icmp_eq (tgt := 802) X dL_law_306 (by decide) (fun hc44 => ?_) (fun hc44 => ?_)
        · have hf := (if_pos hc44).symm.trans hf
          refine G_iinc (x := x3) (v := 5) X dL_law_802 rfl rfl (ls' := [some (vsc), some (vr 0), some (vr 79), some (vi (x3 + 5))]) rfl ?_
          refine G_goto (tgt := 18) X dL_law_805 (by decide) ?_
          exact ih I43 (x3 + 5) hf
        · have hf := (if_neg hc44).symm.trans hf
          refine G_iconst (v := 0) X dL_law_309 rfl ?_
          cases hf
      have hf := (if_neg hc37).symm.trans hf
      by_cases hc45 : ((xs x3.toNatClampNeg) &&& 31) = 5
      · have hf := (if_pos hc45).symm.trans hf
        refine G_tableJ (tgt := 311) X 5 dL_law_32 hc45 (by decide) (by decide) rfl (by decide) ?_
        refine G_aload_n (x := some (0)) X dL_law_311 rfl rfl ?_
        refine G_aload_n (x := none) X dL_law_312 rfl rfl ?_
        refine G_iload_n (x := x3) X dL_law_313 rfl rfl ?_
        refine G_iconst (v := 1) X dL_law_314 rfl ?_
        refine G_iadd X dL_law_315 ?_
        obtain ⟨hc46, hf⟩ := ock hf
        refine G_sld X hX (ib_in hc46) dL_law_316 ?_
        refine G_aload_n (x := none) X dL_law_317 rfl rfl ?_
        refine G_iload_n (x := x3) X dL_law_318 rfl rfl ?_
        refine G_iconst (v := 2) X dL_law_319 rfl ?_
        refine G_iadd X dL_law_320 ?_
        obtain ⟨hc47, hf⟩ := ock hf
        refine G_sld X hX (ib_in hc47) dL_law_321 ?_
        refine G_aload_n (x := none) X dL_law_322 rfl rfl ?_
        refine G_iload_n (x := x3) X dL_law_323 rfl rfl ?_
        refine G_iconst (v := 3) X dL_law_324 rfl ?_
        refine G_iadd X dL_law_325 ?_
        obtain ⟨hc48, hf⟩ := ock hf
        refine G_sld X hX (ib_in hc48) dL_law_326 ?_
        refine G_aload_n (x := none) X dL_law_327 rfl rfl ?_
        refine G_iload_n (x := x3) X dL_law_328 rfl rfl ?_
        refine G_iconst (v := 4) X dL_law_329 rfl ?_
        refine G_iadd X dL_law_330 ?_
        obtain ⟨hc49, hf⟩ := ock hf
        refine G_sld X hX (ib_in hc49) dL_law_331 ?_
        obtain ⟨⟨v50, I50⟩, hk50, hf⟩ := obd hf
        try dsimp only at hf
        refine G_callV (As := [vi (xs (x3 + 1).toNatClampNeg), vi (xs (x3 + 2).toNatClampNeg), vi (xs (x3 + 3).toNatClampNeg), vi (xs (x3 + 4).toNatClampNeg)]) X (f5_operate_ok E I (xs (x3 + 1).toNatClampNeg) (xs (x3 + 2).toNatClampNeg) (xs (x3 + 3).toNatClampNeg) (xs (x3 + 4).toNatClampNeg) v50 I50 hk50) cb_L_36 vi_X5_operate (ci := 4) rfl rfl (show SH[0]? = some (_, 0) from rfl) rfl rfl (Nat.le_of_ble_eq_true rfl) (by decide) (by decide) rfl (by decide) (by decide) dL_law_332 ?_
        show G E κ _ _ _ [some (vsc), some (vr 0), some (vr 79), some (vi x3)] [vi v50] (mm I50)
        refine G_aload_n (x := some (79)) X dL_law_335 rfl rfl ?_
        refine G_aload_n (x := none) X dL_law_336 rfl rfl ?_
        refine G_iload_n (x := x3) X dL_law_337 rfl rfl ?_
        refine G_iconst (v := 1) X dL_law_338 rfl ?_
        refine G_iadd X dL_law_339 ?_
        obtain ⟨hc51, hf⟩ := ock hf
        refine G_sld X hX (ib_in hc51) dL_law_340 ?_
        refine G_aload_n (x := none) X dL_law_341 rfl rfl ?_
        refine G_iload_n (x := x3) X dL_law_342 rfl rfl ?_
        refine G_iconst (v := 2) X dL_law_343 rfl ?_
        refine G_iadd X dL_law_344 ?_
        obtain ⟨hc52, hf⟩ := ock hf
        refine G_sld X hX (ib_in hc52) dL_law_345 ?_
        refine G_aload_n (x := none) X dL_law_346 rfl rfl ?_
        refine G_iload_n (x := x3) X dL_law_347 rfl rfl ?_
        refine G_iconst (v := 3) X dL_law_348 rfl ?_
        refine G_iadd X dL_law_349 ?_
        obtain ⟨hc53, hf⟩ := ock hf
        refine G_sld X hX (ib_in hc53) dL_law_350 ?_
        refine G_aload_n (x := none) X dL_law_351 rfl rfl ?_
        refine G_iload_n (x := x3) X dL_law_352 rfl rfl ?_
        refine G_iconst (v := 4) X dL_law_353 rfl ?_
        refine G_iadd X dL_law_354 ?_
        obtain ⟨hc54, hf⟩ := ock hf
        refine G_sld X hX (ib_in hc54) dL_law_355 ?_
        obtain ⟨⟨v55, I55⟩, hk55, hf⟩ := obd hf
        try dsimp only at hf
        refine G_callV (As := [vi (xs (x3 + 1).toNatClampNeg), vi (xs (x3 + 2).toNatClampNeg), vi (xs (x3 + 3).toNatClampNeg), vi (xs (x3 + 4).toNatClampNeg)]) X (f6_operate_ok E I50 (xs (x3 + 1).toNatClampNeg) (xs (x3 + 2).toNatClampNeg) (xs (x3 + 3).toNatClampNeg) (xs (x3 + 4).toNatClampNeg) v55 I55 hk55) cb_L_40 vi_X6_operate (ci := 5) rfl rfl (show SH[79]? = some (_, 0) from rfl) rfl rfl (Nat.le_of_ble_eq_true rfl) (by decide) (by decide) rfl (by decide) (by decide) dL_law_356 ?_
        show G E κ _ _ _ [some (vsc), some (vr 0), some (vr 79), some (vi x3)] [vi v55, vi v50] (mm I55)
        refine G_icmp_eq (tgt := 802) X dL_law_359 (by decide) (fun hc56 => ?_) (fun hc56 => ?_)
        · have hf := (if_pos hc56).symm.trans hf
          refine G_iinc (x := x3) (v := 5) X dL_law_802 rfl rfl (ls' := [some (vsc), some (vr 0), some (vr 79), some (vi (x3 + 5))]) rfl ?_
          refine G_goto (tgt := 18) X dL_law_805 (by decide) ?_
          exact ih I55 (x3 + 5) hf
        · have hf := (if_neg hc56).symm.trans hf
          refine G_iconst (v := 0) X dL_law_362 rfl ?_
          cases hf
      have hf := (if_neg hc45).symm.trans hf
      by_cases hc57 : ((xs x3.toNatClampNeg) &&& 31) = 6
      · have hf := (if_pos hc57).symm.trans hf
        refine G_tableJ (tgt := 364) X 6 dL_law_32 hc57 (by decide) (by decide) rfl (by decide) ?_
        refine G_aload_n (x := some (0)) X dL_law_364 rfl rfl ?_
        refine G_aload_n (x := none) X dL_law_365 rfl rfl ?_
        refine G_iload_n (x := x3) X dL_law_366 rfl rfl ?_
        refine G_iconst (v := 1) X dL_law_367 rfl ?_
        refine G_iadd X dL_law_368 ?_
        obtain ⟨hc58, hf⟩ := ock hf
        refine G_sld X hX (ib_in hc58) dL_law_369 ?_
        obtain ⟨⟨v59, I59⟩, hk59, hf⟩ := obd hf
        try dsimp only at hf
        refine G_callV (As := [vi (xs (x3 + 1).toNatClampNeg)]) X (f5_not_ok E I (xs (x3 + 1).toNatClampNeg) v59 I59 hk59) cb_L_41 vi_X5_not (ci := 4) rfl rfl (show SH[0]? = some (_, 0) from rfl) rfl rfl (Nat.le_of_ble_eq_true rfl) (by decide) (by decide) rfl (by decide) (by decide) dL_law_370 ?_
        show G E κ _ _ _ [some (vsc), some (vr 0), some (vr 79), some (vi x3)] [vi v59] (mm I59)
        refine G_aload_n (x := some (79)) X dL_law_373 rfl rfl ?_
        refine G_aload_n (x := none) X dL_law_374 rfl rfl ?_
        refine G_iload_n (x := x3) X dL_law_375 rfl rfl ?_
        refine G_iconst (v := 1) X dL_law_376 rfl ?_
        refine G_iadd X dL_law_377 ?_
        obtain ⟨hc60, hf⟩ := ock hf
        refine G_sld X hX (ib_in hc60) dL_law_378 ?_
        obtain ⟨⟨v61, I61⟩, hk61, hf⟩ := obd hf
        try dsimp only at hf
        refine G_callV (As := [vi (xs (x3 + 1).toNatClampNeg)]) X (f6_not_ok E I59 (xs (x3 + 1).toNatClampNeg) v61 I61 hk61) cb_L_45 vi_X6_not (ci := 5) rfl rfl (show SH[79]? = some (_, 0) from rfl) rfl rfl (Nat.le_of_ble_eq_true rfl) (by decide) (by decide) rfl (by decide) (by decide) dL_law_379 ?_
        show G E κ _ _ _ [some (vsc), some (vr 0), some (vr 79), some (vi x3)] [vi v61, vi v59] (mm I61)
        refine G_icmp_eq (tgt := 802) X dL_law_382 (by decide) (fun hc62 => ?_) (fun hc62 => ?_)
        · have hf := (if_pos hc62).symm.trans hf
          refine G_iinc (x := x3) (v := 5) X dL_law_802 rfl rfl (ls' := [some (vsc), some (vr 0), some (vr 79), some (vi (x3 + 5))]) rfl ?_
          refine G_goto (tgt := 18) X dL_law_805 (by decide) ?_
          exact ih I61 (x3 + 5) hf
        · have hf := (if_neg hc62).symm.trans hf
          refine G_iconst (v := 0) X dL_law_385 rfl ?_
          cases hf
      have hf := (if_neg hc57).symm.trans hf
      by_cases hc63 : ((xs x3.toNatClampNeg) &&& 31) = 7
      · have hf := (if_pos hc63).symm.trans hf
        refine G_tableJ (tgt := 387) X 7 dL_law_32 hc63 (by decide) (by decide) rfl (by decide) ?_
        refine G_aload_n (x := some (0)) X dL_law_387 rfl rfl ?_
        refine G_aload_n (x := none) X dL_law_388 rfl rfl ?_
        refine G_iload_n (x := x3) X dL_law_389 rfl rfl ?_
        refine G_iconst (v := 1) X dL_law_390 rfl ?_
        refine G_iadd X dL_law_391 ?_
        obtain ⟨hc64, hf⟩ := ock hf
        refine G_sld X hX (ib_in hc64) dL_law_392 ?_
        refine G_aload_n (x := none) X dL_law_393 rfl rfl ?_
        refine G_iload_n (x := x3) X dL_law_394 rfl rfl ?_
        refine G_iconst (v := 2) X dL_law_395 rfl ?_
        refine G_iadd X dL_law_396 ?_
        obtain ⟨hc65, hf⟩ := ock hf
        refine G_sld X hX (ib_in hc65) dL_law_397 ?_
        obtain ⟨⟨v66, I66⟩, hk66, hf⟩ := obd hf
        try dsimp only at hf
        refine G_callV (As := [vi (xs (x3 + 1).toNatClampNeg), vi (xs (x3 + 2).toNatClampNeg)]) X (f5_shift_ok E I (xs (x3 + 1).toNatClampNeg) (xs (x3 + 2).toNatClampNeg) v66 I66 hk66) cb_L_46 vi_X5_shift (ci := 4) rfl rfl (show SH[0]? = some (_, 0) from rfl) rfl rfl (Nat.le_of_ble_eq_true rfl) (by decide) (by decide) rfl (by decide) (by decide) dL_law_398 ?_
        show G E κ _ _ _ [some (vsc), some (vr 0), some (vr 79), some (vi x3)] [vi v66] (mm I66)
        refine G_aload_n (x := some (79)) X dL_law_401 rfl rfl ?_
        refine G_aload_n (x := none) X dL_law_402 rfl rfl ?_
        refine G_iload_n (x := x3) X dL_law_403 rfl rfl ?_
        refine G_iconst (v := 1) X dL_law_404 rfl ?_
        refine G_iadd X dL_law_405 ?_
        obtain ⟨hc67, hf⟩ := ock hf
        refine G_sld X hX (ib_in hc67) dL_law_406 ?_
        refine G_aload_n (x := none) X dL_law_407 rfl rfl ?_
        refine G_iload_n (x := x3) X dL_law_408 rfl rfl ?_
        refine G_iconst (v := 2) X dL_law_409 rfl ?_
        refine G_iadd X dL_law_410 ?_
        obtain ⟨hc68, hf⟩ := ock hf
        refine G_sld X hX (ib_in hc68) dL_law_411 ?_
        obtain ⟨⟨v69, I69⟩, hk69, hf⟩ := obd hf
        try dsimp only at hf
        refine G_callV (As := [vi (xs (x3 + 1).toNatClampNeg), vi (xs (x3 + 2).toNatClampNeg)]) X (f6_shift_ok E I66 (xs (x3 + 1).toNatClampNeg) (xs (x3 + 2).toNatClampNeg) v69 I69 hk69) cb_L_49 vi_X6_shift (ci := 5) rfl rfl (show SH[79]? = some (_, 0) from rfl) rfl rfl (Nat.le_of_ble_eq_true rfl) (by decide) (by decide) rfl (by decide) (by decide) dL_law_412 ?_
        show G E κ _ _ _ [some (vsc), some (vr 0), some (vr 79), some (vi x3)] [vi v69, vi v66] (mm I69)
        refine G_icmp_eq (tgt := 802) X dL_law_415 (by decide) (fun hc70 => ?_) (fun hc70 => ?_)
        · have hf := (if_pos hc70).symm.trans hf
          refine G_iinc (x := x3) (v := 5) X dL_law_802 rfl rfl (ls' := [some (vsc), some (vr 0), some (vr 79), some (vi (x3 + 5))]) rfl ?_
          refine G_goto (tgt := 18) X dL_law_805 (by decide) ?_
          exact ih I69 (x3 + 5) hf
        · have hf := (if_neg hc70).symm.trans hf
          refine G_iconst (v := 0) X dL_law_418 rfl ?_
          cases hf
      have hf := (if_neg hc63).symm.trans hf
      by_cases hc71 : ((xs x3.toNatClampNeg) &&& 31) = 8
      · have hf := (if_pos hc71).symm.trans hf
        refine G_tableJ (tgt := 420) X 8 dL_law_32 hc71 (by decide) (by decide) rfl (by decide) ?_
        refine G_aload_n (x := some (0)) X dL_law_420 rfl rfl ?_
        obtain ⟨⟨v72, I72⟩, hk72, hf⟩ := obd hf
        try dsimp only at hf
        refine G_callV (As := []) X (f5_undo_ok E I  v72 I72 hk72) cb_L_50 vi_X5_undo (ci := 4) rfl rfl (show SH[0]? = some (_, 0) from rfl) rfl rfl (Nat.le_of_ble_eq_true rfl) (by decide) (by decide) rfl (by decide) (by decide) dL_law_421 ?_
        show G E κ _ _ _ [some (vsc), some (vr 0), some (vr 79), some (vi x3)] [vi v72] (mm I72)
        refine G_aload_n (x := some (79)) X dL_law_424 rfl rfl ?_
        obtain ⟨⟨v73, I73⟩, hk73, hf⟩ := obd hf
        try dsimp only at hf
        refine G_callV (As := []) X (f6_undo_ok E I72  v73 I73 hk73) cb_L_53 vi_X6_undo (ci := 5) rfl rfl (show SH[79]? = some (_, 0) from rfl) rfl rfl (Nat.le_of_ble_eq_true rfl) (by decide) (by decide) rfl (by decide) (by decide) dL_law_425 ?_
        show G E κ _ _ _ [some (vsc), some (vr 0), some (vr 79), some (vi x3)] [vi v73, vi v72] (mm I73)
        refine G_icmp_eq (tgt := 802) X dL_law_428 (by decide) (fun hc74 => ?_) (fun hc74 => ?_)
        · have hf := (if_pos hc74).symm.trans hf
          refine G_iinc (x := x3) (v := 5) X dL_law_802 rfl rfl (ls' := [some (vsc), some (vr 0), some (vr 79), some (vi (x3 + 5))]) rfl ?_
          refine G_goto (tgt := 18) X dL_law_805 (by decide) ?_
          exact ih I73 (x3 + 5) hf
        · have hf := (if_neg hc74).symm.trans hf
          refine G_iconst (v := 0) X dL_law_431 rfl ?_
          cases hf
      have hf := (if_neg hc71).symm.trans hf
      by_cases hc75 : ((xs x3.toNatClampNeg) &&& 31) = 9
      · have hf := (if_pos hc75).symm.trans hf
        refine G_tableJ (tgt := 433) X 9 dL_law_32 hc75 (by decide) (by decide) rfl (by decide) ?_
        refine G_aload_n (x := some (0)) X dL_law_433 rfl rfl ?_
        refine G_aload_n (x := none) X dL_law_434 rfl rfl ?_
        refine G_iload_n (x := x3) X dL_law_435 rfl rfl ?_
        refine G_iconst (v := 1) X dL_law_436 rfl ?_
        refine G_iadd X dL_law_437 ?_
        obtain ⟨hc76, hf⟩ := ock hf
        refine G_sld X hX (ib_in hc76) dL_law_438 ?_
        obtain ⟨⟨v77, I77⟩, hk77, hf⟩ := obd hf
        try dsimp only at hf
        refine G_callV (As := [vi (xs (x3 + 1).toNatClampNeg)]) X (f5_type_ok E I (xs (x3 + 1).toNatClampNeg) v77 I77 hk77) cb_L_54 vi_X5_type (ci := 4) rfl rfl (show SH[0]? = some (_, 0) from rfl) rfl rfl (Nat.le_of_ble_eq_true rfl) (by decide) (by decide) rfl (by decide) (by decide) dL_law_439 ?_
        show G E κ _ _ _ [some (vsc), some (vr 0), some (vr 79), some (vi x3)] [vi v77] (mm I77)
        refine G_aload_n (x := some (79)) X dL_law_442 rfl rfl ?_
        refine G_aload_n (x := none) X dL_law_443 rfl rfl ?_
        refine G_iload_n (x := x3) X dL_law_444 rfl rfl ?_
        refine G_iconst (v := 1) X dL_law_445 rfl ?_
        refine G_iadd X dL_law_446 ?_
        obtain ⟨hc78, hf⟩ := ock hf
        refine G_sld X hX (ib_in hc78) dL_law_447 ?_
        obtain ⟨⟨v79, I79⟩, hk79, hf⟩ := obd hf
        try dsimp only at hf
        refine G_callV (As := [vi (xs (x3 + 1).toNatClampNeg)]) X (f6_type_ok E I77 (xs (x3 + 1).toNatClampNeg) v79 I79 hk79) cb_L_57 vi_X6_type (ci := 5) rfl rfl (show SH[79]? = some (_, 0) from rfl) rfl rfl (Nat.le_of_ble_eq_true rfl) (by decide) (by decide) rfl (by decide) (by decide) dL_law_448 ?_
        show G E κ _ _ _ [some (vsc), some (vr 0), some (vr 79), some (vi x3)] [vi v79, vi v77] (mm I79)
        refine G_icmp_eq (tgt := 802) X dL_law_451 (by decide) (fun hc80 => ?_) (fun hc80 => ?_)
        · have hf := (if_pos hc80).symm.trans hf
          refine G_iinc (x := x3) (v := 5) X dL_law_802 rfl rfl (ls' := [some (vsc), some (vr 0), some (vr 79), some (vi (x3 + 5))]) rfl ?_
          refine G_goto (tgt := 18) X dL_law_805 (by decide) ?_
          exact ih I79 (x3 + 5) hf
        · have hf := (if_neg hc80).symm.trans hf
          refine G_iconst (v := 0) X dL_law_454 rfl ?_
          cases hf
      have hf := (if_neg hc75).symm.trans hf
      by_cases hc81 : ((xs x3.toNatClampNeg) &&& 31) = 10
      · have hf := (if_pos hc81).symm.trans hf
        refine G_tableJ (tgt := 456) X 10 dL_law_32 hc81 (by decide) (by decide) rfl (by decide) ?_
        refine G_aload_n (x := some (0)) X dL_law_456 rfl rfl ?_
        obtain ⟨⟨v82, I82⟩, hk82, hf⟩ := obd hf
        try dsimp only at hf
        refine G_callV (As := []) X (f5_clearText_ok E I  v82 I82 hk82) cb_L_58 vi_X5_clearText (ci := 4) rfl rfl (show SH[0]? = some (_, 0) from rfl) rfl rfl (Nat.le_of_ble_eq_true rfl) (by decide) (by decide) rfl (by decide) (by decide) dL_law_457 ?_
        show G E κ _ _ _ [some (vsc), some (vr 0), some (vr 79), some (vi x3)] [vi v82] (mm I82)
        refine G_aload_n (x := some (79)) X dL_law_460 rfl rfl ?_
        obtain ⟨⟨v83, I83⟩, hk83, hf⟩ := obd hf
        try dsimp only at hf
        refine G_callV (As := []) X (f6_clearText_ok E I82  v83 I83 hk83) cb_L_61 vi_X6_clearText (ci := 5) rfl rfl (show SH[79]? = some (_, 0) from rfl) rfl rfl (Nat.le_of_ble_eq_true rfl) (by decide) (by decide) rfl (by decide) (by decide) dL_law_461 ?_
        show G E κ _ _ _ [some (vsc), some (vr 0), some (vr 79), some (vi x3)] [vi v83, vi v82] (mm I83)
        refine G_icmp_eq (tgt := 802) X dL_law_464 (by decide) (fun hc84 => ?_) (fun hc84 => ?_)
        · have hf := (if_pos hc84).symm.trans hf
          refine G_iinc (x := x3) (v := 5) X dL_law_802 rfl rfl (ls' := [some (vsc), some (vr 0), some (vr 79), some (vi (x3 + 5))]) rfl ?_
          refine G_goto (tgt := 18) X dL_law_805 (by decide) ?_
          exact ih I83 (x3 + 5) hf
        · have hf := (if_neg hc84).symm.trans hf
          refine G_iconst (v := 0) X dL_law_467 rfl ?_
          cases hf
      have hf := (if_neg hc81).symm.trans hf
      by_cases hc85 : ((xs x3.toNatClampNeg) &&& 31) = 11
      · have hf := (if_pos hc85).symm.trans hf
        refine G_tableJ (tgt := 469) X 11 dL_law_32 hc85 (by decide) (by decide) rfl (by decide) ?_
        refine G_aload_n (x := some (0)) X dL_law_469 rfl rfl ?_
        refine G_aload_n (x := none) X dL_law_470 rfl rfl ?_
        refine G_iload_n (x := x3) X dL_law_471 rfl rfl ?_
        refine G_iconst (v := 1) X dL_law_472 rfl ?_
        refine G_iadd X dL_law_473 ?_
        obtain ⟨hc86, hf⟩ := ock hf
        refine G_sld X hX (ib_in hc86) dL_law_474 ?_
        obtain ⟨⟨v87, I87⟩, hk87, hf⟩ := obd hf
        try dsimp only at hf
        refine G_callV (As := [vi (xs (x3 + 1).toNatClampNeg)]) X (f5_evaluate_ok E I (xs (x3 + 1).toNatClampNeg) v87 I87 hk87) cb_L_62 vi_X5_evaluate (ci := 4) rfl rfl (show SH[0]? = some (_, 0) from rfl) rfl rfl (Nat.le_of_ble_eq_true rfl) (by decide) (by decide) rfl (by decide) (by decide) dL_law_475 ?_
        show G E κ _ _ _ [some (vsc), some (vr 0), some (vr 79), some (vi x3)] [vi v87] (mm I87)
        refine G_aload_n (x := some (79)) X dL_law_478 rfl rfl ?_
        refine G_aload_n (x := none) X dL_law_479 rfl rfl ?_
        refine G_iload_n (x := x3) X dL_law_480 rfl rfl ?_
        refine G_iconst (v := 1) X dL_law_481 rfl ?_
        refine G_iadd X dL_law_482 ?_
        obtain ⟨hc88, hf⟩ := ock hf
        refine G_sld X hX (ib_in hc88) dL_law_483 ?_
        obtain ⟨⟨v89, I89⟩, hk89, hf⟩ := obd hf
        try dsimp only at hf
        refine G_callV (As := [vi (xs (x3 + 1).toNatClampNeg)]) X (f6_evaluate_ok E I87 (xs (x3 + 1).toNatClampNeg) v89 I89 hk89) cb_L_65 vi_X6_evaluate (ci := 5) rfl rfl (show SH[79]? = some (_, 0) from rfl) rfl rfl (Nat.le_of_ble_eq_true rfl) (by decide) (by decide) rfl (by decide) (by decide) dL_law_484 ?_
        show G E κ _ _ _ [some (vsc), some (vr 0), some (vr 79), some (vi x3)] [vi v89, vi v87] (mm I89)
        refine G_icmp_eq (tgt := 802) X dL_law_487 (by decide) (fun hc90 => ?_) (fun hc90 => ?_)
        · have hf := (if_pos hc90).symm.trans hf
          refine G_iinc (x := x3) (v := 5) X dL_law_802 rfl rfl (ls' := [some (vsc), some (vr 0), some (vr 79), some (vi (x3 + 5))]) rfl ?_
          refine G_goto (tgt := 18) X dL_law_805 (by decide) ?_
          exact ih I89 (x3 + 5) hf
        · have hf := (if_neg hc90).symm.trans hf
          refine G_iconst (v := 0) X dL_law_490 rfl ?_
          cases hf
      have hf := (if_neg hc85).symm.trans hf
      by_cases hc91 : ((xs x3.toNatClampNeg) &&& 31) = 12
      · have hf := (if_pos hc91).symm.trans hf
        refine G_tableJ (tgt := 492) X 12 dL_law_32 hc91 (by decide) (by decide) rfl (by decide) ?_
        refine G_aload_n (x := some (0)) X dL_law_492 rfl rfl ?_
        refine G_aload_n (x := none) X dL_law_493 rfl rfl ?_
        refine G_iload_n (x := x3) X dL_law_494 rfl rfl ?_
        refine G_iconst (v := 1) X dL_law_495 rfl ?_
        refine G_iadd X dL_law_496 ?_
        obtain ⟨hc92, hf⟩ := ock hf
        refine G_sld X hX (ib_in hc92) dL_law_497 ?_
        refine G_callV (As := [vi (xs (x3 + 1).toNatClampNeg)]) X (f5_failure_ok E I (xs (x3 + 1).toNatClampNeg) _ rfl) cb_L_66 vi_X5_failure (ci := 4) rfl rfl (show SH[0]? = some (_, 0) from rfl) rfl rfl (Nat.le_of_ble_eq_true rfl) (by decide) (by decide) rfl (by decide) (by decide) dL_law_498 ?_
        show G E κ _ _ _ [some (vsc), some (vr 0), some (vr 79), some (vi x3)] [vi (f5_failure I (xs (x3 + 1).toNatClampNeg))] (mm I)
        refine G_aload_n (x := some (79)) X dL_law_501 rfl rfl ?_
        refine G_aload_n (x := none) X dL_law_502 rfl rfl ?_
        refine G_iload_n (x := x3) X dL_law_503 rfl rfl ?_
        refine G_iconst (v := 1) X dL_law_504 rfl ?_
        refine G_iadd X dL_law_505 ?_
        obtain ⟨hc93, hf⟩ := ock hf
        refine G_sld X hX (ib_in hc93) dL_law_506 ?_
        refine G_callV (As := [vi (xs (x3 + 1).toNatClampNeg)]) X (f6_failure_ok E I (xs (x3 + 1).toNatClampNeg) _ rfl) cb_L_69 vi_X6_failure (ci := 5) rfl rfl (show SH[79]? = some (_, 0) from rfl) rfl rfl (Nat.le_of_ble_eq_true rfl) (by decide) (by decide) rfl (by decide) (by decide) dL_law_507 ?_
        show G E κ _ _ _ [some (vsc), some (vr 0), some (vr 79), some (vi x3)] [vi (f6_failure I (xs (x3 + 1).toNatClampNeg)), vi (f5_failure I (xs (x3 + 1).toNatClampNeg))] (mm I)
        refine G_icmp_eq (tgt := 802) X dL_law_510 (by decide) (fun hc94 => ?_) (fun hc94 => ?_)
        · have hf := (if_pos hc94).symm.trans hf
          refine G_iinc (x := x3) (v := 5) X dL_law_802 rfl rfl (ls' := [some (vsc), some (vr 0), some (vr 79), some (vi (x3 + 5))]) rfl ?_
          refine G_goto (tgt := 18) X dL_law_805 (by decide) ?_
          exact ih I (x3 + 5) hf
        · have hf := (if_neg hc94).symm.trans hf
          refine G_iconst (v := 0) X dL_law_513 rfl ?_
          cases hf
      have hf := (if_neg hc91).symm.trans hf
      by_cases hc95 : ((xs x3.toNatClampNeg) &&& 31) = 13
      · have hf := (if_pos hc95).symm.trans hf
        refine G_tableJ (tgt := 515) X 13 dL_law_32 hc95 (by decide) (by decide) rfl (by decide) ?_
        refine G_aload_n (x := some (0)) X dL_law_515 rfl rfl ?_
        refine G_aload_n (x := none) X dL_law_516 rfl rfl ?_
        refine G_iload_n (x := x3) X dL_law_517 rfl rfl ?_
        refine G_iconst (v := 1) X dL_law_518 rfl ?_
        refine G_iadd X dL_law_519 ?_
        obtain ⟨hc96, hf⟩ := ock hf
        refine G_sld X hX (ib_in hc96) dL_law_520 ?_
        obtain ⟨v97, hk97, hf⟩ := obd hf
        refine G_callV (As := [vi (xs (x3 + 1).toNatClampNeg)]) X (f5_count_ok E I (xs (x3 + 1).toNatClampNeg) v97 hk97) cb_L_70 vi_X5_count (ci := 4) rfl rfl (show SH[0]? = some (_, 0) from rfl) rfl rfl (Nat.le_of_ble_eq_true rfl) (by decide) (by decide) rfl (by decide) (by decide) dL_law_521 ?_
        show G E κ _ _ _ [some (vsc), some (vr 0), some (vr 79), some (vi x3)] [vi v97] (mm I)
        refine G_aload_n (x := some (79)) X dL_law_524 rfl rfl ?_
        refine G_aload_n (x := none) X dL_law_525 rfl rfl ?_
        refine G_iload_n (x := x3) X dL_law_526 rfl rfl ?_
        refine G_iconst (v := 1) X dL_law_527 rfl ?_
        refine G_iadd X dL_law_528 ?_
        obtain ⟨hc98, hf⟩ := ock hf
        refine G_sld X hX (ib_in hc98) dL_law_529 ?_
        obtain ⟨v99, hk99, hf⟩ := obd hf
        refine G_callV (As := [vi (xs (x3 + 1).toNatClampNeg)]) X (f6_count_ok E I (xs (x3 + 1).toNatClampNeg) v99 hk99) cb_L_73 vi_X6_count (ci := 5) rfl rfl (show SH[79]? = some (_, 0) from rfl) rfl rfl (Nat.le_of_ble_eq_true rfl) (by decide) (by decide) rfl (by decide) (by decide) dL_law_530 ?_
        show G E κ _ _ _ [some (vsc), some (vr 0), some (vr 79), some (vi x3)] [vi v99, vi v97] (mm I)
        refine G_icmp_eq (tgt := 802) X dL_law_533 (by decide) (fun hc100 => ?_) (fun hc100 => ?_)
        · have hf := (if_pos hc100).symm.trans hf
          refine G_iinc (x := x3) (v := 5) X dL_law_802 rfl rfl (ls' := [some (vsc), some (vr 0), some (vr 79), some (vi (x3 + 5))]) rfl ?_
          refine G_goto (tgt := 18) X dL_law_805 (by decide) ?_
          exact ih I (x3 + 5) hf
        · have hf := (if_neg hc100).symm.trans hf
          refine G_iconst (v := 0) X dL_law_536 rfl ?_
          cases hf
      have hf := (if_neg hc95).symm.trans hf
      by_cases hc101 : ((xs x3.toNatClampNeg) &&& 31) = 14
      · have hf := (if_pos hc101).symm.trans hf
        refine G_tableJ (tgt := 538) X 14 dL_law_32 hc101 (by decide) (by decide) rfl (by decide) ?_
        refine G_aload_n (x := some (0)) X dL_law_538 rfl rfl ?_
        refine G_aload_n (x := none) X dL_law_539 rfl rfl ?_
        refine G_iload_n (x := x3) X dL_law_540 rfl rfl ?_
        refine G_iconst (v := 1) X dL_law_541 rfl ?_
        refine G_iadd X dL_law_542 ?_
        obtain ⟨hc102, hf⟩ := ock hf
        refine G_sld X hX (ib_in hc102) dL_law_543 ?_
        refine G_aload_n (x := none) X dL_law_544 rfl rfl ?_
        refine G_iload_n (x := x3) X dL_law_545 rfl rfl ?_
        refine G_iconst (v := 2) X dL_law_546 rfl ?_
        refine G_iadd X dL_law_547 ?_
        obtain ⟨hc103, hf⟩ := ock hf
        refine G_sld X hX (ib_in hc103) dL_law_548 ?_
        obtain ⟨v104, hk104, hf⟩ := obd hf
        refine G_callV (As := [vi (xs (x3 + 1).toNatClampNeg), vi (xs (x3 + 2).toNatClampNeg)]) X (f5_row_ok E I (xs (x3 + 1).toNatClampNeg) (xs (x3 + 2).toNatClampNeg) v104 hk104) cb_L_74 vi_X5_row (ci := 4) rfl rfl (show SH[0]? = some (_, 0) from rfl) rfl rfl (Nat.le_of_ble_eq_true rfl) (by decide) (by decide) rfl (by decide) (by decide) dL_law_549 ?_
        show G E κ _ _ _ [some (vsc), some (vr 0), some (vr 79), some (vi x3)] [vi v104] (mm I)
        refine G_aload_n (x := some (79)) X dL_law_552 rfl rfl ?_
        refine G_aload_n (x := none) X dL_law_553 rfl rfl ?_
        refine G_iload_n (x := x3) X dL_law_554 rfl rfl ?_
        refine G_iconst (v := 1) X dL_law_555 rfl ?_
        refine G_iadd X dL_law_556 ?_
        obtain ⟨hc105, hf⟩ := ock hf
        refine G_sld X hX (ib_in hc105) dL_law_557 ?_
        refine G_aload_n (x := none) X dL_law_558 rfl rfl ?_
        refine G_iload_n (x := x3) X dL_law_559 rfl rfl ?_
        refine G_iconst (v := 2) X dL_law_560 rfl ?_
        refine G_iadd X dL_law_561 ?_
        obtain ⟨hc106, hf⟩ := ock hf
        refine G_sld X hX (ib_in hc106) dL_law_562 ?_
        obtain ⟨v107, hk107, hf⟩ := obd hf
        refine G_callV (As := [vi (xs (x3 + 1).toNatClampNeg), vi (xs (x3 + 2).toNatClampNeg)]) X (f6_row_ok E I (xs (x3 + 1).toNatClampNeg) (xs (x3 + 2).toNatClampNeg) v107 hk107) cb_L_77 vi_X6_row (ci := 5) rfl rfl (show SH[79]? = some (_, 0) from rfl) rfl rfl (Nat.le_of_ble_eq_true rfl) (by decide) (by decide) rfl (by decide) (by decide) dL_law_563 ?_
        show G E κ _ _ _ [some (vsc), some (vr 0), some (vr 79), some (vi x3)] [vi v107, vi v104] (mm I)
        refine G_icmp_eq (tgt := 802) X dL_law_566 (by decide) (fun hc108 => ?_) (fun hc108 => ?_)
        · have hf := (if_pos hc108).symm.trans hf
          refine G_iinc (x := x3) (v := 5) X dL_law_802 rfl rfl (ls' := [some (vsc), some (vr 0), some (vr 79), some (vi (x3 + 5))]) rfl ?_
          refine G_goto (tgt := 18) X dL_law_805 (by decide) ?_
          exact ih I (x3 + 5) hf
        · have hf := (if_neg hc108).symm.trans hf
          refine G_iconst (v := 0) X dL_law_569 rfl ?_
          cases hf
      have hf := (if_neg hc101).symm.trans hf
      by_cases hc109 : ((xs x3.toNatClampNeg) &&& 31) = 15
      · have hf := (if_pos hc109).symm.trans hf
        refine G_tableJ (tgt := 571) X 15 dL_law_32 hc109 (by decide) (by decide) rfl (by decide) ?_
        refine G_aload_n (x := some (0)) X dL_law_571 rfl rfl ?_
        refine G_aload_n (x := none) X dL_law_572 rfl rfl ?_
        refine G_iload_n (x := x3) X dL_law_573 rfl rfl ?_
        refine G_iconst (v := 1) X dL_law_574 rfl ?_
        refine G_iadd X dL_law_575 ?_
        obtain ⟨hc110, hf⟩ := ock hf
        refine G_sld X hX (ib_in hc110) dL_law_576 ?_
        refine G_aload_n (x := none) X dL_law_577 rfl rfl ?_
        refine G_iload_n (x := x3) X dL_law_578 rfl rfl ?_
        refine G_iconst (v := 2) X dL_law_579 rfl ?_
        refine G_iadd X dL_law_580 ?_
        obtain ⟨hc111, hf⟩ := ock hf
        refine G_sld X hX (ib_in hc111) dL_law_581 ?_
        obtain ⟨v112, hk112, hf⟩ := obd hf
        refine G_callV (As := [vi (xs (x3 + 1).toNatClampNeg), vi (xs (x3 + 2).toNatClampNeg)]) X (f5_word_ok E I (xs (x3 + 1).toNatClampNeg) (xs (x3 + 2).toNatClampNeg) v112 hk112) cb_L_78 vi_X5_word (ci := 4) rfl rfl (show SH[0]? = some (_, 0) from rfl) rfl rfl (Nat.le_of_ble_eq_true rfl) (by decide) (by decide) rfl (by decide) (by decide) dL_law_582 ?_
        show G E κ _ _ _ [some (vsc), some (vr 0), some (vr 79), some (vi x3)] [vi v112] (mm I)
        refine G_aload_n (x := some (79)) X dL_law_585 rfl rfl ?_
        refine G_aload_n (x := none) X dL_law_586 rfl rfl ?_
        refine G_iload_n (x := x3) X dL_law_587 rfl rfl ?_
        refine G_iconst (v := 1) X dL_law_588 rfl ?_
        refine G_iadd X dL_law_589 ?_
        obtain ⟨hc113, hf⟩ := ock hf
        refine G_sld X hX (ib_in hc113) dL_law_590 ?_
        refine G_aload_n (x := none) X dL_law_591 rfl rfl ?_
        refine G_iload_n (x := x3) X dL_law_592 rfl rfl ?_
        refine G_iconst (v := 2) X dL_law_593 rfl ?_
        refine G_iadd X dL_law_594 ?_
        obtain ⟨hc114, hf⟩ := ock hf
        refine G_sld X hX (ib_in hc114) dL_law_595 ?_
        obtain ⟨v115, hk115, hf⟩ := obd hf
        refine G_callV (As := [vi (xs (x3 + 1).toNatClampNeg), vi (xs (x3 + 2).toNatClampNeg)]) X (f6_word_ok E I (xs (x3 + 1).toNatClampNeg) (xs (x3 + 2).toNatClampNeg) v115 hk115) cb_L_81 vi_X6_word (ci := 5) rfl rfl (show SH[79]? = some (_, 0) from rfl) rfl rfl (Nat.le_of_ble_eq_true rfl) (by decide) (by decide) rfl (by decide) (by decide) dL_law_596 ?_
        show G E κ _ _ _ [some (vsc), some (vr 0), some (vr 79), some (vi x3)] [vi v115, vi v112] (mm I)
        refine G_icmp_eq (tgt := 802) X dL_law_599 (by decide) (fun hc116 => ?_) (fun hc116 => ?_)
        · have hf := (if_pos hc116).symm.trans hf
          refine G_iinc (x := x3) (v := 5) X dL_law_802 rfl rfl (ls' := [some (vsc), some (vr 0), some (vr 79), some (vi (x3 + 5))]) rfl ?_
          refine G_goto (tgt := 18) X dL_law_805 (by decide) ?_
          exact ih I (x3 + 5) hf
        · have hf := (if_neg hc116).symm.trans hf
          refine G_iconst (v := 0) X dL_law_602 rfl ?_
          cases hf
      have hf := (if_neg hc109).symm.trans hf
      by_cases hc117 : ((xs x3.toNatClampNeg) &&& 31) = 16
      · have hf := (if_pos hc117).symm.trans hf
        refine G_tableJ (tgt := 604) X 16 dL_law_32 hc117 (by decide) (by decide) rfl (by decide) ?_
        refine G_aload_n (x := some (0)) X dL_law_604 rfl rfl ?_
        refine G_aload_n (x := none) X dL_law_605 rfl rfl ?_
        refine G_iload_n (x := x3) X dL_law_606 rfl rfl ?_
        refine G_iconst (v := 1) X dL_law_607 rfl ?_
        refine G_iadd X dL_law_608 ?_
        obtain ⟨hc118, hf⟩ := ock hf
        refine G_sld X hX (ib_in hc118) dL_law_609 ?_
        refine G_aload_n (x := none) X dL_law_610 rfl rfl ?_
        refine G_iload_n (x := x3) X dL_law_611 rfl rfl ?_
        refine G_iconst (v := 2) X dL_law_612 rfl ?_
        refine G_iadd X dL_law_613 ?_
        obtain ⟨hc119, hf⟩ := ock hf
        refine G_sld X hX (ib_in hc119) dL_law_614 ?_
        obtain ⟨v120, hk120, hf⟩ := obd hf
        refine G_callV (As := [vi (xs (x3 + 1).toNatClampNeg), vi (xs (x3 + 2).toNatClampNeg)]) X (f5_bit_ok E I (xs (x3 + 1).toNatClampNeg) (xs (x3 + 2).toNatClampNeg) v120 hk120) cb_L_82 vi_X5_bit (ci := 4) rfl rfl (show SH[0]? = some (_, 0) from rfl) rfl rfl (Nat.le_of_ble_eq_true rfl) (by decide) (by decide) rfl (by decide) (by decide) dL_law_615 ?_
        show G E κ _ _ _ [some (vsc), some (vr 0), some (vr 79), some (vi x3)] [vi v120] (mm I)
        refine G_aload_n (x := some (79)) X dL_law_618 rfl rfl ?_
        refine G_aload_n (x := none) X dL_law_619 rfl rfl ?_
        refine G_iload_n (x := x3) X dL_law_620 rfl rfl ?_
        refine G_iconst (v := 1) X dL_law_621 rfl ?_
        refine G_iadd X dL_law_622 ?_
        obtain ⟨hc121, hf⟩ := ock hf
        refine G_sld X hX (ib_in hc121) dL_law_623 ?_
        refine G_aload_n (x := none) X dL_law_624 rfl rfl ?_
        refine G_iload_n (x := x3) X dL_law_625 rfl rfl ?_
        refine G_iconst (v := 2) X dL_law_626 rfl ?_
        refine G_iadd X dL_law_627 ?_
        obtain ⟨hc122, hf⟩ := ock hf
        refine G_sld X hX (ib_in hc122) dL_law_628 ?_
        obtain ⟨v123, hk123, hf⟩ := obd hf
        refine G_callV (As := [vi (xs (x3 + 1).toNatClampNeg), vi (xs (x3 + 2).toNatClampNeg)]) X (f6_bit_ok E I (xs (x3 + 1).toNatClampNeg) (xs (x3 + 2).toNatClampNeg) v123 hk123) cb_L_85 vi_X6_bit (ci := 5) rfl rfl (show SH[79]? = some (_, 0) from rfl) rfl rfl (Nat.le_of_ble_eq_true rfl) (by decide) (by decide) rfl (by decide) (by decide) dL_law_629 ?_
        show G E κ _ _ _ [some (vsc), some (vr 0), some (vr 79), some (vi x3)] [vi v123, vi v120] (mm I)
        refine G_icmp_eq (tgt := 802) X dL_law_632 (by decide) (fun hc124 => ?_) (fun hc124 => ?_)
        · have hf := (if_pos hc124).symm.trans hf
          refine G_iinc (x := x3) (v := 5) X dL_law_802 rfl rfl (ls' := [some (vsc), some (vr 0), some (vr 79), some (vi (x3 + 5))]) rfl ?_
          refine G_goto (tgt := 18) X dL_law_805 (by decide) ?_
          exact ih I (x3 + 5) hf
        · have hf := (if_neg hc124).symm.trans hf
          refine G_iconst (v := 0) X dL_law_635 rfl ?_
          cases hf
      have hf := (if_neg hc117).symm.trans hf
      by_cases hc125 : ((xs x3.toNatClampNeg) &&& 31) = 17
      · have hf := (if_pos hc125).symm.trans hf
        refine G_tableJ (tgt := 637) X 17 dL_law_32 hc125 (by decide) (by decide) rfl (by decide) ?_
        refine G_aload_n (x := some (0)) X dL_law_637 rfl rfl ?_
        refine G_aload_n (x := none) X dL_law_638 rfl rfl ?_
        refine G_iload_n (x := x3) X dL_law_639 rfl rfl ?_
        refine G_iconst (v := 1) X dL_law_640 rfl ?_
        refine G_iadd X dL_law_641 ?_
        obtain ⟨hc126, hf⟩ := ock hf
        refine G_sld X hX (ib_in hc126) dL_law_642 ?_
        refine G_aload_n (x := none) X dL_law_643 rfl rfl ?_
        refine G_iload_n (x := x3) X dL_law_644 rfl rfl ?_
        refine G_iconst (v := 2) X dL_law_645 rfl ?_
        refine G_iadd X dL_law_646 ?_
        obtain ⟨hc127, hf⟩ := ock hf
        refine G_sld X hX (ib_in hc127) dL_law_647 ?_
        obtain ⟨v128, hk128, hf⟩ := obd hf
        refine G_callV (As := [vi (xs (x3 + 1).toNatClampNeg), vi (xs (x3 + 2).toNatClampNeg)]) X (f5_rank_ok E I (xs (x3 + 1).toNatClampNeg) (xs (x3 + 2).toNatClampNeg) v128 hk128) cb_L_86 vi_X5_rank (ci := 4) rfl rfl (show SH[0]? = some (_, 0) from rfl) rfl rfl (Nat.le_of_ble_eq_true rfl) (by decide) (by decide) rfl (by decide) (by decide) dL_law_648 ?_
        show G E κ _ _ _ [some (vsc), some (vr 0), some (vr 79), some (vi x3)] [vi v128] (mm I)
        refine G_aload_n (x := some (79)) X dL_law_651 rfl rfl ?_
        refine G_aload_n (x := none) X dL_law_652 rfl rfl ?_
        refine G_iload_n (x := x3) X dL_law_653 rfl rfl ?_
        refine G_iconst (v := 1) X dL_law_654 rfl ?_
        refine G_iadd X dL_law_655 ?_
        obtain ⟨hc129, hf⟩ := ock hf
        refine G_sld X hX (ib_in hc129) dL_law_656 ?_
        refine G_aload_n (x := none) X dL_law_657 rfl rfl ?_
        refine G_iload_n (x := x3) X dL_law_658 rfl rfl ?_
        refine G_iconst (v := 2) X dL_law_659 rfl ?_
        refine G_iadd X dL_law_660 ?_
        obtain ⟨hc130, hf⟩ := ock hf
        refine G_sld X hX (ib_in hc130) dL_law_661 ?_
        obtain ⟨v131, hk131, hf⟩ := obd hf
        refine G_callV (As := [vi (xs (x3 + 1).toNatClampNeg), vi (xs (x3 + 2).toNatClampNeg)]) X (f6_rank__ok E I (xs (x3 + 1).toNatClampNeg) (xs (x3 + 2).toNatClampNeg) v131 hk131) cb_L_89 vi_X6_rank_ (ci := 5) rfl rfl (show SH[79]? = some (_, 0) from rfl) rfl rfl (Nat.le_of_ble_eq_true rfl) (by decide) (by decide) rfl (by decide) (by decide) dL_law_662 ?_
        show G E κ _ _ _ [some (vsc), some (vr 0), some (vr 79), some (vi x3)] [vi v131, vi v128] (mm I)
        refine G_icmp_eq (tgt := 802) X dL_law_665 (by decide) (fun hc132 => ?_) (fun hc132 => ?_)
        · have hf := (if_pos hc132).symm.trans hf
          refine G_iinc (x := x3) (v := 5) X dL_law_802 rfl rfl (ls' := [some (vsc), some (vr 0), some (vr 79), some (vi (x3 + 5))]) rfl ?_
          refine G_goto (tgt := 18) X dL_law_805 (by decide) ?_
          exact ih I (x3 + 5) hf
        · have hf := (if_neg hc132).symm.trans hf
          refine G_iconst (v := 0) X dL_law_668 rfl ?_
          cases hf
      have hf := (if_neg hc125).symm.trans hf
      by_cases hc133 : ((xs x3.toNatClampNeg) &&& 31) = 18
      · have hf := (if_pos hc133).symm.trans hf
        refine G_tableJ (tgt := 670) X 18 dL_law_32 hc133 (by decide) (by decide) rfl (by decide) ?_
        refine G_aload_n (x := some (0)) X dL_law_670 rfl rfl ?_
        refine G_aload_n (x := none) X dL_law_671 rfl rfl ?_
        refine G_iload_n (x := x3) X dL_law_672 rfl rfl ?_
        refine G_iconst (v := 1) X dL_law_673 rfl ?_
        refine G_iadd X dL_law_674 ?_
        obtain ⟨hc134, hf⟩ := ock hf
        refine G_sld X hX (ib_in hc134) dL_law_675 ?_
        refine G_aload_n (x := none) X dL_law_676 rfl rfl ?_
        refine G_iload_n (x := x3) X dL_law_677 rfl rfl ?_
        refine G_iconst (v := 2) X dL_law_678 rfl ?_
        refine G_iadd X dL_law_679 ?_
        obtain ⟨hc135, hf⟩ := ock hf
        refine G_sld X hX (ib_in hc135) dL_law_680 ?_
        obtain ⟨v136, hk136, hf⟩ := obd hf
        refine G_callV (As := [vi (xs (x3 + 1).toNatClampNeg), vi (xs (x3 + 2).toNatClampNeg)]) X (f5_select_ok E I (xs (x3 + 1).toNatClampNeg) (xs (x3 + 2).toNatClampNeg) v136 hk136) cb_L_90 vi_X5_select (ci := 4) rfl rfl (show SH[0]? = some (_, 0) from rfl) rfl rfl (Nat.le_of_ble_eq_true rfl) (by decide) (by decide) rfl (by decide) (by decide) dL_law_681 ?_
        show G E κ _ _ _ [some (vsc), some (vr 0), some (vr 79), some (vi x3)] [vi v136] (mm I)
        refine G_aload_n (x := some (79)) X dL_law_684 rfl rfl ?_
        refine G_aload_n (x := none) X dL_law_685 rfl rfl ?_
        refine G_iload_n (x := x3) X dL_law_686 rfl rfl ?_
        refine G_iconst (v := 1) X dL_law_687 rfl ?_
        refine G_iadd X dL_law_688 ?_
        obtain ⟨hc137, hf⟩ := ock hf
        refine G_sld X hX (ib_in hc137) dL_law_689 ?_
        refine G_aload_n (x := none) X dL_law_690 rfl rfl ?_
        refine G_iload_n (x := x3) X dL_law_691 rfl rfl ?_
        refine G_iconst (v := 2) X dL_law_692 rfl ?_
        refine G_iadd X dL_law_693 ?_
        obtain ⟨hc138, hf⟩ := ock hf
        refine G_sld X hX (ib_in hc138) dL_law_694 ?_
        obtain ⟨v139, hk139, hf⟩ := obd hf
        refine G_callV (As := [vi (xs (x3 + 1).toNatClampNeg), vi (xs (x3 + 2).toNatClampNeg)]) X (f6_select_ok E I (xs (x3 + 1).toNatClampNeg) (xs (x3 + 2).toNatClampNeg) v139 hk139) cb_L_93 vi_X6_select (ci := 5) rfl rfl (show SH[79]? = some (_, 0) from rfl) rfl rfl (Nat.le_of_ble_eq_true rfl) (by decide) (by decide) rfl (by decide) (by decide) dL_law_695 ?_
        show G E κ _ _ _ [some (vsc), some (vr 0), some (vr 79), some (vi x3)] [vi v139, vi v136] (mm I)
        refine G_icmp_eq (tgt := 802) X dL_law_698 (by decide) (fun hc140 => ?_) (fun hc140 => ?_)
        · have hf := (if_pos hc140).symm.trans hf
          refine G_iinc (x := x3) (v := 5) X dL_law_802 rfl rfl (ls' := [some (vsc), some (vr 0), some (vr 79), some (vi (x3 + 5))]) rfl ?_
          refine G_goto (tgt := 18) X dL_law_805 (by decide) ?_
          exact ih I (x3 + 5) hf
        · have hf := (if_neg hc140).symm.trans hf
          refine G_iconst (v := 0) X dL_law_701 rfl ?_
          cases hf
      have hf := (if_neg hc133).symm.trans hf
      by_cases hc141 : ((xs x3.toNatClampNeg) &&& 31) = 19
      · have hf := (if_pos hc141).symm.trans hf
        refine G_tableJ (tgt := 703) X 19 dL_law_32 hc141 (by decide) (by decide) rfl (by decide) ?_
        refine G_aload_n (x := some (0)) X dL_law_703 rfl rfl ?_
        refine G_aload_n (x := none) X dL_law_704 rfl rfl ?_
        refine G_iload_n (x := x3) X dL_law_705 rfl rfl ?_
        refine G_iconst (v := 1) X dL_law_706 rfl ?_
        refine G_iadd X dL_law_707 ?_
        obtain ⟨hc142, hf⟩ := ock hf
        refine G_sld X hX (ib_in hc142) dL_law_708 ?_
        refine G_aload_n (x := none) X dL_law_709 rfl rfl ?_
        refine G_iload_n (x := x3) X dL_law_710 rfl rfl ?_
        refine G_iconst (v := 2) X dL_law_711 rfl ?_
        refine G_iadd X dL_law_712 ?_
        obtain ⟨hc143, hf⟩ := ock hf
        refine G_sld X hX (ib_in hc143) dL_law_713 ?_
        refine G_aload_n (x := none) X dL_law_714 rfl rfl ?_
        refine G_iload_n (x := x3) X dL_law_715 rfl rfl ?_
        refine G_iconst (v := 3) X dL_law_716 rfl ?_
        refine G_iadd X dL_law_717 ?_
        obtain ⟨hc144, hf⟩ := ock hf
        refine G_sld X hX (ib_in hc144) dL_law_718 ?_
        refine G_aload_n (x := none) X dL_law_719 rfl rfl ?_
        refine G_iload_n (x := x3) X dL_law_720 rfl rfl ?_
        refine G_iconst (v := 4) X dL_law_721 rfl ?_
        refine G_iadd X dL_law_722 ?_
        obtain ⟨hc145, hf⟩ := ock hf
        refine G_sld X hX (ib_in hc145) dL_law_723 ?_
        obtain ⟨⟨v146, I146⟩, hk146, hf⟩ := obd hf
        try dsimp only at hf
        refine G_callV (As := [vi (xs (x3 + 1).toNatClampNeg), vi (xs (x3 + 2).toNatClampNeg), vi (xs (x3 + 3).toNatClampNeg), vi (xs (x3 + 4).toNatClampNeg)]) X (f5_would_ok E I (xs (x3 + 1).toNatClampNeg) (xs (x3 + 2).toNatClampNeg) (xs (x3 + 3).toNatClampNeg) (xs (x3 + 4).toNatClampNeg) v146 I146 hk146) cb_L_94 vi_X5_would (ci := 4) rfl rfl (show SH[0]? = some (_, 0) from rfl) rfl rfl (Nat.le_of_ble_eq_true rfl) (by decide) (by decide) rfl (by decide) (by decide) dL_law_724 ?_
        show G E κ _ _ _ [some (vsc), some (vr 0), some (vr 79), some (vi x3)] [vi v146] (mm I146)
        refine G_aload_n (x := some (79)) X dL_law_727 rfl rfl ?_
        refine G_aload_n (x := none) X dL_law_728 rfl rfl ?_
        refine G_iload_n (x := x3) X dL_law_729 rfl rfl ?_
        refine G_iconst (v := 1) X dL_law_730 rfl ?_
        refine G_iadd X dL_law_731 ?_
        obtain ⟨hc147, hf⟩ := ock hf
        refine G_sld X hX (ib_in hc147) dL_law_732 ?_
        refine G_aload_n (x := none) X dL_law_733 rfl rfl ?_
        refine G_iload_n (x := x3) X dL_law_734 rfl rfl ?_
        refine G_iconst (v := 2) X dL_law_735 rfl ?_
        refine G_iadd X dL_law_736 ?_
        obtain ⟨hc148, hf⟩ := ock hf
        refine G_sld X hX (ib_in hc148) dL_law_737 ?_
        refine G_aload_n (x := none) X dL_law_738 rfl rfl ?_
        refine G_iload_n (x := x3) X dL_law_739 rfl rfl ?_
        refine G_iconst (v := 3) X dL_law_740 rfl ?_
        refine G_iadd X dL_law_741 ?_
        obtain ⟨hc149, hf⟩ := ock hf
        refine G_sld X hX (ib_in hc149) dL_law_742 ?_
        refine G_aload_n (x := none) X dL_law_743 rfl rfl ?_
        refine G_iload_n (x := x3) X dL_law_744 rfl rfl ?_
        refine G_iconst (v := 4) X dL_law_745 rfl ?_
        refine G_iadd X dL_law_746 ?_
        obtain ⟨hc150, hf⟩ := ock hf
        refine G_sld X hX (ib_in hc150) dL_law_747 ?_
        obtain ⟨⟨v151, I151⟩, hk151, hf⟩ := obd hf
        try dsimp only at hf
        refine G_callV (As := [vi (xs (x3 + 1).toNatClampNeg), vi (xs (x3 + 2).toNatClampNeg), vi (xs (x3 + 3).toNatClampNeg), vi (xs (x3 + 4).toNatClampNeg)]) X (f6_would_ok E I146 (xs (x3 + 1).toNatClampNeg) (xs (x3 + 2).toNatClampNeg) (xs (x3 + 3).toNatClampNeg) (xs (x3 + 4).toNatClampNeg) v151 I151 hk151) cb_L_97 vi_X6_would (ci := 5) rfl rfl (show SH[79]? = some (_, 0) from rfl) rfl rfl (Nat.le_of_ble_eq_true rfl) (by decide) (by decide) rfl (by decide) (by decide) dL_law_748 ?_
        show G E κ _ _ _ [some (vsc), some (vr 0), some (vr 79), some (vi x3)] [vi v151, vi v146] (mm I151)
        refine G_icmp_eq (tgt := 802) X dL_law_751 (by decide) (fun hc152 => ?_) (fun hc152 => ?_)
        · have hf := (if_pos hc152).symm.trans hf
          refine G_iinc (x := x3) (v := 5) X dL_law_802 rfl rfl (ls' := [some (vsc), some (vr 0), some (vr 79), some (vi (x3 + 5))]) rfl ?_
          refine G_goto (tgt := 18) X dL_law_805 (by decide) ?_
          exact ih I151 (x3 + 5) hf
        · have hf := (if_neg hc152).symm.trans hf
          refine G_iconst (v := 0) X dL_law_754 rfl ?_
          cases hf
      have hf := (if_neg hc141).symm.trans hf
      by_cases hc153 : ((xs x3.toNatClampNeg) &&& 31) = 20
      · have hf := (if_pos hc153).symm.trans hf
        refine G_tableJ (tgt := 756) X 20 dL_law_32 hc153 (by decide) (by decide) rfl (by decide) ?_
        refine G_aload_n (x := some (0)) X dL_law_756 rfl rfl ?_
        refine G_aload_n (x := none) X dL_law_757 rfl rfl ?_
        refine G_iload_n (x := x3) X dL_law_758 rfl rfl ?_
        refine G_iconst (v := 1) X dL_law_759 rfl ?_
        refine G_iadd X dL_law_760 ?_
        obtain ⟨hc154, hf⟩ := ock hf
        refine G_sld X hX (ib_in hc154) dL_law_761 ?_
        obtain ⟨v155, hk155, hf⟩ := obd hf
        refine G_callV (As := [vi (xs (x3 + 1).toNatClampNeg)]) X (f5_same_ok E I (xs (x3 + 1).toNatClampNeg) v155 hk155) cb_L_98 vi_X5_same (ci := 4) rfl rfl (show SH[0]? = some (_, 0) from rfl) rfl rfl (Nat.le_of_ble_eq_true rfl) (by decide) (by decide) rfl (by decide) (by decide) dL_law_762 ?_
        show G E κ _ _ _ [some (vsc), some (vr 0), some (vr 79), some (vi x3)] [vi v155] (mm I)
        refine G_aload_n (x := some (79)) X dL_law_765 rfl rfl ?_
        refine G_aload_n (x := none) X dL_law_766 rfl rfl ?_
        refine G_iload_n (x := x3) X dL_law_767 rfl rfl ?_
        refine G_iconst (v := 1) X dL_law_768 rfl ?_
        refine G_iadd X dL_law_769 ?_
        obtain ⟨hc156, hf⟩ := ock hf
        refine G_sld X hX (ib_in hc156) dL_law_770 ?_
        obtain ⟨v157, hk157, hf⟩ := obd hf
        refine G_callV (As := [vi (xs (x3 + 1).toNatClampNeg)]) X (f6_same_ok E I (xs (x3 + 1).toNatClampNeg) v157 hk157) cb_L_101 vi_X6_same (ci := 5) rfl rfl (show SH[79]? = some (_, 0) from rfl) rfl rfl (Nat.le_of_ble_eq_true rfl) (by decide) (by decide) rfl (by decide) (by decide) dL_law_771 ?_
        show G E κ _ _ _ [some (vsc), some (vr 0), some (vr 79), some (vi x3)] [vi v157, vi v155] (mm I)
        refine G_icmp_eq (tgt := 802) X dL_law_774 (by decide) (fun hc158 => ?_) (fun hc158 => ?_)
        · have hf := (if_pos hc158).symm.trans hf
          refine G_iinc (x := x3) (v := 5) X dL_law_802 rfl rfl (ls' := [some (vsc), some (vr 0), some (vr 79), some (vi (x3 + 5))]) rfl ?_
          refine G_goto (tgt := 18) X dL_law_805 (by decide) ?_
          exact ih I (x3 + 5) hf
        · have hf := (if_neg hc158).symm.trans hf
          refine G_iconst (v := 0) X dL_law_777 rfl ?_
          cases hf
      have hf := (if_neg hc153).symm.trans hf
      by_cases hc159 : ((xs x3.toNatClampNeg) &&& 31) = 21
      · have hf := (if_pos hc159).symm.trans hf
        refine G_tableJ (tgt := 779) X 21 dL_law_32 hc159 (by decide) (by decide) rfl (by decide) ?_
        refine G_aload_n (x := some (0)) X dL_law_779 rfl rfl ?_
        refine G_aload_n (x := none) X dL_law_780 rfl rfl ?_
        refine G_iload_n (x := x3) X dL_law_781 rfl rfl ?_
        refine G_iconst (v := 1) X dL_law_782 rfl ?_
        refine G_iadd X dL_law_783 ?_
        obtain ⟨hc160, hf⟩ := ock hf
        refine G_sld X hX (ib_in hc160) dL_law_784 ?_
        obtain ⟨⟨v161, I161⟩, hk161, hf⟩ := obd hf
        try dsimp only at hf
        refine G_callV (As := [vi (xs (x3 + 1).toNatClampNeg)]) X (f5_bestShift_ok E I (xs (x3 + 1).toNatClampNeg) v161 I161 hk161) cb_L_102 vi_X5_bestShift (ci := 4) rfl rfl (show SH[0]? = some (_, 0) from rfl) rfl rfl (Nat.le_of_ble_eq_true rfl) (by decide) (by decide) rfl (by decide) (by decide) dL_law_785 ?_
        show G E κ _ _ _ [some (vsc), some (vr 0), some (vr 79), some (vi x3)] [vi v161] (mm I161)
        refine G_aload_n (x := some (79)) X dL_law_788 rfl rfl ?_
        refine G_aload_n (x := none) X dL_law_789 rfl rfl ?_
        refine G_iload_n (x := x3) X dL_law_790 rfl rfl ?_
        refine G_iconst (v := 1) X dL_law_791 rfl ?_
        refine G_iadd X dL_law_792 ?_
        obtain ⟨hc162, hf⟩ := ock hf
        refine G_sld X hX (ib_in hc162) dL_law_793 ?_
        obtain ⟨⟨v163, I163⟩, hk163, hf⟩ := obd hf
        try dsimp only at hf
        refine G_callV (As := [vi (xs (x3 + 1).toNatClampNeg)]) X (f6_bestShift_ok E I161 (xs (x3 + 1).toNatClampNeg) v163 I163 hk163) cb_L_105 vi_X6_bestShift (ci := 5) rfl rfl (show SH[79]? = some (_, 0) from rfl) rfl rfl (Nat.le_of_ble_eq_true rfl) (by decide) (by decide) rfl (by decide) (by decide) dL_law_794 ?_
        show G E κ _ _ _ [some (vsc), some (vr 0), some (vr 79), some (vi x3)] [vi v163, vi v161] (mm I163)
        refine G_icmp_eq (tgt := 802) X dL_law_797 (by decide) (fun hc164 => ?_) (fun hc164 => ?_)
        · have hf := (if_pos hc164).symm.trans hf
          refine G_iinc (x := x3) (v := 5) X dL_law_802 rfl rfl (ls' := [some (vsc), some (vr 0), some (vr 79), some (vi (x3 + 5))]) rfl ?_
          refine G_goto (tgt := 18) X dL_law_805 (by decide) ?_
          exact ih I163 (x3 + 5) hf
        · have hf := (if_neg hc164).symm.trans hf
          refine G_iconst (v := 0) X dL_law_800 rfl ?_
          cases hf
      have hf := (if_neg hc159).symm.trans hf
      refine G_tableD (tgt := 802) X 22 dL_law_32 (by decide) (lt_s (lt_s (lt_s (lt_s (lt_s (lt_s (lt_s (lt_s (lt_s (lt_s (lt_s (lt_s (lt_s (lt_s (lt_s (lt_s (lt_s (lt_s (lt_s (lt_s (lt_s (lt_s lt_0 hc3) hc7) hc17) hc27) hc37) hc45) hc57) hc63) hc71) hc75) hc81) hc85) hc91) hc95) hc101) hc109) hc117) hc125) hc133) hc141) hc153) hc159) (by decide) ?_
      refine G_iinc (x := x3) (v := 5) X dL_law_802 rfl rfl (ls' := [some (vsc), some (vr 0), some (vr 79), some (vi (x3 + 5))]) rfl ?_
      refine G_goto (tgt := 18) X dL_law_805 (by decide) ?_
      exact ih I (x3 + 5) hf
theorem gE_start {s : State} {args : Array Value} (hts : ∀ w ∈ lw_tbl, w.before args s = true) : ∃ (D : va_G) (Gc : Nat → ClassId), gKK D Gc s := by
  have hg : ∀ w ∈ gT, w.before args s = true := fun w hw => hts w (List.mem_filter.mp hw).1
  obtain ⟨c0, i0, h0⟩ := u_known (C := RX0) (T := TX0) (N := 2) (n := 2) hg ws_inX0 (hg _ is_X0)
  obtain ⟨c1, i1, h1⟩ := u_known (C := RX1) (T := TX1) (N := 3) (n := 3) hg ws_inX1 (hg _ is_X1)
  obtain ⟨c2, i2, h2⟩ := u_known (C := RX2) (T := TX2) (N := 10) (n := 10) hg ws_inX2 (hg _ is_X2)
  obtain ⟨c3, i3, h3⟩ := u_known (C := RX3) (T := TX3) (N := 2) (n := 2) hg ws_inX3 (hg _ is_X3)
  obtain ⟨c4, i4, h4⟩ := u_known (C := RX5) (T := TX5) (N := 5) (n := 5) hg ws_inX5 (hg _ is_X5)
  obtain ⟨c5, i5, h5⟩ := u_known (C := RX6) (T := TX6) (N := 17) (n := 17) hg ws_inX6 (hg _ is_X6)
  have hao0 : (Cond.arrayOver (.object RX0)).before args s = true := hts _ (List.mem_append_right _ (List.mem_append_left _ (List.mem_of_getElem? (i := 20) (by decide +kernel))))
  have hao1 : (Cond.arrayOver (.object RX1)).before args s = true := hts _ (List.mem_append_right _ (List.mem_append_left _ (List.mem_of_getElem? (i := 28) (by decide +kernel))))
  obtain ⟨a0, k0, p0, q1, q2, q3⟩ := Cond.arrayClass_spec (hg _ ac_int)
  obtain ⟨a1, k1, p1, r1, r2, r3⟩ := Cond.arrayClass_spec (hg _ ac_char)
  obtain ⟨p2, a2, k2, s1, s2, s3, s4, s5⟩ := Cond.arrayOver_spec hao0
  obtain ⟨p3, a3, k3, t1, t2, t3, t4, t5⟩ := Cond.arrayOver_spec hao1
  refine ⟨(fun k => match k with | 0 => c0 | 1 => c1 | 2 => c2 | 3 => c3 | 4 => c4 | _ => c5, fun k => match k with | 0 => i0 | 1 => i1 | 2 => i2 | 3 => i3 | 4 => i4 | _ => i5), fun k => match k with | 10 => a0 | 11 => a1 | 12 => a2 | _ => a3, ⟨?_, ?_⟩, va_AO.of hao0, va_AO.of hao1, va_Nw.of rfl (hts _ ?_), va_Nw.of rfl (hts _ ?_), va_Nw.of rfl (hts _ ?_), va_Nw.of rfl (hts _ ?_)⟩
  · intro k q hq
    match k, hq with
    | 0, hq => cases hq; exact h0
    | 1, hq => cases hq; exact h1
    | 2, hq => cases hq; exact h2
    | 3, hq => cases hq; exact h3
    | 4, hq => cases hq; exact h4
    | 5, hq => cases hq; exact h5
    | k + 6, hq => simp [vwCl] at hq
  · intro k q hq
    match k, hq with
    | 0, hq => cases hq; exact ⟨fun n z => ⟨fun k h => (by cases h), k0, q2, p0, q3⟩, q1⟩
    | 1, hq => cases hq; exact ⟨fun n z => ⟨fun k h => (by cases h), k1, r2, p1, r3⟩, r1⟩
    | 2, hq => cases hq; exact ⟨fun n z => ⟨fun k h => (by cases h), k2, s3, p2, s4⟩, k2, p2, s3, s4, s1, s5⟩
    | 3, hq => cases hq; exact ⟨fun n z => ⟨fun k h => (by cases h), k3, t3, p3, t4⟩, k3, p3, t3, t4, t1, t5⟩
    | k + 4, hq => simp [gTy] at hq
  · exact List.mem_append_right _ (List.mem_append_left _ (List.mem_of_getElem? (i := 115) (by decide +kernel)))
  · exact List.mem_append_right _ (List.mem_append_left _ (List.mem_of_getElem? (i := 36) (by decide +kernel)))
  · exact List.mem_append_right _ (List.mem_append_left _ (List.mem_of_getElem? (i := 78) (by decide +kernel)))
  · exact List.mem_append_right _ (List.mem_append_left _ (List.mem_of_getElem? (i := 30) (by decide +kernel)))
set_option maxRecDepth 100000 in
set_option maxHeartbeats 4000000 in
/-- the walk of the law's body, given that the law's loop answers true on every script -/
theorem start_of (HLAW : ∀ (L : Nat) (xs : Nat → Int32), L ≤ 2560 → ∃ k, lawL L xs k I0 0 = some true) {p : Program} {e : Env} {s : State} {m : MethodId} {below : List Frame} {meth : Method} {c : Code} (l : Launch) {b L : Nat} {xs : Nat → Int32} (hL : L ≤ 2560) (C0 : lw_At p s m meth c b L xs) : W p l e room_1 s m #[Value.ref b] below meth c s.heap [] 0 0 (lw_Z below #[Value.ref b] s) (entryFrame m ([Value.ref b] : List Value).toArray 4) := by
  obtain ⟨hx, hb, hr, hml, hown, hts, hX, hbl, hlocks, hgv⟩ := id C0
  obtain ⟨D, Gc, hKK⟩ := gE_start hts
  obtain ⟨k, hk⟩ := HLAW L xs hL
  have hgT : ∀ w ∈ gT, w.before #[Value.ref b] s = true := fun w hw => hts w (List.mem_filter.mp hw).1
  generalize hE : ((l, D, Gc, s.heap.size, b) : gEnv) = E
  generalize hκ : ((p, e, room_1, s, m, #[Value.ref b], below, meth, c, lw_Z below #[Value.ref b] s) : gCtx) = κ
  have X : Cx E κ cL_law 4 RL (some .boolean) 2048 600000 7302249 := by
    subst hE; subst hκ
    exact ⟨hx, hb, hml, hown, hgT, hKK, Nat.le_refl _, hlocks, hr, Nat.le_of_ble_eq_true rfl, Nat.le_of_ble_eq_true rfl, Nat.le_refl _, Nat.le_refl _⟩
  have hgX : gX E κ L xs := by subst hE; subst hκ; exact ⟨hX, hbl, hbl⟩
  have hLE : gLE E κ := by subst hE; subst hκ; exact ⟨rfl, rfl, rfl, rfl⟩
  have hZ : gSz E κ 0 0 := by subst hE; subst hκ; exact rfl
  have main : G E κ 0 0 0 [some vsc, none, none, none] [] (cm 0 0) := by
    refine C_new X cw_L_7 hZ (show SH[0]? = some (4, 0) from rfl) rfl (by decide) (by decide) dL_law_0 ?_
    have hZ := gSz_s 1 hZ
    show G E κ 1 5 _ _ _ _
    refine G_dup X dL_law_3 ?_
    refine C_callI (As := []) X (c_X5_init E) cb_L_9 im_X5_init rfl rfl rfl (Nat.le_of_ble_eq_true rfl) (by decide) (by decide) rfl (by decide) (by decide) hZ (Nat.le_of_ble_eq_true rfl) dL_law_4 ?_
    have hZ := gSz_s 78 hZ
    show G E κ 79 1550 _ _ _ _
    refine G_astore_n X dL_law_7 rfl (Nat.le_of_ble_eq_true rfl) (ls' := [some vsc, some (vr 0), none, none]) rfl ?_
    refine C_new X cw_L_10 hZ (show SH[79]? = some (5, 0) from rfl) (by decide +kernel) (by decide) (by decide) dL_law_8 ?_
    have hZ := gSz_s 1 hZ
    show G E κ 80 1567 _ _ _ _
    refine G_dup X dL_law_11 ?_
    refine C_callI (As := []) X (c_X6_init E) cb_L_12 im_X6_init rfl rfl rfl (Nat.le_of_ble_eq_true rfl) (by decide) (by decide) rfl (by decide) (by decide) hZ (Nat.le_of_ble_eq_true rfl) dL_law_12 ?_
    show G E κ 84 49834 _ _ _ _
    refine G_astore_n X dL_law_15 rfl (Nat.le_of_ble_eq_true rfl) (ls' := [some vsc, some (vr 0), some (vr 79), none]) rfl ?_
    refine G_iconst (v := 0) X dL_law_16 rfl ?_
    refine G_istore_n X dL_law_17 rfl (Nat.le_of_ble_eq_true rfl) (ls' := [some vsc, some (vr 0), some (vr 79), some (vi 0)]) rfl ?_
    have h0 := lawL_ok X hgX hLE k I0 0 hk
    revert h0
    generalize [some vsc, some (vr 0), some (vr 79), some (vi 0)] = ls1
    intro h0
    subst hE; subst hκ
    intro H locs la hl hP hS
    exact h0 H locs la hl (start_world hP) hS
  subst hE; subst hκ
  rw [lg_entry_eq]
  exact main s.heap [] _ (gLk_entry (av := [vsc]) (by decide)) (fun k q h => by simp [gW] at h) va_S.rf
