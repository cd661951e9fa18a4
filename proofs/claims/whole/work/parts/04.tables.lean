/-! the tables' words that stand, and what the tables of the abstract machine say of them -/
def am_G : List Cond := lw_tbl.filter goodWord
theorem am_wi (p : Nat) {w : Cond} (h : lw_tbl[p]? = some w) (hg : goodWord w = true) : w ∈ am_G := List.mem_filter.mpr ⟨List.mem_of_getElem? h, hg⟩
theorem am_G_good : GoodIn am_G am_G := fun w h => ⟨h, good_of_word (List.mem_filter.mp h).2⟩
def am_nm (o : Nat) : String := am_cnm.getD o ""
def am_cw (e : am_E) : Cond := .code e.1 (am_code e) (am_ml e) (am_rt e)
/-- what is asked of every method: st: 1 if it has an object -/
def am_eok (st : Nat) (e : am_E) : Prop := (e.1.cls ≠ "java/lang/invoke/MethodHandle" ∧ e.1.cls ≠ "java/lang/invoke/VarHandle") ∧ plainName e.1.cls = true ∧ (parseMethodDescriptor e.1.desc).map (fun d => d.parameters.length) = some (am_na e - st) ∧ (st ≤ am_na e ∧ am_ml e ≤ 22 ∧ am_na e ≤ am_ml e) ∧ am_nm (am_ow e) = e.1.cls ∧ Cond.initialized e.1.cls ∈ am_G ∧ am_cw e ∈ am_G
def am_eps (e : am_E) : Prop := am_eok 0 e ∧ Cond.static e.1 ∈ am_G
def am_epv (e : am_E) : Prop := am_eok 1 e ∧ Cond.instanceMethod e.1 ∈ am_G ∧ Cond.selects e.1.cls e.1 e.1 ∈ am_G ∧ ∃ (T : u_T) (N : Nat), vwCl[am_ow e]? = some (e.1.cls, T, N)
def am_epi (e : am_E) : Prop := am_eok 1 e ∧ Cond.instanceMethod e.1 ∈ am_G ∧ (∃ (T : u_T) (N : Nat), vwCl[am_ow e]? = some (e.1.cls, T, N)) ∧ e.1.name = "<init>" ∧ am_rt e = none
def am_lok (q : Nat × Nat × Nat × am_E) : Prop := match q.2.2.1 with
  | 0 => Cond.methodLink (am_nm q.1) q.2.1 q.2.2.2.1 ∈ am_G ∧ am_eps q.2.2.2
  | 1 => Cond.methodLink (am_nm q.1) q.2.1 q.2.2.2.1 ∈ am_G ∧ am_epv q.2.2.2
  | 2 => Cond.methodLink (am_nm q.1) q.2.1 q.2.2.2.1 ∈ am_G ∧ am_epi q.2.2.2
  | 3 => (am_nm q.1, q.2.1, q.2.2.2.1, "WordRents") ∈ am_nstM ∧ am_eps q.2.2.2
  | 5 => (am_nm q.1, q.2.1, q.2.2.2.1, "WordRents") ∈ am_nstM ∧ am_epi q.2.2.2
  | 6 => Cond.methodLink (am_nm q.1) q.2.1 Lib.objectInit ∈ am_G ∧ Cond.instanceMethod Lib.objectInit ∈ am_G ∧ Cond.code Lib.objectInit ⟨#[0xb1]⟩ 1 none ∈ am_G
  | 7 => Cond.methodLink (am_nm q.1) q.2.1 arraycopyName ∈ am_G ∧ Cond.native arraycopyName ∈ am_G ∧ Cond.static arraycopyName ∈ am_G ∧ Cond.initialized "java/lang/System" ∈ am_G
  | 8 => Cond.methodLink (am_nm q.1) q.2.1 Lib.Math.max.name ∈ am_G ∧ Cond.static Lib.Math.max.name ∈ am_G ∧ Cond.initialized "java/lang/Math" ∈ am_G ∧ Cond.code Lib.Math.max.name Lib.Math.max.code 2 (some .int) ∈ am_G
  | _ => False
theorem cn_X0 : RX0 ≠ "java/lang/invoke/MethodHandle" ∧ RX0 ≠ "java/lang/invoke/VarHandle" := by decide +kernel
theorem cp_X0 : plainName RX0 = true := by decide +kernel
set_option maxRecDepth 20000 in
theorem ci_X0 : Cond.initialized RX0 ∈ am_G := am_wi 55 rfl rfl
theorem cn_X1 : RX1 ≠ "java/lang/invoke/MethodHandle" ∧ RX1 ≠ "java/lang/invoke/VarHandle" := by decide +kernel
theorem cp_X1 : plainName RX1 = true := by decide +kernel
set_option maxRecDepth 20000 in
theorem ci_X1 : Cond.initialized RX1 ∈ am_G := am_wi 56 rfl rfl
theorem cn_X2 : RX2 ≠ "java/lang/invoke/MethodHandle" ∧ RX2 ≠ "java/lang/invoke/VarHandle" := by decide +kernel
theorem cp_X2 : plainName RX2 = true := by decide +kernel
set_option maxRecDepth 20000 in
theorem ci_X2 : Cond.initialized RX2 ∈ am_G := am_wi 54 rfl rfl
theorem cn_X3 : RX3 ≠ "java/lang/invoke/MethodHandle" ∧ RX3 ≠ "java/lang/invoke/VarHandle" := by decide +kernel
theorem cp_X3 : plainName RX3 = true := by decide +kernel
set_option maxRecDepth 20000 in
theorem ci_X3 : Cond.initialized RX3 ∈ am_G := am_wi 49 rfl rfl
theorem cn_X4 : RX4 ≠ "java/lang/invoke/MethodHandle" ∧ RX4 ≠ "java/lang/invoke/VarHandle" := by decide +kernel
theorem cp_X4 : plainName RX4 = true := by decide +kernel
set_option maxRecDepth 20000 in
theorem ci_X4 : Cond.initialized RX4 ∈ am_G := am_wi 50 rfl rfl
theorem cn_X6 : RX6 ≠ "java/lang/invoke/MethodHandle" ∧ RX6 ≠ "java/lang/invoke/VarHandle" := by decide +kernel
theorem cp_X6 : plainName RX6 = true := by decide +kernel
set_option maxRecDepth 20000 in
theorem ci_X6 : Cond.initialized RX6 ∈ am_G := am_wi 52 rfl rfl
theorem cn_X7 : RX7 ≠ "java/lang/invoke/MethodHandle" ∧ RX7 ≠ "java/lang/invoke/VarHandle" := by decide +kernel
theorem cp_X7 : plainName RX7 = true := by decide +kernel
set_option maxRecDepth 20000 in
theorem ci_X7 : Cond.initialized RX7 ∈ am_G := am_wi 51 rfl rfl
theorem cn_X8 : RX8 ≠ "java/lang/invoke/MethodHandle" ∧ RX8 ≠ "java/lang/invoke/VarHandle" := by decide +kernel
theorem cp_X8 : plainName RX8 = true := by decide +kernel
set_option maxRecDepth 20000 in
theorem ci_X8 : Cond.initialized RX8 ∈ am_G := am_wi 53 rfl rfl
theorem cn_X9 : RX9 ≠ "java/lang/invoke/MethodHandle" ∧ RX9 ≠ "java/lang/invoke/VarHandle" := by decide +kernel
theorem cp_X9 : plainName RX9 = true := by decide +kernel
set_option maxRecDepth 20000 in
theorem ci_X9 : Cond.initialized RX9 ∈ am_G := am_wi 48 rfl rfl
theorem cn_X10 : RX10 ≠ "java/lang/invoke/MethodHandle" ∧ RX10 ≠ "java/lang/invoke/VarHandle" := by decide +kernel
theorem cp_X10 : plainName RX10 = true := by decide +kernel
set_option maxRecDepth 20000 in
theorem ci_X10 : Cond.initialized RX10 ∈ am_G := am_wi 57 rfl rfl
theorem cn_X5 : RX5 ≠ "java/lang/invoke/MethodHandle" ∧ RX5 ≠ "java/lang/invoke/VarHandle" := by decide +kernel
theorem cp_X5 : plainName RX5 = true := by decide +kernel
set_option maxRecDepth 20000 in
theorem ci_X5 : Cond.initialized RX5 ∈ am_G := am_wi 60 rfl rfl
theorem cn_J6 : RJ6 ≠ "java/lang/invoke/MethodHandle" ∧ RJ6 ≠ "java/lang/invoke/VarHandle" := by decide +kernel
theorem cp_J6 : plainName RJ6 = true := by decide +kernel
set_option maxRecDepth 20000 in
theorem ci_J6 : Cond.initialized RJ6 ∈ am_G := am_wi 58 rfl rfl
theorem pd_0 : (parseMethodDescriptor "(I)I").map (fun d => d.parameters.length) = some 1 := by decide +kernel
theorem pd_1 : (parseMethodDescriptor "(LWordRents$Republic;II)V").map (fun d => d.parameters.length) = some 3 := by decide +kernel
theorem pd_2 : (parseMethodDescriptor "()V").map (fun d => d.parameters.length) = some 0 := by decide +kernel
theorem pd_3 : (parseMethodDescriptor "(LWordRents$Republic;)V").map (fun d => d.parameters.length) = some 1 := by decide +kernel
theorem pd_4 : (parseMethodDescriptor "(LWordRents$Republic;III)Z").map (fun d => d.parameters.length) = some 4 := by decide +kernel
theorem pd_5 : (parseMethodDescriptor "(II)J").map (fun d => d.parameters.length) = some 2 := by decide +kernel
theorem pd_6 : (parseMethodDescriptor "(LWordRents$Republic;III)V").map (fun d => d.parameters.length) = some 4 := by decide +kernel
theorem pd_7 : (parseMethodDescriptor "(I)V").map (fun d => d.parameters.length) = some 1 := by decide +kernel
theorem pd_8 : (parseMethodDescriptor "(I)J").map (fun d => d.parameters.length) = some 1 := by decide +kernel
theorem pd_9 : (parseMethodDescriptor "(LWordRents$Pad;LWordRents$Republic;)Z").map (fun d => d.parameters.length) = some 2 := by decide +kernel
theorem pd_10 : (parseMethodDescriptor "()I").map (fun d => d.parameters.length) = some 0 := by decide +kernel
theorem pd_11 : (parseMethodDescriptor "(I)Z").map (fun d => d.parameters.length) = some 1 := by decide +kernel
theorem pd_12 : (parseMethodDescriptor "(LWordRents$Republic;)I").map (fun d => d.parameters.length) = some 1 := by decide +kernel
theorem pd_13 : (parseMethodDescriptor "(II)Z").map (fun d => d.parameters.length) = some 2 := by decide +kernel
theorem pd_14 : (parseMethodDescriptor "(II)I").map (fun d => d.parameters.length) = some 2 := by decide +kernel
theorem pd_15 : (parseMethodDescriptor "(III)V").map (fun d => d.parameters.length) = some 3 := by decide +kernel
theorem pd_16 : (parseMethodDescriptor "(IIIII)V").map (fun d => d.parameters.length) = some 5 := by decide +kernel
theorem pd_17 : (parseMethodDescriptor "(III)I").map (fun d => d.parameters.length) = some 3 := by decide +kernel
theorem pd_18 : (parseMethodDescriptor "()J").map (fun d => d.parameters.length) = some 0 := by decide +kernel
theorem pd_19 : (parseMethodDescriptor "(LWordRents$Republic;LWordRents$Pad;)I").map (fun d => d.parameters.length) = some 2 := by decide +kernel
theorem pd_20 : (parseMethodDescriptor "()Z").map (fun d => d.parameters.length) = some 0 := by decide +kernel
theorem pd_21 : (parseMethodDescriptor "(LWordRents$Republic;LWordRents$Pad;I)V").map (fun d => d.parameters.length) = some 3 := by decide +kernel
theorem pd_22 : (parseMethodDescriptor "(LWordRents$Republic;LWordRents$Pad;II)V").map (fun d => d.parameters.length) = some 4 := by decide +kernel
theorem pd_23 : (parseMethodDescriptor "(LWordRents$Republic;I)V").map (fun d => d.parameters.length) = some 2 := by decide +kernel
theorem pd_24 : (parseMethodDescriptor "(LWordRents$Republic;II)I").map (fun d => d.parameters.length) = some 3 := by decide +kernel
theorem pd_25 : (parseMethodDescriptor "(LWordRents$Republic;I)I").map (fun d => d.parameters.length) = some 2 := by decide +kernel
theorem pd_26 : (parseMethodDescriptor "(LWordRents$Republic;I)Z").map (fun d => d.parameters.length) = some 2 := by decide +kernel
theorem pd_27 : (parseMethodDescriptor "(LWordRents$Republic;)Z").map (fun d => d.parameters.length) = some 1 := by decide +kernel
theorem pd_28 : (parseMethodDescriptor "(III)J").map (fun d => d.parameters.length) = some 3 := by decide +kernel
theorem pd_29 : (parseMethodDescriptor "(III)Z").map (fun d => d.parameters.length) = some 3 := by decide +kernel
theorem pd_30 : (parseMethodDescriptor "(IIIII)I").map (fun d => d.parameters.length) = some 5 := by decide +kernel
theorem pd_31 : (parseMethodDescriptor "(IIZ)I").map (fun d => d.parameters.length) = some 3 := by decide +kernel
theorem pd_32 : (parseMethodDescriptor "(Z)I").map (fun d => d.parameters.length) = some 1 := by decide +kernel
set_option maxRecDepth 20000 in
theorem ep_X0_daysSinceLike : am_epv E_X0_daysSinceLike := ⟨⟨cn_X0, cp_X0, pd_0, ⟨by decide, by decide, by decide⟩, rfl, ci_X0, am_wi 663 rfl rfl⟩, am_wi 662 rfl rfl, am_wi 14 rfl rfl, ⟨_, _, rfl⟩⟩
set_option maxRecDepth 20000 in
theorem ep_X0_drawAct : am_epv E_X0_drawAct := ⟨⟨cn_X0, cp_X0, pd_1, ⟨by decide, by decide, by decide⟩, rfl, ci_X0, am_wi 810 rfl rfl⟩, am_wi 809 rfl rfl, am_wi 19 rfl rfl, ⟨_, _, rfl⟩⟩
set_option maxRecDepth 20000 in
theorem ep_X0_drawDays : am_epv E_X0_drawDays := ⟨⟨cn_X0, cp_X0, pd_1, ⟨by decide, by decide, by decide⟩, rfl, ci_X0, am_wi 805 rfl rfl⟩, am_wi 803 rfl rfl, am_wi 804 rfl rfl, ⟨_, _, rfl⟩⟩
set_option maxRecDepth 20000 in
theorem ep_X0_init : am_epi E_X0_init := ⟨⟨cn_X0, cp_X0, pd_2, ⟨by decide, by decide, by decide⟩, rfl, ci_X0, am_wi 233 rfl rfl⟩, am_wi 232 rfl rfl, ⟨_, _, rfl⟩, rfl, rfl⟩
set_option maxRecDepth 20000 in
theorem ep_X0_watchRents : am_epv E_X0_watchRents := ⟨⟨cn_X0, cp_X0, pd_3, ⟨by decide, by decide, by decide⟩, rfl, ci_X0, am_wi 653 rfl rfl⟩, am_wi 651 rfl rfl, am_wi 652 rfl rfl, ⟨_, _, rfl⟩⟩
set_option maxRecDepth 20000 in
theorem ep_X1_canSay : am_epv E_X1_canSay := ⟨⟨cn_X1, cp_X1, pd_4, ⟨by decide, by decide, by decide⟩, rfl, ci_X1, am_wi 759 rfl rfl⟩, am_wi 758 rfl rfl, am_wi 16 rfl rfl, ⟨_, _, rfl⟩⟩
set_option maxRecDepth 20000 in
theorem ep_X1_init : am_epi E_X1_init := ⟨⟨cn_X1, cp_X1, pd_2, ⟨by decide, by decide, by decide⟩, rfl, ci_X1, am_wi 260 rfl rfl⟩, am_wi 259 rfl rfl, ⟨_, _, rfl⟩, rfl, rfl⟩
set_option maxRecDepth 20000 in
theorem ep_X1_power : am_eps E_X1_power := ⟨⟨cn_X1, cp_X1, pd_5, ⟨by decide, by decide, by decide⟩, rfl, ci_X1, am_wi 753 rfl rfl⟩, am_wi 752 rfl rfl⟩
set_option maxRecDepth 20000 in
theorem ep_X1_reckon : am_epv E_X1_reckon := ⟨⟨cn_X1, cp_X1, pd_6, ⟨by decide, by decide, by decide⟩, rfl, ci_X1, am_wi 746 rfl rfl⟩, am_wi 744 rfl rfl, am_wi 745 rfl rfl, ⟨_, _, rfl⟩⟩
set_option maxRecDepth 20000 in
theorem ep_X1_reduce : am_epv E_X1_reduce := ⟨⟨cn_X1, cp_X1, pd_2, ⟨by decide, by decide, by decide⟩, rfl, ci_X1, am_wi 772 rfl rfl⟩, am_wi 771 rfl rfl, am_wi 18 rfl rfl, ⟨_, _, rfl⟩⟩
set_option maxRecDepth 20000 in
theorem ep_X1_weigh : am_epv E_X1_weigh := ⟨⟨cn_X1, cp_X1, pd_7, ⟨by decide, by decide, by decide⟩, rfl, ci_X1, am_wi 750 rfl rfl⟩, am_wi 749 rfl rfl, am_wi 15 rfl rfl, ⟨_, _, rfl⟩⟩
set_option maxRecDepth 20000 in
theorem ep_X1_weightOf : am_epv E_X1_weightOf := ⟨⟨cn_X1, cp_X1, pd_8, ⟨by decide, by decide, by decide⟩, rfl, ci_X1, am_wi 768 rfl rfl⟩, am_wi 767 rfl rfl, am_wi 17 rfl rfl, ⟨_, _, rfl⟩⟩
set_option maxRecDepth 20000 in
theorem ep_X2_init : am_epi E_X2_init := ⟨⟨cn_X2, cp_X2, pd_2, ⟨by decide, by decide, by decide⟩, rfl, ci_X2, am_wi 218 rfl rfl⟩, am_wi 217 rfl rfl, ⟨_, _, rfl⟩, rfl, rfl⟩
set_option maxRecDepth 20000 in
theorem ep_X2_play : am_epv E_X2_play := ⟨⟨cn_X2, cp_X2, pd_9, ⟨by decide, by decide, by decide⟩, rfl, ci_X2, am_wi 587 rfl rfl⟩, am_wi 585 rfl rfl, am_wi 586 rfl rfl, ⟨_, _, rfl⟩⟩
set_option maxRecDepth 20000 in
theorem ep_X2_playAct : am_epv E_X2_playAct := ⟨⟨cn_X2, cp_X2, pd_4, ⟨by decide, by decide, by decide⟩, rfl, ci_X2, am_wi 610 rfl rfl⟩, am_wi 609 rfl rfl, am_wi 13 rfl rfl, ⟨_, _, rfl⟩⟩
set_option maxRecDepth 20000 in
theorem ep_X3_clear : am_epv E_X3_clear := ⟨⟨cn_X3, cp_X3, pd_2, ⟨by decide, by decide, by decide⟩, rfl, ci_X3, am_wi 387 rfl rfl⟩, am_wi 385 rfl rfl, am_wi 386 rfl rfl, ⟨_, _, rfl⟩⟩
set_option maxRecDepth 20000 in
theorem ep_X3_init : am_epi E_X3_init := ⟨⟨cn_X3, cp_X3, pd_2, ⟨by decide, by decide, by decide⟩, rfl, ci_X3, am_wi 74 rfl rfl⟩, am_wi 73 rfl rfl, ⟨_, _, rfl⟩, rfl, rfl⟩
set_option maxRecDepth 20000 in
theorem ep_X3_leasesFault : am_epv E_X3_leasesFault := ⟨⟨cn_X3, cp_X3, pd_10, ⟨by decide, by decide, by decide⟩, rfl, ci_X3, am_wi 414 rfl rfl⟩, am_wi 412 rfl rfl, am_wi 413 rfl rfl, ⟨_, _, rfl⟩⟩
set_option maxRecDepth 20000 in
theorem ep_X3_put : am_epv E_X3_put := ⟨⟨cn_X3, cp_X3, pd_11, ⟨by decide, by decide, by decide⟩, rfl, ci_X3, am_wi 375 rfl rfl⟩, am_wi 373 rfl rfl, am_wi 374 rfl rfl, ⟨_, _, rfl⟩⟩
set_option maxRecDepth 20000 in
theorem ep_X3_sentenceFault : am_epv E_X3_sentenceFault := ⟨⟨cn_X3, cp_X3, pd_12, ⟨by decide, by decide, by decide⟩, rfl, ci_X3, am_wi 395 rfl rfl⟩, am_wi 393 rfl rfl, am_wi 394 rfl rfl, ⟨_, _, rfl⟩⟩
set_option maxRecDepth 20000 in
theorem ep_X3_signAt : am_epv E_X3_signAt := ⟨⟨cn_X3, cp_X3, pd_0, ⟨by decide, by decide, by decide⟩, rfl, ci_X3, am_wi 403 rfl rfl⟩, am_wi 401 rfl rfl, am_wi 402 rfl rfl, ⟨_, _, rfl⟩⟩
set_option maxRecDepth 20000 in
theorem ep_X3_size : am_epv E_X3_size := ⟨⟨cn_X3, cp_X3, pd_10, ⟨by decide, by decide, by decide⟩, rfl, ci_X3, am_wi 379 rfl rfl⟩, am_wi 377 rfl rfl, am_wi 378 rfl rfl, ⟨_, _, rfl⟩⟩
set_option maxRecDepth 20000 in
theorem ep_X3_standsInLeases : am_eps E_X3_standsInLeases := ⟨⟨cn_X3, cp_X3, pd_13, ⟨by decide, by decide, by decide⟩, rfl, ci_X3, am_wi 417 rfl rfl⟩, am_wi 416 rfl rfl⟩
set_option maxRecDepth 20000 in
theorem ep_X3_wordAt : am_epv E_X3_wordAt := ⟨⟨cn_X3, cp_X3, pd_0, ⟨by decide, by decide, by decide⟩, rfl, ci_X3, am_wi 399 rfl rfl⟩, am_wi 397 rfl rfl, am_wi 398 rfl rfl, ⟨_, _, rfl⟩⟩
set_option maxRecDepth 20000 in
theorem ep_X3_words : am_epv E_X3_words := ⟨⟨cn_X3, cp_X3, pd_10, ⟨by decide, by decide, by decide⟩, rfl, ci_X3, am_wi 436 rfl rfl⟩, am_wi 434 rfl rfl, am_wi 435 rfl rfl, ⟨_, _, rfl⟩⟩
set_option maxRecDepth 20000 in
theorem ep_X3_wordsBut : am_epv E_X3_wordsBut := ⟨⟨cn_X3, cp_X3, pd_14, ⟨by decide, by decide, by decide⟩, rfl, ci_X3, am_wi 440 rfl rfl⟩, am_wi 438 rfl rfl, am_wi 439 rfl rfl, ⟨_, _, rfl⟩⟩
set_option maxRecDepth 20000 in
theorem ep_X4_act : am_epv E_X4_act := ⟨⟨cn_X4, cp_X4, pd_15, ⟨by decide, by decide, by decide⟩, rfl, ci_X4, am_wi 618 rfl rfl⟩, am_wi 616 rfl rfl, am_wi 617 rfl rfl, ⟨_, _, rfl⟩⟩
set_option maxRecDepth 20000 in
theorem ep_X4_addSight : am_epv E_X4_addSight := ⟨⟨cn_X4, cp_X4, pd_13, ⟨by decide, by decide, by decide⟩, rfl, ci_X4, am_wi 708 rfl rfl⟩, am_wi 706 rfl rfl, am_wi 707 rfl rfl, ⟨_, _, rfl⟩⟩
set_option maxRecDepth 20000 in
theorem ep_X4_allRents : am_epv E_X4_allRents := ⟨⟨cn_X4, cp_X4, pd_10, ⟨by decide, by decide, by decide⟩, rfl, ci_X4, am_wi 817 rfl rfl⟩, am_wi 815 rfl rfl, am_wi 816 rfl rfl, ⟨_, _, rfl⟩⟩
set_option maxRecDepth 20000 in
theorem ep_X4_areRivals : am_epv E_X4_areRivals := ⟨⟨cn_X4, cp_X4, pd_13, ⟨by decide, by decide, by decide⟩, rfl, ci_X4, am_wi 780 rfl rfl⟩, am_wi 778 rfl rfl, am_wi 779 rfl rfl, ⟨_, _, rfl⟩⟩
set_option maxRecDepth 20000 in
theorem ep_X4_between : am_epv E_X4_between := ⟨⟨cn_X4, cp_X4, pd_14, ⟨by decide, by decide, by decide⟩, rfl, ci_X4, am_wi 358 rfl rfl⟩, am_wi 356 rfl rfl, am_wi 357 rfl rfl, ⟨_, _, rfl⟩⟩
set_option maxRecDepth 20000 in
theorem ep_X4_betweenWords : am_epv E_X4_betweenWords := ⟨⟨cn_X4, cp_X4, pd_14, ⟨by decide, by decide, by decide⟩, rfl, ci_X4, am_wi 515 rfl rfl⟩, am_wi 513 rfl rfl, am_wi 514 rfl rfl, ⟨_, _, rfl⟩⟩
set_option maxRecDepth 20000 in
theorem ep_X4_copy : am_epv E_X4_copy := ⟨⟨cn_X4, cp_X4, pd_3, ⟨by decide, by decide, by decide⟩, rfl, ci_X4, am_wi 580 rfl rfl⟩, am_wi 578 rfl rfl, am_wi 579 rfl rfl, ⟨_, _, rfl⟩⟩
set_option maxRecDepth 20000 in
theorem ep_X4_costing : am_epv E_X4_costing := ⟨⟨cn_X4, cp_X4, pd_14, ⟨by decide, by decide, by decide⟩, rfl, ci_X4, am_wi 444 rfl rfl⟩, am_wi 442 rfl rfl, am_wi 443 rfl rfl, ⟨_, _, rfl⟩⟩
set_option maxRecDepth 20000 in
theorem ep_X4_driftWords : am_epv E_X4_driftWords := ⟨⟨cn_X4, cp_X4, pd_2, ⟨by decide, by decide, by decide⟩, rfl, ci_X4, am_wi 605 rfl rfl⟩, am_wi 604 rfl rfl, am_wi 12 rfl rfl, ⟨_, _, rfl⟩⟩
set_option maxRecDepth 20000 in
theorem ep_X4_drop : am_epv E_X4_drop := ⟨⟨cn_X4, cp_X4, pd_7, ⟨by decide, by decide, by decide⟩, rfl, ci_X4, am_wi 349 rfl rfl⟩, am_wi 347 rfl rfl, am_wi 348 rfl rfl, ⟨_, _, rfl⟩⟩
set_option maxRecDepth 20000 in
theorem ep_X4_enlist : am_epv E_X4_enlist := ⟨⟨cn_X4, cp_X4, pd_11, ⟨by decide, by decide, by decide⟩, rfl, ci_X4, am_wi 675 rfl rfl⟩, am_wi 673 rfl rfl, am_wi 674 rfl rfl, ⟨_, _, rfl⟩⟩
set_option maxRecDepth 20000 in
theorem ep_X4_firmSeen : am_epv E_X4_firmSeen := ⟨⟨cn_X4, cp_X4, pd_0, ⟨by decide, by decide, by decide⟩, rfl, ci_X4, am_wi 720 rfl rfl⟩, am_wi 718 rfl rfl, am_wi 719 rfl rfl, ⟨_, _, rfl⟩⟩
set_option maxRecDepth 20000 in
theorem ep_X4_firstOfSort : am_epv E_X4_firstOfSort := ⟨⟨cn_X4, cp_X4, pd_14, ⟨by decide, by decide, by decide⟩, rfl, ci_X4, am_wi 496 rfl rfl⟩, am_wi 494 rfl rfl, am_wi 495 rfl rfl, ⟨_, _, rfl⟩⟩
set_option maxRecDepth 20000 in
theorem ep_X4_has : am_epv E_X4_has := ⟨⟨cn_X4, cp_X4, pd_11, ⟨by decide, by decide, by decide⟩, rfl, ci_X4, am_wi 345 rfl rfl⟩, am_wi 343 rfl rfl, am_wi 344 rfl rfl, ⟨_, _, rfl⟩⟩
set_option maxRecDepth 20000 in
theorem ep_X4_holderOf : am_epv E_X4_holderOf := ⟨⟨cn_X4, cp_X4, pd_0, ⟨by decide, by decide, by decide⟩, rfl, ci_X4, am_wi 465 rfl rfl⟩, am_wi 463 rfl rfl, am_wi 464 rfl rfl, ⟨_, _, rfl⟩⟩
set_option maxRecDepth 20000 in
theorem ep_X4_init : am_epi E_X4_init := ⟨⟨cn_X4, cp_X4, pd_2, ⟨by decide, by decide, by decide⟩, rfl, ci_X4, am_wi 88 rfl rfl⟩, am_wi 87 rfl rfl, ⟨_, _, rfl⟩, rfl, rfl⟩
set_option maxRecDepth 20000 in
theorem ep_X4_isOfSort : am_epv E_X4_isOfSort := ⟨⟨cn_X4, cp_X4, pd_13, ⟨by decide, by decide, by decide⟩, rfl, ci_X4, am_wi 410 rfl rfl⟩, am_wi 408 rfl rfl, am_wi 409 rfl rfl, ⟨_, _, rfl⟩⟩
set_option maxRecDepth 20000 in
theorem ep_X4_isUndercut : am_epv E_X4_isUndercut := ⟨⟨cn_X4, cp_X4, pd_11, ⟨by decide, by decide, by decide⟩, rfl, ci_X4, am_wi 601 rfl rfl⟩, am_wi 600 rfl rfl, am_wi 11 rfl rfl, ⟨_, _, rfl⟩⟩
set_option maxRecDepth 20000 in
theorem ep_X4_listAllows : am_epv E_X4_listAllows := ⟨⟨cn_X4, cp_X4, pd_11, ⟨by decide, by decide, by decide⟩, rfl, ci_X4, am_wi 763 rfl rfl⟩, am_wi 761 rfl rfl, am_wi 762 rfl rfl, ⟨_, _, rfl⟩⟩
set_option maxRecDepth 20000 in
theorem ep_X4_meaningOf : am_epv E_X4_meaningOf := ⟨⟨cn_X4, cp_X4, pd_0, ⟨by decide, by decide, by decide⟩, rfl, ci_X4, am_wi 636 rfl rfl⟩, am_wi 634 rfl rfl, am_wi 635 rfl rfl, ⟨_, _, rfl⟩⟩
set_option maxRecDepth 20000 in
theorem ep_X4_meetsList : am_epv E_X4_meetsList := ⟨⟨cn_X4, cp_X4, pd_11, ⟨by decide, by decide, by decide⟩, rfl, ci_X4, am_wi 683 rfl rfl⟩, am_wi 681 rfl rfl, am_wi 682 rfl rfl, ⟨_, _, rfl⟩⟩
set_option maxRecDepth 20000 in
theorem ep_X4_moveRents : am_epv E_X4_moveRents := ⟨⟨cn_X4, cp_X4, pd_2, ⟨by decide, by decide, by decide⟩, rfl, ci_X4, am_wi 597 rfl rfl⟩, am_wi 595 rfl rfl, am_wi 596 rfl rfl, ⟨_, _, rfl⟩⟩
set_option maxRecDepth 20000 in
theorem ep_X4_part : am_epv E_X4_part := ⟨⟨cn_X4, cp_X4, pd_15, ⟨by decide, by decide, by decide⟩, rfl, ci_X4, am_wi 362 rfl rfl⟩, am_wi 360 rfl rfl, am_wi 361 rfl rfl, ⟨_, _, rfl⟩⟩
set_option maxRecDepth 20000 in
theorem ep_X4_passDay : am_epv E_X4_passDay := ⟨⟨cn_X4, cp_X4, pd_2, ⟨by decide, by decide, by decide⟩, rfl, ci_X4, am_wi 593 rfl rfl⟩, am_wi 591 rfl rfl, am_wi 592 rfl rfl, ⟨_, _, rfl⟩⟩
set_option maxRecDepth 20000 in
theorem ep_X4_property : am_epv E_X4_property := ⟨⟨cn_X4, cp_X4, pd_14, ⟨by decide, by decide, by decide⟩, rfl, ci_X4, am_wi 630 rfl rfl⟩, am_wi 628 rfl rfl, am_wi 629 rfl rfl, ⟨_, _, rfl⟩⟩
set_option maxRecDepth 20000 in
theorem ep_X4_put : am_epv E_X4_put := ⟨⟨cn_X4, cp_X4, pd_16, ⟨by decide, by decide, by decide⟩, rfl, ci_X4, am_wi 327 rfl rfl⟩, am_wi 325 rfl rfl, am_wi 326 rfl rfl, ⟨_, _, rfl⟩⟩
set_option maxRecDepth 20000 in
theorem ep_X4_reasonAgainst : am_epv E_X4_reasonAgainst := ⟨⟨cn_X4, cp_X4, pd_17, ⟨by decide, by decide, by decide⟩, rfl, ci_X4, am_wi 614 rfl rfl⟩, am_wi 612 rfl rfl, am_wi 613 rfl rfl, ⟨_, _, rfl⟩⟩
set_option maxRecDepth 20000 in
theorem ep_X4_rentOf : am_epv E_X4_rentOf := ⟨⟨cn_X4, cp_X4, pd_0, ⟨by decide, by decide, by decide⟩, rfl, ci_X4, am_wi 461 rfl rfl⟩, am_wi 459 rfl rfl, am_wi 460 rfl rfl, ⟨_, _, rfl⟩⟩
set_option maxRecDepth 20000 in
theorem ep_X4_rentsAsOne : am_epv E_X4_rentsAsOne := ⟨⟨cn_X4, cp_X4, pd_18, ⟨by decide, by decide, by decide⟩, rfl, ci_X4, am_wi 657 rfl rfl⟩, am_wi 655 rfl rfl, am_wi 656 rfl rfl, ⟨_, _, rfl⟩⟩
set_option maxRecDepth 20000 in
theorem ep_X4_rhymeOf : am_epv E_X4_rhymeOf := ⟨⟨cn_X4, cp_X4, pd_0, ⟨by decide, by decide, by decide⟩, rfl, ci_X4, am_wi 456 rfl rfl⟩, am_wi 454 rfl rfl, am_wi 455 rfl rfl, ⟨_, _, rfl⟩⟩
set_option maxRecDepth 20000 in
theorem ep_X4_sentencesWithout : am_epv E_X4_sentencesWithout := ⟨⟨cn_X4, cp_X4, pd_0, ⟨by decide, by decide, by decide⟩, rfl, ci_X4, am_wi 691 rfl rfl⟩, am_wi 689 rfl rfl, am_wi 690 rfl rfl, ⟨_, _, rfl⟩⟩
set_option maxRecDepth 20000 in
theorem ep_X4_sightsAllow : am_epv E_X4_sightsAllow := ⟨⟨cn_X4, cp_X4, pd_13, ⟨by decide, by decide, by decide⟩, rfl, ci_X4, am_wi 736 rfl rfl⟩, am_wi 734 rfl rfl, am_wi 735 rfl rfl, ⟨_, _, rfl⟩⟩
set_option maxRecDepth 20000 in
theorem ep_X4_sortOf : am_epv E_X4_sortOf := ⟨⟨cn_X4, cp_X4, pd_0, ⟨by decide, by decide, by decide⟩, rfl, ci_X4, am_wi 784 rfl rfl⟩, am_wi 782 rfl rfl, am_wi 783 rfl rfl, ⟨_, _, rfl⟩⟩
set_option maxRecDepth 20000 in
theorem ep_X4_words : am_epv E_X4_words := ⟨⟨cn_X4, cp_X4, pd_10, ⟨by decide, by decide, by decide⟩, rfl, ci_X4, am_wi 331 rfl rfl⟩, am_wi 329 rfl rfl, am_wi 330 rfl rfl, ⟨_, _, rfl⟩⟩
set_option maxRecDepth 20000 in
theorem ep_X4_wordsOfSort : am_epv E_X4_wordsOfSort := ⟨⟨cn_X4, cp_X4, pd_0, ⟨by decide, by decide, by decide⟩, rfl, ci_X4, am_wi 695 rfl rfl⟩, am_wi 693 rfl rfl, am_wi 694 rfl rfl, ⟨_, _, rfl⟩⟩
set_option maxRecDepth 20000 in
theorem ep_X4_wordsSeen : am_epv E_X4_wordsSeen := ⟨⟨cn_X4, cp_X4, pd_0, ⟨by decide, by decide, by decide⟩, rfl, ci_X4, am_wi 724 rfl rfl⟩, am_wi 722 rfl rfl, am_wi 723 rfl rfl, ⟨_, _, rfl⟩⟩
set_option maxRecDepth 20000 in
theorem ep_X6_affordable : am_epv E_X6_affordable := ⟨⟨cn_X6, cp_X6, pd_1, ⟨by decide, by decide, by decide⟩, rfl, ci_X6, am_wi 545 rfl rfl⟩, am_wi 543 rfl rfl, am_wi 544 rfl rfl, ⟨_, _, rfl⟩⟩
set_option maxRecDepth 20000 in
theorem ep_X6_clear : am_epv E_X6_clear := ⟨⟨cn_X6, cp_X6, pd_2, ⟨by decide, by decide, by decide⟩, rfl, ci_X6, am_wi 485 rfl rfl⟩, am_wi 484 rfl rfl, am_wi 3 rfl rfl, ⟨_, _, rfl⟩⟩
set_option maxRecDepth 20000 in
theorem ep_X6_countAffordable : am_epv E_X6_countAffordable := ⟨⟨cn_X6, cp_X6, pd_6, ⟨by decide, by decide, by decide⟩, rfl, ci_X6, am_wi 549 rfl rfl⟩, am_wi 548 rfl rfl, am_wi 7 rfl rfl, ⟨_, _, rfl⟩⟩
set_option maxRecDepth 20000 in
theorem ep_X6_countThis : am_epv E_X6_countThis := ⟨⟨cn_X6, cp_X6, pd_2, ⟨by decide, by decide, by decide⟩, rfl, ci_X6, am_wi 553 rfl rfl⟩, am_wi 552 rfl rfl, am_wi 8 rfl rfl, ⟨_, _, rfl⟩⟩
set_option maxRecDepth 20000 in
theorem ep_X6_distanceFrom : am_epv E_X6_distanceFrom := ⟨⟨cn_X6, cp_X6, pd_19, ⟨by decide, by decide, by decide⟩, rfl, ci_X6, am_wi 502 rfl rfl⟩, am_wi 501 rfl rfl, am_wi 4 rfl rfl, ⟨_, _, rfl⟩⟩
set_option maxRecDepth 20000 in
theorem ep_X6_init : am_epi E_X6_init := ⟨⟨cn_X6, cp_X6, pd_2, ⟨by decide, by decide, by decide⟩, rfl, ci_X6, am_wi 160 rfl rfl⟩, am_wi 159 rfl rfl, ⟨_, _, rfl⟩, rfl, rfl⟩
set_option maxRecDepth 20000 in
theorem ep_X6_isFound : am_epv E_X6_isFound := ⟨⟨cn_X6, cp_X6, pd_20, ⟨by decide, by decide, by decide⟩, rfl, ci_X6, am_wi 525 rfl rfl⟩, am_wi 524 rfl rfl, am_wi 5 rfl rfl, ⟨_, _, rfl⟩⟩
set_option maxRecDepth 20000 in
theorem ep_X6_keepWords : am_epv E_X6_keepWords := ⟨⟨cn_X6, cp_X6, pd_2, ⟨by decide, by decide, by decide⟩, rfl, ci_X6, am_wi 529 rfl rfl⟩, am_wi 528 rfl rfl, am_wi 6 rfl rfl, ⟨_, _, rfl⟩⟩
set_option maxRecDepth 20000 in
theorem ep_X6_misprinted : am_epv E_X6_misprinted := ⟨⟨cn_X6, cp_X6, pd_21, ⟨by decide, by decide, by decide⟩, rfl, ci_X6, am_wi 561 rfl rfl⟩, am_wi 559 rfl rfl, am_wi 560 rfl rfl, ⟨_, _, rfl⟩⟩
set_option maxRecDepth 20000 in
theorem ep_X6_nearest : am_epv E_X6_nearest := ⟨⟨cn_X6, cp_X6, pd_22, ⟨by decide, by decide, by decide⟩, rfl, ci_X6, am_wi 481 rfl rfl⟩, am_wi 479 rfl rfl, am_wi 480 rfl rfl, ⟨_, _, rfl⟩⟩
set_option maxRecDepth 20000 in
theorem ep_X6_spoken : am_epv E_X6_spoken := ⟨⟨cn_X6, cp_X6, pd_1, ⟨by decide, by decide, by decide⟩, rfl, ci_X6, am_wi 728 rfl rfl⟩, am_wi 726 rfl rfl, am_wi 727 rfl rfl, ⟨_, _, rfl⟩⟩
set_option maxRecDepth 20000 in
theorem ep_X6_weighMisprint : am_epv E_X6_weighMisprint := ⟨⟨cn_X6, cp_X6, pd_15, ⟨by decide, by decide, by decide⟩, rfl, ci_X6, am_wi 568 rfl rfl⟩, am_wi 567 rfl rfl, am_wi 9 rfl rfl, ⟨_, _, rfl⟩⟩
set_option maxRecDepth 20000 in
theorem ep_X6_wordAt : am_epv E_X6_wordAt := ⟨⟨cn_X6, cp_X6, pd_0, ⟨by decide, by decide, by decide⟩, rfl, ci_X6, am_wi 537 rfl rfl⟩, am_wi 535 rfl rfl, am_wi 536 rfl rfl, ⟨_, _, rfl⟩⟩
set_option maxRecDepth 20000 in
theorem ep_X7_findDearest : am_epv E_X7_findDearest := ⟨⟨cn_X7, cp_X7, pd_23, ⟨by decide, by decide, by decide⟩, rfl, ci_X7, am_wi 452 rfl rfl⟩, am_wi 451 rfl rfl, am_wi 1 rfl rfl, ⟨_, _, rfl⟩⟩
set_option maxRecDepth 20000 in
theorem ep_X7_init : am_epi E_X7_init := ⟨⟨cn_X7, cp_X7, pd_2, ⟨by decide, by decide, by decide⟩, rfl, ci_X7, am_wi 149 rfl rfl⟩, am_wi 148 rfl rfl, ⟨_, _, rfl⟩, rfl, rfl⟩
set_option maxRecDepth 20000 in
theorem ep_X7_paid : am_epv E_X7_paid := ⟨⟨cn_X7, cp_X7, pd_24, ⟨by decide, by decide, by decide⟩, rfl, ci_X7, am_wi 448 rfl rfl⟩, am_wi 446 rfl rfl, am_wi 447 rfl rfl, ⟨_, _, rfl⟩⟩
set_option maxRecDepth 20000 in
theorem ep_X7_paidFor : am_epv E_X7_paidFor := ⟨⟨cn_X7, cp_X7, pd_25, ⟨by decide, by decide, by decide⟩, rfl, ci_X7, am_wi 469 rfl rfl⟩, am_wi 468 rfl rfl, am_wi 2 rfl rfl, ⟨_, _, rfl⟩⟩
set_option maxRecDepth 20000 in
theorem ep_X8_init : am_epi E_X8_init := ⟨⟨cn_X8, cp_X8, pd_2, ⟨by decide, by decide, by decide⟩, rfl, ci_X8, am_wi 166 rfl rfl⟩, am_wi 165 rfl rfl, ⟨_, _, rfl⟩, rfl, rfl⟩
set_option maxRecDepth 20000 in
theorem ep_X8_length : am_epv E_X8_length := ⟨⟨cn_X8, cp_X8, pd_10, ⟨by decide, by decide, by decide⟩, rfl, ci_X8, am_wi 506 rfl rfl⟩, am_wi 504 rfl rfl, am_wi 505 rfl rfl, ⟨_, _, rfl⟩⟩
set_option maxRecDepth 20000 in
theorem ep_X8_start : am_epv E_X8_start := ⟨⟨cn_X8, cp_X8, pd_26, ⟨by decide, by decide, by decide⟩, rfl, ci_X8, am_wi 491 rfl rfl⟩, am_wi 489 rfl rfl, am_wi 490 rfl rfl, ⟨_, _, rfl⟩⟩
set_option maxRecDepth 20000 in
theorem ep_X8_step : am_epv E_X8_step := ⟨⟨cn_X8, cp_X8, pd_27, ⟨by decide, by decide, by decide⟩, rfl, ci_X8, am_wi 533 rfl rfl⟩, am_wi 531 rfl rfl, am_wi 532 rfl rfl, ⟨_, _, rfl⟩⟩
set_option maxRecDepth 20000 in
theorem ep_X8_wordAt : am_epv E_X8_wordAt := ⟨⟨cn_X8, cp_X8, pd_0, ⟨by decide, by decide, by decide⟩, rfl, ci_X8, am_wi 511 rfl rfl⟩, am_wi 509 rfl rfl, am_wi 510 rfl rfl, ⟨_, _, rfl⟩⟩
set_option maxRecDepth 20000 in
theorem ep_X8_words : am_epv E_X8_words := ⟨⟨cn_X8, cp_X8, pd_10, ⟨by decide, by decide, by decide⟩, rfl, ci_X8, am_wi 520 rfl rfl⟩, am_wi 518 rfl rfl, am_wi 519 rfl rfl, ⟨_, _, rfl⟩⟩
set_option maxRecDepth 20000 in
theorem ep_X9_after : am_epv E_X9_after := ⟨⟨cn_X9, cp_X9, pd_17, ⟨by decide, by decide, by decide⟩, rfl, ci_X9, am_wi 644 rfl rfl⟩, am_wi 642 rfl rfl, am_wi 643 rfl rfl, ⟨_, _, rfl⟩⟩
set_option maxRecDepth 20000 in
theorem ep_X9_behind : am_epv E_X9_behind := ⟨⟨cn_X9, cp_X9, pd_14, ⟨by decide, by decide, by decide⟩, rfl, ci_X9, am_wi 640 rfl rfl⟩, am_wi 638 rfl rfl, am_wi 639 rfl rfl, ⟨_, _, rfl⟩⟩
set_option maxRecDepth 20000 in
theorem ep_X9_done : am_epv E_X9_done := ⟨⟨cn_X9, cp_X9, pd_10, ⟨by decide, by decide, by decide⟩, rfl, ci_X9, am_wi 622 rfl rfl⟩, am_wi 620 rfl rfl, am_wi 621 rfl rfl, ⟨_, _, rfl⟩⟩
set_option maxRecDepth 20000 in
theorem ep_X9_far : am_epv E_X9_far := ⟨⟨cn_X9, cp_X9, pd_17, ⟨by decide, by decide, by decide⟩, rfl, ci_X9, am_wi 354 rfl rfl⟩, am_wi 352 rfl rfl, am_wi 353 rfl rfl, ⟨_, _, rfl⟩⟩
set_option maxRecDepth 20000 in
theorem ep_X9_fault : am_epv E_X9_fault := ⟨⟨cn_X9, cp_X9, pd_0, ⟨by decide, by decide, by decide⟩, rfl, ci_X9, am_wi 391 rfl rfl⟩, am_wi 389 rfl rfl, am_wi 390 rfl rfl, ⟨_, _, rfl⟩⟩
set_option maxRecDepth 20000 in
theorem ep_X9_forget : am_epv E_X9_forget := ⟨⟨cn_X9, cp_X9, pd_0, ⟨by decide, by decide, by decide⟩, rfl, ci_X9, am_wi 712 rfl rfl⟩, am_wi 710 rfl rfl, am_wi 711 rfl rfl, ⟨_, _, rfl⟩⟩
set_option maxRecDepth 20000 in
theorem ep_X9_gets : am_epv E_X9_gets := ⟨⟨cn_X9, cp_X9, pd_14, ⟨by decide, by decide, by decide⟩, rfl, ci_X9, am_wi 473 rfl rfl⟩, am_wi 471 rfl rfl, am_wi 472 rfl rfl, ⟨_, _, rfl⟩⟩
set_option maxRecDepth 20000 in
theorem ep_X9_held : am_epv E_X9_held := ⟨⟨cn_X9, cp_X9, pd_0, ⟨by decide, by decide, by decide⟩, rfl, ci_X9, am_wi 679 rfl rfl⟩, am_wi 677 rfl rfl, am_wi 678 rfl rfl, ⟨_, _, rfl⟩⟩
set_option maxRecDepth 20000 in
theorem ep_X9_holdsSentence : am_epv E_X9_holdsSentence := ⟨⟨cn_X9, cp_X9, pd_20, ⟨by decide, by decide, by decide⟩, rfl, ci_X9, am_wi 432 rfl rfl⟩, am_wi 431 rfl rfl, am_wi 0 rfl rfl, ⟨_, _, rfl⟩⟩
set_option maxRecDepth 20000 in
theorem ep_X9_image : am_epv E_X9_image := ⟨⟨cn_X9, cp_X9, pd_0, ⟨by decide, by decide, by decide⟩, rfl, ci_X9, am_wi 821 rfl rfl⟩, am_wi 819 rfl rfl, am_wi 820 rfl rfl, ⟨_, _, rfl⟩⟩
set_option maxRecDepth 20000 in
theorem ep_X9_init : am_epi E_X9_init := ⟨⟨cn_X9, cp_X9, pd_2, ⟨by decide, by decide, by decide⟩, rfl, ci_X9, am_wi 66 rfl rfl⟩, am_wi 65 rfl rfl, ⟨_, _, rfl⟩, rfl, rfl⟩
set_option maxRecDepth 20000 in
theorem ep_X9_isFirm : am_eps E_X9_isFirm := ⟨⟨cn_X9, cp_X9, pd_11, ⟨by decide, by decide, by decide⟩, rfl, ci_X9, am_wi 428 rfl rfl⟩, am_wi 427 rfl rfl⟩
set_option maxRecDepth 20000 in
theorem ep_X9_isMeaning : am_eps E_X9_isMeaning := ⟨⟨cn_X9, cp_X9, pd_11, ⟨by decide, by decide, by decide⟩, rfl, ci_X9, am_wi 320 rfl rfl⟩, am_wi 319 rfl rfl⟩
set_option maxRecDepth 20000 in
theorem ep_X9_isRhyme : am_eps E_X9_isRhyme := ⟨⟨cn_X9, cp_X9, pd_11, ⟨by decide, by decide, by decide⟩, rfl, ci_X9, am_wi 323 rfl rfl⟩, am_wi 322 rfl rfl⟩
set_option maxRecDepth 20000 in
theorem ep_X9_isSpeaker : am_eps E_X9_isSpeaker := ⟨⟨cn_X9, cp_X9, pd_11, ⟨by decide, by decide, by decide⟩, rfl, ci_X9, am_wi 425 rfl rfl⟩, am_wi 424 rfl rfl⟩
set_option maxRecDepth 20000 in
theorem ep_X9_judge : am_epv E_X9_judge := ⟨⟨cn_X9, cp_X9, pd_0, ⟨by decide, by decide, by decide⟩, rfl, ci_X9, am_wi 572 rfl rfl⟩, am_wi 570 rfl rfl, am_wi 571 rfl rfl, ⟨_, _, rfl⟩⟩
set_option maxRecDepth 20000 in
theorem ep_X9_leasesCanBe : am_epv E_X9_leasesCanBe := ⟨⟨cn_X9, cp_X9, pd_20, ⟨by decide, by decide, by decide⟩, rfl, ci_X9, am_wi 576 rfl rfl⟩, am_wi 575 rfl rfl, am_wi 10 rfl rfl, ⟨_, _, rfl⟩⟩
set_option maxRecDepth 20000 in
theorem ep_X9_let : am_epv E_X9_let := ⟨⟨cn_X9, cp_X9, pd_28, ⟨by decide, by decide, by decide⟩, rfl, ci_X9, am_wi 740 rfl rfl⟩, am_wi 738 rfl rfl, am_wi 739 rfl rfl, ⟨_, _, rfl⟩⟩
set_option maxRecDepth 20000 in
theorem ep_X9_list : am_epv E_X9_list := ⟨⟨cn_X9, cp_X9, pd_10, ⟨by decide, by decide, by decide⟩, rfl, ci_X9, am_wi 671 rfl rfl⟩, am_wi 669 rfl rfl, am_wi 670 rfl rfl, ⟨_, _, rfl⟩⟩
set_option maxRecDepth 20000 in
theorem ep_X9_misprints : am_epv E_X9_misprints := ⟨⟨cn_X9, cp_X9, pd_14, ⟨by decide, by decide, by decide⟩, rfl, ci_X9, am_wi 557 rfl rfl⟩, am_wi 555 rfl rfl, am_wi 556 rfl rfl, ⟨_, _, rfl⟩⟩
set_option maxRecDepth 20000 in
theorem ep_X9_nearly : am_epv E_X9_nearly := ⟨⟨cn_X9, cp_X9, pd_17, ⟨by decide, by decide, by decide⟩, rfl, ci_X9, am_wi 477 rfl rfl⟩, am_wi 475 rfl rfl, am_wi 476 rfl rfl, ⟨_, _, rfl⟩⟩
set_option maxRecDepth 20000 in
theorem ep_X9_price : am_epv E_X9_price := ⟨⟨cn_X9, cp_X9, pd_0, ⟨by decide, by decide, by decide⟩, rfl, ci_X9, am_wi 422 rfl rfl⟩, am_wi 420 rfl rfl, am_wi 421 rfl rfl, ⟨_, _, rfl⟩⟩
set_option maxRecDepth 20000 in
theorem ep_X9_restore : am_epv E_X9_restore := ⟨⟨cn_X9, cp_X9, pd_0, ⟨by decide, by decide, by decide⟩, rfl, ci_X9, am_wi 825 rfl rfl⟩, am_wi 823 rfl rfl, am_wi 824 rfl rfl, ⟨_, _, rfl⟩⟩
set_option maxRecDepth 20000 in
theorem ep_X9_rests : am_epv E_X9_rests := ⟨⟨cn_X9, cp_X9, pd_17, ⟨by decide, by decide, by decide⟩, rfl, ci_X9, am_wi 776 rfl rfl⟩, am_wi 774 rfl rfl, am_wi 775 rfl rfl, ⟨_, _, rfl⟩⟩
set_option maxRecDepth 20000 in
theorem ep_X9_round : am_epv E_X9_round := ⟨⟨cn_X9, cp_X9, pd_10, ⟨by decide, by decide, by decide⟩, rfl, ci_X9, am_wi 667 rfl rfl⟩, am_wi 665 rfl rfl, am_wi 666 rfl rfl, ⟨_, _, rfl⟩⟩
set_option maxRecDepth 20000 in
theorem ep_X9_said : am_epv E_X9_said := ⟨⟨cn_X9, cp_X9, pd_17, ⟨by decide, by decide, by decide⟩, rfl, ci_X9, am_wi 541 rfl rfl⟩, am_wi 539 rfl rfl, am_wi 540 rfl rfl, ⟨_, _, rfl⟩⟩
set_option maxRecDepth 20000 in
theorem ep_X9_say : am_epv E_X9_say := ⟨⟨cn_X9, cp_X9, pd_0, ⟨by decide, by decide, by decide⟩, rfl, ci_X9, am_wi 371 rfl rfl⟩, am_wi 369 rfl rfl, am_wi 370 rfl rfl, ⟨_, _, rfl⟩⟩
set_option maxRecDepth 20000 in
theorem ep_X9_seen : am_epv E_X9_seen := ⟨⟨cn_X9, cp_X9, pd_14, ⟨by decide, by decide, by decide⟩, rfl, ci_X9, am_wi 704 rfl rfl⟩, am_wi 702 rfl rfl, am_wi 703 rfl rfl, ⟨_, _, rfl⟩⟩
set_option maxRecDepth 20000 in
theorem ep_X9_set : am_epv E_X9_set := ⟨⟨cn_X9, cp_X9, pd_14, ⟨by decide, by decide, by decide⟩, rfl, ci_X9, am_wi 367 rfl rfl⟩, am_wi 365 rfl rfl, am_wi 366 rfl rfl, ⟨_, _, rfl⟩⟩
set_option maxRecDepth 20000 in
theorem ep_X9_settles : am_epv E_X9_settles := ⟨⟨cn_X9, cp_X9, pd_10, ⟨by decide, by decide, by decide⟩, rfl, ci_X9, am_wi 649 rfl rfl⟩, am_wi 647 rfl rfl, am_wi 648 rfl rfl, ⟨_, _, rfl⟩⟩
set_option maxRecDepth 20000 in
theorem ep_X9_sortAt : am_eps E_X9_sortAt := ⟨⟨cn_X9, cp_X9, pd_0, ⟨by decide, by decide, by decide⟩, rfl, ci_X9, am_wi 406 rfl rfl⟩, am_wi 405 rfl rfl⟩
set_option maxRecDepth 20000 in
theorem ep_X9_spoke : am_epv E_X9_spoke := ⟨⟨cn_X9, cp_X9, pd_14, ⟨by decide, by decide, by decide⟩, rfl, ci_X9, am_wi 716 rfl rfl⟩, am_wi 714 rfl rfl, am_wi 715 rfl rfl, ⟨_, _, rfl⟩⟩
set_option maxRecDepth 20000 in
theorem ep_X9_state : am_epv E_X9_state := ⟨⟨cn_X9, cp_X9, pd_14, ⟨by decide, by decide, by decide⟩, rfl, ci_X9, am_wi 626 rfl rfl⟩, am_wi 624 rfl rfl, am_wi 625 rfl rfl, ⟨_, _, rfl⟩⟩
set_option maxRecDepth 20000 in
theorem ep_X9_strike : am_epv E_X9_strike := ⟨⟨cn_X9, cp_X9, pd_0, ⟨by decide, by decide, by decide⟩, rfl, ci_X9, am_wi 687 rfl rfl⟩, am_wi 685 rfl rfl, am_wi 686 rfl rfl, ⟨_, _, rfl⟩⟩
set_option maxRecDepth 20000 in
theorem ep_X9_strikeOut : am_epv E_X9_strikeOut := ⟨⟨cn_X9, cp_X9, pd_0, ⟨by decide, by decide, by decide⟩, rfl, ci_X9, am_wi 341 rfl rfl⟩, am_wi 339 rfl rfl, am_wi 340 rfl rfl, ⟨_, _, rfl⟩⟩
set_option maxRecDepth 20000 in
theorem ep_X9_told : am_epv E_X9_told := ⟨⟨cn_X9, cp_X9, pd_0, ⟨by decide, by decide, by decide⟩, rfl, ci_X9, am_wi 829 rfl rfl⟩, am_wi 827 rfl rfl, am_wi 828 rfl rfl, ⟨_, _, rfl⟩⟩
set_option maxRecDepth 20000 in
theorem ep_X9_toldOfFar : am_epv E_X9_toldOfFar := ⟨⟨cn_X9, cp_X9, pd_0, ⟨by decide, by decide, by decide⟩, rfl, ci_X9, am_wi 839 rfl rfl⟩, am_wi 838 rfl rfl, am_wi 21 rfl rfl, ⟨_, _, rfl⟩⟩
set_option maxRecDepth 20000 in
theorem ep_X9_toldOfWord : am_epv E_X9_toldOfWord := ⟨⟨cn_X9, cp_X9, pd_14, ⟨by decide, by decide, by decide⟩, rfl, ci_X9, am_wi 833 rfl rfl⟩, am_wi 832 rfl rfl, am_wi 20 rfl rfl, ⟨_, _, rfl⟩⟩
set_option maxRecDepth 20000 in
theorem ep_X9_who : am_epv E_X9_who := ⟨⟨cn_X9, cp_X9, pd_10, ⟨by decide, by decide, by decide⟩, rfl, ci_X9, am_wi 732 rfl rfl⟩, am_wi 730 rfl rfl, am_wi 731 rfl rfl, ⟨_, _, rfl⟩⟩
set_option maxRecDepth 20000 in
theorem ep_X9_wipe : am_epv E_X9_wipe := ⟨⟨cn_X9, cp_X9, pd_10, ⟨by decide, by decide, by decide⟩, rfl, ci_X9, am_wi 383 rfl rfl⟩, am_wi 381 rfl rfl, am_wi 382 rfl rfl, ⟨_, _, rfl⟩⟩
set_option maxRecDepth 20000 in
theorem ep_X9_within : am_eps E_X9_within := ⟨⟨cn_X9, cp_X9, pd_29, ⟨by decide, by decide, by decide⟩, rfl, ci_X9, am_wi 317 rfl rfl⟩, am_wi 316 rfl rfl⟩
set_option maxRecDepth 20000 in
theorem ep_X9_word : am_epv E_X9_word := ⟨⟨cn_X9, cp_X9, pd_30, ⟨by decide, by decide, by decide⟩, rfl, ci_X9, am_wi 314 rfl rfl⟩, am_wi 312 rfl rfl, am_wi 313 rfl rfl, ⟨_, _, rfl⟩⟩
set_option maxRecDepth 20000 in
theorem ep_X9_worst : am_epv E_X9_worst := ⟨⟨cn_X9, cp_X9, pd_10, ⟨by decide, by decide, by decide⟩, rfl, ci_X9, am_wi 700 rfl rfl⟩, am_wi 698 rfl rfl, am_wi 699 rfl rfl, ⟨_, _, rfl⟩⟩
set_option maxRecDepth 20000 in
theorem ep_X9_year : am_epv E_X9_year := ⟨⟨cn_X9, cp_X9, pd_17, ⟨by decide, by decide, by decide⟩, rfl, ci_X9, am_wi 801 rfl rfl⟩, am_wi 799 rfl rfl, am_wi 800 rfl rfl, ⟨_, _, rfl⟩⟩
set_option maxRecDepth 20000 in
theorem ep_X10_act : am_epv E_X10_act := ⟨⟨cn_X10, cp_X10, pd_15, ⟨by decide, by decide, by decide⟩, rfl, ci_X10, am_wi 1069 rfl rfl⟩, am_wi 1068 rfl rfl, am_wi 37 rfl rfl, ⟨_, _, rfl⟩⟩
set_option maxRecDepth 20000 in
theorem ep_X10_after : am_epv E_X10_after := ⟨⟨cn_X10, cp_X10, pd_17, ⟨by decide, by decide, by decide⟩, rfl, ci_X10, am_wi 1093 rfl rfl⟩, am_wi 1091 rfl rfl, am_wi 1092 rfl rfl, ⟨_, _, rfl⟩⟩
set_option maxRecDepth 20000 in
theorem ep_X10_areAlike : am_epv E_X10_areAlike := ⟨⟨cn_X10, cp_X10, pd_13, ⟨by decide, by decide, by decide⟩, rfl, ci_X10, am_wi 1113 rfl rfl⟩, am_wi 1112 rfl rfl, am_wi 42 rfl rfl, ⟨_, _, rfl⟩⟩
set_option maxRecDepth 20000 in
theorem ep_X10_asNow : am_epv E_X10_asNow := ⟨⟨cn_X10, cp_X10, pd_2, ⟨by decide, by decide, by decide⟩, rfl, ci_X10, am_wi 1053 rfl rfl⟩, am_wi 1052 rfl rfl, am_wi 33 rfl rfl, ⟨_, _, rfl⟩⟩
set_option maxRecDepth 20000 in
theorem ep_X10_barOfLeases : am_epv E_X10_barOfLeases := ⟨⟨cn_X10, cp_X10, pd_10, ⟨by decide, by decide, by decide⟩, rfl, ci_X10, am_wi 1077 rfl rfl⟩, am_wi 1076 rfl rfl, am_wi 38 rfl rfl, ⟨_, _, rfl⟩⟩
set_option maxRecDepth 20000 in
theorem ep_X10_behind : am_epv E_X10_behind := ⟨⟨cn_X10, cp_X10, pd_14, ⟨by decide, by decide, by decide⟩, rfl, ci_X10, am_wi 1089 rfl rfl⟩, am_wi 1087 rfl rfl, am_wi 1088 rfl rfl, ⟨_, _, rfl⟩⟩
set_option maxRecDepth 20000 in
theorem ep_X10_bits : am_eps E_X10_bits := ⟨⟨cn_X10, cp_X10, pd_0, ⟨by decide, by decide, by decide⟩, rfl, ci_X10, am_wi 946 rfl rfl⟩, am_wi 945 rfl rfl⟩
set_option maxRecDepth 20000 in
theorem ep_X10_canSay : am_epv E_X10_canSay := ⟨⟨cn_X10, cp_X10, pd_13, ⟨by decide, by decide, by decide⟩, rfl, ci_X10, am_wi 1168 rfl rfl⟩, am_wi 1167 rfl rfl, am_wi 46 rfl rfl, ⟨_, _, rfl⟩⟩
set_option maxRecDepth 20000 in
theorem ep_X10_codes : am_eps E_X10_codes := ⟨⟨cn_X10, cp_X10, pd_0, ⟨by decide, by decide, by decide⟩, rfl, ci_X10, am_wi 1024 rfl rfl⟩, am_wi 1023 rfl rfl⟩
set_option maxRecDepth 20000 in
theorem ep_X10_costing : am_epv E_X10_costing := ⟨⟨cn_X10, cp_X10, pd_0, ⟨by decide, by decide, by decide⟩, rfl, ci_X10, am_wi 1153 rfl rfl⟩, am_wi 1152 rfl rfl, am_wi 45 rfl rfl, ⟨_, _, rfl⟩⟩
set_option maxRecDepth 20000 in
theorem ep_X10_costs : am_epv E_X10_costs := ⟨⟨cn_X10, cp_X10, pd_13, ⟨by decide, by decide, by decide⟩, rfl, ci_X10, am_wi 1012 rfl rfl⟩, am_wi 1011 rfl rfl, am_wi 29 rfl rfl, ⟨_, _, rfl⟩⟩
set_option maxRecDepth 20000 in
theorem ep_X10_done : am_epv E_X10_done := ⟨⟨cn_X10, cp_X10, pd_10, ⟨by decide, by decide, by decide⟩, rfl, ci_X10, am_wi 1073 rfl rfl⟩, am_wi 1071 rfl rfl, am_wi 1072 rfl rfl, ⟨_, _, rfl⟩⟩
set_option maxRecDepth 20000 in
theorem ep_X10_far : am_epv E_X10_far := ⟨⟨cn_X10, cp_X10, pd_17, ⟨by decide, by decide, by decide⟩, rfl, ci_X10, am_wi 961 rfl rfl⟩, am_wi 959 rfl rfl, am_wi 960 rfl rfl, ⟨_, _, rfl⟩⟩
set_option maxRecDepth 20000 in
theorem ep_X10_fault : am_epv E_X10_fault := ⟨⟨cn_X10, cp_X10, pd_0, ⟨by decide, by decide, by decide⟩, rfl, ci_X10, am_wi 977 rfl rfl⟩, am_wi 975 rfl rfl, am_wi 976 rfl rfl, ⟨_, _, rfl⟩⟩
set_option maxRecDepth 20000 in
theorem ep_X10_forget : am_epv E_X10_forget := ⟨⟨cn_X10, cp_X10, pd_0, ⟨by decide, by decide, by decide⟩, rfl, ci_X10, am_wi 1145 rfl rfl⟩, am_wi 1143 rfl rfl, am_wi 1144 rfl rfl, ⟨_, _, rfl⟩⟩
set_option maxRecDepth 20000 in
theorem ep_X10_gets : am_epv E_X10_gets := ⟨⟨cn_X10, cp_X10, pd_14, ⟨by decide, by decide, by decide⟩, rfl, ci_X10, am_wi 1016 rfl rfl⟩, am_wi 1014 rfl rfl, am_wi 1015 rfl rfl, ⟨_, _, rfl⟩⟩
set_option maxRecDepth 20000 in
theorem ep_X10_goLeases : am_epv E_X10_goLeases := ⟨⟨cn_X10, cp_X10, pd_10, ⟨by decide, by decide, by decide⟩, rfl, ci_X10, am_wi 1049 rfl rfl⟩, am_wi 1048 rfl rfl, am_wi 32 rfl rfl, ⟨_, _, rfl⟩⟩
set_option maxRecDepth 20000 in
theorem ep_X10_has : am_eps E_X10_has := ⟨⟨cn_X10, cp_X10, pd_13, ⟨by decide, by decide, by decide⟩, rfl, ci_X10, am_wi 957 rfl rfl⟩, am_wi 956 rfl rfl⟩
set_option maxRecDepth 20000 in
theorem ep_X10_held : am_epv E_X10_held := ⟨⟨cn_X10, cp_X10, pd_0, ⟨by decide, by decide, by decide⟩, rfl, ci_X10, am_wi 1121 rfl rfl⟩, am_wi 1119 rfl rfl, am_wi 1120 rfl rfl, ⟨_, _, rfl⟩⟩
set_option maxRecDepth 20000 in
theorem ep_X10_image : am_epv E_X10_image := ⟨⟨cn_X10, cp_X10, pd_0, ⟨by decide, by decide, by decide⟩, rfl, ci_X10, am_wi 1188 rfl rfl⟩, am_wi 1186 rfl rfl, am_wi 1187 rfl rfl, ⟨_, _, rfl⟩⟩
set_option maxRecDepth 20000 in
theorem ep_X10_in : am_eps E_X10_in := ⟨⟨cn_X10, cp_X10, pd_29, ⟨by decide, by decide, by decide⟩, rfl, ci_X10, am_wi 943 rfl rfl⟩, am_wi 942 rfl rfl⟩
set_option maxRecDepth 20000 in
theorem ep_X10_inRow : am_epv E_X10_inRow := ⟨⟨cn_X10, cp_X10, pd_10, ⟨by decide, by decide, by decide⟩, rfl, ci_X10, am_wi 1004 rfl rfl⟩, am_wi 1003 rfl rfl, am_wi 27 rfl rfl, ⟨_, _, rfl⟩⟩
set_option maxRecDepth 20000 in
theorem ep_X10_income : am_eps E_X10_income := ⟨⟨cn_X10, cp_X10, pd_31, ⟨by decide, by decide, by decide⟩, rfl, ci_X10, am_wi 1179 rfl rfl⟩, am_wi 1178 rfl rfl⟩
set_option maxRecDepth 20000 in
theorem ep_X10_init : am_epi E_X10_init := ⟨⟨cn_X10, cp_X10, pd_2, ⟨by decide, by decide, by decide⟩, rfl, ci_X10, am_wi 844 rfl rfl⟩, am_wi 843 rfl rfl, ⟨_, _, rfl⟩, rfl, rfl⟩
set_option maxRecDepth 20000 in
theorem ep_X10_isUndercut : am_epv E_X10_isUndercut := ⟨⟨cn_X10, cp_X10, pd_11, ⟨by decide, by decide, by decide⟩, rfl, ci_X10, am_wi 1061 rfl rfl⟩, am_wi 1060 rfl rfl, am_wi 35 rfl rfl, ⟨_, _, rfl⟩⟩
set_option maxRecDepth 20000 in
theorem ep_X10_isWord : am_epv E_X10_isWord := ⟨⟨cn_X10, cp_X10, pd_11, ⟨by decide, by decide, by decide⟩, rfl, ci_X10, am_wi 954 rfl rfl⟩, am_wi 953 rfl rfl, am_wi 22 rfl rfl, ⟨_, _, rfl⟩⟩
set_option maxRecDepth 20000 in
theorem ep_X10_judge : am_epv E_X10_judge := ⟨⟨cn_X10, cp_X10, pd_0, ⟨by decide, by decide, by decide⟩, rfl, ci_X10, am_wi 1045 rfl rfl⟩, am_wi 1043 rfl rfl, am_wi 1044 rfl rfl, ⟨_, _, rfl⟩⟩
set_option maxRecDepth 20000 in
theorem ep_X10_lay : am_epv E_X10_lay := ⟨⟨cn_X10, cp_X10, pd_2, ⟨by decide, by decide, by decide⟩, rfl, ci_X10, am_wi 996 rfl rfl⟩, am_wi 995 rfl rfl, am_wi 25 rfl rfl, ⟨_, _, rfl⟩⟩
set_option maxRecDepth 20000 in
theorem ep_X10_layRow : am_epv E_X10_layRow := ⟨⟨cn_X10, cp_X10, pd_13, ⟨by decide, by decide, by decide⟩, rfl, ci_X10, am_wi 1029 rfl rfl⟩, am_wi 1028 rfl rfl, am_wi 30 rfl rfl, ⟨_, _, rfl⟩⟩
set_option maxRecDepth 20000 in
theorem ep_X10_leaseFault : am_epv E_X10_leaseFault := ⟨⟨cn_X10, cp_X10, pd_10, ⟨by decide, by decide, by decide⟩, rfl, ci_X10, am_wi 988 rfl rfl⟩, am_wi 987 rfl rfl, am_wi 24 rfl rfl, ⟨_, _, rfl⟩⟩
set_option maxRecDepth 20000 in
theorem ep_X10_let : am_epv E_X10_let := ⟨⟨cn_X10, cp_X10, pd_28, ⟨by decide, by decide, by decide⟩, rfl, ci_X10, am_wi 1161 rfl rfl⟩, am_wi 1159 rfl rfl, am_wi 1160 rfl rfl, ⟨_, _, rfl⟩⟩
set_option maxRecDepth 20000 in
theorem ep_X10_list : am_epv E_X10_list := ⟨⟨cn_X10, cp_X10, pd_10, ⟨by decide, by decide, by decide⟩, rfl, ci_X10, am_wi 1117 rfl rfl⟩, am_wi 1115 rfl rfl, am_wi 1116 rfl rfl, ⟨_, _, rfl⟩⟩
set_option maxRecDepth 20000 in
theorem ep_X10_misprints : am_epv E_X10_misprints := ⟨⟨cn_X10, cp_X10, pd_14, ⟨by decide, by decide, by decide⟩, rfl, ci_X10, am_wi 1041 rfl rfl⟩, am_wi 1039 rfl rfl, am_wi 1040 rfl rfl, ⟨_, _, rfl⟩⟩
set_option maxRecDepth 20000 in
theorem ep_X10_nearly : am_epv E_X10_nearly := ⟨⟨cn_X10, cp_X10, pd_17, ⟨by decide, by decide, by decide⟩, rfl, ci_X10, am_wi 1020 rfl rfl⟩, am_wi 1018 rfl rfl, am_wi 1019 rfl rfl, ⟨_, _, rfl⟩⟩
set_option maxRecDepth 20000 in
theorem ep_X10_note : am_epv E_X10_note := ⟨⟨cn_X10, cp_X10, pd_7, ⟨by decide, by decide, by decide⟩, rfl, ci_X10, am_wi 1109 rfl rfl⟩, am_wi 1108 rfl rfl, am_wi 41 rfl rfl, ⟨_, _, rfl⟩⟩
set_option maxRecDepth 20000 in
theorem ep_X10_off : am_epv E_X10_off := ⟨⟨cn_X10, cp_X10, pd_10, ⟨by decide, by decide, by decide⟩, rfl, ci_X10, am_wi 1033 rfl rfl⟩, am_wi 1032 rfl rfl, am_wi 31 rfl rfl, ⟨_, _, rfl⟩⟩
set_option maxRecDepth 20000 in
theorem ep_X10_paid : am_epv E_X10_paid := ⟨⟨cn_X10, cp_X10, pd_17, ⟨by decide, by decide, by decide⟩, rfl, ci_X10, am_wi 1008 rfl rfl⟩, am_wi 1007 rfl rfl, am_wi 28 rfl rfl, ⟨_, _, rfl⟩⟩
set_option maxRecDepth 20000 in
theorem ep_X10_pass : am_epv E_X10_pass := ⟨⟨cn_X10, cp_X10, pd_32, ⟨by decide, by decide, by decide⟩, rfl, ci_X10, am_wi 1057 rfl rfl⟩, am_wi 1056 rfl rfl, am_wi 34 rfl rfl, ⟨_, _, rfl⟩⟩
set_option maxRecDepth 20000 in
theorem ep_X10_price : am_epv E_X10_price := ⟨⟨cn_X10, cp_X10, pd_0, ⟨by decide, by decide, by decide⟩, rfl, ci_X10, am_wi 992 rfl rfl⟩, am_wi 990 rfl rfl, am_wi 991 rfl rfl, ⟨_, _, rfl⟩⟩
set_option maxRecDepth 20000 in
theorem ep_X10_priceOf : am_epv E_X10_priceOf := ⟨⟨cn_X10, cp_X10, pd_14, ⟨by decide, by decide, by decide⟩, rfl, ci_X10, am_wi 1000 rfl rfl⟩, am_wi 999 rfl rfl, am_wi 26 rfl rfl, ⟨_, _, rfl⟩⟩
set_option maxRecDepth 20000 in
theorem ep_X10_rest : am_eps E_X10_rest := ⟨⟨cn_X10, cp_X10, pd_13, ⟨by decide, by decide, by decide⟩, rfl, ci_X10, am_wi 1176 rfl rfl⟩, am_wi 1175 rfl rfl⟩
set_option maxRecDepth 20000 in
theorem ep_X10_restore : am_epv E_X10_restore := ⟨⟨cn_X10, cp_X10, pd_0, ⟨by decide, by decide, by decide⟩, rfl, ci_X10, am_wi 1192 rfl rfl⟩, am_wi 1190 rfl rfl, am_wi 1191 rfl rfl, ⟨_, _, rfl⟩⟩
set_option maxRecDepth 20000 in
theorem ep_X10_rests : am_epv E_X10_rests := ⟨⟨cn_X10, cp_X10, pd_17, ⟨by decide, by decide, by decide⟩, rfl, ci_X10, am_wi 1173 rfl rfl⟩, am_wi 1171 rfl rfl, am_wi 1172 rfl rfl, ⟨_, _, rfl⟩⟩
set_option maxRecDepth 20000 in
theorem ep_X10_round : am_epv E_X10_round := ⟨⟨cn_X10, cp_X10, pd_10, ⟨by decide, by decide, by decide⟩, rfl, ci_X10, am_wi 1105 rfl rfl⟩, am_wi 1103 rfl rfl, am_wi 1104 rfl rfl, ⟨_, _, rfl⟩⟩
set_option maxRecDepth 20000 in
theorem ep_X10_said : am_epv E_X10_said := ⟨⟨cn_X10, cp_X10, pd_17, ⟨by decide, by decide, by decide⟩, rfl, ci_X10, am_wi 1037 rfl rfl⟩, am_wi 1035 rfl rfl, am_wi 1036 rfl rfl, ⟨_, _, rfl⟩⟩
set_option maxRecDepth 20000 in
theorem ep_X10_say : am_epv E_X10_say := ⟨⟨cn_X10, cp_X10, pd_0, ⟨by decide, by decide, by decide⟩, rfl, ci_X10, am_wi 969 rfl rfl⟩, am_wi 967 rfl rfl, am_wi 968 rfl rfl, ⟨_, _, rfl⟩⟩
set_option maxRecDepth 20000 in
theorem ep_X10_seen : am_epv E_X10_seen := ⟨⟨cn_X10, cp_X10, pd_14, ⟨by decide, by decide, by decide⟩, rfl, ci_X10, am_wi 1141 rfl rfl⟩, am_wi 1139 rfl rfl, am_wi 1140 rfl rfl, ⟨_, _, rfl⟩⟩
set_option maxRecDepth 20000 in
theorem ep_X10_sentenceFault : am_epv E_X10_sentenceFault := ⟨⟨cn_X10, cp_X10, pd_10, ⟨by decide, by decide, by decide⟩, rfl, ci_X10, am_wi 981 rfl rfl⟩, am_wi 980 rfl rfl, am_wi 23 rfl rfl, ⟨_, _, rfl⟩⟩
set_option maxRecDepth 20000 in
theorem ep_X10_set : am_epv E_X10_set := ⟨⟨cn_X10, cp_X10, pd_14, ⟨by decide, by decide, by decide⟩, rfl, ci_X10, am_wi 965 rfl rfl⟩, am_wi 963 rfl rfl, am_wi 964 rfl rfl, ⟨_, _, rfl⟩⟩
set_option maxRecDepth 20000 in
theorem ep_X10_settles : am_epv E_X10_settles := ⟨⟨cn_X10, cp_X10, pd_10, ⟨by decide, by decide, by decide⟩, rfl, ci_X10, am_wi 1097 rfl rfl⟩, am_wi 1095 rfl rfl, am_wi 1096 rfl rfl, ⟨_, _, rfl⟩⟩
set_option maxRecDepth 20000 in
theorem ep_X10_settlesOn : am_epv E_X10_settlesOn := ⟨⟨cn_X10, cp_X10, pd_10, ⟨by decide, by decide, by decide⟩, rfl, ci_X10, am_wi 1101 rfl rfl⟩, am_wi 1100 rfl rfl, am_wi 40 rfl rfl, ⟨_, _, rfl⟩⟩
set_option maxRecDepth 20000 in
theorem ep_X10_sortAt : am_eps E_X10_sortAt := ⟨⟨cn_X10, cp_X10, pd_0, ⟨by decide, by decide, by decide⟩, rfl, ci_X10, am_wi 984 rfl rfl⟩, am_wi 983 rfl rfl⟩
set_option maxRecDepth 20000 in
theorem ep_X10_spoke : am_epv E_X10_spoke := ⟨⟨cn_X10, cp_X10, pd_14, ⟨by decide, by decide, by decide⟩, rfl, ci_X10, am_wi 1149 rfl rfl⟩, am_wi 1147 rfl rfl, am_wi 1148 rfl rfl, ⟨_, _, rfl⟩⟩
set_option maxRecDepth 20000 in
theorem ep_X10_state : am_epv E_X10_state := ⟨⟨cn_X10, cp_X10, pd_14, ⟨by decide, by decide, by decide⟩, rfl, ci_X10, am_wi 1081 rfl rfl⟩, am_wi 1079 rfl rfl, am_wi 1080 rfl rfl, ⟨_, _, rfl⟩⟩
set_option maxRecDepth 20000 in
theorem ep_X10_stateNow : am_epv E_X10_stateNow := ⟨⟨cn_X10, cp_X10, pd_14, ⟨by decide, by decide, by decide⟩, rfl, ci_X10, am_wi 1085 rfl rfl⟩, am_wi 1084 rfl rfl, am_wi 39 rfl rfl, ⟨_, _, rfl⟩⟩
set_option maxRecDepth 20000 in
theorem ep_X10_strike : am_epv E_X10_strike := ⟨⟨cn_X10, cp_X10, pd_0, ⟨by decide, by decide, by decide⟩, rfl, ci_X10, am_wi 1129 rfl rfl⟩, am_wi 1127 rfl rfl, am_wi 1128 rfl rfl, ⟨_, _, rfl⟩⟩
set_option maxRecDepth 20000 in
theorem ep_X10_strikeOut : am_epv E_X10_strikeOut := ⟨⟨cn_X10, cp_X10, pd_0, ⟨by decide, by decide, by decide⟩, rfl, ci_X10, am_wi 950 rfl rfl⟩, am_wi 948 rfl rfl, am_wi 949 rfl rfl, ⟨_, _, rfl⟩⟩
set_option maxRecDepth 20000 in
theorem ep_X10_told : am_epv E_X10_told := ⟨⟨cn_X10, cp_X10, pd_0, ⟨by decide, by decide, by decide⟩, rfl, ci_X10, am_wi 1196 rfl rfl⟩, am_wi 1194 rfl rfl, am_wi 1195 rfl rfl, ⟨_, _, rfl⟩⟩
set_option maxRecDepth 20000 in
theorem ep_X10_who : am_epv E_X10_who := ⟨⟨cn_X10, cp_X10, pd_10, ⟨by decide, by decide, by decide⟩, rfl, ci_X10, am_wi 1157 rfl rfl⟩, am_wi 1155 rfl rfl, am_wi 1156 rfl rfl, ⟨_, _, rfl⟩⟩
set_option maxRecDepth 20000 in
theorem ep_X10_whyNot : am_epv E_X10_whyNot := ⟨⟨cn_X10, cp_X10, pd_17, ⟨by decide, by decide, by decide⟩, rfl, ci_X10, am_wi 1065 rfl rfl⟩, am_wi 1064 rfl rfl, am_wi 36 rfl rfl, ⟨_, _, rfl⟩⟩
set_option maxRecDepth 20000 in
theorem ep_X10_wipe : am_epv E_X10_wipe := ⟨⟨cn_X10, cp_X10, pd_10, ⟨by decide, by decide, by decide⟩, rfl, ci_X10, am_wi 973 rfl rfl⟩, am_wi 971 rfl rfl, am_wi 972 rfl rfl, ⟨_, _, rfl⟩⟩
set_option maxRecDepth 20000 in
theorem ep_X10_withoutThese : am_epv E_X10_withoutThese := ⟨⟨cn_X10, cp_X10, pd_0, ⟨by decide, by decide, by decide⟩, rfl, ci_X10, am_wi 1133 rfl rfl⟩, am_wi 1132 rfl rfl, am_wi 44 rfl rfl, ⟨_, _, rfl⟩⟩
set_option maxRecDepth 20000 in
theorem ep_X10_word : am_epv E_X10_word := ⟨⟨cn_X10, cp_X10, pd_30, ⟨by decide, by decide, by decide⟩, rfl, ci_X10, am_wi 940 rfl rfl⟩, am_wi 938 rfl rfl, am_wi 939 rfl rfl, ⟨_, _, rfl⟩⟩
set_option maxRecDepth 20000 in
theorem ep_X10_wordsOf : am_epv E_X10_wordsOf := ⟨⟨cn_X10, cp_X10, pd_0, ⟨by decide, by decide, by decide⟩, rfl, ci_X10, am_wi 1125 rfl rfl⟩, am_wi 1124 rfl rfl, am_wi 43 rfl rfl, ⟨_, _, rfl⟩⟩
set_option maxRecDepth 20000 in
theorem ep_X10_worst : am_epv E_X10_worst := ⟨⟨cn_X10, cp_X10, pd_10, ⟨by decide, by decide, by decide⟩, rfl, ci_X10, am_wi 1137 rfl rfl⟩, am_wi 1135 rfl rfl, am_wi 1136 rfl rfl, ⟨_, _, rfl⟩⟩
set_option maxRecDepth 20000 in
theorem ep_X10_year : am_epv E_X10_year := ⟨⟨cn_X10, cp_X10, pd_17, ⟨by decide, by decide, by decide⟩, rfl, ci_X10, am_wi 1183 rfl rfl⟩, am_wi 1181 rfl rfl, am_wi 1182 rfl rfl, ⟨_, _, rfl⟩⟩
set_option maxRecDepth 20000 in
theorem ep_X5_isAtRest : am_eps E_X5_isAtRest := ⟨⟨cn_X5, cp_X5, pd_13, ⟨by decide, by decide, by decide⟩, rfl, ci_X5, am_wi 791 rfl rfl⟩, am_wi 790 rfl rfl⟩
set_option maxRecDepth 20000 in
theorem ep_X5_restOrCount : am_eps E_X5_restOrCount := ⟨⟨cn_X5, cp_X5, pd_0, ⟨by decide, by decide, by decide⟩, rfl, ci_X5, am_wi 788 rfl rfl⟩, am_wi 787 rfl rfl⟩
set_option maxRecDepth 20000 in
theorem ep_X5_takings : am_eps E_X5_takings := ⟨⟨cn_X5, cp_X5, pd_31, ⟨by decide, by decide, by decide⟩, rfl, ci_X5, am_wi 794 rfl rfl⟩, am_wi 793 rfl rfl⟩
set_option maxRecDepth 20000 in
theorem ep_J6_bitCount_0f7a4 : am_eps E_J6_bitCount_0f7a4 := ⟨⟨cn_J6, cp_J6, pd_0, ⟨by decide, by decide, by decide⟩, rfl, ci_J6, am_wi 334 rfl rfl⟩, am_wi 333 rfl rfl⟩
set_option maxRecDepth 20000 in
theorem w_objI : Cond.instanceMethod Lib.objectInit ∈ am_G := am_wi 68 rfl rfl
set_option maxRecDepth 20000 in
theorem w_objC : Cond.code Lib.objectInit ⟨#[0xb1]⟩ 1 none ∈ am_G := am_wi 69 (by decide +kernel) rfl
set_option maxRecDepth 20000 in
theorem lk_0_3 : am_lok (0, 3, 6, E_X0_daysSinceLike) := ⟨am_wi 234 rfl rfl, w_objI, w_objC⟩
set_option maxRecDepth 20000 in
theorem lk_0_22 : am_lok (0, 22, 1, E_X4_rentsAsOne) := ⟨am_wi 654 rfl rfl, ep_X4_rentsAsOne⟩
set_option maxRecDepth 20000 in
theorem lk_0_28 : am_lok (0, 28, 1, E_X4_moveRents) := ⟨am_wi 659 rfl rfl, ep_X4_moveRents⟩
set_option maxRecDepth 20000 in
theorem lk_0_31 : am_lok (0, 31, 1, E_X0_daysSinceLike) := ⟨am_wi 660 rfl rfl, ep_X0_daysSinceLike⟩
set_option maxRecDepth 20000 in
theorem lk_0_42 : am_lok (0, 42, 1, E_X0_drawAct) := ⟨am_wi 807 rfl rfl, ep_X0_drawAct⟩
set_option maxRecDepth 20000 in
theorem lk_0_46 : am_lok (0, 46, 1, E_X4_passDay) := ⟨am_wi 813 rfl rfl, ep_X4_passDay⟩
set_option maxRecDepth 20000 in
theorem lk_0_49 : am_lok (0, 49, 1, E_X4_reasonAgainst) := ⟨am_wi 811 rfl rfl, ep_X4_reasonAgainst⟩
set_option maxRecDepth 20000 in
theorem lk_0_53 : am_lok (0, 53, 1, E_X4_act) := ⟨am_wi 812 rfl rfl, ep_X4_act⟩
set_option maxRecDepth 20000 in
theorem lk_1_3 : am_lok (1, 3, 6, E_X0_daysSinceLike) := ⟨am_wi 261 rfl rfl, w_objI, w_objC⟩
set_option maxRecDepth 20000 in
theorem lk_1_15 : am_lok (1, 15, 1, E_X1_weigh) := ⟨am_wi 747 rfl rfl, ep_X1_weigh⟩
set_option maxRecDepth 20000 in
theorem lk_1_23 : am_lok (1, 23, 0, E_X1_power) := ⟨am_wi 751 rfl rfl, ep_X1_power⟩
set_option maxRecDepth 20000 in
theorem lk_1_30 : am_lok (1, 30, 1, E_X4_wordsOfSort) := ⟨am_wi 754 rfl rfl, ep_X4_wordsOfSort⟩
set_option maxRecDepth 20000 in
theorem lk_1_43 : am_lok (1, 43, 1, E_X4_words) := ⟨am_wi 755 rfl rfl, ep_X4_words⟩
set_option maxRecDepth 20000 in
theorem lk_1_47 : am_lok (1, 47, 1, E_X1_canSay) := ⟨am_wi 756 rfl rfl, ep_X1_canSay⟩
set_option maxRecDepth 20000 in
theorem lk_1_51 : am_lok (1, 51, 0, E_J6_bitCount_0f7a4) := ⟨am_wi 764 rfl rfl, ep_J6_bitCount_0f7a4⟩
set_option maxRecDepth 20000 in
theorem lk_1_56 : am_lok (1, 56, 1, E_X1_weightOf) := ⟨am_wi 765 rfl rfl, ep_X1_weightOf⟩
set_option maxRecDepth 20000 in
theorem lk_1_60 : am_lok (1, 60, 1, E_X1_reduce) := ⟨am_wi 769 rfl rfl, ep_X1_reduce⟩
set_option maxRecDepth 20000 in
theorem lk_1_63 : am_lok (1, 63, 1, E_X4_listAllows) := ⟨am_wi 760 rfl rfl, ep_X4_listAllows⟩
set_option maxRecDepth 20000 in
theorem lk_2_3 : am_lok (2, 3, 6, E_X0_daysSinceLike) := ⟨am_wi 219 rfl rfl, w_objI, w_objC⟩
set_option maxRecDepth 20000 in
theorem lk_2_18 : am_lok (2, 18, 1, E_X3_size) := ⟨am_wi 588 rfl rfl, ep_X3_size⟩
set_option maxRecDepth 20000 in
theorem lk_2_24 : am_lok (2, 24, 1, E_X3_signAt) := ⟨am_wi 589 rfl rfl, ep_X3_signAt⟩
set_option maxRecDepth 20000 in
theorem lk_2_28 : am_lok (2, 28, 1, E_X4_passDay) := ⟨am_wi 590 rfl rfl, ep_X4_passDay⟩
set_option maxRecDepth 20000 in
theorem lk_2_33 : am_lok (2, 33, 1, E_X3_wordAt) := ⟨am_wi 606 rfl rfl, ep_X3_wordAt⟩
set_option maxRecDepth 20000 in
theorem lk_2_36 : am_lok (2, 36, 1, E_X2_playAct) := ⟨am_wi 607 rfl rfl, ep_X2_playAct⟩
set_option maxRecDepth 20000 in
theorem lk_2_40 : am_lok (2, 40, 1, E_X4_reasonAgainst) := ⟨am_wi 611 rfl rfl, ep_X4_reasonAgainst⟩
set_option maxRecDepth 20000 in
theorem lk_2_44 : am_lok (2, 44, 1, E_X4_act) := ⟨am_wi 615 rfl rfl, ep_X4_act⟩
set_option maxRecDepth 20000 in
theorem lk_3_3 : am_lok (3, 3, 6, E_X0_daysSinceLike) := ⟨am_wi 75 rfl rfl, w_objI, w_objC⟩
set_option maxRecDepth 20000 in
theorem lk_3_19 : am_lok (3, 19, 1, E_X3_signAt) := ⟨am_wi 400 rfl rfl, ep_X3_signAt⟩
set_option maxRecDepth 20000 in
theorem lk_3_23 : am_lok (3, 23, 1, E_X3_wordsBut) := ⟨am_wi 437 rfl rfl, ep_X3_wordsBut⟩
set_option maxRecDepth 20000 in
theorem lk_3_27 : am_lok (3, 27, 1, E_X3_wordAt) := ⟨am_wi 396 rfl rfl, ep_X3_wordAt⟩
set_option maxRecDepth 20000 in
theorem lk_3_30 : am_lok (3, 30, 3, E_X9_within) := ⟨List.mem_of_getElem? (i := 10) rfl, ep_X9_within⟩
set_option maxRecDepth 20000 in
theorem lk_3_34 : am_lok (3, 34, 3, E_X9_sortAt) := ⟨List.mem_of_getElem? (i := 9) rfl, ep_X9_sortAt⟩
set_option maxRecDepth 20000 in
theorem lk_3_37 : am_lok (3, 37, 1, E_X4_isOfSort) := ⟨am_wi 407 rfl rfl, ep_X4_isOfSort⟩
set_option maxRecDepth 20000 in
theorem lk_3_43 : am_lok (3, 43, 0, E_X3_standsInLeases) := ⟨am_wi 415 rfl rfl, ep_X3_standsInLeases⟩
set_option maxRecDepth 20000 in
theorem lk_4_3 : am_lok (4, 3, 6, E_X0_daysSinceLike) := ⟨am_wi 89 rfl rfl, w_objI, w_objC⟩
set_option maxRecDepth 20000 in
theorem lk_4_52 : am_lok (4, 52, 7, E_X0_daysSinceLike) := ⟨am_wi 581 rfl rfl, am_wi 583 rfl rfl, am_wi 582 rfl rfl, am_wi 59 rfl rfl⟩
set_option maxRecDepth 20000 in
theorem lk_4_67 : am_lok (4, 67, 1, E_X4_has) := ⟨am_wi 350 rfl rfl, ep_X4_has⟩
set_option maxRecDepth 20000 in
theorem lk_4_71 : am_lok (4, 71, 1, E_X4_rentOf) := ⟨am_wi 631 rfl rfl, ep_X4_rentOf⟩
set_option maxRecDepth 20000 in
theorem lk_4_75 : am_lok (4, 75, 1, E_X4_holderOf) := ⟨am_wi 632 rfl rfl, ep_X4_holderOf⟩
set_option maxRecDepth 20000 in
theorem lk_4_78 : am_lok (4, 78, 1, E_X4_meaningOf) := ⟨am_wi 633 rfl rfl, ep_X4_meaningOf⟩
set_option maxRecDepth 20000 in
theorem lk_4_81 : am_lok (4, 81, 1, E_X4_isOfSort) := ⟨am_wi 497 rfl rfl, ep_X4_isOfSort⟩
set_option maxRecDepth 20000 in
theorem lk_4_85 : am_lok (4, 85, 1, E_X4_wordsOfSort) := ⟨am_wi 692 rfl rfl, ep_X4_wordsOfSort⟩
set_option maxRecDepth 20000 in
theorem lk_4_88 : am_lok (4, 88, 0, E_J6_bitCount_0f7a4) := ⟨am_wi 696 rfl rfl, ep_J6_bitCount_0f7a4⟩
set_option maxRecDepth 20000 in
theorem lk_4_93 : am_lok (4, 93, 1, E_X4_sortOf) := ⟨am_wi 781 rfl rfl, ep_X4_sortOf⟩
set_option maxRecDepth 20000 in
theorem lk_4_96 : am_lok (4, 96, 3, E_X9_isFirm) := ⟨List.mem_of_getElem? (i := 14) rfl, ep_X9_isFirm⟩
set_option maxRecDepth 20000 in
theorem lk_4_99 : am_lok (4, 99, 3, E_X9_isMeaning) := ⟨List.mem_of_getElem? (i := 8) rfl, ep_X9_isMeaning⟩
set_option maxRecDepth 20000 in
theorem lk_4_102 : am_lok (4, 102, 1, E_X4_between) := ⟨am_wi 516 rfl rfl, ep_X4_between⟩
set_option maxRecDepth 20000 in
theorem lk_4_108 : am_lok (4, 108, 1, E_X4_moveRents) := ⟨am_wi 594 rfl rfl, ep_X4_moveRents⟩
set_option maxRecDepth 20000 in
theorem lk_4_111 : am_lok (4, 111, 1, E_X4_driftWords) := ⟨am_wi 602 rfl rfl, ep_X4_driftWords⟩
set_option maxRecDepth 20000 in
theorem lk_4_114 : am_lok (4, 114, 1, E_X4_isUndercut) := ⟨am_wi 598 rfl rfl, ep_X4_isUndercut⟩
set_option maxRecDepth 20000 in
theorem lk_5_3 : am_lok (5, 3, 6, E_X0_daysSinceLike) := ⟨am_wi 161 rfl rfl, w_objI, w_objC⟩
set_option maxRecDepth 20000 in
theorem lk_5_11 : am_lok (5, 11, 5, E_X8_init) := ⟨List.mem_of_getElem? (i := 3) rfl, ep_X8_init⟩
set_option maxRecDepth 20000 in
theorem lk_5_20 : am_lok (5, 20, 5, E_X7_init) := ⟨List.mem_of_getElem? (i := 4) rfl, ep_X7_init⟩
set_option maxRecDepth 20000 in
theorem lk_5_39 : am_lok (5, 39, 1, E_X8_length) := ⟨am_wi 503 rfl rfl, ep_X8_length⟩
set_option maxRecDepth 20000 in
theorem lk_5_42 : am_lok (5, 42, 1, E_X8_wordAt) := ⟨am_wi 508 rfl rfl, ep_X8_wordAt⟩
set_option maxRecDepth 20000 in
theorem lk_5_46 : am_lok (5, 46, 1, E_X6_clear) := ⟨am_wi 482 rfl rfl, ep_X6_clear⟩
set_option maxRecDepth 20000 in
theorem lk_5_49 : am_lok (5, 49, 1, E_X4_costing) := ⟨am_wi 486 rfl rfl, ep_X4_costing⟩
set_option maxRecDepth 20000 in
theorem lk_5_55 : am_lok (5, 55, 1, E_X3_size) := ⟨am_wi 487 rfl rfl, ep_X3_size⟩
set_option maxRecDepth 20000 in
theorem lk_5_60 : am_lok (5, 60, 1, E_X8_start) := ⟨am_wi 488 rfl rfl, ep_X8_start⟩
set_option maxRecDepth 20000 in
theorem lk_5_65 : am_lok (5, 65, 1, E_X6_distanceFrom) := ⟨am_wi 499 rfl rfl, ep_X6_distanceFrom⟩
set_option maxRecDepth 20000 in
theorem lk_5_69 : am_lok (5, 69, 1, E_X8_words) := ⟨am_wi 517 rfl rfl, ep_X8_words⟩
set_option maxRecDepth 20000 in
theorem lk_5_71 : am_lok (5, 71, 1, E_X7_paid) := ⟨am_wi 521 rfl rfl, ep_X7_paid⟩
set_option maxRecDepth 20000 in
theorem lk_5_75 : am_lok (5, 75, 1, E_X6_isFound) := ⟨am_wi 522 rfl rfl, ep_X6_isFound⟩
set_option maxRecDepth 20000 in
theorem lk_5_82 : am_lok (5, 82, 1, E_X6_keepWords) := ⟨am_wi 526 rfl rfl, ep_X6_keepWords⟩
set_option maxRecDepth 20000 in
theorem lk_5_88 : am_lok (5, 88, 1, E_X8_step) := ⟨am_wi 530 rfl rfl, ep_X8_step⟩
set_option maxRecDepth 20000 in
theorem lk_5_92 : am_lok (5, 92, 1, E_X3_wordAt) := ⟨am_wi 507 rfl rfl, ep_X3_wordAt⟩
set_option maxRecDepth 20000 in
theorem lk_5_93 : am_lok (5, 93, 1, E_X4_betweenWords) := ⟨am_wi 512 rfl rfl, ep_X4_betweenWords⟩
set_option maxRecDepth 20000 in
theorem lk_5_96 : am_lok (5, 96, 1, E_X6_countAffordable) := ⟨am_wi 546 rfl rfl, ep_X6_countAffordable⟩
set_option maxRecDepth 20000 in
theorem lk_5_100 : am_lok (5, 100, 1, E_X6_countThis) := ⟨am_wi 550 rfl rfl, ep_X6_countThis⟩
set_option maxRecDepth 20000 in
theorem lk_5_103 : am_lok (5, 103, 3, E_X9_sortAt) := ⟨List.mem_of_getElem? (i := 13) rfl, ep_X9_sortAt⟩
set_option maxRecDepth 20000 in
theorem lk_5_106 : am_lok (5, 106, 1, E_X4_isOfSort) := ⟨am_wi 563 rfl rfl, ep_X4_isOfSort⟩
set_option maxRecDepth 20000 in
theorem lk_5_110 : am_lok (5, 110, 1, E_X3_wordsBut) := ⟨am_wi 564 rfl rfl, ep_X3_wordsBut⟩
set_option maxRecDepth 20000 in
theorem lk_5_113 : am_lok (5, 113, 1, E_X6_weighMisprint) := ⟨am_wi 565 rfl rfl, ep_X6_weighMisprint⟩
set_option maxRecDepth 20000 in
theorem lk_6_3 : am_lok (6, 3, 6, E_X0_daysSinceLike) := ⟨am_wi 150 rfl rfl, w_objI, w_objC⟩
set_option maxRecDepth 20000 in
theorem lk_6_15 : am_lok (6, 15, 1, E_X7_findDearest) := ⟨am_wi 449 rfl rfl, ep_X7_findDearest⟩
set_option maxRecDepth 20000 in
theorem lk_6_19 : am_lok (6, 19, 1, E_X4_holderOf) := ⟨am_wi 462 rfl rfl, ep_X4_holderOf⟩
set_option maxRecDepth 20000 in
theorem lk_6_25 : am_lok (6, 25, 1, E_X7_paidFor) := ⟨am_wi 466 rfl rfl, ep_X7_paidFor⟩
set_option maxRecDepth 20000 in
theorem lk_6_29 : am_lok (6, 29, 1, E_X4_rhymeOf) := ⟨am_wi 453 rfl rfl, ep_X4_rhymeOf⟩
set_option maxRecDepth 20000 in
theorem lk_6_32 : am_lok (6, 32, 3, E_X9_isRhyme) := ⟨List.mem_of_getElem? (i := 11) rfl, ep_X9_isRhyme⟩
set_option maxRecDepth 20000 in
theorem lk_6_36 : am_lok (6, 36, 1, E_X4_rentOf) := ⟨am_wi 458 rfl rfl, ep_X4_rentOf⟩
set_option maxRecDepth 20000 in
theorem lk_7_3 : am_lok (7, 3, 6, E_X0_daysSinceLike) := ⟨am_wi 167 rfl rfl, w_objI, w_objC⟩
set_option maxRecDepth 20000 in
theorem lk_7_19 : am_lok (7, 19, 3, E_X9_sortAt) := ⟨List.mem_of_getElem? (i := 12) rfl, ep_X9_sortAt⟩
set_option maxRecDepth 20000 in
theorem lk_7_23 : am_lok (7, 23, 1, E_X4_firstOfSort) := ⟨am_wi 493 rfl rfl, ep_X4_firstOfSort⟩
set_option maxRecDepth 20000 in
theorem lk_8_1 : am_lok (8, 1, 6, E_X0_daysSinceLike) := ⟨am_wi 67 rfl rfl, w_objI, w_objC⟩
set_option maxRecDepth 20000 in
theorem lk_8_9 : am_lok (8, 9, 5, E_X3_init) := ⟨List.mem_of_getElem? (i := 0) rfl, ep_X3_init⟩
set_option maxRecDepth 20000 in
theorem lk_8_18 : am_lok (8, 18, 2, E_X4_init) := ⟨am_wi 86 rfl rfl, ep_X4_init⟩
set_option maxRecDepth 20000 in
theorem lk_8_36 : am_lok (8, 36, 5, E_X7_init) := ⟨List.mem_of_getElem? (i := 1) rfl, ep_X7_init⟩
set_option maxRecDepth 20000 in
theorem lk_8_43 : am_lok (8, 43, 5, E_X6_init) := ⟨List.mem_of_getElem? (i := 2) rfl, ep_X6_init⟩
set_option maxRecDepth 20000 in
theorem lk_8_50 : am_lok (8, 50, 5, E_X2_init) := ⟨List.mem_of_getElem? (i := 5) rfl, ep_X2_init⟩
set_option maxRecDepth 20000 in
theorem lk_8_57 : am_lok (8, 57, 5, E_X0_init) := ⟨List.mem_of_getElem? (i := 6) rfl, ep_X0_init⟩
set_option maxRecDepth 20000 in
theorem lk_8_64 : am_lok (8, 64, 5, E_X1_init) := ⟨List.mem_of_getElem? (i := 7) rfl, ep_X1_init⟩
set_option maxRecDepth 20000 in
theorem lk_8_69 : am_lok (8, 69, 0, E_X9_within) := ⟨am_wi 315 rfl rfl, ep_X9_within⟩
set_option maxRecDepth 20000 in
theorem lk_8_73 : am_lok (8, 73, 0, E_X9_isMeaning) := ⟨am_wi 318 rfl rfl, ep_X9_isMeaning⟩
set_option maxRecDepth 20000 in
theorem lk_8_77 : am_lok (8, 77, 0, E_X9_isRhyme) := ⟨am_wi 321 rfl rfl, ep_X9_isRhyme⟩
set_option maxRecDepth 20000 in
theorem lk_8_80 : am_lok (8, 80, 1, E_X4_put) := ⟨am_wi 324 rfl rfl, ep_X4_put⟩
set_option maxRecDepth 20000 in
theorem lk_8_84 : am_lok (8, 84, 1, E_X4_words) := ⟨am_wi 328 rfl rfl, ep_X4_words⟩
set_option maxRecDepth 20000 in
theorem lk_8_88 : am_lok (8, 88, 0, E_J6_bitCount_0f7a4) := ⟨am_wi 332 rfl rfl, ep_J6_bitCount_0f7a4⟩
set_option maxRecDepth 20000 in
theorem lk_8_94 : am_lok (8, 94, 1, E_X4_has) := ⟨am_wi 342 rfl rfl, ep_X4_has⟩
set_option maxRecDepth 20000 in
theorem lk_8_97 : am_lok (8, 97, 1, E_X4_drop) := ⟨am_wi 346 rfl rfl, ep_X4_drop⟩
set_option maxRecDepth 20000 in
theorem lk_8_101 : am_lok (8, 101, 1, E_X4_between) := ⟨am_wi 355 rfl rfl, ep_X4_between⟩
set_option maxRecDepth 20000 in
theorem lk_8_105 : am_lok (8, 105, 1, E_X4_part) := ⟨am_wi 359 rfl rfl, ep_X4_part⟩
set_option maxRecDepth 20000 in
theorem lk_8_116 : am_lok (8, 116, 1, E_X3_put) := ⟨am_wi 372 rfl rfl, ep_X3_put⟩
set_option maxRecDepth 20000 in
theorem lk_8_118 : am_lok (8, 118, 1, E_X3_size) := ⟨am_wi 376 rfl rfl, ep_X3_size⟩
set_option maxRecDepth 20000 in
theorem lk_8_121 : am_lok (8, 121, 1, E_X3_clear) := ⟨am_wi 384 rfl rfl, ep_X3_clear⟩
set_option maxRecDepth 20000 in
theorem lk_8_124 : am_lok (8, 124, 1, E_X3_sentenceFault) := ⟨am_wi 392 rfl rfl, ep_X3_sentenceFault⟩
set_option maxRecDepth 20000 in
theorem lk_8_128 : am_lok (8, 128, 1, E_X3_leasesFault) := ⟨am_wi 411 rfl rfl, ep_X3_leasesFault⟩
set_option maxRecDepth 20000 in
theorem lk_8_131 : am_lok (8, 131, 0, E_X9_isSpeaker) := ⟨am_wi 423 rfl rfl, ep_X9_isSpeaker⟩
set_option maxRecDepth 20000 in
theorem lk_8_134 : am_lok (8, 134, 1, E_X9_holdsSentence) := ⟨am_wi 429 rfl rfl, ep_X9_holdsSentence⟩
set_option maxRecDepth 20000 in
theorem lk_8_138 : am_lok (8, 138, 1, E_X3_words) := ⟨am_wi 433 rfl rfl, ep_X3_words⟩
set_option maxRecDepth 20000 in
theorem lk_8_139 : am_lok (8, 139, 1, E_X4_costing) := ⟨am_wi 441 rfl rfl, ep_X4_costing⟩
set_option maxRecDepth 20000 in
theorem lk_8_142 : am_lok (8, 142, 1, E_X7_paid) := ⟨am_wi 445 rfl rfl, ep_X7_paid⟩
set_option maxRecDepth 20000 in
theorem lk_8_146 : am_lok (8, 146, 0, E_X9_isFirm) := ⟨am_wi 426 rfl rfl, ep_X9_isFirm⟩
set_option maxRecDepth 20000 in
theorem lk_8_149 : am_lok (8, 149, 1, E_X6_nearest) := ⟨am_wi 478 rfl rfl, ep_X6_nearest⟩
set_option maxRecDepth 20000 in
theorem lk_8_159 : am_lok (8, 159, 1, E_X6_wordAt) := ⟨am_wi 534 rfl rfl, ep_X6_wordAt⟩
set_option maxRecDepth 20000 in
theorem lk_8_162 : am_lok (8, 162, 1, E_X6_affordable) := ⟨am_wi 542 rfl rfl, ep_X6_affordable⟩
set_option maxRecDepth 20000 in
theorem lk_8_172 : am_lok (8, 172, 1, E_X6_misprinted) := ⟨am_wi 558 rfl rfl, ep_X6_misprinted⟩
set_option maxRecDepth 20000 in
theorem lk_8_182 : am_lok (8, 182, 1, E_X9_leasesCanBe) := ⟨am_wi 573 rfl rfl, ep_X9_leasesCanBe⟩
set_option maxRecDepth 20000 in
theorem lk_8_191 : am_lok (8, 191, 1, E_X4_copy) := ⟨am_wi 577 rfl rfl, ep_X4_copy⟩
set_option maxRecDepth 20000 in
theorem lk_8_195 : am_lok (8, 195, 1, E_X4_property) := ⟨am_wi 627 rfl rfl, ep_X4_property⟩
set_option maxRecDepth 20000 in
theorem lk_8_198 : am_lok (8, 198, 1, E_X4_passDay) := ⟨am_wi 645 rfl rfl, ep_X4_passDay⟩
set_option maxRecDepth 20000 in
theorem lk_8_201 : am_lok (8, 201, 1, E_X0_watchRents) := ⟨am_wi 650 rfl rfl, ep_X0_watchRents⟩
set_option maxRecDepth 20000 in
theorem lk_8_209 : am_lok (8, 209, 1, E_X4_enlist) := ⟨am_wi 672 rfl rfl, ep_X4_enlist⟩
set_option maxRecDepth 20000 in
theorem lk_8_215 : am_lok (8, 215, 1, E_X4_meetsList) := ⟨am_wi 680 rfl rfl, ep_X4_meetsList⟩
set_option maxRecDepth 20000 in
theorem lk_8_218 : am_lok (8, 218, 1, E_X4_sentencesWithout) := ⟨am_wi 688 rfl rfl, ep_X4_sentencesWithout⟩
set_option maxRecDepth 20000 in
theorem lk_8_221 : am_lok (8, 221, 1, E_X4_addSight) := ⟨am_wi 705 rfl rfl, ep_X4_addSight⟩
set_option maxRecDepth 20000 in
theorem lk_8_228 : am_lok (8, 228, 1, E_X4_firmSeen) := ⟨am_wi 717 rfl rfl, ep_X4_firmSeen⟩
set_option maxRecDepth 20000 in
theorem lk_8_231 : am_lok (8, 231, 1, E_X4_wordsSeen) := ⟨am_wi 721 rfl rfl, ep_X4_wordsSeen⟩
set_option maxRecDepth 20000 in
theorem lk_8_234 : am_lok (8, 234, 1, E_X6_spoken) := ⟨am_wi 725 rfl rfl, ep_X6_spoken⟩
set_option maxRecDepth 20000 in
theorem lk_8_237 : am_lok (8, 237, 1, E_X4_sightsAllow) := ⟨am_wi 733 rfl rfl, ep_X4_sightsAllow⟩
set_option maxRecDepth 20000 in
theorem lk_8_244 : am_lok (8, 244, 1, E_X1_reckon) := ⟨am_wi 743 rfl rfl, ep_X1_reckon⟩
set_option maxRecDepth 20000 in
theorem lk_8_255 : am_lok (8, 255, 1, E_X4_areRivals) := ⟨am_wi 777 rfl rfl, ep_X4_areRivals⟩
set_option maxRecDepth 20000 in
theorem lk_8_258 : am_lok (8, 258, 0, E_X5_restOrCount) := ⟨am_wi 786 rfl rfl, ep_X5_restOrCount⟩
set_option maxRecDepth 20000 in
theorem lk_8_263 : am_lok (8, 263, 1, E_X0_drawDays) := ⟨am_wi 802 rfl rfl, ep_X0_drawDays⟩
set_option maxRecDepth 20000 in
theorem lk_8_272 : am_lok (8, 272, 1, E_X4_allRents) := ⟨am_wi 814 rfl rfl, ep_X4_allRents⟩
set_option maxRecDepth 20000 in
theorem lk_8_278 : am_lok (8, 278, 1, E_X9_toldOfWord) := ⟨am_wi 830 rfl rfl, ep_X9_toldOfWord⟩
set_option maxRecDepth 20000 in
theorem lk_8_281 : am_lok (8, 281, 1, E_X9_toldOfFar) := ⟨am_wi 836 rfl rfl, ep_X9_toldOfFar⟩
set_option maxRecDepth 20000 in
theorem lk_8_284 : am_lok (8, 284, 1, E_X4_sortOf) := ⟨am_wi 834 rfl rfl, ep_X4_sortOf⟩
set_option maxRecDepth 20000 in
theorem lk_8_287 : am_lok (8, 287, 1, E_X4_rhymeOf) := ⟨am_wi 835 rfl rfl, ep_X4_rhymeOf⟩
set_option maxRecDepth 20000 in
theorem lk_8_290 : am_lok (8, 290, 1, E_X2_play) := ⟨am_wi 584 rfl rfl, ep_X2_play⟩
set_option maxRecDepth 20000 in
theorem lk_9_1 : am_lok (9, 1, 6, E_X0_daysSinceLike) := ⟨am_wi 845 rfl rfl, w_objI, w_objC⟩
set_option maxRecDepth 20000 in
theorem lk_9_75 : am_lok (9, 75, 0, E_X10_in) := ⟨am_wi 941 rfl rfl, ep_X10_in⟩
set_option maxRecDepth 20000 in
theorem lk_9_82 : am_lok (9, 82, 0, E_X10_has) := ⟨am_wi 955 rfl rfl, ep_X10_has⟩
set_option maxRecDepth 20000 in
theorem lk_9_86 : am_lok (9, 86, 0, E_X10_bits) := ⟨am_wi 944 rfl rfl, ep_X10_bits⟩
set_option maxRecDepth 20000 in
theorem lk_9_90 : am_lok (9, 90, 1, E_X10_isWord) := ⟨am_wi 951 rfl rfl, ep_X10_isWord⟩
set_option maxRecDepth 20000 in
theorem lk_9_97 : am_lok (9, 97, 0, E_X10_sortAt) := ⟨am_wi 982 rfl rfl, ep_X10_sortAt⟩
set_option maxRecDepth 20000 in
theorem lk_9_100 : am_lok (9, 100, 1, E_X10_sentenceFault) := ⟨am_wi 978 rfl rfl, ep_X10_sentenceFault⟩
set_option maxRecDepth 20000 in
theorem lk_9_104 : am_lok (9, 104, 1, E_X10_leaseFault) := ⟨am_wi 985 rfl rfl, ep_X10_leaseFault⟩
set_option maxRecDepth 20000 in
theorem lk_9_110 : am_lok (9, 110, 1, E_X10_costs) := ⟨am_wi 1009 rfl rfl, ep_X10_costs⟩
set_option maxRecDepth 20000 in
theorem lk_9_113 : am_lok (9, 113, 1, E_X10_inRow) := ⟨am_wi 1001 rfl rfl, ep_X10_inRow⟩
set_option maxRecDepth 20000 in
theorem lk_9_116 : am_lok (9, 116, 1, E_X10_paid) := ⟨am_wi 1005 rfl rfl, ep_X10_paid⟩
set_option maxRecDepth 20000 in
theorem lk_9_120 : am_lok (9, 120, 1, E_X10_lay) := ⟨am_wi 993 rfl rfl, ep_X10_lay⟩
set_option maxRecDepth 20000 in
theorem lk_9_123 : am_lok (9, 123, 1, E_X10_priceOf) := ⟨am_wi 997 rfl rfl, ep_X10_priceOf⟩
set_option maxRecDepth 20000 in
theorem lk_9_129 : am_lok (9, 129, 0, E_X10_codes) := ⟨am_wi 1022 rfl rfl, ep_X10_codes⟩
set_option maxRecDepth 20000 in
theorem lk_9_132 : am_lok (9, 132, 1, E_X10_layRow) := ⟨am_wi 1026 rfl rfl, ep_X10_layRow⟩
set_option maxRecDepth 20000 in
theorem lk_9_135 : am_lok (9, 135, 1, E_X10_off) := ⟨am_wi 1030 rfl rfl, ep_X10_off⟩
set_option maxRecDepth 20000 in
theorem lk_9_144 : am_lok (9, 144, 1, E_X10_isUndercut) := ⟨am_wi 1058 rfl rfl, ep_X10_isUndercut⟩
set_option maxRecDepth 20000 in
theorem lk_9_147 : am_lok (9, 147, 1, E_X10_asNow) := ⟨am_wi 1050 rfl rfl, ep_X10_asNow⟩
set_option maxRecDepth 20000 in
theorem lk_9_156 : am_lok (9, 156, 1, E_X10_pass) := ⟨am_wi 1054 rfl rfl, ep_X10_pass⟩
set_option maxRecDepth 20000 in
theorem lk_9_160 : am_lok (9, 160, 1, E_X10_whyNot) := ⟨am_wi 1062 rfl rfl, ep_X10_whyNot⟩
set_option maxRecDepth 20000 in
theorem lk_9_163 : am_lok (9, 163, 1, E_X10_act) := ⟨am_wi 1066 rfl rfl, ep_X10_act⟩
set_option maxRecDepth 20000 in
theorem lk_9_167 : am_lok (9, 167, 1, E_X10_goLeases) := ⟨am_wi 1046 rfl rfl, ep_X10_goLeases⟩
set_option maxRecDepth 20000 in
theorem lk_9_170 : am_lok (9, 170, 1, E_X10_barOfLeases) := ⟨am_wi 1074 rfl rfl, ep_X10_barOfLeases⟩
set_option maxRecDepth 20000 in
theorem lk_9_173 : am_lok (9, 173, 1, E_X10_stateNow) := ⟨am_wi 1082 rfl rfl, ep_X10_stateNow⟩
set_option maxRecDepth 20000 in
theorem lk_9_176 : am_lok (9, 176, 1, E_X10_settlesOn) := ⟨am_wi 1098 rfl rfl, ep_X10_settlesOn⟩
set_option maxRecDepth 20000 in
theorem lk_9_179 : am_lok (9, 179, 1, E_X10_note) := ⟨am_wi 1106 rfl rfl, ep_X10_note⟩
set_option maxRecDepth 20000 in
theorem lk_9_183 : am_lok (9, 183, 1, E_X10_areAlike) := ⟨am_wi 1110 rfl rfl, ep_X10_areAlike⟩
set_option maxRecDepth 20000 in
theorem lk_9_189 : am_lok (9, 189, 1, E_X10_wordsOf) := ⟨am_wi 1122 rfl rfl, ep_X10_wordsOf⟩
set_option maxRecDepth 20000 in
theorem lk_9_192 : am_lok (9, 192, 1, E_X10_withoutThese) := ⟨am_wi 1130 rfl rfl, ep_X10_withoutThese⟩
set_option maxRecDepth 20000 in
theorem lk_9_198 : am_lok (9, 198, 1, E_X10_costing) := ⟨am_wi 1150 rfl rfl, ep_X10_costing⟩
set_option maxRecDepth 20000 in
theorem lk_9_207 : am_lok (9, 207, 1, E_X10_canSay) := ⟨am_wi 1165 rfl rfl, ep_X10_canSay⟩
set_option maxRecDepth 20000 in
theorem lk_9_212 : am_lok (9, 212, 0, E_X10_income) := ⟨am_wi 1177 rfl rfl, ep_X10_income⟩
set_option maxRecDepth 20000 in
theorem lk_9_216 : am_lok (9, 216, 0, E_X10_rest) := ⟨am_wi 1174 rfl rfl, ep_X10_rest⟩
set_option maxRecDepth 20000 in
theorem lk_10_9 : am_lok (10, 9, 0, E_X5_isAtRest) := ⟨am_wi 789 rfl rfl, ep_X5_isAtRest⟩
set_option maxRecDepth 20000 in
theorem lk_10_15 : am_lok (10, 15, 0, E_X5_takings) := ⟨am_wi 792 rfl rfl, ep_X5_takings⟩
set_option maxRecDepth 20000 in
theorem lk_10_19 : am_lok (10, 19, 8, E_X0_daysSinceLike) := ⟨am_wi 795 rfl rfl, am_wi 796 rfl rfl, am_wi 61 rfl rfl, am_wi 797 (by decide +kernel) rfl⟩
set_option maxRecDepth 20000 in
theorem lk_11_9 : am_lok (11, 9, 2, E_X9_init) := ⟨am_wi 64 rfl rfl, ep_X9_init⟩
set_option maxRecDepth 20000 in
theorem lk_11_12 : am_lok (11, 12, 2, E_X10_init) := ⟨am_wi 842 rfl rfl, ep_X10_init⟩
set_option maxRecDepth 20000 in
theorem lk_11_13 : am_lok (11, 13, 1, E_X9_word) := ⟨am_wi 311 rfl rfl, ep_X9_word⟩
set_option maxRecDepth 20000 in
theorem lk_11_17 : am_lok (11, 17, 1, E_X10_word) := ⟨am_wi 937 rfl rfl, ep_X10_word⟩
set_option maxRecDepth 20000 in
theorem lk_11_18 : am_lok (11, 18, 1, E_X9_strikeOut) := ⟨am_wi 338 rfl rfl, ep_X9_strikeOut⟩
set_option maxRecDepth 20000 in
theorem lk_11_22 : am_lok (11, 22, 1, E_X10_strikeOut) := ⟨am_wi 947 rfl rfl, ep_X10_strikeOut⟩
set_option maxRecDepth 20000 in
theorem lk_11_23 : am_lok (11, 23, 1, E_X9_far) := ⟨am_wi 351 rfl rfl, ep_X9_far⟩
set_option maxRecDepth 20000 in
theorem lk_11_27 : am_lok (11, 27, 1, E_X10_far) := ⟨am_wi 958 rfl rfl, ep_X10_far⟩
set_option maxRecDepth 20000 in
theorem lk_11_28 : am_lok (11, 28, 1, E_X9_set) := ⟨am_wi 364 rfl rfl, ep_X9_set⟩
set_option maxRecDepth 20000 in
theorem lk_11_32 : am_lok (11, 32, 1, E_X10_set) := ⟨am_wi 962 rfl rfl, ep_X10_set⟩
set_option maxRecDepth 20000 in
theorem lk_11_33 : am_lok (11, 33, 1, E_X9_say) := ⟨am_wi 368 rfl rfl, ep_X9_say⟩
set_option maxRecDepth 20000 in
theorem lk_11_36 : am_lok (11, 36, 1, E_X10_say) := ⟨am_wi 966 rfl rfl, ep_X10_say⟩
set_option maxRecDepth 20000 in
theorem lk_11_37 : am_lok (11, 37, 1, E_X9_wipe) := ⟨am_wi 380 rfl rfl, ep_X9_wipe⟩
set_option maxRecDepth 20000 in
theorem lk_11_41 : am_lok (11, 41, 1, E_X10_wipe) := ⟨am_wi 970 rfl rfl, ep_X10_wipe⟩
set_option maxRecDepth 20000 in
theorem lk_11_42 : am_lok (11, 42, 1, E_X9_fault) := ⟨am_wi 388 rfl rfl, ep_X9_fault⟩
set_option maxRecDepth 20000 in
theorem lk_11_45 : am_lok (11, 45, 1, E_X10_fault) := ⟨am_wi 974 rfl rfl, ep_X10_fault⟩
set_option maxRecDepth 20000 in
theorem lk_11_46 : am_lok (11, 46, 1, E_X9_price) := ⟨am_wi 419 rfl rfl, ep_X9_price⟩
set_option maxRecDepth 20000 in
theorem lk_11_49 : am_lok (11, 49, 1, E_X10_price) := ⟨am_wi 989 rfl rfl, ep_X10_price⟩
set_option maxRecDepth 20000 in
theorem lk_11_50 : am_lok (11, 50, 1, E_X9_gets) := ⟨am_wi 470 rfl rfl, ep_X9_gets⟩
set_option maxRecDepth 20000 in
theorem lk_11_53 : am_lok (11, 53, 1, E_X10_gets) := ⟨am_wi 1013 rfl rfl, ep_X10_gets⟩
set_option maxRecDepth 20000 in
theorem lk_11_54 : am_lok (11, 54, 1, E_X9_nearly) := ⟨am_wi 474 rfl rfl, ep_X9_nearly⟩
set_option maxRecDepth 20000 in
theorem lk_11_57 : am_lok (11, 57, 1, E_X10_nearly) := ⟨am_wi 1017 rfl rfl, ep_X10_nearly⟩
set_option maxRecDepth 20000 in
theorem lk_11_58 : am_lok (11, 58, 1, E_X9_said) := ⟨am_wi 538 rfl rfl, ep_X9_said⟩
set_option maxRecDepth 20000 in
theorem lk_11_61 : am_lok (11, 61, 1, E_X10_said) := ⟨am_wi 1034 rfl rfl, ep_X10_said⟩
set_option maxRecDepth 20000 in
theorem lk_11_62 : am_lok (11, 62, 1, E_X9_misprints) := ⟨am_wi 554 rfl rfl, ep_X9_misprints⟩
set_option maxRecDepth 20000 in
theorem lk_11_65 : am_lok (11, 65, 1, E_X10_misprints) := ⟨am_wi 1038 rfl rfl, ep_X10_misprints⟩
set_option maxRecDepth 20000 in
theorem lk_11_66 : am_lok (11, 66, 1, E_X9_judge) := ⟨am_wi 569 rfl rfl, ep_X9_judge⟩
set_option maxRecDepth 20000 in
theorem lk_11_69 : am_lok (11, 69, 1, E_X10_judge) := ⟨am_wi 1042 rfl rfl, ep_X10_judge⟩
set_option maxRecDepth 20000 in
theorem lk_11_70 : am_lok (11, 70, 1, E_X9_done) := ⟨am_wi 619 rfl rfl, ep_X9_done⟩
set_option maxRecDepth 20000 in
theorem lk_11_73 : am_lok (11, 73, 1, E_X10_done) := ⟨am_wi 1070 rfl rfl, ep_X10_done⟩
set_option maxRecDepth 20000 in
theorem lk_11_74 : am_lok (11, 74, 1, E_X9_state) := ⟨am_wi 623 rfl rfl, ep_X9_state⟩
set_option maxRecDepth 20000 in
theorem lk_11_77 : am_lok (11, 77, 1, E_X10_state) := ⟨am_wi 1078 rfl rfl, ep_X10_state⟩
set_option maxRecDepth 20000 in
theorem lk_11_78 : am_lok (11, 78, 1, E_X9_behind) := ⟨am_wi 637 rfl rfl, ep_X9_behind⟩
set_option maxRecDepth 20000 in
theorem lk_11_81 : am_lok (11, 81, 1, E_X10_behind) := ⟨am_wi 1086 rfl rfl, ep_X10_behind⟩
set_option maxRecDepth 20000 in
theorem lk_11_82 : am_lok (11, 82, 1, E_X9_after) := ⟨am_wi 641 rfl rfl, ep_X9_after⟩
set_option maxRecDepth 20000 in
theorem lk_11_85 : am_lok (11, 85, 1, E_X10_after) := ⟨am_wi 1090 rfl rfl, ep_X10_after⟩
set_option maxRecDepth 20000 in
theorem lk_11_86 : am_lok (11, 86, 1, E_X9_settles) := ⟨am_wi 646 rfl rfl, ep_X9_settles⟩
set_option maxRecDepth 20000 in
theorem lk_11_89 : am_lok (11, 89, 1, E_X10_settles) := ⟨am_wi 1094 rfl rfl, ep_X10_settles⟩
set_option maxRecDepth 20000 in
theorem lk_11_90 : am_lok (11, 90, 1, E_X9_round) := ⟨am_wi 664 rfl rfl, ep_X9_round⟩
set_option maxRecDepth 20000 in
theorem lk_11_93 : am_lok (11, 93, 1, E_X10_round) := ⟨am_wi 1102 rfl rfl, ep_X10_round⟩
set_option maxRecDepth 20000 in
theorem lk_11_94 : am_lok (11, 94, 1, E_X9_list) := ⟨am_wi 668 rfl rfl, ep_X9_list⟩
set_option maxRecDepth 20000 in
theorem lk_11_97 : am_lok (11, 97, 1, E_X10_list) := ⟨am_wi 1114 rfl rfl, ep_X10_list⟩
set_option maxRecDepth 20000 in
theorem lk_11_98 : am_lok (11, 98, 1, E_X9_held) := ⟨am_wi 676 rfl rfl, ep_X9_held⟩
set_option maxRecDepth 20000 in
theorem lk_11_101 : am_lok (11, 101, 1, E_X10_held) := ⟨am_wi 1118 rfl rfl, ep_X10_held⟩
set_option maxRecDepth 20000 in
theorem lk_11_102 : am_lok (11, 102, 1, E_X9_strike) := ⟨am_wi 684 rfl rfl, ep_X9_strike⟩
set_option maxRecDepth 20000 in
theorem lk_11_105 : am_lok (11, 105, 1, E_X10_strike) := ⟨am_wi 1126 rfl rfl, ep_X10_strike⟩
set_option maxRecDepth 20000 in
theorem lk_11_106 : am_lok (11, 106, 1, E_X9_worst) := ⟨am_wi 697 rfl rfl, ep_X9_worst⟩
set_option maxRecDepth 20000 in
theorem lk_11_109 : am_lok (11, 109, 1, E_X10_worst) := ⟨am_wi 1134 rfl rfl, ep_X10_worst⟩
set_option maxRecDepth 20000 in
theorem lk_11_110 : am_lok (11, 110, 1, E_X9_seen) := ⟨am_wi 701 rfl rfl, ep_X9_seen⟩
set_option maxRecDepth 20000 in
theorem lk_11_113 : am_lok (11, 113, 1, E_X10_seen) := ⟨am_wi 1138 rfl rfl, ep_X10_seen⟩
set_option maxRecDepth 20000 in
theorem lk_11_114 : am_lok (11, 114, 1, E_X9_forget) := ⟨am_wi 709 rfl rfl, ep_X9_forget⟩
set_option maxRecDepth 20000 in
theorem lk_11_117 : am_lok (11, 117, 1, E_X10_forget) := ⟨am_wi 1142 rfl rfl, ep_X10_forget⟩
set_option maxRecDepth 20000 in
theorem lk_11_118 : am_lok (11, 118, 1, E_X9_spoke) := ⟨am_wi 713 rfl rfl, ep_X9_spoke⟩
set_option maxRecDepth 20000 in
theorem lk_11_121 : am_lok (11, 121, 1, E_X10_spoke) := ⟨am_wi 1146 rfl rfl, ep_X10_spoke⟩
set_option maxRecDepth 20000 in
theorem lk_11_122 : am_lok (11, 122, 1, E_X9_who) := ⟨am_wi 729 rfl rfl, ep_X9_who⟩
set_option maxRecDepth 20000 in
theorem lk_11_125 : am_lok (11, 125, 1, E_X10_who) := ⟨am_wi 1154 rfl rfl, ep_X10_who⟩
set_option maxRecDepth 20000 in
theorem lk_11_126 : am_lok (11, 126, 1, E_X9_let) := ⟨am_wi 737 rfl rfl, ep_X9_let⟩
set_option maxRecDepth 20000 in
theorem lk_11_130 : am_lok (11, 130, 1, E_X10_let) := ⟨am_wi 1158 rfl rfl, ep_X10_let⟩
set_option maxRecDepth 20000 in
theorem lk_11_131 : am_lok (11, 131, 1, E_X9_rests) := ⟨am_wi 773 rfl rfl, ep_X9_rests⟩
set_option maxRecDepth 20000 in
theorem lk_11_134 : am_lok (11, 134, 1, E_X10_rests) := ⟨am_wi 1170 rfl rfl, ep_X10_rests⟩
set_option maxRecDepth 20000 in
theorem lk_11_135 : am_lok (11, 135, 1, E_X9_year) := ⟨am_wi 798 rfl rfl, ep_X9_year⟩
set_option maxRecDepth 20000 in
theorem lk_11_138 : am_lok (11, 138, 1, E_X10_year) := ⟨am_wi 1180 rfl rfl, ep_X10_year⟩
set_option maxRecDepth 20000 in
theorem lk_11_139 : am_lok (11, 139, 1, E_X9_image) := ⟨am_wi 818 rfl rfl, ep_X9_image⟩
set_option maxRecDepth 20000 in
theorem lk_11_142 : am_lok (11, 142, 1, E_X10_image) := ⟨am_wi 1185 rfl rfl, ep_X10_image⟩
set_option maxRecDepth 20000 in
theorem lk_11_143 : am_lok (11, 143, 1, E_X9_restore) := ⟨am_wi 822 rfl rfl, ep_X9_restore⟩
set_option maxRecDepth 20000 in
theorem lk_11_146 : am_lok (11, 146, 1, E_X10_restore) := ⟨am_wi 1189 rfl rfl, ep_X10_restore⟩
set_option maxRecDepth 20000 in
theorem lk_11_147 : am_lok (11, 147, 1, E_X9_told) := ⟨am_wi 826 rfl rfl, ep_X9_told⟩
set_option maxRecDepth 20000 in
theorem lk_11_150 : am_lok (11, 150, 1, E_X10_told) := ⟨am_wi 1193 rfl rfl, ep_X10_told⟩
theorem am_mlk_ok0 : ∀ q ∈ am_mlk_0, am_lok q := List.forall_mem_cons.mpr ⟨lk_0_3, List.forall_mem_cons.mpr ⟨lk_0_22, List.forall_mem_cons.mpr ⟨lk_0_28, List.forall_mem_cons.mpr ⟨lk_0_31, List.forall_mem_cons.mpr ⟨lk_0_42, List.forall_mem_cons.mpr ⟨lk_0_46, List.forall_mem_cons.mpr ⟨lk_0_49, List.forall_mem_cons.mpr ⟨lk_0_53, List.forall_mem_cons.mpr ⟨lk_1_3, List.forall_mem_cons.mpr ⟨lk_1_15, List.forall_mem_cons.mpr ⟨lk_1_23, List.forall_mem_cons.mpr ⟨lk_1_30, List.forall_mem_cons.mpr ⟨lk_1_43, List.forall_mem_cons.mpr ⟨lk_1_47, List.forall_mem_cons.mpr ⟨lk_1_51, List.forall_mem_cons.mpr ⟨lk_1_56, List.forall_mem_cons.mpr ⟨lk_1_60, List.forall_mem_cons.mpr ⟨lk_1_63, List.forall_mem_cons.mpr ⟨lk_2_3, List.forall_mem_cons.mpr ⟨lk_2_18, List.forall_mem_cons.mpr ⟨lk_2_24, List.forall_mem_cons.mpr ⟨lk_2_28, List.forall_mem_cons.mpr ⟨lk_2_33, List.forall_mem_cons.mpr ⟨lk_2_36, List.forall_mem_cons.mpr ⟨lk_2_40, List.forall_mem_cons.mpr ⟨lk_2_44, List.forall_mem_cons.mpr ⟨lk_3_3, List.forall_mem_cons.mpr ⟨lk_3_19, List.forall_mem_cons.mpr ⟨lk_3_23, List.forall_mem_cons.mpr ⟨lk_3_27, List.forall_mem_cons.mpr ⟨lk_3_30, List.forall_mem_cons.mpr ⟨lk_3_34, List.forall_mem_cons.mpr ⟨lk_3_37, List.forall_mem_cons.mpr ⟨lk_3_43, List.forall_mem_cons.mpr ⟨lk_4_3, List.forall_mem_cons.mpr ⟨lk_4_52, List.forall_mem_cons.mpr ⟨lk_4_67, List.forall_mem_cons.mpr ⟨lk_4_71, List.forall_mem_cons.mpr ⟨lk_4_75, List.forall_mem_cons.mpr ⟨lk_4_78, List.forall_mem_cons.mpr ⟨lk_4_81, List.forall_mem_cons.mpr ⟨lk_4_85, List.forall_mem_cons.mpr ⟨lk_4_88, List.forall_mem_cons.mpr ⟨lk_4_93, List.forall_mem_cons.mpr ⟨lk_4_96, List.forall_mem_cons.mpr ⟨lk_4_99, List.forall_mem_cons.mpr ⟨lk_4_102, List.forall_mem_cons.mpr ⟨lk_4_108, List.forall_mem_cons.mpr ⟨lk_4_111, List.forall_mem_cons.mpr ⟨lk_4_114, List.forall_mem_cons.mpr ⟨lk_5_3, List.forall_mem_cons.mpr ⟨lk_5_11, List.forall_mem_cons.mpr ⟨lk_5_20, List.forall_mem_cons.mpr ⟨lk_5_39, List.forall_mem_cons.mpr ⟨lk_5_42, List.forall_mem_cons.mpr ⟨lk_5_46, List.forall_mem_cons.mpr ⟨lk_5_49, List.forall_mem_cons.mpr ⟨lk_5_55, List.forall_mem_cons.mpr ⟨lk_5_60, List.forall_mem_cons.mpr ⟨lk_5_65, fun _ h => absurd h List.not_mem_nil⟩⟩⟩⟩⟩⟩⟩⟩⟩⟩⟩⟩⟩⟩⟩⟩⟩⟩⟩⟩⟩⟩⟩⟩⟩⟩⟩⟩⟩⟩⟩⟩⟩⟩⟩⟩⟩⟩⟩⟩⟩⟩⟩⟩⟩⟩⟩⟩⟩⟩⟩⟩⟩⟩⟩⟩⟩⟩⟩⟩
theorem am_mlk_ok1 : ∀ q ∈ am_mlk_1, am_lok q := List.forall_mem_cons.mpr ⟨lk_5_69, List.forall_mem_cons.mpr ⟨lk_5_71, List.forall_mem_cons.mpr ⟨lk_5_75, List.forall_mem_cons.mpr ⟨lk_5_82, List.forall_mem_cons.mpr ⟨lk_5_88, List.forall_mem_cons.mpr ⟨lk_5_92, List.forall_mem_cons.mpr ⟨lk_5_93, List.forall_mem_cons.mpr ⟨lk_5_96, List.forall_mem_cons.mpr ⟨lk_5_100, List.forall_mem_cons.mpr ⟨lk_5_103, List.forall_mem_cons.mpr ⟨lk_5_106, List.forall_mem_cons.mpr ⟨lk_5_110, List.forall_mem_cons.mpr ⟨lk_5_113, List.forall_mem_cons.mpr ⟨lk_6_3, List.forall_mem_cons.mpr ⟨lk_6_15, List.forall_mem_cons.mpr ⟨lk_6_19, List.forall_mem_cons.mpr ⟨lk_6_25, List.forall_mem_cons.mpr ⟨lk_6_29, List.forall_mem_cons.mpr ⟨lk_6_32, List.forall_mem_cons.mpr ⟨lk_6_36, List.forall_mem_cons.mpr ⟨lk_7_3, List.forall_mem_cons.mpr ⟨lk_7_19, List.forall_mem_cons.mpr ⟨lk_7_23, List.forall_mem_cons.mpr ⟨lk_8_1, List.forall_mem_cons.mpr ⟨lk_8_9, List.forall_mem_cons.mpr ⟨lk_8_18, List.forall_mem_cons.mpr ⟨lk_8_36, List.forall_mem_cons.mpr ⟨lk_8_43, List.forall_mem_cons.mpr ⟨lk_8_50, List.forall_mem_cons.mpr ⟨lk_8_57, List.forall_mem_cons.mpr ⟨lk_8_64, List.forall_mem_cons.mpr ⟨lk_8_69, List.forall_mem_cons.mpr ⟨lk_8_73, List.forall_mem_cons.mpr ⟨lk_8_77, List.forall_mem_cons.mpr ⟨lk_8_80, List.forall_mem_cons.mpr ⟨lk_8_84, List.forall_mem_cons.mpr ⟨lk_8_88, List.forall_mem_cons.mpr ⟨lk_8_94, List.forall_mem_cons.mpr ⟨lk_8_97, List.forall_mem_cons.mpr ⟨lk_8_101, List.forall_mem_cons.mpr ⟨lk_8_105, List.forall_mem_cons.mpr ⟨lk_8_116, List.forall_mem_cons.mpr ⟨lk_8_118, List.forall_mem_cons.mpr ⟨lk_8_121, List.forall_mem_cons.mpr ⟨lk_8_124, List.forall_mem_cons.mpr ⟨lk_8_128, List.forall_mem_cons.mpr ⟨lk_8_131, List.forall_mem_cons.mpr ⟨lk_8_134, List.forall_mem_cons.mpr ⟨lk_8_138, List.forall_mem_cons.mpr ⟨lk_8_139, List.forall_mem_cons.mpr ⟨lk_8_142, List.forall_mem_cons.mpr ⟨lk_8_146, List.forall_mem_cons.mpr ⟨lk_8_149, List.forall_mem_cons.mpr ⟨lk_8_159, List.forall_mem_cons.mpr ⟨lk_8_162, List.forall_mem_cons.mpr ⟨lk_8_172, List.forall_mem_cons.mpr ⟨lk_8_182, List.forall_mem_cons.mpr ⟨lk_8_191, List.forall_mem_cons.mpr ⟨lk_8_195, List.forall_mem_cons.mpr ⟨lk_8_198, fun _ h => absurd h List.not_mem_nil⟩⟩⟩⟩⟩⟩⟩⟩⟩⟩⟩⟩⟩⟩⟩⟩⟩⟩⟩⟩⟩⟩⟩⟩⟩⟩⟩⟩⟩⟩⟩⟩⟩⟩⟩⟩⟩⟩⟩⟩⟩⟩⟩⟩⟩⟩⟩⟩⟩⟩⟩⟩⟩⟩⟩⟩⟩⟩⟩⟩
theorem am_mlk_ok2 : ∀ q ∈ am_mlk_2, am_lok q := List.forall_mem_cons.mpr ⟨lk_8_201, List.forall_mem_cons.mpr ⟨lk_8_209, List.forall_mem_cons.mpr ⟨lk_8_215, List.forall_mem_cons.mpr ⟨lk_8_218, List.forall_mem_cons.mpr ⟨lk_8_221, List.forall_mem_cons.mpr ⟨lk_8_228, List.forall_mem_cons.mpr ⟨lk_8_231, List.forall_mem_cons.mpr ⟨lk_8_234, List.forall_mem_cons.mpr ⟨lk_8_237, List.forall_mem_cons.mpr ⟨lk_8_244, List.forall_mem_cons.mpr ⟨lk_8_255, List.forall_mem_cons.mpr ⟨lk_8_258, List.forall_mem_cons.mpr ⟨lk_8_263, List.forall_mem_cons.mpr ⟨lk_8_272, List.forall_mem_cons.mpr ⟨lk_8_278, List.forall_mem_cons.mpr ⟨lk_8_281, List.forall_mem_cons.mpr ⟨lk_8_284, List.forall_mem_cons.mpr ⟨lk_8_287, List.forall_mem_cons.mpr ⟨lk_8_290, List.forall_mem_cons.mpr ⟨lk_9_1, List.forall_mem_cons.mpr ⟨lk_9_75, List.forall_mem_cons.mpr ⟨lk_9_82, List.forall_mem_cons.mpr ⟨lk_9_86, List.forall_mem_cons.mpr ⟨lk_9_90, List.forall_mem_cons.mpr ⟨lk_9_97, List.forall_mem_cons.mpr ⟨lk_9_100, List.forall_mem_cons.mpr ⟨lk_9_104, List.forall_mem_cons.mpr ⟨lk_9_110, List.forall_mem_cons.mpr ⟨lk_9_113, List.forall_mem_cons.mpr ⟨lk_9_116, List.forall_mem_cons.mpr ⟨lk_9_120, List.forall_mem_cons.mpr ⟨lk_9_123, List.forall_mem_cons.mpr ⟨lk_9_129, List.forall_mem_cons.mpr ⟨lk_9_132, List.forall_mem_cons.mpr ⟨lk_9_135, List.forall_mem_cons.mpr ⟨lk_9_144, List.forall_mem_cons.mpr ⟨lk_9_147, List.forall_mem_cons.mpr ⟨lk_9_156, List.forall_mem_cons.mpr ⟨lk_9_160, List.forall_mem_cons.mpr ⟨lk_9_163, List.forall_mem_cons.mpr ⟨lk_9_167, List.forall_mem_cons.mpr ⟨lk_9_170, List.forall_mem_cons.mpr ⟨lk_9_173, List.forall_mem_cons.mpr ⟨lk_9_176, List.forall_mem_cons.mpr ⟨lk_9_179, List.forall_mem_cons.mpr ⟨lk_9_183, List.forall_mem_cons.mpr ⟨lk_9_189, List.forall_mem_cons.mpr ⟨lk_9_192, List.forall_mem_cons.mpr ⟨lk_9_198, List.forall_mem_cons.mpr ⟨lk_9_207, List.forall_mem_cons.mpr ⟨lk_9_212, List.forall_mem_cons.mpr ⟨lk_9_216, List.forall_mem_cons.mpr ⟨lk_10_9, List.forall_mem_cons.mpr ⟨lk_10_15, List.forall_mem_cons.mpr ⟨lk_10_19, List.forall_mem_cons.mpr ⟨lk_11_9, List.forall_mem_cons.mpr ⟨lk_11_12, List.forall_mem_cons.mpr ⟨lk_11_13, List.forall_mem_cons.mpr ⟨lk_11_17, List.forall_mem_cons.mpr ⟨lk_11_18, fun _ h => absurd h List.not_mem_nil⟩⟩⟩⟩⟩⟩⟩⟩⟩⟩⟩⟩⟩⟩⟩⟩⟩⟩⟩⟩⟩⟩⟩⟩⟩⟩⟩⟩⟩⟩⟩⟩⟩⟩⟩⟩⟩⟩⟩⟩⟩⟩⟩⟩⟩⟩⟩⟩⟩⟩⟩⟩⟩⟩⟩⟩⟩⟩⟩⟩
theorem am_mlk_ok3 : ∀ q ∈ am_mlk_3, am_lok q := List.forall_mem_cons.mpr ⟨lk_11_22, List.forall_mem_cons.mpr ⟨lk_11_23, List.forall_mem_cons.mpr ⟨lk_11_27, List.forall_mem_cons.mpr ⟨lk_11_28, List.forall_mem_cons.mpr ⟨lk_11_32, List.forall_mem_cons.mpr ⟨lk_11_33, List.forall_mem_cons.mpr ⟨lk_11_36, List.forall_mem_cons.mpr ⟨lk_11_37, List.forall_mem_cons.mpr ⟨lk_11_41, List.forall_mem_cons.mpr ⟨lk_11_42, List.forall_mem_cons.mpr ⟨lk_11_45, List.forall_mem_cons.mpr ⟨lk_11_46, List.forall_mem_cons.mpr ⟨lk_11_49, List.forall_mem_cons.mpr ⟨lk_11_50, List.forall_mem_cons.mpr ⟨lk_11_53, List.forall_mem_cons.mpr ⟨lk_11_54, List.forall_mem_cons.mpr ⟨lk_11_57, List.forall_mem_cons.mpr ⟨lk_11_58, List.forall_mem_cons.mpr ⟨lk_11_61, List.forall_mem_cons.mpr ⟨lk_11_62, List.forall_mem_cons.mpr ⟨lk_11_65, List.forall_mem_cons.mpr ⟨lk_11_66, List.forall_mem_cons.mpr ⟨lk_11_69, List.forall_mem_cons.mpr ⟨lk_11_70, List.forall_mem_cons.mpr ⟨lk_11_73, List.forall_mem_cons.mpr ⟨lk_11_74, List.forall_mem_cons.mpr ⟨lk_11_77, List.forall_mem_cons.mpr ⟨lk_11_78, List.forall_mem_cons.mpr ⟨lk_11_81, List.forall_mem_cons.mpr ⟨lk_11_82, List.forall_mem_cons.mpr ⟨lk_11_85, List.forall_mem_cons.mpr ⟨lk_11_86, List.forall_mem_cons.mpr ⟨lk_11_89, List.forall_mem_cons.mpr ⟨lk_11_90, List.forall_mem_cons.mpr ⟨lk_11_93, List.forall_mem_cons.mpr ⟨lk_11_94, List.forall_mem_cons.mpr ⟨lk_11_97, List.forall_mem_cons.mpr ⟨lk_11_98, List.forall_mem_cons.mpr ⟨lk_11_101, List.forall_mem_cons.mpr ⟨lk_11_102, List.forall_mem_cons.mpr ⟨lk_11_105, List.forall_mem_cons.mpr ⟨lk_11_106, List.forall_mem_cons.mpr ⟨lk_11_109, List.forall_mem_cons.mpr ⟨lk_11_110, List.forall_mem_cons.mpr ⟨lk_11_113, List.forall_mem_cons.mpr ⟨lk_11_114, List.forall_mem_cons.mpr ⟨lk_11_117, List.forall_mem_cons.mpr ⟨lk_11_118, List.forall_mem_cons.mpr ⟨lk_11_121, List.forall_mem_cons.mpr ⟨lk_11_122, List.forall_mem_cons.mpr ⟨lk_11_125, List.forall_mem_cons.mpr ⟨lk_11_126, List.forall_mem_cons.mpr ⟨lk_11_130, List.forall_mem_cons.mpr ⟨lk_11_131, List.forall_mem_cons.mpr ⟨lk_11_134, List.forall_mem_cons.mpr ⟨lk_11_135, List.forall_mem_cons.mpr ⟨lk_11_138, List.forall_mem_cons.mpr ⟨lk_11_139, List.forall_mem_cons.mpr ⟨lk_11_142, List.forall_mem_cons.mpr ⟨lk_11_143, fun _ h => absurd h List.not_mem_nil⟩⟩⟩⟩⟩⟩⟩⟩⟩⟩⟩⟩⟩⟩⟩⟩⟩⟩⟩⟩⟩⟩⟩⟩⟩⟩⟩⟩⟩⟩⟩⟩⟩⟩⟩⟩⟩⟩⟩⟩⟩⟩⟩⟩⟩⟩⟩⟩⟩⟩⟩⟩⟩⟩⟩⟩⟩⟩⟩⟩
theorem am_mlk_ok4 : ∀ q ∈ am_mlk_4, am_lok q := List.forall_mem_cons.mpr ⟨lk_11_146, List.forall_mem_cons.mpr ⟨lk_11_147, List.forall_mem_cons.mpr ⟨lk_11_150, fun _ h => absurd h List.not_mem_nil⟩⟩⟩
theorem am_mlk_ok : ∀ q ∈ am_mlkL, am_lok q := List.forall_mem_append.mpr ⟨List.forall_mem_append.mpr ⟨List.forall_mem_append.mpr ⟨List.forall_mem_append.mpr ⟨am_mlk_ok0, am_mlk_ok1⟩, am_mlk_ok2⟩, am_mlk_ok3⟩, am_mlk_ok4⟩
theorem am_mlk_spec {o i k : Nat} {e : am_E} (h : am_mlk o i = some (k, e)) : am_lok (o, i, k, e) := by
  simp only [am_mlk, Option.map_eq_some_iff] at h
  obtain ⟨q, hq, he⟩ := h
  have hm := List.mem_of_find?_eq_some hq
  have hp := List.find?_some hq
  simp only [Bool.and_eq_true, beq_iff_eq] at hp
  obtain ⟨a, b, c, d⟩ := q
  obtain ⟨rfl, rfl⟩ := hp
  cases he
  exact am_mlk_ok _ hm
def am_tyc : Nat → FieldType → Bool
  | 0, .int => true
  | 1, .long => true
  | 2, .object _ => true
  | 2, .array _ => true
  | _, _ => false
/-- a field: its class's row, its place, its word -/
def am_fok (q : Nat × Nat × Nat × Nat × Nat × Bool) : Prop := ∃ c : vw_C, vwCl[q.2.2.1]? = some c ∧ q.2.2.2.1 < c.2.2 ∧ (c.2.1 q.2.2.2.1).1 = c.1 ∧ (c.2.1 q.2.2.2.1).2.2.2 = q.2.2.2.2.2 ∧ (am_fty q.2.2.1).getD q.2.2.2.1 9 = q.2.2.2.2.1 ∧
  ((Cond.fieldLink (am_nm q.1) q.2.1 c.1 (c.2.1 q.2.2.2.1).2.1 (c.2.1 q.2.2.2.1).2.2.1 ∈ am_G ∧ (q.2.2.2.2.2 = true → c.1 = am_nm q.1)) ∨ ((am_nm q.1, q.2.1, c.1, (c.2.1 q.2.2.2.1).2.1, (c.2.1 q.2.2.2.1).2.2.1, "WordRents") ∈ am_nstF ∧ q.2.2.2.2.2 = false))
set_option maxRecDepth 20000 in
theorem fk_3_9 : am_fok (3, 9, 3, 0, 2, true) := ⟨_, rfl, by decide, rfl, rfl, rfl, Or.inl ⟨am_wi 76 rfl rfl, fun _ => rfl⟩⟩
set_option maxRecDepth 20000 in
theorem fk_3_15 : am_fok (3, 15, 3, 1, 0, false) := ⟨_, rfl, by decide, rfl, rfl, rfl, Or.inl ⟨am_wi 77 rfl rfl, fun h => by cases h⟩⟩
set_option maxRecDepth 20000 in
theorem fk_4_49 : am_fok (4, 49, 4, 0, 0, false) := ⟨_, rfl, by decide, rfl, rfl, rfl, Or.inl ⟨am_wi 90 rfl rfl, fun h => by cases h⟩⟩
set_option maxRecDepth 20000 in
theorem fk_4_9 : am_fok (4, 9, 4, 1, 2, true) := ⟨_, rfl, by decide, rfl, rfl, rfl, Or.inl ⟨am_wi 91 rfl rfl, fun _ => rfl⟩⟩
set_option maxRecDepth 20000 in
theorem fk_4_15 : am_fok (4, 15, 4, 2, 2, true) := ⟨_, rfl, by decide, rfl, rfl, rfl, Or.inl ⟨am_wi 92 rfl rfl, fun _ => rfl⟩⟩
set_option maxRecDepth 20000 in
theorem fk_4_18 : am_fok (4, 18, 4, 3, 2, true) := ⟨_, rfl, by decide, rfl, rfl, rfl, Or.inl ⟨am_wi 93 rfl rfl, fun _ => rfl⟩⟩
set_option maxRecDepth 20000 in
theorem fk_4_21 : am_fok (4, 21, 4, 4, 2, true) := ⟨_, rfl, by decide, rfl, rfl, rfl, Or.inl ⟨am_wi 94 rfl rfl, fun _ => rfl⟩⟩
set_option maxRecDepth 20000 in
theorem fk_4_24 : am_fok (4, 24, 4, 5, 2, true) := ⟨_, rfl, by decide, rfl, rfl, rfl, Or.inl ⟨am_wi 95 rfl rfl, fun _ => rfl⟩⟩
set_option maxRecDepth 20000 in
theorem fk_4_27 : am_fok (4, 27, 4, 6, 2, true) := ⟨_, rfl, by decide, rfl, rfl, rfl, Or.inl ⟨am_wi 96 rfl rfl, fun _ => rfl⟩⟩
set_option maxRecDepth 20000 in
theorem fk_4_30 : am_fok (4, 30, 4, 7, 2, true) := ⟨_, rfl, by decide, rfl, rfl, rfl, Or.inl ⟨am_wi 97 rfl rfl, fun _ => rfl⟩⟩
set_option maxRecDepth 20000 in
theorem fk_4_33 : am_fok (4, 33, 4, 8, 0, false) := ⟨_, rfl, by decide, rfl, rfl, rfl, Or.inl ⟨am_wi 98 rfl rfl, fun h => by cases h⟩⟩
set_option maxRecDepth 20000 in
theorem fk_4_37 : am_fok (4, 37, 4, 9, 0, false) := ⟨_, rfl, by decide, rfl, rfl, rfl, Or.inl ⟨am_wi 100 rfl rfl, fun h => by cases h⟩⟩
set_option maxRecDepth 20000 in
theorem fk_4_58 : am_fok (4, 58, 4, 10, 0, false) := ⟨_, rfl, by decide, rfl, rfl, rfl, Or.inl ⟨am_wi 102 rfl rfl, fun h => by cases h⟩⟩
set_option maxRecDepth 20000 in
theorem fk_4_40 : am_fok (4, 40, 4, 11, 2, true) := ⟨_, rfl, by decide, rfl, rfl, rfl, Or.inl ⟨am_wi 104 rfl rfl, fun _ => rfl⟩⟩
set_option maxRecDepth 20000 in
theorem fk_4_61 : am_fok (4, 61, 4, 12, 0, false) := ⟨_, rfl, by decide, rfl, rfl, rfl, Or.inl ⟨am_wi 105 rfl rfl, fun h => by cases h⟩⟩
set_option maxRecDepth 20000 in
theorem fk_4_43 : am_fok (4, 43, 4, 13, 2, true) := ⟨_, rfl, by decide, rfl, rfl, rfl, Or.inl ⟨am_wi 107 rfl rfl, fun _ => rfl⟩⟩
set_option maxRecDepth 20000 in
theorem fk_4_46 : am_fok (4, 46, 4, 14, 2, true) := ⟨_, rfl, by decide, rfl, rfl, rfl, Or.inl ⟨am_wi 108 rfl rfl, fun _ => rfl⟩⟩
set_option maxRecDepth 20000 in
theorem fk_4_64 : am_fok (4, 64, 4, 15, 0, false) := ⟨_, rfl, by decide, rfl, rfl, rfl, Or.inl ⟨am_wi 109 rfl rfl, fun h => by cases h⟩⟩
set_option maxRecDepth 20000 in
theorem fk_6_9 : am_fok (6, 9, 6, 0, 2, true) := ⟨_, rfl, by decide, rfl, rfl, rfl, Or.inl ⟨am_wi 151 rfl rfl, fun _ => rfl⟩⟩
set_option maxRecDepth 20000 in
theorem fk_7_9 : am_fok (7, 9, 7, 0, 2, true) := ⟨_, rfl, by decide, rfl, rfl, rfl, Or.inl ⟨am_wi 168 rfl rfl, fun _ => rfl⟩⟩
set_option maxRecDepth 20000 in
theorem fk_7_15 : am_fok (7, 15, 7, 1, 0, false) := ⟨_, rfl, by decide, rfl, rfl, rfl, Or.inl ⟨am_wi 169 rfl rfl, fun h => by cases h⟩⟩
set_option maxRecDepth 20000 in
theorem fk_5_12 : am_fok (5, 12, 5, 0, 2, true) := ⟨_, rfl, by decide, rfl, rfl, rfl, Or.inl ⟨am_wi 177 rfl rfl, fun _ => rfl⟩⟩
set_option maxRecDepth 20000 in
theorem fk_5_21 : am_fok (5, 21, 5, 1, 2, true) := ⟨_, rfl, by decide, rfl, rfl, rfl, Or.inl ⟨am_wi 178 rfl rfl, fun _ => rfl⟩⟩
set_option maxRecDepth 20000 in
theorem fk_5_25 : am_fok (5, 25, 5, 2, 2, true) := ⟨_, rfl, by decide, rfl, rfl, rfl, Or.inl ⟨am_wi 179 rfl rfl, fun _ => rfl⟩⟩
set_option maxRecDepth 20000 in
theorem fk_5_29 : am_fok (5, 29, 5, 3, 0, false) := ⟨_, rfl, by decide, rfl, rfl, rfl, Or.inl ⟨am_wi 180 rfl rfl, fun h => by cases h⟩⟩
set_option maxRecDepth 20000 in
theorem fk_5_33 : am_fok (5, 33, 5, 4, 0, false) := ⟨_, rfl, by decide, rfl, rfl, rfl, Or.inl ⟨am_wi 181 rfl rfl, fun h => by cases h⟩⟩
set_option maxRecDepth 20000 in
theorem fk_5_36 : am_fok (5, 36, 5, 5, 0, false) := ⟨_, rfl, by decide, rfl, rfl, rfl, Or.inl ⟨am_wi 183 rfl rfl, fun h => by cases h⟩⟩
set_option maxRecDepth 20000 in
theorem fk_5_79 : am_fok (5, 79, 5, 6, 0, false) := ⟨_, rfl, by decide, rfl, rfl, rfl, Or.inl ⟨am_wi 185 rfl rfl, fun h => by cases h⟩⟩
set_option maxRecDepth 20000 in
theorem fk_5_85 : am_fok (5, 85, 5, 7, 0, false) := ⟨_, rfl, by decide, rfl, rfl, rfl, Or.inl ⟨am_wi 187 rfl rfl, fun h => by cases h⟩⟩
set_option maxRecDepth 20000 in
theorem fk_5_117 : am_fok (5, 117, 5, 8, 0, false) := ⟨_, rfl, by decide, rfl, rfl, rfl, Or.inl ⟨am_wi 189 rfl rfl, fun h => by cases h⟩⟩
set_option maxRecDepth 20000 in
theorem fk_5_120 : am_fok (5, 120, 5, 9, 0, false) := ⟨_, rfl, by decide, rfl, rfl, rfl, Or.inl ⟨am_wi 191 rfl rfl, fun h => by cases h⟩⟩
set_option maxRecDepth 20000 in
theorem fk_2_9 : am_fok (2, 9, 2, 0, 0, false) := ⟨_, rfl, by decide, rfl, rfl, rfl, Or.inl ⟨am_wi 220 rfl rfl, fun h => by cases h⟩⟩
set_option maxRecDepth 20000 in
theorem fk_2_15 : am_fok (2, 15, 2, 1, 0, false) := ⟨_, rfl, by decide, rfl, rfl, rfl, Or.inl ⟨am_wi 222 rfl rfl, fun h => by cases h⟩⟩
set_option maxRecDepth 20000 in
theorem fk_0_9 : am_fok (0, 9, 0, 0, 2, true) := ⟨_, rfl, by decide, rfl, rfl, rfl, Or.inl ⟨am_wi 235 rfl rfl, fun _ => rfl⟩⟩
set_option maxRecDepth 20000 in
theorem fk_0_15 : am_fok (0, 15, 0, 1, 0, false) := ⟨_, rfl, by decide, rfl, rfl, rfl, Or.inl ⟨am_wi 236 rfl rfl, fun h => by cases h⟩⟩
set_option maxRecDepth 20000 in
theorem fk_0_19 : am_fok (0, 19, 0, 2, 0, false) := ⟨_, rfl, by decide, rfl, rfl, rfl, Or.inl ⟨am_wi 238 rfl rfl, fun h => by cases h⟩⟩
set_option maxRecDepth 20000 in
theorem fk_0_35 : am_fok (0, 35, 0, 3, 0, false) := ⟨_, rfl, by decide, rfl, rfl, rfl, Or.inl ⟨am_wi 240 rfl rfl, fun h => by cases h⟩⟩
set_option maxRecDepth 20000 in
theorem fk_0_38 : am_fok (0, 38, 0, 4, 0, false) := ⟨_, rfl, by decide, rfl, rfl, rfl, Or.inl ⟨am_wi 242 rfl rfl, fun h => by cases h⟩⟩
set_option maxRecDepth 20000 in
theorem fk_1_9 : am_fok (1, 9, 1, 0, 2, true) := ⟨_, rfl, by decide, rfl, rfl, rfl, Or.inl ⟨am_wi 262 rfl rfl, fun _ => rfl⟩⟩
set_option maxRecDepth 20000 in
theorem fk_1_36 : am_fok (1, 36, 1, 1, 0, false) := ⟨_, rfl, by decide, rfl, rfl, rfl, Or.inl ⟨am_wi 263 rfl rfl, fun h => by cases h⟩⟩
set_option maxRecDepth 20000 in
theorem fk_1_40 : am_fok (1, 40, 1, 2, 0, false) := ⟨_, rfl, by decide, rfl, rfl, rfl, Or.inl ⟨am_wi 264 rfl rfl, fun h => by cases h⟩⟩
set_option maxRecDepth 20000 in
theorem fk_1_19 : am_fok (1, 19, 1, 3, 1, false) := ⟨_, rfl, by decide, rfl, rfl, rfl, Or.inl ⟨am_wi 265 rfl rfl, fun h => by cases h⟩⟩
set_option maxRecDepth 20000 in
theorem fk_1_27 : am_fok (1, 27, 1, 4, 1, false) := ⟨_, rfl, by decide, rfl, rfl, rfl, Or.inl ⟨am_wi 267 rfl rfl, fun h => by cases h⟩⟩
set_option maxRecDepth 20000 in
theorem fk_8_10 : am_fok (8, 10, 8, 0, 2, true) := ⟨_, rfl, by decide, rfl, rfl, rfl, Or.inl ⟨am_wi 280 rfl rfl, fun _ => rfl⟩⟩
set_option maxRecDepth 20000 in
theorem fk_8_19 : am_fok (8, 19, 8, 1, 2, true) := ⟨_, rfl, by decide, rfl, rfl, rfl, Or.inl ⟨am_wi 281 rfl rfl, fun _ => rfl⟩⟩
set_option maxRecDepth 20000 in
theorem fk_8_23 : am_fok (8, 23, 8, 2, 2, true) := ⟨_, rfl, by decide, rfl, rfl, rfl, Or.inl ⟨am_wi 282 rfl rfl, fun _ => rfl⟩⟩
set_option maxRecDepth 20000 in
theorem fk_8_26 : am_fok (8, 26, 8, 3, 2, true) := ⟨_, rfl, by decide, rfl, rfl, rfl, Or.inl ⟨am_wi 283 rfl rfl, fun _ => rfl⟩⟩
set_option maxRecDepth 20000 in
theorem fk_8_30 : am_fok (8, 30, 8, 4, 2, true) := ⟨_, rfl, by decide, rfl, rfl, rfl, Or.inl ⟨am_wi 284 rfl rfl, fun _ => rfl⟩⟩
set_option maxRecDepth 20000 in
theorem fk_8_37 : am_fok (8, 37, 8, 5, 2, true) := ⟨_, rfl, by decide, rfl, rfl, rfl, Or.inl ⟨am_wi 285 rfl rfl, fun _ => rfl⟩⟩
set_option maxRecDepth 20000 in
theorem fk_8_44 : am_fok (8, 44, 8, 6, 2, true) := ⟨_, rfl, by decide, rfl, rfl, rfl, Or.inl ⟨am_wi 286 rfl rfl, fun _ => rfl⟩⟩
set_option maxRecDepth 20000 in
theorem fk_8_51 : am_fok (8, 51, 8, 7, 2, true) := ⟨_, rfl, by decide, rfl, rfl, rfl, Or.inl ⟨am_wi 287 rfl rfl, fun _ => rfl⟩⟩
set_option maxRecDepth 20000 in
theorem fk_8_58 : am_fok (8, 58, 8, 8, 2, true) := ⟨_, rfl, by decide, rfl, rfl, rfl, Or.inl ⟨am_wi 288 rfl rfl, fun _ => rfl⟩⟩
set_option maxRecDepth 20000 in
theorem fk_8_65 : am_fok (8, 65, 8, 9, 2, true) := ⟨_, rfl, by decide, rfl, rfl, rfl, Or.inl ⟨am_wi 289 rfl rfl, fun _ => rfl⟩⟩
set_option maxRecDepth 20000 in
theorem fk_9_79 : am_fok (9, 79, 9, 0, 0, false) := ⟨_, rfl, by decide, rfl, rfl, rfl, Or.inl ⟨am_wi 846 rfl rfl, fun h => by cases h⟩⟩
set_option maxRecDepth 20000 in
theorem fk_9_7 : am_fok (9, 7, 9, 1, 2, true) := ⟨_, rfl, by decide, rfl, rfl, rfl, Or.inl ⟨am_wi 847 rfl rfl, fun _ => rfl⟩⟩
set_option maxRecDepth 20000 in
theorem fk_9_13 : am_fok (9, 13, 9, 2, 2, true) := ⟨_, rfl, by decide, rfl, rfl, rfl, Or.inl ⟨am_wi 848 rfl rfl, fun _ => rfl⟩⟩
set_option maxRecDepth 20000 in
theorem fk_9_16 : am_fok (9, 16, 9, 3, 2, true) := ⟨_, rfl, by decide, rfl, rfl, rfl, Or.inl ⟨am_wi 849 rfl rfl, fun _ => rfl⟩⟩
set_option maxRecDepth 20000 in
theorem fk_9_19 : am_fok (9, 19, 9, 4, 2, true) := ⟨_, rfl, by decide, rfl, rfl, rfl, Or.inl ⟨am_wi 850 rfl rfl, fun _ => rfl⟩⟩
set_option maxRecDepth 20000 in
theorem fk_9_22 : am_fok (9, 22, 9, 5, 2, true) := ⟨_, rfl, by decide, rfl, rfl, rfl, Or.inl ⟨am_wi 851 rfl rfl, fun _ => rfl⟩⟩
set_option maxRecDepth 20000 in
theorem fk_9_25 : am_fok (9, 25, 9, 6, 2, true) := ⟨_, rfl, by decide, rfl, rfl, rfl, Or.inl ⟨am_wi 852 rfl rfl, fun _ => rfl⟩⟩
set_option maxRecDepth 20000 in
theorem fk_9_28 : am_fok (9, 28, 9, 7, 0, false) := ⟨_, rfl, by decide, rfl, rfl, rfl, Or.inl ⟨am_wi 853 rfl rfl, fun h => by cases h⟩⟩
set_option maxRecDepth 20000 in
theorem fk_9_32 : am_fok (9, 32, 9, 8, 0, false) := ⟨_, rfl, by decide, rfl, rfl, rfl, Or.inl ⟨am_wi 854 rfl rfl, fun h => by cases h⟩⟩
set_option maxRecDepth 20000 in
theorem fk_9_138 : am_fok (9, 138, 9, 9, 0, false) := ⟨_, rfl, by decide, rfl, rfl, rfl, Or.inl ⟨am_wi 855 rfl rfl, fun h => by cases h⟩⟩
set_option maxRecDepth 20000 in
theorem fk_9_186 : am_fok (9, 186, 9, 10, 0, false) := ⟨_, rfl, by decide, rfl, rfl, rfl, Or.inl ⟨am_wi 856 rfl rfl, fun h => by cases h⟩⟩
set_option maxRecDepth 20000 in
theorem fk_9_35 : am_fok (9, 35, 9, 11, 2, true) := ⟨_, rfl, by decide, rfl, rfl, rfl, Or.inl ⟨am_wi 857 rfl rfl, fun _ => rfl⟩⟩
set_option maxRecDepth 20000 in
theorem fk_9_38 : am_fok (9, 38, 9, 12, 2, true) := ⟨_, rfl, by decide, rfl, rfl, rfl, Or.inl ⟨am_wi 858 rfl rfl, fun _ => rfl⟩⟩
set_option maxRecDepth 20000 in
theorem fk_9_195 : am_fok (9, 195, 9, 13, 0, false) := ⟨_, rfl, by decide, rfl, rfl, rfl, Or.inl ⟨am_wi 859 rfl rfl, fun h => by cases h⟩⟩
set_option maxRecDepth 20000 in
theorem fk_9_41 : am_fok (9, 41, 9, 14, 2, true) := ⟨_, rfl, by decide, rfl, rfl, rfl, Or.inl ⟨am_wi 860 rfl rfl, fun _ => rfl⟩⟩
set_option maxRecDepth 20000 in
theorem fk_9_94 : am_fok (9, 94, 9, 15, 0, false) := ⟨_, rfl, by decide, rfl, rfl, rfl, Or.inl ⟨am_wi 861 rfl rfl, fun h => by cases h⟩⟩
set_option maxRecDepth 20000 in
theorem fk_9_44 : am_fok (9, 44, 9, 16, 2, true) := ⟨_, rfl, by decide, rfl, rfl, rfl, Or.inl ⟨am_wi 862 rfl rfl, fun _ => rfl⟩⟩
set_option maxRecDepth 20000 in
theorem fk_9_47 : am_fok (9, 47, 9, 17, 2, true) := ⟨_, rfl, by decide, rfl, rfl, rfl, Or.inl ⟨am_wi 863 rfl rfl, fun _ => rfl⟩⟩
set_option maxRecDepth 20000 in
theorem fk_9_50 : am_fok (9, 50, 9, 18, 2, true) := ⟨_, rfl, by decide, rfl, rfl, rfl, Or.inl ⟨am_wi 864 rfl rfl, fun _ => rfl⟩⟩
set_option maxRecDepth 20000 in
theorem fk_9_107 : am_fok (9, 107, 9, 19, 0, false) := ⟨_, rfl, by decide, rfl, rfl, rfl, Or.inl ⟨am_wi 865 rfl rfl, fun h => by cases h⟩⟩
set_option maxRecDepth 20000 in
theorem fk_9_53 : am_fok (9, 53, 9, 20, 2, true) := ⟨_, rfl, by decide, rfl, rfl, rfl, Or.inl ⟨am_wi 866 rfl rfl, fun _ => rfl⟩⟩
set_option maxRecDepth 20000 in
theorem fk_9_56 : am_fok (9, 56, 9, 21, 2, true) := ⟨_, rfl, by decide, rfl, rfl, rfl, Or.inl ⟨am_wi 867 rfl rfl, fun _ => rfl⟩⟩
set_option maxRecDepth 20000 in
theorem fk_9_59 : am_fok (9, 59, 9, 22, 2, true) := ⟨_, rfl, by decide, rfl, rfl, rfl, Or.inl ⟨am_wi 868 rfl rfl, fun _ => rfl⟩⟩
set_option maxRecDepth 20000 in
theorem fk_9_62 : am_fok (9, 62, 9, 23, 2, true) := ⟨_, rfl, by decide, rfl, rfl, rfl, Or.inl ⟨am_wi 869 rfl rfl, fun _ => rfl⟩⟩
set_option maxRecDepth 20000 in
theorem fk_9_141 : am_fok (9, 141, 9, 24, 0, false) := ⟨_, rfl, by decide, rfl, rfl, rfl, Or.inl ⟨am_wi 870 rfl rfl, fun h => by cases h⟩⟩
set_option maxRecDepth 20000 in
theorem fk_9_153 : am_fok (9, 153, 9, 25, 0, false) := ⟨_, rfl, by decide, rfl, rfl, rfl, Or.inl ⟨am_wi 871 rfl rfl, fun h => by cases h⟩⟩
set_option maxRecDepth 20000 in
theorem fk_9_150 : am_fok (9, 150, 9, 26, 0, false) := ⟨_, rfl, by decide, rfl, rfl, rfl, Or.inl ⟨am_wi 872 rfl rfl, fun h => by cases h⟩⟩
set_option maxRecDepth 20000 in
theorem fk_9_65 : am_fok (9, 65, 9, 27, 2, true) := ⟨_, rfl, by decide, rfl, rfl, rfl, Or.inl ⟨am_wi 873 rfl rfl, fun _ => rfl⟩⟩
set_option maxRecDepth 20000 in
theorem fk_9_68 : am_fok (9, 68, 9, 28, 2, true) := ⟨_, rfl, by decide, rfl, rfl, rfl, Or.inl ⟨am_wi 874 rfl rfl, fun _ => rfl⟩⟩
set_option maxRecDepth 20000 in
theorem fk_9_71 : am_fok (9, 71, 9, 29, 2, true) := ⟨_, rfl, by decide, rfl, rfl, rfl, Or.inl ⟨am_wi 875 rfl rfl, fun _ => rfl⟩⟩
set_option maxRecDepth 20000 in
theorem fk_8_109 : am_fok (8, 109, 4, 8, 0, false) := ⟨_, rfl, by decide, rfl, rfl, rfl, Or.inr ⟨List.mem_of_getElem? (i := 0) rfl, rfl⟩⟩
set_option maxRecDepth 20000 in
theorem fk_8_113 : am_fok (8, 113, 4, 9, 0, false) := ⟨_, rfl, by decide, rfl, rfl, rfl, Or.inr ⟨List.mem_of_getElem? (i := 1) rfl, rfl⟩⟩
set_option maxRecDepth 20000 in
theorem fk_8_275 : am_fok (8, 275, 4, 10, 0, false) := ⟨_, rfl, by decide, rfl, rfl, rfl, Or.inr ⟨List.mem_of_getElem? (i := 2) rfl, rfl⟩⟩
set_option maxRecDepth 20000 in
theorem fk_8_212 : am_fok (8, 212, 4, 12, 0, false) := ⟨_, rfl, by decide, rfl, rfl, rfl, Or.inr ⟨List.mem_of_getElem? (i := 3) rfl, rfl⟩⟩
set_option maxRecDepth 20000 in
theorem fk_8_225 : am_fok (8, 225, 4, 15, 0, false) := ⟨_, rfl, by decide, rfl, rfl, rfl, Or.inr ⟨List.mem_of_getElem? (i := 4) rfl, rfl⟩⟩
set_option maxRecDepth 20000 in
theorem fk_8_166 : am_fok (8, 166, 5, 4, 0, false) := ⟨_, rfl, by decide, rfl, rfl, rfl, Or.inr ⟨List.mem_of_getElem? (i := 5) rfl, rfl⟩⟩
set_option maxRecDepth 20000 in
theorem fk_8_169 : am_fok (8, 169, 5, 5, 0, false) := ⟨_, rfl, by decide, rfl, rfl, rfl, Or.inr ⟨List.mem_of_getElem? (i := 6) rfl, rfl⟩⟩
set_option maxRecDepth 20000 in
theorem fk_8_153 : am_fok (8, 153, 5, 6, 0, false) := ⟨_, rfl, by decide, rfl, rfl, rfl, Or.inr ⟨List.mem_of_getElem? (i := 7) rfl, rfl⟩⟩
set_option maxRecDepth 20000 in
theorem fk_8_156 : am_fok (8, 156, 5, 7, 0, false) := ⟨_, rfl, by decide, rfl, rfl, rfl, Or.inr ⟨List.mem_of_getElem? (i := 8) rfl, rfl⟩⟩
set_option maxRecDepth 20000 in
theorem fk_8_176 : am_fok (8, 176, 5, 8, 0, false) := ⟨_, rfl, by decide, rfl, rfl, rfl, Or.inr ⟨List.mem_of_getElem? (i := 9) rfl, rfl⟩⟩
set_option maxRecDepth 20000 in
theorem fk_8_179 : am_fok (8, 179, 5, 9, 0, false) := ⟨_, rfl, by decide, rfl, rfl, rfl, Or.inr ⟨List.mem_of_getElem? (i := 10) rfl, rfl⟩⟩
set_option maxRecDepth 20000 in
theorem fk_8_185 : am_fok (8, 185, 2, 0, 0, false) := ⟨_, rfl, by decide, rfl, rfl, rfl, Or.inr ⟨List.mem_of_getElem? (i := 11) rfl, rfl⟩⟩
set_option maxRecDepth 20000 in
theorem fk_8_188 : am_fok (8, 188, 2, 1, 0, false) := ⟨_, rfl, by decide, rfl, rfl, rfl, Or.inr ⟨List.mem_of_getElem? (i := 12) rfl, rfl⟩⟩
set_option maxRecDepth 20000 in
theorem fk_8_206 : am_fok (8, 206, 0, 1, 0, false) := ⟨_, rfl, by decide, rfl, rfl, rfl, Or.inr ⟨List.mem_of_getElem? (i := 13) rfl, rfl⟩⟩
set_option maxRecDepth 20000 in
theorem fk_8_204 : am_fok (8, 204, 0, 2, 0, false) := ⟨_, rfl, by decide, rfl, rfl, rfl, Or.inr ⟨List.mem_of_getElem? (i := 14) rfl, rfl⟩⟩
set_option maxRecDepth 20000 in
theorem fk_8_266 : am_fok (8, 266, 0, 3, 0, false) := ⟨_, rfl, by decide, rfl, rfl, rfl, Or.inr ⟨List.mem_of_getElem? (i := 15) rfl, rfl⟩⟩
set_option maxRecDepth 20000 in
theorem fk_8_269 : am_fok (8, 269, 0, 4, 0, false) := ⟨_, rfl, by decide, rfl, rfl, rfl, Or.inr ⟨List.mem_of_getElem? (i := 16) rfl, rfl⟩⟩
set_option maxRecDepth 20000 in
theorem fk_8_248 : am_fok (8, 248, 1, 3, 1, false) := ⟨_, rfl, by decide, rfl, rfl, rfl, Or.inr ⟨List.mem_of_getElem? (i := 17) rfl, rfl⟩⟩
set_option maxRecDepth 20000 in
theorem fk_8_252 : am_fok (8, 252, 1, 4, 1, false) := ⟨_, rfl, by decide, rfl, rfl, rfl, Or.inr ⟨List.mem_of_getElem? (i := 18) rfl, rfl⟩⟩
theorem am_flk_ok : ∀ q ∈ am_flkL, am_fok (q.1, q.2.1, q.2.2.1, q.2.2.2.1, q.2.2.2.2.1, q.2.2.2.2.2.2.1) := List.forall_mem_cons.mpr ⟨fk_3_9, List.forall_mem_cons.mpr ⟨fk_3_15, List.forall_mem_cons.mpr ⟨fk_4_49, List.forall_mem_cons.mpr ⟨fk_4_9, List.forall_mem_cons.mpr ⟨fk_4_15, List.forall_mem_cons.mpr ⟨fk_4_18, List.forall_mem_cons.mpr ⟨fk_4_21, List.forall_mem_cons.mpr ⟨fk_4_24, List.forall_mem_cons.mpr ⟨fk_4_27, List.forall_mem_cons.mpr ⟨fk_4_30, List.forall_mem_cons.mpr ⟨fk_4_33, List.forall_mem_cons.mpr ⟨fk_4_37, List.forall_mem_cons.mpr ⟨fk_4_58, List.forall_mem_cons.mpr ⟨fk_4_40, List.forall_mem_cons.mpr ⟨fk_4_61, List.forall_mem_cons.mpr ⟨fk_4_43, List.forall_mem_cons.mpr ⟨fk_4_46, List.forall_mem_cons.mpr ⟨fk_4_64, List.forall_mem_cons.mpr ⟨fk_6_9, List.forall_mem_cons.mpr ⟨fk_7_9, List.forall_mem_cons.mpr ⟨fk_7_15, List.forall_mem_cons.mpr ⟨fk_5_12, List.forall_mem_cons.mpr ⟨fk_5_21, List.forall_mem_cons.mpr ⟨fk_5_25, List.forall_mem_cons.mpr ⟨fk_5_29, List.forall_mem_cons.mpr ⟨fk_5_33, List.forall_mem_cons.mpr ⟨fk_5_36, List.forall_mem_cons.mpr ⟨fk_5_79, List.forall_mem_cons.mpr ⟨fk_5_85, List.forall_mem_cons.mpr ⟨fk_5_117, List.forall_mem_cons.mpr ⟨fk_5_120, List.forall_mem_cons.mpr ⟨fk_2_9, List.forall_mem_cons.mpr ⟨fk_2_15, List.forall_mem_cons.mpr ⟨fk_0_9, List.forall_mem_cons.mpr ⟨fk_0_15, List.forall_mem_cons.mpr ⟨fk_0_19, List.forall_mem_cons.mpr ⟨fk_0_35, List.forall_mem_cons.mpr ⟨fk_0_38, List.forall_mem_cons.mpr ⟨fk_1_9, List.forall_mem_cons.mpr ⟨fk_1_36, List.forall_mem_cons.mpr ⟨fk_1_40, List.forall_mem_cons.mpr ⟨fk_1_19, List.forall_mem_cons.mpr ⟨fk_1_27, List.forall_mem_cons.mpr ⟨fk_8_10, List.forall_mem_cons.mpr ⟨fk_8_19, List.forall_mem_cons.mpr ⟨fk_8_23, List.forall_mem_cons.mpr ⟨fk_8_26, List.forall_mem_cons.mpr ⟨fk_8_30, List.forall_mem_cons.mpr ⟨fk_8_37, List.forall_mem_cons.mpr ⟨fk_8_44, List.forall_mem_cons.mpr ⟨fk_8_51, List.forall_mem_cons.mpr ⟨fk_8_58, List.forall_mem_cons.mpr ⟨fk_8_65, List.forall_mem_cons.mpr ⟨fk_9_79, List.forall_mem_cons.mpr ⟨fk_9_7, List.forall_mem_cons.mpr ⟨fk_9_13, List.forall_mem_cons.mpr ⟨fk_9_16, List.forall_mem_cons.mpr ⟨fk_9_19, List.forall_mem_cons.mpr ⟨fk_9_22, List.forall_mem_cons.mpr ⟨fk_9_25, List.forall_mem_cons.mpr ⟨fk_9_28, List.forall_mem_cons.mpr ⟨fk_9_32, List.forall_mem_cons.mpr ⟨fk_9_138, List.forall_mem_cons.mpr ⟨fk_9_186, List.forall_mem_cons.mpr ⟨fk_9_35, List.forall_mem_cons.mpr ⟨fk_9_38, List.forall_mem_cons.mpr ⟨fk_9_195, List.forall_mem_cons.mpr ⟨fk_9_41, List.forall_mem_cons.mpr ⟨fk_9_94, List.forall_mem_cons.mpr ⟨fk_9_44, List.forall_mem_cons.mpr ⟨fk_9_47, List.forall_mem_cons.mpr ⟨fk_9_50, List.forall_mem_cons.mpr ⟨fk_9_107, List.forall_mem_cons.mpr ⟨fk_9_53, List.forall_mem_cons.mpr ⟨fk_9_56, List.forall_mem_cons.mpr ⟨fk_9_59, List.forall_mem_cons.mpr ⟨fk_9_62, List.forall_mem_cons.mpr ⟨fk_9_141, List.forall_mem_cons.mpr ⟨fk_9_153, List.forall_mem_cons.mpr ⟨fk_9_150, List.forall_mem_cons.mpr ⟨fk_9_65, List.forall_mem_cons.mpr ⟨fk_9_68, List.forall_mem_cons.mpr ⟨fk_9_71, List.forall_mem_cons.mpr ⟨fk_8_109, List.forall_mem_cons.mpr ⟨fk_8_113, List.forall_mem_cons.mpr ⟨fk_8_275, List.forall_mem_cons.mpr ⟨fk_8_212, List.forall_mem_cons.mpr ⟨fk_8_225, List.forall_mem_cons.mpr ⟨fk_8_166, List.forall_mem_cons.mpr ⟨fk_8_169, List.forall_mem_cons.mpr ⟨fk_8_153, List.forall_mem_cons.mpr ⟨fk_8_156, List.forall_mem_cons.mpr ⟨fk_8_176, List.forall_mem_cons.mpr ⟨fk_8_179, List.forall_mem_cons.mpr ⟨fk_8_185, List.forall_mem_cons.mpr ⟨fk_8_188, List.forall_mem_cons.mpr ⟨fk_8_206, List.forall_mem_cons.mpr ⟨fk_8_204, List.forall_mem_cons.mpr ⟨fk_8_266, List.forall_mem_cons.mpr ⟨fk_8_269, List.forall_mem_cons.mpr ⟨fk_8_248, List.forall_mem_cons.mpr ⟨fk_8_252, fun _ h => absurd h List.not_mem_nil⟩⟩⟩⟩⟩⟩⟩⟩⟩⟩⟩⟩⟩⟩⟩⟩⟩⟩⟩⟩⟩⟩⟩⟩⟩⟩⟩⟩⟩⟩⟩⟩⟩⟩⟩⟩⟩⟩⟩⟩⟩⟩⟩⟩⟩⟩⟩⟩⟩⟩⟩⟩⟩⟩⟩⟩⟩⟩⟩⟩⟩⟩⟩⟩⟩⟩⟩⟩⟩⟩⟩⟩⟩⟩⟩⟩⟩⟩⟩⟩⟩⟩⟩⟩⟩⟩⟩⟩⟩⟩⟩⟩⟩⟩⟩⟩⟩⟩⟩⟩⟩⟩
theorem am_flk_spec {o i ci k t : Nat} {f : Bool} (h : am_flk o i = some (ci, k, t, f)) : am_fok (o, i, ci, k, t, f) := by
  simp only [am_flk, Option.map_eq_some_iff] at h
  obtain ⟨q, hq, he⟩ := h
  have hm := List.mem_of_find?_eq_some hq
  have hp := List.find?_some hq
  simp only [Bool.and_eq_true, beq_iff_eq] at hp
  obtain ⟨rfl, rfl⟩ := hp
  cases he
  exact am_flk_ok q hm
def am_kok (q : Nat × Nat × Nat × Nat) : Prop := ∃ c : vw_C, vwCl[q.2.2.1]? = some c ∧ Cond.classLink (am_nm q.1) q.2.1 c.1 ∈ am_G ∧ Cond.instantiable c.1 q.2.2.2 ∈ am_G ∧ Cond.initialized c.1 ∈ am_G ∧ q.2.2.2 = c.2.2 ∧ q.2.2.1 < 10
set_option maxRecDepth 20000 in
theorem ck_11_7 : am_kok (11, 7, 8, 10) := ⟨_, rfl, am_wi 62 rfl rfl, am_wi 63 rfl rfl, am_wi 48 rfl rfl, rfl, by decide⟩
set_option maxRecDepth 20000 in
theorem ck_8_7 : am_kok (8, 7, 3, 2) := ⟨_, rfl, am_wi 70 rfl rfl, am_wi 71 rfl rfl, am_wi 49 rfl rfl, rfl, by decide⟩
set_option maxRecDepth 20000 in
theorem ck_8_16 : am_kok (8, 16, 4, 16) := ⟨_, rfl, am_wi 84 rfl rfl, am_wi 85 rfl rfl, am_wi 50 rfl rfl, rfl, by decide⟩
set_option maxRecDepth 20000 in
theorem ck_8_34 : am_kok (8, 34, 6, 1) := ⟨_, rfl, am_wi 145 rfl rfl, am_wi 146 rfl rfl, am_wi 51 rfl rfl, rfl, by decide⟩
set_option maxRecDepth 20000 in
theorem ck_8_41 : am_kok (8, 41, 5, 10) := ⟨_, rfl, am_wi 156 rfl rfl, am_wi 157 rfl rfl, am_wi 52 rfl rfl, rfl, by decide⟩
set_option maxRecDepth 20000 in
theorem ck_5_9 : am_kok (5, 9, 7, 2) := ⟨_, rfl, am_wi 162 rfl rfl, am_wi 163 rfl rfl, am_wi 53 rfl rfl, rfl, by decide⟩
set_option maxRecDepth 20000 in
theorem ck_5_18 : am_kok (5, 18, 6, 1) := ⟨_, rfl, am_wi 175 rfl rfl, am_wi 146 rfl rfl, am_wi 51 rfl rfl, rfl, by decide⟩
set_option maxRecDepth 20000 in
theorem ck_8_48 : am_kok (8, 48, 2, 2) := ⟨_, rfl, am_wi 214 rfl rfl, am_wi 215 rfl rfl, am_wi 54 rfl rfl, rfl, by decide⟩
set_option maxRecDepth 20000 in
theorem ck_8_55 : am_kok (8, 55, 0, 5) := ⟨_, rfl, am_wi 229 rfl rfl, am_wi 230 rfl rfl, am_wi 55 rfl rfl, rfl, by decide⟩
set_option maxRecDepth 20000 in
theorem ck_8_62 : am_kok (8, 62, 1, 5) := ⟨_, rfl, am_wi 256 rfl rfl, am_wi 257 rfl rfl, am_wi 56 rfl rfl, rfl, by decide⟩
set_option maxRecDepth 20000 in
theorem ck_11_10 : am_kok (11, 10, 9, 30) := ⟨_, rfl, am_wi 840 rfl rfl, am_wi 841 rfl rfl, am_wi 57 rfl rfl, rfl, by decide⟩
theorem am_clk_ok : ∀ q ∈ am_clkL, am_kok (q.1, q.2.1, q.2.2.1, q.2.2.2.1) := List.forall_mem_cons.mpr ⟨ck_11_7, List.forall_mem_cons.mpr ⟨ck_8_7, List.forall_mem_cons.mpr ⟨ck_8_16, List.forall_mem_cons.mpr ⟨ck_8_34, List.forall_mem_cons.mpr ⟨ck_8_41, List.forall_mem_cons.mpr ⟨ck_5_9, List.forall_mem_cons.mpr ⟨ck_5_18, List.forall_mem_cons.mpr ⟨ck_8_48, List.forall_mem_cons.mpr ⟨ck_8_55, List.forall_mem_cons.mpr ⟨ck_8_62, List.forall_mem_cons.mpr ⟨ck_11_10, fun _ h => absurd h List.not_mem_nil⟩⟩⟩⟩⟩⟩⟩⟩⟩⟩⟩
theorem am_clk_spec {o i ci n : Nat} (h : am_clk o i = some (ci, n)) : am_kok (o, i, ci, n) := by
  simp only [am_clk, Option.map_eq_some_iff] at h
  obtain ⟨q, hq, he⟩ := h
  have hm := List.mem_of_find?_eq_some hq
  have hp := List.find?_some hq
  simp only [Bool.and_eq_true, beq_iff_eq] at hp
  obtain ⟨rfl, rfl⟩ := hp
  cases he
  exact am_clk_ok q hm
set_option maxRecDepth 20000 in
theorem am_cst_ok : ∀ q ∈ am_cstL, Cond.constant (am_nm q.1) q.2.1 q.2.2.1 ∈ am_G := List.forall_mem_cons.mpr ⟨am_wi 335 rfl rfl, List.forall_mem_cons.mpr ⟨am_wi 336 rfl rfl, List.forall_mem_cons.mpr ⟨am_wi 337 rfl rfl, List.forall_mem_cons.mpr ⟨am_wi 498 rfl rfl, List.forall_mem_cons.mpr ⟨am_wi 806 rfl rfl, List.forall_mem_cons.mpr ⟨am_wi 1021 rfl rfl, List.forall_mem_cons.mpr ⟨am_wi 1025 rfl rfl, List.forall_mem_cons.mpr ⟨am_wi 1184 rfl rfl, fun _ h => absurd h List.not_mem_nil⟩⟩⟩⟩⟩⟩⟩⟩
set_option maxRecDepth 20000 in
theorem am_csl_ok : ∀ q ∈ am_cstJ, Cond.constantLong (am_nm q.1) q.2.1 q.2.2.1 ∈ am_G := List.forall_mem_cons.mpr ⟨am_wi 658 rfl rfl, List.forall_mem_cons.mpr ⟨am_wi 741 rfl rfl, List.forall_mem_cons.mpr ⟨am_wi 742 rfl rfl, List.forall_mem_cons.mpr ⟨am_wi 1162 rfl rfl, List.forall_mem_cons.mpr ⟨am_wi 1163 rfl rfl, List.forall_mem_cons.mpr ⟨am_wi 1164 rfl rfl, List.forall_mem_cons.mpr ⟨am_wi 1169 rfl rfl, fun _ h => absurd h List.not_mem_nil⟩⟩⟩⟩⟩⟩⟩
theorem am_cst_spec {o i : Nat} {v : Int32} (h : am_cst o i = some v) : Cond.constant (am_nm o) i v ∈ am_G := by
  simp only [am_cst, Option.map_eq_some_iff] at h
  obtain ⟨q, hq, he⟩ := h
  have hm := List.mem_of_find?_eq_some hq
  have hp := List.find?_some hq
  simp only [Bool.and_eq_true, beq_iff_eq] at hp
  obtain ⟨rfl, rfl⟩ := hp
  cases he
  exact am_cst_ok q hm
theorem am_csl_spec {o i : Nat} {v : Int64} (h : am_csl o i = some v) : Cond.constantLong (am_nm o) i v ∈ am_G := by
  simp only [am_csl, Option.map_eq_some_iff] at h
  obtain ⟨q, hq, he⟩ := h
  have hm := List.mem_of_find?_eq_some hq
  have hp := List.find?_some hq
  simp only [Bool.and_eq_true, beq_iff_eq] at hp
  obtain ⟨rfl, rfl⟩ := hp
  cases he
  exact am_csl_ok q hm
set_option maxRecDepth 20000 in
theorem am_arrI : Cond.arrayClass .int ∈ am_G := am_wi 83 rfl rfl
set_option maxRecDepth 20000 in
theorem am_arrJ : Cond.arrayClass .long ∈ am_G := am_wi 255 rfl rfl
set_option maxRecDepth 20000 in
theorem am_arrZ : Cond.arrayClass .boolean ∈ am_G := am_wi 155 rfl rfl
/-- what the rows of the kit ask of a class's table -/
def am_cls (ci : Nat) (c : vw_C) : Prop := ∃ ty0 : Nat → FieldType, (∀ k, k < c.2.2 → parseFieldDescriptor (c.2.1 k).2.2.1 = some (ty0 k)) ∧ (∀ a, a < c.2.2 → ∀ b, b < c.2.2 → a ≠ b → (c.2.1 a).2.1 ≠ (c.2.1 b).2.1) ∧ (∀ w ∈ u_ws c.1 c.2.1 c.2.2, w ∈ am_G) ∧ (am_fty ci).length = c.2.2 ∧ ∀ j, j < c.2.2 → am_tyc ((am_fty ci).getD j 9) (ty0 j) = true
set_option maxRecDepth 20000 in
theorem la_X0 : ∀ w ∈ u_ws RX0 TX0 5, w ∈ am_G := List.forall_mem_cons.mpr ⟨am_wi 244 rfl rfl, List.forall_mem_cons.mpr ⟨am_wi 246 rfl rfl, List.forall_mem_cons.mpr ⟨am_wi 248 rfl rfl, List.forall_mem_cons.mpr ⟨am_wi 250 rfl rfl, List.forall_mem_cons.mpr ⟨am_wi 252 rfl rfl, fun _ h => absurd h List.not_mem_nil⟩⟩⟩⟩⟩
set_option maxRecDepth 20000 in
theorem cl_X0 : am_cls 0 (RX0, TX0, 5) := ⟨tyX0, tyX0_ok, nmX0, la_X0, rfl, by decide⟩
set_option maxRecDepth 20000 in
theorem la_X1 : ∀ w ∈ u_ws RX1 TX1 5, w ∈ am_G := List.forall_mem_cons.mpr ⟨am_wi 269 rfl rfl, List.forall_mem_cons.mpr ⟨am_wi 271 rfl rfl, List.forall_mem_cons.mpr ⟨am_wi 273 rfl rfl, List.forall_mem_cons.mpr ⟨am_wi 275 rfl rfl, List.forall_mem_cons.mpr ⟨am_wi 277 rfl rfl, fun _ h => absurd h List.not_mem_nil⟩⟩⟩⟩⟩
set_option maxRecDepth 20000 in
theorem cl_X1 : am_cls 1 (RX1, TX1, 5) := ⟨tyX1, tyX1_ok, nmX1, la_X1, rfl, by decide⟩
set_option maxRecDepth 20000 in
theorem la_X2 : ∀ w ∈ u_ws RX2 TX2 2, w ∈ am_G := List.forall_mem_cons.mpr ⟨am_wi 224 rfl rfl, List.forall_mem_cons.mpr ⟨am_wi 226 rfl rfl, fun _ h => absurd h List.not_mem_nil⟩⟩
set_option maxRecDepth 20000 in
theorem cl_X2 : am_cls 2 (RX2, TX2, 2) := ⟨tyX2, tyX2_ok, nmX2, la_X2, rfl, by decide⟩
set_option maxRecDepth 20000 in
theorem la_X3 : ∀ w ∈ u_ws RX3 TX3 2, w ∈ am_G := List.forall_mem_cons.mpr ⟨am_wi 78 rfl rfl, List.forall_mem_cons.mpr ⟨am_wi 80 rfl rfl, fun _ h => absurd h List.not_mem_nil⟩⟩
set_option maxRecDepth 20000 in
theorem cl_X3 : am_cls 3 (RX3, TX3, 2) := ⟨tyX3, tyX3_ok, nmX3, la_X3, rfl, by decide⟩
set_option maxRecDepth 20000 in
theorem la_X4 : ∀ w ∈ u_ws RX4 TX4 16, w ∈ am_G := List.forall_mem_cons.mpr ⟨am_wi 111 rfl rfl, List.forall_mem_cons.mpr ⟨am_wi 113 rfl rfl, List.forall_mem_cons.mpr ⟨am_wi 115 rfl rfl, List.forall_mem_cons.mpr ⟨am_wi 117 rfl rfl, List.forall_mem_cons.mpr ⟨am_wi 119 rfl rfl, List.forall_mem_cons.mpr ⟨am_wi 121 rfl rfl, List.forall_mem_cons.mpr ⟨am_wi 123 rfl rfl, List.forall_mem_cons.mpr ⟨am_wi 125 rfl rfl, List.forall_mem_cons.mpr ⟨am_wi 127 rfl rfl, List.forall_mem_cons.mpr ⟨am_wi 129 rfl rfl, List.forall_mem_cons.mpr ⟨am_wi 131 rfl rfl, List.forall_mem_cons.mpr ⟨am_wi 133 rfl rfl, List.forall_mem_cons.mpr ⟨am_wi 135 rfl rfl, List.forall_mem_cons.mpr ⟨am_wi 137 rfl rfl, List.forall_mem_cons.mpr ⟨am_wi 139 rfl rfl, List.forall_mem_cons.mpr ⟨am_wi 141 rfl rfl, fun _ h => absurd h List.not_mem_nil⟩⟩⟩⟩⟩⟩⟩⟩⟩⟩⟩⟩⟩⟩⟩⟩
set_option maxRecDepth 20000 in
theorem cl_X4 : am_cls 4 (RX4, TX4, 16) := ⟨tyX4, tyX4_ok, nmX4, la_X4, rfl, by decide⟩
set_option maxRecDepth 20000 in
theorem la_X6 : ∀ w ∈ u_ws RX6 TX6 10, w ∈ am_G := List.forall_mem_cons.mpr ⟨am_wi 193 rfl rfl, List.forall_mem_cons.mpr ⟨am_wi 195 rfl rfl, List.forall_mem_cons.mpr ⟨am_wi 197 rfl rfl, List.forall_mem_cons.mpr ⟨am_wi 199 rfl rfl, List.forall_mem_cons.mpr ⟨am_wi 201 rfl rfl, List.forall_mem_cons.mpr ⟨am_wi 203 rfl rfl, List.forall_mem_cons.mpr ⟨am_wi 205 rfl rfl, List.forall_mem_cons.mpr ⟨am_wi 207 rfl rfl, List.forall_mem_cons.mpr ⟨am_wi 209 rfl rfl, List.forall_mem_cons.mpr ⟨am_wi 211 rfl rfl, fun _ h => absurd h List.not_mem_nil⟩⟩⟩⟩⟩⟩⟩⟩⟩⟩
set_option maxRecDepth 20000 in
theorem cl_X6 : am_cls 5 (RX6, TX6, 10) := ⟨tyX6, tyX6_ok, nmX6, la_X6, rfl, by decide⟩
set_option maxRecDepth 20000 in
theorem la_X7 : ∀ w ∈ u_ws RX7 TX7 1, w ∈ am_G := List.forall_mem_cons.mpr ⟨am_wi 152 rfl rfl, fun _ h => absurd h List.not_mem_nil⟩
set_option maxRecDepth 20000 in
theorem cl_X7 : am_cls 6 (RX7, TX7, 1) := ⟨tyX7, tyX7_ok, nmX7, la_X7, rfl, by decide⟩
set_option maxRecDepth 20000 in
theorem la_X8 : ∀ w ∈ u_ws RX8 TX8 2, w ∈ am_G := List.forall_mem_cons.mpr ⟨am_wi 170 rfl rfl, List.forall_mem_cons.mpr ⟨am_wi 172 rfl rfl, fun _ h => absurd h List.not_mem_nil⟩⟩
set_option maxRecDepth 20000 in
theorem cl_X8 : am_cls 7 (RX8, TX8, 2) := ⟨tyX8, tyX8_ok, nmX8, la_X8, rfl, by decide⟩
set_option maxRecDepth 20000 in
theorem la_X9 : ∀ w ∈ u_ws RX9 TX9 10, w ∈ am_G := List.forall_mem_cons.mpr ⟨am_wi 290 rfl rfl, List.forall_mem_cons.mpr ⟨am_wi 292 rfl rfl, List.forall_mem_cons.mpr ⟨am_wi 294 rfl rfl, List.forall_mem_cons.mpr ⟨am_wi 296 rfl rfl, List.forall_mem_cons.mpr ⟨am_wi 298 rfl rfl, List.forall_mem_cons.mpr ⟨am_wi 300 rfl rfl, List.forall_mem_cons.mpr ⟨am_wi 302 rfl rfl, List.forall_mem_cons.mpr ⟨am_wi 304 rfl rfl, List.forall_mem_cons.mpr ⟨am_wi 306 rfl rfl, List.forall_mem_cons.mpr ⟨am_wi 308 rfl rfl, fun _ h => absurd h List.not_mem_nil⟩⟩⟩⟩⟩⟩⟩⟩⟩⟩
set_option maxRecDepth 20000 in
theorem cl_X9 : am_cls 8 (RX9, TX9, 10) := ⟨tyX9, tyX9_ok, nmX9, la_X9, rfl, by decide⟩
set_option maxRecDepth 20000 in
theorem la_X10 : ∀ w ∈ u_ws RX10 TX10 30, w ∈ am_G := List.forall_mem_cons.mpr ⟨am_wi 876 rfl rfl, List.forall_mem_cons.mpr ⟨am_wi 878 rfl rfl, List.forall_mem_cons.mpr ⟨am_wi 880 rfl rfl, List.forall_mem_cons.mpr ⟨am_wi 882 rfl rfl, List.forall_mem_cons.mpr ⟨am_wi 884 rfl rfl, List.forall_mem_cons.mpr ⟨am_wi 886 rfl rfl, List.forall_mem_cons.mpr ⟨am_wi 888 rfl rfl, List.forall_mem_cons.mpr ⟨am_wi 890 rfl rfl, List.forall_mem_cons.mpr ⟨am_wi 892 rfl rfl, List.forall_mem_cons.mpr ⟨am_wi 894 rfl rfl, List.forall_mem_cons.mpr ⟨am_wi 896 rfl rfl, List.forall_mem_cons.mpr ⟨am_wi 898 rfl rfl, List.forall_mem_cons.mpr ⟨am_wi 900 rfl rfl, List.forall_mem_cons.mpr ⟨am_wi 902 rfl rfl, List.forall_mem_cons.mpr ⟨am_wi 904 rfl rfl, List.forall_mem_cons.mpr ⟨am_wi 906 rfl rfl, List.forall_mem_cons.mpr ⟨am_wi 908 rfl rfl, List.forall_mem_cons.mpr ⟨am_wi 910 rfl rfl, List.forall_mem_cons.mpr ⟨am_wi 912 rfl rfl, List.forall_mem_cons.mpr ⟨am_wi 914 rfl rfl, List.forall_mem_cons.mpr ⟨am_wi 916 rfl rfl, List.forall_mem_cons.mpr ⟨am_wi 918 rfl rfl, List.forall_mem_cons.mpr ⟨am_wi 920 rfl rfl, List.forall_mem_cons.mpr ⟨am_wi 922 rfl rfl, List.forall_mem_cons.mpr ⟨am_wi 924 rfl rfl, List.forall_mem_cons.mpr ⟨am_wi 926 rfl rfl, List.forall_mem_cons.mpr ⟨am_wi 928 rfl rfl, List.forall_mem_cons.mpr ⟨am_wi 930 rfl rfl, List.forall_mem_cons.mpr ⟨am_wi 932 rfl rfl, List.forall_mem_cons.mpr ⟨am_wi 934 rfl rfl, fun _ h => absurd h List.not_mem_nil⟩⟩⟩⟩⟩⟩⟩⟩⟩⟩⟩⟩⟩⟩⟩⟩⟩⟩⟩⟩⟩⟩⟩⟩⟩⟩⟩⟩⟩⟩
set_option maxRecDepth 20000 in
theorem cl_X10 : am_cls 9 (RX10, TX10, 30) := ⟨tyX10, tyX10_ok, nmX10, la_X10, rfl, by decide⟩
theorem am_cls_of {ci : Nat} {c : vw_C} (h : vwCl[ci]? = some c) : am_cls ci c := by
  match ci, h with
  | 0, h => cases h; exact cl_X0
  | 1, h => cases h; exact cl_X1
  | 2, h => cases h; exact cl_X2
  | 3, h => cases h; exact cl_X3
  | 4, h => cases h; exact cl_X4
  | 5, h => cases h; exact cl_X6
  | 6, h => cases h; exact cl_X7
  | 7, h => cases h; exact cl_X8
  | 8, h => cases h; exact cl_X9
  | 9, h => cases h; exact cl_X10
  | n + 10, h => simp [vwCl] at h
