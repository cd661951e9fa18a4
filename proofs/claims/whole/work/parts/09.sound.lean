/-! the step as one theorem; a run of the abstract machine is a run of the machine -/
set_option maxHeartbeats 4000000 in
theorem am_stp_ext {e : am_E} {pc len : Nat} {ls st : List Value} {h : am_H} {i : Instr} {q : Nat × List Value × List Value × am_H} (hs : am_stp e pc ls st h i len = some (.inl q)) : am_ext h q.2.2.2 := by
  unfold am_stp at hs
  split at hs
  all_goals first
    | exact am_e_tsw hs
    | skip
  all_goals try (split at hs)
  all_goals first
    | (cases hs; done)
    | exact am_nx_ext hs (am_ext.rf _)
    | exact am_e_iload hs
    | exact am_e_lload hs
    | exact am_e_aload hs
    | exact am_e_istore hs
    | exact am_e_astore hs
    | exact am_e_lstore hs
    | exact am_e_iinc hs
    | exact am_e_bin hs
    | exact am_e_dvd hs
    | exact am_e_binL hs
    | exact am_e_dvdL hs
    | exact am_e_jp hs
    | exact am_e_eq hs
    | exact am_e_ne hs
    | exact am_e_lt hs
    | exact am_e_ge hs
    | exact am_e_gt hs
    | exact am_e_le hs
    | exact am_e_ieq hs
    | exact am_e_ine hs
    | exact am_e_ilt hs
    | exact am_e_ige hs
    | exact am_e_igt hs
    | exact am_e_ile hs
    | exact am_e_gfx hs
    | exact am_e_pfx hs
    | exact am_e_ald hs
    | exact am_e_aldJ hs
    | exact am_e_aldR hs
    | exact am_e_ast hs
    | exact am_e_astZ hs
    | exact am_e_astJ hs
    | exact am_e_astR hs
    | exact am_e_aln hs
    | exact am_e_nwa hs
    | exact (am_e_call hs).elim
    | skip
  all_goals first
    | (rcases Option.or_eq_some_iff.mp hs with hs | ⟨_, hs⟩
       · exact am_e_obj hs
       · exact (am_e_call hs).elim)
    | (rcases Option.or_eq_some_iff.mp hs with hs | ⟨_, hs⟩
       · exact am_e_acp hs
       · rcases Option.or_eq_some_iff.mp hs with hs | ⟨_, hs⟩
         · exact am_e_mx hs
         · exact (am_e_call hs).elim)
    | skip
  all_goals try (simp only [Option.bind_eq_some_iff] at hs; obtain ⟨_, _, hs⟩ := hs)
  all_goals first
    | exact am_nx_ext hs (am_ext.rf _)
    | exact am_nx_ext hs ⟨⟨[_], rfl⟩, rfl⟩
    | skip
  all_goals (repeat' split at hs)
  all_goals first
    | (cases hs; done)
    | exact am_nx_ext hs (am_ext.rf _)
    | exact am_e_nwa hs
theorem am_run_ext : ∀ (n : Nat) {e : am_E} {pc : Nat} {ls st : List Value} {h h' : am_H} {v : Option Value}, am_run n e pc ls st h = some (v, h') → am_ext h h'
  | 0, e, pc, ls, st, h, h', v, hr => by simp [am_run] at hr
  | n + 1, e, pc, ls, st, h, h', v, hr => by
    rw [am_run] at hr
    split at hr
    · cases hr
    · next q hq =>
      have h1 : am_ext h q.2.2.2 := by
        unfold am_at at hq
        split at hq
        · exact am_stp_ext hq
        · cases hq
      exact h1.tr (am_run_ext n hr)
    · cases hr
      exact am_ext.rf _
    · split at hr
      · cases hr
      · next r hq =>
        exact (am_run_ext n hq).tr (am_run_ext n hr)
section AMS2
variable {e : am_E} {D : va_G} {cy : Nat → ClassId} {b b0 : Nat} {X : (Nat → Int32) × Nat} {K0 : List am_K} {p : Program} {l : Launch} {ev : Env} {R : Room} {s : State} {m : MethodId} {args : Array Value} {below : List Frame} {meth : Method} {c : Code} {Q : State → Prop}
variable {pc : Nat} {ls st : List Value} {h : am_H} {q : Nat × List Value × List Value × am_H} {lc : Array Slot} {H : Heap} {locs : List Loc} {cells slots : Nat}
theorem am_c1_cat {v : Value} (h : am_c1 v = true) : v.category = 1 := by cases v <;> first | rfl | (simp [am_c1] at h)
set_option maxHeartbeats 4000000 in
theorem am_step {i : Instr} {len : Nat} (CX : am_CX e D cy b b0 X K0 p R s m args meth c) (hd : decode (am_code e) pc = .ok (i, len)) (hs : am_stp e pc ls st h i len = some (.inl q)) (RL : am_RL e D cy b b0 X K0 s ls h lc H locs cells slots) (hc : q.2.2.2.1.length ≤ K0.length + R.cells) (hsl : am_sl q.2.2.2.1 ≤ am_sl K0 + R.slots) (kk : am_KK e D cy b b0 X K0 p l ev R s m args below meth c Q q) : W p l ev R s m args below meth c H locs cells slots Q (F0 m pc lc (st.map (am_sh b b0))) := by
  have hx := CX.1
  have hb := CX.2.1
  have hrm : cells ≤ R.cells ∧ slots ≤ R.slots := by
    obtain ⟨⟨t, e1⟩, -⟩ := am_stp_ext hs
    have r7 := RL.2.2.2.2.2.2.1
    have r8 := RL.2.2.2.2.2.2.2
    rw [e1] at hc hsl
    rw [am_sl_app] at hsl
    rw [List.length_append] at hc
    omega
  cases i
  case iconst n =>
    simp only [am_stp] at hs
    split at hs
    · next hl =>
      subst hl
      have := am_nx_spec hs
      subst this
      exact lv_iconst hx hb hd rfl (kk _ _ _ _ _ RL)
    · cases hs
  case bipush n =>
    simp only [am_stp] at hs
    split at hs
    · next hl =>
      subst hl
      have := am_nx_spec hs
      subst this
      exact lv_bipush hx hb hd rfl (kk _ _ _ _ _ RL)
    · cases hs
  case sipush n =>
    simp only [am_stp] at hs
    split at hs
    · next hl =>
      subst hl
      have := am_nx_spec hs
      subst this
      exact lv_sipush hx hb hd rfl (kk _ _ _ _ _ RL)
    · cases hs
  case lconst n =>
    simp only [am_stp] at hs
    split at hs
    · next hl =>
      subst hl
      have := am_nx_spec hs
      subst this
      exact lv_lconst hx hb hd rfl (kk _ _ _ _ _ RL)
    · cases hs
  case ldc k =>
    simp only [am_stp] at hs
    split at hs
    · next hl =>
      subst hl
      simp only [Option.bind_eq_some_iff] at hs
      obtain ⟨v, h1, h2⟩ := hs
      have := am_nx_spec h2
      subst this
      exact lv_ldc hx hb CX.2.2.2.1 (CX.2.2.2.2.1 _ (am_cst_spec h1)) hd (kk _ _ _ _ _ RL)
    · cases hs
  case ldc_w k =>
    simp only [am_stp] at hs
    split at hs
    · next hl =>
      subst hl
      simp only [Option.bind_eq_some_iff] at hs
      obtain ⟨v, h1, h2⟩ := hs
      have := am_nx_spec h2
      subst this
      exact lv_ldcw hx hb CX.2.2.2.1 (CX.2.2.2.2.1 _ (am_cst_spec h1)) hd (kk _ _ _ _ _ RL)
    · cases hs
  case ldc2_w k =>
    simp only [am_stp] at hs
    split at hs
    · next hl =>
      subst hl
      simp only [Option.bind_eq_some_iff] at hs
      obtain ⟨v, h1, h2⟩ := hs
      have := am_nx_spec h2
      subst this
      exact lv_ldc2 hx hb CX.2.2.2.1 (CX.2.2.2.2.1 _ (am_csl_spec h1)) hd (kk _ _ _ _ _ RL)
    · cases hs
  case iload_n k =>
    simp only [am_stp] at hs
    split at hs
    · next hl =>
      subst hl
      exact am_s_iload CX hs RL kk (fun x h1 h2 => lv_iload_n hx hb hd rfl h1 h2)
    · cases hs
  case iload k =>
    simp only [am_stp] at hs
    split at hs
    · next hl =>
      subst hl
      exact am_s_iload CX hs RL kk (fun x h1 h2 => lv_iload hx hb hd h1 h2)
    · cases hs
  case lload_n k =>
    simp only [am_stp] at hs
    split at hs
    · next hl =>
      subst hl
      exact am_s_lload CX hs RL kk (fun x h1 h2 => lv_lload_n hx hb hd rfl h1 h2)
    · cases hs
  case lload k =>
    simp only [am_stp] at hs
    split at hs
    · next hl =>
      subst hl
      exact am_s_lload CX hs RL kk (fun x h1 h2 => lv_lload hx hb hd h1 h2)
    · cases hs
  case aload_n k =>
    simp only [am_stp] at hs
    split at hs
    · next hl =>
      subst hl
      exact am_s_aload CX hs RL kk (fun x h1 h2 => lv_aload_n hx hb hd rfl h1 h2)
    · cases hs
  case aload k =>
    simp only [am_stp] at hs
    split at hs
    · next hl =>
      subst hl
      exact am_s_aload CX hs RL kk (fun x h1 h2 => lv_aload hx hb hd h1 h2)
    · cases hs
  case istore_n k =>
    simp only [am_stp] at hs
    split at hs
    · next hl =>
      subst hl
      exact am_s_istore CX hs RL kk (fun x r h1 h2 h3 => by subst h1; exact lv_istore_n hx hb hd rfl RL.2.2.1 h2 rfl h3)
    · cases hs
  case istore k =>
    simp only [am_stp] at hs
    split at hs
    · next hl =>
      subst hl
      exact am_s_istore CX hs RL kk (fun x r h1 h2 h3 => by subst h1; exact lv_istore hx hb hd RL.2.2.1 h2 rfl h3)
    · cases hs
  case lstore_n k =>
    simp only [am_stp] at hs
    split at hs
    · next hl =>
      subst hl
      exact am_s_lstore CX hs RL kk (fun x r h1 h2 h3 => by subst h1; exact lv_lstore_n hx hb hd rfl RL.2.2.1 h2 rfl h3)
    · cases hs
  case lstore k =>
    simp only [am_stp] at hs
    split at hs
    · next hl =>
      subst hl
      exact am_s_lstore CX hs RL kk (fun x r h1 h2 h3 => by subst h1; exact lv_lstore hx hb hd RL.2.2.1 h2 rfl h3)
    · cases hs
  case astore_n k =>
    simp only [am_stp] at hs
    split at hs
    · next hl =>
      subst hl
      exact am_s_astore CX hs RL kk (fun x r h1 h2 h3 => by subst h1; exact lv_astore_n hx hb hd rfl RL.2.2.1 h2 rfl h3)
    · cases hs
  case iinc k n =>
    simp only [am_stp] at hs
    split at hs
    · next hl =>
      subst hl
      exact am_s_iinc CX hs RL kk hd
    · cases hs
  case iadd =>
    simp only [am_stp] at hs
    split at hs
    · next hl =>
      subst hl
      exact am_s_bin hs RL kk (fun x y r h1 => lv_iadd hx hb hd h1)
    · cases hs
  case isub =>
    simp only [am_stp] at hs
    split at hs
    · next hl =>
      subst hl
      exact am_s_bin hs RL kk (fun x y r h1 => lv_isub hx hb hd h1)
    · cases hs
  case imul =>
    simp only [am_stp] at hs
    split at hs
    · next hl =>
      subst hl
      exact am_s_bin hs RL kk (fun x y r h1 => lv_imul hx hb hd h1)
    · cases hs
  case iand =>
    simp only [am_stp] at hs
    split at hs
    · next hl =>
      subst hl
      exact am_s_bin hs RL kk (fun x y r h1 => lv_iand hx hb hd h1)
    · cases hs
  case ior =>
    simp only [am_stp] at hs
    split at hs
    · next hl =>
      subst hl
      exact am_s_bin hs RL kk (fun x y r h1 => lv_ior hx hb hd h1)
    · cases hs
  case ixor =>
    simp only [am_stp] at hs
    split at hs
    · next hl =>
      subst hl
      exact am_s_bin hs RL kk (fun x y r h1 => lv_ixor hx hb hd h1)
    · cases hs
  case ishl =>
    simp only [am_stp] at hs
    split at hs
    · next hl =>
      subst hl
      exact am_s_bin hs RL kk (fun x y r h1 => lv_ishl hx hb hd h1)
    · cases hs
  case ishr =>
    simp only [am_stp] at hs
    split at hs
    · next hl =>
      subst hl
      exact am_s_bin hs RL kk (fun x y r h1 => lv_ishr hx hb hd h1)
    · cases hs
  case idiv =>
    simp only [am_stp] at hs
    split at hs
    · next hl =>
      subst hl
      exact am_s_dvd hs RL kk (fun x y r hy h1 => lv_idiv hx hb hd hy h1)
    · cases hs
  case irem =>
    simp only [am_stp] at hs
    split at hs
    · next hl =>
      subst hl
      exact am_s_dvd hs RL kk (fun x y r hy h1 => lv_irem hx hb hd hy h1)
    · cases hs
  case iushr =>
    simp only [am_stp] at hs
    split at hs
    · next hl =>
      subst hl
      exact am_s_bin hs RL kk (fun x y r h1 => lv_iushr hx hb hd rfl h1)
    · cases hs
  case ladd =>
    simp only [am_stp] at hs
    split at hs
    · next hl =>
      subst hl
      exact am_s_binL hs RL kk (fun x y r h1 => lv_ladd hx hb hd h1)
    · cases hs
  case lmul =>
    simp only [am_stp] at hs
    split at hs
    · next hl =>
      subst hl
      exact am_s_binL hs RL kk (fun x y r h1 => lv_lmul hx hb hd h1)
    · cases hs
  case ldiv =>
    simp only [am_stp] at hs
    split at hs
    · next hl =>
      subst hl
      exact am_s_dvdL hs RL kk (fun x y r hy h1 => lv_ldiv hx hb hd hy h1)
    · cases hs
  case lrem =>
    simp only [am_stp] at hs
    split at hs
    · next hl =>
      subst hl
      exact am_s_dvdL hs RL kk (fun x y r hy h1 => lv_lrem hx hb hd hy h1)
    · cases hs
  case lcmp =>
    simp only [am_stp] at hs
    split at hs
    · next hl =>
      subst hl
      split at hs
      · next y x r =>
        have := am_nx_spec hs
        subst this
        exact W.lcmp hx hb hd (kk _ _ _ _ _ RL)
      · cases hs
    · cases hs
  case i2l =>
    simp only [am_stp] at hs
    split at hs
    · next hl =>
      subst hl
      split at hs
      · next x r =>
        have := am_nx_spec hs
        subst this
        exact lv_i2l hx hb hd rfl (kk _ _ _ _ _ RL)
      · cases hs
    · cases hs
  case dup =>
    simp only [am_stp] at hs
    split at hs
    · next hl =>
      subst hl
      split at hs
      · next v r =>
        split at hs
        · next hv =>
          have := am_nx_spec hs
          subst this
          exact lv_dup hx hb hd (by rw [am_sh_cat]; exact am_c1_cat hv) (kk _ _ _ _ _ RL)
        · cases hs
      · cases hs
    · cases hs
  case dup2 =>
    simp only [am_stp] at hs
    split at hs
    · next hl =>
      subst hl
      split at hs
      · next v w r =>
        split at hs
        · next hv =>
          have := am_nx_spec hs
          subst this
          exact lv_dup2_11 hx hb hd (by rw [am_sh_cat]; exact am_c1_cat hv.1) (by rw [am_sh_cat]; exact am_c1_cat hv.2) (kk _ _ _ _ _ RL)
        · cases hs
      · cases hs
    · cases hs
  case pop =>
    simp only [am_stp] at hs
    split at hs
    · next hl =>
      subst hl
      split at hs
      · next v r =>
        split at hs
        · next hv =>
          have := am_nx_spec hs
          subst this
          exact lv_pop hx hb hd (by rw [am_sh_cat]; exact am_c1_cat hv) (kk _ _ _ _ _ RL)
        · cases hs
      · cases hs
    · cases hs
  case goto o =>
    simp only [am_stp] at hs
    split at hs
    · next hl =>
      subst hl
      obtain ⟨h1, h2⟩ := am_jp_spec hs
      obtain ⟨q1, q2⟩ := q
      simp only at h1 h2
      subst h2
      exact lv_goto hx hb hd h1 (kk _ _ _ _ _ RL)
    · cases hs
  case ifCond cd o =>
    cases cd
    case eq =>
      simp only [am_stp, am_eq] at hs
      split at hs
      · next hl =>
        subst hl
        split at hs
        · next x r => exact am_s_br hs RL kk (fun tgt h1 h2 h3 => lv_if_eq hx hb hd h1 h2 (by simpa using h3))
        · cases hs
      · cases hs
    case ne =>
      simp only [am_stp, am_ne] at hs
      split at hs
      · next hl =>
        subst hl
        split at hs
        · next x r => exact am_s_br hs RL kk (fun tgt h1 h2 h3 => lv_if_ne hx hb hd h1 h2 (by simpa using h3))
        · cases hs
      · cases hs
    case lt =>
      simp only [am_stp, am_lt] at hs
      split at hs
      · next hl =>
        subst hl
        split at hs
        · next x r => exact am_s_br hs RL kk (fun tgt h1 h2 h3 => lv_if_lt hx hb hd h1 h2 (by simpa using h3))
        · cases hs
      · cases hs
    case ge =>
      simp only [am_stp, am_ge] at hs
      split at hs
      · next hl =>
        subst hl
        split at hs
        · next x r => exact am_s_br hs RL kk (fun tgt h1 h2 h3 => lv_if_ge hx hb hd h1 h2 (by simpa using h3))
        · cases hs
      · cases hs
    case gt =>
      simp only [am_stp, am_gt] at hs
      split at hs
      · next hl =>
        subst hl
        split at hs
        · next x r => exact am_s_br hs RL kk (fun tgt h1 h2 h3 => lv_if_gt hx hb hd h1 h2 (by simpa using h3))
        · cases hs
      · cases hs
    case le =>
      simp only [am_stp, am_le] at hs
      split at hs
      · next hl =>
        subst hl
        split at hs
        · next x r => exact am_s_br hs RL kk (fun tgt h1 h2 h3 => lv_if_le hx hb hd h1 h2 (by simpa using h3))
        · cases hs
      · cases hs
  case if_icmp cd o =>
    cases cd
    case eq =>
      simp only [am_stp, am_ieq] at hs
      split at hs
      · next hl =>
        subst hl
        split at hs
        · next y x r => exact am_s_br hs RL kk (fun tgt h1 h2 h3 => lv_icmp_eq hx hb hd h1 h2 (by simpa using h3))
        · cases hs
      · cases hs
    case ne =>
      simp only [am_stp, am_ine] at hs
      split at hs
      · next hl =>
        subst hl
        split at hs
        · next y x r => exact am_s_br hs RL kk (fun tgt h1 h2 h3 => lv_icmp_ne hx hb hd h1 h2 (by simpa using h3))
        · cases hs
      · cases hs
    case lt =>
      simp only [am_stp, am_ilt] at hs
      split at hs
      · next hl =>
        subst hl
        split at hs
        · next y x r => exact am_s_br hs RL kk (fun tgt h1 h2 h3 => lv_icmp_lt hx hb hd h1 h2 (by simpa using h3))
        · cases hs
      · cases hs
    case ge =>
      simp only [am_stp, am_ige] at hs
      split at hs
      · next hl =>
        subst hl
        split at hs
        · next y x r => exact am_s_br hs RL kk (fun tgt h1 h2 h3 => lv_icmp_ge hx hb hd h1 h2 (by simpa using h3))
        · cases hs
      · cases hs
    case gt =>
      simp only [am_stp, am_igt] at hs
      split at hs
      · next hl =>
        subst hl
        split at hs
        · next y x r => exact am_s_br hs RL kk (fun tgt h1 h2 h3 => lv_icmp_gt hx hb hd h1 h2 (by simpa using h3))
        · cases hs
      · cases hs
    case le =>
      simp only [am_stp, am_ile] at hs
      split at hs
      · next hl =>
        subst hl
        split at hs
        · next y x r => exact am_s_br hs RL kk (fun tgt h1 h2 h3 => lv_icmp_le hx hb hd h1 h2 (by simpa using h3))
        · cases hs
      · cases hs
  case tableswitch d lo hi offs =>
    simp only [am_stp, am_tsw] at hs
    split at hs
    · next x r =>
      split at hs
      · next ho =>
        obtain ⟨h1, h2⟩ := am_jp_spec hs
        obtain ⟨q1, q2⟩ := q
        simp only at h1 h2
        subst h2
        exact lv_tableOut hx hb hd ho h1 (kk _ _ _ _ _ RL)
      · next ho =>
        simp only [Option.bind_eq_some_iff] at hs
        obtain ⟨o, g1, g2⟩ := hs
        obtain ⟨h1, h2⟩ := am_jp_spec g2
        obtain ⟨q1, q2⟩ := q
        simp only at h1 h2
        subst h2
        exact lv_tableIn hx hb hd (fun z => ho (Or.inl z)) (fun z => ho (Or.inr z)) g1 h1 (kk _ _ _ _ _ RL)
    · cases hs
  case getfield k =>
    simp only [am_stp] at hs
    split at hs
    · next hl =>
      subst hl
      exact am_s_gfx CX hs RL kk hd
    · cases hs
  case putfield k =>
    simp only [am_stp] at hs
    split at hs
    · next hl =>
      subst hl
      exact am_s_pfx CX hs RL kk hd
    · cases hs
  case laload =>
    simp only [am_stp] at hs
    split at hs
    · next hl =>
      subst hl
      exact am_s_aldJ CX hs RL kk hd
    · cases hs
  case aaload =>
    simp only [am_stp] at hs
    split at hs
    · next hl =>
      subst hl
      exact am_s_aldR CX hs RL kk hd
    · cases hs
  case iastore =>
    simp only [am_stp] at hs
    split at hs
    · next hl =>
      subst hl
      exact am_s_ast CX hs RL kk hd
    · cases hs
  case bastore =>
    simp only [am_stp] at hs
    split at hs
    · next hl =>
      subst hl
      exact am_s_astZ CX hs RL kk hd
    · cases hs
  case lastore =>
    simp only [am_stp] at hs
    split at hs
    · next hl =>
      subst hl
      exact am_s_astJ CX hs RL kk hd
    · cases hs
  case aastore =>
    simp only [am_stp] at hs
    split at hs
    · next hl =>
      subst hl
      exact am_s_astR CX hs RL kk hd
    · cases hs
  case arraylength =>
    simp only [am_stp] at hs
    split at hs
    · next hl =>
      subst hl
      exact am_s_aln CX hs RL kk hd
    · cases hs
  case baload =>
    simp only [am_stp] at hs
    split at hs
    · next hl =>
      subst hl
      exact am_s_ald CX hs RL kk (Or.inr ⟨rfl, hd⟩)
    · cases hs
  case iaload =>
    simp only [am_stp] at hs
    split at hs
    · next hl =>
      subst hl
      exact am_s_ald CX hs RL kk (Or.inl ⟨rfl, hd⟩)
    · cases hs
  case new k =>
    simp only [am_stp] at hs
    split at hs
    · next hl =>
      subst hl
      exact am_s_new CX hs RL hc hsl kk hd
    · cases hs
  case anewarray k =>
    simp only [am_stp] at hs
    split at hs
    · next hl =>
      subst hl
      exact am_s_anw CX hs RL hc hsl kk hd
    · cases hs
  case newarray a =>
    cases a
    case int =>
      simp only [am_stp] at hs
      split at hs
      · next hl =>
        subst hl
        exact am_s_nwa (j := 0) (a0 := fun N => (N, .inl (fun _ => 0))) CX hs RL hc hsl kk hd rfl am_arrI rfl (fun N cA => rfl) (by decide) (fun U cA h => h) (fun N => by rw [am_ce_I (by rw [am_kd_mk_self]), am_kd_mk_self]; simp [am_mk, va_up])
      · cases hs
    case long =>
      simp only [am_stp] at hs
      split at hs
      · next hl =>
        subst hl
        exact am_s_nwa (j := 1) (a0 := fun N => (N, .inr (.inl (fun _ => 0)))) CX hs RL hc hsl kk hd rfl am_arrJ rfl (fun N cA => rfl) (by decide) (fun U cA h => h) (fun N => by rw [am_ce_J (by rw [am_kd_mk_self]), am_kd_mk_self]; simp [am_mk, va_up])
      · cases hs
    case boolean =>
      simp only [am_stp] at hs
      split at hs
      · next hl =>
        subst hl
        exact am_s_nwa (j := 2) (a0 := fun N => (N, .inl (fun _ => 0))) CX hs RL hc hsl kk hd rfl am_arrZ rfl (fun N cA => rfl) (by decide) (fun U cA h => h) (fun N => by rw [am_ce_Z (by rw [am_kd_mk_self]), am_kd_mk_self]; simp [am_mk, va_up])
      · cases hs
    all_goals (simp [am_stp] at hs)
  case invokevirtual k =>
    simp only [am_stp] at hs
    split at hs
    · exact (am_e_call hs).elim
    · cases hs
  case invokestatic k =>
    simp only [am_stp] at hs
    split at hs
    · next hl =>
      subst hl
      rcases Option.or_eq_some_iff.mp hs with hs | ⟨_, hs⟩
      · exact am_s_acp CX hs RL kk hd
      · rcases Option.or_eq_some_iff.mp hs with hs | ⟨_, hs⟩
        · exact am_s_mx CX hs RL hrm kk hd
        · exact (am_e_call hs).elim
    · cases hs
  case invokespecial k =>
    simp only [am_stp] at hs
    split at hs
    · next hl =>
      subst hl
      rcases Option.or_eq_some_iff.mp hs with hs | ⟨_, hs⟩
      · exact am_s_obj CX hs RL kk hd
      · exact (am_e_call hs).elim
    · cases hs
  case ireturn =>
    simp only [am_stp] at hs
    repeat' split at hs
    all_goals cases hs
  case lreturn =>
    simp only [am_stp] at hs
    repeat' split at hs
    all_goals cases hs
  case return_ =>
    simp only [am_stp] at hs
    repeat' split at hs
    all_goals cases hs
  all_goals (simp [am_stp] at hs)
end AMS2
