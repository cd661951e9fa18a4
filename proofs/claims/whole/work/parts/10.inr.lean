/-! which steps return, which call -/
section AMF
variable {e : am_E} {pc len i t : Nat} {n off d lo hi : Int} {offs : Array Int} {ls st : List Value} {h : am_H} {z : Option Value ⊕ (am_E × List Value × List Value)} {f : Int32 → Int32 → Int32} {fl : Int64 → Int64 → Int64} {w : Option (Nat × Nat × Nat × Bool)} {w2 : Option (Nat × am_E)}
theorem am_f_nx (hs : am_nx pc ls st h = some (.inr z)) : False := by
  unfold am_nx at hs
  cases hs
theorem am_f_jp (hs : am_jp pc off ls st h = some (.inr z)) : False := by
  unfold am_jp at hs
  split at hs
  · exact am_f_nx hs
  · cases hs
theorem am_f_br {cd : Prop} [Decidable cd] (hs : am_br cd pc off ls st h = some (.inr z)) : False := by
  unfold am_br at hs
  repeat' split at hs
  all_goals first | (cases hs; done) | exact am_f_nx hs
theorem am_f_iload (hs : am_iload pc len ls st h i = some (.inr z)) : False := by
  unfold am_iload at hs
  repeat' split at hs
  all_goals first | (cases hs; done) | exact am_f_nx hs
theorem am_f_lload (hs : am_lload pc len ls st h i = some (.inr z)) : False := by
  unfold am_lload at hs
  repeat' split at hs
  all_goals first | (cases hs; done) | exact am_f_nx hs
theorem am_f_aload (hs : am_aload pc len ls st h i = some (.inr z)) : False := by
  unfold am_aload at hs
  repeat' split at hs
  all_goals first | (cases hs; done) | exact am_f_nx hs
theorem am_f_bin (hs : am_bin f pc ls st h = some (.inr z)) : False := by
  unfold am_bin at hs
  repeat' split at hs
  all_goals first | (cases hs; done) | exact am_f_nx hs
theorem am_f_dvd (hs : am_dvd f pc ls st h = some (.inr z)) : False := by
  unfold am_dvd at hs
  repeat' split at hs
  all_goals first | (cases hs; done) | exact am_f_nx hs
theorem am_f_binL (hs : am_binL fl pc ls st h = some (.inr z)) : False := by
  unfold am_binL at hs
  repeat' split at hs
  all_goals first | (cases hs; done) | exact am_f_nx hs
theorem am_f_dvdL (hs : am_dvdL fl pc ls st h = some (.inr z)) : False := by
  unfold am_dvdL at hs
  repeat' split at hs
  all_goals first | (cases hs; done) | exact am_f_nx hs
theorem am_f_gfx (hs : am_gfx w pc ls st h = some (.inr z)) : False := by
  unfold am_gfx at hs
  repeat' split at hs
  all_goals first | (cases hs; done) | exact am_f_nx hs
theorem am_f_pfx (hs : am_pfx w e pc ls st h = some (.inr z)) : False := by
  unfold am_pfx at hs
  repeat' split at hs
  all_goals first | (cases hs; done) | exact am_f_nx hs
theorem am_f_ald (hs : am_ald pc ls st h t = some (.inr z)) : False := by
  unfold am_ald at hs
  repeat' split at hs
  all_goals first | (cases hs; done) | exact am_f_nx hs
theorem am_f_aldJ (hs : am_aldJ pc ls st h = some (.inr z)) : False := by
  unfold am_aldJ at hs
  repeat' split at hs
  all_goals first | (cases hs; done) | exact am_f_nx hs
theorem am_f_ast (hs : am_ast pc ls st h = some (.inr z)) : False := by
  unfold am_ast at hs
  repeat' split at hs
  all_goals first | (cases hs; done) | exact am_f_nx hs
theorem am_f_astZ (hs : am_astZ pc ls st h = some (.inr z)) : False := by
  unfold am_astZ at hs
  repeat' split at hs
  all_goals first | (cases hs; done) | exact am_f_nx hs
theorem am_f_astJ (hs : am_astJ pc ls st h = some (.inr z)) : False := by
  unfold am_astJ at hs
  repeat' split at hs
  all_goals first | (cases hs; done) | exact am_f_nx hs
theorem am_f_astR (hs : am_astR pc ls st h = some (.inr z)) : False := by
  unfold am_astR at hs
  repeat' split at hs
  all_goals first | (cases hs; done) | exact am_f_nx hs
theorem am_f_aln (hs : am_aln pc ls st h = some (.inr z)) : False := by
  unfold am_aln at hs
  repeat' split at hs
  all_goals first | (cases hs; done) | exact am_f_nx hs
theorem am_f_nwa (hs : am_nwa pc len ls st h t = some (.inr z)) : False := by
  unfold am_nwa at hs
  repeat' split at hs
  all_goals first | (cases hs; done) | exact am_f_nx hs
theorem am_f_obj (hs : am_obj w2 e pc ls st h = some (.inr z)) : False := by
  unfold am_obj at hs
  repeat' split at hs
  all_goals first | (cases hs; done) | exact am_f_nx hs
theorem am_f_acp (hs : am_acp w2 e pc ls st h = some (.inr z)) : False := by
  unfold am_acp at hs
  repeat' split at hs
  all_goals first | (cases hs; done) | exact am_f_nx hs
theorem am_f_mx (hs : am_mx w2 e pc ls st h = some (.inr z)) : False := by
  unfold am_mx at hs
  repeat' split at hs
  all_goals first | (cases hs; done) | exact am_f_nx hs
theorem am_f_istore (hs : am_istore pc len ls st h i = some (.inr z)) : False := by
  unfold am_istore at hs
  split at hs
  · simp only [Option.bind_eq_some_iff] at hs
    obtain ⟨_, _, hs⟩ := hs
    exact am_f_nx hs
  · cases hs
theorem am_f_astore (hs : am_astore pc len ls st h i = some (.inr z)) : False := by
  unfold am_astore at hs
  split at hs
  · simp only [Option.bind_eq_some_iff] at hs
    obtain ⟨_, _, hs⟩ := hs
    exact am_f_nx hs
  · cases hs
theorem am_f_lstore (hs : am_lstore pc len ls st h i = some (.inr z)) : False := by
  unfold am_lstore at hs
  split at hs
  · simp only [Option.bind_eq_some_iff] at hs
    obtain ⟨_, _, hs⟩ := hs
    exact am_f_nx hs
  · cases hs
theorem am_f_iinc (hs : am_iinc pc ls st h i n = some (.inr z)) : False := by
  unfold am_iinc at hs
  split at hs
  · simp only [Option.bind_eq_some_iff] at hs
    obtain ⟨_, _, hs⟩ := hs
    exact am_f_nx hs
  · cases hs
theorem am_f_aldR (hs : am_aldR pc ls st h = some (.inr z)) : False := by
  unfold am_aldR at hs
  split at hs
  · split at hs
    · simp only [Option.bind_eq_some_iff] at hs
      obtain ⟨_, _, hs⟩ := hs
      exact am_f_nx hs
    · cases hs
  · cases hs
theorem am_f_tsw (hs : am_tsw pc ls st h d lo hi offs = some (.inr z)) : False := by
  unfold am_tsw at hs
  split at hs
  · split at hs
    · exact am_f_jp hs
    · simp only [Option.bind_eq_some_iff] at hs
      obtain ⟨_, _, hs⟩ := hs
      exact am_f_jp hs
  · cases hs
theorem am_f_call {ok : Nat → Bool} (hs : am_call w2 ok e pc ls st h = some (.inr z)) : ∃ (kd : Nat) (e2 : am_E), w2 = some (kd, e2) ∧ ok kd = true ∧ am_cok e e2 kd st h = true ∧ z = .inr (e2, (st.take (am_na e2)).reverse, st.drop (am_na e2)) := by
  unfold am_call at hs
  split at hs
  · next k e2 =>
    split at hs
    · next h1 =>
      split at hs
      · next h2 =>
        cases hs
        exact ⟨k, e2, rfl, h1, h2, rfl⟩
      · cases hs
    · cases hs
  · cases hs
theorem am_f_eq (hs : am_eq pc ls st h off = some (.inr z)) : False := by
  unfold am_eq at hs
  split at hs
  · exact am_f_br hs
  · cases hs
theorem am_f_ne (hs : am_ne pc ls st h off = some (.inr z)) : False := by
  unfold am_ne at hs
  split at hs
  · exact am_f_br hs
  · cases hs
theorem am_f_lt (hs : am_lt pc ls st h off = some (.inr z)) : False := by
  unfold am_lt at hs
  split at hs
  · exact am_f_br hs
  · cases hs
theorem am_f_ge (hs : am_ge pc ls st h off = some (.inr z)) : False := by
  unfold am_ge at hs
  split at hs
  · exact am_f_br hs
  · cases hs
theorem am_f_gt (hs : am_gt pc ls st h off = some (.inr z)) : False := by
  unfold am_gt at hs
  split at hs
  · exact am_f_br hs
  · cases hs
theorem am_f_le (hs : am_le pc ls st h off = some (.inr z)) : False := by
  unfold am_le at hs
  split at hs
  · exact am_f_br hs
  · cases hs
theorem am_f_ieq (hs : am_ieq pc ls st h off = some (.inr z)) : False := by
  unfold am_ieq at hs
  split at hs
  · exact am_f_br hs
  · cases hs
theorem am_f_ine (hs : am_ine pc ls st h off = some (.inr z)) : False := by
  unfold am_ine at hs
  split at hs
  · exact am_f_br hs
  · cases hs
theorem am_f_ilt (hs : am_ilt pc ls st h off = some (.inr z)) : False := by
  unfold am_ilt at hs
  split at hs
  · exact am_f_br hs
  · cases hs
theorem am_f_ige (hs : am_ige pc ls st h off = some (.inr z)) : False := by
  unfold am_ige at hs
  split at hs
  · exact am_f_br hs
  · cases hs
theorem am_f_igt (hs : am_igt pc ls st h off = some (.inr z)) : False := by
  unfold am_igt at hs
  split at hs
  · exact am_f_br hs
  · cases hs
theorem am_f_ile (hs : am_ile pc ls st h off = some (.inr z)) : False := by
  unfold am_ile at hs
  split at hs
  · exact am_f_br hs
  · cases hs
end AMF
def am_ctl : Instr → Bool
  | .ireturn => true
  | .lreturn => true
  | .return_ => true
  | .invokevirtual _ => true
  | .invokestatic _ => true
  | .invokespecial _ => true
  | _ => false
set_option maxHeartbeats 4000000 in
theorem am_stp_no {e : am_E} {pc len : Nat} {ls st : List Value} {h : am_H} {i : Instr} {z : Option Value ⊕ (am_E × List Value × List Value)} (hc : am_ctl i = false) (hs : am_stp e pc ls st h i len = some (.inr z)) : False := by
  unfold am_stp at hs
  split at hs
  all_goals first
    | (cases hc; done)
    | (cases hs; done)
    | skip
  all_goals try (split at hs)
  all_goals first
    | (cases hs; done)
    | with_reducible exact am_f_tsw hs
    | with_reducible exact am_f_iload hs
    | with_reducible exact am_f_lload hs
    | with_reducible exact am_f_aload hs
    | with_reducible exact am_f_istore hs
    | with_reducible exact am_f_astore hs
    | with_reducible exact am_f_lstore hs
    | with_reducible exact am_f_iinc hs
    | with_reducible exact am_f_bin hs
    | with_reducible exact am_f_dvd hs
    | with_reducible exact am_f_binL hs
    | with_reducible exact am_f_dvdL hs
    | with_reducible exact am_f_jp hs
    | with_reducible exact am_f_eq hs
    | with_reducible exact am_f_ne hs
    | with_reducible exact am_f_lt hs
    | with_reducible exact am_f_ge hs
    | with_reducible exact am_f_gt hs
    | with_reducible exact am_f_le hs
    | with_reducible exact am_f_ieq hs
    | with_reducible exact am_f_ine hs
    | with_reducible exact am_f_ilt hs
    | with_reducible exact am_f_ige hs
    | with_reducible exact am_f_igt hs
    | with_reducible exact am_f_ile hs
    | with_reducible exact am_f_gfx hs
    | with_reducible exact am_f_pfx hs
    | with_reducible exact am_f_ald hs
    | with_reducible exact am_f_aldJ hs
    | with_reducible exact am_f_aldR hs
    | with_reducible exact am_f_ast hs
    | with_reducible exact am_f_astZ hs
    | with_reducible exact am_f_astJ hs
    | with_reducible exact am_f_astR hs
    | with_reducible exact am_f_aln hs
    | with_reducible exact am_f_nwa hs
    | with_reducible exact am_f_nx hs
    | skip
  all_goals try (simp only [Option.bind_eq_some_iff] at hs; obtain ⟨_, _, hs⟩ := hs)
  all_goals (repeat' split at hs)
  all_goals first
    | (cases hs; done)
    | with_reducible exact am_f_nx hs
    | with_reducible exact am_f_nwa hs
set_option maxHeartbeats 4000000 in
/-- a step that is no mere step: a return, or a call -/
theorem am_stp_inr {e : am_E} {pc len : Nat} {ls st : List Value} {h : am_H} {i : Instr} {z : Option Value ⊕ (am_E × List Value × List Value)} (hs : am_stp e pc ls st h i len = some (.inr z)) :
    (∃ x, i = .ireturn ∧ len = 1 ∧ st = [.int x] ∧ (am_rt e = some .int ∨ (am_rt e = some .boolean ∧ (x = 0 ∨ x = 1))) ∧ z = .inl (some (.int x))) ∨ (∃ x, i = .lreturn ∧ len = 1 ∧ st = [.long x] ∧ am_rt e = some .long ∧ z = .inl (some (.long x))) ∨ (i = .return_ ∧ len = 1 ∧ st = [] ∧ am_rt e = none ∧ z = .inl none) ∨
    (∃ (k kd : Nat) (e2 : am_E), am_mlk (am_ow e) k = some (kd, e2) ∧ len = 3 ∧ ((i = .invokevirtual k ∧ kd = 1) ∨ (i = .invokestatic k ∧ (kd = 0 ∨ kd = 3)) ∨ (i = .invokespecial k ∧ (kd = 2 ∨ kd = 5))) ∧ am_cok e e2 kd st h = true ∧ z = .inr (e2, (st.take (am_na e2)).reverse, st.drop (am_na e2))) := by
  cases i
  case ireturn =>
    simp only [am_stp] at hs
    split at hs
    · next hl =>
      split at hs
      · next x =>
        split at hs
        · next hr =>
          cases hs
          exact Or.inl ⟨x, rfl, hl, rfl, hr, rfl⟩
        · cases hs
      · cases hs
    · cases hs
  case lreturn =>
    simp only [am_stp] at hs
    split at hs
    · next hl =>
      split at hs
      · next x =>
        split at hs
        · next hr =>
          cases hs
          exact Or.inr (Or.inl ⟨x, rfl, hl, rfl, hr, rfl⟩)
        · cases hs
      · cases hs
    · cases hs
  case return_ =>
    simp only [am_stp] at hs
    split at hs
    · next hl =>
      split at hs
      · split at hs
        · next hr =>
          cases hs
          exact Or.inr (Or.inr (Or.inl ⟨rfl, hl, rfl, hr, rfl⟩))
        · cases hs
      · cases hs
    · cases hs
  case invokevirtual k =>
    simp only [am_stp] at hs
    split at hs
    · next hl =>
      obtain ⟨kd, e2, h1, h2, h3, h4⟩ := am_f_call hs
      simp only [beq_iff_eq] at h2
      exact Or.inr (Or.inr (Or.inr ⟨k, kd, e2, h1, hl, Or.inl ⟨rfl, h2⟩, h3, h4⟩))
    · cases hs
  case invokestatic k =>
    simp only [am_stp] at hs
    split at hs
    · next hl =>
      rcases Option.or_eq_some_iff.mp hs with hs | ⟨_, hs⟩
      · exact (am_f_acp hs).elim
      · rcases Option.or_eq_some_iff.mp hs with hs | ⟨_, hs⟩
        · exact (am_f_mx hs).elim
        · obtain ⟨kd, e2, h1, h2, h3, h4⟩ := am_f_call hs
          simp only [Bool.or_eq_true, beq_iff_eq] at h2
          exact Or.inr (Or.inr (Or.inr ⟨k, kd, e2, h1, hl, Or.inr (Or.inl ⟨rfl, h2⟩), h3, h4⟩))
    · cases hs
  case invokespecial k =>
    simp only [am_stp] at hs
    split at hs
    · next hl =>
      rcases Option.or_eq_some_iff.mp hs with hs | ⟨_, hs⟩
      · exact (am_f_obj hs).elim
      · obtain ⟨kd, e2, h1, h2, h3, h4⟩ := am_f_call hs
        simp only [Bool.or_eq_true, beq_iff_eq] at h2
        exact Or.inr (Or.inr (Or.inr ⟨k, kd, e2, h1, hl, Or.inr (Or.inr ⟨rfl, h2⟩), h3, h4⟩))
    · cases hs
  all_goals exact (am_stp_no rfl hs).elim
