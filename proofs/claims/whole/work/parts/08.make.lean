/-! making cells; what a step leaves; the step as one theorem -/
section AMN
variable {e : am_E} {D : va_G} {cy : Nat → ClassId} {b b0 : Nat} {X : (Nat → Int32) × Nat} {K0 : List am_K} {p : Program} {l : Launch} {ev : Env} {R : Room} {s : State} {m : MethodId} {args : Array Value} {below : List Frame} {meth : Method} {c : Code} {Q : State → Prop}
variable {pc : Nat} {ls st : List Value} {h : am_H} {q : Nat × List Value × List Value × am_H} {lc : Array Slot} {H : Heap} {locs : List Loc} {cells slots : Nat}
theorem am_W_sz {g : JFrame} (k : H.size ≤ s.heap.size + cells → W p l ev R s m args below meth c H locs cells slots Q g) : W p l ev R s m args below meth c H locs cells slots Q g := fun T hT Y => k (by rw [← hT]; exact Y.heapSize) T hT Y
theorem am_RL.size (CX : am_CX e D cy b b0 X K0 p R s m args meth c) (RL : am_RL e D cy b b0 X K0 s ls h lc H locs cells slots) (hsz : H.size ≤ s.heap.size + cells) : H.size = b + h.1.length := by
  have h1 := CX.2.2.2.2.2.2.1
  obtain ⟨-, -, -, -, hP, hS, r7, -⟩ := RL
  have h2 := hS.1
  rcases Nat.eq_zero_or_pos h.1.length with z | z
  · omega
  · have := (hP (h.1.length - 1) _ (am_wl_get (by omega))).lt
    simp only at this
    omega
/-- a new cell's place -/
theorem am_new_at {q : Nat} {en : va_E} {H1 : Heap} (CX : am_CX e D cy b b0 X K0 p R s m args meth c) (RL : am_RL e D cy b b0 X K0 s ls h lc H locs cells slots) (hP : va_P D vwCl (am_wl cy b h ++ [(q, en)]) H1) (hD : va_D (fun q => b ≤ q) (am_wl cy b h ++ [(q, en)])) (hsz : H1.size ≤ s.heap.size + (cells + 1)) : q = b + h.1.length := by
  have h1 := CX.2.2.2.2.2.2.1
  have hl : (am_wl cy b h ++ [(q, en)])[h.1.length]? = some (q, en) := by
    rw [List.getElem?_append_right (by rw [am_wl_len]; exact Nat.le_refl _), am_wl_len, Nat.sub_self]
    rfl
  have hlt := (hP _ _ hl).lt
  have hge := hD.2 _ _ hl
  simp only at hlt hge
  have r7 := RL.2.2.2.2.2.2.1
  rcases Nat.lt_or_ge (q - b) h.1.length with z | z
  · exfalso
    have g1 : (am_wl cy b h ++ [(q, en)])[q - b]? = some (b + (q - b), am_ce cy b h (q - b)) := by
      rw [List.getElem?_append_left (by rw [am_wl_len]; exact z), am_wl_get z]
    have := hD.1 _ _ _ _ g1 hl (by show b + (q - b) = q; omega)
    omega
  · omega
theorem am_RL.mk {k : am_K} {H' : Heap} {locs' : List Loc} (RL : am_RL e D cy b b0 X K0 s ls h lc H locs cells slots) (hP : va_P D vwCl (am_wl cy b (am_mk h k)) H') (hS : va_S (fun q => b ≤ q) s.heap H' locs') : am_RL e D cy b b0 X K0 s ls (am_mk h k) lc H' locs' (cells + 1) (slots + k.2) := by
  obtain ⟨⟨t, r1⟩, r2, r3, r4, r5, r6, r7, r8⟩ := RL
  refine ⟨⟨t ++ [k], ?_⟩, r2, r3, r4, hP, hS, ?_, ?_⟩
  · show h.1 ++ [k] = _
    rw [r1, List.append_assoc]
  · show (h.1 ++ [k]).length = _
    simp
    omega
  · show am_sl (h.1 ++ [k]) = _
    rw [am_sl_app, r8]
    simp [am_sl]
    omega
theorem am_s_new {i : Nat} (CX : am_CX e D cy b b0 X K0 p R s m args meth c) (hs : (am_clk (am_ow e) i).bind (fun q => am_nx (pc + 3) ls (.ref h.1.length :: st) (am_mk h (q.1, q.2))) = some (.inl q)) (RL : am_RL e D cy b b0 X K0 s ls h lc H locs cells slots) (hc : q.2.2.2.1.length ≤ K0.length + R.cells) (hsl : am_sl q.2.2.2.1 ≤ am_sl K0 + R.slots) (kk : am_KK e D cy b b0 X K0 p l ev R s m args below meth c Q q) (hd : decode (am_code e) pc = .ok (.new i, 3)) : W p l ev R s m args below meth c H locs cells slots Q (F0 m pc lc (st.map (am_sh b b0))) := by
  simp only [Option.bind_eq_some_iff] at hs
  obtain ⟨⟨ci, n⟩, h1, h2⟩ := hs
  have := am_nx_spec h2
  subst this
  obtain ⟨⟨C, T, N⟩, g1, g2, g3, g4, g5, g6⟩ := am_clk_spec h1
  simp only at g1 g2 g3 g4 g5 g6
  subst g5
  obtain ⟨ty0, c1, c2, c3, c4, c5⟩ := am_cls_of g1
  simp only at c1 c2 c3 c4 c5
  have r7 := RL.2.2.2.2.2.2.1
  have r8 := RL.2.2.2.2.2.2.2
  have e1 : (am_mk h (ci, n)).1.length = h.1.length + 1 := by simp [am_mk]
  have e2 : am_sl (am_mk h (ci, n)).1 = am_sl h.1 + n := by
    show am_sl (h.1 ++ [(ci, n)]) = _
    rw [am_sl_app]
    simp [am_sl]
  simp only at hc hsl
  refine va_new (C := C) (T := T) (N := n) (fs := am_fs b (am_mk h (ci, n)) h.1.length ci) CX.1 CX.2.1 CX.2.2.2.2.1 c3 ty0 c1 CX.2.2.2.1 (CX.2.2.2.2.1 _ g2) (CX.2.2.2.2.1 _ g3) (CX.2.2.2.2.1 _ g4) CX.2.2.2.2.2.1.1 RL.2.2.2.2.1 am_wl_D RL.2.2.2.2.2.1 (fun q hq => by have := CX.2.2.2.2.2.2.1; show b ≤ q; omega) g1 (fun j hj => ?_) (by omega) (by omega) hd (fun q0 H1 hP hD hS => am_W_sz (fun hsz => ?_))
  · have hv := am_fs_get (b := b) (h := am_mk h (ci, n)) (a := h.1.length) (c := ci) (k := j) (by rw [c4]; exact hj) rfl
    have ht := c5 j hj
    generalize (am_fty ci).getD j 9 = t at hv ht
    rw [vp_V, List.getD_eq_getElem?_getD, hv]
    generalize ty0 j = ty at ht
    show defaultValue ty = am_fv b (am_mk h (ci, n)) h.1.length j t
    match t, ty, ht with
    | 0, .int, _ => simp [am_fv, am_mk, va_up, defaultValue]
    | 1, .long, _ => simp [am_fv, am_mk, va_up, defaultValue]
    | 2, .object _, _ => simp [am_fv, am_mk, va_up, defaultValue, va_rf]
    | 2, .array _, _ => simp [am_fv, am_mk, va_up, defaultValue, va_rf]
  · have hq := am_new_at CX RL hP hD hsz
    subst hq
    have hw := am_wl_mk (cy := cy) (b := b) (h := h) (q := (ci, n)) (e := .inr (ci, am_fs b (am_mk h (ci, n)) h.1.length ci)) (am_ce_obj (by rw [am_kd_mk_self]) g6).symm
    rw [hw] at hP
    exact kk _ _ _ _ _ (RL.mk hP hS)
theorem am_s_nwa {t j : Nat} {atype : ArrayType} {ty : FieldType} {a0 : Nat → vp_A} (CX : am_CX e D cy b b0 X K0 p R s m args meth c) (hs : am_nwa pc 2 ls st h t = some (.inl q)) (RL : am_RL e D cy b b0 X K0 s ls h lc H locs cells slots) (hc : q.2.2.2.1.length ≤ K0.length + R.cells) (hsl : am_sl q.2.2.2.1 ≤ am_sl K0 + R.slots) (kk : am_KK e D cy b b0 X K0 p l ev R s m args below meth c Q q) (hd : decode (am_code e) pc = .ok (.newarray atype, 2))
    (hty : newarray.typeOf atype = ty) (hw : Cond.arrayClass ty ∈ am_G) (hj : (am_tys cy)[j]? = some (cy j, ty)) (ha : ∀ (N : Nat) (cA : ClassId), vp_cell cA (a0 N) = arrV cA N (fun _ => defaultValue ty)) (hb8 : componentBytes ty ≤ 8) (hra : ∀ (U : State) (cA : ClassId), va_RA U cA ty → U.vm.findClass ("[" ++ ty.toString) = some cA) (hce : ∀ N, am_ce cy b (am_mk h (t, N)) h.1.length = .inl (cy j, a0 N)) : W p l ev R s m args below meth c H locs cells slots Q (F0 m pc lc (st.map (am_sh b b0))) := by
  unfold am_nwa at hs
  split at hs
  · next n r =>
    split at hs
    · next hn =>
      have := am_nx_spec hs
      subst this
      subst hty
      have r7 := RL.2.2.2.2.2.2.1
      have r8 := RL.2.2.2.2.2.2.2
      have e1 : (am_mk h (t, n.toNatClampNeg)).1.length = h.1.length + 1 := by simp [am_mk]
      have e2 : am_sl (am_mk h (t, n.toNatClampNeg)).1 = am_sl h.1 + n.toNatClampNeg := by
        show am_sl (h.1 ++ [(t, n.toNatClampNeg)]) = _
        rw [am_sl_app]
        simp [am_sl]
      simp only at hc hsl
      have hm : n.toNatClampNeg * componentBytes (newarray.typeOf atype) ≤ 1000 * 8 := Nat.mul_le_mul hn.2 hb8
      refine va_newa (a0 := a0 n.toNatClampNeg) CX.1 CX.2.1 (CX.2.2.2.2.1 _ hw) rfl CX.2.2.2.2.2.1.1 RL.2.2.2.2.1 am_wl_D RL.2.2.2.2.2.1 (fun q hq => by have := CX.2.2.2.2.2.2.1; show b ≤ q; omega) (ha _) hn.1 rfl (by omega) (by omega) (by omega) hd (fun q0 cA H1 hK hP hD hS => am_W_sz (fun hsz => ?_))
      have hq := am_new_at CX RL hP hD hsz
      subst hq
      have k1 := hra _ _ (hK.2 4 _ (by rfl)).2
      have k2 := hra _ _ (CX.2.2.2.2.2.1.1.2 j _ hj).2
      have k3 : cA = cy j := Option.some.inj (k1.symm.trans k2)
      subst k3
      rw [am_wl_mk (cy := cy) (b := b) (h := h) (q := (t, n.toNatClampNeg)) (hce _).symm] at hP
      exact kk _ _ _ _ _ (RL.mk hP hS)
    · cases hs
  · cases hs
theorem am_s_anw {i : Nat} (CX : am_CX e D cy b b0 X K0 p R s m args meth c) (hs : (am_clk (am_ow e) i).bind (fun q => if q.1 = 4 then am_nwa pc 3 ls st h 13 else none) = some (.inl q)) (RL : am_RL e D cy b b0 X K0 s ls h lc H locs cells slots) (hc : q.2.2.2.1.length ≤ K0.length + R.cells) (hsl : am_sl q.2.2.2.1 ≤ am_sl K0 + R.slots) (kk : am_KK e D cy b b0 X K0 p l ev R s m args below meth c Q q) (hd : decode (am_code e) pc = .ok (.anewarray i, 3)) : W p l ev R s m args below meth c H locs cells slots Q (F0 m pc lc (st.map (am_sh b b0))) := by
  simp only [Option.bind_eq_some_iff] at hs
  obtain ⟨⟨ci, n0⟩, h1, h2⟩ := hs
  simp only at h2
  split at h2
  · next h4 =>
    subst h4
    unfold am_nwa at h2
    split at h2
    · next n r =>
      split at h2
      · next hn =>
        have := am_nx_spec h2
        subst this
        obtain ⟨⟨C, T, N⟩, g1, g2, g3, g4, g5, g6⟩ := am_clk_spec h1
        simp only at g1 g2 g3 g4 g5 g6
        have hC : C = RX4 := by
          have z : vwCl[4]? = some (RX4, TX4, 16) := rfl
          have := Option.some.inj (g1.symm.trans z)
          exact congrArg (fun q => q.1) this
        subst hC
        have r7 := RL.2.2.2.2.2.2.1
        have r8 := RL.2.2.2.2.2.2.2
        have e1 : (am_mk h (13, n.toNatClampNeg)).1.length = h.1.length + 1 := by simp [am_mk]
        have e2 : am_sl (am_mk h (13, n.toNatClampNeg)).1 = am_sl h.1 + n.toNatClampNeg := by
          show am_sl (h.1 ++ [(13, n.toNatClampNeg)]) = _
          rw [am_sl_app]
          simp [am_sl]
        simp only at hc hsl
        refine va_newq CX.1 CX.2.1 CX.2.2.2.1 (CX.2.2.2.2.1 _ g2) CX.2.2.2.2.2.1.2.2.2.1 CX.2.2.2.2.2.1.1 RL.2.2.2.2.1 am_wl_D RL.2.2.2.2.2.1 (fun q hq => by have := CX.2.2.2.2.2.2.1; show b ≤ q; omega) hn.1 rfl (by omega) (by omega) (by omega) hd (fun q0 cA H1 hK hP hD hS => am_W_sz (fun hsz => ?_))
        have hq := am_new_at CX RL hP hD hsz
        subst hq
        obtain ⟨_, _, -, -, -, k1⟩ := (hK.2 4 _ (by rfl)).2
        obtain ⟨_, _, -, -, -, k2⟩ := (CX.2.2.2.2.2.1.1.2 3 _ (by rfl)).2
        have k3 : cA = cy 3 := Option.some.inj (k1.symm.trans k2)
        subst k3
        have hw := am_wl_mk (cy := cy) (b := b) (h := h) (q := (13, n.toNatClampNeg)) (e := .inl (cy 3, n.toNatClampNeg, .inr (.inr (.inr (.inr (fun _ => none)))))) (by
          rw [am_ce_R (by rw [am_kd_mk_self]), am_kd_mk_self]
          simp [am_mk, va_up])
        rw [hw] at hP
        exact kk _ _ _ _ _ (RL.mk hP hS)
      · cases h2
    · cases h2
  · cases h2
end AMN
/-- memory grows, the script stays -/
def am_ext (h h' : am_H) : Prop := (∃ t, h'.1 = h.1 ++ t) ∧ h'.2.2.2.2 = h.2.2.2.2
theorem am_ext.rf (h : am_H) : am_ext h h := ⟨⟨[], (List.append_nil _).symm⟩, rfl⟩
theorem am_ext.tr {h1 h2 h3 : am_H} (a : am_ext h1 h2) (b : am_ext h2 h3) : am_ext h1 h3 := by
  obtain ⟨⟨t1, e1⟩, f1⟩ := a
  obtain ⟨⟨t2, e2⟩, f2⟩ := b
  exact ⟨⟨t1 ++ t2, by rw [e2, e1, List.append_assoc]⟩, f2.trans f1⟩
theorem am_nx_ext {pc : Nat} {ls st : List Value} {h0 h : am_H} {q : Nat × List Value × List Value × am_H} (hs : am_nx pc ls st h = some (.inl q)) (he : am_ext h0 h) : am_ext h0 q.2.2.2 := by
  rw [am_nx_spec hs]
  exact he
section AMX
variable {e : am_E} {pc len i t : Nat} {n off d lo hi : Int} {offs : Array Int} {ls st : List Value} {h : am_H} {q : Nat × List Value × List Value × am_H} {f : Int32 → Int32 → Int32} {fl : Int64 → Int64 → Int64} {w : Option (Nat × Nat × Nat × Bool)} {w2 : Option (Nat × am_E)}
theorem am_e_jp (hs : am_jp pc off ls st h = some (.inl q)) : am_ext h q.2.2.2 := by
  rw [(am_jp_spec hs).2]
  exact am_ext.rf h
theorem am_e_br {cd : Prop} [Decidable cd] (hs : am_br cd pc off ls st h = some (.inl q)) : am_ext h q.2.2.2 := by
  unfold am_br at hs
  repeat' split at hs
  all_goals first | (cases hs; done) | exact am_nx_ext hs (am_ext.rf _) | exact am_nx_ext hs ⟨⟨[], (List.append_nil _).symm⟩, rfl⟩ | exact am_nx_ext hs ⟨⟨[_], rfl⟩, rfl⟩
theorem am_e_iload (hs : am_iload pc len ls st h i = some (.inl q)) : am_ext h q.2.2.2 := by
  unfold am_iload at hs
  repeat' split at hs
  all_goals first | (cases hs; done) | exact am_nx_ext hs (am_ext.rf _) | exact am_nx_ext hs ⟨⟨[], (List.append_nil _).symm⟩, rfl⟩ | exact am_nx_ext hs ⟨⟨[_], rfl⟩, rfl⟩
theorem am_e_lload (hs : am_lload pc len ls st h i = some (.inl q)) : am_ext h q.2.2.2 := by
  unfold am_lload at hs
  repeat' split at hs
  all_goals first | (cases hs; done) | exact am_nx_ext hs (am_ext.rf _) | exact am_nx_ext hs ⟨⟨[], (List.append_nil _).symm⟩, rfl⟩ | exact am_nx_ext hs ⟨⟨[_], rfl⟩, rfl⟩
theorem am_e_aload (hs : am_aload pc len ls st h i = some (.inl q)) : am_ext h q.2.2.2 := by
  unfold am_aload at hs
  repeat' split at hs
  all_goals first | (cases hs; done) | exact am_nx_ext hs (am_ext.rf _) | exact am_nx_ext hs ⟨⟨[], (List.append_nil _).symm⟩, rfl⟩ | exact am_nx_ext hs ⟨⟨[_], rfl⟩, rfl⟩
theorem am_e_bin (hs : am_bin f pc ls st h = some (.inl q)) : am_ext h q.2.2.2 := by
  unfold am_bin at hs
  repeat' split at hs
  all_goals first | (cases hs; done) | exact am_nx_ext hs (am_ext.rf _) | exact am_nx_ext hs ⟨⟨[], (List.append_nil _).symm⟩, rfl⟩ | exact am_nx_ext hs ⟨⟨[_], rfl⟩, rfl⟩
theorem am_e_dvd (hs : am_dvd f pc ls st h = some (.inl q)) : am_ext h q.2.2.2 := by
  unfold am_dvd at hs
  repeat' split at hs
  all_goals first | (cases hs; done) | exact am_nx_ext hs (am_ext.rf _) | exact am_nx_ext hs ⟨⟨[], (List.append_nil _).symm⟩, rfl⟩ | exact am_nx_ext hs ⟨⟨[_], rfl⟩, rfl⟩
theorem am_e_binL (hs : am_binL fl pc ls st h = some (.inl q)) : am_ext h q.2.2.2 := by
  unfold am_binL at hs
  repeat' split at hs
  all_goals first | (cases hs; done) | exact am_nx_ext hs (am_ext.rf _) | exact am_nx_ext hs ⟨⟨[], (List.append_nil _).symm⟩, rfl⟩ | exact am_nx_ext hs ⟨⟨[_], rfl⟩, rfl⟩
theorem am_e_dvdL (hs : am_dvdL fl pc ls st h = some (.inl q)) : am_ext h q.2.2.2 := by
  unfold am_dvdL at hs
  repeat' split at hs
  all_goals first | (cases hs; done) | exact am_nx_ext hs (am_ext.rf _) | exact am_nx_ext hs ⟨⟨[], (List.append_nil _).symm⟩, rfl⟩ | exact am_nx_ext hs ⟨⟨[_], rfl⟩, rfl⟩
theorem am_e_gfx (hs : am_gfx w pc ls st h = some (.inl q)) : am_ext h q.2.2.2 := by
  unfold am_gfx at hs
  repeat' split at hs
  all_goals first | (cases hs; done) | exact am_nx_ext hs (am_ext.rf _) | exact am_nx_ext hs ⟨⟨[], (List.append_nil _).symm⟩, rfl⟩ | exact am_nx_ext hs ⟨⟨[_], rfl⟩, rfl⟩
theorem am_e_pfx (hs : am_pfx w e pc ls st h = some (.inl q)) : am_ext h q.2.2.2 := by
  unfold am_pfx at hs
  repeat' split at hs
  all_goals first | (cases hs; done) | exact am_nx_ext hs (am_ext.rf _) | exact am_nx_ext hs ⟨⟨[], (List.append_nil _).symm⟩, rfl⟩ | exact am_nx_ext hs ⟨⟨[_], rfl⟩, rfl⟩
theorem am_e_ald (hs : am_ald pc ls st h t = some (.inl q)) : am_ext h q.2.2.2 := by
  unfold am_ald at hs
  repeat' split at hs
  all_goals first | (cases hs; done) | exact am_nx_ext hs (am_ext.rf _) | exact am_nx_ext hs ⟨⟨[], (List.append_nil _).symm⟩, rfl⟩ | exact am_nx_ext hs ⟨⟨[_], rfl⟩, rfl⟩
theorem am_e_aldJ (hs : am_aldJ pc ls st h = some (.inl q)) : am_ext h q.2.2.2 := by
  unfold am_aldJ at hs
  repeat' split at hs
  all_goals first | (cases hs; done) | exact am_nx_ext hs (am_ext.rf _) | exact am_nx_ext hs ⟨⟨[], (List.append_nil _).symm⟩, rfl⟩ | exact am_nx_ext hs ⟨⟨[_], rfl⟩, rfl⟩
theorem am_e_ast (hs : am_ast pc ls st h = some (.inl q)) : am_ext h q.2.2.2 := by
  unfold am_ast at hs
  repeat' split at hs
  all_goals first | (cases hs; done) | exact am_nx_ext hs (am_ext.rf _) | exact am_nx_ext hs ⟨⟨[], (List.append_nil _).symm⟩, rfl⟩ | exact am_nx_ext hs ⟨⟨[_], rfl⟩, rfl⟩
theorem am_e_astZ (hs : am_astZ pc ls st h = some (.inl q)) : am_ext h q.2.2.2 := by
  unfold am_astZ at hs
  repeat' split at hs
  all_goals first | (cases hs; done) | exact am_nx_ext hs (am_ext.rf _) | exact am_nx_ext hs ⟨⟨[], (List.append_nil _).symm⟩, rfl⟩ | exact am_nx_ext hs ⟨⟨[_], rfl⟩, rfl⟩
theorem am_e_astJ (hs : am_astJ pc ls st h = some (.inl q)) : am_ext h q.2.2.2 := by
  unfold am_astJ at hs
  repeat' split at hs
  all_goals first | (cases hs; done) | exact am_nx_ext hs (am_ext.rf _) | exact am_nx_ext hs ⟨⟨[], (List.append_nil _).symm⟩, rfl⟩ | exact am_nx_ext hs ⟨⟨[_], rfl⟩, rfl⟩
theorem am_e_astR (hs : am_astR pc ls st h = some (.inl q)) : am_ext h q.2.2.2 := by
  unfold am_astR at hs
  repeat' split at hs
  all_goals first | (cases hs; done) | exact am_nx_ext hs (am_ext.rf _) | exact am_nx_ext hs ⟨⟨[], (List.append_nil _).symm⟩, rfl⟩ | exact am_nx_ext hs ⟨⟨[_], rfl⟩, rfl⟩
theorem am_e_aln (hs : am_aln pc ls st h = some (.inl q)) : am_ext h q.2.2.2 := by
  unfold am_aln at hs
  repeat' split at hs
  all_goals first | (cases hs; done) | exact am_nx_ext hs (am_ext.rf _) | exact am_nx_ext hs ⟨⟨[], (List.append_nil _).symm⟩, rfl⟩ | exact am_nx_ext hs ⟨⟨[_], rfl⟩, rfl⟩
theorem am_e_nwa (hs : am_nwa pc len ls st h t = some (.inl q)) : am_ext h q.2.2.2 := by
  unfold am_nwa at hs
  repeat' split at hs
  all_goals first | (cases hs; done) | exact am_nx_ext hs (am_ext.rf _) | exact am_nx_ext hs ⟨⟨[], (List.append_nil _).symm⟩, rfl⟩ | exact am_nx_ext hs ⟨⟨[_], rfl⟩, rfl⟩
theorem am_e_obj (hs : am_obj w2 e pc ls st h = some (.inl q)) : am_ext h q.2.2.2 := by
  unfold am_obj at hs
  repeat' split at hs
  all_goals first | (cases hs; done) | exact am_nx_ext hs (am_ext.rf _) | exact am_nx_ext hs ⟨⟨[], (List.append_nil _).symm⟩, rfl⟩ | exact am_nx_ext hs ⟨⟨[_], rfl⟩, rfl⟩
theorem am_e_acp (hs : am_acp w2 e pc ls st h = some (.inl q)) : am_ext h q.2.2.2 := by
  unfold am_acp at hs
  repeat' split at hs
  all_goals first | (cases hs; done) | exact am_nx_ext hs (am_ext.rf _) | exact am_nx_ext hs ⟨⟨[], (List.append_nil _).symm⟩, rfl⟩ | exact am_nx_ext hs ⟨⟨[_], rfl⟩, rfl⟩
theorem am_e_mx (hs : am_mx w2 e pc ls st h = some (.inl q)) : am_ext h q.2.2.2 := by
  unfold am_mx at hs
  repeat' split at hs
  all_goals first | (cases hs; done) | exact am_nx_ext hs (am_ext.rf _) | exact am_nx_ext hs ⟨⟨[], (List.append_nil _).symm⟩, rfl⟩ | exact am_nx_ext hs ⟨⟨[_], rfl⟩, rfl⟩
theorem am_e_istore (hs : am_istore pc len ls st h i = some (.inl q)) : am_ext h q.2.2.2 := by
  unfold am_istore at hs
  split at hs
  · simp only [Option.bind_eq_some_iff] at hs
    obtain ⟨_, _, hs⟩ := hs
    exact am_nx_ext hs (am_ext.rf _)
  · cases hs
theorem am_e_astore (hs : am_astore pc len ls st h i = some (.inl q)) : am_ext h q.2.2.2 := by
  unfold am_astore at hs
  split at hs
  · simp only [Option.bind_eq_some_iff] at hs
    obtain ⟨_, _, hs⟩ := hs
    exact am_nx_ext hs (am_ext.rf _)
  · cases hs
theorem am_e_lstore (hs : am_lstore pc len ls st h i = some (.inl q)) : am_ext h q.2.2.2 := by
  unfold am_lstore at hs
  split at hs
  · simp only [Option.bind_eq_some_iff] at hs
    obtain ⟨_, _, hs⟩ := hs
    exact am_nx_ext hs (am_ext.rf _)
  · cases hs
theorem am_e_iinc (hs : am_iinc pc ls st h i n = some (.inl q)) : am_ext h q.2.2.2 := by
  unfold am_iinc at hs
  split at hs
  · simp only [Option.bind_eq_some_iff] at hs
    obtain ⟨_, _, hs⟩ := hs
    exact am_nx_ext hs (am_ext.rf _)
  · cases hs
theorem am_e_aldR (hs : am_aldR pc ls st h = some (.inl q)) : am_ext h q.2.2.2 := by
  unfold am_aldR at hs
  split at hs
  · split at hs
    · simp only [Option.bind_eq_some_iff] at hs
      obtain ⟨_, _, hs⟩ := hs
      exact am_nx_ext hs (am_ext.rf _)
    · cases hs
  · cases hs
theorem am_e_tsw (hs : am_tsw pc ls st h d lo hi offs = some (.inl q)) : am_ext h q.2.2.2 := by
  unfold am_tsw at hs
  split at hs
  · split at hs
    · exact am_e_jp hs
    · simp only [Option.bind_eq_some_iff] at hs
      obtain ⟨_, _, hs⟩ := hs
      exact am_e_jp hs
  · cases hs
theorem am_e_call {ok : Nat → Bool} (hs : am_call w2 ok e pc ls st h = some (.inl q)) : False := by
  unfold am_call at hs
  repeat' split at hs
  all_goals cases hs
theorem am_e_eq (hs : am_eq pc ls st h off = some (.inl q)) : am_ext h q.2.2.2 := by
  unfold am_eq at hs
  split at hs
  · exact am_e_br hs
  · cases hs
theorem am_e_ne (hs : am_ne pc ls st h off = some (.inl q)) : am_ext h q.2.2.2 := by
  unfold am_ne at hs
  split at hs
  · exact am_e_br hs
  · cases hs
theorem am_e_lt (hs : am_lt pc ls st h off = some (.inl q)) : am_ext h q.2.2.2 := by
  unfold am_lt at hs
  split at hs
  · exact am_e_br hs
  · cases hs
theorem am_e_ge (hs : am_ge pc ls st h off = some (.inl q)) : am_ext h q.2.2.2 := by
  unfold am_ge at hs
  split at hs
  · exact am_e_br hs
  · cases hs
theorem am_e_gt (hs : am_gt pc ls st h off = some (.inl q)) : am_ext h q.2.2.2 := by
  unfold am_gt at hs
  split at hs
  · exact am_e_br hs
  · cases hs
theorem am_e_le (hs : am_le pc ls st h off = some (.inl q)) : am_ext h q.2.2.2 := by
  unfold am_le at hs
  split at hs
  · exact am_e_br hs
  · cases hs
theorem am_e_ieq (hs : am_ieq pc ls st h off = some (.inl q)) : am_ext h q.2.2.2 := by
  unfold am_ieq at hs
  split at hs
  · exact am_e_br hs
  · cases hs
theorem am_e_ine (hs : am_ine pc ls st h off = some (.inl q)) : am_ext h q.2.2.2 := by
  unfold am_ine at hs
  split at hs
  · exact am_e_br hs
  · cases hs
theorem am_e_ilt (hs : am_ilt pc ls st h off = some (.inl q)) : am_ext h q.2.2.2 := by
  unfold am_ilt at hs
  split at hs
  · exact am_e_br hs
  · cases hs
theorem am_e_ige (hs : am_ige pc ls st h off = some (.inl q)) : am_ext h q.2.2.2 := by
  unfold am_ige at hs
  split at hs
  · exact am_e_br hs
  · cases hs
theorem am_e_igt (hs : am_igt pc ls st h off = some (.inl q)) : am_ext h q.2.2.2 := by
  unfold am_igt at hs
  split at hs
  · exact am_e_br hs
  · cases hs
theorem am_e_ile (hs : am_ile pc ls st h off = some (.inl q)) : am_ext h q.2.2.2 := by
  unfold am_ile at hs
  split at hs
  · exact am_e_br hs
  · cases hs
end AMX
