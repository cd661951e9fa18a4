/-! steps that read and write memory -/
section AMH
variable {e : am_E} {D : va_G} {cy : Nat → ClassId} {b b0 : Nat} {X : (Nat → Int32) × Nat} {K0 : List am_K} {p : Program} {l : Launch} {ev : Env} {R : Room} {s : State} {m : MethodId} {args : Array Value} {below : List Frame} {meth : Method} {c : Code} {Q : State → Prop}
variable {pc : Nat} {ls st : List Value} {h : am_H} {q : Nat × List Value × List Value × am_H} {lc : Array Slot} {H : Heap} {locs : List Loc} {cells slots : Nat}
theorem am_vw_lt {ci : Nat} {r : vw_C} (hc : vwCl[ci]? = some r) : ci < 10 := by
  have := (List.getElem?_eq_some_iff.mp hc).1
  simpa [vwCl] using this
theorem am_ce_obj {ci a : Nat} (hk : (am_kd h a).1 = ci) (hci : ci < 10) : am_ce cy b h a = .inr (ci, am_fs b h a ci) := by
  unfold am_ce
  rw [hk, if_neg (by omega), if_neg (by omega), if_neg (by omega), if_neg (by omega)]
theorem am_ce_I {a : Nat} (hk : (am_kd h a).1 = 10) : am_ce cy b h a = .inl (cy 0, (am_kd h a).2, .inl (h.2.1 a)) := by
  unfold am_ce
  rw [if_pos hk]
theorem am_ce_J {a : Nat} (hk : (am_kd h a).1 = 11) : am_ce cy b h a = .inl (cy 1, (am_kd h a).2, .inr (.inl (h.2.2.1 a))) := by
  unfold am_ce
  rw [if_neg (by omega), if_pos hk]
theorem am_ce_Z {a : Nat} (hk : (am_kd h a).1 = 12) : am_ce cy b h a = .inl (cy 2, (am_kd h a).2, .inl (h.2.1 a)) := by
  unfold am_ce
  rw [if_neg (by omega), if_neg (by omega), if_pos hk]
theorem am_ce_R {a : Nat} (hk : (am_kd h a).1 = 13) : am_ce cy b h a = .inl (cy 3, (am_kd h a).2, .inr (.inr (.inr (.inr (fun k => (h.2.2.2.1 a k).map (fun x => b + x)))))) := by
  unfold am_ce
  rw [if_neg (by omega), if_neg (by omega), if_neg (by omega), if_pos hk]
theorem am_wl_obj {ci a : Nat} (hk : (am_kd h a).1 = ci) (hci : ci < 10) : (am_wl cy b h)[a]? = some (b + a, .inr (ci, am_fs b h a ci)) := by
  rw [am_wl_get (am_kd_lt hk (by omega)), am_ce_obj hk hci]
theorem am_wl_I {a : Nat} (hk : (am_kd h a).1 = 10) : (am_wl cy b h)[a]? = some (b + a, .inl (cy 0, (am_kd h a).2, .inl (h.2.1 a))) := by
  rw [am_wl_get (am_kd_lt hk (by omega)), am_ce_I hk]
theorem am_wl_J {a : Nat} (hk : (am_kd h a).1 = 11) : (am_wl cy b h)[a]? = some (b + a, .inl (cy 1, (am_kd h a).2, .inr (.inl (h.2.2.1 a)))) := by
  rw [am_wl_get (am_kd_lt hk (by omega)), am_ce_J hk]
theorem am_wl_Z {a : Nat} (hk : (am_kd h a).1 = 12) : (am_wl cy b h)[a]? = some (b + a, .inl (cy 2, (am_kd h a).2, .inl (h.2.1 a))) := by
  rw [am_wl_get (am_kd_lt hk (by omega)), am_ce_Z hk]
theorem am_wl_R {a : Nat} (hk : (am_kd h a).1 = 13) : (am_wl cy b h)[a]? = some (b + a, .inl (cy 3, (am_kd h a).2, .inr (.inr (.inr (.inr (fun k => (h.2.2.2.1 a k).map (fun x => b + x))))))) := by
  rw [am_wl_get (am_kd_lt hk (by omega)), am_ce_R hk]
/-- the field's value, out of its cell -/
theorem am_s_get {i ci k t : Nat} {f : Bool} {a : Nat} {rest : List Value} (CX : am_CX e D cy b b0 X K0 p R s m args meth c) (RL : am_RL e D cy b b0 X K0 s ls h lc H locs cells slots) (hd : decode (am_code e) pc = .ok (.getfield i, 3)) (hf : am_flk (am_ow e) i = some (ci, k, t, f)) (ha : (am_kd h a).1 = ci)
    (kk : W p l ev R s m args below meth c H locs cells slots Q (F0 m (pc + 3) lc (am_fv b h a k t :: rest))) : W p l ev R s m args below meth c H locs cells slots Q (F0 m pc lc (.ref (b + a) :: rest)) := by
  obtain ⟨r, h1, h2, h3, h4, h5, h6⟩ := am_flk_spec hf
  obtain ⟨C, T, N⟩ := r
  simp only at h1 h2 h3 h4 h5 h6
  obtain ⟨ty0, c1, c2, c3, c4, c5⟩ := am_cls_of h1
  have hv : (am_fs b h a ci)[k]? = some (am_fv b h a k t) := am_fs_get (by rw [c4]; exact h2) h5
  have he := am_wl_obj (cy := cy) (b := b) ha (am_vw_lt h1)
  rcases h6 with ⟨h6, -⟩ | ⟨h6, -⟩
  · exact va_get (C := C) (T := T) (N := N) CX.1 CX.2.1 CX.2.2.2.2.1 c3 CX.2.2.2.1 CX.2.2.2.2.2.1.1 RL.2.2.2.2.1 a he h1 k h2 (CX.2.2.2.2.1 _ h6) (fun x hx => by rw [← h3]; exact hx) hv hd kk
  · exact va_getN (C := C) (T := T) (N := N) CX.1 CX.2.1 CX.2.2.2.2.1 c3 CX.2.2.2.1 CX.2.2.2.2.2.1.1 RL.2.2.2.2.1 a he h1 k h2 (va_Nw.use rfl (CX.2.2.2.2.2.1.2.1 _ h6)) (fun x hx => by rw [← h3]; exact hx) hv hd kk
theorem am_RL.mem {h' : am_H} {H' : Heap} {locs' : List Loc} (RL : am_RL e D cy b b0 X K0 s ls h lc H locs cells slots) (h1 : h'.1 = h.1) (h2 : h'.2.2.2.2 = h.2.2.2.2) (hP : va_P D vwCl (am_wl cy b h') H') (hS : va_S (fun q => b ≤ q) s.heap H' locs') : am_RL e D cy b b0 X K0 s ls h' lc H' locs' cells slots := by
  obtain ⟨r1, r2, r3, r4, r5, r6, r7, r8⟩ := RL
  exact ⟨by rw [h1]; exact r1, by rw [h2]; exact r2, r3, r4, hP, hS, by rw [h1]; exact r7, by rw [h1]; exact r8⟩
/-- a field is written -/
theorem am_s_put {i ci k t : Nat} {f : Bool} {a : Nat} {rest : List Value} {v : Value} {h' : am_H} (CX : am_CX e D cy b b0 X K0 p R s m args meth c) (RL : am_RL e D cy b b0 X K0 s ls h lc H locs cells slots) (hd : decode (am_code e) pc = .ok (.putfield i, 3)) (hf : am_flk (am_ow e) i = some (ci, k, t, f)) (ha : (am_kd h a).1 = ci)
    (hfin : f = true → e.1.name = "<init>") (hv : am_fv b h' a k t = v) (hn : ∀ ty, am_tyc t ty = true → narrow ty v = v ∧ fits ty v = true) (ho : ∀ j t, j ≠ k → am_fv b h' a j t = am_fv b h a j t) (hc : ∀ c, c ≠ a → am_ce cy b h' c = am_ce cy b h c) (h1 : h'.1 = h.1) (h2 : h'.2.2.2.2 = h.2.2.2.2)
    (kk : ∀ (H' : Heap) (locs' : List Loc), am_RL e D cy b b0 X K0 s ls h' lc H' locs' cells slots → W p l ev R s m args below meth c H' locs' cells slots Q (F0 m (pc + 3) lc rest)) : W p l ev R s m args below meth c H locs cells slots Q (F0 m pc lc (v :: .ref (b + a) :: rest)) := by
  obtain ⟨r, g1, g2, g3, g4, g5, g6⟩ := am_flk_spec hf
  obtain ⟨C, T, N⟩ := r
  simp only at g1 g2 g3 g4 g5 g6
  obtain ⟨ty0, c1, c2, c3, c4, c5⟩ := am_cls_of g1
  have hk : k < (am_fty ci).length := by rw [c4]; exact g2
  have he := am_wl_obj (cy := cy) (b := b) ha (am_vw_lt g1)
  have ha' : (am_kd h' a).1 = ci := by unfold am_kd; rw [h1]; exact ha
  have hset : (am_fs b h a ci).set k v = am_fs b h' a ci := am_fs_set hk g5 hv ho
  have hw : (am_wl cy b h).set a (b + a, .inr (ci, (am_fs b h a ci).set k v)) = am_wl cy b h' := am_wl_set h1 (by rw [hset, am_ce_obj ha' (am_vw_lt g1)]) hc
  have ht := c5 k g2
  rw [g5] at ht
  obtain ⟨n1, n2⟩ := hn _ ht
  have hl : k < (am_fs b h a ci).length := by rw [am_fs_len]; exact hk
  rcases g6 with ⟨g6, g7⟩ | ⟨g6, g7⟩
  · cases f with
    | false =>
      exact va_put (C := C) (T := T) (N := N) CX.1 CX.2.1 CX.2.2.2.2.1 c3 ty0 c1 c2 CX.2.2.2.1 CX.2.2.2.2.2.1.1 RL.2.2.2.2.1 am_wl_D RL.2.2.2.2.2.1 a he g1 k g2 (CX.2.2.2.2.1 _ g6) (fun x hx => by rw [← g3]; exact hx) g4 (c1 k g2) n1 n2 hl hd (fun H1 locs1 hP _ hS => kk H1 locs1 (RL.mem h1 h2 (by rw [← hw]; exact hP) hS))
    | true =>
      exact va_putF (C := C) (T := T) (N := N) CX.1 CX.2.1 CX.2.2.2.2.1 c3 ty0 c1 c2 CX.2.2.2.1 CX.2.2.2.2.2.1.1 RL.2.2.2.2.1 am_wl_D RL.2.2.2.2.2.1 a he g1 k g2 (CX.2.2.2.2.1 _ g6) (fun x hx => by rw [← g3]; exact hx) g4 (CX.2.2.2.2.2.2.2.1 (hfin rfl)) (g3.trans (g7 rfl)) (c1 k g2) n1 n2 hl hd (fun H1 locs1 hP _ hS => kk H1 locs1 (RL.mem h1 h2 (by rw [← hw]; exact hP) hS))
  · subst g7
    exact va_putN (C := C) (T := T) (N := N) CX.1 CX.2.1 CX.2.2.2.2.1 c3 ty0 c1 c2 CX.2.2.2.1 CX.2.2.2.2.2.1.1 RL.2.2.2.2.1 am_wl_D RL.2.2.2.2.2.1 a he g1 k g2 (va_Nw.use rfl (CX.2.2.2.2.2.1.2.1 _ g6)) (fun x hx => by rw [← g3]; exact hx) g4 (c1 k g2) n1 n2 hl hd (fun H1 locs1 hP _ hS => kk H1 locs1 (RL.mem h1 h2 (by rw [← hw]; exact hP) hS))
theorem am_ty_I {ty : FieldType} (x : Int32) (h : am_tyc 0 ty = true) : narrow ty (.int x) = .int x ∧ fits ty (.int x) = true := by
  cases ty <;> first | exact ⟨rfl, rfl⟩ | (simp [am_tyc] at h)
theorem am_ty_J {ty : FieldType} (x : Int64) (h : am_tyc 1 ty = true) : narrow ty (.long x) = .long x ∧ fits ty (.long x) = true := by
  cases ty <;> first | exact ⟨rfl, rfl⟩ | (simp [am_tyc] at h)
theorem am_ty_R {ty : FieldType} (x : Nat) (h : am_tyc 2 ty = true) : narrow ty (.ref x) = .ref x ∧ fits ty (.ref x) = true := by
  cases ty <;> first | exact ⟨rfl, rfl⟩ | (simp [am_tyc] at h)
theorem am_s_gfx {i : Nat} (CX : am_CX e D cy b b0 X K0 p R s m args meth c) (hs : am_gfx (am_flk (am_ow e) i) pc ls st h = some (.inl q)) (RL : am_RL e D cy b b0 X K0 s ls h lc H locs cells slots) (kk : am_KK e D cy b b0 X K0 p l ev R s m args below meth c Q q) (hd : decode (am_code e) pc = .ok (.getfield i, 3)) : W p l ev R s m args below meth c H locs cells slots Q (F0 m pc lc (st.map (am_sh b b0))) := by
  unfold am_gfx at hs
  split at hs
  · next ci k t f a r hf =>
    split at hs
    · next ha =>
      refine am_s_get CX RL hd hf ha ?_
      split at hs
      · next ht =>
        have := am_nx_spec hs
        subst this
        subst ht
        exact kk _ _ _ _ _ RL
      · next ht0 =>
        split at hs
        · next ht =>
          have := am_nx_spec hs
          subst this
          subst ht
          exact kk _ _ _ _ _ RL
        · next ht1 =>
          split at hs
          · next x hx =>
            have := am_nx_spec hs
            subst this
            have e1 : am_fv b h a k t = .ref (b + x) := by simp [am_fv, ht0, ht1, hx, va_rf]
            rw [e1]
            exact kk _ _ _ _ _ RL
          · cases hs
    · cases hs
  · cases hs
theorem am_s_pfx {i : Nat} (CX : am_CX e D cy b b0 X K0 p R s m args meth c) (hs : am_pfx (am_flk (am_ow e) i) e pc ls st h = some (.inl q)) (RL : am_RL e D cy b b0 X K0 s ls h lc H locs cells slots) (kk : am_KK e D cy b b0 X K0 p l ev R s m args below meth c Q q) (hd : decode (am_code e) pc = .ok (.putfield i, 3)) : W p l ev R s m args below meth c H locs cells slots Q (F0 m pc lc (st.map (am_sh b b0))) := by
  unfold am_pfx at hs
  split at hs
  · next ci k t f x a r hf =>
    split at hs
    · next ha =>
      obtain ⟨ha, rfl, rfl⟩ := ha
      have := am_nx_spec hs
      subst this
      exact am_s_put (h' := am_sI h a k x) (v := .int x) CX RL hd hf ha (fun z => by cases z) (by simp [am_fv, am_sI, va_up, upd]) (fun ty ht => am_ty_I x ht) (fun j t hj => am_fv_sI hj) (fun c hc => am_ce_sI hc) rfl rfl (fun H' locs' RL' => kk _ _ _ _ _ RL')
    · cases hs
  · next ci k t f x a r hf =>
    split at hs
    · next ha =>
      obtain ⟨ha, rfl, rfl⟩ := ha
      have := am_nx_spec hs
      subst this
      exact am_s_put (h' := am_sJ h a k x) (v := .long x) CX RL hd hf ha (fun z => by cases z) (by simp [am_fv, am_sJ, va_up, vp_updL]) (fun ty ht => am_ty_J x ht) (fun j t hj => am_fv_sJ hj) (fun c hc => am_ce_sJ hc) rfl rfl (fun H' locs' RL' => kk _ _ _ _ _ RL')
    · cases hs
  · next ci k t f x a r hf =>
    split at hs
    · next ha =>
      obtain ⟨ha, rfl, rfl, hin⟩ := ha
      have := am_nx_spec hs
      subst this
      exact am_s_put (h' := am_sR h a k x) (v := .ref (b + x)) CX RL hd hf ha (fun _ => hin) (by simp [am_fv, am_sR, va_up, va_rf]) (fun ty ht => am_ty_R (b + x) ht) (fun j t hj => am_fv_sR hj) (fun c hc => am_ce_sR hc) rfl rfl (fun H' locs' RL' => kk _ _ _ _ _ RL')
    · cases hs
  · cases hs
theorem am_s_ald {t : Nat} (CX : am_CX e D cy b b0 X K0 p R s m args meth c) (hs : am_ald pc ls st h t = some (.inl q)) (RL : am_RL e D cy b b0 X K0 s ls h lc H locs cells slots) (kk : am_KK e D cy b b0 X K0 p l ev R s m args below meth c Q q) (hd : (t = 10 ∧ decode (am_code e) pc = .ok (.iaload, 1)) ∨ (t = 12 ∧ decode (am_code e) pc = .ok (.baload, 1))) : W p l ev R s m args below meth c H locs cells slots Q (F0 m pc lc (st.map (am_sh b b0))) := by
  unfold am_ald at hs
  split at hs
  · next j a r =>
    split at hs
    · next ha =>
      obtain ⟨ha, hj⟩ := ha
      have := am_nx_spec hs
      subst this
      rcases hd with ⟨rfl, hd⟩ | ⟨rfl, hd⟩
      · exact va_iald CX.1 CX.2.1 CX.2.2.2.2.2.1.1 RL.2.2.2.2.1 a 0 (am_wl_I ha) rfl hj hd (kk _ _ _ _ _ RL)
      · exact va_zald CX.1 CX.2.1 CX.2.2.2.2.2.1.1 RL.2.2.2.2.1 a 2 (am_wl_Z ha) rfl hj hd (kk _ _ _ _ _ RL)
    · cases hs
  · next j x r =>
    split at hs
    · next ha =>
      obtain ⟨ha, hj, -⟩ := ha
      have := am_nx_spec hs
      subst this
      rcases hd with ⟨rfl, hd⟩ | ⟨rfl, hd⟩
      · have e1 := RL.2.1
        have kx := CX.2.2.2.2.2.1.2.2.2.2
        have hsz := CX.2.2.2.2.2.2.1
        refine va_sld (A := fun q => b ≤ q) (i := j) CX.1 CX.2.1 kx.1 (by omega) (by omega) RL.2.2.2.2.2.1 (by rw [← e1]; exact hj) hd ?_
        rw [← e1]
        exact kk _ _ _ _ _ RL
      · cases ha
    · cases hs
  · cases hs
theorem am_s_aldJ (CX : am_CX e D cy b b0 X K0 p R s m args meth c) (hs : am_aldJ pc ls st h = some (.inl q)) (RL : am_RL e D cy b b0 X K0 s ls h lc H locs cells slots) (kk : am_KK e D cy b b0 X K0 p l ev R s m args below meth c Q q) (hd : decode (am_code e) pc = .ok (.laload, 1)) : W p l ev R s m args below meth c H locs cells slots Q (F0 m pc lc (st.map (am_sh b b0))) := by
  unfold am_aldJ at hs
  split at hs
  · next j a r =>
    split at hs
    · next ha =>
      obtain ⟨ha, hj⟩ := ha
      have := am_nx_spec hs
      subst this
      exact va_lald CX.1 CX.2.1 CX.2.2.2.2.2.1.1 RL.2.2.2.2.1 a 1 (am_wl_J ha) rfl hj hd (kk _ _ _ _ _ RL)
    · cases hs
  · cases hs
theorem am_s_aldR (CX : am_CX e D cy b b0 X K0 p R s m args meth c) (hs : am_aldR pc ls st h = some (.inl q)) (RL : am_RL e D cy b b0 X K0 s ls h lc H locs cells slots) (kk : am_KK e D cy b b0 X K0 p l ev R s m args below meth c Q q) (hd : decode (am_code e) pc = .ok (.aaload, 1)) : W p l ev R s m args below meth c H locs cells slots Q (F0 m pc lc (st.map (am_sh b b0))) := by
  unfold am_aldR at hs
  split at hs
  · next j a r =>
    split at hs
    · next ha =>
      obtain ⟨ha, hj⟩ := ha
      simp only [Option.bind_eq_some_iff] at hs
      obtain ⟨x, h1, h2⟩ := hs
      have := am_nx_spec h2
      subst this
      refine va_aldq CX.1 CX.2.1 CX.2.2.2.2.2.1.1 RL.2.2.2.2.1 a 3 (am_wl_R ha) rfl hj hd ?_
      rw [h1]
      exact kk _ _ _ _ _ RL
    · cases hs
  · cases hs
theorem am_s_ast (CX : am_CX e D cy b b0 X K0 p R s m args meth c) (hs : am_ast pc ls st h = some (.inl q)) (RL : am_RL e D cy b b0 X K0 s ls h lc H locs cells slots) (kk : am_KK e D cy b b0 X K0 p l ev R s m args below meth c Q q) (hd : decode (am_code e) pc = .ok (.iastore, 1)) : W p l ev R s m args below meth c H locs cells slots Q (F0 m pc lc (st.map (am_sh b b0))) := by
  unfold am_ast at hs
  split at hs
  · next x j a r =>
    split at hs
    · next ha =>
      obtain ⟨ha, hj⟩ := ha
      have := am_nx_spec hs
      subst this
      refine va_iast CX.1 CX.2.1 CX.2.2.2.2.2.1.1 RL.2.2.2.2.1 am_wl_D RL.2.2.2.2.2.1 a 0 (am_wl_I ha) rfl hj hd (fun H1 locs1 hP _ hS => kk _ _ _ _ _ (RL.mem rfl rfl ?_ hS))
      have hw : (am_wl cy b h).set a (b + a, .inl (cy 0, (am_kd h a).2, .inl (upd (h.2.1 a) j.toNatClampNeg x))) = am_wl cy b (am_sI h a j.toNatClampNeg x) := am_wl_set rfl (by rw [am_ce_I (h := am_sI h a j.toNatClampNeg x) ha]; simp [am_sI, am_kd, va_up]) (fun c hc => am_ce_sI hc)
      rw [← hw]
      exact hP
    · cases hs
  · cases hs
theorem am_s_astZ (CX : am_CX e D cy b b0 X K0 p R s m args meth c) (hs : am_astZ pc ls st h = some (.inl q)) (RL : am_RL e D cy b b0 X K0 s ls h lc H locs cells slots) (kk : am_KK e D cy b b0 X K0 p l ev R s m args below meth c Q q) (hd : decode (am_code e) pc = .ok (.bastore, 1)) : W p l ev R s m args below meth c H locs cells slots Q (F0 m pc lc (st.map (am_sh b b0))) := by
  unfold am_astZ at hs
  split at hs
  · next x j a r =>
    split at hs
    · next ha =>
      obtain ⟨ha, hj, rfl⟩ := ha
      have := am_nx_spec hs
      subst this
      refine va_zast CX.1 CX.2.1 CX.2.2.2.2.2.1.1 RL.2.2.2.2.1 am_wl_D RL.2.2.2.2.2.1 a 2 (am_wl_Z ha) rfl hj hd (fun H1 locs1 hP _ hS => kk _ _ _ _ _ (RL.mem rfl rfl ?_ hS))
      have hw : (am_wl cy b h).set a (b + a, .inl (cy 2, (am_kd h a).2, .inl (upd (h.2.1 a) j.toNatClampNeg (vp_nar .boolean 1)))) = am_wl cy b (am_sI h a j.toNatClampNeg 1) := am_wl_set rfl (by rw [am_ce_Z (h := am_sI h a j.toNatClampNeg 1) ha, show vp_nar .boolean 1 = 1 from rfl]; simp [am_sI, am_kd, va_up]) (fun c hc => am_ce_sI hc)
      rw [← hw]
      exact hP
    · cases hs
  · cases hs
theorem am_s_astJ (CX : am_CX e D cy b b0 X K0 p R s m args meth c) (hs : am_astJ pc ls st h = some (.inl q)) (RL : am_RL e D cy b b0 X K0 s ls h lc H locs cells slots) (kk : am_KK e D cy b b0 X K0 p l ev R s m args below meth c Q q) (hd : decode (am_code e) pc = .ok (.lastore, 1)) : W p l ev R s m args below meth c H locs cells slots Q (F0 m pc lc (st.map (am_sh b b0))) := by
  unfold am_astJ at hs
  split at hs
  · next x j a r =>
    split at hs
    · next ha =>
      obtain ⟨ha, hj⟩ := ha
      have := am_nx_spec hs
      subst this
      refine va_last CX.1 CX.2.1 CX.2.2.2.2.2.1.1 RL.2.2.2.2.1 am_wl_D RL.2.2.2.2.2.1 a 1 (am_wl_J ha) rfl hj hd (fun H1 locs1 hP _ hS => kk _ _ _ _ _ (RL.mem rfl rfl ?_ hS))
      have hw : (am_wl cy b h).set a (b + a, .inl (cy 1, (am_kd h a).2, .inr (.inl (vp_updL (h.2.2.1 a) j.toNatClampNeg x)))) = am_wl cy b (am_sJ h a j.toNatClampNeg x) := am_wl_set rfl (by rw [am_ce_J (h := am_sJ h a j.toNatClampNeg x) ha]; simp [am_sJ, am_kd, va_up]) (fun c hc => am_ce_sJ hc)
      rw [← hw]
      exact hP
    · cases hs
  · cases hs
theorem am_s_astR (CX : am_CX e D cy b b0 X K0 p R s m args meth c) (hs : am_astR pc ls st h = some (.inl q)) (RL : am_RL e D cy b b0 X K0 s ls h lc H locs cells slots) (kk : am_KK e D cy b b0 X K0 p l ev R s m args below meth c Q q) (hd : decode (am_code e) pc = .ok (.aastore, 1)) : W p l ev R s m args below meth c H locs cells slots Q (F0 m pc lc (st.map (am_sh b b0))) := by
  unfold am_astR at hs
  split at hs
  · next x j a r =>
    split at hs
    · next ha =>
      obtain ⟨ha, hj, hx⟩ := ha
      have := am_nx_spec hs
      subst this
      refine va_astq (r := (RX4, TX4, 16)) CX.1 CX.2.1 CX.2.2.2.2.2.1.1 RL.2.2.2.2.1 am_wl_D RL.2.2.2.2.2.1 a 3 x 4 (am_wl_R ha) rfl (am_wl_obj hx (by decide)) rfl hj hd (fun H1 locs1 hP _ hS => kk _ _ _ _ _ (RL.mem rfl rfl ?_ hS))
      have hw : (am_wl cy b h).set a (b + a, .inl (cy 3, (am_kd h a).2, .inr (.inr (.inr (.inr (va_up (fun k => (h.2.2.2.1 a k).map (fun x => b + x)) j.toNatClampNeg (some (b + x)))))))) = am_wl cy b (am_sR h a j.toNatClampNeg x) := am_wl_set rfl (by
        rw [am_ce_R (h := am_sR h a j.toNatClampNeg x) ha]
        have e1 : (fun k => ((am_sR h a j.toNatClampNeg x).2.2.2.1 a k).map (fun x => b + x)) = va_up (fun k => (h.2.2.2.1 a k).map (fun x => b + x)) j.toNatClampNeg (some (b + x)) := by
          funext k
          by_cases hk : k = j.toNatClampNeg
          · simp [am_sR, va_up, hk]
          · simp [am_sR, va_up, hk]
        rw [e1]
        rfl) (fun c hc => am_ce_sR hc)
      rw [← hw]
      exact hP
    · cases hs
  · cases hs
theorem am_s_aln (CX : am_CX e D cy b b0 X K0 p R s m args meth c) (hs : am_aln pc ls st h = some (.inl q)) (RL : am_RL e D cy b b0 X K0 s ls h lc H locs cells slots) (kk : am_KK e D cy b b0 X K0 p l ev R s m args below meth c Q q) (hd : decode (am_code e) pc = .ok (.arraylength, 1)) : W p l ev R s m args below meth c H locs cells slots Q (F0 m pc lc (st.map (am_sh b b0))) := by
  unfold am_aln at hs
  split at hs
  · next x r =>
    split at hs
    · have := am_nx_spec hs
      subst this
      have e1 := RL.2.1
      have kx := CX.2.2.2.2.2.1.2.2.2.2
      have hsz := CX.2.2.2.2.2.2.1
      refine va_slen (A := fun q => b ≤ q) CX.1 CX.2.1 kx.1 (by omega) (by omega) RL.2.2.2.2.2.1 hd ?_
      rw [← e1]
      exact kk _ _ _ _ _ RL
    · cases hs
  · cases hs
theorem am_catsum (r : List Value) : ((r.map (am_sh b b0)).map fun v => v.category).sum ≤ 2 * r.length := by
  induction r with
  | nil => simp
  | cons v r ih =>
    have h1 : (am_sh b b0 v).category ≤ 2 := by
      rw [am_sh_cat]
      cases v <;> simp [Value.category]
    simp only [List.map_cons, List.sum_cons, List.length_cons] at ih ⊢
    omega
theorem am_s_obj {i : Nat} (CX : am_CX e D cy b b0 X K0 p R s m args meth c) (hs : am_obj (am_mlk (am_ow e) i) e pc ls st h = some (.inl q)) (RL : am_RL e D cy b b0 X K0 s ls h lc H locs cells slots) (kk : am_KK e D cy b b0 X K0 p l ev R s m args below meth c Q q) (hd : decode (am_code e) pc = .ok (.invokespecial i, 3)) : W p l ev R s m args below meth c H locs cells slots Q (F0 m pc lc (st.map (am_sh b b0))) := by
  unfold am_obj at hs
  split at hs
  · next e2 a r hl =>
    split at hs
    · next hr =>
      have := am_nx_spec hs
      subst this
      obtain ⟨w1, w2, w3⟩ := am_mlk_spec hl
      have hf := CX.2.2.2.2.2.2.2.2
      have hc := am_catsum (b := b) (b0 := b0) r
      exact W.objInit CX.1 CX.2.1 CX.2.2.2.1 (CX.2.2.2.2.1 _ w1) (CX.2.2.2.2.1 _ w2) (CX.2.2.2.2.1 _ w3) rfl (RL.2.2.1.1.trans CX.2.2.1.symm) rfl hd (by omega) (by show 2 * 0 + _ + 12 ≤ _; omega) (kk _ _ _ _ _ RL)
    · cases hs
  · cases hs
theorem am_s_mx {i : Nat} (CX : am_CX e D cy b b0 X K0 p R s m args meth c) (hs : am_mx (am_mlk (am_ow e) i) e pc ls st h = some (.inl q)) (RL : am_RL e D cy b b0 X K0 s ls h lc H locs cells slots) (hcR : cells ≤ R.cells ∧ slots ≤ R.slots) (kk : am_KK e D cy b b0 X K0 p l ev R s m args below meth c Q q) (hd : decode (am_code e) pc = .ok (.invokestatic i, 3)) : W p l ev R s m args below meth c H locs cells slots Q (F0 m pc lc (st.map (am_sh b b0))) := by
  unfold am_mx at hs
  split at hs
  · next e2 y x r hl =>
    split at hs
    · next hr =>
      have := am_nx_spec hs
      subst this
      obtain ⟨w1, w2, w3, w4⟩ := am_mlk_spec hl
      have hf := CX.2.2.2.2.2.2.2.2
      have hc := am_catsum (b := b) (b0 := b0) r
      exact va_mmax CX.1 CX.2.1 (CX.2.2.1.trans RL.2.2.1.1.symm) CX.2.2.2.1 (CX.2.2.2.2.1 _ w1) (CX.2.2.2.2.1 _ w2) (CX.2.2.2.2.1 _ w3) (CX.2.2.2.2.1 _ w4) (by omega) (by omega) hcR.1 hcR.2 hd (kk _ _ _ _ _ RL)
    · cases hs
  · cases hs
theorem am_arrV {cA : ClassId} {n : Nat} {f g : Nat → Value} (h : ∀ j, j < n → f j = g j) : arrV cA n f = arrV cA n g := by
  unfold arrV
  congr 2
  funext j
  exact h j.val j.isLt
theorem am_s_acp {i : Nat} (CX : am_CX e D cy b b0 X K0 p R s m args meth c) (hs : am_acp (am_mlk (am_ow e) i) e pc ls st h = some (.inl q)) (RL : am_RL e D cy b b0 X K0 s ls h lc H locs cells slots) (kk : am_KK e D cy b b0 X K0 p l ev R s m args below meth c Q q) (hd : decode (am_code e) pc = .ok (.invokestatic i, 3)) : W p l ev R s m args below meth c H locs cells slots Q (F0 m pc lc (st.map (am_sh b b0))) := by
  unfold am_acp at hs
  split at hs
  · next e2 n dp a sp a0 r hl =>
    split at hs
    · next hr =>
      obtain ⟨hr1, hr2, rfl, rfl, hn, k0, k1⟩ := hr
      have := am_nx_spec hs
      subst this
      obtain ⟨w1, w2, w3, w4⟩ := am_mlk_spec hl
      have hf := CX.2.2.2.2.2.2.2.2
      have hc := am_catsum (b := b) (b0 := b0) r
      have z0 : (am_kd h a0).1 = 10 := by rw [k0]
      have z1 : (am_kd h a).1 = 10 := by rw [k1]
      have g0 := am_wl_I (cy := cy) (b := b) z0
      have g1 := am_wl_I (cy := cy) (b := b) z1
      rw [k0] at g0
      rw [k1] at g1
      have hz : (0 : Int32).toNatClampNeg = 0 := rfl
      refine va_copyi (ty := .int) CX.1 CX.2.1 (CX.2.2.1.trans RL.2.2.1.1.symm) CX.2.2.2.1 (CX.2.2.2.2.1 _ w1) (CX.2.2.2.2.1 _ w2) (CX.2.2.2.2.1 _ w3) (CX.2.2.2.2.1 _ w4) CX.2.2.2.2.2.1.1 RL.2.2.2.2.1 am_wl_D RL.2.2.2.2.2.1 a0 a 0 0 g0 g1 rfl rfl rfl (by decide) (by decide) hn (by rw [hz]; omega) (by rw [hz]; omega) (fun i hi => rfl) (by omega) (by show _ + (5 + 2 + 11) ≤ _; omega) hd (fun H1 locs1 hP _ hS => kk _ _ _ _ _ (RL.mem rfl rfl ?_ hS))
      intro k0' x hx
      obtain ⟨hl0, rfl⟩ := am_wl_at hx
      by_cases hk : k0' = a
      · subst hk
        have hl1 : k0' < h.1.length := hl0
        have := hP k0' _ (List.getElem?_set_self (by rw [am_wl_len]; exact hl1))
        have z2 : (am_kd (am_cp h k0' a0) k0').1 = 10 := z1
        rw [am_ce_I z2]
        show H1[b + k0']? = some (vp_cell _ _)
        have t2 : H1[b + k0']? = some (vp_cell (cy 0) (n.toNatClampNeg, .inl (va_cpy (h.2.1 a0) (h.2.1 k0') (0 : Int32).toNatClampNeg (0 : Int32).toNatClampNeg n.toNatClampNeg))) := this
        rw [t2]
        have z3 : (am_kd (am_cp h k0' a0) k0').2 = n.toNatClampNeg := by
          show (am_kd h k0').2 = _
          rw [k1]
        rw [z3, vp_cell_i, vp_cell_i, hz]
        congr 1
        apply am_arrV
        intro j hj
        simp [va_cpy, am_cp, va_up, hj]
      · have := hP k0' _ (by rw [List.getElem?_set_ne (Ne.symm hk)]; exact am_wl_get hl0)
        rw [am_ce_cp hk]
        exact this
    · cases hs
  · cases hs
end AMH
