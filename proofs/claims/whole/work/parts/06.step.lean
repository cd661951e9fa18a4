/-! one step of the abstract machine is one step of the machine -/
def am_tys (cy : Nat → ClassId) : List (ClassId × FieldType) := [(cy 0, .int), (cy 1, .long), (cy 2, .boolean), (cy 3, .object RX4)]
/-- what is known of the tables, and of the script -/
def am_KX (D : va_G) (cy : Nat → ClassId) (b b0 : Nat) (X : (Nat → Int32) × Nat) (U : State) : Prop := va_K D vwCl (am_tys cy) U ∧ (∀ q ∈ am_nstF, va_Nw (.fieldLinkNest q.1 q.2.1 q.2.2.1 q.2.2.2.1 q.2.2.2.2.1 q.2.2.2.2.2) U) ∧ (∀ q ∈ am_nstM, va_Nw (.methodLinkNest q.1 q.2.1 q.2.2.1 q.2.2.2) U) ∧ va_AO RX4 U ∧ va_X b0 X.2 X.1 U U.heap ∧ b0 < b
theorem am_KX.warm {D : va_G} {cy : Nat → ClassId} {b b0 : Nat} {X : (Nat → Int32) × Nat} {u U : State} (h : am_KX D cy b b0 X u) (hW : u.WarmedH U.vm) (hh : U.heap[b0]? = u.heap[b0]?) : am_KX D cy b b0 X U :=
  ⟨va_K.moved hW.alike h.1, fun q hq => va_Nw.warmF hW (h.2.1 q hq), fun q hq => va_Nw.warmM hW (h.2.2.1 q hq), va_AO.moved hW.alike h.2.2.2.1, va_X.moved hW.alike (h.2.2.2.2.1.kept hh), h.2.2.2.2.2⟩
theorem am_KX.same {D : va_G} {cy : Nat → ClassId} {b b0 : Nat} {X : (Nat → Int32) × Nat} {u U : State} (h : am_KX D cy b b0 X u) (hv : u.vm = U.vm) (hh : U.heap = u.heap) : am_KX D cy b b0 X U := by
  have ha : u.vm.Alike U.vm := by rw [hv]; exact Vm.Alike.refl U.vm
  exact ⟨va_K.moved ha h.1, fun q hq => va_Nw.same rfl hv (h.2.1 q hq), fun q hq => va_Nw.same rfl hv (h.2.2.1 q hq), va_AO.moved ha h.2.2.2.1, va_X.moved ha (h.2.2.2.2.1.kept (by rw [hh])), h.2.2.2.2.2⟩
/-- where a walk of the method e stands -/
def am_CX (e : am_E) (D : va_G) (cy : Nat → ClassId) (b b0 : Nat) (X : (Nat → Int32) × Nat) (K0 : List am_K) (p : Program) (R : Room) (s : State) (m : MethodId) (args : Array Value) (meth : Method) (c : Code) : Prop :=
  p.tables.exec = Jvm.exec ∧ c.code = am_code e ∧ c.maxLocals = am_ml e ∧ s.vm.findClass (am_nm (am_ow e)) = some m.cls ∧ (∀ w ∈ am_G, w.before args s = true) ∧ am_KX D cy b b0 X s ∧ s.heap.size = b + K0.length ∧ (e.1.name = "<init>" → meth.name = "<init>") ∧ am_rk e ≤ R.frames ∧ 41 * am_rk e ≤ R.locals
def am_RL (e : am_E) (D : va_G) (cy : Nat → ClassId) (b b0 : Nat) (X : (Nat → Int32) × Nat) (K0 : List am_K) (s : State) (ls : List Value) (h : am_H) (lc : Array Slot) (H : Heap) (locs : List Loc) (cells slots : Nat) : Prop :=
  (∃ t, h.1 = K0 ++ t) ∧ h.2.2.2.2 = X ∧ lv_has lc (am_ml e) (am_lvl b b0 ls) ∧ ls.length = am_ml e ∧ va_P D vwCl (am_wl cy b h) H ∧ va_S (fun q => b ≤ q) s.heap H locs ∧ h.1.length = K0.length + cells ∧ am_sl h.1 = am_sl K0 + slots
section AMS
variable {e : am_E} {D : va_G} {cy : Nat → ClassId} {b b0 : Nat} {X : (Nat → Int32) × Nat} {K0 : List am_K} {p : Program} {l : Launch} {ev : Env} {R : Room} {s : State} {m : MethodId} {args : Array Value} {below : List Frame} {meth : Method} {c : Code} {Q : State → Prop}
variable {pc : Nat} {ls st : List Value} {h : am_H} {q : Nat × List Value × List Value × am_H} {lc : Array Slot} {H : Heap} {locs : List Loc} {cells slots : Nat}
/-- the goal behind a step -/
abbrev am_KK (e : am_E) (D : va_G) (cy : Nat → ClassId) (b b0 : Nat) (X : (Nat → Int32) × Nat) (K0 : List am_K) (p : Program) (l : Launch) (ev : Env) (R : Room) (s : State) (m : MethodId) (args : Array Value) (below : List Frame) (meth : Method) (c : Code) (Q : State → Prop) (q : Nat × List Value × List Value × am_H) : Prop :=
  ∀ (lc : Array Slot) (H : Heap) (locs : List Loc) (cells slots : Nat), am_RL e D cy b b0 X K0 s q.2.1 q.2.2.2 lc H locs cells slots → W p l ev R s m args below meth c H locs cells slots Q (F0 m q.1 lc (q.2.2.1.map (am_sh b b0)))
theorem am_nx_spec {pc : Nat} {ls st : List Value} {h : am_H} {q : Nat × List Value × List Value × am_H} (hs : am_nx pc ls st h = some (.inl q)) : q = (pc, ls, st, h) := by
  unfold am_nx at hs
  cases hs
  rfl
theorem am_jp_spec {pc : Nat} {off : Int} {ls st : List Value} {h : am_H} {q : Nat × List Value × List Value × am_H} (hs : am_jp pc off ls st h = some (.inl q)) : (pc : Int) + off = (q.1 : Int) ∧ q.2 = (ls, st, h) := by
  unfold am_jp at hs
  split at hs
  · next h0 =>
    have := am_nx_spec hs
    subst this
    exact ⟨(Int.toNat_of_nonneg h0).symm, rfl⟩
  · cases hs
theorem am_br_spec {cd : Prop} [Decidable cd] {pc : Nat} {off : Int} {ls st : List Value} {h : am_H} {q : Nat × List Value × List Value × am_H} (hs : am_br cd pc off ls st h = some (.inl q)) : ∃ tgt : Nat, (pc : Int) + off = (tgt : Int) ∧ (cd → q = (tgt, ls, st, h)) ∧ (¬ cd → q = (pc + 3, ls, st, h)) := by
  unfold am_br at hs
  split at hs
  · next h0 =>
    refine ⟨((pc : Int) + off).toNat, (Int.toNat_of_nonneg h0).symm, fun hc => ?_, fun hc => ?_⟩
    · rw [if_pos hc] at hs
      exact am_nx_spec hs
    · rw [if_neg hc] at hs
      exact am_nx_spec hs
  · cases hs
theorem am_s_iload {i len : Nat} (CX : am_CX e D cy b b0 X K0 p R s m args meth c) (hs : am_iload pc len ls st h i = some (.inl q)) (RL : am_RL e D cy b b0 X K0 s ls h lc H locs cells slots) (kk : am_KK e D cy b b0 X K0 p l ev R s m args below meth c Q q)
    (row : ∀ x : Int32, lc[i]? = some (.val (.int x)) → W p l ev R s m args below meth c H locs cells slots Q (F0 m (pc + len) lc (.int x :: st.map (am_sh b b0))) → W p l ev R s m args below meth c H locs cells slots Q (F0 m pc lc (st.map (am_sh b b0)))) : W p l ev R s m args below meth c H locs cells slots Q (F0 m pc lc (st.map (am_sh b b0))) := by
  unfold am_iload at hs
  split at hs
  · next x hx =>
    have := am_nx_spec hs
    subst this
    exact row x (am_lv_at RL.2.2.1 hx (fun z => by cases z)) (kk _ _ _ _ _ RL)
  · cases hs
theorem am_s_lload {i len : Nat} (CX : am_CX e D cy b b0 X K0 p R s m args meth c) (hs : am_lload pc len ls st h i = some (.inl q)) (RL : am_RL e D cy b b0 X K0 s ls h lc H locs cells slots) (kk : am_KK e D cy b b0 X K0 p l ev R s m args below meth c Q q)
    (row : ∀ x : Int64, lc[i]? = some (.val (.long x)) → W p l ev R s m args below meth c H locs cells slots Q (F0 m (pc + len) lc (.long x :: st.map (am_sh b b0))) → W p l ev R s m args below meth c H locs cells slots Q (F0 m pc lc (st.map (am_sh b b0)))) : W p l ev R s m args below meth c H locs cells slots Q (F0 m pc lc (st.map (am_sh b b0))) := by
  unfold am_lload at hs
  split at hs
  · next x hx =>
    have := am_nx_spec hs
    subst this
    exact row x (am_lv_at RL.2.2.1 hx (fun z => by cases z)) (kk _ _ _ _ _ RL)
  · cases hs
theorem am_s_aload {i len : Nat} (CX : am_CX e D cy b b0 X K0 p R s m args meth c) (hs : am_aload pc len ls st h i = some (.inl q)) (RL : am_RL e D cy b b0 X K0 s ls h lc H locs cells slots) (kk : am_KK e D cy b b0 X K0 p l ev R s m args below meth c Q q)
    (row : ∀ x : Nat, lc[i]? = some (.val (.ref x)) → W p l ev R s m args below meth c H locs cells slots Q (F0 m (pc + len) lc (.ref x :: st.map (am_sh b b0))) → W p l ev R s m args below meth c H locs cells slots Q (F0 m pc lc (st.map (am_sh b b0)))) : W p l ev R s m args below meth c H locs cells slots Q (F0 m pc lc (st.map (am_sh b b0))) := by
  unfold am_aload at hs
  split at hs
  · next x hx =>
    have := am_nx_spec hs
    subst this
    exact row (b + x) (am_lv_at RL.2.2.1 hx (fun z => by cases z)) (kk _ _ _ _ _ RL)
  · next x hx =>
    have := am_nx_spec hs
    subst this
    exact row b0 (am_lv_at RL.2.2.1 hx (fun z => by cases z)) (kk _ _ _ _ _ RL)
  · cases hs
theorem am_RL.st1 {i : Nat} {v : Value} {ls' : List Value} {lc' : Array Slot} (RL : am_RL e D cy b b0 X K0 s ls h lc H locs cells slots) (hs : am_l1 ls i v = some ls') (hl : lv_has lc' (am_ml e) ((i, am_sh b b0 v) :: (am_lvl b b0 ls).filter (fun q => !(q.1 == i) && !(q.1 + 1 == i && q.2.category == 2)))) : am_RL e D cy b b0 X K0 s ls' h lc' H locs cells slots := by
  obtain ⟨r1, r2, r3, r4, r5⟩ := RL
  exact ⟨r1, r2, am_lv_st1 hs hl, (am_l1_len hs).2.trans r4, r5⟩
theorem am_RL.st2 {i : Nat} {v : Value} {ls' : List Value} {lc' : Array Slot} (RL : am_RL e D cy b b0 X K0 s ls h lc H locs cells slots) (hs : am_l2 ls i v = some ls') (hl : lv_has lc' (am_ml e) ((i, am_sh b b0 v) :: (am_lvl b b0 ls).filter (fun q => !(q.1 == i) && (!(q.1 == i + 1) && !(q.1 + 1 == i && q.2.category == 2))))) : am_RL e D cy b b0 X K0 s ls' h lc' H locs cells slots := by
  obtain ⟨r1, r2, r3, r4, r5⟩ := RL
  exact ⟨r1, r2, am_lv_st2 hs hl, (am_l2_len hs).2.trans r4, r5⟩
theorem am_s_istore {i len : Nat} (CX : am_CX e D cy b b0 X K0 p R s m args meth c) (hs : am_istore pc len ls st h i = some (.inl q)) (RL : am_RL e D cy b b0 X K0 s ls h lc H locs cells slots) (kk : am_KK e D cy b b0 X K0 p l ev R s m args below meth c Q q)
    (row : ∀ (x : Int32) (r : List Value), st = .int x :: r → i < am_ml e → (∀ lc' : Array Slot, lv_has lc' (am_ml e) ((i, Value.int x) :: (am_lvl b b0 ls).filter (fun q => !(q.1 == i) && !(q.1 + 1 == i && q.2.category == 2))) → W p l ev R s m args below meth c H locs cells slots Q (F0 m (pc + len) lc' (r.map (am_sh b b0)))) → W p l ev R s m args below meth c H locs cells slots Q (F0 m pc lc (st.map (am_sh b b0)))) : W p l ev R s m args below meth c H locs cells slots Q (F0 m pc lc (st.map (am_sh b b0))) := by
  unfold am_istore at hs
  split at hs
  · next x r =>
    simp only [Option.bind_eq_some_iff] at hs
    obtain ⟨ls', h1, h2⟩ := hs
    have := am_nx_spec h2
    subst this
    exact row x r rfl (by rw [← RL.2.2.2.1]; exact (am_l1_len h1).1) (fun lc' hl => kk _ _ _ _ _ (RL.st1 h1 hl))
  · cases hs
theorem am_s_astore {i len : Nat} (CX : am_CX e D cy b b0 X K0 p R s m args meth c) (hs : am_astore pc len ls st h i = some (.inl q)) (RL : am_RL e D cy b b0 X K0 s ls h lc H locs cells slots) (kk : am_KK e D cy b b0 X K0 p l ev R s m args below meth c Q q)
    (row : ∀ (x : Nat) (r : List Value), st = .ref x :: r → i < am_ml e → (∀ lc' : Array Slot, lv_has lc' (am_ml e) ((i, Value.ref (b + x)) :: (am_lvl b b0 ls).filter (fun q => !(q.1 == i) && !(q.1 + 1 == i && q.2.category == 2))) → W p l ev R s m args below meth c H locs cells slots Q (F0 m (pc + len) lc' (r.map (am_sh b b0)))) → W p l ev R s m args below meth c H locs cells slots Q (F0 m pc lc (st.map (am_sh b b0)))) : W p l ev R s m args below meth c H locs cells slots Q (F0 m pc lc (st.map (am_sh b b0))) := by
  unfold am_astore at hs
  split at hs
  · next x r =>
    simp only [Option.bind_eq_some_iff] at hs
    obtain ⟨ls', h1, h2⟩ := hs
    have := am_nx_spec h2
    subst this
    exact row x r rfl (by rw [← RL.2.2.2.1]; exact (am_l1_len h1).1) (fun lc' hl => kk _ _ _ _ _ (RL.st1 h1 hl))
  · cases hs
theorem am_s_lstore {i len : Nat} (CX : am_CX e D cy b b0 X K0 p R s m args meth c) (hs : am_lstore pc len ls st h i = some (.inl q)) (RL : am_RL e D cy b b0 X K0 s ls h lc H locs cells slots) (kk : am_KK e D cy b b0 X K0 p l ev R s m args below meth c Q q)
    (row : ∀ (x : Int64) (r : List Value), st = .long x :: r → i + 1 < am_ml e → (∀ lc' : Array Slot, lv_has lc' (am_ml e) ((i, Value.long x) :: (am_lvl b b0 ls).filter (fun q => !(q.1 == i) && (!(q.1 == i + 1) && !(q.1 + 1 == i && q.2.category == 2)))) → W p l ev R s m args below meth c H locs cells slots Q (F0 m (pc + len) lc' (r.map (am_sh b b0)))) → W p l ev R s m args below meth c H locs cells slots Q (F0 m pc lc (st.map (am_sh b b0)))) : W p l ev R s m args below meth c H locs cells slots Q (F0 m pc lc (st.map (am_sh b b0))) := by
  unfold am_lstore at hs
  split at hs
  · next x r =>
    simp only [Option.bind_eq_some_iff] at hs
    obtain ⟨ls', h1, h2⟩ := hs
    have := am_nx_spec h2
    subst this
    exact row x r rfl (by rw [← RL.2.2.2.1]; exact (am_l2_len h1).1) (fun lc' hl => kk _ _ _ _ _ (RL.st2 h1 hl))
  · cases hs
theorem am_s_iinc {i : Nat} {n : Int} (CX : am_CX e D cy b b0 X K0 p R s m args meth c) (hs : am_iinc pc ls st h i n = some (.inl q)) (RL : am_RL e D cy b b0 X K0 s ls h lc H locs cells slots) (kk : am_KK e D cy b b0 X K0 p l ev R s m args below meth c Q q) (hd : decode (am_code e) pc = .ok (.iinc i n, 3)) : W p l ev R s m args below meth c H locs cells slots Q (F0 m pc lc (st.map (am_sh b b0))) := by
  unfold am_iinc at hs
  split at hs
  · next x hx =>
    simp only [Option.bind_eq_some_iff] at hs
    obtain ⟨ls', h1, h2⟩ := hs
    have := am_nx_spec h2
    subst this
    obtain ⟨k, hk⟩ := List.getElem?_of_mem (am_lvl_mem.mpr ⟨.int x, hx, (fun z => by cases z), rfl⟩ : ((i, am_sh b b0 (.int x)) : Nat × Value) ∈ am_lvl b b0 ls)
    exact lv_iinc CX.1 CX.2.1 hd RL.2.2.1 hk rfl (by rw [← RL.2.2.2.1]; exact (am_l1_len h1).1) rfl (fun lc' hl => kk _ _ _ _ _ (RL.st1 h1 hl))
  · cases hs
theorem am_s_bin {f : Int32 → Int32 → Int32} (hs : am_bin f pc ls st h = some (.inl q)) (RL : am_RL e D cy b b0 X K0 s ls h lc H locs cells slots) (kk : am_KK e D cy b b0 X K0 p l ev R s m args below meth c Q q)
    (row : ∀ (x y : Int32) (r : List Value), W p l ev R s m args below meth c H locs cells slots Q (F0 m (pc + 1) lc (.int (f x y) :: r)) → W p l ev R s m args below meth c H locs cells slots Q (F0 m pc lc (.int y :: .int x :: r))) : W p l ev R s m args below meth c H locs cells slots Q (F0 m pc lc (st.map (am_sh b b0))) := by
  unfold am_bin at hs
  split at hs
  · next y x r =>
    have := am_nx_spec hs
    subst this
    exact row x y _ (kk _ _ _ _ _ RL)
  · cases hs
theorem am_s_dvd {f : Int32 → Int32 → Int32} (hs : am_dvd f pc ls st h = some (.inl q)) (RL : am_RL e D cy b b0 X K0 s ls h lc H locs cells slots) (kk : am_KK e D cy b b0 X K0 p l ev R s m args below meth c Q q)
    (row : ∀ (x y : Int32) (r : List Value), ¬ y = 0 → W p l ev R s m args below meth c H locs cells slots Q (F0 m (pc + 1) lc (.int (f x y) :: r)) → W p l ev R s m args below meth c H locs cells slots Q (F0 m pc lc (.int y :: .int x :: r))) : W p l ev R s m args below meth c H locs cells slots Q (F0 m pc lc (st.map (am_sh b b0))) := by
  unfold am_dvd at hs
  split at hs
  · next y x r =>
    split at hs
    · cases hs
    · next hy =>
      have := am_nx_spec hs
      subst this
      exact row x y _ hy (kk _ _ _ _ _ RL)
  · cases hs
theorem am_s_binL {f : Int64 → Int64 → Int64} (hs : am_binL f pc ls st h = some (.inl q)) (RL : am_RL e D cy b b0 X K0 s ls h lc H locs cells slots) (kk : am_KK e D cy b b0 X K0 p l ev R s m args below meth c Q q)
    (row : ∀ (x y : Int64) (r : List Value), W p l ev R s m args below meth c H locs cells slots Q (F0 m (pc + 1) lc (.long (f x y) :: r)) → W p l ev R s m args below meth c H locs cells slots Q (F0 m pc lc (.long y :: .long x :: r))) : W p l ev R s m args below meth c H locs cells slots Q (F0 m pc lc (st.map (am_sh b b0))) := by
  unfold am_binL at hs
  split at hs
  · next y x r =>
    have := am_nx_spec hs
    subst this
    exact row x y _ (kk _ _ _ _ _ RL)
  · cases hs
theorem am_s_dvdL {f : Int64 → Int64 → Int64} (hs : am_dvdL f pc ls st h = some (.inl q)) (RL : am_RL e D cy b b0 X K0 s ls h lc H locs cells slots) (kk : am_KK e D cy b b0 X K0 p l ev R s m args below meth c Q q)
    (row : ∀ (x y : Int64) (r : List Value), ¬ y = 0 → W p l ev R s m args below meth c H locs cells slots Q (F0 m (pc + 1) lc (.long (f x y) :: r)) → W p l ev R s m args below meth c H locs cells slots Q (F0 m pc lc (.long y :: .long x :: r))) : W p l ev R s m args below meth c H locs cells slots Q (F0 m pc lc (st.map (am_sh b b0))) := by
  unfold am_dvdL at hs
  split at hs
  · next y x r =>
    split at hs
    · cases hs
    · next hy =>
      have := am_nx_spec hs
      subst this
      exact row x y _ hy (kk _ _ _ _ _ RL)
  · cases hs
theorem am_s_br {cd : Prop} [Decidable cd] {off : Int} {r : List Value} {st1 : List Value} (hs : am_br cd pc off ls r h = some (.inl q)) (RL : am_RL e D cy b b0 X K0 s ls h lc H locs cells slots) (kk : am_KK e D cy b b0 X K0 p l ev R s m args below meth c Q q)
    (row : ∀ tgt : Nat, (pc : Int) + off = (tgt : Int) → (cd → W p l ev R s m args below meth c H locs cells slots Q (F0 m tgt lc (r.map (am_sh b b0)))) → (¬ cd → W p l ev R s m args below meth c H locs cells slots Q (F0 m (pc + 3) lc (r.map (am_sh b b0)))) → W p l ev R s m args below meth c H locs cells slots Q (F0 m pc lc st1)) : W p l ev R s m args below meth c H locs cells slots Q (F0 m pc lc st1) := by
  obtain ⟨tgt, h1, h2, h3⟩ := am_br_spec hs
  refine row tgt h1 (fun hc => ?_) (fun hc => ?_)
  · have := h2 hc
    subst this
    exact kk _ _ _ _ _ RL
  · have := h3 hc
    subst this
    exact kk _ _ _ _ _ RL
end AMS
