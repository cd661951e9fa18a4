-- ===== end of PART A; then your names; then what follows =====
/-! THE CLAIM OUT OF ONE WALK OF THE LAW'S BODY. Your part is whole_start (and what it stands on); all else here is the same for every law, but numbers. -/
def R_law : String := "WordRentsLaw"
def lw_P (b : Addr) (xs : List Int32) (args : Array Value) (s : State) : Prop := args = #[.ref b] ∧ s.IntsAt b xs ∧ xs.length ≤ 384 ∧ (Jvm.Cond.and given_1 narrow_1).before args s = true
def lw_Q (_ : Array Value) (s : State) (o : Outcome) (t : State) : Prop := o = .returned (some (.int 1)) ∧ Framed s o t [] 600000 7302250
def lw_Z (below : List Frame) (a : Array Value) (s : State) : State → Prop := fun t => ∃ o, t.status = .running ∧ Ended t below o ∧ lw_Q a s o t
/-- the law's own end, with 1 on the stack, nothing written that was there before, its room as the claim has it -/
theorem lw_ret {p : Program} {l : Launch} {e : Env} {s : State} {m : MethodId} {below : List Frame} {meth : Method} {c : Code} {b : Nat} (hx : p.tables.exec = Jvm.exec) (hb : c.code = code) (hr : meth.sig.returnType = ret) (hlocks : meth.locks = false) {pc : Nat} {H : Heap} {ls : Array Slot} (hdg : decode code pc = .ok (.ireturn, 1)) : W p l e room_1 s m #[Value.ref b] below meth c H [] 600000 7302250 (lw_Z below #[Value.ref b] s) (F0 m pc ls [.int 1]) := by
  intro T hT X
  obtain ⟨fs, hret, hrun, hended, hW, hframe⟩ := X.leave (v := some (.int 1)) (hlocks := hlocks) (fun h => by rw [hr] at h; cases h)
  have hmeth' : T.vm.method? m = some meth := X.method'
  refine ⟨T.setFrames fs, ?_, .returned (some (.int 1)), hrun, hended, rfl, ⟨_, rfl⟩, hW, hframe⟩
  jvm_step X.here [X.here.top, hx, hb, hdg, hmeth', hr, ret, narrow_b1]
  (try refine ⟨rfl, ?_⟩); (try refine ⟨rfl, ?_⟩)
  first | (intro acts; rw [hret _ acts rfl rfl rfl]) | rw [hret _ _ rfl rfl rfl]
  exact Steps.refl _
/-- what holds at the law's entry: the machine, the code, the tables' words (any of lw_tbl by 'hts w (by decide +kernel)'), the script of L ints xs at the cell b, what the Statement gives of the start (any of its parts by flat_of_before) -/
def lw_At (p : Program) (s : State) (m : MethodId) (meth : Method) (c : Code) (b L : Nat) (xs : Nat → Int32) : Prop :=
  p.tables.exec = Jvm.exec ∧ c.code = code ∧ meth.sig.returnType = ret ∧ c.maxLocals = 4 ∧ s.vm.findClass R_law = some m.cls ∧ (∀ w ∈ lw_tbl, w.before #[Value.ref b] s = true) ∧ va_X b L xs s s.heap ∧ b < s.heap.size ∧ meth.locks = false ∧ (Jvm.Cond.and given_1 narrow_1).before #[Value.ref b] s = true
/-- the empty memory, and the script -/
def am_h0 (xs : Nat → Int32) (L : Nat) : am_H := ([], (fun _ _ => 0), (fun _ _ => 0), (fun _ _ => none), xs, L)
/-- the law runs to its end in the abstract machine -/
def am_law (xs : Nat → Int32) (L : Nat) : Prop := ∃ (n : Nat) (h' : am_H), am_run n E_L_law 0 (am_loc E_L_law [.retAddr 0]) [] (am_h0 xs L) = some (some (.int 1), h') ∧ h'.1.length ≤ 600000 ∧ am_sl h'.1 ≤ 7302250
set_option maxRecDepth 20000 in
theorem am_nstF_in : ∀ q ∈ am_nstF, Cond.fieldLinkNest q.1 q.2.1 q.2.2.1 q.2.2.2.1 q.2.2.2.2.1 q.2.2.2.2.2 ∈ lw_tbl := List.forall_mem_cons.mpr ⟨List.mem_of_getElem? (i := 99) rfl, List.forall_mem_cons.mpr ⟨List.mem_of_getElem? (i := 101) rfl, List.forall_mem_cons.mpr ⟨List.mem_of_getElem? (i := 103) rfl, List.forall_mem_cons.mpr ⟨List.mem_of_getElem? (i := 106) rfl, List.forall_mem_cons.mpr ⟨List.mem_of_getElem? (i := 110) rfl, List.forall_mem_cons.mpr ⟨List.mem_of_getElem? (i := 182) rfl, List.forall_mem_cons.mpr ⟨List.mem_of_getElem? (i := 184) rfl, List.forall_mem_cons.mpr ⟨List.mem_of_getElem? (i := 186) rfl, List.forall_mem_cons.mpr ⟨List.mem_of_getElem? (i := 188) rfl, List.forall_mem_cons.mpr ⟨List.mem_of_getElem? (i := 190) rfl, List.forall_mem_cons.mpr ⟨List.mem_of_getElem? (i := 192) rfl, List.forall_mem_cons.mpr ⟨List.mem_of_getElem? (i := 221) rfl, List.forall_mem_cons.mpr ⟨List.mem_of_getElem? (i := 223) rfl, List.forall_mem_cons.mpr ⟨List.mem_of_getElem? (i := 237) rfl, List.forall_mem_cons.mpr ⟨List.mem_of_getElem? (i := 239) rfl, List.forall_mem_cons.mpr ⟨List.mem_of_getElem? (i := 241) rfl, List.forall_mem_cons.mpr ⟨List.mem_of_getElem? (i := 243) rfl, List.forall_mem_cons.mpr ⟨List.mem_of_getElem? (i := 266) rfl, List.forall_mem_cons.mpr ⟨List.mem_of_getElem? (i := 268) rfl, fun _ h => absurd h List.not_mem_nil⟩⟩⟩⟩⟩⟩⟩⟩⟩⟩⟩⟩⟩⟩⟩⟩⟩⟩⟩
set_option maxRecDepth 20000 in
theorem am_nstM_in : ∀ q ∈ am_nstM, Cond.methodLinkNest q.1 q.2.1 q.2.2.1 q.2.2.2 ∈ lw_tbl := List.forall_mem_cons.mpr ⟨List.mem_of_getElem? (i := 72) rfl, List.forall_mem_cons.mpr ⟨List.mem_of_getElem? (i := 147) rfl, List.forall_mem_cons.mpr ⟨List.mem_of_getElem? (i := 158) rfl, List.forall_mem_cons.mpr ⟨List.mem_of_getElem? (i := 164) rfl, List.forall_mem_cons.mpr ⟨List.mem_of_getElem? (i := 176) rfl, List.forall_mem_cons.mpr ⟨List.mem_of_getElem? (i := 216) rfl, List.forall_mem_cons.mpr ⟨List.mem_of_getElem? (i := 231) rfl, List.forall_mem_cons.mpr ⟨List.mem_of_getElem? (i := 258) rfl, List.forall_mem_cons.mpr ⟨List.mem_of_getElem? (i := 363) rfl, List.forall_mem_cons.mpr ⟨List.mem_of_getElem? (i := 404) rfl, List.forall_mem_cons.mpr ⟨List.mem_of_getElem? (i := 418) rfl, List.forall_mem_cons.mpr ⟨List.mem_of_getElem? (i := 457) rfl, List.forall_mem_cons.mpr ⟨List.mem_of_getElem? (i := 492) rfl, List.forall_mem_cons.mpr ⟨List.mem_of_getElem? (i := 562) rfl, List.forall_mem_cons.mpr ⟨List.mem_of_getElem? (i := 785) rfl, fun _ h => absurd h List.not_mem_nil⟩⟩⟩⟩⟩⟩⟩⟩⟩⟩⟩⟩⟩⟩⟩
set_option maxRecDepth 20000 in
theorem am_over_in : Cond.arrayOver (.object RX4) ∈ lw_tbl := List.mem_of_getElem? (i := 144) rfl
theorem am_arr_of {s : State} {args : Array Value} {ty : FieldType} (h : (Cond.arrayClass ty).before args s = true) : ∃ cA : ClassId, ArrOfT s cA ty ∧ s.vm.findClass ("[" ++ ty.toString) = some cA := by
  obtain ⟨cA, kA, comp, h1, h2, h3⟩ := Cond.arrayClass_spec h
  exact ⟨cA, fun n z => ⟨fun k h => (by cases h), kA, h2, comp, h3⟩, h1⟩
theorem am_arr_ov {s : State} {args : Array Value} {C : String} (h : (Cond.arrayOver (.object C)).before args s = true) : ∃ cA : ClassId, ArrOfT s cA (.object C) ∧ va_RA s cA (.object C) := by
  obtain ⟨comp, cA, kA, h1, h2, h3, h4, h5⟩ := Cond.arrayOver_spec h
  exact ⟨cA, fun n z => ⟨fun k h => (by cases h), kA, h3, comp, h4⟩, kA, comp, h3, h4, h1, h5⟩
theorem in_X0 : Cond.instantiable RX0 5 ∈ am_G := by
  obtain ⟨c, h1, -, h3, -, h5, -⟩ := ck_8_55
  cases h1
  exact h3
theorem in_X1 : Cond.instantiable RX1 5 ∈ am_G := by
  obtain ⟨c, h1, -, h3, -, h5, -⟩ := ck_8_62
  cases h1
  exact h3
theorem in_X2 : Cond.instantiable RX2 2 ∈ am_G := by
  obtain ⟨c, h1, -, h3, -, h5, -⟩ := ck_8_48
  cases h1
  exact h3
theorem in_X3 : Cond.instantiable RX3 2 ∈ am_G := by
  obtain ⟨c, h1, -, h3, -, h5, -⟩ := ck_8_7
  cases h1
  exact h3
theorem in_X4 : Cond.instantiable RX4 16 ∈ am_G := by
  obtain ⟨c, h1, -, h3, -, h5, -⟩ := ck_8_16
  cases h1
  exact h3
theorem in_X6 : Cond.instantiable RX6 10 ∈ am_G := by
  obtain ⟨c, h1, -, h3, -, h5, -⟩ := ck_8_41
  cases h1
  exact h3
theorem in_X7 : Cond.instantiable RX7 1 ∈ am_G := by
  obtain ⟨c, h1, -, h3, -, h5, -⟩ := ck_8_34
  cases h1
  exact h3
theorem in_X8 : Cond.instantiable RX8 2 ∈ am_G := by
  obtain ⟨c, h1, -, h3, -, h5, -⟩ := ck_5_9
  cases h1
  exact h3
theorem in_X9 : Cond.instantiable RX9 10 ∈ am_G := by
  obtain ⟨c, h1, -, h3, -, h5, -⟩ := ck_11_7
  cases h1
  exact h3
theorem in_X10 : Cond.instantiable RX10 30 ∈ am_G := by
  obtain ⟨c, h1, -, h3, -, h5, -⟩ := ck_11_10
  cases h1
  exact h3
set_option maxHeartbeats 4000000 in
/-- the claim, out of the abstract machine's run of the law -/
theorem am_start {p : Program} {e : Env} {s : State} {m : MethodId} {below : List Frame} {meth : Method} {c : Code} (l : Launch) {b L : Nat} {xs : Nat → Int32} (hrun : am_law xs L) (C0 : lw_At p s m meth c b L xs) : W p l e room_1 s m #[Value.ref b] below meth c s.heap [] 0 0 (lw_Z below #[Value.ref b] s) (entryFrame m ([Value.ref b] : List Value).toArray 4) := by
  obtain ⟨hx, hb, hr, hml, hown, hts, hX, hbl, hlocks, hgv⟩ := C0
  obtain ⟨n, h', hrun, hcells, hslots⟩ := hrun
  have htG : ∀ w ∈ am_G, w.before #[Value.ref b] s = true := fun w hw => hts w (List.mem_filter.mp hw).1
  obtain ⟨c0, i0, k0⟩ := u_known (C := RX0) (T := TX0) (N := 5) (n := 5) htG la_X0 (htG _ in_X0)
  obtain ⟨c1, i1, k1⟩ := u_known (C := RX1) (T := TX1) (N := 5) (n := 5) htG la_X1 (htG _ in_X1)
  obtain ⟨c2, i2, k2⟩ := u_known (C := RX2) (T := TX2) (N := 2) (n := 2) htG la_X2 (htG _ in_X2)
  obtain ⟨c3, i3, k3⟩ := u_known (C := RX3) (T := TX3) (N := 2) (n := 2) htG la_X3 (htG _ in_X3)
  obtain ⟨c4, i4, k4⟩ := u_known (C := RX4) (T := TX4) (N := 16) (n := 16) htG la_X4 (htG _ in_X4)
  obtain ⟨c5, i5, k5⟩ := u_known (C := RX6) (T := TX6) (N := 10) (n := 10) htG la_X6 (htG _ in_X6)
  obtain ⟨c6, i6, k6⟩ := u_known (C := RX7) (T := TX7) (N := 1) (n := 1) htG la_X7 (htG _ in_X7)
  obtain ⟨c7, i7, k7⟩ := u_known (C := RX8) (T := TX8) (N := 2) (n := 2) htG la_X8 (htG _ in_X8)
  obtain ⟨c8, i8, k8⟩ := u_known (C := RX9) (T := TX9) (N := 10) (n := 10) htG la_X9 (htG _ in_X9)
  obtain ⟨c9, i9, k9⟩ := u_known (C := RX10) (T := TX10) (N := 30) (n := 30) htG la_X10 (htG _ in_X10)
  obtain ⟨dC, dI, hKc⟩ : ∃ (dC : Nat → ClassId) (dI : Nat → Nat → Nat), ∀ (k : Nat) (q : vw_C), vwCl[k]? = some q → u_Kn s q.1 q.2.1 q.2.2 (dC k) (dI k) := by
    refine ⟨fun k => [c0, c1, c2, c3, c4, c5, c6, c7, c8, c9].getD k c0, fun k => [i0, i1, i2, i3, i4, i5, i6, i7, i8, i9].getD k i0, ?_⟩
    intro k q hq
    match k, hq with
    | 0, hq => cases hq; exact k0
    | 1, hq => cases hq; exact k1
    | 2, hq => cases hq; exact k2
    | 3, hq => cases hq; exact k3
    | 4, hq => cases hq; exact k4
    | 5, hq => cases hq; exact k5
    | 6, hq => cases hq; exact k6
    | 7, hq => cases hq; exact k7
    | 8, hq => cases hq; exact k8
    | 9, hq => cases hq; exact k9
    | k + 10, hq => simp [vwCl] at hq
  obtain ⟨cI, aI, fI⟩ := am_arr_of (htG _ am_arrI)
  obtain ⟨cJ, aJ, fJ⟩ := am_arr_of (htG _ am_arrJ)
  obtain ⟨cZ, aZ, fZ⟩ := am_arr_of (htG _ am_arrZ)
  obtain ⟨cR, aR, fR⟩ := am_arr_ov (hts _ am_over_in)
  obtain ⟨cy, y0, y1, y2, y3⟩ : ∃ cy : Nat → ClassId, cy 0 = cI ∧ cy 1 = cJ ∧ cy 2 = cZ ∧ cy 3 = cR := ⟨fun k => [cI, cJ, cZ, cR].getD k cI, rfl, rfl, rfl, rfl⟩
  have hK : va_K (dC, dI) vwCl (am_tys cy) s := by
    refine ⟨hKc, fun k q hq => ?_⟩
    match k, hq with
    | 0, hq => cases hq; rw [y0]; exact ⟨aI, fI⟩
    | 1, hq => cases hq; rw [y1]; exact ⟨aJ, fJ⟩
    | 2, hq => cases hq; rw [y2]; exact ⟨aZ, fZ⟩
    | 3, hq => cases hq; rw [y3]; exact ⟨aR, fR⟩
    | k + 4, hq => simp [am_tys] at hq
  have hKX : am_KX (dC, dI) cy s.heap.size b (xs, L) s := ⟨hK, fun q hq => va_Nw.of rfl (hts _ (am_nstF_in q hq)), fun q hq => va_Nw.of rfl (hts _ (am_nstM_in q hq)), va_AO.of (hts _ am_over_in), hX, hbl⟩
  have CX : am_CX E_L_law (dC, dI) cy s.heap.size b (xs, L) [] p room_1 s m #[Value.ref b] meth c := ⟨hx, hb, hml, hown, htG, hKX, rfl, (fun z => by exact absurd z (by decide)), (by decide), (by decide)⟩
  have hl := lv_entry ([.ref b]) (n := 4) (Nat.le_of_ble_eq_true rfl)
  rw [lg_entry_eq]
  generalize (lg_sl ([.ref b]) ++ List.replicate (4 - (lg_sl ([.ref b])).length) Slot.unset).toArray = lc at hl ⊢
  have RL : am_RL E_L_law (dC, dI) cy s.heap.size b (xs, L) [] s (am_loc E_L_law [.retAddr 0]) (am_h0 xs L) lc s.heap [] 0 0 := ⟨⟨[], rfl⟩, rfl, am_lv_entry (as := [.retAddr 0]) rfl hl _, rfl, fun k q hk => by simp [am_wl, am_h0] at hk, va_S.rf, rfl, rfl⟩
  refine am_snd n E_L_law (dC, dI) cy s.heap.size b (xs, L) [] p l e room_1 s m _ below meth c _ (some (.int 1)) h' CX (by show _ ≤ 0 + 600000; omega) (by show _ ≤ 0 + 7302250; omega) ?_ 0 _ [] _ lc s.heap [] 0 0 RL hrun
  intro pc ls lc H locs cells slots RL hret
  obtain ⟨hd, -⟩ := hret
  have q7 := RL.2.2.2.2.2.2.1
  have q8 := RL.2.2.2.2.2.2.2
  refine va_forget RL.2.2.2.2.2.1.2.2 ?_
  refine W.widen (k := 600000) (n := 7302250) (by simp at q7; omega) (by simp [am_sl] at q8 hslots; omega) ?_
  exact lw_ret hx hb hr hlocks hd
