/-! a run of the abstract machine is a run of the machine: methods by contract -/
/-- what a method's end says -/
def am_Qc (D : va_G) (cy : Nat → ClassId) (b : Nat) (h' : am_H) (v : Option Value) : Array Value → State → Outcome → State → Prop := match v with
  | some (.int x) => va_Qi (fun r (_ : Unit) => r = x) (fun _ t => va_P D vwCl (am_wl cy b h') t.heap) (fun q => b ≤ q)
  | some (.long x) => va_Ql (fun r (_ : Unit) => r = x) (fun _ t => va_P D vwCl (am_wl cy b h') t.heap) (fun q => b ≤ q)
  | none => va_Qv (fun (_ : Unit) => True) (fun _ t => va_P D vwCl (am_wl cy b h') t.heap) (fun q => b ≤ q)
  | _ => fun _ _ _ _ => False
def am_Pc (D : va_G) (cy : Nat → ClassId) (b b0 : Nat) (X : (Nat → Int32) × Nat) (as : List Value) (h : am_H) : Array Value → State → Prop := va_Pc (as.map (am_sh b b0)) (fun U => U.heap.size = b + h.1.length ∧ va_P D vwCl (am_wl cy b h) U.heap ∧ am_KX D cy b b0 X U)
def am_rm (e : am_E) (h h' : am_H) : Room := { frames := am_rk e, cells := h'.1.length - h.1.length, slots := am_sl h'.1 - am_sl h.1, locals := 41 * am_rk e }
/-- where a method returns, and with what -/
def am_ret (e : am_E) (pc : Nat) : Option Value → Prop
  | some (.int x) => decode (am_code e) pc = .ok (.ireturn, 1) ∧ (am_rt e = some .int ∨ (am_rt e = some .boolean ∧ (x = 0 ∨ x = 1)))
  | some (.long _) => decode (am_code e) pc = .ok (.lreturn, 1) ∧ am_rt e = some .long
  | none => decode (am_code e) pc = .ok (.return_, 1) ∧ am_rt e = none
  | _ => False
/-- a method by its contract -/
def am_MET (n : Nat) : Prop := ∀ (e : am_E) (st : Nat) (l : Launch) (D : va_G) (cy : Nat → ClassId) (b b0 : Nat) (X : (Nat → Int32) × Nat) (as : List Value) (h h' : am_H) (v : Option Value), am_eok st e → as.length = am_na e → as.all am_c1 = true → h.2.2.2.2 = X → am_run n e 0 (am_loc e as) [] h = some (v, h') →
  Met l e.1 (am_cw e :: am_G) (am_rm e h h') (am_Pc D cy b b0 X as h) (am_Qc D cy b h' v) (h'.1.length - h.1.length) (am_sl h'.1 - am_sl h.1) (fun q => b ≤ q) ∧ (∃ pc, am_ret e pc v)
/-- a walk from any place of a method -/
def am_SND (n : Nat) : Prop := ∀ (e : am_E) (D : va_G) (cy : Nat → ClassId) (b b0 : Nat) (X : (Nat → Int32) × Nat) (K0 : List am_K) (p : Program) (l : Launch) (ev : Env) (R : Room) (s : State) (m : MethodId) (args : Array Value) (below : List Frame) (meth : Method) (c : Code) (Q : State → Prop) (v : Option Value) (h' : am_H), am_CX e D cy b b0 X K0 p R s m args meth c → h'.1.length ≤ K0.length + R.cells → am_sl h'.1 ≤ am_sl K0 + R.slots →
  (∀ (pc : Nat) (ls : List Value) (lc : Array Slot) (H : Heap) (locs : List Loc) (cells slots : Nat), am_RL e D cy b b0 X K0 s ls h' lc H locs cells slots → am_ret e pc v → W p l ev R s m args below meth c H locs cells slots Q (F0 m pc lc v.toList)) →
  ∀ (pc : Nat) (ls st : List Value) (h : am_H) (lc : Array Slot) (H : Heap) (locs : List Loc) (cells slots : Nat), am_RL e D cy b b0 X K0 s ls h lc H locs cells slots → am_run n e pc ls st h = some (v, h') → W p l ev R s m args below meth c H locs cells slots Q (F0 m pc lc (st.map (am_sh b b0)))
theorem am_ret_map {e : am_E} {pc : Nat} {v : Option Value} (h : am_ret e pc v) (b b0 : Nat) : v.toList.map (am_sh b b0) = v.toList := by
  match v, h with
  | none, _ => rfl
  | some (.int x), _ => rfl
  | some (.long x), _ => rfl
/-- every run ends at a return -/
theorem am_run_ret : ∀ (n : Nat) {e : am_E} {pc : Nat} {ls st : List Value} {h h' : am_H} {v : Option Value}, am_run n e pc ls st h = some (v, h') → ∃ pc', am_ret e pc' v
  | 0, e, pc, ls, st, h, h', v, hr => by simp [am_run] at hr
  | n + 1, e, pc, ls, st, h, h', v, hr => by
    rw [am_run] at hr
    split at hr
    · cases hr
    · exact am_run_ret n hr
    · next w hq =>
      cases hr
      unfold am_at at hq
      split at hq
      · next q hd =>
        rcases am_stp_inr hq with ⟨x, h1, h2, h3, h4, h5⟩ | ⟨x, h1, h2, h3, h4, h5⟩ | ⟨h1, h2, h3, h4, h5⟩ | ⟨k, kd, e2, -, -, -, -, h5⟩
        · cases h5
          exact ⟨pc, by rw [hd, ← h1, ← h2], h4⟩
        · cases h5
          exact ⟨pc, by rw [hd, ← h1, ← h2], h4⟩
        · cases h5
          exact ⟨pc, by rw [hd, ← h1, ← h2], h4⟩
        · cases h5
      · cases hq
    · split at hr
      · cases hr
      · exact am_run_ret n hr
theorem am_lg_len {as : List Value} {b b0 : Nat} (hc : as.all am_c1 = true) : (lg_sl (as.map (am_sh b b0))).length = as.length := by
  induction as with
  | nil => rfl
  | cons v as ih =>
    simp only [List.all_cons, Bool.and_eq_true] at hc
    have h1 : (am_sh b b0 v).category = 1 := by rw [am_sh_cat]; exact am_c1_cat hc.1
    have := ih hc.2
    simp only [lg_sl, List.map_cons, List.flatMap_cons, List.length_append, List.length_cons] at this ⊢
    rw [this, if_neg (by rw [h1]; decide)]
    simp
    omega
theorem am_blind (D : va_G) (cy : Nat → ClassId) (b b0 : Nat) (X : (Nat → Int32) × Nat) (as : List Value) (h : am_H) : FrameBlind (am_Pc D cy b b0 X as h) := fun a U g mk q => by
  obtain ⟨q0, q1, q2, q3⟩ := q
  exact ⟨q0, q1, q2, am_KX.same (U := U.calling g mk a) q3 rfl rfl⟩
set_option maxHeartbeats 2000000 in
theorem am_met_of {n : Nat} (S : am_SND n) : am_MET n := by
  intro e st l D cy b b0 X as h h' v hE hl hc1 hX hr
  have hret := am_run_ret n hr
  refine ⟨?_, hret⟩
  obtain ⟨hn, hpl, hpd, ⟨hst, hml22, hna⟩, hnm, hini, hcw⟩ := hE
  have hext := am_run_ext n hr
  obtain ⟨⟨t, ht⟩, -⟩ := hext
  have hle : h.1.length ≤ h'.1.length := by rw [ht, List.length_append]; omega
  have hsle : am_sl h.1 ≤ am_sl h'.1 := by rw [ht, am_sl_app]; omega
  refine Met.ofW (cc := am_code e) (maxL := am_ml e) (ret := am_rt e) hpl rfl ?_
  intro p ev s m args below meth c s₁ B hml hv
  obtain ⟨rfl, hsz, hP, hKX⟩ := hv
  have hts := atoms_spec (ws := am_cw e :: am_G) B.pre
  have hown : s.vm.findClass (am_nm (am_ow e)) = some m.cls := by rw [hnm]; exact findClass_of_methodNamed B.named
  have hlocks := B.notSynchronized
  have CX : am_CX e D cy b b0 X h.1 p (am_rm e h h') s m ((as.map (am_sh b b0)).toArray) meth c := ⟨B.exec, B.bytes, hml, hown, fun w hw => hts w (List.mem_cons_of_mem _ hw), hKX, hsz, fun z => (name_of_methodNamed B.named B.method).1.trans z, Nat.le_refl _, Nat.le_refl _⟩
  have hle2 := am_lg_len (b := b) (b0 := b0) hc1
  have hlv := lv_entry (as.map (am_sh b b0)) (n := am_ml e) (by rw [hle2, hl]; exact hna)
  rw [lg_entry_eq]
  generalize (lg_sl (as.map (am_sh b b0)) ++ List.replicate (am_ml e - (lg_sl (as.map (am_sh b b0))).length) Slot.unset).toArray = lc at hlv ⊢
  have RL : am_RL e D cy b b0 X h.1 s (am_loc e as) h lc s.heap [] 0 0 := ⟨⟨[], (List.append_nil _).symm⟩, hX, am_lv_entry hc1 hlv _, by simp [am_loc]; omega, hP, va_S.rf, rfl, rfl⟩
  refine S e D cy b b0 X h.1 p l ev (am_rm e h h') s m _ below meth c _ v h' CX (by show _ ≤ _ + (h'.1.length - h.1.length); omega) (by show _ ≤ _ + (am_sl h'.1 - am_sl h.1); omega) ?_ 0 (am_loc e as) [] h lc s.heap [] 0 0 RL hr
  intro pc ls lc H locs cells slots RL hret
  obtain ⟨-, -, -, -, qP, qS, q7, q8⟩ := RL
  have e1 : h'.1.length - h.1.length = cells := by omega
  have e2 : am_sl h'.1 - am_sl h.1 = slots := by omega
  rw [e1, e2]
  match v, hret with
  | some (.int x), ⟨hd, hrt⟩ =>
    rcases hrt with hrt | ⟨hrt, hx⟩
    · exact W.iret B.exec B.bytes (B.returns.trans hrt) (fun t ht hw => ⟨⟨x, (), rfl, rfl, by show va_P _ _ _ t.heap; rw [ht]; exact qP⟩, qS.F ht⟩) qS.2.2 hd
    · exact W.zret (ty := .boolean) B.exec B.bytes (B.returns.trans hrt) (by rcases hx with rfl | rfl <;> rfl) (fun t ht hw => ⟨⟨x, (), rfl, rfl, by show va_P _ _ _ t.heap; rw [ht]; exact qP⟩, qS.F ht⟩) qS.2.2 hd
  | some (.long x), ⟨hd, hrt⟩ => exact W.lret B.exec B.bytes (B.returns.trans hrt) (fun t ht hw => ⟨⟨x, (), rfl, rfl, by show va_P _ _ _ t.heap; rw [ht]; exact qP⟩, qS.F ht⟩) qS.2.2 hd
  | none, ⟨hd, hrt⟩ => exact W.vret B.exec B.bytes (B.returns.trans hrt) (fun t ht hw => ⟨⟨(), rfl, trivial, by show va_P _ _ _ t.heap; rw [ht]; exact qP⟩, qS.F ht⟩) qS.2.2 hd
