/-! THE SOUNDNESS of the abstract machine -/
section AMC
variable {e e2 : am_E} {D : va_G} {cy : Nat → ClassId} {b b0 : Nat} {X : (Nat → Int32) × Nat} {K0 : List am_K} {p : Program} {l : Launch} {ev : Env} {R : Room} {s : State} {m : MethodId} {args : Array Value} {below : List Frame} {meth : Method} {c : Code} {Q : State → Prop}
variable {pc : Nat} {ls st : List Value} {h h2 : am_H} {lc : Array Slot} {H : Heap} {locs : List Loc} {cells slots mc ms : Nat}
theorem am_after {v2 : Option Value} {a : Array Value} {st0 rest : List Value} {pc2 : Nat} (hr : va_Run p l ev R s m args below meth c H locs cells slots mc ms (F0 m pc lc st0) rest (am_Qc D cy b h2 v2 a) (fun q => b ≤ q)) (hv : am_ret e2 pc2 v2) (hS : va_S (fun q => b ≤ q) s.heap H locs)
    (kk : ∀ (H1 : Heap) (locs1 : List Loc), va_P D vwCl (am_wl cy b h2) H1 → va_S (fun q => b ≤ q) s.heap H1 locs1 → W p l ev R s m args below meth c H1 locs1 (cells + mc) (slots + ms) Q (F0 m (pc + 3) lc (v2.toList ++ rest))) : W p l ev R s m args below meth c H locs cells slots Q (F0 m pc lc st0) := by
  match v2, hv with
  | some (.int x), _ => exact va_calli (a := a) hr hS (fun q _ h => h) (fun q h => h) (fun r u t H1 locs1 ht hvm hp hB hz hk hS => by
      cases hp
      have hB : va_P D vwCl (am_wl cy b h2) t.heap := hB
      rw [ht] at hB
      exact kk H1 locs1 hB hS)
  | some (.long x), _ => exact va_calll (a := a) hr hS (fun q _ h => h) (fun q h => h) (fun r u t H1 locs1 ht hvm hp hB hz hk hS => by
      cases hp
      have hB : va_P D vwCl (am_wl cy b h2) t.heap := hB
      rw [ht] at hB
      exact kk H1 locs1 hB hS)
  | none, _ => exact va_callv (a := a) hr hS (fun q _ h => h) (fun q h => h) (fun u t H1 locs1 ht hvm hp hB hz hk hS => by
      have hB : va_P D vwCl (am_wl cy b h2) t.heap := hB
      rw [ht] at hB
      exact kk H1 locs1 hB hS)
theorem am_catone : ∀ (r : List Value), r.all am_c1 = true → ((r.map (am_sh b b0)).map fun v => v.category).sum ≤ r.length
  | [], _ => by simp
  | v :: r, h => by
    have h := List.all_cons.symm.trans h
    rw [Bool.and_eq_true] at h
    have ih := am_catone r h.2
    have h1 : (am_sh b b0 v).category ≤ 1 := by
      rw [am_sh_cat]
      have h2 := h.1
      cases v <;> simp [Value.category, am_c1] at h2 ⊢
    simp only [List.map_cons, List.sum_cons, List.length_cons] at ih ⊢
    omega
theorem am_dp_room {n : Nat} {st : List Value} (h : am_dp n st = true) : (((st.drop n).map (am_sh b b0)).map fun v => v.category).sum ≤ 8 := by
  simp only [am_dp, Bool.or_eq_true, Bool.and_eq_true, decide_eq_true_eq] at h
  rcases h with h | ⟨h, h1⟩
  · have := am_catsum (b := b) (b0 := b0) (st.drop n)
    rw [List.length_drop] at this
    omega
  · have := am_catone (b := b) (b0 := b0) (st.drop n) h1
    rw [List.length_drop] at this
    omega
theorem am_gc {w : Cond} {ws : List Cond} (hw : w ∈ am_G) (h : GoodIn am_G ws) : GoodIn am_G (w :: ws) := fun x hx => (List.mem_cons.mp hx).elim (fun e => by subst e; exact am_G_good x hw) (h x)
set_option maxHeartbeats 2000000 in
theorem am_runs {v2 : Option Value} {i : Instr} {k kd : Nat} (CX : am_CX e D cy b b0 X K0 p R s m args meth c) (RL : am_RL e D cy b b0 X K0 s ls h lc H locs cells slots) (hsz : H.size = b + h.1.length) (hd : decode (am_code e) pc = .ok (i, 3)) (hl : am_mlk (am_ow e) k = some (kd, e2)) (hk : (i = .invokevirtual k ∧ kd = 1) ∨ (i = .invokestatic k ∧ (kd = 0 ∨ kd = 3)) ∨ (i = .invokespecial k ∧ (kd = 2 ∨ kd = 5))) (hok : am_cok e e2 kd st h = true)
    (hf : cells + (h2.1.length - h.1.length) ≤ R.cells ∧ slots + (am_sl h2.1 - am_sl h.1) ≤ R.slots)
    (hM : ∀ stn, am_eok stn e2 → Met l e2.1 (am_cw e2 :: am_G) (am_rm e2 h h2) (am_Pc D cy b b0 X (st.take (am_na e2)).reverse h) (am_Qc D cy b h2 v2) (h2.1.length - h.1.length) (am_sl h2.1 - am_sl h.1) (fun q => b ≤ q)) :
    va_Run p l ev R s m args below meth c H locs cells slots (h2.1.length - h.1.length) (am_sl h2.1 - am_sl h.1) (F0 m pc lc (st.map (am_sh b b0))) ((st.drop (am_na e2)).map (am_sh b b0)) (am_Qc D cy b h2 v2 (((st.take (am_na e2)).reverse.map (am_sh b b0)).toArray)) (fun q => b ≤ q) := by
  simp only [am_cok, Bool.and_eq_true, decide_eq_true_eq] at hok
  obtain ⟨⟨⟨⟨k1, k2⟩, k3⟩, k4⟩, k5⟩ := hok
  have hspl : st.map (am_sh b b0) = ((st.take (am_na e2)).reverse.map (am_sh b b0)).reverse ++ (st.drop (am_na e2)).map (am_sh b b0) := by
    rw [← List.map_reverse, List.reverse_reverse, ← List.map_append, List.take_append_drop]
  have hroom : (((st.drop (am_na e2)).map (am_sh b b0)).map fun v => v.category).sum ≤ 8 := by
    exact am_dp_room (b := b) (b0 := b0) k2
  have hlen : (st.take (am_na e2)).reverse.length = am_na e2 := by simp; omega
  generalize st.drop (am_na e2) = rest at hspl hroom ⊢
  generalize (st.take (am_na e2)).reverse = as at *
  have hPc : ∀ U : State, U.heap = H → s.WarmedH U.vm → am_Pc D cy b b0 X as h (as.map (am_sh b b0)).toArray U := fun U hU hW => by
    refine ⟨rfl, by rw [hU]; exact hsz, by rw [hU]; exact RL.2.2.2.2.1, CX.2.2.2.2.2.1.warm hW ?_⟩
    rw [hU]
    have hb0 := CX.2.2.2.2.2.1.2.2.2.2.2
    have hs0 := CX.2.2.2.2.2.2.1
    exact RL.2.2.2.2.2.1.2.1 b0 (by omega) (fun z => by have : b ≤ b0 := z; omega)
  have hbl := am_blind D cy b b0 X as h
  have hfr := CX.2.2.2.2.2.2.2.2.1
  have hlo := CX.2.2.2.2.2.2.2.2.2
  have hts := CX.2.2.2.2.1
  have hfix : CallFix p m c (am_code e) (am_ml e) s args am_G (am_nm (am_ow e)) := ⟨CX.1, CX.2.1, CX.2.2.1, CX.2.2.2.1, hts⟩
  have hlk := am_mlk_spec hl
  have hR : ∀ stn, am_eok stn e2 → (am_rm e2 h h2).frames + 1 ≤ R.frames ∧ 8 + (am_ml e2 + 11) + (am_rm e2 h h2).locals ≤ R.locals := fun stn hE => by
    have := hE.2.2.2.1.2.1
    refine ⟨?_, ?_⟩
    · show am_rk e2 + 1 ≤ _
      omega
    · show 8 + (am_ml e2 + 11) + 41 * am_rk e2 ≤ _
      omega
  rcases hk with ⟨rfl, rfl⟩ | ⟨rfl, rfl | rfl⟩ | ⟨rfl, rfl | rfl⟩
  · -- virtual
    obtain ⟨w1, hE, w2, w3, T, N, hvw⟩ := hlk
    obtain ⟨⟨n1, n2⟩, npl, npd, ⟨ns, -, -⟩, nnm, nin, ncw⟩ := id hE
    match as, k5 with
    | .ref a :: as', k5 =>
      have k5 : (am_kd h a).1 = am_ow e2 := by simpa [am_recv] using k5
      refine va_runV (C := e2.1.cls) (b := b + a) (As := as'.map (am_sh b b0)) (n := am_na e2 - 1) (bytes := am_code e2) (maxL := am_ml e2) (ret := am_rt e2) hfix (hM 1 hE) (cwV _ hts ?_ rfl rfl rfl ⟨rfl, n1, n2, npd⟩ (hR 1 hE)) ⟨hbl, va_recv CX.2.2.2.2.2.1.1 RL.2.2.2.2.1 hvw (am_wl_obj k5 (am_vw_lt hvw)), hPc⟩ rfl (by simp at hlen ⊢; omega) RL.2.2.1.1 (by rw [hspl]; simp [am_sh]) (lv_room hroom) hd hf
      exact am_gc w1 (am_gc w2 (am_gc w3 (am_gc nin (am_gc ncw am_G_good))))
  · -- static
    obtain ⟨w1, hE, w2⟩ := hlk
    obtain ⟨⟨n1, n2⟩, npl, npd, ⟨ns, -, -⟩, nnm, nin, ncw⟩ := id hE
    refine va_runS (As := as.map (am_sh b b0)) (n := am_na e2) (bytes := am_code e2) (maxL := am_ml e2) (ret := am_rt e2) hfix (hM 0 hE) (va_cwS _ hts ?_ rfl rfl rfl ⟨n1, n2, npd⟩ (hR 0 hE)) ⟨hbl, hPc⟩ rfl (by simp [hlen]) RL.2.2.1.1 hspl (lv_room hroom) hd hf
    exact am_gc w1 (am_gc w2 (am_gc nin (am_gc ncw am_G_good)))
  · -- static, of a nest mate
    obtain ⟨w1, hE, w2⟩ := hlk
    obtain ⟨⟨n1, n2⟩, npl, npd, ⟨ns, -, -⟩, nnm, nin, ncw⟩ := id hE
    exact va_runSN (As := as.map (am_sh b b0)) (n := am_na e2) (bytes := am_code e2) (maxL := am_ml e2) (ret := am_rt e2) hfix (hM 0 hE) ⟨va_cnB _ hts (am_gc ncw am_G_good) rfl rfl rfl (CX.2.2.2.2.2.1.2.2.1 _ w1) (hts _ nin) ⟨n1, n2, npd⟩ (hR 0 hE), hts _ w2, trivial⟩ ⟨hbl, hPc⟩ rfl (by simp [hlen]) RL.2.2.1.1 hspl (lv_room hroom) hd hf
  · -- special
    obtain ⟨w1, hE, w2, -, hini, hrt⟩ := hlk
    obtain ⟨⟨n1, n2⟩, npl, npd, ⟨ns, -, -⟩, nnm, nin, ncw⟩ := id hE
    match as, k5 with
    | .ref a :: as', k5 =>
      exact va_runI (b := b + a) (As := as'.map (am_sh b b0)) (n := am_na e2 - 1) (bytes := am_code e2) (maxL := am_ml e2) hfix (hM 1 hE) (cwI _ hts (am_gc ncw am_G_good) (by rw [am_cw, hrt]) rfl rfl (hts _ nin) (hts _ w1) (hts _ w2) hini ⟨n1, n2, npd⟩ (hR 1 hE)) ⟨hbl, hPc⟩ rfl (by simp at hlen ⊢; omega) RL.2.2.1.1 (by rw [hspl]; simp [am_sh]) (lv_room hroom) hd hf
  · -- special, of a nest mate
    obtain ⟨w1, hE, w2, -, hini, hrt⟩ := hlk
    obtain ⟨⟨n1, n2⟩, npl, npd, ⟨ns, -, -⟩, nnm, nin, ncw⟩ := id hE
    match as, k5 with
    | .ref a :: as', k5 =>
      exact va_runIN (b := b + a) (As := as'.map (am_sh b b0)) (n := am_na e2 - 1) (bytes := am_code e2) (maxL := am_ml e2) hfix (hM 1 hE) ⟨va_cnB _ hts (am_gc ncw am_G_good) (by rw [am_cw, hrt]) rfl rfl (CX.2.2.2.2.2.1.2.2.1 _ w1) (hts _ nin) ⟨n1, n2, npd⟩ (hR 1 hE), hini, hts _ w2⟩ ⟨hbl, hPc⟩ rfl (by simp at hlen ⊢; omega) RL.2.2.1.1 (by rw [hspl]; simp [am_sh]) (lv_room hroom) hd hf
end AMC
theorem am_lok_eok {o i kd : Nat} {e2 : am_E} (h : am_lok (o, i, kd, e2)) (hk : kd = 0 ∨ kd = 1 ∨ kd = 2 ∨ kd = 3 ∨ kd = 5) : ∃ stn, am_eok stn e2 := by
  rcases hk with rfl | rfl | rfl | rfl | rfl
  · exact ⟨0, h.2.1⟩
  · exact ⟨1, h.2.1⟩
  · exact ⟨1, h.2.1⟩
  · exact ⟨0, h.2.1⟩
  · exact ⟨1, h.2.1⟩
set_option maxHeartbeats 2000000 in
theorem am_snd : ∀ n, am_SND n
  | 0 => by
    intro e D cy b b0 X K0 p l ev R s m args below meth c Q v h' CX hc hsl hret pc ls st h lc H locs cells slots RL hr
    simp [am_run] at hr
  | n + 1 => by
    have IH := am_snd n
    have MT := am_met_of IH
    intro e D cy b b0 X K0 p l ev R s m args below meth c Q v h' CX hc hsl hret pc ls st h lc H locs cells slots RL hr
    rw [am_run] at hr
    split at hr
    · cases hr
    · next q hq =>
      unfold am_at at hq
      split at hq
      · next qq hd =>
        obtain ⟨⟨t, ht⟩, -⟩ := am_run_ext n hr
        have hc0 : q.2.2.2.1.length ≤ K0.length + R.cells := by
          rw [ht, List.length_append] at hc
          omega
        have hs0 : am_sl q.2.2.2.1 ≤ am_sl K0 + R.slots := by
          rw [ht, am_sl_app] at hsl
          omega
        exact am_step CX hd hq RL hc0 hs0 (fun lc H locs cells slots RL' => IH e D cy b b0 X K0 p l ev R s m args below meth c Q v h' CX hc hsl hret _ _ _ _ lc H locs cells slots RL' hr)
      · cases hq
    · next w hq =>
      cases hr
      unfold am_at at hq
      split at hq
      · next q hd =>
        have key : am_ret e pc v ∧ st = v.toList := by
          rcases am_stp_inr hq with ⟨x, h1, h2, h3, h4, h5⟩ | ⟨x, h1, h2, h3, h4, h5⟩ | ⟨h1, h2, h3, h4, h5⟩ | ⟨k, kd, e2, -, -, -, -, h5⟩
          · cases h5
            exact ⟨⟨by rw [hd, ← h1, ← h2], h4⟩, h3⟩
          · cases h5
            exact ⟨⟨by rw [hd, ← h1, ← h2], h4⟩, h3⟩
          · cases h5
            exact ⟨⟨by rw [hd, ← h1, ← h2], h4⟩, h3⟩
          · cases h5
        rw [key.2, am_ret_map key.1]
        exact hret pc ls lc H locs cells slots RL key.1
      · cases hq
    · next q hq =>
      split at hr
      · cases hr
      · next r hq2 =>
        obtain ⟨v2, h2⟩ := r
        unfold am_at at hq
        split at hq
        · next qq hd =>
          obtain ⟨i, len⟩ := qq
          rcases am_stp_inr hq with ⟨x, h1, _, h3, h4, h5⟩ | ⟨x, h1, _, h3, h4, h5⟩ | ⟨h1, _, h3, h4, h5⟩ | ⟨k, kd, e2, g1, g2, g3, g4, h5⟩
          · cases h5
          · cases h5
          · cases h5
          · cases h5
            simp only at g2 g3 hr hq2 hd
            subst g2
            have hx1 := am_run_ext n hq2
            have hx2 := am_run_ext n hr
            obtain ⟨⟨t1, ht1⟩, hX1⟩ := hx1
            obtain ⟨⟨t2, ht2⟩, -⟩ := hx2
            have r7 := RL.2.2.2.2.2.2.1
            have r8 := RL.2.2.2.2.2.2.2
            have l1 : h2.1.length = h.1.length + t1.length := by rw [ht1, List.length_append]
            have l2 : am_sl h2.1 = am_sl h.1 + am_sl t1 := by rw [ht1, am_sl_app]
            have l3 : h'.1.length = h2.1.length + t2.length := by rw [ht2, List.length_append]
            have l4 : am_sl h'.1 = am_sl h2.1 + am_sl t2 := by rw [ht2, am_sl_app]
            have hkd : kd = 0 ∨ kd = 1 ∨ kd = 2 ∨ kd = 3 ∨ kd = 5 := by
              rcases g3 with ⟨-, h⟩ | ⟨-, h | h⟩ | ⟨-, h | h⟩ <;> omega
            obtain ⟨stn, hE⟩ := am_lok_eok (am_mlk_spec g1) hkd
            have hok := g4
            simp only [am_cok, Bool.and_eq_true, decide_eq_true_eq] at hok
            have hal : (st.take (am_na e2)).reverse.length = am_na e2 := by simp; omega
            have hall : (st.take (am_na e2)).reverse.all am_c1 = true := by
              rw [List.all_reverse]
              exact hok.1.2
            obtain ⟨-, pc2, hv2⟩ := MT e2 stn l D cy b b0 X _ h h2 v2 hE hal hall RL.2.1 hq2
            refine am_W_sz (fun hz => ?_)
            refine am_after (am_runs CX RL (RL.size CX hz) hd g1 g3 g4 ⟨by omega, by omega⟩ (fun stn hE => (MT e2 stn l D cy b b0 X _ h h2 v2 hE hal hall RL.2.1 hq2).1)) hv2 RL.2.2.2.2.2.1 (fun H1 locs1 hP hS => ?_)
            have RL2 : am_RL e D cy b b0 X K0 s ls h2 lc H1 locs1 (cells + (h2.1.length - h.1.length)) (slots + (am_sl h2.1 - am_sl h.1)) := by
              obtain ⟨⟨t, r1⟩, r2, r3, r4, -⟩ := RL
              exact ⟨⟨t ++ t1, by rw [ht1, r1, List.append_assoc]⟩, hX1.trans r2, r3, r4, hP, hS, by omega, by omega⟩
            have := IH e D cy b b0 X K0 p l ev R s m args below meth c Q v h' CX hc hsl hret _ _ _ _ lc H1 locs1 _ _ RL2 hr
            rw [List.map_append, am_ret_map hv2] at this
            exact this
        · cases hq
