/-! what is sought is the same -/
theorem vP_t {t : Int32} {so : Nat → Int32} {p x : Nat} (hx : x < 8) (h : vP t so p x = true) : bt t x = true := by
  unfold vP sp_ios at h
  rw [Bool.and_eq_true, sp_has_in hx, bt_sp (by omega)] at h
  exact h.1
theorem wset_sub {t : Int32} {so : Nat → Int32} {n : Nat} {w : Nat → Nat} (h : rowOK t so n w) (c : Nat) (hc : ∀ j, j < n → dgR n c j = w j) : wset (nR w) n = wset (nR (dgR n c)) n ∧ ∀ k, k < 8 → bt (wset (nR (dgR n c)) n) k = true → bt t k = true := by
  refine ⟨wset_c (fun j hj => by rw [nR_k, nR_k, hc j hj]), fun k hk hb => ?_⟩
  rw [bt_wset _ (fun p => by have := dgR_lt n c p; omega) (by omega), sp_any_iff] at hb
  obtain ⟨p, hp, hpk⟩ := hb
  have hpk : dgR n c p = k := by simpa using hpk
  obtain ⟨h1, h2⟩ := h p hp
  rw [hc p hp] at hpk
  rw [← hpk]
  exact vP_t h1 h2
/-- the class's republic, as rows -/
def cst (I : Nat → Nat → Int32) (t : Int32) (so me rh re ho fa : Nat → Nat) : Prop := I 3 0 = t ∧ I 4 = nR so ∧ I 5 = nR me ∧ I 6 = nR rh ∧ I 7 = nR re ∧ I 8 = nR ho ∧ I 10 = nR fa
theorem ncost_eq {I : Nat → Nat → Int32} {t : Int32} {so me rh re ho fa : Nat → Nat} (hC : cst I t so me rh re ho fa) (hB : bnd me rh re ho fa) (n sp : Nat) (hsp : sp ≤ 4) (w : Nat → Nat) (hw : rowOK t (nR so) n w) (c : Nat) (hc : ∀ j, j < n → dgR n c j = w j) : ncost I rh n (nI sp) w = nI (prR re ho rh sp n c) := by
  obtain ⟨g0, g1, g2, g3, g4, g5, g6⟩ := hC
  obtain ⟨b1, b2, b3, b4, b5⟩ := hB
  obtain ⟨s1, s2⟩ := wset_sub hw c hc
  unfold ncost
  rw [s1, g4, g5]
  refine pdc_prc _ _ _ _ rh re ho 4 b3 b1 b2 ?_ (fun k hk => ?_) (Or.inl ⟨rfl, rfl⟩)
  · exact sub8_dear I (nI sp) _
  · exact sub_dw I _ re ho b1 b2 g4 g5 sp hsp (fun k hk h => by rw [g0]; exact s2 k hk h) k hk
theorem naway_eq {I : Nat → Nat → Int32} {t : Int32} {so me rh re ho fa : Nat → Nat} (hC : cst I t so me rh re ho fa) (hB : bnd me rh re ho fa) (sg : Nat → Nat) (h2 : I 2 = nR sg) (n : Nat) (hsg : ∀ k, k < n → 97 ≤ sg k ∧ sg k < 105 ∧ bt t (sg k - 97) = true) (w : Nat → Nat) (hw : rowOK t (nR so) n w) (c : Nat) (hc : ∀ j, j < n → dgR n c j = w j) : naway I n w = nI (offN fa me (fun k => sg k - 97) (dgR n c) n) := by
  obtain ⟨g0, g1, g2, g3, g4, g5, g6⟩ := hC
  obtain ⟨b1, b2, b3, b4, b5⟩ := hB
  unfold naway
  rw [g0, g2, g6, h2]
  have key : ∀ k, k ≤ n → sp_dist t (nR me) (nR fa) (nR sg) (nR w) k = nI (offN fa me (fun k => sg k - 97) (dgR n c) k) := by
    intro k
    induction k with
    | zero => intro _; rfl
    | succ k ih =>
      intro hk
      obtain ⟨s1, s2, s3⟩ := hsg k (by omega)
      obtain ⟨w1, w2⟩ := hw k (by omega)
      have w3 := vP_t w1 w2
      have e1 : sp_has t (nI (sg k - 97)) = true := by rw [sp_has_in (by omega), bt_sp (by omega)]; exact s3
      have e2 : sp_has t (nI (w k)) = true := by rw [sp_has_in w1, bt_sp (by omega)]; exact w3
      have m1 := b4 (sg k - 97)
      have m2 := b4 (w k)
      rw [sp_dist, offN, ih (by omega), nR_k, nR_k, nI_sub s1, sp_bw, e1, e2]
      simp only [Bool.and_self, if_true]
      rw [nI_clamp (by omega), nI_clamp (by omega), nR_k, nR_k, btw_nat m1 m2, nI_add, hc k (by omega), show me (sg k - 97) * 5 + me (w k) = 5 * me (sg k - 97) + me (w k) by omega]
  exact key n (Nat.le_refl _)
theorem mnF_fd (vl : Nat → Bool) (off pr : Nat → Nat) (sl : Nat) (hp : ∀ c, pr c ≤ 792) (c0 : Nat) (h1 : vl c0 = true) (h2 : off c0 ≤ sl) : ∀ c, c0 < c → (mnF vl off pr sl c).1 ≤ 792
  | 0, h => absurd h (by omega)
  | c + 1, h => by
    have hpc := hp c
    rw [mnF, mnB]
    by_cases e : c0 = c
    · subst e
      rw [if_pos ⟨h1, h2⟩]
      split
      · exact hpc
      · omega
    · have ih := mnF_fd vl off pr sl hp c0 h1 h2 c (by omega)
      split
      · split
        · exact hpc
        · exact ih
      · exact ih
/-- NEARLY is the same -/
theorem near_same {I : Nat → Nat → Int32} {t : Int32} {so me rh re ho fa : Nat → Nat} (hC : cst I t so me rh re ho fa) (hB : bnd me rh re ho fa) (sg : Nat → Nat) (h2 : I 2 = nR sg) (n : Nat) (hn : n = 3 ∨ n = 5) (hsg : ∀ k, k < n → 97 ≤ sg k ∧ sg k < 105 ∧ bt t (sg k - 97) = true) (sp sl : Nat) (hsp : sp ≤ 4) (hsl : sl ≤ 36) (w0 : Nat → Nat) (hV : wfok t (nR so) n) (F : Nat × Nat) (hF : mnF (vldR t (nR so) n) (fun code => offN fa me (fun k => sg k - 97) (dgR n code) n) (prR re ho rh sp n) sl (cdN n) = F) (hfd : F.1 ≤ 792) : ∃ u, wit (wf (I 3 0) (I 4)) n (nB (ncost I rh n (nI sp)) (naway I n) (nI sl)) 32768 true (wstart (wf (I 3 0) (I 4)) w0 n) none = some (nI F.1, nI (offN fa me (fun k => sg k - 97) (dgR n F.2) n), u) ∧ ∀ j, j < n → u j = dgR n F.2 j := by
  have hC2 := hC
  obtain ⟨g0, g1, -⟩ := hC2
  rw [g0, g1]
  have hpr := prR_le re ho rh hB.1 sp n
  have h := wit_all t (nR so) n hn w0 (nB (ncost I rh n (nI sp)) (naway I n) (nI sl)) (fun c b => if offN fa me (fun k => sg k - 97) (dgR n c) n ≤ sl then (if prR re ho rh sp n c < b.1 then (prR re ho rh sp n c, c) else b) else b) (fun a b => (a = none ∧ b.1 = 1000000) ∨ ∃ u, a = some (nI b.1, nI (offN fa me (fun k => sg k - 97) (dgR n b.2) n), u) ∧ (∀ j, j < n → u j = dgR n b.2 j) ∧ b.1 ≤ 792) none (1000000, 0) (Or.inl ⟨rfl, rfl⟩) (by
    intro w a b hw hd hlt hvl hr
    have e1 := ncost_eq hC hB n sp hsp w hw (cdn n w) hd
    have e2 := naway_eq hC hB sg h2 n hsg w hw (cdn n w) hd
    have o1 := offN_le fa me (fun k => sg k - 97) (dgR n (cdn n w)) hB.2.2.2.2 n
    have p1 := hpr (cdn n w)
    unfold nB
    rw [e1, e2]
    simp only [am_nlt sl _ (by omega) (by omega : offN fa me (fun k => sg k - 97) (dgR n (cdn n w)) n < 2147483648)]
    by_cases c1 : offN fa me (fun k => sg k - 97) (dgR n (cdn n w)) n ≤ sl
    · rw [if_neg (by omega), if_pos c1]
      rcases hr with ⟨rfl, hb⟩ | ⟨u, rfl, hu, hb⟩
      · rw [if_pos (by omega)]
        exact Or.inr ⟨w, rfl, fun j hj => (hd j hj).symm, p1⟩
      · simp only [am_nle b.1 _ (by omega) (by omega : prR re ho rh sp n (cdn n w) < 2147483648)]
        by_cases c2 : prR re ho rh sp n (cdn n w) < b.1
        · rw [if_pos c2, if_neg (by omega)]
          exact Or.inr ⟨w, rfl, fun j hj => (hd j hj).symm, p1⟩
        · rw [if_neg c2, if_pos (by omega)]
          exact Or.inr ⟨u, rfl, hu, hb⟩
    · rw [if_pos (by omega), if_neg c1]
      exact hr)
  have hfw := cfr2_fwd (vldR t (nR so) n) (fun c (b : Nat × Nat) => if offN fa me (fun k => sg k - 97) (dgR n c) n ≤ sl then (if prR re ho rh sp n c < b.1 then (prR re ho rh sp n c, c) else b) else b) (mnF (vldR t (nR so) n) (fun code => offN fa me (fun k => sg k - 97) (dgR n code) n) (prR re ho rh sp n) sl) (fun c => by
    rw [mnF, mnB]
    by_cases c1 : vldR t (nR so) n c = true
    · by_cases c2 : offN fa me (fun k => sg k - 97) (dgR n c) n ≤ sl
      · rw [if_pos ⟨c1, c2⟩, if_pos c1, if_pos c2]
      · rw [if_neg (fun h => c2 h.2), if_pos c1, if_neg c2]
    · rw [if_neg (fun h => c1 h.1), if_neg c1]) (cdN n) 0
  rw [Nat.zero_add, hF] at hfw
  rw [wsn_ok hV, show decide (n = n) = true by simp, show ((1000000, 0) : Nat × Nat) = mnF (vldR t (nR so) n) (fun code => offN fa me (fun k => sg k - 97) (dgR n code) n) (prR re ho rh sp n) sl 0 from rfl, hfw] at h
  rcases h with ⟨-, hb⟩ | ⟨u, h1, h3, -⟩
  · omega
  · exact ⟨u, h1, h3⟩
/-- SAID is the same, for one length -/
def sdR (q : Nat) (a : Nat × Option (Nat × (Nat → Nat))) (b : Nat × Nat × Int32) : Prop := a.1 = b.1 ∧ (a.1 = 0 → a.2 = none) ∧ (0 < a.1 → a.2 ≠ none) ∧ (2 ≤ q → cword a.2 (q - 2) = b.2.2)
theorem said_one {I : Nat → Nat → Int32} {t : Int32} {so me rh re ho fa : Nat → Nat} (hC : cst I t so me rh re ho fa) (hB : bnd me rh re ho fa) (n : Nat) (hn : n = 3 ∨ n = 5) (sp pe q : Nat) (hsp : sp ≤ 4) (hpe : pe ≤ 999) (w0 : Nat → Nat) (a : Nat × Option (Nat × (Nat → Nat))) (b : Nat × Nat × Int32) (hr : sdR q a b) : sdR q (wit (wf (I 3 0) (I 4)) n (cB n (fun w => decide (ncost I rh n (nI sp) w ≤ nI pe))) 32768 (decide (wsn (wf (I 3 0) (I 4)) n = n)) (wstart (wf (I 3 0) (I 4)) w0 n) a) (msF (vldR t (nR so) n) (prR re ho rh sp n) pe q n b (cdN n)) ∧ (msF (vldR t (nR so) n) (prR re ho rh sp n) pe q n b (cdN n)).2.1 + (if n = 5 then b.1 else 0) = b.2.1 + (if n = 5 then (msF (vldR t (nR so) n) (prR re ho rh sp n) pe q n b (cdN n)).1 else 0) := by
  have hC2 := hC
  obtain ⟨g0, g1, -⟩ := hC2
  rw [g0, g1]
  have hpr := prR_le re ho rh hB.1 sp n
  have h := wit_all t (nR so) n hn w0 (cB n (fun w => decide (ncost I rh n (nI sp) w ≤ nI pe))) (fun c b => if prR re ho rh sp n c ≤ pe then (b.1 + 1, b.2.1 + (if n = 5 then 1 else 0), if b.1 = 0 ∧ 2 ≤ q ∧ q ≤ 1 + n then nI (dgR n c (q - 2)) else b.2.2) else b) (sdR q) a b hr (by
    intro w a b hw hd hlt hvl hr
    have e1 := ncost_eq hC hB n sp hsp w hw (cdn n w) hd
    have p1 := hpr (cdn n w)
    unfold cB
    simp only [e1, am_nle _ pe (by omega : prR re ho rh sp n (cdn n w) < 2147483648) (by omega), decide_eq_true_eq]
    obtain ⟨r1, r2, r3, r4⟩ := hr
    by_cases c1 : prR re ho rh sp n (cdn n w) ≤ pe
    · rw [if_pos c1, if_pos c1]
      refine ⟨by show a.1 + 1 = b.1 + 1; omega, fun h => by simp at h, fun _ => ?_, fun hq => ?_⟩
      · show cF n w a.2 ≠ none
        cases a.2 <;> simp [cF]
      · show cword (cF n w a.2) (q - 2) = if b.1 = 0 ∧ 2 ≤ q ∧ q ≤ 1 + n then nI (dgR n (cdn n w) (q - 2)) else b.2.2
        by_cases c2 : a.1 = 0
        · have r5 := r4 hq
          rw [r2 c2] at r5 ⊢
          by_cases c3 : q ≤ 1 + n
          · rw [if_pos ⟨by omega, hq, c3⟩]
            show (if q - 2 < n then nI (w (q - 2)) else -6) = _
            rw [if_pos (by omega), hd _ (by omega)]
          · rw [if_neg (fun h => c3 h.2.2), ← r5]
            show (if q - 2 < n then nI (w (q - 2)) else -6) = -6
            rw [if_neg (by omega)]
        · rw [if_neg (fun h => c2 (by omega)), ← r4 hq]
          have := r3 (by omega)
          cases hz : a.2 with
          | none => exact absurd hz this
          | some z => rfl
    · rw [if_neg c1, if_neg c1]
      exact ⟨r1, r2, r3, r4⟩)
  have hfw := cfr2_fwd (vldR t (nR so) n) (fun c (b : Nat × Nat × Int32) => if prR re ho rh sp n c ≤ pe then (b.1 + 1, b.2.1 + (if n = 5 then 1 else 0), if b.1 = 0 ∧ 2 ≤ q ∧ q ≤ 1 + n then nI (dgR n c (q - 2)) else b.2.2) else b) (msF (vldR t (nR so) n) (prR re ho rh sp n) pe q n b) (fun c => by
    rw [msF, msB]
    by_cases c1 : vldR t (nR so) n c = true
    · by_cases c2 : prR re ho rh sp n c ≤ pe
      · rw [if_pos ⟨c1, c2⟩, if_pos c1, if_pos c2]
      · rw [if_neg (fun h => c2 h.2), if_pos c1, if_neg c2]
    · rw [if_neg (fun h => c1 h.1), if_neg c1]) (cdN n) 0
  rw [Nat.zero_add] at hfw
  have hb0 : msF (vldR t (nR so) n) (prR re ho rh sp n) pe q n b 0 = b := rfl
  rw [hb0] at hfw
  rw [hfw] at h
  refine ⟨h, ?_⟩
  have key : ∀ c, (msF (vldR t (nR so) n) (prR re ho rh sp n) pe q n b c).2.1 + (if n = 5 then b.1 else 0) = b.2.1 + (if n = 5 then (msF (vldR t (nR so) n) (prR re ho rh sp n) pe q n b c).1 else 0) := by
    intro c
    induction c with
    | zero => rfl
    | succ c ih =>
      rw [msF, msB]
      split
      · show _ + (if n = 5 then 1 else 0) + _ = b.2.1 + (if n = 5 then _ + 1 else 0)
        split <;> simp_all <;> omega
      · exact ih
  exact key (cdN n)
