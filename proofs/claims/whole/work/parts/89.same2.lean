/-! who spoke, misprints: the same -/
theorem cM_bt (set : Int32) (re ho : Nat → Nat) (sp : Nat) {i : Nat} (hi : i < 32) : ∀ m, m ≤ 8 → bt (cM set re ho sp m) i = (bt set i && (decide (m ≤ i) || csN re ho sp i))
  | 0, _ => by rw [cM]; simp
  | m + 1, hm => by
    have ih := cM_bt set re ho sp hi m (by omega)
    have ihm := cM_bt set re ho sp (i := m) (by omega) m (by omega)
    rw [cM, b_and, ih]
    by_cases e : i = m
    · subst e
      simp only [Nat.le_refl, decide_true, Bool.true_or, Bool.and_true] at ihm
      rw [ihm]
      have h1 : decide (i + 1 ≤ i) = false := by simp
      by_cases c : bt set i = true ∧ csN re ho sp i = true
      · rw [if_pos c, b_m1 i hi, h1, c.1, c.2]; simp
      · rw [if_neg c, bt_not hi, bt_one hi hi, h1]
        cases h2 : bt set i <;> cases h3 : csN re ho sp i <;> simp_all
    · have hle : decide (m ≤ i) = decide (m + 1 ≤ i) := by
        by_cases h : m ≤ i
        · simp [h]; omega
        · simp [h]; omega
      have hone : bt (if bt (cM set re ho sp m) m = true ∧ csN re ho sp m = true then -1 else (nI 1 <<< (nI m &&& 31)) ^^^ (-1)) i = true := by
        split
        · exact b_m1 i hi
        · rw [bt_not hi, bt_one hi (by omega)]; simp [e]
      rw [hone, Bool.and_true, hle]
theorem cM_dear {I : Nat → Nat → Int32} (set : Int32) (re ho : Nat → Nat) (hre : ∀ k, re k ≤ 99) (hho : ∀ k, ho k ≤ 4) (h7 : I 7 = nR re) (h8 : I 8 = nR ho) (f : Nat) (hf : f ≤ 4) (hst : ∀ k, k < 8 → bt set k = true → bt (I 3 0) k = true) (hbig : ∀ k, 8 ≤ k → k < 32 → bt set k = false) : cM set re ho f 8 = set &&& dear I (nI f) := by
  apply b_ext
  intro i hi
  rw [cM_bt set re ho f hi 8 (by omega), b_and]
  by_cases h8' : i < 8
  · have h := sub_dw I set re ho hre hho h7 h8 f hf hst i h8'
    rw [bt_sp (by omega), b_and] at h
    rw [h, osp, show decide (8 ≤ i) = false by simp; omega, Bool.false_or]
  · rw [hbig i (by omega) hi]; simp
theorem cM_cost (t set : Int32) (re ho : Nat → Nat) (hre : ∀ k, re k ≤ 99) (hho : ∀ k, ho k ≤ 4) (f : Nat) (hf : f ≤ 4) (hst : ∀ k, k < 8 → bt set k = true → bt t k = true) (hbig : ∀ k, 8 ≤ k → k < 32 → bt set k = false) : cM set re ho f 8 = sp_cost t (nR re) (nR ho) set (nI f) 8 := by
  apply b_ext
  intro i hi
  rw [cM_bt set re ho f hi 8 (by omega)]
  by_cases h8' : i < 8
  · have h := sub_ow t set re ho hre hho f hf hst i h8'
    rw [bt_sp (by omega)] at h
    rw [h, osp, show decide (8 ≤ i) = false by simp; omega, Bool.false_or]
  · rw [hbig i (by omega) hi, bt_cost _ _ _ _ _ hi 8 (by omega)]; simp [h8']
theorem wset_big (d : Nat → Nat) (hd : ∀ p, d p < 8) (n k : Nat) (h8 : 8 ≤ k) (hk : k < 32) : bt (wset (nR d) n) k = false := by
  rw [bt_wset d (fun p => by have := hd p; omega) hk]
  cases h : sp_any (fun p => decide (d p = k)) n
  · rfl
  · obtain ⟨p, -, hp⟩ := (sp_any_iff _ _).mp h
    have : d p = k := by simpa using hp
    have := hd p
    omega
/-- SPOKE is the same -/
theorem spoke_same {I : Nat → Nat → Int32} {t : Int32} {so me rh re ho fa : Nat → Nat} (hC : cst I t so me rh re ho fa) (hB : bnd me rh re ho fa) (f q : Nat) (hf : f ≤ 4) (hq : q ≤ 3) (z : Int32) (w0 : Nat → Nat) (A : Nat × Option (Nat × (Nat → Nat))) (hA : wit (wf (I 3 0) (I 4)) 3 (cB 3 (fun w => decide (wset (nR w) 3 &&& dear I (nI f) = z))) 32768 (decide (wsn (wf (I 3 0) (I 4)) 3 = 3)) (wstart (wf (I 3 0) (I 4)) w0 3) (0, none) = A) (b : Nat × Int32) (hb : skF (vldR t (nR so) 3) (fun c => decide (cM (wset (nR (dgR 3 c)) 3) re ho f 8 = z)) q 512 = b) : A.1 = b.1 ∧ (0 < q → cword A.2 (q - 1) = b.2) := by
  have hC2 := hC
  obtain ⟨g0, g1, g2, g3, g4, g5, g6⟩ := hC2
  rw [g0, g1] at hA
  have h := wit_all t (nR so) 3 (Or.inl rfl) w0 (cB 3 (fun w => decide (wset (nR w) 3 &&& dear I (nI f) = z))) (fun c (b : Nat × Int32) => if cM (wset (nR (dgR 3 c)) 3) re ho f 8 = z then (b.1 + 1, if b.1 = 0 ∧ 0 < q then nI (dgR 3 c (q - 1)) else b.2) else b) (fun a b => a.1 = b.1 ∧ (a.1 = 0 → a.2 = none) ∧ (0 < a.1 → a.2 ≠ none) ∧ (0 < q → cword a.2 (q - 1) = b.2)) (0, none) (0, -6) ⟨rfl, fun _ => rfl, fun h => absurd h (by simp), fun _ => rfl⟩ (by
    intro w a b hw hd hlt hvl hr
    obtain ⟨s1, s2⟩ := wset_sub hw (cdn 3 w) hd
    have e1 : wset (nR w) 3 &&& dear I (nI f) = cM (wset (nR (dgR 3 (cdn 3 w))) 3) re ho f 8 := by
      rw [s1]
      exact (cM_dear _ re ho hB.1 hB.2.1 g4 g5 f hf (fun k hk h => by rw [g0]; exact s2 k hk h) (fun k h8 hk => wset_big _ (dgR_lt 3 _) 3 k h8 hk)).symm
    unfold cB
    simp only [e1, decide_eq_true_eq]
    obtain ⟨r1, r2, r3, r4⟩ := hr
    by_cases c1 : cM (wset (nR (dgR 3 (cdn 3 w))) 3) re ho f 8 = z
    · rw [if_pos c1, if_pos c1]
      refine ⟨by show a.1 + 1 = b.1 + 1; omega, fun h => by simp at h, fun _ => ?_, fun hq0 => ?_⟩
      · show cF 3 w a.2 ≠ none
        cases a.2 <;> simp [cF]
      · show cword (cF 3 w a.2) (q - 1) = if b.1 = 0 ∧ 0 < q then nI (dgR 3 (cdn 3 w) (q - 1)) else b.2
        by_cases c2 : a.1 = 0
        · rw [r2 c2, if_pos ⟨by omega, hq0⟩]
          show (if q - 1 < 3 then nI (w (q - 1)) else -6) = _
          rw [if_pos (by omega), hd _ (by omega)]
        · rw [if_neg (fun h => c2 (by omega)), ← r4 hq0]
          have := r3 (by omega)
          cases hz : a.2 with
          | none => exact absurd hz this
          | some z => rfl
    · rw [if_neg c1, if_neg c1]
      exact ⟨r1, r2, r3, r4⟩)
  have hfw := cfr2_fwd (vldR t (nR so) 3) (fun c (b : Nat × Int32) => if cM (wset (nR (dgR 3 c)) 3) re ho f 8 = z then (b.1 + 1, if b.1 = 0 ∧ 0 < q then nI (dgR 3 c (q - 1)) else b.2) else b) (skF (vldR t (nR so) 3) (fun c => decide (cM (wset (nR (dgR 3 c)) 3) re ho f 8 = z)) q) (fun c => by
    rw [skF, skB]
    by_cases c1 : vldR t (nR so) 3 c = true
    · by_cases c2 : cM (wset (nR (dgR 3 c)) 3) re ho f 8 = z
      · rw [if_pos ⟨c1, by simpa using c2⟩, if_pos c1, if_pos c2]
      · rw [if_neg (fun h => c2 (by simpa using h.2)), if_pos c1, if_neg c2]
    · rw [if_neg (fun h => c1 h.1), if_neg c1]) 512 0
  rw [Nat.zero_add, hb, show skF (vldR t (nR so) 3) (fun c => decide (cM (wset (nR (dgR 3 c)) 3) re ho f 8 = z)) q 0 = (0, -6) from rfl] at hfw
  rw [hA, show cdN 3 = 512 from rfl, hfw] at h
  exact ⟨h.1, h.2.2.2⟩
/-- the WORDS of a SENTENCE on the PAD -/
theorem sp_wb_eq (sg : Nat → Nat) (p w : Int32) (d : Nat → Nat) : ∀ m, m < 1000 → (∀ k, k < m → (if nI k = p then w else nI (sg k) - nI 97) = nI (d k) ∧ d k < 8) → sp_wb (nR sg) p w m = wset (nR d) m
  | 0, _, _ => rfl
  | m + 1, hm, h => by
    obtain ⟨h1, h2⟩ := h m (by omega)
    have hin : sp_in (nI (d m)) (nI 0) (nI 7) = true := by rw [in_nI (by omega) (by omega) (by omega)]; simp; omega
    rw [sp_wb, wset, sp_wb_eq sg p w d m (by omega) (fun k hk => h k (by omega)), nR_k, h1, hin, nR_k]
    simp
theorem pdw_eq (sg : Nat → Nat) (n : Nat) (hn : n ≤ 5) (hsg : ∀ k, k < n → 97 ≤ sg k ∧ sg k < 105) : pdw (nR sg) n = wset (nR (fun k => sg k - 97)) n := by
  unfold pdw
  rw [show (if n < 5 then n else 5) = n by split <;> omega]
  have n6 : ∀ k, k < 1000 → ¬ nI k = -6 := by decide +kernel
  refine sp_wb_eq sg _ _ _ n (by omega) (fun k hk => ?_)
  have := hsg k hk
  rw [if_neg (n6 k (by omega)), nI_sub (by omega)]
  exact ⟨rfl, by show sg k - 97 < 8; omega⟩
theorem whoB_c {P P2 : Nat → Bool} : ∀ n, (∀ f, f < n → P f = P2 f) → whoB P n = whoB P2 n
  | 0, _ => rfl
  | n + 1, h => by rw [whoB, whoB, whoB_c n (fun f hf => h f (by omega)), h n (by omega)]
/-- a row that is within 8 everywhere, alike below n -/
theorem wset_cut (d : Nat → Nat) (n : Nat) (hd : ∀ p, p < n → d p < 8) : wset (nR d) n = wset (nR (fun p => if p < n then d p else 0)) n ∧ ∀ p, (fun p => if p < n then d p else 0) p < 8 := by
  refine ⟨wset_c (fun k hk => by rw [nR_k, nR_k, if_pos hk]), fun p => ?_⟩
  show (if p < n then d p else 0) < 8
  split
  · exact hd p (by assumption)
  · omega
theorem wset_t (t : Int32) (d : Nat → Nat) (n : Nat) (hd : ∀ p, p < n → d p < 8 ∧ bt t (d p) = true) : (∀ k, k < 8 → bt (wset (nR d) n) k = true → bt t k = true) ∧ ∀ k, 8 ≤ k → k < 32 → bt (wset (nR d) n) k = false := by
  obtain ⟨c1, c2⟩ := wset_cut d n (fun p hp => (hd p hp).1)
  rw [c1]
  refine ⟨fun k hk hb => ?_, fun k h8 hk => wset_big _ c2 n k h8 hk⟩
  rw [bt_wset _ (fun p => Nat.lt_of_lt_of_le (c2 p) (by omega)) (by omega), sp_any_iff] at hb
  obtain ⟨p, hp, hpk⟩ := hb
  have hpk : (if p < n then d p else 0) = k := by simpa using hpk
  rw [if_pos hp] at hpk
  rw [← hpk]
  exact (hd p hp).2
/-- WHO is the same -/
theorem who_same (t : Int32) (re ho sg sf : Nat → Nat) (ss : Nat → Int32) (I12 I13 : Nat → Int32) (hre : ∀ k, re k ≤ 99) (hho : ∀ k, ho k ≤ 4) (n m : Nat) (hn : n ≤ 5) (hsg : ∀ k, k < n → 97 ≤ sg k ∧ sg k < 105 ∧ bt t (sg k - 97) = true) (h1 : ∀ k, k < m → sf k < 4 ∧ I12 k = nI (sf k) ∧ I13 k = ss k) : whoB (fun f => sp_sal I12 I13 (nI f) (sp_cost t (nR re) (nR ho) (pdw (nR sg) n) (nI f) 8) m) 4 = whoB (fun f => slM sf ss (cM (wset (nR (fun k => sg k - 97)) n) re ho f 8) f m) 4 := by
  have hw := wset_t t (fun k => sg k - 97) n (fun p hp => ⟨by have := hsg p hp; show sg p - 97 < 8; omega, (hsg p hp).2.2⟩)
  refine whoB_c 4 (fun f hf => ?_)
  rw [pdw_eq sg n hn (fun k hk => ⟨(hsg k hk).1, (hsg k hk).2.1⟩), ← cM_cost t _ re ho hre hho f (by omega) hw.1 hw.2]
  unfold sp_sal slM
  congr 1
  · refine sp_any_c (fun k hk => ?_)
    obtain ⟨a1, a2, a3⟩ := h1 k hk
    simp only [a2, a3, am_neq _ _ (by omega : sf k < 2147483648) (by omega : f < 2147483648)]
  · congr 1
    refine sp_any_c (fun k hk => ?_)
    obtain ⟨a1, a2, a3⟩ := h1 k hk
    simp only [a2, am_neq _ _ (by omega : sf k < 2147483648) (by omega : f < 2147483648)]
/-- MISPRINTS are the same -/
def mmRl (a : Nat × Int32 × Int32 × Int32) (b : Nat × Nat × Int32) : Prop := a.1 = b.1 ∧ (a.1 = 0 → b.2.1 = 1000000) ∧ (0 < a.1 → ∃ k w, k < 5 ∧ w < 8 ∧ a.2.1 = nI k ∧ a.2.2.1 = nI w ∧ a.2.2.2 = nI b.2.1 ∧ b.2.1 ≤ 792 ∧ b.2.2 = nI (10 * k + w))
theorem mis_same {I : Nat → Nat → Int32} {t : Int32} {so me rh re ho fa : Nat → Nat} (hC : cst I t so me rh re ho fa) (hB : bnd me rh re ho fa) (sg : Nat → Nat) (h2 : I 2 = nR sg) (n : Nat) (hn : n ≤ 5) (hsg : ∀ k, k < n → 97 ≤ sg k ∧ sg k < 105 ∧ bt t (sg k - 97) = true) (sp : Nat) (hsp : sp ≤ 4) : mmRl (mall (mok I) (mcst I rh n (nI sp)) n) (mmF (mmO t so sg) (mmW re ho rh sg sp n) n) := by
  obtain ⟨g0, g1, g2, g3, g4, g5, g6⟩ := hC
  obtain ⟨b1, b2, b3, b4, b5⟩ := hB
  have hok : ∀ i, i < n → ∀ k, k < 8 → mok I i k = mmO t so sg i k := fun i hi k hk => by
    have := hsg i hi
    unfold mok mmO sp_ios
    rw [g0, g1, h2, nR_k, nI_sub (by omega), sp_has_in hk, nI_clamp (by omega)]
    simp only [am_neq k _ (by omega) (by omega : sg i - 97 < 2147483648)]
    cases sp_bt t k <;> cases decide (¬ k = sg i - 97) <;> simp
  have hcs : ∀ i, i < n → ∀ k, k < 8 → mmO t so sg i k = true → mcst I rh n (nI sp) i k = nI (mmW re ho rh sg sp n i k) := fun i hi k hk hm => by
    have hbt : bt t k = true := by
      unfold mmO at hm
      rw [Bool.and_eq_true, bt_sp (by omega)] at hm
      exact hm.1
    have hd : ∀ p, p < n → va_up (fun j => sg j - 97) i k p < 8 ∧ bt t (va_up (fun j => sg j - 97) i k p) = true := fun p hp => by
      by_cases e : p = i
      · subst e; rw [up_s]; exact ⟨hk, hbt⟩
      · have := hsg p hp
        rw [up_n _ _ _ _ e]; exact ⟨by omega, this.2.2⟩
    have hw := wset_t t (va_up (fun j => sg j - 97) i k) n hd
    have hset : sp_wb (I 2) (nI i) (nI k) n = wset (nR (va_up (fun j => sg j - 97) i k)) n := by
      rw [h2]
      refine sp_wb_eq sg _ _ _ n (by omega) (fun p hp => ⟨?_, (hd p hp).1⟩)
      by_cases e : p = i
      · subst e; rw [if_pos rfl, up_s]
      · have := hsg p hp
        rw [if_neg (fun h => e ((nI_eq (by omega) (by omega)).mp h)), up_n _ _ _ _ e, nI_sub (by omega)]
    unfold mcst mmW
    rw [hset, g4, g5]
    refine pdc_prc _ _ _ _ rh re ho 4 b3 b1 b2 (sub8_dear I (nI sp) _) (fun x hx => ?_) (Or.inl ⟨rfl, rfl⟩)
    exact sub_dw I _ re ho b1 b2 g4 g5 sp hsp (fun x hx h => by rw [g0]; exact hw.1 x hx h) x hx
  have how : ∀ k w, mmW re ho rh sg sp n k w ≤ 792 := fun k w => by
    have := prc_le (osp (wset (nR (va_up (fun j => sg j - 97) k w)) n) re ho sp) rh re ho 4 b1 8
    unfold mmW; omega
  have hrow : ∀ i, i < n → ∀ a b, mmRl a b → ∀ k, k ≤ 8 → mmRl (mrow (mok I) (mcst I rh n (nI sp)) i a k) (mmR (mmO t so sg) (mmW re ho rh sg sp n) i b k) := by
    intro i hi a b hab k
    induction k with
    | zero => intro _; exact hab
    | succ k ih =>
      intro hk
      have ih := ih (by omega)
      rw [mrow, mmR]
      generalize mrow (mok I) (mcst I rh n (nI sp)) i a k = x at *
      generalize mmR (mmO t so sg) (mmW re ho rh sg sp n) i b k = y at *
      unfold mB mmB
      rw [hok i hi k (by omega)]
      obtain ⟨r1, r2, r3⟩ := ih
      have hw := how i k
      by_cases hm : mmO t so sg i k = true
      · rw [if_pos hm, if_pos hm, hcs i hi k (by omega) hm]
        refine ⟨by show x.1 + 1 = y.1 + 1; omega, fun h => by simp at h, fun _ => ?_⟩
        by_cases c0 : x.1 = 0
        · have := r2 c0
          refine ⟨i, k, by omega, by omega, ?_⟩
          simp only [c0, true_or, if_true]
          rw [if_pos (by omega)]
          refine ⟨?_, ?_, ?_, hw, ?_⟩ <;> first | rfl | trivial
        · obtain ⟨k', w', q1, q2, q3, q4, q5, q6, q7⟩ := r3 (by omega)
          have hle : (x.2.2.2 ≤ nI (mmW re ho rh sg sp n i k)) = (y.2.1 ≤ mmW re ho rh sg sp n i k) := by rw [q5, am_nle _ _ (by omega) (by omega)]
          by_cases c1 : mmW re ho rh sg sp n i k < y.2.1
          · refine ⟨i, k, by omega, by omega, ?_⟩
            simp only [c0, hle, false_or]
            rw [if_pos (by omega), if_pos c1]
            refine ⟨?_, ?_, ?_, hw, ?_⟩ <;> first | rfl | trivial
          · refine ⟨k', w', q1, q2, ?_⟩
            simp only [c0, hle, false_or]
            rw [if_neg (by omega), if_neg c1]
            exact ⟨q3, q4, q5, q6, q7⟩
      · rw [if_neg hm, if_neg hm]
        exact ⟨r1, r2, r3⟩
  have key : ∀ i, i ≤ n → mmRl (mall (mok I) (mcst I rh n (nI sp)) i) (mmF (mmO t so sg) (mmW re ho rh sg sp n) i) := by
    intro i
    induction i with
    | zero => intro _; exact ⟨rfl, fun _ => rfl, fun h => absurd h (by simp [mall])⟩
    | succ i ih => intro hi; rw [mall, mmF]; exact hrow i (by omega) _ _ (ih (by omega)) 8 (Nat.le_refl _)
  exact key n (Nat.le_refl _)
