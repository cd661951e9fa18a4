/-! THE SAME: strikes, counts, sums -/
def bcN (p : Nat → Bool) : Nat → Nat
  | 0 => 0
  | n + 1 => bcN p n + (if p n = true then 1 else 0)
theorem bcN_c {p q : Nat → Bool} : ∀ n, (∀ i, i < n → p i = q i) → bcN p n = bcN q n
  | 0, _ => rfl
  | n + 1, h => by rw [bcN, bcN, bcN_c n (fun i hi => h i (by omega)), h n (by omega)]
theorem pcn_B : ∀ d, d < 256 → pcn d = bcN (fun i => d.testBit i) 8 := by decide +kernel
theorem bc_B {x : Int32} (h : ∀ i, 8 ≤ i → i < 32 → bt x i = false) : sp_bc x = nI (bcN (fun i => bt x i) 8) := by
  obtain ⟨d, hd, rfl⟩ := t_ex h
  rw [pcn_bc d hd, pcn_B d hd, bcN_c 8 (fun i hi => (bt_nI hd i (by omega)).symm)]
theorem ncN_B (t : Int32) (so : Nat → Nat) (hso : ∀ k, so k ≤ 2) (set : Int32) {s : Nat} (hs : s ≤ 2) : ∀ n, n ≤ 8 → ncN t so set s n = bcN (fun i => bt (sp_wos t (nR so) (nI s) 8 &&& (set ^^^ (-1))) i) n
  | 0, _ => rfl
  | n + 1, hn => by
    rw [ncN, bcN, ncN_B t so hso set hs n (by omega), b_and, bt_wos t so hso hs (by omega) 8 (by omega), bt_not (by omega)]
    congr 1
    cases bt t n <;> cases bt set n <;> by_cases h : so n = s <;> simp [h, show n < 8 by omega]
theorem sw1 (t : Int32) (so : Nat → Nat) (hso : ∀ k, so k ≤ 2) (set : Int32) {s : Nat} (hs : s ≤ 2) : sp_bc (sp_wos t (nR so) (nI s) 8 &&& (set ^^^ (-1))) = nI (ncN t so set s 8) := by
  rw [bc_B (fun i h8 hi => by rw [b_and, bt_wos t so hso hs hi 8 (by omega)]; simp [show ¬ i < 8 by omega]), ncN_B t so hso set hs 8 (by omega)]
theorem sw_eq (t : Int32) (so : Nat → Nat) (hso : ∀ k, so k ≤ 2) (set : Int32) : sp_sw t (nR so) set = nI (wtN t so set) := by
  unfold sp_sw wtN
  rw [sw1 t so hso set (by omega), sw1 t so hso set (by omega), sw1 t so hso set (by omega), am_nml, am_nml, am_nml, nI_add, am_nml]
theorem wst_eq (t : Int32) (so : Nat → Nat) (hso : ∀ k, so k ≤ 2) : ∀ k, k ≤ 8 → (wst t (nR so) k).1 = (wsM t so k).1 ∧ ((wst t (nR so) k).1 = -6 ∧ (wsM t so k).2 = 1000000 ∨ ¬ (wst t (nR so) k).1 = -6 ∧ (wst t (nR so) k).2 = nI (wsM t so k).2 ∧ (wsM t so k).2 ≤ 33280)
  | 0, _ => ⟨rfl, Or.inl ⟨rfl, rfl⟩⟩
  | k + 1, hk => by
    obtain ⟨h1, h2⟩ := wst_eq t so hso k (by omega)
    have hw := wtN_le t so (nI 1 <<< (nI k &&& 31))
    have hn6 : ¬ nI k = -6 := fun h => by
      have h3 : ∀ k, k < 8 → ¬ nI k = -6 := by decide +kernel
      exact h3 k (by omega) h
    rw [wst, wsM, sw_eq t so hso, bt_sp (by omega)]
    cases hb : bt t k
    · simp only [Bool.false_eq_true, false_and, if_false]
      exact ⟨h1, h2⟩
    · rcases h2 with ⟨h3, h4⟩ | ⟨h3, h4, h5⟩
      · rw [if_pos ⟨rfl, Or.inl h3⟩, if_pos ⟨rfl, by omega⟩]
        exact ⟨rfl, Or.inr ⟨hn6, rfl, hw⟩⟩
      · by_cases hlt : wtN t so (nI 1 <<< (nI k &&& 31)) < (wsM t so k).2
        · rw [if_pos ⟨rfl, Or.inr (by rw [h4, am_nle _ _ (by omega) (by omega)]; omega)⟩, if_pos ⟨rfl, hlt⟩]
          exact ⟨rfl, Or.inr ⟨hn6, rfl, hw⟩⟩
        · rw [if_neg (fun h => by
            rcases h.2 with h6 | h6
            · exact h3 h6
            · rw [h4, am_nle _ _ (by omega) (by omega)] at h6; omega), if_neg (fun h => hlt h.2)]
          exact ⟨h1, Or.inr ⟨h3, h4, h5⟩⟩
theorem of_in (t : Int32) (f : Nat → Nat) (d : Int32) {k : Nat} (hk : k < 8) : sp_of t (nR f) d (nI k) = if sp_bt t k = true then nI (f k) else d := by
  unfold sp_of
  rw [sp_has_in hk, nI_clamp (show k < 2147483648 by omega), nR_k]
theorem sum_eq (c : dC) (s : dS) : ∀ n, n ≤ 8 → sp_sum c.1 (nR s.1) n = nI (smN c s n)
  | 0, _ => rfl
  | n + 1, hn => by
    rw [sp_sum, smN, sum_eq c s n (by omega), of_in _ _ _ (by omega), nI_ite, nI_add]
    rfl
theorem prop_eq (t : Int32) (s : dS) (w : Nat) (q : Int32) (hw : w < 8) (h : sp_has t (nI w) = true) : sp_prop t (nR s.2.2.1) (nR s.1) (nR s.2.1) (nI w) q = pNat s w q := by
  rw [sp_has_in hw] at h
  unfold sp_prop pNat
  rw [of_in _ _ _ hw, of_in _ _ _ hw, of_in _ _ _ hw, if_pos h, if_pos h, if_pos h]
theorem lt4 {k : Nat} (h : k ≤ 4) : sp_lt 4 (nI k) = decide (k < 4) := by
  by_cases h4 : k < 4
  · rw [sp_lt_in (by omega) h4]; simp [h4]
  · rw [show k = 4 by omega]; decide
theorem riv_eq (t : Int32) (so ho : Nat → Nat) (hso : ∀ k, so k ≤ 2) (hho : ∀ k, ho k ≤ 4) {w x : Nat} (hw : w < 8) (hx : x < 8) (h1 : sp_has t (nI w) = true) (h2 : sp_has t (nI x) = true) : sp_riv t (nR so) (nR ho) (nI w) (nI x) = (decide (so w = so x) && decide (ho w < 4) && decide (ho x < 4) && decide (¬ ho w = ho x)) := by
  rw [sp_has_in hw] at h1
  rw [sp_has_in hx] at h2
  have a1 := hso w
  have a2 := hso x
  have a3 := hho w
  have a4 := hho x
  unfold sp_riv
  rw [of_in _ _ _ hw, of_in _ _ _ hx, of_in _ _ _ hw, of_in _ _ _ hx, if_pos h1, if_pos h1, if_pos h2, if_pos h2, lt4 a3, lt4 a4]
  simp only [am_neq (so w) (so x) (by omega) (by omega), am_neq (ho w) (ho x) (by omega) (by omega)]
  by_cases b1 : so w = so x <;> by_cases b2 : ho w < 4 <;> by_cases b3 : ho x < 4 <;> by_cases b4 : ho w = ho x <;> simp [b1, b2, b3, b4]
