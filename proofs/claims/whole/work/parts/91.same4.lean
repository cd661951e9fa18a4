/-! THE SAME: LET, HELD -/
theorem bt_nI {d : Nat} (hd : d < 256) : ∀ i, i < 32 → bt (nI d) i = d.testBit i := by
  have h : ∀ d, d < 256 → ∀ i, i < 32 → bt (nI d) i = d.testBit i := by decide +kernel
  exact h d hd
def bsum (t : Int32) : Nat → Nat
  | 0 => 0
  | k + 1 => bsum t k + (if bt t k = true then 2 ^ k else 0)
theorem bsum_lt (t : Int32) : ∀ k, bsum t k < 2 ^ k
  | 0 => by simp [bsum]
  | k + 1 => by
    have ih := bsum_lt t k
    rw [bsum, Nat.pow_succ]
    split <;> omega
theorem bsum_bit (t : Int32) : ∀ k i, i < k → (bsum t k).testBit i = bt t i
  | 0, i, h => absurd h (Nat.not_lt_zero _)
  | k + 1, i, h => by
    have hl := bsum_lt t k
    rw [bsum]
    by_cases hik : i = k
    · subst hik
      cases hb : bt t i
      · simp only [Bool.false_eq_true, if_false, Nat.add_zero]
        exact Nat.testBit_lt_two_pow hl
      · simp only [if_true]
        rw [Nat.add_comm, Nat.testBit_two_pow_add_eq, Nat.testBit_lt_two_pow hl]
        rfl
    · have ih := bsum_bit t k i (by omega)
      split
      · rw [Nat.add_comm, Nat.testBit_two_pow_add_gt (by omega)]
        exact ih
      · exact ih
theorem t_ex {t : Int32} (h : ∀ i, 8 ≤ i → i < 32 → bt t i = false) : ∃ d, d < 256 ∧ t = nI d := by
  have hl := bsum_lt t 8
  refine ⟨bsum t 8, hl, b_ext (fun i hi => ?_)⟩
  rw [bt_nI hl i hi]
  by_cases h8 : i < 8
  · exact (bsum_bit t 8 i h8).symm
  · rw [h i (by omega) hi]
    have h2 : 2 ^ 8 ≤ 2 ^ i := Nat.pow_le_pow_right (by omega) (by omega)
    exact (Nat.testBit_lt_two_pow (Nat.lt_of_lt_of_le hl h2)).symm
theorem and_lt {d e : Nat} (hd : d < 256) : d &&& e < 256 := Nat.lt_of_le_of_lt Nat.and_le_left hd
theorem nI_and {d e : Nat} (hd : d < 256) (he : e < 256) : nI d &&& nI e = nI (d &&& e) := by
  apply b_ext
  intro i hi
  rw [b_and, bt_nI hd i hi, bt_nI he i hi, bt_nI (and_lt hd) i hi, Nat.testBit_and]
def sN (f : Nat → Nat) : Nat → Nat
  | 0 => 0
  | n + 1 => sN f n + f n
theorem sN_c {f g : Nat → Nat} : ∀ n, (∀ d, d < n → f d = g d) → sN f n = sN g n
  | 0, _ => rfl
  | n + 1, h => by rw [sN, sN, sN_c n (fun d hd => h d (by omega)), h n (by omega)]
theorem sN_add (f : Nat → Nat) (m : Nat) : ∀ n, sN f (m + n) = sN f m + sN (fun d => f (m + d)) n
  | 0 => rfl
  | n + 1 => by rw [← Nat.add_assoc, sN, sN_add f m n, sN, Nat.add_assoc]
theorem sN_mul (f : Nat → Nat) (c : Nat) : ∀ n, sN (fun d => c * f d) n = c * sN f n
  | 0 => rfl
  | n + 1 => by rw [sN, sN_mul f c n, sN, Nat.mul_add]
def wtB (a b : Nat → Nat) : Nat → Nat → Nat
  | 0, _ => 1
  | k + 1, d => wtB a b k d * (if d.testBit k = true then a k else b k)
theorem wtB_c (a b : Nat → Nat) (d e : Nat) : ∀ k, (∀ i, i < k → d.testBit i = e.testBit i) → wtB a b k d = wtB a b k e
  | 0, _ => rfl
  | k + 1, h => by rw [wtB, wtB, wtB_c a b d e k (fun i hi => h i (by omega)), h k (by omega)]
def trS (a b : Nat → Nat) : Nat → (Nat → Nat) → Nat
  | 0, G => G 0
  | k + 1, G => b k * trS a b k G + a k * trS a b k (fun d => G (2 ^ k + d))
theorem trS_eq (a b : Nat → Nat) : ∀ k G, sN (fun d => wtB a b k d * G d) (2 ^ k) = trS a b k G
  | 0, G => by simp [sN, wtB, trS]
  | k + 1, G => by
    rw [trS, ← trS_eq a b k G, ← trS_eq a b k (fun d => G (2 ^ k + d)), ← sN_mul, ← sN_mul, Nat.pow_succ, Nat.mul_two, sN_add]
    congr 1
    · apply sN_c
      intro d hd
      rw [wtB, Nat.testBit_lt_two_pow hd]
      simp only [Bool.false_eq_true, if_false]
      rw [Nat.mul_comm (wtB a b k d) (b k), Nat.mul_assoc]
    · apply sN_c
      intro d hd
      simp only [wtB]
      rw [Nat.testBit_two_pow_add_eq, Nat.testBit_lt_two_pow hd, wtB_c a b (2 ^ k + d) d k (fun i hi => Nat.testBit_two_pow_add_gt hi d)]
      simp only [Bool.not_false, if_true]
      rw [Nat.mul_comm (wtB a b k d) (a k), Nat.mul_assoc]
theorem trS_c (a b : Nat → Nat) : ∀ k G H, (∀ d, d < 2 ^ k → G d = H d) → trS a b k G = trS a b k H
  | 0, G, H, h => h 0 (by simp)
  | k + 1, G, H, h => by
    rw [trS, trS, trS_c a b k G H (fun d hd => h d (by rw [Nat.pow_succ]; omega)), trS_c a b k (fun d => G (2 ^ k + d)) (fun d => H (2 ^ k + d)) (fun d hd => h _ (by rw [Nat.pow_succ]; omega))]
theorem and_top {T k d : Nat} (hd : d < 2 ^ k) : (2 ^ k + d) &&& T = if T.testBit k = true then 2 ^ k + (d &&& T) else d &&& T := by
  have hl : d &&& T < 2 ^ k := Nat.lt_of_le_of_lt Nat.and_le_left hd
  apply Nat.eq_of_testBit_eq
  intro i
  rcases Nat.lt_trichotomy i k with h | h | h
  · rw [Nat.testBit_and, Nat.testBit_two_pow_add_gt h]
    split
    · rw [Nat.testBit_two_pow_add_gt h, Nat.testBit_and]
    · rw [Nat.testBit_and]
  · subst h
    rw [Nat.testBit_and, Nat.testBit_two_pow_add_eq, Nat.testBit_lt_two_pow hd]
    cases hT : T.testBit i
    · simp only [Bool.false_eq_true, if_false, Bool.and_false]
      exact (Nat.testBit_lt_two_pow hl).symm
    · simp only [if_true]
      rw [Nat.testBit_two_pow_add_eq, Nat.testBit_lt_two_pow hl]
      rfl
  · have hp : 2 ^ (k + 1) ≤ 2 ^ i := Nat.pow_le_pow_right (by omega) (by omega)
    rw [Nat.pow_succ] at hp
    rw [Nat.testBit_and, Nat.testBit_lt_two_pow (show 2 ^ k + d < 2 ^ i by omega)]
    split
    · rw [Nat.testBit_lt_two_pow (show 2 ^ k + (d &&& T) < 2 ^ i by omega)]; rfl
    · rw [Nat.testBit_lt_two_pow (show d &&& T < 2 ^ i by omega)]; rfl
theorem trS_same (t T : Nat) (ht : t ≤ 10) : ∀ k G, trS (fun _ => t) (fun _ => 10 - t) k (fun d => G (d &&& T)) = trS (fun w => if T.testBit w = true then t else 0) (fun w => if T.testBit w = true then 10 - t else 10) k G
  | 0, G => by simp [trS]
  | k + 1, G => by
    rw [trS, trS, trS_same t T ht k G, trS_c _ _ k (fun d => G ((2 ^ k + d) &&& T)) (fun d => G (if T.testBit k = true then 2 ^ k + (d &&& T) else d &&& T)) (fun d hd => by rw [and_top hd])]
    cases hT : T.testBit k
    · simp only [Bool.false_eq_true, if_false]
      rw [trS_same t T ht k G, ← Nat.add_mul, show 10 - t + t = 10 by omega]
      omega
    · simp only [if_true]
      rw [trS_same t T ht k (fun d => G (2 ^ k + d))]
theorem wgt_B : ∀ t, t ≤ 10 → ∀ d, d < 256 → wgt t (pcn d) = wtB (fun _ => t) (fun _ => 10 - t) 8 d := by decide +kernel
theorem owN_B (t T d : Nat) (hT : T < 256) (hd : d < 256) : ∀ w, w ≤ 8 → owN t (nI T) (nI d) w = wtB (fun w => if T.testBit w = true then t else 0) (fun w => if T.testBit w = true then 10 - t else 10) w d
  | 0, _ => rfl
  | w + 1, h => by rw [owN, wtB, owN_B t T d hT hd w (by omega), fac, bt_nI hd w (by omega), bt_nI hT w (by omega)]
theorem upC_s (t : Nat) (th : Int32) (P : Int32 → Bool) : ∀ n, upC t th P n = sN (fun d => if P (nI d &&& th) = true then wgt t (pcn d) else 0) n
  | 0 => rfl
  | n + 1 => by rw [upC, sN, upC_s t th P n]
theorem upM_s (t : Nat) (th : Int32) (P : Int32 → Bool) : ∀ n, upM t th P n = sN (fun d => if P (nI d) = true then owN t th (nI d) 8 else 0) n
  | 0 => rfl
  | n + 1 => by rw [upM, sN, upM_s t th P n]
theorem up_same (t : Nat) (ht : t ≤ 10) (T : Nat) (hT : T < 256) (P P' : Int32 → Bool) (h : ∀ d, d < 256 → P (nI (d &&& T)) = P' (nI (d &&& T))) : upC t (nI T) P 256 = upM t (nI T) P' 256 := by
  rw [upC_s, upM_s]
  have hC : sN (fun d => if P (nI d &&& nI T) = true then wgt t (pcn d) else 0) 256 = sN (fun d => wtB (fun _ => t) (fun _ => 10 - t) 8 d * (fun e => if P' (nI e) = true then 1 else 0) (d &&& T)) (2 ^ 8) := by
    apply sN_c
    intro d hd
    rw [nI_and hd hT, h d hd, wgt_B t ht d hd]
    simp only
    split <;> simp
  have hM : sN (fun d => if P' (nI d) = true then owN t (nI T) (nI d) 8 else 0) 256 = sN (fun d => wtB (fun w => if T.testBit w = true then t else 0) (fun w => if T.testBit w = true then 10 - t else 10) 8 d * (fun e => if P' (nI e) = true then 1 else 0) d) (2 ^ 8) := by
    apply sN_c
    intro d hd
    rw [owN_B t T d hT hd 8 (by omega)]
    simp only
    split <;> simp
  rw [hC, hM, trS_eq _ _ 8 (fun d => (fun e => if P' (nI e) = true then 1 else 0) (d &&& T)), trS_eq _ _ 8 (fun e => if P' (nI e) = true then 1 else 0)]
  exact trS_same t T ht 8 (fun e => if P' (nI e) = true then 1 else 0)
theorem ios_bt (t : Int32) (so : Nat → Nat) (hso : ∀ k, so k ≤ 2) {k s : Nat} (hk : k < 8) (hs : s ≤ 2) : sp_ios t (nR so) (nI k) (nI s) = (bt t k && decide (so k = s)) := by
  have := hso k
  unfold sp_ios
  rw [sp_has_in hk, bt_sp (by omega), nI_clamp (show k < 2147483648 by omega), nR_k]
  congr 1
  simp only [am_neq (so k) s (by omega) (by omega)]
theorem bt_wos (t : Int32) (so : Nat → Nat) (hso : ∀ k, so k ≤ 2) {s : Nat} (hs : s ≤ 2) {i : Nat} (hi : i < 32) : ∀ n, n ≤ 8 → bt (sp_wos t (nR so) (nI s) n) i = (decide (i < n) && (bt t i && decide (so i = s)))
  | 0, _ => by rw [sp_wos, bt_n0]; simp
  | n + 1, hn => by
    have ih := bt_wos t so hso hs hi n (by omega)
    rw [sp_wos, ios_bt t so hso (by omega) hs]
    by_cases h : i = n
    · subst h
      have h1 : ¬ i < i := by omega
      have h2 : i < i + 1 := by omega
      simp only [h1, decide_false, Bool.false_and] at ih
      simp only [h2, decide_true, Bool.true_and]
      cases hc : (bt t i && decide (so i = s))
      · simp only [Bool.false_eq_true, if_false]; exact ih
      · simp only [if_true]; rw [bt_set hi hi]; simp
    · have h2 : decide (i < n + 1) = decide (i < n) := by
        by_cases h3 : i < n
        · simp [h3, show i < n + 1 by omega]
        · simp [h3, show ¬ i < n + 1 by omega]
      rw [h2, ← ih]
      split
      · rw [bt_set hi (by omega)]; simp [h]
      · rfl
theorem and_z {x y : Int32} : x &&& y = 0 ↔ ∀ i, i < 32 → (bt x i && bt y i) = false := by
  constructor
  · intro h i hi
    rw [← b_and, h, b_0]
  · intro h
    apply b_ext
    intro i hi
    rw [b_and, h i hi, b_0]
theorem wos_any (T : Nat) (so : Nat → Nat) (hso : ∀ k, so k ≤ 2) {s : Nat} (hs : s ≤ 2) (had : Int32) (hh : ∀ i, i < 32 → bt had i = true → bt (nI T) i = true) : decide (¬ sp_wos (nI T) (nR so) (nI s) 8 &&& had = 0) = sp_any (fun w => bt had w && decide (so w = s)) 8 := by
  have h : (¬ sp_wos (nI T) (nR so) (nI s) 8 &&& had = 0) ↔ sp_any (fun w => bt had w && decide (so w = s)) 8 = true := by
    rw [sp_any_iff, and_z]
    constructor
    · intro h
      apply Decidable.by_contra
      intro h2
      apply h
      intro i hi
      rw [bt_wos _ so hso hs hi 8 (by omega)]
      by_cases h8 : i < 8
      · cases hb : bt had i
        · simp
        · by_cases hso2 : so i = s
          · exact absurd ⟨i, h8, by simp [hb, hso2]⟩ h2
          · simp [hso2]
      · simp [h8]
    · rintro ⟨k, hk, h1⟩ h2
      rw [Bool.and_eq_true, decide_eq_true_eq] at h1
      have h3 := h2 k (by omega)
      rw [bt_wos _ so hso hs (by omega) 8 (by omega), hh k (by omega) h1.1, h1.1] at h3
      simp [hk, h1.2] at h3
  cases hb : sp_any (fun w => bt had w && decide (so w = s)) 8
  · rw [hb] at h
    exact decide_eq_false (fun h2 => by have := h.mp h2; cases this)
  · rw [hb] at h
    exact decide_eq_true (h.mpr rfl)
theorem cs_same (q : Nat) (pad : Int32) (T : Nat) (so : Nat → Nat) (hso : ∀ k, so k ≤ 2) (li li' : Nat → Int32) (l : Nat) (hli : ∀ i, i < l → li i = li' i) (had : Int32) (hh : ∀ i, i < 32 → bt had i = true → bt (nI T) i = true) : csC q pad (sp_wos (nI T) (nR so) (nI 0) 8) (sp_wos (nI T) (nR so) (nI 1) 8) li l had = csM q pad so li' l had := by
  unfold csC csM
  split
  · rfl
  · split
    · rw [← wos_any T so hso (by omega) had hh, ← wos_any T so hso (by omega) had hh, ← Bool.decide_and]
      congr 1
      simp only [not_or]
    · exact sp_any_c (fun k hk => by rw [hli k hk])
theorem let_same (t : Nat) (ht : t ≤ 10) (th : Int32) (hth : ∀ i, 8 ≤ i → i < 32 → bt th i = false) (q : Nat) (pad : Int32) (so : Nat → Nat) (hso : ∀ k, so k ≤ 2) (li li' : Nat → Int32) (l : Nat) (hli : ∀ i, i < l → li i = li' i) : upC t th (csC q pad (sp_wos th (nR so) (nI 0) 8) (sp_wos th (nR so) (nI 1) 8) li l) 256 = upM t th (csM q pad so li' l) 256 := by
  obtain ⟨T, hT, rfl⟩ := t_ex hth
  apply up_same t ht T hT
  intro d hd
  apply cs_same q pad T so hso li li' l hli
  intro i hi hb
  rw [← nI_and hd hT, b_and, Bool.and_eq_true] at hb
  exact hb.2
/-! HELD -/
theorem pcn_255 : ∀ d, d < 255 → pcn d < 8 := by decide +kernel
theorem hM_hd (P : Nat → Bool) : ∀ k, k ≤ 255 → (∀ f, hM P k = some f → hdN P k = f) ∧ (hM P k = none → hdN P k = 255)
  | 0, _ => ⟨fun f h => (by cases h), fun _ => rfl⟩
  | k + 1, hk => by
    obtain ⟨i1, i2⟩ := hM_hd P k (by omega)
    rw [hM, hdN]
    cases hq : hM P k with
    | none =>
      rw [i2 hq]
      have h8 : pcn k < pcn 255 := pcn_255 k (by omega)
      simp only [h8, true_and]
      cases hp : P k
      · simp
      · simp
    | some f =>
      rw [i1 f hq]
      simp only
      split <;> simp
theorem hM_lastA (P : Nat → Bool) (m : Nat) (hm : m = 255) (h : P m = true) : hM P (m + 1) = some (hdN P m) := by
  obtain ⟨i1, i2⟩ := hM_hd P m (by omega)
  rw [hM]
  cases hq : hM P m with
  | none => rw [i2 hq, h, hm]; rfl
  | some f =>
    have hf := hM_lt P m f hq
    have hn : ¬ (pcn m < pcn f ∧ P m = true) := fun h2 => by
      have h3 := pcn_255 f (by omega)
      have h4 := h2.1
      rw [hm, show pcn 255 = 8 from rfl] at h4
      omega
    rw [i1 f hq]
    simp only [hn, if_false]
theorem hM_last (P : Nat → Bool) (h : P 255 = true) : hM P 256 = some (hdN P 255) := hM_lastA P 255 rfl h
theorem hdN_c {P Q : Nat → Bool} (h : ∀ k, P k = Q k) : ∀ n, hdN P n = hdN Q n
  | 0 => rfl
  | n + 1 => by rw [hdN, hdN, hdN_c h n, h n]
theorem sp_all_t {p : Nat → Bool} : ∀ n, (∀ k, k < n → p k = true) → sp_all p n = true
  | 0, _ => rfl
  | n + 1, h => by rw [sp_all, sp_all_t n (fun k hk => h k (by omega)), h n (by omega)]; rfl
theorem wset_ne (w : Nat → Nat) (n : Nat) (hn : 0 < n) (hw : ∀ p, p < n → w p < 8) : ¬ (wset (nR w) n &&& nI 255) = 0 := by
  rw [(wset_cut w n hw).1, and_z]
  intro h
  have h2 := h (w 0) (by have := hw 0 hn; omega)
  rw [bt_wset _ (fun p => Nat.lt_trans ((wset_cut w n hw).2 p) (by omega)) (by have := hw 0 hn; omega), bt_255 _ (by have := hw 0 hn; omega)] at h2
  rw [sp_any_t hn (by simp [hn])] at h2
  simp [hw 0 hn] at h2
theorem held_same (l : Nat) (li : Nat → Int32) (lw : Nat → Nat → Nat) (ll : Nat → Nat) (h : ∀ i, i < l → li i = wset (nR (lw i)) (ll i)) (hl : ∀ i, i < l → 0 < ll i ∧ ∀ k, k < ll i → lw i k < 8) (li' : Nat → Int32) (h' : ∀ i, i < l → li i = li' i) : hM (fun w => sp_all (fun i => decide (¬ (li' i &&& nI w) = 0)) l) 256 = some (hdN (fun w => sp_all (fun i => decide (¬ (li i &&& nI w) = 0)) l) 255) := by
  rw [hdN_c (Q := fun w => sp_all (fun i => decide (¬ (li' i &&& nI w) = 0)) l) (fun w => sp_all_c (fun i hi => by rw [h' i hi]))]
  apply hM_last
  apply sp_all_t
  intro i hi
  rw [← h' i hi, h i hi]
  exact decide_eq_true (wset_ne (lw i) (ll i) (hl i hi).1 (hl i hi).2)
