/-! the world that an abstract memory stands for -/
def am_sh (b b0 : Nat) : Value → Value
  | .ref a => .ref (b + a)
  | .retAddr _ => .ref b0
  | v => v
def am_fv (b : Nat) (h : am_H) (a j t : Nat) : Value := if t = 0 then .int (h.2.1 a j) else if t = 1 then .long (h.2.2.1 a j) else va_rf ((h.2.2.2.1 a j).map (fun x => b + x))
def am_fs (b : Nat) (h : am_H) (a c : Nat) : List Value := (am_fty c).mapIdx (fun j t => am_fv b h a j t)
def am_ce (cy : Nat → ClassId) (b : Nat) (h : am_H) (a : Nat) : va_E :=
  if (am_kd h a).1 = 10 then .inl (cy 0, (am_kd h a).2, .inl (h.2.1 a)) else if (am_kd h a).1 = 11 then .inl (cy 1, (am_kd h a).2, .inr (.inl (h.2.2.1 a))) else if (am_kd h a).1 = 12 then .inl (cy 2, (am_kd h a).2, .inl (h.2.1 a))
  else if (am_kd h a).1 = 13 then .inl (cy 3, (am_kd h a).2, .inr (.inr (.inr (.inr (fun k => (h.2.2.2.1 a k).map (fun x => b + x)))))) else .inr ((am_kd h a).1, am_fs b h a (am_kd h a).1)
def am_wl (cy : Nat → ClassId) (b : Nat) (h : am_H) : va_W := (List.range h.1.length).map (fun a => (b + a, am_ce cy b h a))
theorem am_kd_lt {h : am_H} {a c : Nat} (hk : (am_kd h a).1 = c) (hc : c ≠ 99) : a < h.1.length := by
  rcases Nat.lt_or_ge a h.1.length with q | q
  · exact q
  · exfalso
    apply hc
    rw [← hk, am_kd, List.getD_eq_getElem?_getD, List.getElem?_eq_none q]
    rfl
theorem am_wl_get {cy : Nat → ClassId} {b : Nat} {h : am_H} {a : Nat} (ha : a < h.1.length) : (am_wl cy b h)[a]? = some (b + a, am_ce cy b h a) := by
  simp [am_wl, ha]
theorem am_wl_len {cy : Nat → ClassId} {b : Nat} {h : am_H} : (am_wl cy b h).length = h.1.length := by simp [am_wl]
theorem am_wl_at {cy : Nat → ClassId} {b : Nat} {h : am_H} {k : Nat} {q : Nat × va_E} (hk : (am_wl cy b h)[k]? = some q) : k < h.1.length ∧ q = (b + k, am_ce cy b h k) := by
  have hl := (List.getElem?_eq_some_iff.mp hk).1
  rw [am_wl_len] at hl
  rw [am_wl_get hl] at hk
  exact ⟨hl, (Option.some.inj hk).symm⟩
theorem am_wl_D {cy : Nat → ClassId} {b : Nat} {h : am_H} : va_D (fun q => b ≤ q) (am_wl cy b h) := by
  refine ⟨fun i j p q hi hj hpq => ?_, fun k q hk => ?_⟩
  · obtain ⟨_, rfl⟩ := am_wl_at hi
    obtain ⟨_, rfl⟩ := am_wl_at hj
    exact Nat.add_left_cancel hpq
  · obtain ⟨_, rfl⟩ := am_wl_at hk
    exact Nat.le_add_right _ _
theorem am_wl_set {cy : Nat → ClassId} {b : Nat} {h h' : am_H} {a : Nat} {e : va_E} (hl : h'.1 = h.1) (he : e = am_ce cy b h' a) (ho : ∀ c, c ≠ a → am_ce cy b h' c = am_ce cy b h c) : (am_wl cy b h).set a (b + a, e) = am_wl cy b h' := by
  subst he
  apply List.ext_getElem?
  intro k
  by_cases hk : k < h.1.length
  · by_cases ha : k = a
    · subst ha
      rw [List.getElem?_set_self (by rw [am_wl_len]; exact hk), am_wl_get (by rw [hl]; exact hk)]
    · rw [List.getElem?_set_ne (Ne.symm ha), am_wl_get hk, am_wl_get (by rw [hl]; exact hk), ho k ha]
  · rw [List.getElem?_eq_none (by rw [List.length_set, am_wl_len]; omega), List.getElem?_eq_none (by rw [am_wl_len, hl]; omega)]
theorem am_up_same {α : Type} (f : Nat → α) (k : Nat) (v : α) : va_up f k v k = v := by simp [va_up]
theorem am_up_ne {α : Type} (f : Nat → α) {k j : Nat} (v : α) (h : j ≠ k) : va_up f k v j = f j := by simp [va_up, h]
theorem am_ce_eq {cy : Nat → ClassId} {b : Nat} {h h' : am_H} {c : Nat} (hl : h'.1 = h.1) (h1 : h'.2.1 c = h.2.1 c) (h2 : h'.2.2.1 c = h.2.2.1 c) (h3 : h'.2.2.2.1 c = h.2.2.2.1 c) : am_ce cy b h' c = am_ce cy b h c := by
  have hk : am_kd h' c = am_kd h c := by unfold am_kd; rw [hl]
  unfold am_ce am_fs am_fv
  rw [hk, h1, h2, h3]
theorem am_ce_sI {cy : Nat → ClassId} {b : Nat} {h : am_H} {a k c : Nat} {x : Int32} (hc : c ≠ a) : am_ce cy b (am_sI h a k x) c = am_ce cy b h c := am_ce_eq rfl (am_up_ne _ _ hc) rfl rfl
theorem am_ce_sJ {cy : Nat → ClassId} {b : Nat} {h : am_H} {a k c : Nat} {x : Int64} (hc : c ≠ a) : am_ce cy b (am_sJ h a k x) c = am_ce cy b h c := am_ce_eq rfl rfl (am_up_ne _ _ hc) rfl
theorem am_ce_sR {cy : Nat → ClassId} {b : Nat} {h : am_H} {a k c x : Nat} (hc : c ≠ a) : am_ce cy b (am_sR h a k x) c = am_ce cy b h c := am_ce_eq rfl rfl rfl (am_up_ne _ _ hc)
theorem am_ce_cp {cy : Nat → ClassId} {b : Nat} {h : am_H} {a a0 c : Nat} (hc : c ≠ a) : am_ce cy b (am_cp h a a0) c = am_ce cy b h c := am_ce_eq rfl (am_up_ne _ _ hc) rfl rfl
theorem am_fs_len {b : Nat} {h : am_H} {a c : Nat} : (am_fs b h a c).length = (am_fty c).length := by simp [am_fs]
theorem am_fs_get {b : Nat} {h : am_H} {a c k t : Nat} (hk : k < (am_fty c).length) (ht : (am_fty c).getD k 9 = t) : (am_fs b h a c)[k]? = some (am_fv b h a k t) := by
  have e : (am_fty c)[k]? = some t := by
    rw [List.getElem?_eq_getElem hk]
    rw [List.getD_eq_getElem?_getD, List.getElem?_eq_getElem hk] at ht
    exact congrArg some ht
  simp [am_fs, List.getElem?_mapIdx, e]
theorem am_fs_set {b : Nat} {h h' : am_H} {a c k t : Nat} {v : Value} (hk : k < (am_fty c).length) (ht : (am_fty c).getD k 9 = t) (hv : am_fv b h' a k t = v) (ho : ∀ j t, j ≠ k → am_fv b h' a j t = am_fv b h a j t) : (am_fs b h a c).set k v = am_fs b h' a c := by
  apply List.ext_getElem?
  intro j
  by_cases hj : j = k
  · subst hj
    rw [List.getElem?_set_self (by rw [am_fs_len]; exact hk), am_fs_get hk ht, hv]
  · rw [List.getElem?_set_ne (Ne.symm hj)]
    simp only [am_fs, List.getElem?_mapIdx]
    cases (am_fty c)[j]? with
    | none => rfl
    | some t => simp [ho j t hj]
theorem am_fv_sI {b : Nat} {h : am_H} {a k j t : Nat} {x : Int32} (hj : j ≠ k) : am_fv b (am_sI h a k x) a j t = am_fv b h a j t := by
  simp [am_fv, am_sI, va_up, upd, hj]
theorem am_fv_sJ {b : Nat} {h : am_H} {a k j t : Nat} {x : Int64} (hj : j ≠ k) : am_fv b (am_sJ h a k x) a j t = am_fv b h a j t := by
  simp [am_fv, am_sJ, va_up, vp_updL, hj]
theorem am_fv_sR {b : Nat} {h : am_H} {a k j t x : Nat} (hj : j ≠ k) : am_fv b (am_sR h a k x) a j t = am_fv b h a j t := by
  simp [am_fv, am_sR, va_up, hj]
theorem am_kd_mk {h : am_H} {q : am_K} {a : Nat} (ha : a < h.1.length) : am_kd (am_mk h q) a = am_kd h a := by
  simp [am_kd, am_mk, List.getD_eq_getElem?_getD, List.getElem?_append_left ha]
theorem am_kd_mk_self {h : am_H} {q : am_K} : am_kd (am_mk h q) h.1.length = q := by
  simp [am_kd, am_mk, List.getD_eq_getElem?_getD]
theorem am_ce_mk {cy : Nat → ClassId} {b : Nat} {h : am_H} {q : am_K} {a : Nat} (ha : a < h.1.length) : am_ce cy b (am_mk h q) a = am_ce cy b h a := by
  have hn : a ≠ h.1.length := Nat.ne_of_lt ha
  unfold am_ce am_fs am_fv
  rw [am_kd_mk ha]
  simp [am_mk, va_up, hn]
theorem am_wl_mk {cy : Nat → ClassId} {b : Nat} {h : am_H} {q : am_K} {e : va_E} (he : e = am_ce cy b (am_mk h q) h.1.length) : am_wl cy b h ++ [(b + h.1.length, e)] = am_wl cy b (am_mk h q) := by
  subst he
  have hl : (am_mk h q).1.length = h.1.length + 1 := by simp [am_mk]
  apply List.ext_getElem?
  intro k
  by_cases hk : k < h.1.length
  · rw [List.getElem?_append_left (by rw [am_wl_len]; exact hk), am_wl_get hk, am_wl_get (by omega), am_ce_mk hk]
  · rw [List.getElem?_append_right (by rw [am_wl_len]; omega), am_wl_len]
    by_cases hk2 : k = h.1.length
    · subst hk2
      rw [Nat.sub_self, am_wl_get (by omega)]
      rfl
    · rw [List.getElem?_eq_none (by simp; omega), List.getElem?_eq_none (by rw [am_wl_len]; omega)]
def am_sl (ks : List am_K) : Nat := (ks.map (fun q => q.2)).sum
theorem am_sl_app (k1 k2 : List am_K) : am_sl (k1 ++ k2) = am_sl k1 + am_sl k2 := by simp [am_sl]
/-! locals -/
def am_lvl (b b0 : Nat) (ls : List Value) : List (Nat × Value) := (List.range ls.length).filterMap (fun i => (ls[i]?).bind (fun v => if v = Value.null then none else some (i, am_sh b b0 v)))
theorem am_lvl_mem {b b0 : Nat} {ls : List Value} {q : Nat × Value} : q ∈ am_lvl b b0 ls ↔ ∃ v, ls[q.1]? = some v ∧ v ≠ .null ∧ q.2 = am_sh b b0 v := by
  simp only [am_lvl, List.mem_filterMap, List.mem_range, Option.bind_eq_some_iff]
  constructor
  · rintro ⟨i, hi, v, hv, hq⟩
    split at hq
    · cases hq
    · next hn =>
      cases hq
      exact ⟨v, hv, hn, rfl⟩
  · rintro ⟨v, h1, h2, h3⟩
    refine ⟨q.1, (List.getElem?_eq_some_iff.mp h1).1, v, h1, ?_⟩
    rw [if_neg h2, ← h3]
theorem am_lv_at {b b0 nL : Nat} {ls : List Value} {lc : Array Slot} (h : lv_has lc nL (am_lvl b b0 ls)) {i : Nat} {v : Value} (hi : ls[i]? = some v) (hv : v ≠ .null) : lc[i]? = some (.val (am_sh b b0 v)) :=
  h.2.2 (i, am_sh b b0 v) (am_lvl_mem.mpr ⟨v, hi, hv, rfl⟩)
theorem am_sh_cat (b b0 : Nat) (v : Value) : (am_sh b b0 v).category = v.category := by cases v <;> rfl
theorem am_lv_st1 {b b0 nL : Nat} {ls ls' : List Value} {lc : Array Slot} {i : Nat} {v : Value} (hs : am_l1 ls i v = some ls') (h : lv_has lc nL ((i, am_sh b b0 v) :: (am_lvl b b0 ls).filter (fun q => !(q.1 == i) && !(q.1 + 1 == i && q.2.category == 2)))) : lv_has lc nL (am_lvl b b0 ls') := by
  unfold am_l1 at hs
  split at hs
  · next hlt =>
    split at hs
    · cases hs
    · next hc =>
      cases hs
      refine ⟨h.1, h.2.1, fun q hq => ?_⟩
      obtain ⟨w, h1, h2, h3⟩ := am_lvl_mem.mp hq
      by_cases hj : q.1 = i
      · rw [hj, List.getElem?_set_self hlt] at h1
        cases h1
        have := h.2.2 (i, am_sh b b0 v) List.mem_cons_self
        rw [hj, h3]
        exact this
      · rw [List.getElem?_set_ne (Ne.symm hj)] at h1
        refine h.2.2 q (List.mem_cons_of_mem _ (List.mem_filter.mpr ⟨am_lvl_mem.mpr ⟨w, h1, h2, h3⟩, ?_⟩))
        have e1 : (q.1 == i) = false := by simpa using hj
        rw [e1, h3, am_sh_cat]
        by_cases e2 : q.1 + 1 = i
        · have e3 : ls.getD (i - 1) .null = w := by
            have : i - 1 = q.1 := by omega
            rw [this, List.getD_eq_getElem?_getD, h1]
            rfl
          have e4 : ¬ w.category = 2 := fun e => hc ⟨by omega, by rw [e3]; exact e⟩
          simp [e4]
        · simp [e2]
  · cases hs
theorem am_lv_st2 {b b0 nL : Nat} {ls ls' : List Value} {lc : Array Slot} {i : Nat} {v : Value} (hs : am_l2 ls i v = some ls') (h : lv_has lc nL ((i, am_sh b b0 v) :: (am_lvl b b0 ls).filter (fun q => !(q.1 == i) && (!(q.1 == i + 1) && !(q.1 + 1 == i && q.2.category == 2))))) : lv_has lc nL (am_lvl b b0 ls') := by
  unfold am_l2 at hs
  split at hs
  · next hlt =>
    split at hs
    · cases hs
    · next hc =>
      cases hs
      refine ⟨h.1, h.2.1, fun q hq => ?_⟩
      obtain ⟨w, h1, h2, h3⟩ := am_lvl_mem.mp hq
      by_cases hj1 : q.1 = i + 1
      · rw [hj1, List.getElem?_set_self (by simp; omega)] at h1
        cases h1
        exact absurd rfl h2
      rw [List.getElem?_set_ne (Ne.symm hj1)] at h1
      by_cases hj : q.1 = i
      · rw [hj, List.getElem?_set_self (by omega)] at h1
        cases h1
        have := h.2.2 (i, am_sh b b0 v) List.mem_cons_self
        rw [hj, h3]
        exact this
      · rw [List.getElem?_set_ne (Ne.symm hj)] at h1
        refine h.2.2 q (List.mem_cons_of_mem _ (List.mem_filter.mpr ⟨am_lvl_mem.mpr ⟨w, h1, h2, h3⟩, ?_⟩))
        have e1 : (q.1 == i) = false := by simpa using hj
        have e0 : (q.1 == i + 1) = false := by simpa using hj1
        rw [e1, e0, h3, am_sh_cat]
        by_cases e2 : q.1 + 1 = i
        · have e3 : ls.getD (i - 1) .null = w := by
            have : i - 1 = q.1 := by omega
            rw [this, List.getD_eq_getElem?_getD, h1]
            rfl
          have e4 : ¬ w.category = 2 := fun e => hc ⟨by omega, by rw [e3]; exact e⟩
          simp [e4]
        · simp [e2]
  · cases hs
theorem am_l1_len {ls ls' : List Value} {i : Nat} {v : Value} (hs : am_l1 ls i v = some ls') : i < ls.length ∧ ls'.length = ls.length := by
  unfold am_l1 at hs
  split at hs
  · next hlt =>
    split at hs
    · cases hs
    · cases hs
      exact ⟨hlt, List.length_set ..⟩
  · cases hs
theorem am_l2_len {ls ls' : List Value} {i : Nat} {v : Value} (hs : am_l2 ls i v = some ls') : i + 1 < ls.length ∧ ls'.length = ls.length := by
  unfold am_l2 at hs
  split at hs
  · next hlt =>
    split at hs
    · cases hs
    · cases hs
      exact ⟨hlt, by simp⟩
  · cases hs
/-- the locals with which a method begins -/
theorem am_args_mem {vs : List Value} (hc : ∀ v ∈ vs, v.category = 1) : ∀ (k i : Nat) (v : Value), vs[i]? = some v → (k + i, v) ∈ lv_args k vs := by
  induction vs with
  | nil => intro k i v h; simp at h
  | cons w vs ih =>
    intro k i v h
    have hw : w.category = 1 := hc w List.mem_cons_self
    rw [lv_args]
    cases i with
    | zero =>
      rw [List.getElem?_cons_zero] at h
      cases h
      exact List.mem_cons_self
    | succ i =>
      rw [List.getElem?_cons_succ] at h
      rw [if_neg (by rw [hw]; decide)]
      have := ih (fun v hv => hc v (List.mem_cons_of_mem _ hv)) (k + 1) i v h
      rw [show k + (i + 1) = k + 1 + i by omega]
      exact List.mem_cons_of_mem _ this
theorem am_lv_entry {b b0 nL : Nat} {as : List Value} (hc : as.all am_c1 = true) {lc : Array Slot} (h : lv_has lc nL (lv_args 0 (as.map (am_sh b b0)))) (n : Nat) : lv_has lc nL (am_lvl b b0 (as ++ List.replicate n .null)) := by
  refine ⟨h.1, h.2.1, fun q hq => ?_⟩
  obtain ⟨v, h1, h2, h3⟩ := am_lvl_mem.mp hq
  have hl : q.1 < as.length := by
    rcases Nat.lt_or_ge q.1 as.length with z | z
    · exact z
    · exfalso
      rw [List.getElem?_append_right z] at h1
      have := List.mem_of_getElem? h1
      exact h2 (List.eq_of_mem_replicate this)
  rw [List.getElem?_append_left hl] at h1
  have hm := am_args_mem (vs := as.map (am_sh b b0)) (fun v hv => by
    obtain ⟨w, hw, rfl⟩ := List.mem_map.mp hv
    have := List.all_eq_true.mp hc w hw
    rw [am_sh_cat]
    cases w <;> first | rfl | (simp [am_c1] at this)) 0 q.1 (am_sh b b0 v) (by rw [List.getElem?_map, h1]; rfl)
  rw [Nat.zero_add] at hm
  have := h.2.2 _ hm
  rw [h3]
  exact this
