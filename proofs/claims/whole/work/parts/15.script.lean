/-! a run that does not look at the script is the same with every script -/
def am_sx (X : (Nat → Int32) × Nat) (h : am_H) : am_H := (h.1, h.2.1, h.2.2.1, h.2.2.2.1, X)
def am_sxa (X : (Nat → Int32) × Nat) : am_S → am_S
  | .inl q => .inl (q.1, q.2.1, q.2.2.1, am_sx X q.2.2.2)
  | .inr z => .inr z
section AMSX
variable {e : am_E} {pc len i t : Nat} {n off d lo hi : Int} {offs : Array Int} {ls st : List Value} {h : am_H} {a : am_S} {f : Int32 → Int32 → Int32} {fl : Int64 → Int64 → Int64} {w : Option (Nat × Nat × Nat × Bool)} {w2 : Option (Nat × am_E)} (X : (Nat → Int32) × Nat)
theorem am_x_nx (hs : am_nx pc ls st h = some a) : am_nx pc ls st (am_sx X h) = some (am_sxa X a) := by
  unfold am_nx at hs
  cases hs
  rfl
theorem am_x_jp (hs : am_jp pc off ls st h = some a) : am_jp pc off ls st (am_sx X h) = some (am_sxa X a) := by
  unfold am_jp at hs ⊢
  split at hs
  · next h0 =>
    rw [if_pos h0]
    exact am_x_nx X hs
  · cases hs
theorem am_x_br {cd : Prop} [Decidable cd] (hs : am_br cd pc off ls st h = some a) : am_br cd pc off ls st (am_sx X h) = some (am_sxa X a) := by
  unfold am_br at hs ⊢
  split at hs
  · next h0 =>
    rw [if_pos h0]
    split at hs
    · next hc =>
      rw [if_pos hc]
      exact am_x_nx X hs
    · next hc =>
      rw [if_neg hc]
      exact am_x_nx X hs
  · cases hs
theorem am_x_iload (hs : am_iload pc len ls st h i = some a) : am_iload pc len ls st (am_sx X h) i = some (am_sxa X a) := by
  unfold am_iload at hs ⊢
  repeat' split at hs
  all_goals first
    | (cases hs; done)
    | (simp_all [am_nx, am_sx, am_kd, Option.bind_eq_some_iff]; done)
    | (simp_all [am_nx, am_sx, am_kd, Option.bind_eq_some_iff]; subst hs; rfl)
    | (simp_all [am_nx, am_sx, am_kd, Option.bind_eq_some_iff]; obtain ⟨u, h1, h2⟩ := hs; exact ⟨u, h1, by subst h2; rfl⟩)
    | (simp_all [am_nx, am_sx, am_kd, Option.bind_eq_some_iff]; obtain ⟨u, h1, h2⟩ := hs; subst h2; exact ⟨u, h1, rfl⟩)
theorem am_x_lload (hs : am_lload pc len ls st h i = some a) : am_lload pc len ls st (am_sx X h) i = some (am_sxa X a) := by
  unfold am_lload at hs ⊢
  repeat' split at hs
  all_goals first
    | (cases hs; done)
    | (simp_all [am_nx, am_sx, am_kd, Option.bind_eq_some_iff]; done)
    | (simp_all [am_nx, am_sx, am_kd, Option.bind_eq_some_iff]; subst hs; rfl)
    | (simp_all [am_nx, am_sx, am_kd, Option.bind_eq_some_iff]; obtain ⟨u, h1, h2⟩ := hs; exact ⟨u, h1, by subst h2; rfl⟩)
    | (simp_all [am_nx, am_sx, am_kd, Option.bind_eq_some_iff]; obtain ⟨u, h1, h2⟩ := hs; subst h2; exact ⟨u, h1, rfl⟩)
theorem am_x_aload (hs : am_aload pc len ls st h i = some a) : am_aload pc len ls st (am_sx X h) i = some (am_sxa X a) := by
  unfold am_aload at hs ⊢
  repeat' split at hs
  all_goals first
    | (cases hs; done)
    | (simp_all [am_nx, am_sx, am_kd, Option.bind_eq_some_iff]; done)
    | (simp_all [am_nx, am_sx, am_kd, Option.bind_eq_some_iff]; subst hs; rfl)
    | (simp_all [am_nx, am_sx, am_kd, Option.bind_eq_some_iff]; obtain ⟨u, h1, h2⟩ := hs; exact ⟨u, h1, by subst h2; rfl⟩)
    | (simp_all [am_nx, am_sx, am_kd, Option.bind_eq_some_iff]; obtain ⟨u, h1, h2⟩ := hs; subst h2; exact ⟨u, h1, rfl⟩)
theorem am_x_bin (hs : am_bin f pc ls st h = some a) : am_bin f pc ls st (am_sx X h) = some (am_sxa X a) := by
  unfold am_bin at hs ⊢
  repeat' split at hs
  all_goals first
    | (cases hs; done)
    | (simp_all [am_nx, am_sx, am_kd, Option.bind_eq_some_iff]; done)
    | (simp_all [am_nx, am_sx, am_kd, Option.bind_eq_some_iff]; subst hs; rfl)
    | (simp_all [am_nx, am_sx, am_kd, Option.bind_eq_some_iff]; obtain ⟨u, h1, h2⟩ := hs; exact ⟨u, h1, by subst h2; rfl⟩)
    | (simp_all [am_nx, am_sx, am_kd, Option.bind_eq_some_iff]; obtain ⟨u, h1, h2⟩ := hs; subst h2; exact ⟨u, h1, rfl⟩)
theorem am_x_dvd (hs : am_dvd f pc ls st h = some a) : am_dvd f pc ls st (am_sx X h) = some (am_sxa X a) := by
  unfold am_dvd at hs ⊢
  repeat' split at hs
  all_goals first
    | (cases hs; done)
    | (simp_all [am_nx, am_sx, am_kd, Option.bind_eq_some_iff]; done)
    | (simp_all [am_nx, am_sx, am_kd, Option.bind_eq_some_iff]; subst hs; rfl)
    | (simp_all [am_nx, am_sx, am_kd, Option.bind_eq_some_iff]; obtain ⟨u, h1, h2⟩ := hs; exact ⟨u, h1, by subst h2; rfl⟩)
    | (simp_all [am_nx, am_sx, am_kd, Option.bind_eq_some_iff]; obtain ⟨u, h1, h2⟩ := hs; subst h2; exact ⟨u, h1, rfl⟩)
theorem am_x_binL (hs : am_binL fl pc ls st h = some a) : am_binL fl pc ls st (am_sx X h) = some (am_sxa X a) := by
  unfold am_binL at hs ⊢
  repeat' split at hs
  all_goals first
    | (cases hs; done)
    | (simp_all [am_nx, am_sx, am_kd, Option.bind_eq_some_iff]; done)
    | (simp_all [am_nx, am_sx, am_kd, Option.bind_eq_some_iff]; subst hs; rfl)
    | (simp_all [am_nx, am_sx, am_kd, Option.bind_eq_some_iff]; obtain ⟨u, h1, h2⟩ := hs; exact ⟨u, h1, by subst h2; rfl⟩)
    | (simp_all [am_nx, am_sx, am_kd, Option.bind_eq_some_iff]; obtain ⟨u, h1, h2⟩ := hs; subst h2; exact ⟨u, h1, rfl⟩)
theorem am_x_dvdL (hs : am_dvdL fl pc ls st h = some a) : am_dvdL fl pc ls st (am_sx X h) = some (am_sxa X a) := by
  unfold am_dvdL at hs ⊢
  repeat' split at hs
  all_goals first
    | (cases hs; done)
    | (simp_all [am_nx, am_sx, am_kd, Option.bind_eq_some_iff]; done)
    | (simp_all [am_nx, am_sx, am_kd, Option.bind_eq_some_iff]; subst hs; rfl)
    | (simp_all [am_nx, am_sx, am_kd, Option.bind_eq_some_iff]; obtain ⟨u, h1, h2⟩ := hs; exact ⟨u, h1, by subst h2; rfl⟩)
    | (simp_all [am_nx, am_sx, am_kd, Option.bind_eq_some_iff]; obtain ⟨u, h1, h2⟩ := hs; subst h2; exact ⟨u, h1, rfl⟩)
theorem am_x_gfx (hs : am_gfx w pc ls st h = some a) : am_gfx w pc ls st (am_sx X h) = some (am_sxa X a) := by
  unfold am_gfx at hs ⊢
  repeat' split at hs
  all_goals first
    | (cases hs; done)
    | (simp_all [am_nx, am_sx, am_kd, Option.bind_eq_some_iff]; done)
    | (simp_all [am_nx, am_sx, am_kd, Option.bind_eq_some_iff]; subst hs; rfl)
    | (simp_all [am_nx, am_sx, am_kd, Option.bind_eq_some_iff]; obtain ⟨u, h1, h2⟩ := hs; exact ⟨u, h1, by subst h2; rfl⟩)
    | (simp_all [am_nx, am_sx, am_kd, Option.bind_eq_some_iff]; obtain ⟨u, h1, h2⟩ := hs; subst h2; exact ⟨u, h1, rfl⟩)
theorem am_x_pfx (hs : am_pfx w e pc ls st h = some a) : am_pfx w e pc ls st (am_sx X h) = some (am_sxa X a) := by
  unfold am_pfx at hs ⊢
  repeat' split at hs
  all_goals first
    | (cases hs; done)
    | (simp_all [am_nx, am_sx, am_kd, Option.bind_eq_some_iff]; done)
    | (simp_all [am_nx, am_sx, am_kd, Option.bind_eq_some_iff]; subst hs; rfl)
    | (simp_all [am_nx, am_sx, am_kd, Option.bind_eq_some_iff]; obtain ⟨u, h1, h2⟩ := hs; exact ⟨u, h1, by subst h2; rfl⟩)
    | (simp_all [am_nx, am_sx, am_kd, Option.bind_eq_some_iff]; obtain ⟨u, h1, h2⟩ := hs; subst h2; exact ⟨u, h1, rfl⟩)
theorem am_x_aldJ (hs : am_aldJ pc ls st h = some a) : am_aldJ pc ls st (am_sx X h) = some (am_sxa X a) := by
  unfold am_aldJ at hs ⊢
  repeat' split at hs
  all_goals first
    | (cases hs; done)
    | (simp_all [am_nx, am_sx, am_kd, Option.bind_eq_some_iff]; done)
    | (simp_all [am_nx, am_sx, am_kd, Option.bind_eq_some_iff]; subst hs; rfl)
    | (simp_all [am_nx, am_sx, am_kd, Option.bind_eq_some_iff]; obtain ⟨u, h1, h2⟩ := hs; exact ⟨u, h1, by subst h2; rfl⟩)
    | (simp_all [am_nx, am_sx, am_kd, Option.bind_eq_some_iff]; obtain ⟨u, h1, h2⟩ := hs; subst h2; exact ⟨u, h1, rfl⟩)
theorem am_x_ast (hs : am_ast pc ls st h = some a) : am_ast pc ls st (am_sx X h) = some (am_sxa X a) := by
  unfold am_ast at hs ⊢
  repeat' split at hs
  all_goals first
    | (cases hs; done)
    | (simp_all [am_nx, am_sx, am_kd, Option.bind_eq_some_iff]; done)
    | (simp_all [am_nx, am_sx, am_kd, Option.bind_eq_some_iff]; subst hs; rfl)
    | (simp_all [am_nx, am_sx, am_kd, Option.bind_eq_some_iff]; obtain ⟨u, h1, h2⟩ := hs; exact ⟨u, h1, by subst h2; rfl⟩)
    | (simp_all [am_nx, am_sx, am_kd, Option.bind_eq_some_iff]; obtain ⟨u, h1, h2⟩ := hs; subst h2; exact ⟨u, h1, rfl⟩)
theorem am_x_astZ (hs : am_astZ pc ls st h = some a) : am_astZ pc ls st (am_sx X h) = some (am_sxa X a) := by
  unfold am_astZ at hs ⊢
  repeat' split at hs
  all_goals first
    | (cases hs; done)
    | (simp_all [am_nx, am_sx, am_kd, Option.bind_eq_some_iff]; done)
    | (simp_all [am_nx, am_sx, am_kd, Option.bind_eq_some_iff]; subst hs; rfl)
    | (simp_all [am_nx, am_sx, am_kd, Option.bind_eq_some_iff]; obtain ⟨u, h1, h2⟩ := hs; exact ⟨u, h1, by subst h2; rfl⟩)
    | (simp_all [am_nx, am_sx, am_kd, Option.bind_eq_some_iff]; obtain ⟨u, h1, h2⟩ := hs; subst h2; exact ⟨u, h1, rfl⟩)
theorem am_x_astJ (hs : am_astJ pc ls st h = some a) : am_astJ pc ls st (am_sx X h) = some (am_sxa X a) := by
  unfold am_astJ at hs ⊢
  repeat' split at hs
  all_goals first
    | (cases hs; done)
    | (simp_all [am_nx, am_sx, am_kd, Option.bind_eq_some_iff]; done)
    | (simp_all [am_nx, am_sx, am_kd, Option.bind_eq_some_iff]; subst hs; rfl)
    | (simp_all [am_nx, am_sx, am_kd, Option.bind_eq_some_iff]; obtain ⟨u, h1, h2⟩ := hs; exact ⟨u, h1, by subst h2; rfl⟩)
    | (simp_all [am_nx, am_sx, am_kd, Option.bind_eq_some_iff]; obtain ⟨u, h1, h2⟩ := hs; subst h2; exact ⟨u, h1, rfl⟩)
theorem am_x_astR (hs : am_astR pc ls st h = some a) : am_astR pc ls st (am_sx X h) = some (am_sxa X a) := by
  unfold am_astR at hs ⊢
  repeat' split at hs
  all_goals first
    | (cases hs; done)
    | (simp_all [am_nx, am_sx, am_kd, Option.bind_eq_some_iff]; done)
    | (simp_all [am_nx, am_sx, am_kd, Option.bind_eq_some_iff]; subst hs; rfl)
    | (simp_all [am_nx, am_sx, am_kd, Option.bind_eq_some_iff]; obtain ⟨u, h1, h2⟩ := hs; exact ⟨u, h1, by subst h2; rfl⟩)
    | (simp_all [am_nx, am_sx, am_kd, Option.bind_eq_some_iff]; obtain ⟨u, h1, h2⟩ := hs; subst h2; exact ⟨u, h1, rfl⟩)
theorem am_x_nwa (hs : am_nwa pc len ls st h t = some a) : am_nwa pc len ls st (am_sx X h) t = some (am_sxa X a) := by
  unfold am_nwa at hs ⊢
  repeat' split at hs
  all_goals first
    | (cases hs; done)
    | (simp_all [am_nx, am_sx, am_kd, Option.bind_eq_some_iff]; done)
    | (simp_all [am_nx, am_sx, am_kd, Option.bind_eq_some_iff]; subst hs; rfl)
    | (simp_all [am_nx, am_sx, am_kd, Option.bind_eq_some_iff]; obtain ⟨u, h1, h2⟩ := hs; exact ⟨u, h1, by subst h2; rfl⟩)
    | (simp_all [am_nx, am_sx, am_kd, Option.bind_eq_some_iff]; obtain ⟨u, h1, h2⟩ := hs; subst h2; exact ⟨u, h1, rfl⟩)
theorem am_x_obj (hs : am_obj w2 e pc ls st h = some a) : am_obj w2 e pc ls st (am_sx X h) = some (am_sxa X a) := by
  unfold am_obj at hs ⊢
  repeat' split at hs
  all_goals first
    | (cases hs; done)
    | (simp_all [am_nx, am_sx, am_kd, Option.bind_eq_some_iff]; done)
    | (simp_all [am_nx, am_sx, am_kd, Option.bind_eq_some_iff]; subst hs; rfl)
    | (simp_all [am_nx, am_sx, am_kd, Option.bind_eq_some_iff]; obtain ⟨u, h1, h2⟩ := hs; exact ⟨u, h1, by subst h2; rfl⟩)
    | (simp_all [am_nx, am_sx, am_kd, Option.bind_eq_some_iff]; obtain ⟨u, h1, h2⟩ := hs; subst h2; exact ⟨u, h1, rfl⟩)
theorem am_x_acp (hs : am_acp w2 e pc ls st h = some a) : am_acp w2 e pc ls st (am_sx X h) = some (am_sxa X a) := by
  unfold am_acp at hs ⊢
  repeat' split at hs
  all_goals first
    | (cases hs; done)
    | (simp_all [am_nx, am_sx, am_kd, Option.bind_eq_some_iff]; done)
    | (simp_all [am_nx, am_sx, am_kd, Option.bind_eq_some_iff]; subst hs; rfl)
    | (simp_all [am_nx, am_sx, am_kd, Option.bind_eq_some_iff]; obtain ⟨u, h1, h2⟩ := hs; exact ⟨u, h1, by subst h2; rfl⟩)
    | (simp_all [am_nx, am_sx, am_kd, Option.bind_eq_some_iff]; obtain ⟨u, h1, h2⟩ := hs; subst h2; exact ⟨u, h1, rfl⟩)
theorem am_x_istore (hs : am_istore pc len ls st h i = some a) : am_istore pc len ls st (am_sx X h) i = some (am_sxa X a) := by
  unfold am_istore at hs ⊢
  repeat' split at hs
  all_goals first
    | (cases hs; done)
    | (simp_all [am_nx, am_sx, am_kd, Option.bind_eq_some_iff]; done)
    | (simp_all [am_nx, am_sx, am_kd, Option.bind_eq_some_iff]; subst hs; rfl)
    | (simp_all [am_nx, am_sx, am_kd, Option.bind_eq_some_iff]; obtain ⟨u, h1, h2⟩ := hs; exact ⟨u, h1, by subst h2; rfl⟩)
    | (simp_all [am_nx, am_sx, am_kd, Option.bind_eq_some_iff]; obtain ⟨u, h1, h2⟩ := hs; subst h2; exact ⟨u, h1, rfl⟩)
theorem am_x_astore (hs : am_astore pc len ls st h i = some a) : am_astore pc len ls st (am_sx X h) i = some (am_sxa X a) := by
  unfold am_astore at hs ⊢
  repeat' split at hs
  all_goals first
    | (cases hs; done)
    | (simp_all [am_nx, am_sx, am_kd, Option.bind_eq_some_iff]; done)
    | (simp_all [am_nx, am_sx, am_kd, Option.bind_eq_some_iff]; subst hs; rfl)
    | (simp_all [am_nx, am_sx, am_kd, Option.bind_eq_some_iff]; obtain ⟨u, h1, h2⟩ := hs; exact ⟨u, h1, by subst h2; rfl⟩)
    | (simp_all [am_nx, am_sx, am_kd, Option.bind_eq_some_iff]; obtain ⟨u, h1, h2⟩ := hs; subst h2; exact ⟨u, h1, rfl⟩)
theorem am_x_lstore (hs : am_lstore pc len ls st h i = some a) : am_lstore pc len ls st (am_sx X h) i = some (am_sxa X a) := by
  unfold am_lstore at hs ⊢
  repeat' split at hs
  all_goals first
    | (cases hs; done)
    | (simp_all [am_nx, am_sx, am_kd, Option.bind_eq_some_iff]; done)
    | (simp_all [am_nx, am_sx, am_kd, Option.bind_eq_some_iff]; subst hs; rfl)
    | (simp_all [am_nx, am_sx, am_kd, Option.bind_eq_some_iff]; obtain ⟨u, h1, h2⟩ := hs; exact ⟨u, h1, by subst h2; rfl⟩)
    | (simp_all [am_nx, am_sx, am_kd, Option.bind_eq_some_iff]; obtain ⟨u, h1, h2⟩ := hs; subst h2; exact ⟨u, h1, rfl⟩)
theorem am_x_iinc (hs : am_iinc pc ls st h i n = some a) : am_iinc pc ls st (am_sx X h) i n = some (am_sxa X a) := by
  unfold am_iinc at hs ⊢
  repeat' split at hs
  all_goals first
    | (cases hs; done)
    | (simp_all [am_nx, am_sx, am_kd, Option.bind_eq_some_iff]; done)
    | (simp_all [am_nx, am_sx, am_kd, Option.bind_eq_some_iff]; subst hs; rfl)
    | (simp_all [am_nx, am_sx, am_kd, Option.bind_eq_some_iff]; obtain ⟨u, h1, h2⟩ := hs; exact ⟨u, h1, by subst h2; rfl⟩)
    | (simp_all [am_nx, am_sx, am_kd, Option.bind_eq_some_iff]; obtain ⟨u, h1, h2⟩ := hs; subst h2; exact ⟨u, h1, rfl⟩)
theorem am_x_aldR (hs : am_aldR pc ls st h = some a) : am_aldR pc ls st (am_sx X h) = some (am_sxa X a) := by
  unfold am_aldR at hs ⊢
  repeat' split at hs
  all_goals first
    | (cases hs; done)
    | (simp_all [am_nx, am_sx, am_kd, Option.bind_eq_some_iff]; done)
    | (simp_all [am_nx, am_sx, am_kd, Option.bind_eq_some_iff]; subst hs; rfl)
    | (simp_all [am_nx, am_sx, am_kd, Option.bind_eq_some_iff]; obtain ⟨u, h1, h2⟩ := hs; exact ⟨u, h1, by subst h2; rfl⟩)
    | (simp_all [am_nx, am_sx, am_kd, Option.bind_eq_some_iff]; obtain ⟨u, h1, h2⟩ := hs; subst h2; exact ⟨u, h1, rfl⟩)
theorem am_x_mx (hs : am_mx w2 e pc ls st h = some a) : am_mx w2 e pc ls st (am_sx X h) = some (am_sxa X a) := by
  unfold am_mx at hs ⊢
  split at hs
  · split at hs
    · next hr =>
      simp only [if_pos hr]
      exact am_x_nx X hs
    · cases hs
  · cases hs
theorem am_x_ald (hL : h.2.2.2.2.2 = 1000) (hs : am_ald pc ls st h t = some a) : am_ald pc ls st (am_sx X h) t = some (am_sxa X a) := by
  unfold am_ald at hs ⊢
  split at hs
  · split at hs
    · next hr =>
      have hr2 : (am_kd (am_sx X h) _).1 = t ∧ am_in _ (am_kd (am_sx X h) _).2 := hr
      simp only [if_pos hr2]
      exact am_x_nx X hs
    · cases hs
  · split at hs
    · next hr =>
      rw [hL] at hr
      omega
    · cases hs
  · cases hs
theorem am_x_aln (hL : h.2.2.2.2.2 = 1000) (hs : am_aln pc ls st h = some a) : am_aln pc ls st (am_sx X h) = some (am_sxa X a) := by
  unfold am_aln at hs
  split at hs
  · split at hs
    · next hr =>
      rw [hL] at hr
      omega
    · cases hs
  · cases hs
theorem am_x_tsw (hs : am_tsw pc ls st h d lo hi offs = some a) : am_tsw pc ls st (am_sx X h) d lo hi offs = some (am_sxa X a) := by
  unfold am_tsw at hs ⊢
  split at hs
  · split at hs
    · next hr =>
      simp only [if_pos hr]
      exact am_x_jp X hs
    · next hr =>
      simp only [if_neg hr]
      simp only [Option.bind_eq_some_iff] at hs ⊢
      obtain ⟨u, h1, h2⟩ := hs
      exact ⟨u, h1, am_x_jp X h2⟩
  · cases hs
theorem am_x_call {ok : Nat → Bool} (hs : am_call w2 ok e pc ls st h = some a) : am_call w2 ok e pc ls st (am_sx X h) = some (am_sxa X a) := by
  have e1 : ∀ k e2, am_cok e e2 k st (am_sx X h) = am_cok e e2 k st h := fun _ _ => rfl
  unfold am_call at hs ⊢
  split at hs
  · split at hs
    · next h1 =>
      split at hs
      · next h2 =>
        simp only [e1, if_pos h1, if_pos h2]
        cases hs
        rfl
      · cases hs
    · cases hs
  · cases hs
theorem am_x_eq (hs : am_eq pc ls st h off = some a) : am_eq pc ls st (am_sx X h) off = some (am_sxa X a) := by
  unfold am_eq at hs ⊢
  split at hs
  · exact am_x_br X hs
  · cases hs
theorem am_x_ieq (hs : am_ieq pc ls st h off = some a) : am_ieq pc ls st (am_sx X h) off = some (am_sxa X a) := by
  unfold am_ieq at hs ⊢
  split at hs
  · exact am_x_br X hs
  · cases hs
theorem am_x_ne (hs : am_ne pc ls st h off = some a) : am_ne pc ls st (am_sx X h) off = some (am_sxa X a) := by
  unfold am_ne at hs ⊢
  split at hs
  · exact am_x_br X hs
  · cases hs
theorem am_x_ine (hs : am_ine pc ls st h off = some a) : am_ine pc ls st (am_sx X h) off = some (am_sxa X a) := by
  unfold am_ine at hs ⊢
  split at hs
  · exact am_x_br X hs
  · cases hs
theorem am_x_lt (hs : am_lt pc ls st h off = some a) : am_lt pc ls st (am_sx X h) off = some (am_sxa X a) := by
  unfold am_lt at hs ⊢
  split at hs
  · exact am_x_br X hs
  · cases hs
theorem am_x_ilt (hs : am_ilt pc ls st h off = some a) : am_ilt pc ls st (am_sx X h) off = some (am_sxa X a) := by
  unfold am_ilt at hs ⊢
  split at hs
  · exact am_x_br X hs
  · cases hs
theorem am_x_ge (hs : am_ge pc ls st h off = some a) : am_ge pc ls st (am_sx X h) off = some (am_sxa X a) := by
  unfold am_ge at hs ⊢
  split at hs
  · exact am_x_br X hs
  · cases hs
theorem am_x_ige (hs : am_ige pc ls st h off = some a) : am_ige pc ls st (am_sx X h) off = some (am_sxa X a) := by
  unfold am_ige at hs ⊢
  split at hs
  · exact am_x_br X hs
  · cases hs
theorem am_x_gt (hs : am_gt pc ls st h off = some a) : am_gt pc ls st (am_sx X h) off = some (am_sxa X a) := by
  unfold am_gt at hs ⊢
  split at hs
  · exact am_x_br X hs
  · cases hs
theorem am_x_igt (hs : am_igt pc ls st h off = some a) : am_igt pc ls st (am_sx X h) off = some (am_sxa X a) := by
  unfold am_igt at hs ⊢
  split at hs
  · exact am_x_br X hs
  · cases hs
theorem am_x_le (hs : am_le pc ls st h off = some a) : am_le pc ls st (am_sx X h) off = some (am_sxa X a) := by
  unfold am_le at hs ⊢
  split at hs
  · exact am_x_br X hs
  · cases hs
theorem am_x_ile (hs : am_ile pc ls st h off = some a) : am_ile pc ls st (am_sx X h) off = some (am_sxa X a) := by
  unfold am_ile at hs ⊢
  split at hs
  · exact am_x_br X hs
  · cases hs
theorem am_x_or {u v u' v' : Option am_S} (hs : u.or v = some a) (h1 : ∀ a, u = some a → u' = some (am_sxa X a)) (h2 : ∀ a, v = some a → v' = some (am_sxa X a)) (h3 : u = none → u' = none) : u'.or v' = some (am_sxa X a) := by
  rcases Option.or_eq_some_iff.mp hs with q | ⟨q, q2⟩
  · rw [h1 a q]; rfl
  · rw [h3 q, h2 a q2]; rfl
theorem am_xn_acp (hs : am_acp w2 e pc ls st h = none) : am_acp w2 e pc ls st (am_sx X h) = none := by
  unfold am_acp at hs ⊢
  split at hs
  · split at hs
    · cases hs
    · next hr =>
      have hr2 : ¬ (_ ∧ _ ∧ _ ∧ _ ∧ _ ∧ am_kd (am_sx X h) _ = _ ∧ am_kd (am_sx X h) _ = _) := hr
      simp only [if_neg hr2]
  · rfl
theorem am_xn_mx (hs : am_mx w2 e pc ls st h = none) : am_mx w2 e pc ls st (am_sx X h) = none := by
  unfold am_mx at hs ⊢
  split at hs
  · split at hs
    · cases hs
    · next hr => simp only [if_neg hr]
  · rfl
theorem am_xn_obj (hs : am_obj w2 e pc ls st h = none) : am_obj w2 e pc ls st (am_sx X h) = none := by
  unfold am_obj at hs ⊢
  split at hs
  · split at hs
    · cases hs
    · next hr => simp only [if_neg hr]
  · rfl
set_option maxHeartbeats 4000000 in
theorem am_x_stp {i : Instr} (hL : h.2.2.2.2.2 = 1000) (hs : am_stp e pc ls st h i len = some a) : am_stp e pc ls st (am_sx X h) i len = some (am_sxa X a) := by
  unfold am_stp at hs ⊢
  split at hs
  all_goals first
    | (cases hs; done)
    | with_reducible exact am_x_tsw X hs
    | skip
  all_goals split at hs
  all_goals first
    | (cases hs; done)
    | skip
  all_goals (next hlen => simp only [if_pos hlen]; first
      | with_reducible exact am_x_iload X hs
      | with_reducible exact am_x_lload X hs
      | with_reducible exact am_x_aload X hs
      | with_reducible exact am_x_istore X hs
      | with_reducible exact am_x_astore X hs
      | with_reducible exact am_x_lstore X hs
      | with_reducible exact am_x_iinc X hs
      | with_reducible exact am_x_bin X hs
      | with_reducible exact am_x_dvd X hs
      | with_reducible exact am_x_binL X hs
      | with_reducible exact am_x_dvdL X hs
      | with_reducible exact am_x_jp X hs
      | with_reducible exact am_x_eq X hs
      | with_reducible exact am_x_ne X hs
      | with_reducible exact am_x_lt X hs
      | with_reducible exact am_x_ge X hs
      | with_reducible exact am_x_gt X hs
      | with_reducible exact am_x_le X hs
      | with_reducible exact am_x_ieq X hs
      | with_reducible exact am_x_ine X hs
      | with_reducible exact am_x_ilt X hs
      | with_reducible exact am_x_ige X hs
      | with_reducible exact am_x_igt X hs
      | with_reducible exact am_x_ile X hs
      | with_reducible exact am_x_gfx X hs
      | with_reducible exact am_x_pfx X hs
      | with_reducible exact am_x_aldJ X hs
      | with_reducible exact am_x_aldR X hs
      | with_reducible exact am_x_ast X hs
      | with_reducible exact am_x_astZ X hs
      | with_reducible exact am_x_astJ X hs
      | with_reducible exact am_x_astR X hs
      | with_reducible exact am_x_nwa X hs
      | with_reducible exact am_x_nx X hs
      | with_reducible exact am_x_call X hs
      | with_reducible exact am_x_ald X hL hs
      | with_reducible exact am_x_aln X hL hs
      | exact am_x_or X hs (fun a h => am_x_acp X h) (fun a h => am_x_or X h (fun a h => am_x_mx X h) (fun a h => am_x_call X h) (am_xn_mx X)) (am_xn_acp X)
      | exact am_x_or X hs (fun a h => am_x_obj X h) (fun a h => am_x_call X h) (am_xn_obj X)
      | (simp only [Option.bind_eq_some_iff] at hs ⊢; obtain ⟨u, h1, h2⟩ := hs; exact ⟨u, h1, am_x_nx X h2⟩)
      | (simp only [Option.bind_eq_some_iff] at hs ⊢; obtain ⟨u, h1, h2⟩ := hs; exact ⟨u, h1, by split at h2; (next h4 => rw [if_pos h4]; exact am_x_nwa X h2); (cases h2)⟩)
      | (split at hs; exact am_x_nx X hs; cases hs)
      | (split at hs; (split at hs; (next h4 => simp only [if_pos h4]; exact am_x_nx X hs); cases hs); cases hs)
      | (split at hs; (split at hs; (next h4 => simp only [if_pos h4]; cases hs; rfl); cases hs); cases hs))
theorem am_x_run : ∀ (n : Nat) {e : am_E} {pc : Nat} {ls st : List Value} {h h' : am_H} {v : Option Value}, h.2.2.2.2.2 = 1000 → am_run n e pc ls st h = some (v, h') → am_run n e pc ls st (am_sx X h) = some (v, am_sx X h')
  | 0, e, pc, ls, st, h, h', v, _, hr => by simp [am_run] at hr
  | n + 1, e, pc, ls, st, h, h', v, hL, hr => by
    rw [am_run] at hr ⊢
    cases hq : am_at e pc ls st h with
    | none => rw [hq] at hr; cases hr
    | some a =>
      have hq2 : am_at e pc ls st (am_sx X h) = some (am_sxa X a) := by
        unfold am_at at hq ⊢
        split at hq
        · exact am_x_stp X hL hq
        · cases hq
      have hx : ∀ q, a = .inl q → q.2.2.2.2.2.2.2.2 = 1000 := fun q hqa => by
        subst hqa
        have h0 : am_ext h q.2.2.2 := by
          unfold am_at at hq
          split at hq
          · exact am_stp_ext hq
          · cases hq
        rw [h0.2]
        exact hL
      rw [hq] at hr
      rw [hq2]
      match a, hr, hx with
      | .inl q, hr, hx => exact am_x_run n (hx q rfl) hr
      | .inr (.inl v), hr, _ => cases hr; rfl
      | .inr (.inr q), hr, _ =>
        simp only [am_sxa] at hr ⊢
        cases h2 : am_run n q.1 0 (am_loc q.1 q.2.1) [] h with
        | none => rw [h2] at hr; cases hr
        | some r2 =>
          rw [h2] at hr
          rw [am_x_run n hL h2]
          simp only
          have h0 := (am_run_ext n h2).2
          exact am_x_run n (by rw [h0]; exact hL) hr
end AMSX
