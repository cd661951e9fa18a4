/-! a run that does not look at the script is the same with every script -/
def am_sx (X : (Nat → Int32) × Nat) (h : am_H) : am_H := (h.1, h.2.1, h.2.2.1, h.2.2.2.1, X)
def am_sxa (X : (Nat → Int32) × Nat) : am_S → am_S
  | .inl q => .inl (q.1, q.2.1, q.2.2.1, am_sx X q.2.2.2)
  | .inr z => .inr z
section AMSX
variable {e : am_E} {pc len i t : Nat} {n off d lo hi : Int} {offs : Array Int} {ls st : List Value} {h : am_H} {a : am_S} {f : Int32 → Int32 → Int32} {fl : Int64 → Int64 → Int64} {w : Option (Nat × Nat × Nat × Bool)} {w2 : Option (Nat × am_E)} (X : (Nat → Int32) × Nat)
theorem am_x_nx (hs : am_nx pc ls st h = some a) : am_nx pc ls st (am_sx X h) = some (am_sxa X a) := by
  unfold am_nx at hs
  cases hs
  rfl
theorem am_x_jp (hs : am_jp pc off ls st h = some a) : am_jp pc off ls st (am_sx X h) = some (am_sxa X a) := by
  unfold am_jp at hs ⊢
  split at hs
  · next h0 =>
    rw [if_pos h0]
    exact am_x_nx X hs
  · cases hs
theorem am_x_br {cd : Prop} [Decidable cd] (hs : am_br cd pc off ls st h = some a) : am_br cd pc off ls st (am_sx X h) = some (am_sxa X a) := by
  unfold am_br at hs ⊢
  split at hs
  · next h0 =>
    rw [if_pos h0]
    split at hs
    · next hc =>
      rw [if_pos hc]
      exact am_x_nx X hs
    · next hc =>
      rw [if_neg hc]
      exact am_x_nx X hs
  · cases hs
theorem am_x_iload (hs : am_iload pc len ls st h i = some a) : am_iload pc len ls st (am_sx X h) i = some (am_sxa X a) := by
  unfold am_iload at hs ⊢
  repeat' split at hs
  all_goals first
    | (cases hs; done)
    | (simp_all [am_nx, am_sx, am_kd, Option.bind_eq_some_iff]; done)
    | (simp_all [am_nx, am_sx, am_kd, Option.bind_eq_some_iff]; subst hs; rfl)
    | (simp_all [am_nx, am_sx, am_kd, Option.bind_eq_some_iff]; obtain ⟨u, h1, h2⟩ := hs; exact ⟨u, h1, by subst h2; rfl⟩)
    | (simp_all [am_nx, am_sx, am_kd, Option.bind_eq_some_iff]; obtain ⟨u, h1, h2⟩ := hs; subst h2; exact ⟨u, h1, rfl⟩)
theorem am_x_lload (hs : am_lload pc len ls st h i = some a) : am_lload pc len ls st (am_sx X h) i = some (am_sxa X a) := by
  unfold am_lload at hs ⊢
  repeat' split at hs
  all_goals first
    | (cases hs; done)
    | (simp_all [am_nx, am_sx, am_kd, Option.bind_eq_some_iff]; done)
    | (simp_all [am_nx, am_sx, am_kd, Option.bind_eq_some_iff]; subst hs; rfl)
    | (simp_all [am_nx, am_sx, am_kd, Option.bind_eq_some_iff]; obtain ⟨u, h1, h2⟩ := hs; exact ⟨u, h1, by subst h2; rfl⟩)
    | (simp_all [am_nx, am_sx, am_kd, Option.bind_eq_some_iff]; obtain ⟨u, h1, h2⟩ := hs; subst h2; exact ⟨u, h1, rfl⟩)
theorem am_x_aload (hs : am_aload pc len ls st h i = some a) : am_aload pc len ls st (am_sx X h) i = some (am_sxa X a) := by
  unfold am_aload at hs ⊢
  repeat' split at hs
  all_goals first
    | (cases hs; done)
    | (simp_all [am_nx, am_sx, am_kd, Option.bind_eq_some_iff]; done)
    | (simp_all [am_nx, am_sx, am_kd, Option.bind_eq_some_iff]; subst hs; rfl)
    | (simp_all [am_nx, am_sx, am_kd, Option.bind_eq_some_iff]; obtain ⟨u, h1, h2⟩ := hs; exact ⟨u, h1, by subst h2; rfl⟩)
    | (simp_all [am_nx, am_sx, am_kd, Option.bind_eq_some_iff]; obtain ⟨u, h1, h2⟩ := hs; subst h2; exact ⟨u, h1, rfl⟩)
theorem am_x_bin (hs : am_bin f pc ls st h = some a) : am_bin f pc ls st (am_sx X h) = some (am_sxa X a) := by
  unfold am_bin at hs ⊢
  repeat' split at hs
  all_goals first
    | (cases hs; done)
    | (simp_all [am_nx, am_sx, am_kd, Option.bind_eq_some_iff]; done)
    | (simp_all [am_nx, am_sx, am_kd, Option.bind_eq_some_iff]; subst hs; rfl)
    | (simp_all [am_nx, am_sx, am_kd, Option.bind_eq_some_iff]; obtain ⟨u, h1, h2⟩ := hs; exact ⟨u, h1, by subst h2; rfl⟩)
    | (simp_all [am_nx, am_sx, am_kd, Option.bind_eq_some_iff]; obtain ⟨u, h1, h2⟩ := hs; subst h2; exact ⟨u, h1, rfl⟩)
theorem am_x_dvd (hs : am_dvd f pc ls st h = some a) : am_dvd f pc ls st (am_sx X h) = some (am_sxa X a) := by
  unfold am_dvd at hs ⊢
  repeat' split at hs
  all_goals first
    | (cases hs; done)
    | (simp_all [am_nx, am_sx, am_kd, Option.bind_eq_some_iff]; done)
    | (simp_all [am_nx, am_sx, am_kd, Option.bind_eq_some_iff]; subst hs; rfl)
    | (simp_all [am_nx, am_sx, am_kd, Option.bind_eq_some_iff]; obtain ⟨u, h1, h2⟩ := hs; exact ⟨u, h1, by subst h2; rfl⟩)
    | (simp_all [am_nx, am_sx, am_kd, Option.bind_eq_some_iff]; obtain ⟨u, h1, h2⟩ := hs; subst h2; exact ⟨u, h1, rfl⟩)
theorem am_x_binL (hs : am_binL fl pc ls st h = some a) : am_binL fl pc ls st (am_sx X h) = some (am_sxa X a) := by
  unfold am_binL at hs ⊢
  repeat' split at hs
  all_goals first
    | (cases hs; done)
    | (simp_all [am_nx, am_sx, am_kd, Option.bind_eq_some_iff]; done)
    | (simp_all [am_nx, am_sx, am_kd, Option.bind_eq_some_iff]; subst hs; rfl)
    | (simp_all [am_nx, am_sx, am_kd, Option.bind_eq_some_iff]; obtain ⟨u, h1, h2⟩ := hs; exact ⟨u, h1, by subst h2; rfl⟩)
    | (simp_all [am_nx, am_sx, am_kd, Option.bind_eq_some_iff]; obtain ⟨u, h1, h2⟩ := hs; subst h2; exact ⟨u, h1, rfl⟩)
theorem am_x_dvdL (hs : am_dvdL fl pc ls st h = some a) : am_dvdL fl pc ls st (am_sx X h) = some (am_sxa X a) := by
  unfold am_dvdL at hs ⊢
  repeat' split at hs
  all_goals first
    | (cases hs; done)
    | (simp_all [am_nx, am_sx, am_kd, Option.bind_eq_some_iff]; done)
    | (simp_all [am_nx, am_sx, am_kd, Option.bind_eq_some_iff]; subst hs; rfl)
    | (simp_all [am_nx, am_sx, am_kd, Option.bind_eq_some_iff]; obtain ⟨u, h1, h2⟩ := hs; exact ⟨u, h1, by subst h2; rfl⟩)
    | (simp_all [am_nx, am_sx, am_kd, Option.bind_eq_some_iff]; obtain ⟨u, h1, h2⟩ := hs; subst h2; exact ⟨u, h1, rfl⟩)
theorem am_x_gfx (hs : am_gfx w pc ls st h = some a) : am_gfx w pc ls st (am_sx X h) = some (am_sxa X a) := by
  unfold am_gfx at hs ⊢
  repeat' split at hs
  all_goals first
    | (cases hs; done)
    | (simp_all [am_nx, am_sx, am_kd, Option.bind_eq_some_iff]; done)
    | (simp_all [am_nx, am_sx, am_kd, Option.bind_eq_some_iff]; subst hs; rfl)
    | (simp_all [am_nx, am_sx, am_kd, Option.bind_eq_some_iff]; obtain ⟨u, h1, h2⟩ := hs; exact ⟨u, h1, by subst h2; rfl⟩)
    | (simp_all [am_nx, am_sx, am_kd, Option.bind_eq_some_iff]; obtain ⟨u, h1, h2⟩ := hs; subst h2; exact ⟨u, h1, rfl⟩)
theorem am_x_pfx (hs : am_pfx w e pc ls st h = some a) : am_pfx w e pc ls st (am_sx X h) = some (am_sxa X a) := by
  unfold am_pfx at hs ⊢
  repeat' split at hs
  all_goals first
    | (cases hs; done)
    | (simp_all [am_nx, am_sx, am_kd, Option.bind_eq_some_iff]; done)
    | (simp_all [am_nx, am_sx, am_kd, Option.bind_eq_some_iff]; subst hs; rfl)
    | (simp_all [am_nx, am_sx, am_kd, Option.bind_eq_some_iff]; obtain ⟨u, h1, h2⟩ := hs; exact ⟨u, h1, by subst h2; rfl⟩)
    | (simp_all [am_nx, am_sx, am_kd, Option.bind_eq_some_iff]; obtain ⟨u, h1, h2⟩ := hs; subst h2; exact ⟨u, h1, rfl⟩)
theorem am_x_aldJ (hs : am_aldJ pc ls st h = some a) : am_aldJ pc ls st (am_sx X h) = some (am_sxa X a) := by
  unfold am_aldJ at hs ⊢
  repeat' split at hs
  all_goals first
    | (cases hs; done)
    | (simp_all [am_nx, am_sx, am_kd, Option.bind_eq_some_iff]; done)
    | (simp_all [am_nx, am_sx, am_kd, Option.bind_eq_some_iff]; subst hs; rfl)
    | (simp_all [am_nx, am_sx, am_kd, Option.bind_eq_some_iff]; obtain ⟨u, h1, h2⟩ := hs; exact ⟨u, h1, by subst h2; rfl⟩)
    | (simp_all [am_nx, am_sx, am_kd, Option.bind_eq_some_iff]; obtain ⟨u, h1, h2⟩ := hs; subst h2; exact ⟨u, h1, rfl⟩)
theorem am_x_ast (hs : am_ast pc ls st h = some a) : am_ast pc ls st (am_sx X h) = some (am_sxa X a) := by
  unfold am_ast at hs ⊢
  repeat' split at hs
  all_goals first
    | (cases hs; done)
    | (simp_all [am_nx, am_sx, am_kd, Option.bind_eq_some_iff]; done)
    | (simp_all [am_nx, am_sx, am_kd, Option.bind_eq_some_iff]; subst hs; rfl)
    | (simp_all [am_nx, am_sx, am_kd, Option.bind_eq_some_iff]; obtain ⟨u, h1, h2⟩ := hs; exact ⟨u, h1, by subst h2; rfl⟩)
    | (simp_all [am_nx, am_sx, am_kd, Option.bind_eq_some_iff]; obtain ⟨u, h1, h2⟩ := hs; subst h2; exact ⟨u, h1, rfl⟩)
theorem am_x_astZ (hs : am_astZ pc ls st h = some a) : am_astZ pc ls st (am_sx X h) = some (am_sxa X a) := by
  unfold am_astZ at hs ⊢
  repeat' split at hs
  all_goals first
    | (cases hs; done)
    | (simp_all [am_nx, am_sx, am_kd, Option.bind_eq_some_iff]; done)
    | (simp_all [am_nx, am_sx, am_kd, Option.bind_eq_some_iff]; subst hs; rfl)
    | (simp_all [am_nx, am_sx, am_kd, Option.bind_eq_some_iff]; obtain ⟨u, h1, h2⟩ := hs; exact ⟨u, h1, by subst h2; rfl⟩)
    | (simp_all [am_nx, am_sx, am_kd, Option.bind_eq_some_iff]; obtain ⟨u, h1, h2⟩ := hs; subst h2; exact ⟨u, h1, rfl⟩)
theorem am_x_astJ (hs : am_astJ pc ls st h = some a) : am_astJ pc ls st (am_sx X h) = some (am_sxa X a) := by
  unfold am_astJ at hs ⊢
  repeat' split at hs
  all_goals first
    | (cases hs; done)
    | (simp_all [am_nx, am_sx, am_kd, Option.bind_eq_some_iff]; done)
    | (simp_all [am_nx, am_sx, am_kd, Option.bind_eq_some_iff]; subst hs; rfl)
    | (simp_all [am_nx, am_sx, am_kd, Option.bind_eq_some_iff]; obtain ⟨u, h1, h2⟩ := hs; exact ⟨u, h1, by subst h2; rfl⟩)
    | (simp_all [am_nx, am_sx, am_kd, Option.bind_eq_some_iff]; obtain ⟨u, h1, h2⟩ := hs; subst h2; exact ⟨u, h1, rfl⟩)
theorem am_x_astR (hs : am_astR pc ls st h = some a) : am_astR pc ls st (am_sx X h) = some (am_sxa X a) := by
  unfold am_astR at hs ⊢
  repeat' split at hs
  all_goals first
    | (cases hs; done)
    | (simp_all [am_nx, am_sx, am_kd, Option.bind_eq_some_iff]; done)
    | (simp_all [am_nx, am_sx, am_kd, Option.bind_eq_some_iff]; subst hs; rfl)
    | (simp_all [am_nx, am_sx, am_kd, Option.bind_eq_some_iff]; obtain ⟨u, h1, h2⟩ := hs; exact ⟨u, h1, by subst h2; rfl⟩)
    | (simp_all [am_nx, am_sx, am_kd, Option.bind_eq_some_iff]; obtain ⟨u, h1, h2⟩ := hs; subst h2; exact ⟨u, h1, rfl⟩)
theorem am_x_nwa (hs : am_nwa pc len ls st h t = some a) : am_nwa pc len ls st (am_sx X h) t = some (am_sxa X a) := by
  unfold am_nwa at hs ⊢
  repeat' split at hs
  all_goals first
    | (cases hs; done)
    | (simp_all [am_nx, am_sx, am_kd, Option.bind_eq_some_iff]; done)
    | (simp_all [am_nx, am_sx, am_kd, Option.bind_eq_some_iff]; subst hs; rfl)
    | (simp_all [am_nx, am_sx, am_kd, Option.bind_eq_some_iff]; obtain ⟨u, h1, h2⟩ := hs; exact ⟨u, h1, by subst h2; rfl⟩)
    | (simp_all [am_nx, am_sx, am_kd, Option.bind_eq_some_iff]; obtain ⟨u, h1, h2⟩ := hs; subst h2; exact ⟨u, h1, rfl⟩)
theorem am_x_obj (hs : am_obj w2 e pc ls st h = some a) : am_obj w2 e pc ls st (am_sx X h) = some (am_sxa X a) := by
  unfold am_obj at hs ⊢
  repeat' split at hs
  all_goals first
    | (cases hs; done)
    | (simp_all [am_nx, am_sx, am_kd, Option.bind_eq_some_iff]; done)
    | (simp_all [am_nx, am_sx, am_kd, Option.bind_eq_some_iff]; subst hs; rfl)
    | (simp_all [am_nx, am_sx, am_kd, Option.bind_eq_some_iff]; obtain ⟨u, h1, h2⟩ := hs; exact ⟨u, h1, by subst h2; rfl⟩)
    | (simp_all [am_nx, am_sx, am_kd, Option.bind_eq_some_iff]; obtain ⟨u, h1, h2⟩ := hs; subst h2; exact ⟨u, h1, rfl⟩)
theorem am_x_acp (hs : am_acp w2 e pc ls st h = some a) : am_acp w2 e pc ls st (am_sx X h) = some (am_sxa X a) := by
  unfold am_acp at hs ⊢
  repeat' split at hs
  all_goals first
    | (cases hs; done)
    | (simp_all [am_nx, am_sx, am_kd, Option.bind_eq_some_iff]; done)
    | (simp_all [am_nx, am_sx, am_kd, Option.bind_eq_some_iff]; subst hs; rfl)
    | (simp_all [am_nx, am_sx, am_kd, Option.bind_eq_some_iff]; obtain ⟨u, h1, h2⟩ := hs; exact ⟨u, h1, by subst h2; rfl⟩)
    | (simp_all [am_nx, am_sx, am_kd, Option.bind_eq_some_iff]; obtain ⟨u, h1, h2⟩ := hs; subst h2; exact ⟨u, h1, rfl⟩)
theorem am_x_mx (hs : am_mx w2 e pc ls st h = some a) : am_mx w2 e pc ls st (am_sx X h) = some (am_sxa X a) := by
  unfold am_mx at hs ⊢
  repeat' split at hs
  all_goals first
    | (cases hs; done)
    | (simp_all [am_nx, am_sx, am_kd, Option.bind_eq_some_iff]; done)
    | (simp_all [am_nx, am_sx, am_kd, Option.bind_eq_some_iff]; subst hs; rfl)
    | (simp_all [am_nx, am_sx, am_kd, Option.bind_eq_some_iff]; obtain ⟨u, h1, h2⟩ := hs; exact ⟨u, h1, by subst h2; rfl⟩)
    | (simp_all [am_nx, am_sx, am_kd, Option.bind_eq_some_iff]; obtain ⟨u, h1, h2⟩ := hs; subst h2; exact ⟨u, h1, rfl⟩)
theorem am_x_istore (hs : am_istore pc len ls st h i = some a) : am_istore pc len ls st (am_sx X h) i = some (am_sxa X a) := by
  unfold am_istore at hs ⊢
  repeat' split at hs
  all_goals first
    | (cases hs; done)
    | (simp_all [am_nx, am_sx, am_kd, Option.bind_eq_some_iff]; done)
    | (simp_all [am_nx, am_sx, am_kd, Option.bind_eq_some_iff]; subst hs; rfl)
    | (simp_all [am_nx, am_sx, am_kd, Option.bind_eq_some_iff]; obtain ⟨u, h1, h2⟩ := hs; exact ⟨u, h1, by subst h2; rfl⟩)
    | (simp_all [am_nx, am_sx, am_kd, Option.bind_eq_some_iff]; obtain ⟨u, h1, h2⟩ := hs; subst h2; exact ⟨u, h1, rfl⟩)
theorem am_x_astore (hs : am_astore pc len ls st h i = some a) : am_astore pc len ls st (am_sx X h) i = some (am_sxa X a) := by
  unfold am_astore at hs ⊢
  repeat' split at hs
  all_goals first
    | (cases hs; done)
    | (simp_all [am_nx, am_sx, am_kd, Option.bind_eq_some_iff]; done)
    | (simp_all [am_nx, am_sx, am_kd, Option.bind_eq_some_iff]; subst hs; rfl)
    | (simp_all [am_nx, am_sx, am_kd, Option.bind_eq_some_iff]; obtain ⟨u, h1, h2⟩ := hs; exact ⟨u, h1, by subst h2; rfl⟩)
    | (simp_all [am_nx, am_sx, am_kd, Option.bind_eq_some_iff]; obtain ⟨u, h1, h2⟩ := hs; subst h2; exact ⟨u, h1, rfl⟩)
theorem am_x_lstore (hs : am_lstore pc len ls st h i = some a) : am_lstore pc len ls st (am_sx X h) i = some (am_sxa X a) := by
  unfold am_lstore at hs ⊢
  repeat' split at hs
  all_goals first
    | (cases hs; done)
    | (simp_all [am_nx, am_sx, am_kd, Option.bind_eq_some_iff]; done)
    | (simp_all [am_nx, am_sx, am_kd, Option.bind_eq_some_iff]; subst hs; rfl)
    | (simp_all [am_nx, am_sx, am_kd, Option.bind_eq_some_iff]; obtain ⟨u, h1, h2⟩ := hs; exact ⟨u, h1, by subst h2; rfl⟩)
    | (simp_all [am_nx, am_sx, am_kd, Option.bind_eq_some_iff]; obtain ⟨u, h1, h2⟩ := hs; subst h2; exact ⟨u, h1, rfl⟩)
theorem am_x_iinc (hs : am_iinc pc ls st h i n = some a) : am_iinc pc ls st (am_sx X h) i n = some (am_sxa X a) := by
  unfold am_iinc at hs ⊢
  repeat' split at hs
  all_goals first
    | (cases hs; done)
    | (simp_all [am_nx, am_sx, am_kd, Option.bind_eq_some_iff]; done)
    | (simp_all [am_nx, am_sx, am_kd, Option.bind_eq_some_iff]; subst hs; rfl)
    | (simp_all [am_nx, am_sx, am_kd, Option.bind_eq_some_iff]; obtain ⟨u, h1, h2⟩ := hs; exact ⟨u, h1, by subst h2; rfl⟩)
    | (simp_all [am_nx, am_sx, am_kd, Option.bind_eq_some_iff]; obtain ⟨u, h1, h2⟩ := hs; subst h2; exact ⟨u, h1, rfl⟩)
theorem am_x_aldR (hs : am_aldR pc ls st h = some a) : am_aldR pc ls st (am_sx X h) = some (am_sxa X a) := by
  unfold am_aldR at hs ⊢
  repeat' split at hs
  all_goals first
    | (cases hs; done)
    | (simp_all [am_nx, am_sx, am_kd, Option.bind_eq_some_iff]; done)
    | (simp_all [am_nx, am_sx, am_kd, Option.bind_eq_some_iff]; subst hs; rfl)
    | (simp_all [am_nx, am_sx, am_kd, Option.bind_eq_some_iff]; obtain ⟨u, h1, h2⟩ := hs; exact ⟨u, h1, by subst h2; rfl⟩)
    | (simp_all [am_nx, am_sx, am_kd, Option.bind_eq_some_iff]; obtain ⟨u, h1, h2⟩ := hs; subst h2; exact ⟨u, h1, rfl⟩)
end AMSX
