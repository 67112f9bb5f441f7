/-! Reading behind writing, of the abstract heap. -/
theorem jr_n_sI (h : jm_H) (a k : Nat) (x : Int32) : (jm_sI h a k x).1 = h.1 := rfl
theorem jr_z_sI (h : jm_H) (a k : Nat) (x : Int32) : (jm_sI h a k x).2.1 = h.2.1 := rfl
theorem jr_n_sF (h : jm_H) (a k x : Nat) : (jm_sF h a k x).1 = h.1 := rfl
theorem jr_z_sF (h : jm_H) (a k x : Nat) : (jm_sF h a k x).2.1 = h.2.1 := rfl
theorem jr_n_sL (h : jm_H) (a k : Nat) (x : Int64) : (jm_sL h a k x).1 = h.1 := rfl
theorem jr_z_sL (h : jm_H) (a k : Nat) (x : Int64) : (jm_sL h a k x).2.1 = h.2.1 := rfl
theorem jr_n_sT (h : jm_H) (a t : Nat) : (jm_sT h a t).1 = h.1 := rfl
theorem jr_z_sT (h : jm_H) (a t : Nat) : (jm_sT h a t).2.1 = h.2.1 := rfl
theorem jr_n_sA (h : jm_H) (a : Nat) (f : Nat → Int32) : (jm_sA h a f).1 = h.1 := rfl
theorem jr_z_sA (h : jm_H) (a : Nat) (f : Nat → Int32) : (jm_sA h a f).2.1 = h.2.1 := rfl
theorem jr_n_new (h : jm_H) (t n z : Nat) : (jm_new h t n z).1 = h.1 + 1 := rfl
theorem jr_z_new (h : jm_H) (t n z : Nat) : (jm_new h t n z).2.1 = h.2.1 + z := rfl
theorem jr_T_sI (h : jm_H) (a k : Nat) (x : Int32) (b : Nat) : jm_T (jm_sI h a k x) b = jm_T h b := by
  unfold jm_T jm_sI
  by_cases hb : b = a
  · subst hb
    simp only [jm_up_self]
  · simp only [jm_up_ne _ _ hb]
theorem jr_T_sF (h : jm_H) (a k x : Nat) (b : Nat) : jm_T (jm_sF h a k x) b = jm_T h b := by
  unfold jm_T jm_sF
  by_cases hb : b = a
  · subst hb
    simp only [jm_up_self]
  · simp only [jm_up_ne _ _ hb]
theorem jr_T_sL (h : jm_H) (a k : Nat) (x : Int64) (b : Nat) : jm_T (jm_sL h a k x) b = jm_T h b := by
  unfold jm_T jm_sL
  by_cases hb : b = a
  · subst hb
    simp only [jm_up_self]
  · simp only [jm_up_ne _ _ hb]
theorem jr_T_sT (h : jm_H) (a t : Nat) (b : Nat) : jm_T (jm_sT h a t) b = if b = a then t else jm_T h b := by
  unfold jm_T jm_sT
  by_cases hb : b = a
  · subst hb
    simp only [jm_up_self]
    simp
  · simp only [jm_up_ne _ _ hb]
    simp [hb]
theorem jr_T_sA (h : jm_H) (a : Nat) (f : Nat → Int32) (b : Nat) : jm_T (jm_sA h a f) b = jm_T h b := by
  unfold jm_T jm_sA
  by_cases hb : b = a
  · subst hb
    simp only [jm_up_self]
  · simp only [jm_up_ne _ _ hb]
theorem jr_T_new (h : jm_H) (t n z : Nat) (b : Nat) : jm_T (jm_new h t n z) b = if b = h.1 then t else jm_T h b := by
  unfold jm_T jm_new
  by_cases hb : b = h.1
  · subst hb
    simp only [jm_up_self]
    simp
  · simp only [jm_up_ne _ _ hb]
    simp [hb]
theorem jr_N_sI (h : jm_H) (a k : Nat) (x : Int32) (b : Nat) : jm_N (jm_sI h a k x) b = jm_N h b := by
  unfold jm_N jm_sI
  by_cases hb : b = a
  · subst hb
    simp only [jm_up_self]
  · simp only [jm_up_ne _ _ hb]
theorem jr_N_sF (h : jm_H) (a k x : Nat) (b : Nat) : jm_N (jm_sF h a k x) b = jm_N h b := by
  unfold jm_N jm_sF
  by_cases hb : b = a
  · subst hb
    simp only [jm_up_self]
  · simp only [jm_up_ne _ _ hb]
theorem jr_N_sL (h : jm_H) (a k : Nat) (x : Int64) (b : Nat) : jm_N (jm_sL h a k x) b = jm_N h b := by
  unfold jm_N jm_sL
  by_cases hb : b = a
  · subst hb
    simp only [jm_up_self]
  · simp only [jm_up_ne _ _ hb]
theorem jr_N_sT (h : jm_H) (a t : Nat) (b : Nat) : jm_N (jm_sT h a t) b = jm_N h b := by
  unfold jm_N jm_sT
  by_cases hb : b = a
  · subst hb
    simp only [jm_up_self]
  · simp only [jm_up_ne _ _ hb]
theorem jr_N_sA (h : jm_H) (a : Nat) (f : Nat → Int32) (b : Nat) : jm_N (jm_sA h a f) b = jm_N h b := by
  unfold jm_N jm_sA
  by_cases hb : b = a
  · subst hb
    simp only [jm_up_self]
  · simp only [jm_up_ne _ _ hb]
theorem jr_N_new (h : jm_H) (t n z : Nat) (b : Nat) : jm_N (jm_new h t n z) b = if b = h.1 then n else jm_N h b := by
  unfold jm_N jm_new
  by_cases hb : b = h.1
  · subst hb
    simp only [jm_up_self]
    simp
  · simp only [jm_up_ne _ _ hb]
    simp [hb]
theorem jr_I_sI (h : jm_H) (a k : Nat) (x : Int32) (b j : Nat) : jm_I (jm_sI h a k x) b j = if b = a ∧ j = k then x else jm_I h b j := by
  unfold jm_I jm_sI
  by_cases hb : b = a
  · subst hb
    simp only [jm_up_self]
    by_cases hj : j = k
    · subst hj; simp [jm_up_self]
    · simp [jm_up_ne _ _ hj, hj]
  · simp only [jm_up_ne _ _ hb]
    simp [hb]
theorem jr_I_sF (h : jm_H) (a k x : Nat) (b j : Nat) : jm_I (jm_sF h a k x) b j = jm_I h b j := by
  unfold jm_I jm_sF
  by_cases hb : b = a
  · subst hb
    simp only [jm_up_self]
  · simp only [jm_up_ne _ _ hb]
theorem jr_I_sL (h : jm_H) (a k : Nat) (x : Int64) (b j : Nat) : jm_I (jm_sL h a k x) b j = jm_I h b j := by
  unfold jm_I jm_sL
  by_cases hb : b = a
  · subst hb
    simp only [jm_up_self]
  · simp only [jm_up_ne _ _ hb]
theorem jr_I_sT (h : jm_H) (a t : Nat) (b j : Nat) : jm_I (jm_sT h a t) b j = jm_I h b j := by
  unfold jm_I jm_sT
  by_cases hb : b = a
  · subst hb
    simp only [jm_up_self]
  · simp only [jm_up_ne _ _ hb]
theorem jr_I_sA (h : jm_H) (a : Nat) (f : Nat → Int32) (b j : Nat) : jm_I (jm_sA h a f) b j = if b = a then f j else jm_I h b j := by
  unfold jm_I jm_sA
  by_cases hb : b = a
  · subst hb
    simp only [jm_up_self]
    simp
  · simp only [jm_up_ne _ _ hb]
    simp [hb]
theorem jr_I_new (h : jm_H) (t n z : Nat) (b j : Nat) : jm_I (jm_new h t n z) b j = if b = h.1 then 0 else jm_I h b j := by
  unfold jm_I jm_new
  by_cases hb : b = h.1
  · subst hb
    simp only [jm_up_self]
    simp
  · simp only [jm_up_ne _ _ hb]
    simp [hb]
theorem jr_F_sI (h : jm_H) (a k : Nat) (x : Int32) (b j : Nat) : jm_F (jm_sI h a k x) b j = jm_F h b j := by
  unfold jm_F jm_sI
  by_cases hb : b = a
  · subst hb
    simp only [jm_up_self]
  · simp only [jm_up_ne _ _ hb]
theorem jr_F_sF (h : jm_H) (a k x : Nat) (b j : Nat) : jm_F (jm_sF h a k x) b j = if b = a ∧ j = k then x else jm_F h b j := by
  unfold jm_F jm_sF
  by_cases hb : b = a
  · subst hb
    simp only [jm_up_self]
    by_cases hj : j = k
    · subst hj; simp [jm_up_self]
    · simp [jm_up_ne _ _ hj, hj]
  · simp only [jm_up_ne _ _ hb]
    simp [hb]
theorem jr_F_sL (h : jm_H) (a k : Nat) (x : Int64) (b j : Nat) : jm_F (jm_sL h a k x) b j = jm_F h b j := by
  unfold jm_F jm_sL
  by_cases hb : b = a
  · subst hb
    simp only [jm_up_self]
  · simp only [jm_up_ne _ _ hb]
theorem jr_F_sT (h : jm_H) (a t : Nat) (b j : Nat) : jm_F (jm_sT h a t) b j = jm_F h b j := by
  unfold jm_F jm_sT
  by_cases hb : b = a
  · subst hb
    simp only [jm_up_self]
  · simp only [jm_up_ne _ _ hb]
theorem jr_F_sA (h : jm_H) (a : Nat) (f : Nat → Int32) (b j : Nat) : jm_F (jm_sA h a f) b j = jm_F h b j := by
  unfold jm_F jm_sA
  by_cases hb : b = a
  · subst hb
    simp only [jm_up_self]
  · simp only [jm_up_ne _ _ hb]
theorem jr_F_new (h : jm_H) (t n z : Nat) (b j : Nat) : jm_F (jm_new h t n z) b j = if b = h.1 then 0 else jm_F h b j := by
  unfold jm_F jm_new
  by_cases hb : b = h.1
  · subst hb
    simp only [jm_up_self]
    simp
  · simp only [jm_up_ne _ _ hb]
    simp [hb]
theorem jr_L_sI (h : jm_H) (a k : Nat) (x : Int32) (b j : Nat) : jm_L (jm_sI h a k x) b j = jm_L h b j := by
  unfold jm_L jm_sI
  by_cases hb : b = a
  · subst hb
    simp only [jm_up_self]
  · simp only [jm_up_ne _ _ hb]
theorem jr_L_sF (h : jm_H) (a k x : Nat) (b j : Nat) : jm_L (jm_sF h a k x) b j = jm_L h b j := by
  unfold jm_L jm_sF
  by_cases hb : b = a
  · subst hb
    simp only [jm_up_self]
  · simp only [jm_up_ne _ _ hb]
theorem jr_L_sL (h : jm_H) (a k : Nat) (x : Int64) (b j : Nat) : jm_L (jm_sL h a k x) b j = if b = a ∧ j = k then x else jm_L h b j := by
  unfold jm_L jm_sL
  by_cases hb : b = a
  · subst hb
    simp only [jm_up_self]
    by_cases hj : j = k
    · subst hj; simp [jm_up_self]
    · simp [jm_up_ne _ _ hj, hj]
  · simp only [jm_up_ne _ _ hb]
    simp [hb]
theorem jr_L_sT (h : jm_H) (a t : Nat) (b j : Nat) : jm_L (jm_sT h a t) b j = jm_L h b j := by
  unfold jm_L jm_sT
  by_cases hb : b = a
  · subst hb
    simp only [jm_up_self]
  · simp only [jm_up_ne _ _ hb]
theorem jr_L_sA (h : jm_H) (a : Nat) (f : Nat → Int32) (b j : Nat) : jm_L (jm_sA h a f) b j = jm_L h b j := by
  unfold jm_L jm_sA
  by_cases hb : b = a
  · subst hb
    simp only [jm_up_self]
  · simp only [jm_up_ne _ _ hb]
theorem jr_L_new (h : jm_H) (t n z : Nat) (b j : Nat) : jm_L (jm_new h t n z) b j = if b = h.1 then 0 else jm_L h b j := by
  unfold jm_L jm_new
  by_cases hb : b = h.1
  · subst hb
    simp only [jm_up_self]
    simp
  · simp only [jm_up_ne _ _ hb]
    simp [hb]
