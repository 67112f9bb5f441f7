/-! What the class keeps of a revision, out of the parents: next, fork. -/
/-- parents: none of the first one, an earlier one of each other -/
def vp (ps : List Int) : Prop := ∀ k, k < ps.length → (k = 0 → ps.getD k 0 = -1) ∧ (0 < k → 0 ≤ ps.getD k 0 ∧ ps.getD k 0 < k)
theorem vp.init {ps : List Int} {p : Int} (h : vp (ps ++ [p])) : vp ps := fun k hk => by
  have := h k (by rw [List.length_append]; omega)
  rw [gD_l hk] at this
  exact this
theorem vp.last {ps : List Int} {p : Int} (h : vp (ps ++ [p])) : (ps = [] → p = -1) ∧ (0 < ps.length → 0 ≤ p ∧ p < ps.length) := by
  have := h ps.length (by rw [List.length_append, List.length_singleton]; omega)
  rw [gD_n rfl] at this
  exact ⟨fun e => this.1 (by rw [e]; rfl), this.2⟩
theorem nxF_snoc (ps : List Int) (p : Int) (r : Int) : ∀ (m k : Nat), k + m = ps.length → nxF (ps ++ [p]) r (m + 1) k = if nxF ps r m k = -1 then (if p = r then (ps.length : Int) else -1) else nxF ps r m k := by
  intro m
  induction m with
  | zero =>
    intro k hk
    show (if (ps ++ [p]).getD k 0 = r then (k : Int) else -1) = if (-1 : Int) = -1 then _ else _
    rw [gD_n (by omega), if_pos rfl, show k = ps.length by omega]
  | succ m ih =>
    intro k hk
    show (if (ps ++ [p]).getD k 0 = r then (k : Int) else nxF (ps ++ [p]) r (m + 1) (k + 1)) = _
    rw [gD_l (by omega), ih (k + 1) (by omega)]
    show _ = if (if ps.getD k 0 = r then (k : Int) else nxF ps r m (k + 1)) = -1 then _ else (if ps.getD k 0 = r then (k : Int) else nxF ps r m (k + 1))
    by_cases e : ps.getD k 0 = r
    · rw [if_pos e, if_pos e, if_neg (by omega)]
    · rw [if_neg e, if_neg e]
theorem nextOf_snoc {ps : List Int} {p : Int} {r : Nat} (hr : r < ps.length) : nextOf (ps ++ [p]) r = if nextOf ps r = -1 then (if p = r then (ps.length : Int) else -1) else nextOf ps r := by
  unfold nextOf
  rw [List.length_append, List.length_singleton, show ps.length + 1 - (r + 1) = (ps.length - (r + 1)) + 1 by omega]
  exact nxF_snoc ps p r _ _ (by omega)
theorem nextOf_last (ps : List Int) (p : Int) : nextOf (ps ++ [p]) ps.length = -1 := by
  unfold nextOf
  rw [List.length_append, List.length_singleton, Nat.sub_self]; rfl
theorem sf_len (ps : List Int) : (sf ps).length = ps.length := by
  have : ∀ (l : List Int) (S : List FS), (l.foldl hap S).length = S.length + l.length := by
    intro l
    induction l with
    | nil => intro S; rfl
    | cons x l ih => intro S; rw [List.foldl_cons, ih, hap_len, List.length_cons]; omega
  have := this ps []
  unfold sf
  simpa using this
def fsK (ps : List Int) (k : Nat) : FS := (sf ps).getD k fs0
/-- what holds of them -/
def sfP (ps : List Int) : Prop :=
  (∀ r, r < ps.length → (fsK ps r).1 = nextOf ps r) ∧ (0 < ps.length → (fsK ps 0).2.2.1 = -1) ∧
  (∀ r, r < ps.length → (fsK ps r).2.2.1 = -1 → (fsK ps r).1 ≠ -1 → (r : Int) < (fsK ps r).1 ∧ (fsK ps r).1 < ps.length ∧ (fsK ps (fsK ps r).1.toNat).2.2.1 = -1) ∧
  (∀ m, 0 < m → m < ps.length → (fsK ps m).2.2.1 = -1 → (fsK ps (ps.getD m 0).toNat).2.2.1 = -1 ∧ (fsK ps (ps.getD m 0).toNat).1 = m) ∧
  (∀ r, r < ps.length → -1 ≤ (fsK ps r).1 ∧ (fsK ps r).1 < ps.length ∧ -1 ≤ (fsK ps r).2.2.1 ∧ (fsK ps r).2.2.1 < ps.length)
theorem fsK_snoc {ps : List Int} {p : Int} (hp : 0 ≤ p ∧ p < ps.length) (k : Nat) (hk : k ≤ ps.length) : fsK (ps ++ [p]) k =
    if k = ps.length then (if (fsK ps p.toNat).1 = -1 then (-1, 0, (fsK ps p.toNat).2.2.1, (fsK ps p.toNat).2.2.2.1, (fsK ps p.toNat).2.2.2.2.1 + 1, (fsK ps p.toNat).2.2.2.2.2) else (-1, 0, p, (fsK ps p.toNat).2.1 + 1, 1, (fsK ps p.toNat).2.2.2.2.2 + 2))
    else if k = p.toNat then (if (fsK ps p.toNat).1 = -1 then ((ps.length : Int), (fsK ps p.toNat).2) else ((fsK ps p.toNat).1, (fsK ps p.toNat).2.1 + 1, (fsK ps p.toNat).2.2))
    else fsK ps k := by
  have l := sf_len ps
  unfold fsK
  rw [sf_snoc, hap, if_pos (by rw [l]; exact hp), l]
  by_cases e : k = ps.length
  · rw [if_pos e]
    split
    · rw [gD_n (by rw [List.length_set]; omega)]
    · rw [gD_n (by rw [List.length_set]; omega)]
  · rw [if_neg e]
    by_cases e2 : k = p.toNat
    · rw [if_pos e2]
      split
      · rw [gD_l (by rw [List.length_set]; omega), gD_set (by omega), if_pos e2]
      · rw [gD_l (by rw [List.length_set]; omega), gD_set (by omega), if_pos e2]
    · rw [if_neg e2]
      split
      · rw [gD_l (by rw [List.length_set]; omega), gD_set (by omega), if_neg e2]
      · rw [gD_l (by rw [List.length_set]; omega), gD_set (by omega), if_neg e2]
theorem sfP_snoc {ps : List Int} {p : Int} (h : sfP ps) (hp : 0 ≤ p ∧ p < ps.length) : sfP (ps ++ [p]) := by
  obtain ⟨h1, h2, h3, h4, h5⟩ := h
  have el : (ps ++ [p]).length = ps.length + 1 := by rw [List.length_append, List.length_singleton]
  have pk : p.toNat < ps.length := by omega
  have A := fsK_snoc hp
  have hP := h5 p.toNat pk
  have fk : ∀ r, r < ps.length → (fsK (ps ++ [p]) r).2.2.1 = (fsK ps r).2.2.1 := by
    intro r hr
    rw [A r (by omega), if_neg (by omega)]
    split
    · rename_i e; rw [e]; split <;> rfl
    · rfl
  have nk : ∀ r, r < ps.length → (fsK (ps ++ [p]) r).1 = if r = p.toNat ∧ (fsK ps p.toNat).1 = -1 then (ps.length : Int) else (fsK ps r).1 := by
    intro r hr
    rw [A r (by omega), if_neg (by omega)]
    by_cases e : r = p.toNat
    · rw [if_pos e]
      by_cases e2 : (fsK ps p.toNat).1 = -1
      · rw [if_pos e2, if_pos ⟨e, e2⟩]
      · rw [if_neg e2, if_neg (fun q => e2 q.2), e]
    · rw [if_neg e, if_neg (fun q => e q.1)]
  have nl : (fsK (ps ++ [p]) ps.length).1 = -1 := by
    rw [A ps.length (Nat.le_refl _), if_pos rfl]; split <;> rfl
  have fl : (fsK (ps ++ [p]) ps.length).2.2.1 = if (fsK ps p.toNat).1 = -1 then (fsK ps p.toNat).2.2.1 else p := by
    rw [A ps.length (Nat.le_refl _), if_pos rfl]; split <;> rfl
  refine ⟨fun r hr => ?_, fun _ => ?_, fun r hr f1 f2 => ?_, fun m hm hm2 f1 => ?_, fun r hr => ?_⟩
  · by_cases e : r = ps.length
    · rw [e, nl, nextOf_last]
    · have hr' : r < ps.length := by omega
      rw [nk r hr', nextOf_snoc hr', ← h1 r hr']
      by_cases e1 : r = p.toNat
      · by_cases e2 : (fsK ps p.toNat).1 = -1
        · rw [if_pos ⟨e1, e2⟩, e1, if_pos e2, if_pos (by omega)]
        · rw [if_neg (fun q => e2 q.2), e1, if_neg e2]
      · rw [if_neg (fun q => e1 q.1)]
        split
        · rename_i e3
          rw [if_neg (by omega)]; exact e3
        · rfl
  · rw [fk 0 (by omega)]; exact h2 (by omega)
  · by_cases e : r = ps.length
    · rw [e, nl] at f2; exact absurd rfl f2
    · have hr' : r < ps.length := by omega
      rw [fk r hr'] at f1
      rw [nk r hr'] at f2 ⊢
      by_cases c : r = p.toNat ∧ (fsK ps p.toNat).1 = -1
      · rw [if_pos c]
        refine ⟨by omega, by omega, ?_⟩
        rw [show (ps.length : Int).toNat = ps.length by omega, fl, if_pos c.2, ← c.1]
        exact f1
      · rw [if_neg c] at f2 ⊢
        obtain ⟨g1, g2, g3⟩ := h3 r hr' f1 f2
        refine ⟨g1, by omega, ?_⟩
        rw [fk _ (by omega)]; exact g3
  · rw [el] at hm2
    by_cases e : m = ps.length
    · rw [e, gD_n rfl]
      rw [e, fl] at f1
      by_cases c : (fsK ps p.toNat).1 = -1
      · rw [if_pos c] at f1
        rw [fk _ pk, nk _ pk, if_pos ⟨rfl, c⟩]
        exact ⟨f1, rfl⟩
      · rw [if_neg c] at f1; omega
    · have hm' : m < ps.length := by omega
      rw [fk m hm'] at f1
      obtain ⟨g1, g2⟩ := h4 m hm hm' f1
      rw [gD_l hm']
      by_cases hq : (ps.getD m 0).toNat < ps.length
      · rw [fk _ hq, nk _ hq]
        refine ⟨g1, ?_⟩
        rw [if_neg]
        · exact g2
        · rintro ⟨c1, c2⟩
          rw [c1, c2] at g2; omega
      · have : fsK ps (ps.getD m 0).toNat = fs0 := by
          unfold fsK; exact dh_getD _ _ (by rw [sf_len]; omega)
        rw [this] at g2
        have : (-1 : Int) = m := g2
        omega
  · by_cases e : r = ps.length
    · rw [e, nl, fl]
      split <;> omega
    · have hr' : r < ps.length := by omega
      have := h5 r hr'
      rw [fk r hr', nk r hr']
      split <;> omega
theorem sfP_all : ∀ (n : Nat) (ps : List Int), ps.length = n → vp ps → sfP ps
  | 0, ps, hl, _ => by
    have : ps = [] := List.eq_nil_of_length_eq_zero hl
    subst this
    exact ⟨fun r h => absurd h (Nat.not_lt_zero r), fun h => absurd h (Nat.not_lt_zero 0), fun r h => absurd h (Nat.not_lt_zero r), fun m _ h => absurd h (Nat.not_lt_zero m), fun r h => absurd h (Nat.not_lt_zero r)⟩
  | n + 1, ps, hl, hv => by
    have hne : ps ≠ [] := by intro e; rw [e] at hl; cases hl
    obtain ⟨qs, p, rfl⟩ : ∃ qs p, ps = qs ++ [p] := ⟨ps.dropLast, ps.getLast hne, (List.dropLast_concat_getLast hne).symm⟩
    rw [List.length_append, List.length_singleton] at hl
    have ih := sfP_all n qs (by omega) hv.init
    by_cases hq : 0 < qs.length
    · exact sfP_snoc ih (hv.last.2 hq)
    · have e : qs = [] := List.eq_nil_of_length_eq_zero (by omega)
      subst e
      have : p = -1 := hv.last.1 rfl
      subst this
      have e0 : fsK ([] ++ [(-1 : Int)]) 0 = fs0 := by decide
      have l1 : ([] ++ [(-1 : Int)]).length = 1 := rfl
      refine ⟨fun r h => ?_, fun _ => by rw [e0]; rfl, fun r h _ f2 => ?_, fun m h1 h2 => by rw [l1] at h2; omega, fun r h => ?_⟩
      · rw [l1] at h
        rw [show r = 0 by omega, e0]; rfl
      · rw [l1] at h
        rw [show r = 0 by omega, e0] at f2
        exact absurd rfl f2
      · rw [l1] at h
        rw [show r = 0 by omega, e0, l1]
        decide
