/-! The class's Delta: making the steps. -/
def dD (h : jm_H) (a : Nat) (acc : List S5) (ad : List Int) (op : Bool) : Prop :=
  (jm_I h a 6 = jz acc.length ∧ jm_I h a 7 = jz ad.length ∧ jm_I h a 8 = jz (if op = true then 1 else 0)) ∧ row h (a + 1) (acc.map (fun s => s.1)) ∧ row h (a + 2) (acc.map (fun s => s.2.1)) ∧ row h (a + 3) (acc.map (fun s => s.2.2.1)) ∧ row h (a + 4) (acc.map (fun s => s.2.2.2.1)) ∧ row h (a + 5) ad
theorem dD.jf {h h' : jm_H} {a : Nat} {acc : List S5} {ad : List Int} {op : Bool} {S : List Nat} (c : dD h a acc ad op) (p : jf S h h') (hn : ∀ i, i < 6 → a + i ∉ S) : dD h' a acc ad op := by
  obtain ⟨⟨c1, c2, c3⟩, c4, c5, c6, c7, c8⟩ := c
  have q := p.2 a (hn 0 (by omega))
  exact ⟨⟨(q _).trans c1, (q _).trans c2, (q _).trans c3⟩, c4.jf p (hn 1 (by omega)), c5.jf p (hn 2 (by omega)), c6.jf p (hn 3 (by omega)), c7.jf p (hn 4 (by omega)), c8.jf p (hn 5 (by omega))⟩
theorem row.push' {h : jm_H} {a n : Nat} {xs ys : List Int} {v : Int} (r : row h a xs) (hn : n = xs.length) (hy : ys = xs ++ [v]) : row (jm_sI h a n (jz v)) a ys := by
  subst hn; subst hy; exact r.push v
theorem note_f (acc : List S5) (k i f j : Int) : note acc false k i f j = acc ++ [(k, i, 1, f, j)] := by
  unfold note
  split
  · rw [if_neg (by simp)]
  · rfl
theorem note_t (pre : List S5) (s : S5) (k i f j : Int) : note (pre ++ [s]) true k i f j = if s.1 = k then pre ++ [(s.1, s.2.1, s.2.2.1 + 1, s.2.2.2)] else pre ++ [s] ++ [(k, i, 1, f, j)] := by
  unfold note
  rw [List.getLast?_append]
  simp
theorem dD_push {h : jm_H} {a : Nat} {acc : List S5} {ad : List Int} {op : Bool} {k i j : Int} {n : Nat} (hd : dD h a acc ad op) (hn : n = acc.length) :
    dD (jm_sI (jm_sI (jm_sI (jm_sI (jm_sI (jm_sI h (a + 1) n (jz k)) (a + 2) n (jz i)) (a + 3) n (jz 1)) (a + 4) n (jz (ad.length : Int))) a 6 (jz ((acc.length : Int) + 1))) a 8 (jz 1)) a (acc ++ [(k, i, 1, (ad.length : Int), j)]) ad true := by
  obtain ⟨⟨c1, c2, c3⟩, c4, c5, c6, c7, c8⟩ := hd
  refine ⟨⟨?_, ?_, jr_I_self⟩, ?_, ?_, ?_, ?_, ?_⟩
  · rw [jr_I_fld (by decide), jr_I_self, List.length_append, List.length_singleton]; rfl
  · rw [jr_I_fld (by decide), jr_I_fld (by decide)]
    simp only [jr_I_sI]
    rw [if_neg (by omega), if_neg (by omega), if_neg (by omega), if_neg (by omega)]
    exact c2
  · exact (((((c4.push' (by rw [List.length_map]; exact hn) (by rw [List.map_append]; rfl)).off (by omega)).off (by omega)).off (by omega)).off (by omega)).off (by omega)
  · exact (((((c5.off (by omega)).push' (by rw [List.length_map]; exact hn) (by rw [List.map_append]; rfl)).off (by omega)).off (by omega)).off (by omega)).off (by omega)
  · exact (((((c6.off (by omega)).off (by omega)).push' (by rw [List.length_map]; exact hn) (by rw [List.map_append]; rfl)).off (by omega)).off (by omega)).off (by omega)
  · exact (((((c7.off (by omega)).off (by omega)).off (by omega)).push' (by rw [List.length_map]; exact hn) (by rw [List.map_append]; rfl)).off (by omega)).off (by omega)
  · exact (((((c8.off (by omega)).off (by omega)).off (by omega)).off (by omega)).off (by omega)).off (by omega)
/-- kinds, places and numbers of steps -/
def okS (acc : List S5) (n : Nat) : Prop := ∀ s ∈ acc, (s.1 = 0 ∨ s.1 = 1) ∧ (0 ≤ s.2.1 ∧ s.2.1 ≤ 12) ∧ (1 ≤ s.2.2.1 ∧ s.2.2.1 ≤ n)
theorem s91 {d a : Nat} {h : jm_H} {acc : List S5} {ad : List Int} {op : Bool} {k i : Int} (hs : shD h a) (hd : dD h a acc ad op) (h24 : acc.length < 24) (hop : op = true → acc ≠ []) {no : Nat} (ok : okS acc no) (hk : k = 0 ∨ k = 1) (j : Int) :
    jm_E dh_pr (d + 1) 91 [.inr (.inl a), .inl (jz k), .inl (jz i)] h (fun o h' => o = .inl none ∧ jf (rg a 6) h h' ∧ dD h' a (note acc op k i ad.length j) ad true) := by
  have hd0 := hd
  obtain ⟨⟨c1, c2, c3⟩, c4, c5, c6, c7, c8⟩ := hd
  obtain ⟨s1, ⟨f0, f1, f2, f3, f4, f5⟩, ⟨g1, g2, g3, g4, g5⟩, -⟩ := hs
  have m : ∀ x, x < 6 → a + x ∈ rg a 6 := fun x hx => mem_rg.mpr (by omega)
  have fr : ∀ (n : Nat) (y1 y2 y3 y4 y5 y6 : Int32), jf (rg a 6) h (jm_sI (jm_sI (jm_sI (jm_sI (jm_sI (jm_sI h (a + 1) n y1) (a + 2) n y2) (a + 3) n y3) (a + 4) n y4) a 6 y5) a 8 y6) := fun n y1 y2 y3 y4 y5 y6 =>
    ((((((jf.refl _ h).sI (m 1 (by omega))).sI (m 2 (by omega))).sI (m 3 (by omega))).sI (m 4 (by omega))).sI (m 0 (by omega))).sI (m 0 (by omega))
  have jz4 : jzi (acc.length : Int) 24 := ⟨by omega, by omega, by omega⟩
  cases op with
  | false =>
    refine e91 (r91_0 ⟨s1, 0, c3, ⟨by omega, by omega⟩, fun _ => ⟨_, f0, _, c1, g1.1, _, g1.2, jz4, _, f1, g2.1, _, g2.2, jz4, _, f2, g3.1, _, g3.2, jz4, _, f3, _, c2, g4.1, _, g4.2, jz4, rfl, fr _ _ _ _ _ _ _, ?_⟩, fun q => absurd rfl q⟩)
    rw [note_f]
    exact dD_push hd0 rfl
  | true =>
    obtain ⟨pre, s, rfl⟩ : ∃ pre s, acc = pre ++ [s] := ⟨acc.dropLast, acc.getLast (hop rfl), (List.dropLast_concat_getLast (hop rfl)).symm⟩
    have el : (pre ++ [s]).length = pre.length + 1 := by rw [List.length_append, List.length_singleton]
    have oks := ok s (by simp)
    have ix : (((pre ++ [s]).length : Int) - 1).toNat = pre.length := by rw [el]; omega
    have rd : ∀ (f : S5 → Int), ((pre ++ [s]).map f).getD pre.length 0 = f s := fun f => by
      rw [List.map_append, getD_app_r (by rw [List.length_map]; omega), List.length_map, Nat.sub_self]; rfl
    refine e91 (r91_0 ⟨s1, 1, c3, ⟨by omega, by omega⟩, fun q => absurd q (by omega), fun _ => ⟨_, f0, _, c1, g1.1, _, g1.2, ⟨by rw [el]; omega, by rw [el] at h24 ⊢; omega, by omega⟩, s.1, ?_, ⟨by omega, by omega⟩, ⟨by omega, by omega⟩, fun q => ⟨jz4, _, f1, g2.1, _, g2.2, jz4, _, f2, g3.1, _, g3.2, jz4, _, f3, _, c2, g4.1, _, g4.2, jz4, rfl, fr _ _ _ _ _ _ _, ?_⟩, fun q => ⟨_, f2, g3.1, _, g3.2, ⟨by rw [el]; omega, by rw [el] at h24 ⊢; omega, by omega⟩, s.2.2.1, ?_, rfl, (jf.refl _ h).sI (m 3 (by omega)), ?_⟩⟩⟩)
    · rw [ix, c4 pre.length (by rw [List.length_map, el]; omega), rd]
    · rw [note_t, if_neg q]
      exact dD_push hd0 rfl
    · rw [ix, c6 pre.length (by rw [List.length_map, el]; omega), rd]
    · rw [note_t, if_pos q, ix]
      have el2 : (pre ++ [(s.1, s.2.1, s.2.2.1 + 1, s.2.2.2)]).length = pre.length + 1 := by rw [List.length_append, List.length_singleton]
      have same : ∀ f : S5 → Int, f (s.1, s.2.1, s.2.2.1 + 1, s.2.2.2) = f s → (pre ++ [(s.1, s.2.1, s.2.2.1 + 1, s.2.2.2)]).map f = (pre ++ [s]).map f := fun f e => by
        rw [List.map_append, List.map_append, List.map_cons, List.map_cons, e]
      refine ⟨⟨?_, ?_, ?_⟩, ?_, ?_, ?_, ?_, c8.off (by omega)⟩
      · rw [jr_I_sI, if_neg (by omega), el2, ← el]; exact c1
      · rw [jr_I_sI, if_neg (by omega)]; exact c2
      · rw [jr_I_sI, if_neg (by omega)]; exact c3
      · rw [same (fun s => s.1) rfl]; exact c4.off (by omega)
      · rw [same (fun s => s.2.1) rfl]; exact c5.off (by omega)
      · have := c6.set (k := pre.length) (v := s.2.2.1 + 1) (by rw [List.length_map, el]; omega)
        rw [List.map_append, List.map_cons] at this ⊢
        rw [List.set_append_right _ _ (by rw [List.length_map]; omega), List.length_map, Nat.sub_self] at this
        exact this
      · rw [same (fun s => s.2.2.2.1) rfl]; exact c7.off (by omega)
theorem walk_end (A B : List Int) (n i j : Nat) (acc : List S5) (ad : List Int) (op : Bool) (hi : A.length ≤ i) (hj : B.length ≤ j) : walk A B n i j acc ad op = (acc, ad) := by
  cases n with
  | zero => rfl
  | succ n =>
    show (if i < A.length then _ else if j < B.length then _ else (acc, ad)) = _
    rw [if_neg (by omega), if_neg (by omega)]
theorem okS.mono {acc : List S5} {n m : Nat} (ok : okS acc n) (h : n ≤ m) : okS acc m := fun s hs => ⟨(ok s hs).1, (ok s hs).2.1, (ok s hs).2.2.1, by have := (ok s hs).2.2.2; omega⟩
theorem okS_note {acc : List S5} {n : Nat} (ok : okS acc n) {op : Bool} {k i f j : Int} (hk : k = 0 ∨ k = 1) (hi : 0 ≤ i ∧ i ≤ 12) : okS (note acc op k i f j) (n + 1) := by
  have new : okS (acc ++ [(k, i, 1, f, j)]) (n + 1) := by
    intro s hs
    rcases List.mem_append.mp hs with h | h
    · exact (ok.mono (Nat.le_succ n)) s h
    · rw [List.mem_singleton.mp h]
      refine ⟨hk, hi, ?_, ?_⟩
      · show (1 : Int) ≤ 1; omega
      · show (1 : Int) ≤ _; omega
  unfold note
  split
  · rename_i s0 hs0
    split
    · intro s hs
      have mem := List.mem_of_getLast? hs0
      rcases List.mem_append.mp hs with h | h
      · exact (ok.mono (Nat.le_succ n)) s ((List.dropLast_subset _) h)
      · rw [List.mem_singleton.mp h]
        have o := ok s0 mem
        refine ⟨o.1, o.2.1, ?_, ?_⟩
        · have := o.2.2.1; show 1 ≤ s0.2.2.1 + 1; omega
        · have := o.2.2.2; show s0.2.2.1 + 1 ≤ _; omega
    · exact new
  · exact new
