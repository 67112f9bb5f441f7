/-! The lines that steps add; telling texts and steps as bytes. -/
/-- a step's added lines stand among the added ones, and in the new text -/
def okT (s : S5) (ad B : List Int) (j : Nat) : Prop := s.1 = 1 → 0 ≤ s.2.2.2.1 ∧ s.2.2.2.1 + s.2.2.1 ≤ ad.length ∧ 0 ≤ s.2.2.2.2 ∧ s.2.2.2.2 + s.2.2.1 ≤ j ∧ ∀ l : Nat, (l : Int) < s.2.2.1 → ad.getD (s.2.2.2.1 + l).toNat 0 = B.getD (s.2.2.2.2 + l).toNat 0
def okA (acc : List S5) (ad B : List Int) (j : Nat) : Prop := ∀ s ∈ acc, okT s ad B j
def opA (acc : List S5) (ad : List Int) (j : Nat) (op : Bool) : Prop := op = true → ∀ s, acc.getLast? = some s → s.1 = 1 → s.2.2.2.1 + s.2.2.1 = ad.length ∧ s.2.2.2.2 + s.2.2.1 = j
theorem okT.mono {s : S5} {ad B : List Int} {j j' : Nat} (h : okT s ad B j) (hj : j ≤ j') : okT s ad B j' := fun e => ⟨(h e).1, (h e).2.1, (h e).2.2.1, by have := (h e).2.2.2.1; omega, (h e).2.2.2.2⟩
theorem okT.grow {s : S5} {ad B : List Int} {j j' : Nat} (h : okT s ad B j) (hj : j ≤ j') (b : Int) : okT s (ad ++ [b]) B j' := fun e => by
  obtain ⟨h1, h2, h3, h4, h5⟩ := h e
  refine ⟨h1, by rw [List.length_append, List.length_singleton]; omega, h3, by omega, fun l hl => ?_⟩
  rw [getD_app_l (by omega)]
  exact h5 l hl
theorem last_app (acc : List S5) (s : S5) : (acc ++ [s]).getLast? = some s := by simp
theorem okA_note0 {acc : List S5} {ad B : List Int} {j : Nat} {op : Bool} {i f x : Int} (h : okA acc ad B j) : okA (note acc op 0 i f x) ad B j ∧ opA (note acc op 0 i f x) ad j true := by
  have new : okA (acc ++ [(0, i, 1, f, x)]) ad B j ∧ opA (acc ++ [(0, i, 1, f, x)]) ad j true := by
    refine ⟨fun s hs => ?_, fun _ s hs e => ?_⟩
    · rcases List.mem_append.mp hs with q | q
      · exact h s q
      · rw [List.mem_singleton.mp q]; intro e; cases e
    · rw [last_app] at hs; cases hs; cases e
  unfold note
  split
  · rename_i s0 hs0
    split
    · rename_i c
      refine ⟨fun s hs => ?_, fun _ s hs e => ?_⟩
      · rcases List.mem_append.mp hs with q | q
        · exact h s ((List.dropLast_subset _) q)
        · rw [List.mem_singleton.mp q]; intro e; rw [c.2] at e; cases e
      · rw [last_app] at hs; cases hs; rw [c.2] at e; cases e
    · exact new
  · exact new
theorem okA_note1 {acc : List S5} {ad B : List Int} {j : Nat} {op : Bool} {i : Int} (h : okA acc ad B j) (ho : opA acc ad j op) : okA (note acc op 1 i ad.length j) (ad ++ [B.getD j 0]) B (j + 1) ∧ opA (note acc op 1 i ad.length j) (ad ++ [B.getD j 0]) (j + 1) true := by
  have el : (ad ++ [B.getD j 0]).length = ad.length + 1 := by rw [List.length_append, List.length_singleton]
  have new : okA (acc ++ [(1, i, 1, (ad.length : Int), (j : Int))]) (ad ++ [B.getD j 0]) B (j + 1) ∧ opA (acc ++ [(1, i, 1, (ad.length : Int), (j : Int))]) (ad ++ [B.getD j 0]) (j + 1) true := by
    refine ⟨fun s hs => ?_, fun _ s hs e => ?_⟩
    · rcases List.mem_append.mp hs with q | q
      · exact (h s q).grow (Nat.le_succ j) _
      · rw [List.mem_singleton.mp q]
        intro _
        refine ⟨by show (0 : Int) ≤ ad.length; omega, by show (ad.length : Int) + 1 ≤ _; omega, by show (0 : Int) ≤ j; omega, by show (j : Int) + 1 ≤ _; omega, fun l hl => ?_⟩
        replace hl : (l : Int) < 1 := hl
        have : l = 0 := by omega
        subst this
        show (ad ++ [B.getD j 0]).getD ((ad.length : Int) + (0 : Nat)).toNat 0 = B.getD ((j : Int) + (0 : Nat)).toNat 0
        rw [show ((ad.length : Int) + (0 : Nat)).toNat = ad.length by omega, show ((j : Int) + (0 : Nat)).toNat = j by omega, getD_app_r (Nat.le_refl _), Nat.sub_self]
        rfl
    · rw [last_app] at hs; cases hs
      refine ⟨?_, ?_⟩
      · show (ad.length : Int) + 1 = _; omega
      · show (j : Int) + 1 = _; omega
  unfold note
  split
  · rename_i s0 hs0
    split
    · rename_i c
      obtain ⟨c1, c2⟩ := c
      have o := ho c1 s0 hs0 c2
      have t := h s0 (List.mem_of_getLast? hs0) c2
      refine ⟨fun s hs => ?_, fun _ s hs e => ?_⟩
      · rcases List.mem_append.mp hs with q | q
        · exact (h s ((List.dropLast_subset _) q)).grow (Nat.le_succ j) _
        · rw [List.mem_singleton.mp q]
          intro _
          refine ⟨t.1, ?_, t.2.2.1, ?_, fun l hl => ?_⟩
          · show s0.2.2.2.1 + (s0.2.2.1 + 1) ≤ _; omega
          · show s0.2.2.2.2 + (s0.2.2.1 + 1) ≤ _; omega
          · replace hl : (l : Int) < s0.2.2.1 + 1 := hl
            show (ad ++ [B.getD j 0]).getD (s0.2.2.2.1 + l).toNat 0 = B.getD (s0.2.2.2.2 + l).toNat 0
            by_cases e : (l : Int) < s0.2.2.1
            · rw [getD_app_l (by have := t.1; omega)]
              exact t.2.2.2.2 l e
            · have el2 : (l : Int) = s0.2.2.1 := by omega
              rw [show (s0.2.2.2.1 + l).toNat = ad.length by omega, show (s0.2.2.2.2 + l).toNat = j by omega, getD_app_r (Nat.le_refl _), Nat.sub_self]
              rfl
      · rw [last_app] at hs; cases hs
        refine ⟨?_, ?_⟩
        · show s0.2.2.2.1 + (s0.2.2.1 + 1) = _; omega
        · show s0.2.2.2.2 + (s0.2.2.1 + 1) = _; omega
    · exact new
  · exact new
theorem walk_ok (A B : List Int) : ∀ (n i j : Nat) (acc : List S5) (ad : List Int) (op : Bool), j ≤ B.length → okA acc ad B j → opA acc ad j op → okA (walk A B n i j acc ad op).1 (walk A B n i j acc ad op).2 B B.length := by
  intro n
  induction n with
  | zero => exact fun i j acc ad op hj h _ s hs => (h s hs).mono hj
  | succ n ih =>
    intro i j acc ad op hj h ho
    have n0 := okA_note0 (op := op) (i := (i : Int)) (f := (ad.length : Int)) (x := (j : Int)) h
    have n1 := okA_note1 (i := (i : Int)) h ho
    unfold walk
    split
    · split
      · rename_i c
        exact ih _ _ _ _ _ (by omega) (fun s hs => (h s hs).mono (Nat.le_succ j)) (fun e => by cases e)
      · split
        · exact ih _ _ _ _ _ hj n0.1 n0.2
        · rename_i c
          exact ih _ _ _ _ _ (by omega) n1.1 n1.2
    · split
      · exact ih _ _ _ _ _ (by omega) n1.1 n1.2
      · exact fun s hs => (h s hs).mono hj
theorem delta_ok (A B : List Int) : okA (delta A B).1 (delta A B).2 B B.length := walk_ok A B _ _ _ _ _ _ (Nat.zero_le _) (fun s hs => by cases hs) (fun e => by cases e)
/-- the number'th line that the step adds -/
def addL (s : S5) (ad : List Int) (n : Int) : Int := if s.1 = 1 ∧ 0 ≤ n ∧ n < s.2.2.1 then ad.getD (s.2.2.2.1 + n).toNat 0 else -1
theorem gD_map {f : S5 → Int} {acc : List S5} {k : Nat} {s0 : S5} (hk : k < acc.length) : (acc.map f).getD k 0 = f (acc.getD k s0) := by
  rw [List.getD_eq_getElem?_getD, List.getD_eq_getElem?_getD, List.getElem?_map, List.getElem?_eq_getElem hk]; rfl
def s50 : S5 := (0, 0, 0, 0, 0)
theorem mem_gD {acc : List S5} {k : Nat} (hk : k < acc.length) : acc.getD k s50 ∈ acc := by
  rw [List.getD_eq_getElem?_getD, List.getElem?_eq_getElem hk]; exact List.getElem_mem hk
theorem s93 {d a : Nat} {h : jm_H} {acc : List S5} {ad B : List Int} {op : Bool} {k n : Int} (hs : shD h a) (hd : dD h a acc ad op) (ok : okS acc 24) (oa : okA acc ad B B.length) (l12 : ad.length ≤ 12) (h24 : acc.length ≤ 24) (hk : 0 ≤ k ∧ k < acc.length) (hn : jR n) :
    jm_E dh_pr (d + 1) 93 [.inr (.inl a), .inl (jz k), .inl (jz n)] h (fun o h' => ∃ z : Int, o = .inl (some (.inl (jz z))) ∧ z = addL (acc.getD k.toNat s50) ad n ∧ h' = h) := by
  obtain ⟨⟨c1, c2, c3⟩, c4, c5, c6, c7, c8⟩ := hd
  obtain ⟨s1, ⟨f0, f1, f2, f3, f4, f5⟩, ⟨g1, g2, g3, g4, g5⟩, -⟩ := hs
  have kk : k.toNat < acc.length := by omega
  have hm := mem_gD kk
  have o := ok _ hm
  have t := oa _ hm
  have rd : ∀ (f : S5 → Int), (acc.map f).getD k.toNat 0 = f (acc.getD k.toNat s50) := fun f => gD_map kk
  have ll : ∀ (f : S5 → Int), k.toNat < (acc.map f).length := fun f => by rw [List.length_map]; exact kk
  generalize acc.getD k.toNat s50 = s at *
  have ki : jzi k 24 := ⟨by omega, by omega, by omega⟩
  refine e93 (r93_0 ⟨s1, _, f0, g1.1, _, g1.2, ki, s.1, by rw [c4 _ (ll _), rd], ⟨by omega, by omega⟩, fun q => ⟨_, rfl, ?_, rfl⟩, fun q => ⟨hn, fun q' => ⟨_, rfl, ?_, rfl⟩, fun q' => ⟨_, f2, g3.1, _, g3.2, ki, s.2.2.1, by rw [c6 _ (ll _), rd], ⟨by omega, by omega⟩, fun q3 => ⟨_, f4, _, f3, g4.1, _, g4.2, ki, s.2.2.2.1, by rw [c7 _ (ll _), rd], g5.1, _, g5.2, ⟨by have := (t q).1; omega, by have := (t q).2.1; omega, by omega⟩, ad.getD (s.2.2.2.1 + n).toNat 0, c8 _ (by have := (t q).1; have := (t q).2.1; omega), _, rfl, ?_, rfl⟩, fun q3 => ⟨_, rfl, ?_, rfl⟩⟩⟩⟩)
  · rw [addL, if_neg (fun p => q p.1)]
  · rw [addL, if_neg (by omega)]
  · rw [addL, if_pos ⟨q, q', q3⟩]
  · rw [addL, if_neg (by omega)]
