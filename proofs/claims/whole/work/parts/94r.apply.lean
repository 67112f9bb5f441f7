/-! Steps from one text to another, taken one by one, give that other text. -/
def stp (A B : List Int) (q : Nat × List Int) (s : S5) : Nat × List Int := if s.1 = 0 then ((s.2.1 + s.2.2.1).toNat, q.2 ++ (A.take s.2.1.toNat).drop q.1) else (s.2.1.toNat, q.2 ++ (A.take s.2.1.toNat).drop q.1 ++ (B.drop s.2.2.2.2.toNat).take s.2.2.1.toNat)
/-- place reached in the old text, lines so far -/
def pst (A B : List Int) (acc : List S5) : Nat × List Int := acc.foldl (stp A B) (0, [])
theorem pst_snoc (A B : List Int) (acc : List S5) (s : S5) : pst A B (acc ++ [s]) = stp A B (pst A B acc) s := by
  unfold pst; rw [List.foldl_append]; rfl
def vst (A B : List Int) (p : Nat) (s : S5) : Prop := (s.1 = 0 ∨ s.1 = 1) ∧ (p : Int) ≤ s.2.1 ∧ s.2.1 ≤ A.length ∧ 1 ≤ s.2.2.1 ∧ (s.1 = 0 → s.2.1 + s.2.2.1 ≤ A.length) ∧ (s.1 = 1 → 0 ≤ s.2.2.2.2 ∧ s.2.2.2.2 + s.2.2.1 ≤ B.length)
def vacc (A B : List Int) (acc : List S5) : Prop := ∀ k, k < acc.length → vst A B (pst A B (acc.take k)).1 (acc.getD k s50)
theorem vacc_snoc {A B : List Int} {acc : List S5} {s : S5} : vacc A B (acc ++ [s]) ↔ vacc A B acc ∧ vst A B (pst A B acc).1 s := by
  constructor
  · intro h
    refine ⟨fun k hk => ?_, ?_⟩
    · have := h k (by rw [List.length_append]; omega)
      rw [List.take_append_of_le_length (by omega), gD_l hk] at this
      exact this
    · have := h acc.length (by rw [List.length_append, List.length_singleton]; omega)
      rw [List.take_append_of_le_length (Nat.le_refl _), List.take_length, gD_n rfl] at this
      exact this
  · rintro ⟨h1, h2⟩ k hk
    rw [List.length_append, List.length_singleton] at hk
    rw [List.take_append_of_le_length (by omega)]
    by_cases e : k = acc.length
    · rw [gD_n e, e, List.take_length]; exact h2
    · rw [gD_l (by omega)]; exact h1 k (by omega)
/-- where the walk stands -/
def wk (A B : List Int) (i j : Nat) (acc : List S5) (op : Bool) : Prop := vacc A B acc ∧ (pst A B acc).1 ≤ i ∧ (pst A B acc).2 ++ (A.take i).drop (pst A B acc).1 = B.take j ∧ (op = true → ∃ pre s, acc = pre ++ [s] ∧ (s.1 = 0 → s.2.1 + s.2.2.1 = (i : Int)) ∧ (s.1 = 1 → s.2.1 = (i : Int) ∧ s.2.2.2.2 + s.2.2.1 = (j : Int)))
theorem td_nil (A : List Int) (i : Nat) : (A.take i).drop i = [] := List.drop_eq_nil_of_le (by rw [List.length_take]; omega)
theorem td_snoc {A : List Int} {i p : Nat} (hi : i < A.length) (hp : p ≤ i) : (A.take (i + 1)).drop p = (A.take i).drop p ++ [A.getD i 0] := by
  rw [take_snoc hi, List.drop_append_of_le_length (by rw [List.length_take]; omega)]
theorem dt_snoc {B : List Int} {n m : Nat} (h : n + m < B.length) : (B.drop n).take (m + 1) = (B.drop n).take m ++ [B.getD (n + m) 0] := by
  rw [take_snoc (by rw [List.length_drop]; omega), getD_drop]
theorem wk_new {A B : List Int} {i j : Nat} {acc : List S5} {op : Bool} {k f : Int} (h : wk A B i j acc op) (hk : (k = 0 ∧ i < A.length) ∨ (k = 1 ∧ j < B.length)) (hi : i ≤ A.length) : wk A B (if k = 0 then i + 1 else i) (if k = 0 then j else j + 1) (acc ++ [(k, (i : Int), 1, f, (j : Int))]) true := by
  obtain ⟨h1, h2, h3, -⟩ := h
  have e1 : (i : Int).toNat = i := by omega
  have e2 : (j : Int).toNat = j := by omega
  rcases hk with ⟨rfl, hk⟩ | ⟨rfl, hk⟩
  · rw [if_pos rfl, if_pos rfl]
    have ep : pst A B (acc ++ [((0 : Int), (i : Int), 1, f, (j : Int))]) = (i + 1, B.take j) := by
      rw [pst_snoc, stp, if_pos rfl]
      show (((i : Int) + 1).toNat, (pst A B acc).2 ++ (A.take (i : Int).toNat).drop (pst A B acc).1) = _
      rw [e1, h3, show ((i : Int) + 1).toNat = i + 1 by omega]
    refine ⟨vacc_snoc.mpr ⟨h1, Or.inl rfl, by show ((pst A B acc).1 : Int) ≤ (i : Int); omega, by show (i : Int) ≤ _; omega, by show (1 : Int) ≤ 1; omega, fun _ => by show (i : Int) + 1 ≤ _; omega, fun x => absurd x (by show ¬ (0 : Int) = 1; omega)⟩, ?_, ?_, fun _ => ⟨acc, _, rfl, fun _ => by show (i : Int) + 1 = ((i + 1 : Nat) : Int); omega, fun x => absurd x (by show ¬ (0 : Int) = 1; omega)⟩⟩
    · rw [ep]; exact Nat.le_refl _
    · rw [ep]; show B.take j ++ (A.take (i + 1)).drop (i + 1) = _
      rw [td_nil, List.append_nil]
  · rw [if_neg (by omega), if_neg (by omega)]
    have ep : pst A B (acc ++ [((1 : Int), (i : Int), 1, f, (j : Int))]) = (i, B.take (j + 1)) := by
      rw [pst_snoc, stp, if_neg (show ¬ (1 : Int) = 0 by omega)]
      show ((i : Int).toNat, (pst A B acc).2 ++ (A.take (i : Int).toNat).drop (pst A B acc).1 ++ (B.drop (j : Int).toNat).take (1 : Int).toNat) = _
      rw [e1, e2, h3, take_snoc hk]
      have : (B.drop j).take (1 : Int).toNat = [B.getD j 0] := by
        have := dt_snoc (B := B) (n := j) (m := 0) (by omega)
        rw [List.take_zero, List.nil_append] at this
        exact this
      rw [this]
    refine ⟨vacc_snoc.mpr ⟨h1, Or.inr rfl, by show ((pst A B acc).1 : Int) ≤ (i : Int); omega, by show (i : Int) ≤ _; omega, by show (1 : Int) ≤ 1; omega, fun x => absurd x (by show ¬ (1 : Int) = 0; omega), fun _ => by show 0 ≤ (j : Int) ∧ (j : Int) + 1 ≤ _; omega⟩, ?_, ?_, fun _ => ⟨acc, _, rfl, fun x => absurd x (by show ¬ (1 : Int) = 0; omega), fun _ => by show (i : Int) = i ∧ (j : Int) + 1 = ((j + 1 : Nat) : Int); omega⟩⟩
    · rw [ep]; exact Nat.le_refl _
    · rw [ep]; show B.take (j + 1) ++ (A.take i).drop i = _
      rw [td_nil, List.append_nil]
theorem wk_note {A B : List Int} {i j : Nat} {acc : List S5} {op : Bool} {k f : Int} (h : wk A B i j acc op) (hk : (k = 0 ∧ i < A.length) ∨ (k = 1 ∧ j < B.length)) (hi : i ≤ A.length) : wk A B (if k = 0 then i + 1 else i) (if k = 0 then j else j + 1) (note acc op k i f j) true := by
  cases op with
  | false => rw [note_f]; exact wk_new h hk hi
  | true =>
    have h0 := h
    obtain ⟨h1, h2, h3, h4⟩ := h
    obtain ⟨pre, s, rfl, h5, h6⟩ := h4 rfl
    rw [note_t]
    by_cases e : s.1 = k
    · rw [if_pos e]
      obtain ⟨v1, v2⟩ := vacc_snoc.mp h1
      obtain ⟨w1, w2, w3, w4, w5, w6⟩ := v2
      rw [pst_snoc] at h2 h3
      rcases hk with ⟨rfl, hk⟩ | ⟨rfl, hk⟩
      · have h5' := h5 e
        rw [if_pos rfl, if_pos rfl]
        rw [stp, if_pos e] at h2 h3
        have e1 : (s.2.1 + s.2.2.1).toNat = i := by omega
        have h3' : (pst A B pre).2 ++ (A.take s.2.1.toNat).drop (pst A B pre).1 = B.take j := by
          have := h3
          show _ = _
          simp only [e1, td_nil, List.append_nil] at this
          exact this
        have ep : pst A B (pre ++ [(s.1, s.2.1, s.2.2.1 + 1, s.2.2.2)]) = (i + 1, B.take j) := by
          rw [pst_snoc, stp, if_pos e]
          show ((s.2.1 + (s.2.2.1 + 1)).toNat, (pst A B pre).2 ++ (A.take s.2.1.toNat).drop (pst A B pre).1) = _
          rw [h3', show (s.2.1 + (s.2.2.1 + 1)).toNat = i + 1 by omega]
        refine ⟨vacc_snoc.mpr ⟨v1, w1, w2, w3, by show (1 : Int) ≤ s.2.2.1 + 1; omega, fun _ => by show s.2.1 + (s.2.2.1 + 1) ≤ _; omega, fun x => absurd x (by show ¬ s.1 = 1; omega)⟩, ?_, ?_, fun _ => ⟨pre, _, rfl, fun _ => by show s.2.1 + (s.2.2.1 + 1) = ((i + 1 : Nat) : Int); omega, fun x => absurd x (by show ¬ s.1 = 1; omega)⟩⟩
        · rw [ep]; exact Nat.le_refl _
        · rw [ep]; show B.take j ++ (A.take (i + 1)).drop (i + 1) = _
          rw [td_nil, List.append_nil]
      · obtain ⟨h7, h8⟩ := h6 e
        obtain ⟨w7, w8⟩ := w6 e
        rw [if_neg (by omega), if_neg (by omega)]
        have e0 : ¬ s.1 = 0 := by omega
        rw [stp, if_neg e0] at h2 h3
        have e1 : s.2.1.toNat = i := by omega
        have h3' : (pst A B pre).2 ++ (A.take s.2.1.toNat).drop (pst A B pre).1 ++ (B.drop s.2.2.2.2.toNat).take s.2.2.1.toNat = B.take j := by
          have := h3
          show _ = _
          simp only [e1, td_nil, List.append_nil] at this ⊢
          exact this
        have ep : pst A B (pre ++ [(s.1, s.2.1, s.2.2.1 + 1, s.2.2.2)]) = (i, B.take (j + 1)) := by
          rw [pst_snoc, stp, if_neg e0]
          show (s.2.1.toNat, (pst A B pre).2 ++ (A.take s.2.1.toNat).drop (pst A B pre).1 ++ (B.drop s.2.2.2.2.toNat).take (s.2.2.1 + 1).toNat) = _
          rw [show (s.2.2.1 + 1).toNat = s.2.2.1.toNat + 1 by omega, dt_snoc (by omega), ← List.append_assoc, h3', e1, take_snoc hk, show s.2.2.2.2.toNat + s.2.2.1.toNat = j by omega]
        refine ⟨vacc_snoc.mpr ⟨v1, w1, w2, w3, by show (1 : Int) ≤ s.2.2.1 + 1; omega, fun x => absurd x (by show ¬ s.1 = 0; omega), fun _ => by show 0 ≤ s.2.2.2.2 ∧ s.2.2.2.2 + (s.2.2.1 + 1) ≤ _; omega⟩, ?_, ?_, fun _ => ⟨pre, _, rfl, fun x => absurd x (by show ¬ s.1 = 0; omega), fun _ => by show s.2.1 = i ∧ s.2.2.2.2 + (s.2.2.1 + 1) = ((j + 1 : Nat) : Int); omega⟩⟩
        · rw [ep]; exact Nat.le_refl _
        · rw [ep]; show B.take (j + 1) ++ (A.take i).drop i = _
          rw [td_nil, List.append_nil]
    · rw [if_neg e]; exact wk_new h0 hk hi
theorem walk_app (A B : List Int) : ∀ (n i j : Nat) (acc : List S5) (ad : List Int) (op : Bool), i ≤ A.length → j ≤ B.length → (A.length - i) + (B.length - j) ≤ n → wk A B i j acc op → vacc A B (walk A B n i j acc ad op).1 ∧ (pst A B (walk A B n i j acc ad op).1).1 ≤ A.length ∧ (pst A B (walk A B n i j acc ad op).1).2 ++ A.drop (pst A B (walk A B n i j acc ad op).1).1 = B := by
  intro n
  induction n with
  | zero =>
    intro i j acc ad op hi hj hn h
    obtain ⟨h1, h2, h3, -⟩ := h
    have e1 : i = A.length := by omega
    have e2 : j = B.length := by omega
    rw [e1, e2, List.take_length, List.take_length] at h3
    exact ⟨h1, by show (pst A B acc).1 ≤ _; omega, h3⟩
  | succ n ih =>
    intro i j acc ad op hi hj hn h
    unfold walk
    split
    · rename_i c1
      split
      · rename_i c2
        obtain ⟨h1, h2, h3, -⟩ := h
        refine ih _ _ _ _ _ (by omega) (by omega) (by omega) ⟨h1, by omega, ?_, fun x => by cases x⟩
        rw [td_snoc c1 h2, ← List.append_assoc, h3, take_snoc c2.1, c2.2]
      · split
        · have := wk_note (k := 0) (f := ad.length) h (Or.inl ⟨rfl, c1⟩) hi
          rw [if_pos rfl, if_pos rfl] at this
          exact ih _ _ _ _ _ (by omega) hj (by omega) this
        · rename_i c2 c3
          have hj' : j < B.length := by
            rcases Nat.lt_or_ge j B.length with q | q
            · exact q
            · exact absurd (Or.inl (by omega)) c3
          have := wk_note (k := 1) (f := ad.length) h (Or.inr ⟨rfl, hj'⟩) hi
          rw [if_neg (by omega), if_neg (by omega)] at this
          exact ih _ _ _ _ _ hi (by omega) (by omega) this
    · split
      · rename_i c1 c2
        have := wk_note (k := 1) (f := ad.length) h (Or.inr ⟨rfl, c2⟩) hi
        rw [if_neg (by omega), if_neg (by omega)] at this
        exact ih _ _ _ _ _ hi (by omega) (by omega) this
      · rename_i c1 c2
        obtain ⟨h1, h2, h3, -⟩ := h
        have e1 : i = A.length := by omega
        have e2 : j = B.length := by omega
        rw [e1, e2, List.take_length, List.take_length] at h3
        exact ⟨h1, by show (pst A B acc).1 ≤ _; omega, h3⟩
theorem delta_app (A B : List Int) : vacc A B (delta A B).1 ∧ (pst A B (delta A B).1).1 ≤ A.length ∧ (pst A B (delta A B).1).2 ++ A.drop (pst A B (delta A B).1).1 = B := walk_app A B _ 0 0 [] [] false (Nat.zero_le _) (Nat.zero_le _) (by omega) ⟨fun k hk => absurd hk (Nat.not_lt_zero k), Nat.le_refl _, by rw [List.take_zero, List.take_zero]; rfl, fun x => by cases x⟩
/-- the lines only grow -/
theorem pst_grow (A B : List Int) : ∀ (l acc : List S5), ∃ t, (pst A B (acc ++ l)).2 = (pst A B acc).2 ++ t
  | [], acc => ⟨[], by rw [List.append_nil, List.append_nil]⟩
  | s :: l, acc => by
    obtain ⟨t, ht⟩ := pst_grow A B l (acc ++ [s])
    rw [← List.append_cons] at ht
    rw [ht, pst_snoc, stp]
    split
    · exact ⟨_, List.append_assoc _ _ _⟩
    · refine ⟨(A.take s.2.1.toNat).drop (pst A B acc).1 ++ ((B.drop s.2.2.2.2.toNat).take s.2.2.1.toNat ++ t), ?_⟩
      simp only [List.append_assoc]
theorem pst_pre {A B : List Int} {acc : List S5} (e : (pst A B acc).2 ++ A.drop (pst A B acc).1 = B) (k : Nat) : ∃ t, B = (pst A B (acc.take k)).2 ++ t := by
  obtain ⟨t, ht⟩ := pst_grow A B (acc.drop k) (acc.take k)
  rw [List.take_append_drop] at ht
  exact ⟨t ++ A.drop (pst A B acc).1, by rw [← List.append_assoc, ← ht, e]⟩
/-- one step as bytes: what it adds stands as a text -/
theorem encS_eq {A B ad : List Int} {s : S5} (h : okT s ad B B.length) (h1 : s.1 = 0 ∨ s.1 = 1) (h2 : 1 ≤ s.2.2.1) : encS ad s = s.1 :: s.2.1 :: (if s.1 = 0 then [s.2.2.1] else encT ((B.drop s.2.2.2.2.toNat).take s.2.2.1.toNat)) := by
  unfold encS
  rcases h1 with e | e
  · rw [if_neg (by omega), if_pos e]; rfl
  · rw [if_pos e, if_neg (by omega)]
    obtain ⟨t1, t2, t3, t4, t5⟩ := h e
    have len : ((B.drop s.2.2.2.2.toNat).take s.2.2.1.toNat).length = s.2.2.1.toNat := by
      rw [List.length_take, List.length_drop]; omega
    have lines : (List.range s.2.2.1.toNat).map (fun n : Nat => addL s ad n) = (B.drop s.2.2.2.2.toNat).take s.2.2.1.toNat := by
      refine getD_ext (by rw [List.length_map, List.length_range, len]) (fun i hi => ?_)
      rw [List.length_map, List.length_range] at hi
      rw [getD_take hi, getD_drop, gD_mp (a := 0) (by rw [List.length_range]; exact hi)]
      have : (List.range s.2.2.1.toNat).getD i 0 = i := by
        rw [List.getD_eq_getElem?_getD, List.getElem?_range hi]; rfl
      rw [this, addL, if_pos ⟨e, by omega, by omega⟩, t5 i (by omega)]
      congr 1
      omega
    rw [lines, encT, len]
    show s.1 :: s.2.1 :: s.2.2.1 :: _ = _
    rw [show ((s.2.2.1.toNat : Nat) : Int) = s.2.2.1 by omega]; rfl
theorem delta_12 {A B : List Int} (hA : A.length ≤ 12) (hB : B.length ≤ 12) : okS (delta A B).1 12 := by
  intro s hs
  obtain ⟨k, hk, e⟩ := List.getElem_of_mem hs
  have v := (delta_app A B).1 k hk
  have eg : (delta A B).1.getD k s50 = s := by rw [List.getD_eq_getElem?_getD, List.getElem?_eq_getElem hk]; exact e
  rw [eg] at v
  obtain ⟨v1, v2, v3, v4, v5, v6⟩ := v
  refine ⟨v1, ⟨by omega, by omega⟩, v4, ?_⟩
  rcases v1 with e | e
  · have := v5 e; omega
  · have := v6 e; omega
