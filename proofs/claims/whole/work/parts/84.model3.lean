/-! The reference: making steps. -/
def dM (h : jm_H) (M : Nat) (acc : List S5) : Prop := jm_I h M 21 = jz acc.length ∧ row h (M + 14) (acc.map (fun s => s.1)) ∧ row h (M + 15) (acc.map (fun s => s.2.1)) ∧ row h (M + 16) (acc.map (fun s => s.2.2.1)) ∧ row h (M + 17) (acc.map (fun s => s.2.2.2.2))
theorem dM.jq {h h' : jm_H} {M : Nat} {acc : List S5} {ks S : List Nat} (c : dM h M acc) (p : jq M ks S h h') (h0 : M ∉ S) (h1 : 21 ∉ ks) (h2 : ∀ i, i < 4 → M + 14 + i ∉ S) : dM h' M acc := by
  obtain ⟨c1, c2, c3, c4, c5⟩ := c
  exact ⟨(p.2 M 21 h0 (fun q => h1 q.2)).trans c1, c2.jq p (h2 0 (by omega)) (by omega), c3.jq p (h2 1 (by omega)) (by omega), c4.jq p (h2 2 (by omega)) (by omega), c5.jq p (h2 3 (by omega)) (by omega)⟩
theorem dM_push {h : jm_H} {M n : Nat} {acc : List S5} {k i f j : Int} (hd : dM h M acc) (hn : n = acc.length) :
    dM (jm_sI (jm_sI (jm_sI (jm_sI (jm_sI h (M + 14) n (jz k)) (M + 15) n (jz i)) (M + 16) n (jz 1)) (M + 17) n (jz j)) M 21 (jz ((acc.length : Int) + 1))) M (acc ++ [(k, i, 1, f, j)]) := by
  obtain ⟨c1, c4, c5, c6, c7⟩ := hd
  refine ⟨?_, ?_, ?_, ?_, ?_⟩
  · rw [jr_I_self, List.length_append, List.length_singleton]; rfl
  · exact ((((c4.push' (by rw [List.length_map]; exact hn) (by rw [List.map_append]; rfl)).off (by omega)).off (by omega)).off (by omega)).off (by omega)
  · exact ((((c5.off (by omega)).push' (by rw [List.length_map]; exact hn) (by rw [List.map_append]; rfl)).off (by omega)).off (by omega)).off (by omega)
  · exact ((((c6.off (by omega)).off (by omega)).push' (by rw [List.length_map]; exact hn) (by rw [List.map_append]; rfl)).off (by omega)).off (by omega)
  · exact ((((c7.off (by omega)).off (by omega)).off (by omega)).push' (by rw [List.length_map]; exact hn) (by rw [List.map_append]; rfl)).off (by omega)
def m4 (M : Nat) : List Nat := [M + 14, M + 15, M + 16, M + 17]
theorem s44 {d M : Nat} {h : jm_H} {acc : List S5} {op : Bool} {k i j : Int} (hs : shM h M) (hd : dM h M acc) (h24 : acc.length < 24) (hop : op = true → acc ≠ []) {no : Nat} (ok : okS acc no) (hk : k = 0 ∨ k = 1) (f : Int) {g : Int} (hg : g = if op = true then 1 else 0) :
    jm_E dh_pr (d + 1) 44 [.inr (.inl M), .inl (jz k), .inl (jz i), .inl (jz j), .inl (jz g)] h (fun o h' => o = .inl none ∧ jq M [21] (m4 M) h h' ∧ dM h' M (note acc op k i f j)) := by
  have hd0 := hd
  obtain ⟨c1, c4, c5, c6, c7⟩ := hd
  obtain ⟨f0, g0, n0⟩ := hs.f 22 14 24 (by decide)
  obtain ⟨f1, g1, n1⟩ := hs.f 23 15 24 (by decide)
  obtain ⟨f2, g2, n2⟩ := hs.f 24 16 24 (by decide)
  obtain ⟨f3, g3, n3⟩ := hs.f 25 17 24 (by decide)
  have fr : ∀ (n : Nat) (y1 y2 y3 y4 y5 : Int32), jq M [21] (m4 M) h (jm_sI (jm_sI (jm_sI (jm_sI (jm_sI h (M + 14) n y1) (M + 15) n y2) (M + 16) n y3) (M + 17) n y4) M 21 y5) := fun n y1 y2 y3 y4 y5 =>
    (((((jq.refl _ _ _ h).sI (by simp [m4])).sI (by simp [m4])).sI (by simp [m4])).sI (by simp [m4])).sM (by simp)
  have jz4 : jzi (acc.length : Int) 24 := ⟨by omega, by omega, by omega⟩
  cases op with
  | false =>
    have : g = 0 := hg
    subst this
    refine e44 (r44_0 ⟨⟨by omega, by omega⟩, fun _ => ⟨hs.1, _, f0, _, c1, g0, _, n0, jz4, _, f1, g1, _, n1, jz4, _, f2, g2, _, n2, jz4, _, f3, g3, _, n3, jz4, rfl, fr _ _ _ _ _ _, ?_⟩, fun q => absurd rfl q⟩)
    rw [note_f]
    exact dM_push hd0 rfl
  | true =>
    have : g = 1 := hg
    subst this
    obtain ⟨pre, s, rfl⟩ : ∃ pre s, acc = pre ++ [s] := ⟨acc.dropLast, acc.getLast (hop rfl), (List.dropLast_concat_getLast (hop rfl)).symm⟩
    have el : (pre ++ [s]).length = pre.length + 1 := by rw [List.length_append, List.length_singleton]
    have oks := ok s (by simp)
    have ix : (((pre ++ [s]).length : Int) - 1).toNat = pre.length := by rw [el]; omega
    have rd : ∀ (f : S5 → Int), ((pre ++ [s]).map f).getD pre.length 0 = f s := fun f => by
      rw [List.map_append, getD_app_r (by rw [List.length_map]; omega), List.length_map, Nat.sub_self]; rfl
    have ji : jzi (((pre ++ [s]).length : Int) - 1) 24 := ⟨by rw [el]; omega, by rw [el] at h24 ⊢; omega, by omega⟩
    refine e44 (r44_0 ⟨⟨by omega, by omega⟩, fun q => absurd q (by omega), fun _ => ⟨hs.1, _, f0, _, c1, g0, _, n0, ji, s.1, ?_, ⟨by omega, by omega⟩, ⟨by omega, by omega⟩, fun q => ⟨jz4, _, f1, g1, _, n1, jz4, _, f2, g2, _, n2, jz4, _, f3, g3, _, n3, jz4, rfl, fr _ _ _ _ _ _, ?_⟩, fun q => ⟨_, f2, g2, _, n2, ji, s.2.2.1, ?_, rfl, (jq.refl _ _ _ h).sI (by simp [m4]), ?_⟩⟩⟩)
    · rw [ix, c4 pre.length (by rw [List.length_map, el]; omega), rd]
    · rw [note_t, if_neg q]
      exact dM_push hd0 rfl
    · rw [ix, c6 pre.length (by rw [List.length_map, el]; omega), rd]
    · rw [note_t, if_pos q, ix]
      have el2 : (pre ++ [(s.1, s.2.1, s.2.2.1 + 1, s.2.2.2)]).length = pre.length + 1 := by rw [List.length_append, List.length_singleton]
      have same : ∀ f : S5 → Int, f (s.1, s.2.1, s.2.2.1 + 1, s.2.2.2) = f s → (pre ++ [(s.1, s.2.1, s.2.2.1 + 1, s.2.2.2)]).map f = (pre ++ [s]).map f := fun f e => by
        rw [List.map_append, List.map_append, List.map_cons, List.map_cons, e]
      refine ⟨?_, ?_, ?_, ?_, ?_⟩
      · rw [jr_I_sI, if_neg (by omega), el2, ← el]; exact c1
      · rw [same (fun s => s.1) rfl]; exact c4.off (by omega)
      · rw [same (fun s => s.2.1) rfl]; exact c5.off (by omega)
      · have := c6.set (k := pre.length) (v := s.2.2.1 + 1) (by rw [List.length_map, el]; omega)
        rw [List.map_append, List.map_cons] at this ⊢
        rw [List.set_append_right _ _ (by rw [List.length_map]; omega), List.length_map, Nat.sub_self] at this
        exact this
      · rw [same (fun s => s.2.2.2.2) rfl]; exact c7.off (by omega)
theorem s45_l {d M : Nat} {h0 : jm_H} {Q : jm_Q} {A B : List Int} {R : List S5 × List Int} (hs : shM h0 M) (hA : cA h0 M A) (hB : cB h0 M B) (rA : rng A) (rB : rng B) (t0 : ∀ i, i ≤ A.length → ∀ j, j ≤ B.length → tM h0 M A B i j)
    (Qok : ∀ h, jq M [21] (m4 M) h0 h → dM h M R.1 → R.1.length ≤ 24 → okS R.1 24 → Q (.inl none) h) :
    ∀ (n i j : Nat) (h : jm_H) (v1 v2 v3 : Int) (acc : List S5) (ad : List Int) (op : Bool), v1 = i → v2 = j → v3 = (if op = true then 1 else 0) → i ≤ A.length → j ≤ B.length → A.length + B.length ≤ n + i + j → acc.length ≤ i + j → (op = true → acc ≠ []) → okS acc (i + j) → jq M [21] (m4 M) h0 h → dM h M acc → walk A B n i j acc ad op = R →
    jm_W dh_pr (d + 1) 45 (15, [some (.inr (.inl M)), some (.inl (jz v1)), some (.inl (jz v2)), some (.inl (jz v3))], [], h) Q := by
  have lA := hA.2.1
  have lB := hB.2.1
  have stop : ∀ (n i j : Nat) (h : jm_H) (acc : List S5) (ad : List Int) (op : Bool), A.length ≤ i → i ≤ A.length → B.length ≤ j → j ≤ B.length → acc.length ≤ i + j → okS acc (i + j) → jq M [21] (m4 M) h0 h → dM h M acc → walk A B n i j acc ad op = R → Q (.inl none) h := by
    intro n i j h acc ad op g1 g2 g3 g4 g5 g7 g8 g9 g10
    rw [walk_end A B n i j acc ad op g1 g3] at g10
    subst g10
    exact Qok h g8 g9 (by show acc.length ≤ 24; omega) (g7.mono (by omega))
  intro n
  induction n with
  | zero =>
    intro i j h v1 v2 v3 acc ad op e1 e2 e3 hi hj hn ha hop ok hf hdd hw
    have hs' := hs.js hf.1
    have hA' := hA.jq hf (by simp [m4]) (by simp) (by simp [m4])
    have hB' := hB.jq hf (by simp [m4]) (by simp) (by simp [m4])
    have fin := stop 0 i j h acc ad op (by omega) hi (by omega) hj ha ok hf hdd hw
    exact rr45_15 ⟨hs'.1, _, hA'.1, ⟨by omega, by omega⟩, jR_len lA, fun q => absurd q (by omega), fun _ => ⟨_, hB'.1, ⟨by omega, by omega⟩, jR_len lB, fun _ => fin, fun q => absurd q (by omega)⟩⟩
  | succ n ih =>
    intro i j h v1 v2 v3 acc ad op e1 e2 e3 hi hj hn ha hop ok hf hdd hw
    have hs' := hs.js hf.1
    have hA' := hA.jq hf (by simp [m4]) (by simp) (by simp [m4])
    have hB' := hB.jq hf (by simp [m4]) (by simp) (by simp [m4])
    have t : ∀ i, i ≤ A.length → ∀ j, j ≤ B.length → tM h M A B i j := fun i hi j hj => (hf.2 (M + 13) _ (by simp [m4]) (by omega)).trans (t0 i hi j hj)
    have hw' : (if i < A.length then
      if j < B.length ∧ A.getD i 0 = B.getD j 0 then walk A B n (i + 1) (j + 1) acc ad false
      else if j = B.length ∨ lc A B i (j + 1) ≤ lc A B (i + 1) j then walk A B n (i + 1) j (note acc op 0 i ad.length j) ad true
      else walk A B n i (j + 1) (note acc op 1 i ad.length j) (ad ++ [B.getD j 0]) true
    else if j < B.length then walk A B n i (j + 1) (note acc op 1 i ad.length j) (ad ++ [B.getD j 0]) true
    else (acc, ad)) = R := hw
    have L : i < A.length → walk A B n (i + 1) j (note acc op 0 i ad.length j) ad true = R → jm_E dh_pr (d + 1) 44 [.inr (.inl M), .inl (jz 0), .inl (jz v1), .inl (jz v2), .inl (jz v3)] h (jm_k dh_pr (d + 1) 45 Q 126 [some (.inr (.inl M)), some (.inl (jz v1)), some (.inl (jz v2)), some (.inl (jz v3))] [] 123) := by
      intro q hw2
      refine jm_callV (s44 hs' hdd (by omega) hop ok (Or.inl rfl) ad.length e3) ?_
      rintro h' ⟨hf', hd'⟩
      rw [e1, e2] at hd'
      exact r45_126 (ih (i + 1) j h' _ _ _ _ _ true (by omega) e2 rfl (by omega) hj (by omega) (by have := note_len acc op 0 i ad.length j; omega) (fun _ => note_ne _ _ _ _ _ _) ((okS_note ok (Or.inl rfl) ⟨by omega, by omega⟩).mono (by omega)) (hf.trans hf') hd' hw2)
    have AD : j < B.length → walk A B n i (j + 1) (note acc op 1 i ad.length j) (ad ++ [B.getD j 0]) true = R → jm_E dh_pr (d + 1) 44 [.inr (.inl M), .inl (jz 1), .inl (jz v1), .inl (jz v2), .inl (jz v3)] h (jm_k dh_pr (d + 1) 45 Q 142 [some (.inr (.inl M)), some (.inl (jz v1)), some (.inl (jz v2)), some (.inl (jz v3))] [] 139) := by
      intro q hw2
      refine jm_callV (s44 hs' hdd (by omega) hop ok (Or.inr rfl) ad.length e3) ?_
      rintro h' ⟨hf', hd'⟩
      rw [e1, e2] at hd'
      exact r45_142 (ih i (j + 1) h' _ _ _ _ _ true e1 (by omega) rfl hi (by omega) (by omega) (by have := note_len acc op 1 i ad.length j; omega) (fun _ => note_ne _ _ _ _ _ _) ((okS_note ok (Or.inr rfl) ⟨by omega, by omega⟩).mono (by omega)) (hf.trans hf') hd' hw2)
    obtain ⟨f1, f2, f3⟩ := hs'.f 20 13 196 (by decide)
    obtain ⟨g1, g2, g3⟩ := hs'.f 17 11 12 (by decide)
    obtain ⟨k1, k2, k3⟩ := hs'.f 19 12 12 (by decide)
    refine rr45_15 ⟨hs'.1, _, hA'.1, ⟨by omega, by omega⟩, jR_len lA, fun q => ⟨_, hB'.1, ⟨by omega, by omega⟩, jR_len lB, fun q' => ⟨fun _ => L (by omega) ?_, fun q3 => absurd q3 (by omega)⟩, fun q' => ⟨_, g1, g2, _, g3, ⟨by omega, by omega, by omega⟩, A.getD i 0, by rw [show v1.toNat = i by omega]; exact hA'.2.2 i (by omega), _, k1, k2, _, k3, ⟨by omega, by omega, by omega⟩, B.getD j 0, by rw [show v2.toNat = j by omega]; exact hB'.2.2 j (by omega), rA.at _, rB.at _, fun q3 => ⟨_, f1, f2, _, f3, ⟨by omega, by omega, by omega⟩, (lc A B (i + 1) j : Int), ?_, ⟨by omega, by omega, by omega⟩, (lc A B i (j + 1) : Int), ?_, jR_lc _ _ _ _ lA, jR_lc _ _ _ _ lA, fun q4 => AD (by omega) ?_, fun q4 => L (by omega) ?_⟩, fun q3 => ?_⟩⟩, fun q => ⟨_, hB'.1, ⟨by omega, by omega⟩, jR_len lB, fun q' => ?_, fun q' => AD (by omega) ?_⟩⟩
    · rw [← hw', if_pos (by omega), if_neg (by omega), if_pos (by omega)]
    · rw [show (14 * (v1 + 1) + v2).toNat = 14 * (i + 1) + j by omega]; exact t (i + 1) (by omega) j (by omega)
    · rw [show (14 * v1 + v2 + 1).toNat = 14 * i + (j + 1) by omega]; exact t i (by omega) (j + 1) (by omega)
    · rw [← hw', if_pos (by omega), if_neg (fun p => q3 p.2), if_neg (by omega)]
    · rw [← hw', if_pos (by omega), if_neg (fun p => q3 p.2), if_pos (by omega)]
    · refine ih (i + 1) (j + 1) h _ _ _ acc ad false (by omega) (by omega) rfl (by omega) (by omega) (by omega) (by omega) (fun p => by cases p) (ok.mono (by omega)) hf hdd ?_
      rw [← hw', if_pos (by omega), if_pos ⟨by omega, q3⟩]
    · exact stop (n + 1) i j h acc ad op (by omega) hi (by omega) hj ha ok hf hdd hw
    · rw [← hw', if_neg (by omega), if_pos (by omega)]
theorem s45 {d M : Nat} {h : jm_H} {A B : List Int} (hs : shM h M) (hA : cA h M A) (hB : cB h M B) (rA : rng A) (rB : rng B) :
    jm_E dh_pr (d + 2) 45 [.inr (.inl M)] h (fun o h' => o = .inl none ∧ jq M [21] ((M + 13) :: m4 M) h h' ∧ dM h' M (delta A B).1 ∧ (delta A B).1.length ≤ 24 ∧ okS (delta A B).1 24) := by
  refine e45 (r45_0 ⟨hs.1, jm_callV (s43 hs hA hB rA rB) ?_⟩)
  rintro h1 ⟨hf1, t1⟩
  have hs1 := hs.js hf1.1
  refine r45_4 ⟨hs1.1, ?_⟩
  have q1 : jq M [21] ((M + 13) :: m4 M) h h1 := hf1.mono (by simp) (by simp)
  have q2 : jq M [21] ((M + 13) :: m4 M) h (jm_sI h1 M 21 (jz 0)) := q1.sM (by simp)
  have hA1 := hA.jq hf1 (by simp) (by simp) (by simp)
  have hB1 := hB.jq hf1 (by simp) (by simp) (by simp)
  have p2 : jq M [21] [] h1 (jm_sI h1 M 21 (jz 0)) := (jq.refl _ _ _ h1).sM (by simp)
  refine s45_l (h0 := jm_sI h1 M 21 (jz 0)) (R := delta A B) (hs1.js (js.sI _ _ _ _)) (hA1.jq p2 (by simp) (by simp) (by simp)) (hB1.jq p2 (by simp) (by simp) (by simp)) rA rB (fun i hi j hj => (p2.2 (M + 13) _ (by simp) (by omega)).trans (t1 i hi j hj)) (fun h2 g1 g2 g3 g4 => ⟨rfl, q2.trans (g1.mono (by simp) (fun b hb => List.mem_cons_of_mem _ hb)), g2, g3, g4⟩) (A.length + B.length) 0 0 _ 0 0 0 [] [] false (by omega) (by omega) rfl (Nat.zero_le _) (Nat.zero_le _) (by omega) (by simp) (fun p => by cases p) (fun s hs => by cases hs) (jq.refl _ _ _ _) ⟨jr_I_self, row.nil _ _, row.nil _ _, row.nil _ _, row.nil _ _⟩ rfl
