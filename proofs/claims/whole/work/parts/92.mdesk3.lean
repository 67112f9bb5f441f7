/-! Typing a desk, on both sides. -/
def okB (bs : List Int) : Prop := ∀ b ∈ bs, b = 0 ∨ (1 ≤ b ∧ b ≤ 99)
def nzs (bs : List Int) : List Int := bs.filter (fun b => decide (b ≠ 0))
theorem nzs_app (a b : List Int) : nzs (a ++ b) = nzs a ++ nzs b := by unfold nzs; rw [List.filter_append]
theorem nzs_one (b : Int) : nzs [b] = if b = 0 then [] else [b] := by
  unfold nzs
  by_cases e : b = 0
  · rw [if_pos e, e]; rfl
  · rw [if_neg e, List.filter_cons_of_pos (by simpa using e)]; rfl
theorem nzs_len (bs : List Int) : (nzs bs).length ≤ bs.length := List.length_filter_le _ _
theorem nzs_take {bs : List Int} {k : Nat} (hk : k < bs.length) : nzs (bs.take (k + 1)) = nzs (bs.take k) ++ (if bs.getD k 0 = 0 then [] else [bs.getD k 0]) := by
  rw [take_snoc hk, nzs_app, nzs_one]
theorem apB_spec : ∀ (bs xs : List Int), xs.length + bs.length ≤ 12 → (okB bs → apB xs bs = some (xs ++ nzs bs)) ∧ (¬ okB bs → apB xs bs = none)
  | [], xs, _ => ⟨fun _ => by rw [apB]; simp [nzs], fun h => absurd (fun b hb => by cases hb) h⟩
  | b :: r, xs, hl => by
    rw [List.length_cons] at hl
    have en : nzs (b :: r) = nzs [b] ++ nzs r := nzs_app [b] r
    rw [en, nzs_one]
    by_cases e : b = 0
    · have ih := apB_spec r xs (by omega)
      rw [apB, if_pos e, if_pos e, List.nil_append]
      refine ⟨fun h => ih.1 (fun x hx => h x (List.mem_cons_of_mem _ hx)), fun h => ih.2 (fun q => h (fun x hx => ?_))⟩
      rcases List.mem_cons.mp hx with q2 | q2
      · exact Or.inl (q2.trans e)
      · exact q x q2
    · by_cases e2 : 1 ≤ b ∧ b ≤ 99
      · have ih := apB_spec r (xs ++ [b]) (by rw [List.length_append, List.length_singleton]; omega)
        rw [apB, if_neg e, if_pos ⟨e2.1, e2.2, by omega⟩, if_neg e, ← List.append_assoc]
        refine ⟨fun h => ih.1 (fun x hx => h x (List.mem_cons_of_mem _ hx)), fun h => ih.2 (fun q => h (fun x hx => ?_))⟩
        rcases List.mem_cons.mp hx with q2 | q2
        · exact Or.inr (by rw [q2]; exact e2)
        · exact q x q2
      · refine ⟨fun h => ?_, fun _ => ?_⟩
        · rcases h b List.mem_cons_self with q | q
          · exact absurd q e
          · exact absurd q e2
        · rw [apB, if_neg e, if_neg (fun q => e2 ⟨q.1, q.2.1⟩)]
theorem apB_app : ∀ (a b xs : List Int), apB xs (a ++ b) = (apB xs a).bind (fun ys => apB ys b)
  | [], b, xs => by rw [List.nil_append, apB]; rfl
  | x :: a, b, xs => by
    rw [List.cons_append, apB, apB]
    split
    · exact apB_app a b xs
    · split
      · exact apB_app a b _
      · rfl
theorem okB_at {bs : List Int} (h : ∀ i, i < bs.length → bs.getD i 0 = 0 ∨ (1 ≤ bs.getD i 0 ∧ bs.getD i 0 ≤ 99)) : okB bs := by
  intro b hb
  obtain ⟨i, hi, rfl⟩ := List.getElem_of_mem hb
  have := h i hi
  rwa [List.getD_eq_getElem?_getD, List.getElem?_eq_getElem hi] at this
theorem okB.at {bs : List Int} (h : okB bs) {i : Nat} (hi : i < bs.length) : bs.getD i 0 = 0 ∨ (1 ≤ bs.getD i 0 ∧ bs.getD i 0 ≤ 99) := by
  rw [List.getD_eq_getElem?_getD, List.getElem?_eq_getElem hi]
  exact h _ (List.getElem_mem hi)
theorem jb12_R (a b c : Int) (k : Nat) : jR ((jb12 a b c).getD k 0) := by
  refine rng.at (fun v hv => ?_) k
  simp only [jb12, jb4, List.cons_append, List.nil_append, List.mem_cons, List.not_mem_nil, or_false] at hv
  rcases hv with rfl | rfl | rfl | rfl | rfl | rfl | rfl | rfl | rfl | rfl | rfl | rfl <;> exact jR_toInt _
theorem s31 {d M : Nat} {h : jm_H} {xs : List Int} {a b c : Int} (hs : shM h M) (hc : cD h M xs) : jm_E dh_pr (d + 2) 31 [.inr (.inl M), .inl (jz a), .inl (jz b), .inl (jz c)] h (fun o h' => ∃ z : Int, o = .inl (some (.inl (jz z))) ∧ jq M [0, 10] [M + 8] h h' ∧ jm_I h' M 0 = jz 0 ∧ ((z = 1 ∧ okB (jb12 a b c) ∧ cD h' M (nzs (jb12 a b c))) ∨ (z = 0 ∧ ¬ okB (jb12 a b c) ∧ cD h' M xs))) := by
  obtain ⟨c1, c2, c3⟩ := hc
  have l12 : (jb12 a b c).length = 12 := rfl
  have F1 : jq M [0, 10] [M + 8] h (jm_sI h M 0 (jz 0)) := (jq.refl _ _ _ h).sM (by simp)
  have z1 : jm_I (jm_sI h M 0 (jz 0)) M 0 = jz 0 := jr_I_self
  have d1 : cD (jm_sI h M 0 (jz 0)) M xs := ⟨by rw [jr_I_fld (by decide)]; exact c1, c2, c3.off (by omega)⟩
  have hs1 := hs.js F1.1
  generalize hB : jb12 a b c = bs at *
  have rb : ∀ k, jR (bs.getD k 0) := fun k => by rw [← hB]; exact jb12_R a b c k
  have s30' : ∀ {d : Nat} {h : jm_H} {k : Nat}, k < 12 → jm_E dh_pr (d + 1) 30 [.inl (jz (k : Int)), .inl (jz a), .inl (jz b), .inl (jz c)] h (fun o h' => ∃ z : Int, o = .inl (some (.inl (jz z))) ∧ z = bs.getD k 0 ∧ h' = h) := fun hk => by rw [← hB]; exact s30 hk
  generalize hh : jm_sI h M 0 (jz 0) = h1 at *
  -- the second round: lines are put on the desk
  have L2 : okB bs → ∀ (m k : Nat) (h2 : jm_H) (l5 : Option jm_V), k + m = 12 → jq M [0, 10] [M + 8] h h2 → jm_I h2 M 0 = jz 0 → cD h2 M (nzs (bs.take k)) → jm_W dh_pr (d + 1) 31 (54, [some (.inr (.inl M)), some (.inl (jz a)), some (.inl (jz b)), some (.inl (jz c)), some (.inl (jz (k : Int))), l5], [], h2) (fun o h' => ∃ z : Int, o = .inl (some (.inl (jz z))) ∧ jq M [0, 10] [M + 8] h h' ∧ jm_I h' M 0 = jz 0 ∧ ((z = 1 ∧ okB bs ∧ cD h' M (nzs bs)) ∨ (z = 0 ∧ ¬ okB bs ∧ cD h' M xs))) := by
    intro hok m
    induction m with
    | zero =>
      intro k h2 l5 e hf a0 hd
      refine r31_54 ⟨⟨by omega, by omega⟩, fun _ => ⟨1, rfl, hf, a0, Or.inl ⟨rfl, hok, ?_⟩⟩, fun p => absurd p (by omega)⟩
      rw [List.take_of_length_le (by omega)] at hd; exact hd
    | succ m ih =>
      intro k h2 l5 e hf a0 hd
      have hs2 := hs.js hf.1
      obtain ⟨f1, g1, n1⟩ := hs2.f 9 8 12 (by decide)
      refine r31_54 ⟨⟨by omega, by omega⟩, fun p => absurd p (by omega), fun _ => jm_callI (s30' (by omega)) ?_⟩
      rintro z h3 ⟨rfl, rfl⟩
      have nt := nzs_take (bs := bs) (k := k) (by omega)
      have lt : (nzs (bs.take k)).length ≤ k := by
        have := nzs_len (bs.take k)
        rw [List.length_take] at this
        omega
      refine r31_69 ⟨rb k, fun q => ih (k + 1) h3 _ (by omega) hf a0 ?_, fun q => ⟨hs2.1, _, f1, _, hd.1, g1, _, n1, ⟨by omega, by omega, by omega⟩, ?_⟩⟩
      · rw [nt, if_pos q, List.append_nil]; exact hd
      · rw [if_neg q] at nt
        refine ih (k + 1) _ _ (by omega) ((hf.sI (by simp)).sM (by simp)) ?_ ⟨?_, by rw [nt, List.length_append, List.length_singleton]; omega, ?_⟩
        · rw [jr_I_fld (by decide), off1 (by omega)]; exact a0
        · rw [jr_I_self, nt, List.length_append, List.length_singleton]; rfl
        · exact (hd.2.2.push' (by omega) nt).off (by omega)
  -- the first round: each byte is looked at
  have L1 : ∀ (m k : Nat) (l5 : Option jm_V), k + m = 12 → (∀ i, i < k → bs.getD i 0 = 0 ∨ (1 ≤ bs.getD i 0 ∧ bs.getD i 0 ≤ 99)) → jm_W dh_pr (d + 1) 31 (8, [some (.inr (.inl M)), some (.inl (jz a)), some (.inl (jz b)), some (.inl (jz c)), some (.inl (jz (k : Int))), l5], [], h1) (fun o h' => ∃ z : Int, o = .inl (some (.inl (jz z))) ∧ jq M [0, 10] [M + 8] h h' ∧ jm_I h' M 0 = jz 0 ∧ ((z = 1 ∧ okB bs ∧ cD h' M (nzs bs)) ∨ (z = 0 ∧ ¬ okB bs ∧ cD h' M xs))) := by
    intro m
    induction m with
    | zero =>
      intro k l5 e hi
      refine r31_8 ⟨⟨by omega, by omega⟩, fun _ => ⟨hs1.1, ?_⟩, fun p => absurd p (by omega)⟩
      exact L2 (okB_at (fun i h => hi i (by omega))) 12 0 _ _ (by omega) (F1.sM (by simp)) (by rw [jr_I_fld (by decide)]; exact z1) ⟨jr_I_self, by simp [nzs], row.nil _ _⟩
    | succ m ih =>
      intro k l5 e hi
      refine r31_8 ⟨⟨by omega, by omega⟩, fun p => absurd p (by omega), fun _ => jm_callI (s30' (by omega)) ?_⟩
      rintro z h3 ⟨rfl, rfl⟩
      refine r31_23 ⟨rb k, fun q => ih (k + 1) _ (by omega) (fun i h => ?_), fun q => jm_callI (s29 (rb k)) ?_⟩
      · by_cases e2 : i = k
        · rw [e2]; exact Or.inl q
        · exact hi i (by omega)
      · rintro z h4 ⟨rfl, ⟨rfl, o⟩ | ⟨rfl, o⟩⟩
        · refine r31_35 ⟨⟨by omega, by omega⟩, fun _ => ih (k + 1) _ (by omega) (fun i h => ?_), fun p => absurd p (by omega)⟩
          by_cases e2 : i = k
          · rw [e2]; exact Or.inr o
          · exact hi i (by omega)
        · refine r31_35 ⟨⟨by omega, by omega⟩, fun p => absurd rfl p, fun _ => ⟨0, rfl, F1, z1, Or.inr ⟨rfl, fun hok => ?_, d1⟩⟩⟩
          rcases hok.at (i := k) (by omega) with p | p
          · exact q p
          · exact o p
  exact e31 (r31_0 ⟨hs.1, by rw [hh]; exact L1 12 0 none (by omega) (fun i h => by omega)⟩)
