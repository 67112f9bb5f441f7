/-! Objects that are made: what a constructor leaves. -/
theorem sm_new {h : jm_H} {t n z b : Nat} (hb : b ≠ h.1) : sm h (jm_new h t n z) b := ⟨by rw [jr_T_new, if_neg hb], by rw [jr_N_new, if_neg hb], fun k => by rw [jr_F_new, if_neg hb], fun k => by rw [jr_L_new, if_neg hb], fun k => by rw [jr_I_new, if_neg hb]⟩
theorem sm_refl (h : jm_H) (b : Nat) : sm h h b := ⟨rfl, rfl, fun _ => rfl, fun _ => rfl, fun _ => rfl⟩
/-- a new array, put into a field -/
def mkA (h : jm_H) (a f n : Nat) : jm_H := jm_sF (jm_new h 100 n n) a f h.1
theorem mkA_sm {h : jm_H} {a f n b : Nat} (h1 : b ≠ a) (h2 : b ≠ h.1) : sm h (mkA h a f n) b := sm_trans (sm_new h2) (sm_sF h1)
theorem mkA_T {h : jm_H} {a f n : Nat} (ha : a < h.1) : jm_T (mkA h a f n) a = jm_T h a := by unfold mkA; rw [jr_T_sF, jr_T_new, if_neg (by omega)]
theorem mkA_N {h : jm_H} {a f n : Nat} (ha : a < h.1) : jm_N (mkA h a f n) a = jm_N h a := by unfold mkA; rw [jr_N_sF, jr_N_new, if_neg (by omega)]
theorem mkA_I {h : jm_H} {a f n : Nat} (ha : a < h.1) (k : Nat) : jm_I (mkA h a f n) a k = jm_I h a k := by unfold mkA; rw [jr_I_sF, jr_I_new, if_neg (by omega)]
theorem mkA_F {h : jm_H} {a f n : Nat} (ha : a < h.1) (j : Nat) : jm_F (mkA h a f n) a j = if j = f then h.1 else jm_F h a j := by
  unfold mkA
  rw [jr_F_sF]
  by_cases e : j = f
  · rw [if_pos ⟨rfl, e⟩, if_pos e]
  · rw [if_neg (fun x => e x.2), if_neg e, jr_F_new, if_neg (by omega)]
theorem mkA_new {h : jm_H} {a f n : Nat} (ha : a < h.1) : sha (mkA h a f n) h.1 n ∧ ∀ k, jm_I (mkA h a f n) h.1 k = 0 := by
  unfold mkA
  refine ⟨⟨?_, ?_⟩, fun k => ?_⟩
  · rw [jr_T_sF, jr_T_new, if_pos rfl]
  · rw [jr_N_sF, jr_N_new, if_pos rfl]
  · rw [jr_I_sF, jr_I_new, if_pos rfl]
theorem mkA_n (h : jm_H) (a f n : Nat) : (mkA h a f n).1 = h.1 + 1 ∧ (mkA h a f n).2.1 = h.2.1 + n := ⟨rfl, rfl⟩
/-- a heap that has grown by k objects and z slots -/
def gr (h h' : jm_H) (k z : Nat) : Prop := h'.1 = h.1 + k ∧ h'.2.1 = h.2.1 + z ∧ ∀ b, b < h.1 → sm h h' b
theorem gr.trans {h h1 h2 : jm_H} {k z k' z' : Nat} (p : gr h h1 k z) (q : gr h1 h2 k' z') : gr h h2 (k + k') (z + z') := ⟨by rw [q.1, p.1]; omega, by rw [q.2.1, p.2.1]; omega, fun b hb => sm_trans (p.2.2 b hb) (q.2.2 b (by have := p.1; omega))⟩
theorem grNew (h : jm_H) (t n z : Nat) : gr h (jm_new h t n z) 1 z := ⟨rfl, rfl, fun b hb => sm_new (by omega)⟩
theorem new_T (h : jm_H) (t n z : Nat) : jm_T (jm_new h t n z) h.1 = t := by rw [jr_T_new, if_pos rfl]
theorem new_I (h : jm_H) (t n z k : Nat) : jm_I (jm_new h t n z) h.1 k = jz 0 := by rw [jr_I_new, if_pos rfl]; rfl
/-- a new object a with one array -/
theorem gr_A {h : jm_H} {t z f n : Nat} : gr h (mkA (jm_new h t 0 z) h.1 f n) 2 (z + n) := ⟨rfl, by show h.2.1 + z + n = _; omega, fun b hb => sm_trans (sm_new (by omega)) (mkA_sm (by omega) (by show b ≠ h.1 + 1; omega))⟩
theorem c118 {d : Nat} {h : jm_H} (r1 : h.1 + 2 ≤ 601026) (r2 : h.2.1 + 14 ≤ 7293034) : jm_E dh_pr (d + 1) 118 [.inr (.inl h.1)] (jm_new h 8 0 2) (fun o h' => o = .inl none ∧ gr h h' 2 14 ∧ shT h' h.1 ∧ cx h' h.1 []) := by
  have lt : h.1 < (jm_new h 8 0 2).1 := Nat.lt_succ_self _
  have e := mkA_new (f := 0) (n := 12) lt
  refine e118 (r118_0 ⟨by rw [new_T]; omega, by show h.1 + 1 + 1 ≤ _; omega, by show h.2.1 + 2 + 12 ≤ _; omega, by rw [jr_T_new, if_neg (by show h.1 ≠ h.1 + 1; omega), new_T], rfl, gr_A (f := 0) (n := 12), ?_, ?_⟩)
  · exact ⟨(mkA_T (f := 0) (n := 12) lt).trans (new_T _ _ _ _), (mkA_F (f := 0) (n := 12) lt 0).trans (if_pos rfl), e.1⟩
  · exact ⟨(mkA_I (f := 0) (n := 12) lt 1).trans (new_I _ _ _ _ _), Nat.zero_le _, row.nil _ _⟩
theorem c79 {d : Nat} {h : jm_H} (r1 : h.1 + 2 ≤ 601026) (r2 : h.2.1 + 403 ≤ 7293034) : jm_E dh_pr (d + 1) 79 [.inr (.inl h.1)] (jm_new h 3 0 3) (fun o h' => o = .inl none ∧ gr h h' 2 403 ∧ shB h' h.1 ∧ cb h' h.1 []) := by
  have lt : h.1 < (jm_new h 3 0 3).1 := Nat.lt_succ_self _
  have e := mkA_new (f := 0) (n := 400) lt
  refine e79 (r79_0 ⟨by rw [new_T]; omega, by show h.1 + 1 + 1 ≤ _; omega, by show h.2.1 + 3 + 400 ≤ _; omega, by rw [jr_T_new, if_neg (by show h.1 ≠ h.1 + 1; omega), new_T], rfl, gr_A (f := 0) (n := 400), ?_, ?_⟩)
  · exact ⟨(mkA_T (f := 0) (n := 400) lt).trans (new_T _ _ _ _), (mkA_F (f := 0) (n := 400) lt 0).trans (if_pos rfl), e.1⟩
  · exact ⟨(mkA_I (f := 0) (n := 400) lt 1).trans (new_I _ _ _ _ _), Nat.zero_le _, fun i hi => by simp at hi⟩
theorem c101 {d : Nat} {h : jm_H} (r1 : h.1 + 2 ≤ 601026) (r2 : h.2.1 + 21 ≤ 7293034) : jm_E dh_pr (d + 1) 101 [.inr (.inl h.1)] (jm_new h 6 0 1) (fun o h' => o = .inl none ∧ gr h h' 2 21 ∧ jm_T h' h.1 = 6 ∧ jm_F h' h.1 0 = h.1 + 1 ∧ sha h' (h.1 + 1) 20) := by
  have lt : h.1 < (jm_new h 6 0 1).1 := Nat.lt_succ_self _
  have e := mkA_new (f := 0) (n := 20) lt
  exact e101 (r101_0 ⟨by rw [new_T]; omega, by show h.1 + 1 + 1 ≤ _; omega, by show h.2.1 + 1 + 20 ≤ _; omega, by rw [jr_T_new, if_neg (by show h.1 ≠ h.1 + 1; omega), new_T], rfl, gr_A (f := 0) (n := 20), (mkA_T (f := 0) (n := 20) lt).trans (new_T _ _ _ _), (mkA_F (f := 0) (n := 20) lt 0).trans (if_pos rfl), e.1⟩)
/-- a finished object is put into a field of another one -/
theorem gr_set {h h1 : jm_H} {a f x k z : Nat} (g : gr h h1 k z) (ha : h.1 ≤ a) : gr h (jm_sF h1 a f x) k z := ⟨g.1, g.2.1, fun b hb => sm_trans (g.2.2 b hb) (sm_sF (by omega))⟩
theorem c111 {d : Nat} {h : jm_H} (r1 : h.1 + 3 ≤ 601026) (r2 : h.2.1 + 24 ≤ 7293034) : jm_E dh_pr (d + 2) 111 [.inr (.inl h.1)] (jm_new h 7 0 10) (fun o h' => o = .inl none ∧ gr h h' 3 24 ∧ shV h' h.1) := by
  refine e111 (r111_0 ⟨by rw [new_T]; omega, by show h.1 + 1 + 1 ≤ _; omega, by show h.2.1 + 10 + 2 ≤ _; omega, new_T _ _ _ _, jm_callV (c118 (h := jm_new h 7 0 10) (by show h.1 + 1 + 2 ≤ _; omega) (by show h.2.1 + 10 + 14 ≤ _; omega)) ?_⟩)
  rintro h1 ⟨g1, t1, -⟩
  have g : gr h h1 3 24 := (grNew h 7 0 10).trans g1
  have s1 := g1.2.2 h.1 (Nat.lt_succ_self _)
  have ne : ∀ i, i < 2 → h.1 + 1 + i ≠ h.1 := fun i hi => by omega
  refine r111_12 ⟨s1.1.trans (new_T _ _ _ _), rfl, gr_set g (Nat.le_refl _), ?_, jr_F_self, shT_sr t1 (fun i hi => sm_sF (by show h.1 + 1 + i ≠ h.1; omega))⟩
  rw [jr_T_sF]; exact s1.1.trans (new_T _ _ _ _)
theorem jr_mul {h : jm_H} {t n k : Nat} : (jm_T (jm_mul h t n k) h.1 = t ∧ jm_N (jm_mul h t n k) h.1 = n ∧ ∀ j, j < n → jm_F (jm_mul h t n k) h.1 j = h.1 + 1 + j) ∧ (∀ j, j < n → sha (jm_mul h t n k) (h.1 + 1 + j) k) ∧ ∀ b, b < h.1 → sm h (jm_mul h t n k) b := by
  have e1 : (jm_mul h t n k).2.2 h.1 = (t, n, fun _ => 0, fun j => if j < n then h.1 + 1 + j else 0, fun _ => 0) := if_pos rfl
  have e2 : ∀ j, j < n → (jm_mul h t n k).2.2 (h.1 + 1 + j) = (100, k, fun _ => 0, fun _ => 0, fun _ => 0) := fun j hj => by
    show (if h.1 + 1 + j = h.1 then _ else if h.1 < h.1 + 1 + j ∧ h.1 + 1 + j < h.1 + 1 + n then _ else _) = _
    rw [if_neg (by omega), if_pos ⟨by omega, by omega⟩]
  have e3 : ∀ b, b < h.1 → (jm_mul h t n k).2.2 b = h.2.2 b := fun b hb => by
    show (if b = h.1 then _ else if h.1 < b ∧ b < h.1 + 1 + n then _ else _) = _
    rw [if_neg (by omega), if_neg (by omega)]
  refine ⟨⟨?_, ?_, fun j hj => ?_⟩, fun j hj => ⟨?_, ?_⟩, fun b hb => ⟨?_, ?_, fun j => ?_, fun j => ?_, fun j => ?_⟩⟩
  · unfold jm_T; rw [e1]
  · unfold jm_N; rw [e1]
  · unfold jm_F; rw [e1]; exact if_pos hj
  · unfold jm_T; rw [e2 j hj]
  · unfold jm_N; rw [e2 j hj]
  · unfold jm_T; rw [e3 b hb]
  · unfold jm_N; rw [e3 b hb]
  · unfold jm_F; rw [e3 b hb]
  · unfold jm_L; rw [e3 b hb]
  · unfold jm_I; rw [e3 b hb]
/-- an object a, some of whose fields hold arrays made one behind another -/
def fld (h : jm_H) (a : Nat) (l : List (Nat × Nat × Nat)) : Prop := ∀ q ∈ l, jm_F h a q.1 = a + q.2.1 ∧ sha h (a + q.2.1) q.2.2
theorem fld_mk {h : jm_H} {a f n o : Nat} {l : List (Nat × Nat × Nat)} (c : fld h a l) (ha : a < h.1) (ho : h.1 = a + o) (hl : ∀ q ∈ l, q.1 ≠ f ∧ 0 < q.2.1 ∧ q.2.1 < o) : fld (mkA h a f n) a (l ++ [(f, o, n)]) := by
  intro q hq
  rcases List.mem_append.mp hq with hq | hq
  · obtain ⟨l1, l2, l3⟩ := hl q hq
    have s := mkA_sm (f := f) (n := n) (h := h) (a := a) (b := a + q.2.1) (by omega) (by omega)
    exact ⟨by rw [mkA_F ha, if_neg l1]; exact (c q hq).1, sha_sm (c q hq).2 s⟩
  · have : q = (f, o, n) := by simpa using hq
    subst this
    refine ⟨by rw [mkA_F ha, if_pos rfl]; exact ho, ?_⟩
    show sha _ (a + o) n
    rw [← ho]; exact (mkA_new ha).1
theorem c88 {d : Nat} {h : jm_H} (r1 : h.1 + 20 ≤ 601026) (r2 : h.2.1 + 299 ≤ 7293034) : jm_E dh_pr (d + 1) 88 [.inr (.inl h.1)] (jm_new h 4 0 9) (fun o h' => o = .inl none ∧ gr h h' 20 299 ∧ shD h' h.1 ∧ dD h' h.1 [] [] false) := by
  have T0 : jm_T (jm_new h 4 0 9) h.1 = 4 := new_T _ _ _ _
  have I0 : ∀ k, jm_I (jm_new h 4 0 9) h.1 k = jz 0 := fun k => new_I _ _ _ _ _
  have c0 : fld (jm_new h 4 0 9) h.1 [] := fun q hq => by cases hq
  -- the five arrays
  have l1 : h.1 < (jm_new h 4 0 9).1 := Nat.lt_succ_self _
  have c1 := fld_mk (f := 0) (n := 24) (o := 1) c0 l1 rfl (fun q hq => by cases hq)
  generalize e1 : mkA (jm_new h 4 0 9) h.1 0 24 = h1 at *
  have n1 : h1.1 = h.1 + 2 ∧ h1.2.1 = h.2.1 + 33 := by rw [← e1]; exact ⟨rfl, rfl⟩
  have T1 : jm_T h1 h.1 = 4 := by rw [← e1, mkA_T l1]; exact T0
  have I1 : ∀ k, jm_I h1 h.1 k = jz 0 := fun k => by rw [← e1, mkA_I l1]; exact I0 k
  have S1 : ∀ b, b < h.1 → sm h h1 b := fun b hb => by rw [← e1]; exact sm_trans (sm_new (by omega)) (mkA_sm (by omega) (by show b ≠ h.1 + 1; omega))
  have l2 : h.1 < h1.1 := by omega
  have c2 := fld_mk (f := 1) (n := 24) (o := 2) c1 l2 (by omega) (by decide)
  generalize e2 : mkA h1 h.1 1 24 = h2 at *
  have n2 : h2.1 = h.1 + 3 ∧ h2.2.1 = h.2.1 + 57 := by rw [← e2]; exact ⟨by rw [(mkA_n _ _ _ _).1]; omega, by rw [(mkA_n _ _ _ _).2]; omega⟩
  have T2 : jm_T h2 h.1 = 4 := by rw [← e2, mkA_T l2]; exact T1
  have I2 : ∀ k, jm_I h2 h.1 k = jz 0 := fun k => by rw [← e2, mkA_I l2]; exact I1 k
  have S2 : ∀ b, b < h.1 → sm h h2 b := fun b hb => by rw [← e2]; exact sm_trans (S1 b hb) (mkA_sm (by omega) (by omega))
  have l3 : h.1 < h2.1 := by omega
  have c3 := fld_mk (f := 2) (n := 24) (o := 3) c2 l3 (by omega) (by decide)
  generalize e3 : mkA h2 h.1 2 24 = h3 at *
  have n3 : h3.1 = h.1 + 4 ∧ h3.2.1 = h.2.1 + 81 := by rw [← e3]; exact ⟨by rw [(mkA_n _ _ _ _).1]; omega, by rw [(mkA_n _ _ _ _).2]; omega⟩
  have T3 : jm_T h3 h.1 = 4 := by rw [← e3, mkA_T l3]; exact T2
  have I3 : ∀ k, jm_I h3 h.1 k = jz 0 := fun k => by rw [← e3, mkA_I l3]; exact I2 k
  have S3 : ∀ b, b < h.1 → sm h h3 b := fun b hb => by rw [← e3]; exact sm_trans (S2 b hb) (mkA_sm (by omega) (by omega))
  have l4 : h.1 < h3.1 := by omega
  have c4 := fld_mk (f := 3) (n := 24) (o := 4) c3 l4 (by omega) (by decide)
  generalize e4 : mkA h3 h.1 3 24 = h4 at *
  have n4 : h4.1 = h.1 + 5 ∧ h4.2.1 = h.2.1 + 105 := by rw [← e4]; exact ⟨by rw [(mkA_n _ _ _ _).1]; omega, by rw [(mkA_n _ _ _ _).2]; omega⟩
  have T4 : jm_T h4 h.1 = 4 := by rw [← e4, mkA_T l4]; exact T3
  have I4 : ∀ k, jm_I h4 h.1 k = jz 0 := fun k => by rw [← e4, mkA_I l4]; exact I3 k
  have S4 : ∀ b, b < h.1 → sm h h4 b := fun b hb => by rw [← e4]; exact sm_trans (S3 b hb) (mkA_sm (by omega) (by omega))
  have l5 : h.1 < h4.1 := by omega
  have c5 := fld_mk (f := 4) (n := 12) (o := 5) c4 l5 (by omega) (by decide)
  generalize e5 : mkA h4 h.1 4 12 = h5 at *
  have n5 : h5.1 = h.1 + 6 ∧ h5.2.1 = h.2.1 + 117 := by rw [← e5]; exact ⟨by rw [(mkA_n _ _ _ _).1]; omega, by rw [(mkA_n _ _ _ _).2]; omega⟩
  have T5 : jm_T h5 h.1 = 4 := by rw [← e5, mkA_T l5]; exact T4
  have I5 : ∀ k, jm_I h5 h.1 k = jz 0 := fun k => by rw [← e5, mkA_I l5]; exact I4 k
  have S5 : ∀ b, b < h.1 → sm h h5 b := fun b hb => by rw [← e5]; exact sm_trans (S4 b hb) (mkA_sm (by omega) (by omega))
  -- the table
  obtain ⟨⟨m1, m2, m3⟩, m4, m5⟩ := jr_mul (h := h5) (t := 61) (n := 13) (k := 13)
  have m0 := m5 h.1 (by omega)
  have m6 : (jm_mul h5 61 13 13).1 = h.1 + 20 ∧ (jm_mul h5 61 13 13).2.1 = h.2.1 + 299 := ⟨by show h5.1 + 1 + 13 = _; omega, by show h5.2.1 + 13 + 13 * 13 = _; omega⟩
  generalize e6 : jm_mul h5 61 13 13 = h6 at *
  have FIN : gr h (jm_sF h6 h.1 5 h5.1) 20 299 ∧ shD (jm_sF h6 h.1 5 h5.1) h.1 ∧ dD (jm_sF h6 h.1 5 h5.1) h.1 [] [] false := by
    have F : ∀ j, j ≠ 5 → jm_F (jm_sF h6 h.1 5 h5.1) h.1 j = jm_F h5 h.1 j := fun j hj => by rw [jr_F_fld hj]; exact m0.2.2.1 j
    have S : ∀ b, b ≠ h.1 → sm h6 (jm_sF h6 h.1 5 h5.1) b := fun b hb => sm_sF hb
    have A : ∀ o n, 0 < o → o < 6 → sha h5 (h.1 + o) n → sha (jm_sF h6 h.1 5 h5.1) (h.1 + o) n := fun o n h1 h2 s => sha_sm (sha_sm s (m5 _ (by omega))) (S _ (by omega))
    refine ⟨⟨m6.1, m6.2, fun b hb => sm_trans (sm_trans (S5 b hb) (m5 b (by omega))) (S b (by omega))⟩, ⟨?_, ⟨?_, ?_, ?_, ?_, ?_, ?_⟩, ⟨?_, ?_, ?_, ?_, ?_⟩, ?_, ?_, fun i hi => ⟨?_, ?_⟩⟩, ⟨?_, ?_, ?_⟩, row.nil _ _, row.nil _ _, row.nil _ _, row.nil _ _, row.nil _ _⟩
    · rw [jr_T_sF]; exact m0.1.trans T5
    · rw [F 0 (by decide)]; exact (c5 (0, 1, 24) (by simp <;> omega)).1
    · rw [F 1 (by decide)]; exact (c5 (1, 2, 24) (by simp <;> omega)).1
    · rw [F 2 (by decide)]; exact (c5 (2, 3, 24) (by simp <;> omega)).1
    · rw [F 3 (by decide)]; exact (c5 (3, 4, 24) (by simp <;> omega)).1
    · rw [F 4 (by decide)]; exact (c5 (4, 5, 12) (by simp <;> omega)).1
    · rw [jr_F_self]; exact n5.1
    · exact A 1 24 (by omega) (by omega) (c5 (0, 1, 24) (by simp <;> omega)).2
    · exact A 2 24 (by omega) (by omega) (c5 (1, 2, 24) (by simp <;> omega)).2
    · exact A 3 24 (by omega) (by omega) (c5 (2, 3, 24) (by simp <;> omega)).2
    · exact A 4 24 (by omega) (by omega) (c5 (3, 4, 24) (by simp <;> omega)).2
    · exact A 5 12 (by omega) (by omega) (c5 (4, 5, 12) (by simp <;> omega)).2
    · rw [jr_T_sF, ← n5.1]; exact m1
    · rw [jr_N_sF, ← n5.1]; exact m2
    · rw [← n5.1, jr_F_sF, if_neg (by omega), m3 i hi]; omega
    · have := m4 i hi
      rw [show h.1 + 7 + i = h5.1 + 1 + i by omega]
      exact sha_sm this (S _ (by omega))
    · rw [jr_I_sF, m0.2.2.2.2]; exact I5 6
    · rw [jr_I_sF, m0.2.2.2.2]; exact I5 7
    · rw [jr_I_sF, m0.2.2.2.2]; exact I5 8
  have TN : ∀ (hx : jm_H) (n : Nat), jm_T hx h.1 = 4 → h.1 < hx.1 → jm_T (jm_new hx 100 n n) h.1 = 4 := fun hx n t l => by rw [jr_T_new, if_neg (by omega)]; exact t
  subst e1 e2 e3 e4 e5 e6
  exact e88 (r88_0 ⟨by rw [new_T]; omega, by show h.1 + 1 + 1 ≤ _; omega, by show h.2.1 + 9 + 24 ≤ _; omega, TN _ 24 T0 l1, by show h.1 + 1 + 2 ≤ _; omega, by show h.2.1 + 9 + 24 + 24 ≤ _; omega, TN _ 24 T1 l2, by show h.1 + 1 + 3 ≤ _; omega, by show h.2.1 + 9 + 24 + 24 + 24 ≤ _; omega, TN _ 24 T2 l3, by show h.1 + 1 + 4 ≤ _; omega, by show h.2.1 + 9 + 24 + 24 + 24 + 24 ≤ _; omega, TN _ 24 T3 l4, by show h.1 + 1 + 5 ≤ _; omega, by show h.2.1 + 9 + 24 + 24 + 24 + 24 + 12 ≤ _; omega, TN _ 12 T4 l5, by show h.1 + 1 + 19 ≤ _; omega, by show h.2.1 + 9 + 24 + 24 + 24 + 24 + 12 + 182 ≤ _; omega, m0.1.trans T5, rfl, FIN⟩)
theorem c127 {d : Nat} {h : jm_H} (r1 : h.1 + 21 ≤ 601026) (r2 : h.2.1 + 300 ≤ 7293034) : jm_E dh_pr (d + 2) 127 [.inr (.inl h.1)] (jm_new h 9 0 1) (fun o h' => o = .inl none ∧ gr h h' 21 300 ∧ shW h' h.1) := by
  refine e127 (r127_0 ⟨by rw [new_T]; omega, by show h.1 + 1 + 1 ≤ _; omega, by show h.2.1 + 1 + 9 ≤ _; omega, new_T _ _ _ _, jm_callV (c88 (h := jm_new h 9 0 1) (by show h.1 + 1 + 20 ≤ _; omega) (by show h.2.1 + 1 + 299 ≤ _; omega)) ?_⟩)
  rintro h1 ⟨g1, t1, -⟩
  have g : gr h h1 21 300 := (grNew h 9 0 1).trans g1
  have s1 := g1.2.2 h.1 (Nat.lt_succ_self _)
  refine r127_12 ⟨s1.1.trans (new_T _ _ _ _), rfl, gr_set g (Nat.le_refl _), ?_, jr_F_self, shD_sr t1 (fun i hi => sm_sF (by show h.1 + 1 + i ≠ h.1; omega))⟩
  rw [jr_T_sF]; exact s1.1.trans (new_T _ _ _ _)
theorem c94 {d : Nat} {h : jm_H} (r1 : h.1 + 62 ≤ 601026) (r2 : h.2.1 + 502 ≤ 7293034) : jm_E dh_pr (d + 3) 94 [.inr (.inl h.1)] (jm_new h 5 0 2) (fun o h' => o = .inl none ∧ gr h h' 62 502 ∧ shH h' h.1 ∧ cH h' h.1 [] []) := by
  have L : ∀ (m k : Nat) (h1 : jm_H) (v1 : Int), k + m = 20 → v1 = k → gr h h1 (2 + 3 * k) (22 + 24 * k) → jm_T h1 h.1 = 5 → jm_F h1 h.1 0 = h.1 + 1 → jm_I h1 h.1 1 = jz 0 → (jm_T h1 (h.1 + 1) = 69 ∧ jm_N h1 (h.1 + 1) = 20) → (∀ j, j < k → jm_F h1 (h.1 + 1) j = h.1 + 2 + 3 * j ∧ shV h1 (h.1 + 2 + 3 * j)) → jm_W dh_pr (d + 2) 94 (15, [some (.inr (.inl h.1)), some (.inl (jz v1))], [], h1) (fun o h' => o = .inl none ∧ gr h h' 62 502 ∧ shH h' h.1 ∧ cH h' h.1 [] []) := by
    intro m
    induction m with
    | zero =>
      intro k h1 v1 e e1 g t f i a s
      have : k = 20 := by omega
      subst this
      exact r94_15 ⟨⟨by omega, by omega⟩, fun _ => ⟨rfl, g, ⟨t, f, a, s⟩, i, Nat.zero_le _, rfl, fun k hk => absurd hk (Nat.not_lt_zero k)⟩, fun w => absurd w (by omega)⟩
    | succ m ih =>
      intro k h1 v1 e e1 g t f i a s
      have n1 := g.1
      have z1 := g.2.1
      refine r94_15 ⟨⟨by omega, by omega⟩, fun w => absurd w (by omega), fun _ => ⟨t, _, f, by omega, by omega, new_T _ _ _ _, jm_callV (c111 (h := h1) (by omega) (by omega)) ?_⟩⟩
      rintro h2 ⟨g2, v2⟩
      have s0 := g2.2.2 h.1 (by omega)
      have s1 := g2.2.2 (h.1 + 1) (by omega)
      have ea : h1.1 = h.1 + 2 + 3 * k := by omega
      have S : ∀ b, b ≠ h.1 + 1 → sm h2 (jm_sF h2 (h.1 + 1) v1.toNat h1.1) b := fun b hb => sm_sF hb
      refine r94_33 ⟨s1.1.trans a.1, _, s1.2.1.trans a.2, ⟨by omega, by omega, by omega⟩, v2.1, ih (k + 1) _ _ (by omega) (by omega) ?_ ?_ ?_ ?_ ⟨?_, ?_⟩ (fun j hj => ?_)⟩
      · have := g.trans g2
        rw [show 2 + 3 * k + 3 = 2 + 3 * (k + 1) by omega, show 22 + 24 * k + 24 = 22 + 24 * (k + 1) by omega] at this
        exact gr_set this (by omega)
      · rw [jr_T_sF]; exact s0.1.trans t
      · rw [jr_F_sF, if_neg (by omega)]; exact (s0.2.2.1 0).trans f
      · rw [jr_I_sF]; exact (s0.2.2.2.2 1).trans i
      · rw [jr_T_sF]; exact s1.1.trans a.1
      · rw [jr_N_sF]; exact s1.2.1.trans a.2
      · rw [jr_F_sF]
        by_cases ej : j = k
        · rw [if_pos ⟨rfl, by omega⟩, ej, ← ea]
          exact ⟨rfl, shV_sr v2 (fun x hx => S _ (by omega))⟩
        · rw [if_neg (by omega)]
          obtain ⟨b1, b2⟩ := s j (by omega)
          exact ⟨(s1.2.2.1 j).trans b1, shV_sr (shV_sr b2 (fun x hx => g2.2.2 _ (by omega))) (fun x hx => S _ (by omega))⟩
  have lt : h.1 < (jm_new h 5 0 2).1 := Nat.lt_succ_self _
  refine e94 (r94_0 ⟨by rw [new_T]; omega, by show h.1 + 1 + 1 ≤ _; omega, by show h.2.1 + 2 + 20 ≤ _; omega, by rw [jr_T_new, if_neg (by show h.1 ≠ h.1 + 1; omega), new_T], L 20 0 _ 0 (by omega) (by omega) ?_ ?_ ?_ ?_ ⟨?_, ?_⟩ (fun j hj => absurd hj (Nat.not_lt_zero j))⟩)
  · exact gr_set (((grNew h 5 0 2).trans (grNew _ 69 20 20))) (Nat.le_refl _)
  · rw [jr_T_sF, jr_T_new, if_neg (by show h.1 ≠ h.1 + 1; omega), new_T]
  · exact jr_F_self
  · rw [jr_I_sF, jr_I_new, if_neg (by show h.1 ≠ h.1 + 1; omega), new_I]
  · rw [jr_T_sF]; exact new_T (jm_new h 5 0 2) 69 20 20
  · rw [jr_N_sF, jr_N_new, if_pos (show h.1 + 1 = (jm_new h 5 0 2).1 from rfl)]
