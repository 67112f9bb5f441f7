/-! Both objects, as they are made. -/
def s00 : St := ([], [], [0], [], -1, [], [])
/-- arrays made one behind another, each put into a field of M -/
def chA (M : Nat) (K : jm_H → Prop) : List (Nat × Nat) → jm_H → Prop
  | [], h => K h
  | (f, n) :: l, h => h.1 + 1 ≤ 601026 ∧ h.2.1 + n ≤ 7293034 ∧ (jm_T (jm_new h 100 n n) M = 2 ∧ chA M K l (jm_sF (jm_new h 100 n n) M f h.1))
def newd : Nat → List (Nat × Nat) → List (Nat × Nat × Nat)
  | _, [] => []
  | o, (f, n) :: l => (f, o, n) :: newd (o + 1) l
def sumn : List (Nat × Nat) → Nat
  | [] => 0
  | (_, n) :: l => n + sumn l
/-- M with the arrays of l -/
def mIn (hb h : jm_H) (M o z : Nat) (l : List (Nat × Nat × Nat)) (c : Nat → Int32) : Prop := h.1 = M + o ∧ h.2.1 = z ∧ jm_T h M = 2 ∧ fld h M l ∧ (∀ b, M < b → b < h.1 → ∀ k, jm_I h b k = 0) ∧ (∀ k, jm_I h M k = c k) ∧ ∀ b, b < M → sm hb h b
theorem chA_ok {hb : jm_H} {M : Nat} {K : jm_H → Prop} {c : Nat → Int32} : ∀ (l : List (Nat × Nat)) (h : jm_H) (o z : Nat) (dn : List (Nat × Nat × Nat)), mIn hb h M o z dn c → 0 < o → (∀ q ∈ dn, 0 < q.2.1 ∧ q.2.1 < o) → (∀ p ∈ l, ∀ q ∈ dn, q.1 ≠ p.1) → l.Pairwise (fun p q => p.1 ≠ q.1) → M + o + l.length ≤ 601026 → z + sumn l ≤ 7293034 → (∀ h', mIn hb h' M (o + l.length) (z + sumn l) (dn ++ newd o l) c → K h') → chA M K l h
  | [], h, o, z, dn, i, _, _, _, _, _, _, k => by
    have := k h
    rw [newd, List.append_nil] at this
    exact this i
  | (f, n) :: l, h, o, z, dn, i, ho, hd, hf, hp, r1, r2, k => by
    obtain ⟨i1, i2, i3, i4, i5, i6, i7⟩ := i
    have ls : ((f, n) :: l).length = l.length + 1 := rfl
    have sn : sumn ((f, n) :: l) = n + sumn l := rfl
    rw [ls] at r1
    rw [sn] at r2
    have lt : M < h.1 := by omega
    refine ⟨by omega, by omega, by rw [jr_T_new, if_neg (by omega)]; exact i3, ?_⟩
    refine chA_ok l (mkA h M f n) (o + 1) (z + n) (dn ++ [(f, o, n)]) ⟨by rw [(mkA_n _ _ _ _).1]; omega, by rw [(mkA_n _ _ _ _).2]; omega, (mkA_T lt).trans i3, fld_mk i4 lt i1 (fun q hq => ⟨hf (f, n) List.mem_cons_self q hq, hd q hq⟩), fun b h1 h2 j => ?_, fun j => (mkA_I lt j).trans (i6 j), fun b hb => sm_trans (i7 b hb) (mkA_sm (by omega) (by omega))⟩ (by omega) (fun q hq => ?_) (fun p hp' q hq => ?_) (List.Pairwise.of_cons hp) (by omega) (by omega) (fun h' w => k h' ?_)
    · rw [(mkA_n _ _ _ _).1] at h2
      by_cases e : b = h.1
      · rw [e]; exact (mkA_new lt).2 j
      · exact ((mkA_sm (by omega) e).2.2.2.2 j).trans (i5 b h1 (by omega) j)
    · rcases List.mem_append.mp hq with hq | hq
      · have := hd q hq; omega
      · have : q = (f, o, n) := by simpa using hq
        subst this
        show 0 < o ∧ o < o + 1
        omega
    · rcases List.mem_append.mp hq with hq | hq
      · exact hf p (List.mem_cons_of_mem _ hp') q hq
      · have : q = (f, o, n) := by simpa using hq
        subst this
        exact List.rel_of_pairwise_cons hp hp'
    · rw [ls, sn, newd, show o + (l.length + 1) = o + 1 + l.length by omega, ← Nat.add_assoc]
      rw [List.append_assoc] at w
      exact w
theorem mIn_I {hb h : jm_H} {M o z k : Nat} {l : List (Nat × Nat × Nat)} {c : Nat → Int32} {x : Int32} (i : mIn hb h M o z l c) : mIn hb (jm_sI h M k x) M o z l (fun j => if j = k then x else c j) := by
  obtain ⟨i1, i2, i3, i4, i5, i6, i7⟩ := i
  have q := js.sI h M k x
  refine ⟨i1, i2, (q.2.2.1 M).trans i3, fun p hp => ⟨(q.2.2.2.2.1 _ _).trans (i4 p hp).1, (i4 p hp).2.js q⟩, fun b h1 h2 j => ?_, fun j => ?_, fun b hb => sm_trans (i7 b hb) ⟨q.2.2.1 b, q.2.2.2.1 b, q.2.2.2.2.1 b, q.2.2.2.2.2 b, fun j => off1 (by omega)⟩⟩
  · rw [off1 (by omega)]; exact i5 b h1 h2 j
  · show jm_I (jm_sI h M k x) M j = if j = k then x else c j
    rw [jr_I_sI]
    by_cases e : j = k
    · rw [if_pos ⟨rfl, e⟩, if_pos e]
    · rw [if_neg (fun x => e x.2), if_neg e]; exact i6 j
theorem c27 {d : Nat} {h : jm_H} (r1 : h.1 + 30 ≤ 601026) (r2 : h.2.1 + 5199 ≤ 7293034) : jm_E dh_pr (d + 1) 27 [.inr (.inl h.1)] (jm_new h 2 0 43) (fun o h' => o = .inl none ∧ gr h h' 30 5199 ∧ RM h' h.1 s00) := by
  have T0 : jm_T (jm_new h 2 0 43) h.1 = 2 := new_T _ _ _ _
  have I0 : mIn h (jm_new h 2 0 43) h.1 1 (h.2.1 + 43) [] (fun _ => 0) := ⟨rfl, rfl, T0, fun q hq => (by cases hq), fun b h1 h2 k => absurd (show b < h.1 + 1 from h2) (by omega), fun k => by rw [jr_I_new, if_pos rfl], fun b hb => sm_new (by omega)⟩
  have go : chA h.1 (fun h1 => chA h.1 (fun h2 => chA h.1 (fun h' => (.inl none : jm_R) = .inl none ∧ gr h h' 30 5199 ∧ RM h' h.1 s00) [(17, 12), (19, 12), (20, 196), (22, 24), (23, 24), (24, 24), (25, 24), (27, 24), (28, 24), (29, 24), (30, 24), (31, 12), (33, 2400), (34, 20), (38, 20), (39, 20), (40, 20), (41, 20), (42, 240)] (jm_sI h2 h.1 15 (jz (-1)))) [(12, 400), (14, 400)] (jm_sI h1 h.1 11 (jz 1))) [(2, 20), (3, 20), (4, 20), (5, 20), (6, 240), (7, 20), (8, 840), (9, 12)] (jm_new h 2 0 43) := by
    refine chA_ok _ _ 1 _ [] I0 (by omega) (fun q hq => by cases hq) (fun p _ q hq => by cases hq) (by decide) (by show h.1 + 1 + 8 ≤ _; omega) (by show h.2.1 + 43 + 1192 ≤ _; omega) (fun h1 i1 => ?_)
    refine chA_ok _ _ 9 _ _ (mIn_I i1) (by omega) (by decide) (by decide) (by decide) (by show h.1 + 9 + 2 ≤ _; omega) (by show h.2.1 + 43 + 1192 + 800 ≤ _; omega) (fun h2 i2 => ?_)
    refine chA_ok _ _ 11 _ _ (mIn_I i2) (by omega) (by decide) (by decide) (by decide) (by show h.1 + 11 + 19 ≤ _; omega) (by show h.2.1 + 43 + 1192 + 800 + 3164 ≤ _; omega) (fun h3 i3 => ?_)
    obtain ⟨j1, j2, j3, j4, j5, j6, j7⟩ := i3
    have hs : shM h3 h.1 := ⟨j3, j4⟩
    have cc : ∀ k, jm_I h3 h.1 k = if k = 15 then jz (-1) else if k = 11 then jz 1 else 0 := j6
    have z0 : ∀ k, k ≠ 15 → k ≠ 11 → jm_I h3 h.1 k = jz 0 := fun k a b => by rw [cc, if_neg a, if_neg b]; rfl
    have j1' : h3.1 = h.1 + 30 := j1
    refine ⟨rfl, ⟨j1, j2, j7⟩, hs, ⟨z0 10 (by decide) (by decide), Nat.zero_le _, row.nil _ _⟩, ⟨⟨z0 1 (by decide) (by decide), row.nil _ _⟩, row.nil _ _, row.nil _ _⟩, ⟨List.replicate 20 [], ⟨rfl, fun i hi => ?_, fun k hk => ?_, fun t ht => ?_⟩, rfl⟩, ⟨?_, by show 1 ≤ 400; omega, fun i hi => ?_⟩, ⟨z0 13 (by decide) (by decide), Nat.zero_le _, row.nil _ _⟩, ?_, ⟨z0 26 (by decide) (by decide), row.nil _ _, row.nil _ _, row.nil _ _, row.nil _ _, row.nil _ _⟩, fun k hk => absurd hk (Nat.not_lt_zero k)⟩
    · rw [j5 (h.1 + 4) (by omega) (by omega) i]
      have : ∀ i, ((List.replicate 20 ([] : List Int)).map (fun t => (t.length : Int))).getD i 0 = 0 := fun i => by
        rw [List.map_replicate, List.getD_eq_getElem?_getD, List.getElem?_replicate]
        split <;> rfl
      rw [this]; rfl
    · have : (List.replicate 20 ([] : List Int)).getD k [] = [] := by
        rw [List.getD_eq_getElem?_getD, List.getElem?_replicate]
        split <;> rfl
      rw [this]
      exact ⟨Nat.zero_le _, fun i hi => absurd hi (Nat.not_lt_zero i)⟩
    · have : t = [] := List.eq_of_mem_replicate ht
      subst this
      exact fun v hv => by cases hv
    · rw [cc, if_neg (by decide), if_pos rfl]; rfl
    · have : i = 0 := by
        have : i < 1 := hi
        omega
      subst this
      rw [j5 (h.1 + 9) (by omega) (by omega) 0]; rfl
    · rw [cc, if_pos rfl]; rfl
  exact e27 (r27_0 ⟨by rw [T0]; omega, go⟩)
theorem stepX {h0 hi hn : jm_H} {k z k' z' f v : Nat} (g : gr h0 hi k z) (hk : 1 ≤ k) (g2 : gr (jm_sF hi h0.1 f v) hn k' z') : gr h0 hn (k + k') (z + z') ∧ (∀ b, h0.1 < b → b < hi.1 → sm hi hn b) ∧ jm_T hn h0.1 = jm_T hi h0.1 ∧ (∀ j, jm_I hn h0.1 j = jm_I hi h0.1 j) ∧ (∀ j, jm_F hn h0.1 j = if j = f then v else jm_F hi h0.1 j) := by
  have e1 := g.1
  have s0 := g2.2.2 h0.1 (by show h0.1 < hi.1; omega)
  refine ⟨(gr_set g (Nat.le_refl _)).trans g2, fun b h1 h2 => sm_trans (sm_sF (by omega)) (g2.2.2 b h2), s0.1.trans (jr_T_sF _ _ _ _ _), fun j => (s0.2.2.2.2 j).trans (jr_I_sF _ _ _ _ _ _), fun j => (s0.2.2.1 j).trans ?_⟩
  rw [jr_F_sF]
  by_cases e : j = f
  · rw [if_pos ⟨rfl, e⟩, if_pos e]
  · rw [if_neg (fun x => e x.2), if_neg e]
