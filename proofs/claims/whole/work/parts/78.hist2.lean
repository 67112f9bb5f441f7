/-! The class's histories: appending. -/
theorem gD_l {α : Type} {xs ys : List α} {i : Nat} {d : α} (hi : i < xs.length) : (xs ++ ys).getD i d = xs.getD i d := by
  rw [List.getD_eq_getElem?_getD, List.getD_eq_getElem?_getD, List.getElem?_append_left hi]
theorem gD_n {α : Type} {xs : List α} {x d : α} {i : Nat} (hi : i = xs.length) : (xs ++ [x]).getD i d = x := by
  subst hi
  rw [List.getD_eq_getElem?_getD, List.getElem?_append_right (Nat.le_refl _), Nat.sub_self]; rfl
theorem gD_set {α : Type} {xs : List α} {x d : α} {i k : Nat} (hk : k < xs.length) : (xs.set k x).getD i d = if i = k then x else xs.getD i d := by
  by_cases e : i = k
  · rw [if_pos e, e, List.getD_eq_getElem?_getD, List.getElem?_set_self hk]; rfl
  · rw [if_neg e, List.getD_eq_getElem?_getD, List.getD_eq_getElem?_getD, List.getElem?_set_ne (Ne.symm e)]
def hap (S : List FS) (p : Int) : List FS :=
  if 0 ≤ p ∧ p < S.length then
    if (S.getD p.toNat fs0).1 = -1 then S.set p.toNat ((S.length : Int), (S.getD p.toNat fs0).2) ++ [(-1, 0, (S.getD p.toNat fs0).2.2.1, (S.getD p.toNat fs0).2.2.2.1, (S.getD p.toNat fs0).2.2.2.2.1 + 1, (S.getD p.toNat fs0).2.2.2.2.2)]
    else S.set p.toNat ((S.getD p.toNat fs0).1, (S.getD p.toNat fs0).2.1 + 1, (S.getD p.toNat fs0).2.2) ++ [(-1, 0, p, (S.getD p.toNat fs0).2.1 + 1, 1, (S.getD p.toNat fs0).2.2.2.2.2 + 2)]
  else S ++ [fs0]
/-- what follows from the parents alone -/
def sf (ps : List Int) : List FS := ps.foldl hap []
theorem sf_snoc (ps : List Int) (p : Int) : sf (ps ++ [p]) = hap (sf ps) p := by
  unfold sf; rw [List.foldl_append]; rfl
theorem hap_len (S : List FS) (p : Int) : (hap S p).length = S.length + 1 := by
  unfold hap
  split
  · split
    · rw [List.length_append, List.length_set, List.length_singleton]
    · rw [List.length_append, List.length_set, List.length_singleton]
  · rw [List.length_append, List.length_singleton]
theorem cH_snoc {h : jm_H} {a : Nat} {rs : List Rv} {fs : List FS} {r : Rv} {f : FS} (hcount : jm_I h a 1 = jz ((rs.length : Int) + 1)) (h20 : rs.length < 20) (hl : fs.length = rs.length) (hold : ∀ k, k < rs.length → cR h (a + 2 + 3 * k) (rs.getD k rv0) (fs.getD k fs0)) (hnew : cR h (a + 2 + 3 * rs.length) r f) : cH h a (rs ++ [r]) (fs ++ [f]) := by
  refine ⟨?_, by rw [List.length_append, List.length_singleton]; omega, by rw [List.length_append, List.length_append, hl]; rfl, fun k hk => ?_⟩
  · rw [hcount, List.length_append, List.length_singleton]; rfl
  · rw [List.length_append, List.length_singleton] at hk
    by_cases e : k = rs.length
    · rw [gD_n e, gD_n (by omega), e]; exact hnew
    · rw [gD_l (by omega), gD_l (by omega)]; exact hold k (by omega)
theorem cR.sI4 {h : jm_H} {a : Nat} {r : Rv} {f : FS} {n : Int} (c : cR h a r f) : cR (jm_sI h a 4 (jz n)) a r (n, f.2) := by
  obtain ⟨⟨c1, c2, c3, c4, c5, c6, c7, c8, c9⟩, c10⟩ := c
  exact ⟨by simp [jr_I_sI, c1, c2, c3, c5, c6, c7, c8, c9], c10.jf ((jf.refl [a] h).sI (by simp)) (by simp) (by simp; omega)⟩
theorem cR.sI5 {h : jm_H} {a : Nat} {r : Rv} {f : FS} {n : Int} (c : cR h a r f) : cR (jm_sI h a 5 (jz n)) a r (f.1, n, f.2.2) := by
  obtain ⟨⟨c1, c2, c3, c4, c5, c6, c7, c8, c9⟩, c10⟩ := c
  exact ⟨by simp [jr_I_sI, c1, c2, c3, c4, c6, c7, c8, c9], c10.jf ((jf.refl [a] h).sI (by simp)) (by simp) (by simp; omega)⟩
theorem cR.sI3 {h : jm_H} {a : Nat} {r : Rv} {f : FS} {n : Int} (c : cR h a r f) : cR (jm_sI h a 3 (jz n)) a (r.1, r.2.1, n, r.2.2.2) f := by
  obtain ⟨⟨c1, c2, c3, c4, c5, c6, c7, c8, c9⟩, c10⟩ := c
  exact ⟨by simp [jr_I_sI, c1, c2, c4, c5, c6, c7, c8, c9], c10.jf ((jf.refl [a] h).sI (by simp)) (by simp) (by simp; omega)⟩
theorem s98 {d a : Nat} {h : jm_H} {rs : List Rv} {fs : List FS} {p u : Int} (hs : shH h a) (hc : cH h a rs fs) (h20 : rs.length < 20) (hp : jR p) (rn : ∀ k, k < fs.length → jR (fs.getD k fs0).1) : jm_E dh_pr (d + 3) 98 [.inr (.inl a), .inl (jz p), .inl (jz u)] h (fun o h' => o = .inl (some (.inl (jz rs.length))) ∧ jf (rg a 62) h h' ∧ cH h' a (rs ++ [(p, u, -1, [])]) (hap fs p)) := by
  obtain ⟨c1, c2, c3, c4⟩ := hc
  have sn := hs.2.2.2 rs.length h20
  refine e98 (r98_0 ⟨hs.1, _, c1, _, hs.2.1, hs.2.2.1.1, _, hs.2.2.1.2, ⟨by omega, by omega, by omega⟩, a + 2 + 3 * rs.length, sn.1, sn.2.1, jm_callV (s113 sn.2) ?_⟩)
  rintro h1 ⟨hf1, hr1⟩
  have hs1 := hs.js hf1.1
  have cnt1 : jm_I h1 a 1 = jz rs.length := (hf1.2 a (by simp; omega) 1).trans c1
  have old1 : ∀ k, k < rs.length → cR h1 (a + 2 + 3 * k) (rs.getD k rv0) (fs.getD k fs0) := fun k hk => (c4 k hk).jf hf1 (by simp; omega) (by simp; omega) (by simp; omega)
  have F1 : jf (rg a 62) h h1 := hf1.mono (fun x hx => by rw [mem_rg]; simp at hx; omega)
  have ma : a ∈ rg a 62 := mem_rg.mpr (by omega)
  refine r98_20 ⟨hs1.1, jm_callI (s96 hs1.1 cnt1 c2 hp) ?_⟩
  rintro z h' ⟨rfl, ⟨rfl, q⟩ | ⟨rfl, q⟩⟩
  · obtain ⟨q1, q2⟩ := q
    have pk : p.toNat < rs.length := by omega
    have sp := hs1.2.2.2 p.toNat (by omega)
    have sn1 := hs1.2.2.2 rs.length h20
    have cp := old1 p.toNat pk
    have mg : a + 2 + 3 * p.toNat ∈ rg a 62 := mem_rg.mpr (by omega)
    have ne : a + 2 + 3 * p.toNat ≠ a + 2 + 3 * rs.length := by omega
    refine r98_25 ⟨⟨by omega, by omega⟩, fun e => absurd e (by omega), fun _ => ⟨hs1.1, _, hs1.2.1, hs1.2.2.1.1, _, hs1.2.2.1.2, ⟨by omega, by omega, by omega⟩, _, sp.1, sp.2.1, _, cp.1.2.2.2.1, rn _ (by omega), fun e => ⟨_, cp.1.2.2.2.2.1, sn1.2.1, jm_callV (s115 (h := jm_sI h' (a + 2 + 3 * p.toNat) 5 (jz ((fs.getD p.toNat fs0).2.1 + 1))) (sn1.2.js (js.sI _ _ _ _)) (sp.2.js (js.sI _ _ _ _)) (hr1.jf ((jf.refl [a + 2 + 3 * p.toNat] _).sI (by simp)) (by simp; omega) (by simp; omega) (by simp; omega)) cp.sI5 ne) ?_⟩, fun e => ⟨sn1.2.1, jm_callV (s114 (h := jm_sI h' (a + 2 + 3 * p.toNat) 4 (jz rs.length)) (sn1.2.js (js.sI _ _ _ _)) (sp.2.js (js.sI _ _ _ _)) (hr1.jf ((jf.refl [a + 2 + 3 * p.toNat] _).sI (by simp)) (by simp; omega) (by simp; omega) (by simp; omega)) cp.sI4 ne) ?_⟩⟩⟩
    · rintro h3 ⟨hf3, hr3⟩
      have hs3 := (hs1.js (js.sI h' (a + 2 + 3 * p.toNat) 5 (jz ((fs.getD p.toNat fs0).2.1 + 1)))).js hf3.1
      have fp := (jf.refl [a + 2 + 3 * p.toNat] h').sI (k := 5) (x := jz ((fs.getD p.toNat fs0).2.1 + 1)) (a := a + 2 + 3 * p.toNat) (by simp)
      have F3 : jf (rg a 62) h h3 := (F1.sI mg).trans (hf3.mono (fun x hx => by rw [mem_rg]; simp at hx; omega))
      refine r98_79 ⟨hs3.1, (rs.length : Int), ?_, rfl, F3.sI ma, ?_⟩
      · rw [hf3.2 a (by simp; omega), fp.2 a (by simp; omega)]; exact cnt1
      · have fa := (jf.refl [a] h3).sI (k := 1) (x := jz ((rs.length : Int) + 1)) (a := a) (by simp)
        unfold hap
        rw [if_pos (by omega), if_neg e]
        refine cH_snoc jr_I_self h20 (by rw [List.length_set]; exact c3) (fun k hk => ?_) (hr3.jf fa (by simp; omega) (by simp; omega) (by simp; omega))
        rw [gD_set (by omega)]
        by_cases e2 : k = p.toNat
        · rw [if_pos e2, e2]
          exact (cp.sI5.jf hf3 (by simp; omega) (by simp; omega) (by simp; omega)).jf fa (by simp; omega) (by simp; omega) (by simp; omega)
        · rw [if_neg e2]
          exact (((old1 k hk).jf fp (by simp; omega) (by simp; omega) (by simp; omega)).jf hf3 (by simp; omega) (by simp; omega) (by simp; omega)).jf fa (by simp; omega) (by simp; omega) (by simp; omega)
    · rintro h3 ⟨hf3, hr3⟩
      have hs3 := (hs1.js (js.sI h' (a + 2 + 3 * p.toNat) 4 (jz rs.length))).js hf3.1
      have fp := (jf.refl [a + 2 + 3 * p.toNat] h').sI (k := 4) (x := jz rs.length) (a := a + 2 + 3 * p.toNat) (by simp)
      have F3 : jf (rg a 62) h h3 := (F1.sI mg).trans (hf3.mono (fun x hx => by rw [mem_rg]; simp at hx; omega))
      refine r98_58 ⟨hs3.1, (rs.length : Int), ?_, rfl, F3.sI ma, ?_⟩
      · rw [hf3.2 a (by simp; omega), fp.2 a (by simp; omega)]; exact cnt1
      · have fa := (jf.refl [a] h3).sI (k := 1) (x := jz ((rs.length : Int) + 1)) (a := a) (by simp)
        unfold hap
        rw [if_pos (by omega), if_pos e]
        refine cH_snoc jr_I_self h20 (by rw [List.length_set]; exact c3) (fun k hk => ?_) (hr3.jf fa (by simp; omega) (by simp; omega) (by simp; omega))
        rw [gD_set (by omega)]
        by_cases e2 : k = p.toNat
        · rw [if_pos e2, e2, c3]
          exact (cp.sI4.jf hf3 (by simp; omega) (by simp; omega) (by simp; omega)).jf fa (by simp; omega) (by simp; omega) (by simp; omega)
        · rw [if_neg e2]
          exact (((old1 k hk).jf fp (by simp; omega) (by simp; omega) (by simp; omega)).jf hf3 (by simp; omega) (by simp; omega) (by simp; omega)).jf fa (by simp; omega) (by simp; omega) (by simp; omega)
  · have fa := (jf.refl [a] h').sI (k := 1) (x := jz ((rs.length : Int) + 1)) (a := a) (by simp)
    refine r98_25 ⟨⟨by omega, by omega⟩, fun _ => ⟨hs1.1, _, cnt1, rfl, F1.sI ma, ?_⟩, fun e => absurd rfl e⟩
    unfold hap
    rw [if_neg (by rw [c3]; exact q)]
    exact cH_snoc jr_I_self h20 c3 (fun k hk => (old1 k hk).jf fa (by simp; omega) (by simp; omega) (by simp; omega)) (hr1.jf fa (by simp; omega) (by simp; omega) (by simp; omega))
