/-! The reference: steps taken. -/
/-- what apply leaves -/
def MP (h h' : jm_H) (M r : Nat) (ts : List (List Int)) (B : List Int) (E : Prop) (o : jm_R) : Prop := o = .inl none ∧ jq M [35, 36] [M + 4, M + 5] h h' ∧ ∃ (g : Int) (pl : Nat) (ts' : List (List Int)), GP h' M g pl ∧ pl ≤ 200000 ∧ cT h' M ts' ∧ (∀ k, k ≠ r → ts'.getD k [] = ts.getD k []) ∧ (E → g = 1 ∧ ts'.getD r [] = B)
theorem set_other {ts : List (List Int)} {r k : Nat} {t : List Int} (hr : r < ts.length) (hk : k ≠ r) : (ts.set r t).getD k [] = ts.getD k [] := by rw [gD_set hr, if_neg hk]
theorem set_self {ts : List (List Int)} {r : Nat} {t : List Int} (hr : r < ts.length) : (ts.set r t).getD r [] = t := by rw [gD_set hr, if_pos rfl]
theorem td_step {A : List Int} {p t : Nat} (h : p < t) (ht : t ≤ A.length) : (A.take t).drop p = A.getD p 0 :: (A.take t).drop (p + 1) := by
  rw [drop_cons (by rw [List.length_take]; omega), getD_take h]
theorem s67 {d M r c pt pl : Nat} {h : jm_H} {fl t B : List Int} {ts : List (List Int)} {E : Prop} (hs : shM h M) (cf : cF h M fl) (b8 : by8 fl) (G0 : GP h M 1 pl) (hpt : jm_I h (M + 24) r = jz (pt : Int)) (hpt' : pt ≤ 100000) (T0 : cT h M ts) (hr : r < 20) (hc : c < 20) (hrc : c ≠ r) (hE : E → DR fl pt (encD (delta (ts.getD c []) B) ++ t) ∧ B.length ≤ 12 ∧ lnv B) : jm_E dh_pr (d + 3) 67 [.inr (.inl M), .inl (jz (r : Int)), .inl (jz (c : Int))] h (fun o h' => MP h h' M r ts B E o) := by
  obtain ⟨A12, lA, -, -⟩ := cT_at T0 hc
  have lts := T0.1
  generalize hA : ts.getD c [] = A at *
  obtain ⟨va, vp1, vB⟩ := delta_app A B
  have oa := delta_ok A B
  have pre := fun k => pst_pre vB k
  have dc := delta_cnt (A := A) (B := B) A12
  have d12 : B.length ≤ 12 → okS (delta A B).1 12 := fun hB => delta_12 A12 hB
  generalize hacc : (delta A B).1 = acc at *
  generalize had : (delta A B).2 = ad at *
  have eD : encD (delta A B) = (acc.length : Int) :: acc.flatMap (encS ad) := by
    unfold encD; rw [hacc, had]
  have er : (r : Int).toNat = r := by omega
  have ec : (c : Int).toNat = c := by omega
  have ci : jzi (c : Int) 20 := ⟨by omega, by omega, by omega⟩
  have len12 : E → ∀ j, (pst A B (acc.take j)).2.length ≤ 12 := fun e j => by
    obtain ⟨t', ht'⟩ := pre j
    have h6 := (hE e).2.1
    rw [ht', List.length_append] at h6
    omega
  -- facts of the source in any later state
  have SRC : ∀ {h1 : jm_H} {ts1 : List (List Int)}, cT h1 M ts1 → (∀ k, k ≠ r → ts1.getD k [] = ts.getD k []) → jm_I h1 (M + 4) (c : Int).toNat = jz (A.length : Int) ∧ ∀ i, i < A.length → jm_I h1 (M + 5) (12 * c + i) = jz (A.getD i 0) := by
    intro h1 ts1 T1 k1
    obtain ⟨-, -, a3, a4⟩ := cT_at T1 hc
    rw [k1 c hrc, hA] at a3 a4
    rw [ec]
    exact ⟨a3, a4⟩
  -- a line is added
  have ADD : ∀ {h1 : jm_H} {ts1 : List (List Int)} {g : Int} {q : Nat} {v : Int} {Qk : jm_Q}, jq M [35, 36] [M + 4, M + 5] h h1 → GP h1 M g q → cT h1 M ts1 → (∀ k, k ≠ r → ts1.getD k [] = ts.getD k []) → (g = 1 → 1 ≤ v ∧ v ≤ 99) → (∀ (h2 : jm_H) (g2 : Int) (ts2 : List (List Int)), jq M [35, 36] [M + 4, M + 5] h h2 → GP h2 M g2 q → cT h2 M ts2 → (∀ k, k ≠ r → ts2.getD k [] = ts.getD k []) → ((g2 = 1 ∧ g = 1 ∧ ts2.getD r [] = ts1.getD r [] ++ [v]) ∨ (g2 = 0 ∧ (g = 1 → ¬ (ts1.getD r []).length < 12))) → Qk (.inl none) h2) → jm_E dh_pr (d + 2) 66 [.inr (.inl M), .inl (jz (r : Int)), .inl (jz v)] h1 Qk := by
    intro h1 ts1 g q v Qk p1 G1 T1 k1 hv K
    refine jm_E_mono _ _ _ _ _ _ ?_ (s66 (hs.js p1.1) G1 T1 hr hv)
    rintro o h2 ⟨rfl, p2, g2, G2, ⟨a1, a2, a3, a4⟩ | ⟨a1, a2, a3⟩⟩
    · have l1 : r < ts1.length := by rw [T1.1]; exact hr
      exact K h2 g2 _ (p1.trans (p2.mono (by simp <;> omega) (by simp <;> omega))) G2 a4 (fun k hk => by rw [set_other l1 hk]; exact k1 k hk) (Or.inl ⟨a1, a2, set_self l1⟩)
    · exact K h2 g2 _ (p1.trans (p2.mono (by simp <;> omega) (by simp <;> omega))) G2 a3 k1 (Or.inr ⟨a1, a2⟩)
  -- the rest of the source
  have L226 : ∀ (m : Nat) (h1 : jm_H) (ts1 : List (List Int)) (g : Int) (q : Nat) (v3 : Int) (l4 l5 l6 l7 l8 l9 : Option jm_V), ((A.length : Int) - v3).toNat = m → 0 ≤ v3 → v3 ≤ 30 → jq M [35, 36] [M + 4, M + 5] h h1 → GP h1 M g q → q ≤ 200000 → cT h1 M ts1 → (∀ k, k ≠ r → ts1.getD k [] = ts.getD k []) → (E → g = 1 ∧ v3 ≤ A.length ∧ ts1.getD r [] ++ A.drop v3.toNat = B) → jm_W dh_pr (d + 2) 67 (226, [some (.inr (.inl M)), some (.inl (jz (r : Int))), some (.inl (jz (c : Int))), some (.inl (jz v3)), l4, l5, l6, l7, l8, l9], [], h1) (fun o h' => MP h h' M r ts B E o) := by
    intro m
    induction m with
    | zero =>
      intro h1 ts1 g q v3 l4 l5 l6 l7 l8 l9 em h3 h3' p1 G1 hq T1 k1 hi
      have hs1 := hs.js p1.1
      obtain ⟨f4, g4, n4⟩ := hs1.f 5 4 20 (by decide)
      have done : MP h h1 M r ts B E (.inl none) := ⟨rfl, p1, g, q, ts1, G1, hq, T1, k1, fun e => by
        obtain ⟨i1, i2, i3⟩ := hi e
        rw [List.drop_eq_nil_of_le (by omega), List.append_nil] at i3
        exact ⟨i1, i3⟩⟩
      exact r67_226 ⟨hs1.1, _, G1.1, by rcases G1.2.1 with rfl | rfl <;> exact ⟨by decide, by decide⟩, fun _ => done, fun _ => ⟨_, f4, g4, _, n4, ci, _, (SRC T1 k1).1, ⟨by omega, by omega⟩, ⟨by omega, by omega⟩, fun _ => done, fun w => absurd w (by omega)⟩⟩
    | succ m ih =>
      intro h1 ts1 g q v3 l4 l5 l6 l7 l8 l9 em h3 h3' p1 G1 hq T1 k1 hi
      have hs1 := hs.js p1.1
      obtain ⟨f4, g4, n4⟩ := hs1.f 5 4 20 (by decide)
      obtain ⟨f5, g5, n5⟩ := hs1.f 6 5 240 (by decide)
      have vl : v3.toNat < A.length := by omega
      have lv := lA.at vl
      refine r67_226 ⟨hs1.1, _, G1.1, by rcases G1.2.1 with rfl | rfl <;> exact ⟨by decide, by decide⟩, fun w => ⟨rfl, p1, g, q, ts1, G1, hq, T1, k1, fun e => by have := (hi e).1; omega⟩, fun w => ⟨_, f4, g4, _, n4, ci, _, (SRC T1 k1).1, ⟨by omega, by omega⟩, ⟨by omega, by omega⟩, fun w => absurd w (by omega), fun _ => ⟨_, f5, g5, _, n5, ⟨by omega, by omega, by omega⟩, A.getD v3.toNat 0, by rw [show (12 * (c : Int) + v3).toNat = 12 * c + v3.toNat by omega]; exact (SRC T1 k1).2 _ vl, ADD p1 G1 T1 k1 (fun _ => lv) ?_⟩⟩⟩
      intro h2 g2 ts2 p2 G2 T2 k2 hg2
      refine r67_259 (ih h2 ts2 g2 q _ _ _ _ _ _ _ (by omega) (by omega) (by omega) p2 G2 hq T2 k2 (fun e => ?_))
      obtain ⟨i1, i2, i3⟩ := hi e
      rw [drop_cons vl] at i3
      rcases hg2 with ⟨b1, b2, b3⟩ | ⟨b1, b2⟩
      · refine ⟨b1, by omega, ?_⟩
        rw [b3, List.append_assoc, show (v3 + 1).toNat = v3.toNat + 1 by omega]
        exact i3
      · have := congrArg List.length i3
        rw [List.length_append, List.length_cons] at this
        have h6 := (hE e).2.1
        exact absurd (by omega) (b2 i1)
  -- the steps
  have L31 : ∀ (m k : Nat) (h1 : jm_H) (ts1 : List (List Int)) (g : Int) (q : Nat) (v3 v4 v5 : Int) (l6 l7 l8 l9 : Option jm_V), (v4 - v5).toNat = m → v5 = k → (0 ≤ v4 ∧ v4 ≤ 24) → k ≤ 24 → (0 ≤ v3 ∧ v3 ≤ 30) → (g = 1 → v3 ≤ A.length) → jq M [35, 36] [M + 4, M + 5] h h1 → GP h1 M g q → q ≤ pt + 1 + 15 * k → cT h1 M ts1 → (∀ k, k ≠ r → ts1.getD k [] = ts.getD k []) → (E → g = 1 ∧ v4 = acc.length ∧ v3 = ((pst A B (acc.take k)).1 : Int) ∧ ts1.getD r [] = (pst A B (acc.take k)).2 ∧ DR fl q ((acc.drop k).flatMap (encS ad) ++ t)) → jm_W dh_pr (d + 2) 67 (31, [some (.inr (.inl M)), some (.inl (jz (r : Int))), some (.inl (jz (c : Int))), some (.inl (jz v3)), some (.inl (jz v4)), some (.inl (jz v5)), l6, l7, l8, l9], [], h1) (fun o h' => MP h h' M r ts B E o) := by
    intro m
    induction m with
    | zero =>
      intro k h1 ts1 g q v3 v4 v5 l6 l7 l8 l9 em e5 h4 hk h3 h3g p1 G1 hq T1 k1 hi
      refine r67_31 ⟨⟨by omega, by omega⟩, ⟨by omega, by omega⟩, fun _ => L226 _ h1 ts1 g q v3 _ _ _ _ _ _ rfl h3.1 h3.2 p1 G1 (by omega) T1 k1 (fun e => ?_), fun w => absurd w (by omega)⟩
      obtain ⟨i1, i2, i3, i4, i5⟩ := hi e
      rw [List.take_of_length_le (by omega)] at i3 i4
      refine ⟨i1, by omega, ?_⟩
      rw [i4, i3, show (((pst A B acc).1 : Nat) : Int).toNat = (pst A B acc).1 by omega]
      exact vB
    | succ m ih =>
      intro k h1 ts1 g q v3 v4 v5 l6 l7 l8 l9 em e5 h4 hk h3 h3g p1 G1 hq T1 k1 hi
      have hs1 := hs.js p1.1
      have cf1 := cf.jq p1 (by simp <;> omega) (by decide) (by simp <;> omega)
      have gr : jR g := by rcases G1.2.1 with rfl | rfl <;> exact ⟨by decide, by decide⟩
      by_cases eg : g = 0
      · exact r67_31 ⟨⟨by omega, by omega⟩, ⟨by omega, by omega⟩, fun w => absurd w (by omega), fun _ => ⟨hs1.1, _, G1.1, gr, fun _ => L226 _ h1 ts1 g q v3 _ _ _ _ _ _ rfl h3.1 h3.2 p1 G1 (by omega) T1 k1 (fun e => by have := (hi e).1; omega), fun x => absurd eg x⟩⟩
      have g1 : g = 1 := G1.2.1.resolve_left eg
      subst g1
      refine r67_31 ⟨⟨by omega, by omega⟩, ⟨by omega, by omega⟩, fun w => absurd w (by omega), fun _ => ⟨hs1.1, _, G1.1, gr, fun x => absurd x (by omega), fun _ => jm_callI (tkM hs1 cf1 b8 G1 (by omega) ⟨by omega, by omega⟩ ⟨by omega, by omega⟩) ?_⟩⟩
      rintro y1 h2 ⟨g2, p2, G2, a1, a2, a3⟩
      have hs2 := hs1.js p2.1
      have cf2 := cf1.jq p2 (by simp <;> omega) (by decide) (by simp <;> omega)
      refine r67_51 ⟨hs2.1, jm_callI (tkM hs2 cf2 b8 G2 (by omega) ⟨by omega, by omega⟩ ⟨by omega, by omega⟩) ?_⟩
      rintro y2 h3' ⟨g3, p3, G3, a4, a5, a6⟩
      have hs3 := hs2.js p3.1
      have cf3 := cf2.jq p3 (by simp <;> omega) (by decide) (by simp <;> omega)
      refine r67_60 ⟨hs3.1, jm_callI (tkM hs3 cf3 b8 G3 (by omega) ⟨by omega, by omega⟩ ⟨by omega, by omega⟩) ?_⟩
      rintro y3 h4' ⟨g4, p4, G4, a7, a8, a9⟩
      have yb : (0 ≤ y1 ∧ y1 ≤ 1) ∧ (0 ≤ y2 ∧ y2 ≤ 12) ∧ (0 ≤ y3 ∧ y3 ≤ 12) := by
        refine ⟨?_, ?_, ?_⟩
        · rcases G2.2.1 with e' | e'
          · have := a2 e'; omega
          · have := a1 e'; omega
        · rcases G3.2.1 with e' | e'
          · have := a5 e'; omega
          · have := a4 e'; omega
        · rcases G4.2.1 with e' | e'
          · have := a8 e'; omega
          · have := a7 e'; omega
      have P4' : jq M [35, 36] [] h1 h4' := (p2.trans p3).trans p4
      have P4 : jq M [35, 36] [M + 4, M + 5] h h4' := p1.trans (P4'.mono (by simp <;> omega) (by simp <;> omega))
      have hs4 := hs.js P4.1
      have T4 : cT h4' M ts1 := T1.jq P4' (by simp <;> omega) (by simp <;> omega)
      -- what the bytes tell
      have SE : E → g4 = 1 ∧ k < acc.length ∧ y1 = (acc.getD k s50).1 ∧ y2 = (acc.getD k s50).2.1 ∧ y3 = (acc.getD k s50).2.2.1 ∧ vst A B (pst A B (acc.take k)).1 (acc.getD k s50) ∧ DR fl (q + 1 + 1 + 1) ((if (acc.getD k s50).1 = 0 then [] else (B.drop (acc.getD k s50).2.2.2.2.toNat).take (acc.getD k s50).2.2.1.toNat) ++ ((acc.drop (k + 1)).flatMap (encS ad) ++ t)) := by
        intro e
        obtain ⟨i1, i2, i3, i4, i5⟩ := hi e
        have kk : k < acc.length := by omega
        have v := va k kk
        have o := d12 (hE e).2.1 _ (mem_gD kk)
        rw [dropS kk, List.flatMap_cons, encS_eq (A := A) (oa _ (mem_gD kk)) v.1 v.2.2.2.1] at i5
        by_cases c0 : (acc.getD k s50).1 = 0
        · rw [if_pos c0] at i5
          simp only [List.append_assoc, List.cons_append, List.nil_append] at i5
          obtain ⟨x1, x2, x3⟩ := a3 rfl _ _ i5 (by omega) (by omega)
          obtain ⟨x4, x5, x6⟩ := a6 x1 _ _ x3 (by omega) (by omega)
          obtain ⟨x7, x8, x9⟩ := a9 x4 _ _ x6 (by omega) (by omega)
          rw [if_pos c0]
          exact ⟨x7, kk, x2, x5, x8, v, x9⟩
        · have c1 : (acc.getD k s50).1 = 1 := v.1.resolve_left c0
          have v6 := v.2.2.2.2.2 c1
          have len : ((B.drop (acc.getD k s50).2.2.2.2.toNat).take (acc.getD k s50).2.2.1.toNat).length = (acc.getD k s50).2.2.1.toNat := by
            rw [List.length_take, List.length_drop]; omega
          rw [if_neg c0, encT, len] at i5
          simp only [List.append_assoc, List.cons_append] at i5
          obtain ⟨x1, x2, x3⟩ := a3 rfl _ _ i5 (by omega) (by omega)
          obtain ⟨x4, x5, x6⟩ := a6 x1 _ _ x3 (by omega) (by omega)
          obtain ⟨x7, x8, x9⟩ := a9 x4 _ _ x6 (by omega) (by omega)
          rw [if_neg c0]
          exact ⟨x7, kk, x2, x5, by omega, v, x9⟩
      have S1 : k < acc.length → pst A B (acc.take (k + 1)) = stp A B (pst A B (acc.take k)) (acc.getD k s50) := fun kk => by
        rw [take_snoc' (d := s50) kk, pst_snoc]
      -- the end of a step
      have END : ∀ (h5 : jm_H) (ts5 : List (List Int)) (g5 : Int) (q5 : Nat) (w3 : Int) (v9 : Int), (0 ≤ w3 ∧ w3 ≤ 30) → jq M [35, 36] [M + 4, M + 5] h h5 → GP h5 M g5 q5 → q5 ≤ q + 15 → cT h5 M ts5 → (∀ k, k ≠ r → ts5.getD k [] = ts.getD k []) → (E → g5 = 1 ∧ w3 = ((pst A B (acc.take (k + 1))).1 : Int) ∧ ts5.getD r [] = (pst A B (acc.take (k + 1))).2 ∧ DR fl q5 ((acc.drop (k + 1)).flatMap (encS ad) ++ t)) → (g5 = 0 → jm_W dh_pr (d + 2) 67 (31, [some (.inr (.inl M)), some (.inl (jz (r : Int))), some (.inl (jz (c : Int))), some (.inl (jz w3)), some (.inl (jz v4)), some (.inl (jz (v5 + 1))), some (.inl (jz y1)), some (.inl (jz y2)), some (.inl (jz y3)), some (.inl (jz v9))], [], jm_sI h5 M 36 (jz 0)) (fun o h' => MP h h' M r ts B E o)) ∧ (¬ g5 = 0 → ∃ f26 : Nat, jm_F h5 M 5 = f26 ∧ jm_T h5 f26 = 100 ∧ ∃ n27 : Nat, jm_N h5 f26 = n27 ∧ jzi (c : Int) n27 ∧ ∃ z28 : Int, jm_I h5 f26 (c : Int).toNat = jz z28 ∧ jR w3 ∧ jR z28 ∧ (z28 < w3 → jm_W dh_pr (d + 2) 67 (31, [some (.inr (.inl M)), some (.inl (jz (r : Int))), some (.inl (jz (c : Int))), some (.inl (jz w3)), some (.inl (jz v4)), some (.inl (jz (v5 + 1))), some (.inl (jz y1)), some (.inl (jz y2)), some (.inl (jz y3)), some (.inl (jz v9))], [], jm_sI h5 M 36 (jz 0)) (fun o h' => MP h h' M r ts B E o)) ∧ (w3 ≤ z28 → jm_W dh_pr (d + 2) 67 (31, [some (.inr (.inl M)), some (.inl (jz (r : Int))), some (.inl (jz (c : Int))), some (.inl (jz w3)), some (.inl (jz v4)), some (.inl (jz (v5 + 1))), some (.inl (jz y1)), some (.inl (jz y2)), some (.inl (jz y3)), some (.inl (jz v9))], [], jm_sI h5 M 36 (jz 1)) (fun o h' => MP h h' M r ts B E o))) := by
        intro h5 ts5 g5 q5 w3 v9 hw p5 G5 hq5 T5 k5 hi5
        have hs5 := hs.js p5.1
        obtain ⟨f4, g4', n4⟩ := hs5.f 5 4 20 (by decide)
        have go : ∀ y : Int, (y = 0 ∨ y = 1) → (y = 1 → w3 ≤ A.length) → (E → y = 1) → jm_W dh_pr (d + 2) 67 (31, [some (.inr (.inl M)), some (.inl (jz (r : Int))), some (.inl (jz (c : Int))), some (.inl (jz w3)), some (.inl (jz v4)), some (.inl (jz (v5 + 1))), some (.inl (jz y1)), some (.inl (jz y2)), some (.inl (jz y3)), some (.inl (jz v9))], [], jm_sI h5 M 36 (jz y)) (fun o h' => MP h h' M r ts B E o) := by
          intro y hy hy1 hyE
          refine ih (k + 1) _ ts5 y q5 w3 v4 _ _ _ _ _ (by omega) (by omega) h4 (by omega) hw hy1 (p5.sM (by simp <;> omega)) ⟨jr_I_self, hy, by rw [jr_I_fld (by decide)]; exact G5.2.2⟩ (by omega) (T5.jq ((jq.refl M [36] [] h5).sM (by simp <;> omega)) (by simp <;> omega) (by simp <;> omega)) k5 (fun e => ?_)
          obtain ⟨b1, b2, b3, b4⟩ := hi5 e
          exact ⟨hyE e, (hi e).2.1, b2, b3, b4⟩
        have wE : E → w3 ≤ A.length := fun e => by
          obtain ⟨b1, b2, b3, b4⟩ := hi5 e
          obtain ⟨x1, kk, x2, x3, x4, v, -⟩ := SE e
          rw [b2, S1 kk, stp]
          split
          · rename_i c0
            show (((acc.getD k s50).2.1 + (acc.getD k s50).2.2.1).toNat : Int) ≤ _
            have := v.2.2.2.2.1 c0
            omega
          · show ((acc.getD k s50).2.1.toNat : Int) ≤ _
            have := v.2.2.1
            omega
        exact ⟨fun e0 => go 0 (Or.inl rfl) (fun x => absurd x (by omega)) (fun e => by have := (hi5 e).1; omega), fun e0 => ⟨_, f4, g4', _, n4, ci, _, (SRC T5 k5).1, ⟨by omega, by omega⟩, ⟨by omega, by omega⟩, fun w => go 0 (Or.inl rfl) (fun x => absurd x (by omega)) (fun e => by have := wE e; omega), fun w => go 1 (Or.inr rfl) (fun _ => w) (fun _ => rfl)⟩⟩
      -- lines that are added
      have L142 : ∀ (m' l : Nat) (h5 : jm_H) (ts5 : List (List Int)) (g5 : Int) (q5 : Nat) (w3 v9 : Int), (y3 - v9).toNat = m' → v9 = l → l ≤ 12 → (0 ≤ w3 ∧ w3 ≤ 13) → jq M [35, 36] [M + 4, M + 5] h h5 → GP h5 M g5 q5 → q5 ≤ q + 3 + l → cT h5 M ts5 → (∀ k, k ≠ r → ts5.getD k [] = ts.getD k []) → (E → g5 = 1 ∧ w3 = (acc.getD k s50).2.1 ∧ ((acc.getD k s50).1 = 0 → ts5.getD r [] = (pst A B (acc.take k)).2 ++ (A.take (acc.getD k s50).2.1.toNat).drop (pst A B (acc.take k)).1 ∧ DR fl q5 ((acc.drop (k + 1)).flatMap (encS ad) ++ t)) ∧ ((acc.getD k s50).1 = 1 → ts5.getD r [] = (pst A B (acc.take k)).2 ++ (A.take (acc.getD k s50).2.1.toNat).drop (pst A B (acc.take k)).1 ++ ((B.drop (acc.getD k s50).2.2.2.2.toNat).take (acc.getD k s50).2.2.1.toNat).take l ∧ DR fl q5 (((B.drop (acc.getD k s50).2.2.2.2.toNat).take (acc.getD k s50).2.2.1.toNat).drop l ++ ((acc.drop (k + 1)).flatMap (encS ad) ++ t)))) → jm_W dh_pr (d + 2) 67 (142, [some (.inr (.inl M)), some (.inl (jz (r : Int))), some (.inl (jz (c : Int))), some (.inl (jz w3)), some (.inl (jz v4)), some (.inl (jz v5)), some (.inl (jz y1)), some (.inl (jz y2)), some (.inl (jz y3)), some (.inl (jz v9))], [], h5) (fun o h' => MP h h' M r ts B E o) := by
        -- what END wants, where the lines are through
        have E0 : ∀ (l : Nat) (ts5 : List (List Int)) (g5 : Int) (q5 : Nat) (w3 : Int), (E → g5 = 1 ∧ w3 = (acc.getD k s50).2.1 ∧ ((acc.getD k s50).1 = 0 → ts5.getD r [] = (pst A B (acc.take k)).2 ++ (A.take (acc.getD k s50).2.1.toNat).drop (pst A B (acc.take k)).1 ∧ DR fl q5 ((acc.drop (k + 1)).flatMap (encS ad) ++ t)) ∧ ((acc.getD k s50).1 = 1 → ts5.getD r [] = (pst A B (acc.take k)).2 ++ (A.take (acc.getD k s50).2.1.toNat).drop (pst A B (acc.take k)).1 ++ ((B.drop (acc.getD k s50).2.2.2.2.toNat).take (acc.getD k s50).2.2.1.toNat).take l ∧ DR fl q5 (((B.drop (acc.getD k s50).2.2.2.2.toNat).take (acc.getD k s50).2.2.1.toNat).drop l ++ ((acc.drop (k + 1)).flatMap (encS ad) ++ t)))) → (y1 = 1 → y3 ≤ l) → (y1 = 0 → E → g5 = 1 ∧ w3 + y3 = ((pst A B (acc.take (k + 1))).1 : Int) ∧ ts5.getD r [] = (pst A B (acc.take (k + 1))).2 ∧ DR fl q5 ((acc.drop (k + 1)).flatMap (encS ad) ++ t)) ∧ (¬ y1 = 0 → E → g5 = 1 ∧ w3 = ((pst A B (acc.take (k + 1))).1 : Int) ∧ ts5.getD r [] = (pst A B (acc.take (k + 1))).2 ∧ DR fl q5 ((acc.drop (k + 1)).flatMap (encS ad) ++ t)) := by
          intro l ts5 g5 q5 w3 hi5 hl
          refine ⟨fun y0 e => ?_, fun y0 e => ?_⟩
          · obtain ⟨b1, b2, b3, b4⟩ := hi5 e
            obtain ⟨x1, kk, x2, x3, x4, v, -⟩ := SE e
            obtain ⟨b5, b6⟩ := b3 (by omega)
            have v2 := v.2.1
            rw [S1 kk, stp, if_pos (by omega)]
            exact ⟨b1, by show _ = ((((acc.getD k s50).2.1 + (acc.getD k s50).2.2.1).toNat : Nat) : Int); omega, b5, b6⟩
          · obtain ⟨b1, b2, b3, b4⟩ := hi5 e
            obtain ⟨x1, kk, x2, x3, x4, v, -⟩ := SE e
            obtain ⟨b5, b6⟩ := b4 (by omega)
            have v2 := v.2.1
            have ln : ((B.drop (acc.getD k s50).2.2.2.2.toNat).take (acc.getD k s50).2.2.1.toNat).length ≤ l := by
              rw [List.length_take]
              have := hl (by omega)
              omega
            rw [List.take_of_length_le ln] at b5
            rw [List.drop_eq_nil_of_le ln] at b6
            rw [S1 kk, stp, if_neg (by omega)]
            exact ⟨b1, by show _ = (((acc.getD k s50).2.1.toNat : Nat) : Int); omega, b5, b6⟩
        intro m'
        induction m' with
        | zero =>
          intro l h5 ts5 g5 q5 w3 v9 em' e9 hl hw p5 G5 hq5 T5 k5 hi5
          have hs5 := hs.js p5.1
          have gr5 : jR g5 := by rcases G5.2.1 with rfl | rfl <;> exact ⟨by decide, by decide⟩
          obtain ⟨z0, z1⟩ := E0 l ts5 g5 q5 w3 hi5 (fun _ => by omega)
          exact r67_142 ⟨⟨by omega, by omega⟩, ⟨by omega, by omega⟩, fun _ => ⟨⟨by omega, by omega⟩, fun y0 => ⟨hs5.1, _, G5.1, gr5, (END h5 ts5 g5 q5 w3 v9 ⟨by omega, by omega⟩ p5 G5 (by omega) T5 k5 (z1 y0)).1, (END h5 ts5 g5 q5 w3 v9 ⟨by omega, by omega⟩ p5 G5 (by omega) T5 k5 (z1 y0)).2⟩, fun y0 => ⟨hs5.1, _, G5.1, gr5, (END h5 ts5 g5 q5 (w3 + y3) v9 ⟨by omega, by omega⟩ p5 G5 (by omega) T5 k5 (z0 y0)).1, (END h5 ts5 g5 q5 (w3 + y3) v9 ⟨by omega, by omega⟩ p5 G5 (by omega) T5 k5 (z0 y0)).2⟩⟩, fun w => absurd w (by omega)⟩
        | succ m' ih' =>
          intro l h5 ts5 g5 q5 w3 v9 em' e9 hl hw p5 G5 hq5 T5 k5 hi5
          have hs5 := hs.js p5.1
          have cf5 := cf.jq p5 (by simp <;> omega) (by decide) (by simp <;> omega)
          have gr5 : jR g5 := by rcases G5.2.1 with rfl | rfl <;> exact ⟨by decide, by decide⟩
          refine r67_142 ⟨⟨by omega, by omega⟩, ⟨by omega, by omega⟩, fun w => absurd w (by omega), fun _ => ⟨hs5.1, _, G5.1, gr5, fun ge => ⟨⟨by omega, by omega⟩, fun y0 => ?_, fun y0 => ?_⟩, fun ge => ⟨⟨by omega, by omega⟩, fun y0 => ⟨fun y0' => absurd (show y1 = 1 by omega) y0, fun y0' => ?_⟩, fun y0 => jm_callI (tkM hs5 cf5 b8 G5 (by omega) ⟨by omega, by omega⟩ ⟨by omega, by omega⟩) ?_⟩⟩⟩
          · exact END h5 ts5 g5 q5 w3 v9 ⟨by omega, by omega⟩ p5 G5 (by omega) T5 k5 (fun e => by have := (hi5 e).1; omega)
          · exact END h5 ts5 g5 q5 (w3 + y3) v9 ⟨by omega, by omega⟩ p5 G5 (by omega) T5 k5 (fun e => by have := (hi5 e).1; omega)
          · exact END h5 ts5 g5 q5 (w3 + y3) v9 ⟨by omega, by omega⟩ p5 G5 (by omega) T5 k5 ((E0 l ts5 g5 q5 w3 hi5 (fun x => by omega)).1 y0')
          · rintro y6 h6 ⟨g6, p6, G6, b1, b2, b3⟩
            have P6 : jq M [35, 36] [M + 4, M + 5] h h6 := p5.trans (p6.mono (by simp <;> omega) (by simp <;> omega))
            refine r67_171 ⟨(hs.js P6.1).1, ADD P6 G6 (T5.jq p6 (by simp <;> omega) (by simp <;> omega)) k5 (fun x => (b1 x).2) ?_⟩
            intro h7 g7 ts7 p7 G7 T7 k7 hg7
            refine r67_174 (ih' (l + 1) h7 ts7 g7 (q5 + 1) w3 _ (by omega) (by omega) (by omega) hw p7 G7 (by omega) T7 k7 (fun e => ?_))
            obtain ⟨c1, c2, c3, c4⟩ := hi5 e
            obtain ⟨x1, kk, x2, x3, x4, v, -⟩ := SE e
            obtain ⟨c5, c6⟩ := c4 (by omega)
            have v6 := v.2.2.2.2.2 (by omega)
            have ln : ((B.drop (acc.getD k s50).2.2.2.2.toNat).take (acc.getD k s50).2.2.1.toNat).length = (acc.getD k s50).2.2.1.toNat := by
              rw [List.length_take, List.length_drop]; omega
            have ll : l < ((B.drop (acc.getD k s50).2.2.2.2.toNat).take (acc.getD k s50).2.2.1.toNat).length := by rw [ln]; omega
            have lB : ∀ x ∈ B, 1 ≤ x ∧ x ≤ 99 := (hE e).2.2
            have lv : 1 ≤ ((B.drop (acc.getD k s50).2.2.2.2.toNat).take (acc.getD k s50).2.2.1.toNat).getD l 0 ∧ ((B.drop (acc.getD k s50).2.2.2.2.toNat).take (acc.getD k s50).2.2.1.toNat).getD l 0 ≤ 99 := by
              rw [List.getD_eq_getElem?_getD, List.getElem?_eq_getElem ll]
              exact lB _ (List.mem_of_mem_drop (List.mem_of_mem_take (List.getElem_mem ll)))
            obtain ⟨d1, d2, d3⟩ := b3 c1 _ _ (DRl c6 ll) lv.1 lv.2
            have l12 := len12 e (k + 1)
            rw [S1 kk, stp, if_neg (by omega)] at l12
            have l12' : ((pst A B (acc.take k)).2 ++ (A.take (acc.getD k s50).2.1.toNat).drop (pst A B (acc.take k)).1 ++ (B.drop (acc.getD k s50).2.2.2.2.toNat).take (acc.getD k s50).2.2.1.toNat).length ≤ 12 := l12
            rw [List.length_append, ln] at l12'
            rcases hg7 with ⟨f1, f2, f3⟩ | ⟨f1, f2⟩
            · refine ⟨f1, c2, fun x => by omega, fun _ => ⟨?_, d3⟩⟩
              rw [f3, c5, d2, take_snoc ll]
              simp only [List.append_assoc]
            · refine absurd ?_ (f2 d1)
              rw [c5, List.length_append, List.length_take, ln]
              omega
      -- lines of the source up to the step's place
      have L104 : ∀ (m' : Nat) (h5 : jm_H) (ts5 : List (List Int)) (g5 : Int) (w3 : Int) (l9 : Option jm_V), (y2 - w3).toNat = m' → (0 ≤ w3 ∧ w3 ≤ 12) → (g5 = 1 → w3 ≤ y2 ∧ y2 ≤ A.length) → jq M [35, 36] [M + 4, M + 5] h h5 → GP h5 M g5 (q + 1 + 1 + 1) → cT h5 M ts5 → (∀ k, k ≠ r → ts5.getD k [] = ts.getD k []) → (E → g5 = 1 ∧ ts5.getD r [] ++ (A.take y2.toNat).drop w3.toNat = (pst A B (acc.take k)).2 ++ (A.take (acc.getD k s50).2.1.toNat).drop (pst A B (acc.take k)).1) → jm_W dh_pr (d + 2) 67 (104, [some (.inr (.inl M)), some (.inl (jz (r : Int))), some (.inl (jz (c : Int))), some (.inl (jz w3)), some (.inl (jz v4)), some (.inl (jz v5)), some (.inl (jz y1)), some (.inl (jz y2)), some (.inl (jz y3)), l9], [], h5) (fun o h' => MP h h' M r ts B E o) := by
        have go : ∀ (h5 : jm_H) (ts5 : List (List Int)) (g5 : Int) (w3 : Int), (0 ≤ w3 ∧ w3 ≤ 12) → jq M [35, 36] [M + 4, M + 5] h h5 → GP h5 M g5 (q + 1 + 1 + 1) → cT h5 M ts5 → (∀ k, k ≠ r → ts5.getD k [] = ts.getD k []) → (E → g5 = 1 ∧ w3 = y2 ∧ ts5.getD r [] = (pst A B (acc.take k)).2 ++ (A.take (acc.getD k s50).2.1.toNat).drop (pst A B (acc.take k)).1) → jm_W dh_pr (d + 2) 67 (142, [some (.inr (.inl M)), some (.inl (jz (r : Int))), some (.inl (jz (c : Int))), some (.inl (jz w3)), some (.inl (jz v4)), some (.inl (jz v5)), some (.inl (jz y1)), some (.inl (jz y2)), some (.inl (jz y3)), some (.inl (jz 0))], [], h5) (fun o h' => MP h h' M r ts B E o) := by
          intro h5 ts5 g5 w3 hw p5 G5 T5 k5 hi5
          refine L142 (y3 - 0).toNat 0 h5 ts5 g5 (q + 1 + 1 + 1) w3 0 rfl rfl (by omega) ⟨by omega, by omega⟩ p5 G5 (by omega) T5 k5 (fun e => ?_)
          obtain ⟨b1, b2, b3⟩ := hi5 e
          obtain ⟨x1, kk, x2, x3, x4, v, x5⟩ := SE e
          refine ⟨b1, by omega, fun c0 => ⟨b3, ?_⟩, fun c1 => ⟨?_, ?_⟩⟩
          · rw [if_pos c0, List.nil_append] at x5; exact x5
          · rw [List.take_zero, List.append_nil]; exact b3
          · rw [if_neg (by omega)] at x5
            rw [List.drop_zero]; exact x5
        intro m'
        induction m' with
        | zero =>
          intro h5 ts5 g5 w3 l9 em' hw hg5 p5 G5 T5 k5 hi5
          have hs5 := hs.js p5.1
          have gr5 : jR g5 := by rcases G5.2.1 with rfl | rfl <;> exact ⟨by decide, by decide⟩
          refine r67_104 ⟨hs5.1, _, G5.1, gr5, fun ge => go h5 ts5 g5 w3 hw p5 G5 T5 k5 (fun e => by have := (hi5 e).1; omega), fun ge => ⟨⟨by omega, by omega⟩, ⟨by omega, by omega⟩, fun _ => go h5 ts5 g5 w3 hw p5 G5 T5 k5 (fun e => ?_), fun w => absurd w (by omega)⟩⟩
          obtain ⟨b1, b2⟩ := hi5 e
          have := hg5 b1
          have ew : w3 = y2 := by omega
          rw [ew, td_nil, List.append_nil] at b2
          exact ⟨b1, ew, b2⟩
        | succ m' ih' =>
          intro h5 ts5 g5 w3 l9 em' hw hg5 p5 G5 T5 k5 hi5
          have hs5 := hs.js p5.1
          have gr5 : jR g5 := by rcases G5.2.1 with rfl | rfl <;> exact ⟨by decide, by decide⟩
          obtain ⟨f5, g5', n5⟩ := hs5.f 6 5 240 (by decide)
          refine r67_104 ⟨hs5.1, _, G5.1, gr5, fun ge => go h5 ts5 g5 w3 hw p5 G5 T5 k5 (fun e => by have := (hi5 e).1; omega), fun ge => ⟨⟨by omega, by omega⟩, ⟨by omega, by omega⟩, fun w => absurd w (by omega), fun _ => ?_⟩⟩
          have ge1 : g5 = 1 := G5.2.1.resolve_left ge
          obtain ⟨gw1, gw2⟩ := hg5 ge1
          have vl : w3.toNat < A.length := by omega
          have lv := lA.at vl
          refine ⟨_, f5, g5', _, n5, ⟨by omega, by omega, by omega⟩, A.getD w3.toNat 0, by rw [show (12 * (c : Int) + w3).toNat = 12 * c + w3.toNat by omega]; exact (SRC T5 k5).2 _ vl, ADD p5 G5 T5 k5 (fun _ => lv) ?_⟩
          intro h6 g6 ts6 p6 G6 T6 k6 hg6
          refine r67_133 (ih' h6 ts6 g6 _ _ (by omega) ⟨by omega, by omega⟩ (fun _ => ⟨by omega, gw2⟩) p6 G6 T6 k6 (fun e => ?_))
          obtain ⟨b1, b2⟩ := hi5 e
          rw [td_step (by omega) (by omega)] at b2
          rcases hg6 with ⟨f1, f2, f3⟩ | ⟨f1, f2⟩
          · refine ⟨f1, ?_⟩
            rw [f3, List.append_assoc, show (w3 + 1).toNat = w3.toNat + 1 by omega]
            exact b2
          · obtain ⟨x1, kk, x2, x3, x4, v, x5⟩ := SE e
            have l12 := len12 e (k + 1)
            have l12' : ((pst A B (acc.take k)).2 ++ (A.take (acc.getD k s50).2.1.toNat).drop (pst A B (acc.take k)).1).length ≤ 12 := by
              rw [S1 kk, stp] at l12
              split at l12
              · exact l12
              · have l3 : ((pst A B (acc.take k)).2 ++ (A.take (acc.getD k s50).2.1.toNat).drop (pst A B (acc.take k)).1 ++ (B.drop (acc.getD k s50).2.2.2.2.toNat).take (acc.getD k s50).2.2.1.toNat).length ≤ 12 := l12
                rw [List.length_append] at l3
                omega
            rw [← b2, List.length_append, List.length_cons] at l12'
            exact absurd (by omega) (f2 b1)
      have go69 : ∀ y : Int, (y = 0 ∨ y = 1) → (y = 1 → v3 ≤ y2 ∧ y2 ≤ A.length) → (E → y = 1) → jm_W dh_pr (d + 2) 67 (104, [some (.inr (.inl M)), some (.inl (jz (r : Int))), some (.inl (jz (c : Int))), some (.inl (jz v3)), some (.inl (jz v4)), some (.inl (jz v5)), some (.inl (jz y1)), some (.inl (jz y2)), some (.inl (jz y3)), l9], [], jm_sI h4' M 36 (jz y)) (fun o h' => MP h h' M r ts B E o) := by
        intro y hy hy1 hyE
        refine L104 _ _ ts1 y v3 _ rfl ⟨h3.1, by have := h3g rfl; omega⟩ hy1 (P4.sM (by simp <;> omega)) ⟨jr_I_self, hy, by rw [jr_I_fld (by decide)]; exact G4.2.2⟩ (T4.jq ((jq.refl M [36] [] h4').sM (by simp <;> omega)) (by simp <;> omega) (by simp <;> omega)) k1 (fun e => ?_)
        obtain ⟨i1, i2, i3, i4, i5⟩ := hi e
        obtain ⟨x1, kk, x2, x3, x4, v, x5⟩ := SE e
        refine ⟨hyE e, ?_⟩
        rw [i4, i3, x3, show (((pst A B (acc.take k)).1 : Nat) : Int).toNat = (pst A B (acc.take k)).1 by omega]
      obtain ⟨f4, g4', n4⟩ := hs4.f 5 4 20 (by decide)
      have gr4 : jR g4 := by rcases G4.2.1 with rfl | rfl <;> exact ⟨by decide, by decide⟩
      refine r67_69 ⟨hs4.1, _, G4.1, gr4, fun ge => go69 0 (Or.inl rfl) (fun x => absurd x (by omega)) (fun e => by have := (SE e).1; omega), fun ge => ⟨⟨by omega, by omega⟩, ⟨by omega, by omega⟩, fun w => go69 0 (Or.inl rfl) (fun x => absurd x (by omega)) (fun e => ?_), fun w => ⟨_, f4, g4', _, n4, ci, _, (SRC T4 k1).1, ⟨by omega, by omega⟩, fun w2 => go69 0 (Or.inl rfl) (fun x => absurd x (by omega)) (fun e => ?_), fun w2 => go69 1 (Or.inr rfl) (fun _ => ⟨w, w2⟩) (fun _ => rfl)⟩⟩⟩
      · obtain ⟨i1, i2, i3, i4, i5⟩ := hi e
        obtain ⟨x1, kk, x2, x3, x4, v, x5⟩ := SE e
        have := v.2.1
        omega
      · obtain ⟨x1, kk, x2, x3, x4, v, x5⟩ := SE e
        have := v.2.2.1
        omega
  obtain ⟨f24, g24, n24⟩ := hs.f 34 24 20 (by decide)
  obtain ⟨f4, g4, n4⟩ := hs.f 5 4 20 (by decide)
  have ri : jzi (r : Int) 20 := ⟨by omega, by omega, by omega⟩
  have p1 : jq M [35, 36] [M + 4, M + 5] h (jm_sI (jm_sI h M 35 (jz (pt : Int))) (M + 4) (r : Int).toNat (jz 0)) := ((jq.refl _ _ _ h).sM (by simp <;> omega)).sI (by simp <;> omega)
  have hs1 := hs.js p1.1
  have cf1 := cf.jq p1 (by simp <;> omega) (by decide) (by simp <;> omega)
  have G1 : GP (jm_sI (jm_sI h M 35 (jz (pt : Int))) (M + 4) (r : Int).toNat (jz 0)) M 1 pt := ⟨by rw [off1 (by omega), jr_I_fld (by decide)]; exact G0.1, Or.inr rfl, by rw [off1 (by omega)]; exact jr_I_self⟩
  have T1 : cT (jm_sI (jm_sI h M 35 (jz (pt : Int))) (M + 4) (r : Int).toNat (jz 0)) M (ts.set r []) := by
    refine cT_set T0 hr p1 (Nat.zero_le _) (fun v hv => by cases hv) (fun i hi => ?_) ?_ (fun j hj i hi => ?_) (fun i hi => absurd hi (Nat.not_lt_zero i))
    · rw [er, jr_I_fld hi, off1 (by omega)]
    · rw [er, jr_I_self]; rfl
    · rw [off1 (by omega), off1 (by omega)]
  have lr : r < ts.length := by omega
  refine e67 (r67_0 ⟨hs.1, _, f24, g24, _, n24, ri, _, by rw [er]; exact hpt, _, f4, g4, _, n4, ri, jm_callI (tkM hs1 cf1 b8 G1 (by omega) ⟨by omega, by omega⟩ ⟨by omega, by omega⟩) ?_⟩)
  rintro z h2 ⟨g2, p2, G2, a1, a2, a3⟩
  have zb : 0 ≤ z ∧ z ≤ 24 := by
    rcases G2.2.1 with e' | e'
    · have := a2 e'; omega
    · have := a1 e'; omega
  refine r67_26 (L31 (z - 0).toNat 0 h2 (ts.set r []) g2 (pt + 1) 0 z 0 _ _ _ _ rfl rfl zb (by omega) ⟨by omega, by omega⟩ (fun _ => by omega) (p1.trans (p2.mono (by simp <;> omega) (by simp <;> omega))) G2 (by omega) (T1.jq p2 (by simp <;> omega) (by simp <;> omega)) (fun k hk => set_other lr hk) (fun e => ?_))
  obtain ⟨e1, e2, e3⟩ := hE e
  rw [eD] at e1
  obtain ⟨x1, x2, x3⟩ := a3 rfl _ _ e1 (by omega) (by have := dc.2.1; omega)
  exact ⟨x1, x2, rfl, set_self lr, by rw [List.drop_zero]; exact x3⟩
