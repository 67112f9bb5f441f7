/-! The reference: steps taken, the whole. -/
set_option maxHeartbeats 4000000 in
theorem s67 {d M r c pt pl : Nat} {h : jm_H} {fl t B : List Int} {ts : List (List Int)} {E : Prop} (hs : shM h M) (cf : cF h M fl) (b8 : by8 fl) (G0 : GP h M 1 pl) (hpt : jm_I h (M + 24) r = jz (pt : Int)) (hpt' : pt ≤ 100000) (T0 : cT h M ts) (hr : r < 20) (hc : c < 20) (hrc : c ≠ r) (hE : E → DR fl pt (encD (delta (ts.getD c []) B) ++ t) ∧ B.length ≤ 12 ∧ lnv B) : jm_E dh_pr (d + 3) 67 [.inr (.inl M), .inl (jz (r : Int)), .inl (jz (c : Int))] h (fun o h' => MP h h' M r ts B E o) := by
  obtain ⟨A12, lA, -, -⟩ := cT_at T0 hc
  have lts := T0.1
  generalize hA : ts.getD c [] = A at *
  obtain ⟨va, vp1, vB⟩ := delta_app A B
  have oa := delta_ok A B
  have pre := fun k => pst_pre vB k
  have dc := delta_cnt (A := A) (B := B) A12
  have d12 : B.length ≤ 12 → okS (delta A B).1 12 := fun hB => delta_12 A12 hB
  generalize hacc : (delta A B).1 = acc at *
  generalize had : (delta A B).2 = ad at *
  have eD : encD (delta A B) = (acc.length : Int) :: acc.flatMap (encS ad) := by
    unfold encD; rw [hacc, had]
  have er : (r : Int).toNat = r := by omega
  have ec : (c : Int).toNat = c := by omega
  have ci : jzi (c : Int) 20 := ⟨by omega, by omega, by omega⟩
  have len12 : E → ∀ j, (pst A B (acc.take j)).2.length ≤ 12 := fun e j => by
    obtain ⟨t', ht'⟩ := pre j
    have h6 := (hE e).2.1
    rw [ht', List.length_append] at h6
    omega
  have SRC := @s67_src M r c A ts hc hrc hA
  have hB12 : E → B.length ≤ 12 := fun e => (hE e).2.1
  -- the steps
  have L31 : ∀ (m k : Nat) (h1 : jm_H) (ts1 : List (List Int)) (g : Int) (q : Nat) (v3 v4 v5 : Int) (l6 l7 l8 l9 : Option jm_V), (v4 - v5).toNat = m → v5 = k → (0 ≤ v4 ∧ v4 ≤ 24) → k ≤ 24 → (0 ≤ v3 ∧ v3 ≤ 30) → (g = 1 → v3 ≤ A.length) → jq M [35, 36] [M + 4, M + 5] h h1 → GP h1 M g q → q ≤ pt + 1 + 15 * k → cT h1 M ts1 → (∀ k, k ≠ r → ts1.getD k [] = ts.getD k []) → (E → g = 1 ∧ v4 = acc.length ∧ v3 = ((pst A B (acc.take k)).1 : Int) ∧ ts1.getD r [] = (pst A B (acc.take k)).2 ∧ DR fl q ((acc.drop k).flatMap (encS ad) ++ t)) → jm_W dh_pr (d + 2) 67 (31, [some (.inr (.inl M)), some (.inl (jz (r : Int))), some (.inl (jz (c : Int))), some (.inl (jz v3)), some (.inl (jz v4)), some (.inl (jz v5)), l6, l7, l8, l9], [], h1) (fun o h' => MP h h' M r ts B E o) := by
    intro m
    induction m with
    | zero =>
      intro k h1 ts1 g q v3 v4 v5 l6 l7 l8 l9 em e5 h4 hk h3 h3g p1 G1 hq T1 k1 hi
      refine r67_31 ⟨⟨by omega, by omega⟩, ⟨by omega, by omega⟩, fun _ => s67_e hs hr hc hrc hA A12 lA hB12 _ h1 ts1 g q v3 _ _ _ _ _ _ rfl h3.1 h3.2 p1 G1 (by omega) T1 k1 (fun e => ?_), fun w => absurd w (by omega)⟩
      obtain ⟨i1, i2, i3, i4, i5⟩ := hi e
      rw [List.take_of_length_le (by omega)] at i3 i4
      refine ⟨i1, by omega, ?_⟩
      rw [i4, i3, show (((pst A B acc).1 : Nat) : Int).toNat = (pst A B acc).1 by omega]
      exact vB
    | succ m ih =>
      intro k h1 ts1 g q v3 v4 v5 l6 l7 l8 l9 em e5 h4 hk h3 h3g p1 G1 hq T1 k1 hi
      have o1 : (v4 - (v5 + 1)).toNat = m := by omega
      have o2 : v5 + 1 = ((k + 1 : Nat) : Int) := by omega
      have o3 : k + 1 ≤ 24 := by omega
      have o4 : ∀ q5, q5 ≤ q + 15 → q5 ≤ pt + 1 + 15 * (k + 1) := fun q5 w => qK (C := 15) hq w
      have hs1 := hs.js p1.1
      have cf1 := cf.jq p1 (by simp <;> omega) (by decide) (by simp <;> omega)
      have gr : jR g := by rcases G1.2.1 with rfl | rfl <;> exact ⟨by decide, by decide⟩
      by_cases eg : g = 0
      · exact r67_31 ⟨⟨by omega, by omega⟩, ⟨by omega, by omega⟩, fun w => absurd w (by omega), fun _ => ⟨hs1.1, _, G1.1, gr, fun _ => s67_e hs hr hc hrc hA A12 lA hB12 _ h1 ts1 g q v3 _ _ _ _ _ _ rfl h3.1 h3.2 p1 G1 (by omega) T1 k1 (fun e => by have := (hi e).1; omega), fun x => absurd eg x⟩⟩
      have g1 : g = 1 := G1.2.1.resolve_left eg
      subst g1
      refine r67_31 ⟨⟨by omega, by omega⟩, ⟨by omega, by omega⟩, fun w => absurd w (by omega), fun _ => ⟨hs1.1, _, G1.1, gr, fun x => absurd x (by omega), fun _ => jm_callI (tkM hs1 cf1 b8 G1 (by omega) ⟨by omega, by omega⟩ ⟨by omega, by omega⟩) ?_⟩⟩
      rintro y1 h2 ⟨g2, p2, G2, a1, a2, a3⟩
      have hs2 := hs1.js p2.1
      have cf2 := cf1.jq p2 (by simp <;> omega) (by decide) (by simp <;> omega)
      refine r67_51 ⟨hs2.1, jm_callI (tkM hs2 cf2 b8 G2 (by omega) ⟨by omega, by omega⟩ ⟨by omega, by omega⟩) ?_⟩
      rintro y2 h3' ⟨g3, p3, G3, a4, a5, a6⟩
      have hs3 := hs2.js p3.1
      have cf3 := cf2.jq p3 (by simp <;> omega) (by decide) (by simp <;> omega)
      refine r67_60 ⟨hs3.1, jm_callI (tkM hs3 cf3 b8 G3 (by omega) ⟨by omega, by omega⟩ ⟨by omega, by omega⟩) ?_⟩
      rintro y3 h4' ⟨g4, p4, G4, a7, a8, a9⟩
      have yb : (0 ≤ y1 ∧ y1 ≤ 1) ∧ (0 ≤ y2 ∧ y2 ≤ 12) ∧ (0 ≤ y3 ∧ y3 ≤ 12) := by
        refine ⟨?_, ?_, ?_⟩
        · rcases G2.2.1 with e' | e'
          · have := a2 e'; omega
          · have := a1 e'; omega
        · rcases G3.2.1 with e' | e'
          · have := a5 e'; omega
          · have := a4 e'; omega
        · rcases G4.2.1 with e' | e'
          · have := a8 e'; omega
          · have := a7 e'; omega
      have P4' : jq M [35, 36] [] h1 h4' := (p2.trans p3).trans p4
      have P4 : jq M [35, 36] [M + 4, M + 5] h h4' := p1.trans (P4'.mono (by simp <;> omega) (by simp <;> omega))
      have hs4 := hs.js P4.1
      have T4 : cT h4' M ts1 := T1.jq P4' (by simp <;> omega) (by simp <;> omega)
      -- what the bytes tell
      have SE : E → g4 = 1 ∧ k < acc.length ∧ y1 = (acc.getD k s50).1 ∧ y2 = (acc.getD k s50).2.1 ∧ y3 = (acc.getD k s50).2.2.1 ∧ vst A B (pst A B (acc.take k)).1 (acc.getD k s50) ∧ DR fl (q + 1 + 1 + 1) ((if (acc.getD k s50).1 = 0 then [] else (B.drop (acc.getD k s50).2.2.2.2.toNat).take (acc.getD k s50).2.2.1.toNat) ++ ((acc.drop (k + 1)).flatMap (encS ad) ++ t)) := by
        intro e
        obtain ⟨i1, i2, i3, i4, i5⟩ := hi e
        have kk : k < acc.length := by omega
        have v := va k kk
        have o := d12 (hE e).2.1 _ (mem_gD kk)
        rw [dropS kk, List.flatMap_cons, encS_eq (A := A) (oa _ (mem_gD kk)) v.1 v.2.2.2.1] at i5
        by_cases c0 : (acc.getD k s50).1 = 0
        · rw [if_pos c0] at i5
          simp only [List.append_assoc, List.cons_append, List.nil_append] at i5
          obtain ⟨x1, x2, x3⟩ := a3 rfl _ _ i5 (by omega) (by omega)
          obtain ⟨x4, x5, x6⟩ := a6 x1 _ _ x3 (by omega) (by omega)
          obtain ⟨x7, x8, x9⟩ := a9 x4 _ _ x6 (by omega) (by omega)
          rw [if_pos c0]
          exact ⟨x7, kk, x2, x5, x8, v, x9⟩
        · have c1 : (acc.getD k s50).1 = 1 := v.1.resolve_left c0
          have v6 := v.2.2.2.2.2 c1
          have len : ((B.drop (acc.getD k s50).2.2.2.2.toNat).take (acc.getD k s50).2.2.1.toNat).length = (acc.getD k s50).2.2.1.toNat := by
            rw [List.length_take, List.length_drop]; omega
          rw [if_neg c0, encT, len] at i5
          simp only [List.append_assoc, List.cons_append] at i5
          obtain ⟨x1, x2, x3⟩ := a3 rfl _ _ i5 (by omega) (by omega)
          obtain ⟨x4, x5, x6⟩ := a6 x1 _ _ x3 (by omega) (by omega)
          obtain ⟨x7, x8, x9⟩ := a9 x4 _ _ x6 (by omega) (by omega)
          rw [if_neg c0]
          exact ⟨x7, kk, x2, x5, by omega, v, x9⟩
      have S1 : k < acc.length → pst A B (acc.take (k + 1)) = stp A B (pst A B (acc.take k)) (acc.getD k s50) := fun kk => by
        rw [take_snoc' (d := s50) kk, pst_snoc]
      -- the end of a step
      have END : ∀ (h5 : jm_H) (ts5 : List (List Int)) (g5 : Int) (q5 : Nat) (w3 : Int) (v9 : Int), (0 ≤ w3 ∧ w3 ≤ 30) → jq M [35, 36] [M + 4, M + 5] h h5 → GP h5 M g5 q5 → q5 ≤ q + 15 → cT h5 M ts5 → (∀ k, k ≠ r → ts5.getD k [] = ts.getD k []) → (E → g5 = 1 ∧ (y1 = 0 → w3 = y2 + y3 ∧ ts5.getD r [] = ((pst A B (acc.take k)).2 ++ (A.take (acc.getD k s50).2.1.toNat).drop (pst A B (acc.take k)).1)) ∧ (y1 = 1 → w3 = y2 ∧ ts5.getD r [] = ((pst A B (acc.take k)).2 ++ (A.take (acc.getD k s50).2.1.toNat).drop (pst A B (acc.take k)).1) ++ ((B.drop (acc.getD k s50).2.2.2.2.toNat).take (acc.getD k s50).2.2.1.toNat)) ∧ DR fl q5 ((acc.drop (k + 1)).flatMap (encS ad) ++ t)) → EE d M r c (fun o h' => MP h h' M r ts B E o) h5 g5 w3 v4 v5 y1 y2 y3 v9 := by
        intro h5 ts5 g5 q5 w3 v9 hw p5 G5 hq5 T5 k5 hi0
        have hi5 : E → g5 = 1 ∧ w3 = ((pst A B (acc.take (k + 1))).1 : Int) ∧ ts5.getD r [] = (pst A B (acc.take (k + 1))).2 ∧ DR fl q5 ((acc.drop (k + 1)).flatMap (encS ad) ++ t) := fun e => by
          obtain ⟨b1, b2, b3, b4⟩ := hi0 e
          obtain ⟨x1, kk, x2, x3, x4, v, -⟩ := SE e
          have v2 := v.2.1
          have v4' := v.2.2.2.1
          rw [S1 kk, stp]
          rcases v.1 with c0 | c1
          · obtain ⟨b5, b6⟩ := b2 (by omega)
            rw [if_pos c0]
            exact ⟨b1, by show w3 = ((((acc.getD k s50).2.1 + (acc.getD k s50).2.2.1).toNat : Nat) : Int); omega, b6, b4⟩
          · obtain ⟨b5, b6⟩ := b3 (by omega)
            rw [if_neg (by omega)]
            exact ⟨b1, by show w3 = (((acc.getD k s50).2.1.toNat : Nat) : Int); omega, b6, b4⟩
        have hs5 := hs.js p5.1
        obtain ⟨f4, g4', n4⟩ := hs5.f 5 4 20 (by decide)
        have go : ∀ y : Int, (y = 0 ∨ y = 1) → (y = 1 → w3 ≤ A.length) → (E → y = 1) → jm_W dh_pr (d + 2) 67 (31, [some (.inr (.inl M)), some (.inl (jz (r : Int))), some (.inl (jz (c : Int))), some (.inl (jz w3)), some (.inl (jz v4)), some (.inl (jz (v5 + 1))), some (.inl (jz y1)), some (.inl (jz y2)), some (.inl (jz y3)), some (.inl (jz v9))], [], jm_sI h5 M 36 (jz y)) (fun o h' => MP h h' M r ts B E o) := by
          intro y hy hy1 hyE
          refine ih (k + 1) (jm_sI h5 M 36 (jz y)) ts5 y q5 w3 v4 (v5 + 1) _ _ _ _ o1 o2 h4 o3 hw hy1 (p5.sM (by simp <;> omega)) ⟨jr_I_self, hy, by rw [jr_I_fld (by decide)]; exact G5.2.2⟩ (o4 q5 hq5) (T5.jq ((jq.refl M [36] [] h5).sM (by simp <;> omega)) (by simp <;> omega) (by simp <;> omega)) k5 (fun e => ?_)
          obtain ⟨b1, b2, b3, b4⟩ := hi5 e
          exact ⟨hyE e, (hi e).2.1, b2, b3, b4⟩
        have wE : E → w3 ≤ A.length := fun e => by
          obtain ⟨b1, b2, b3, b4⟩ := hi5 e
          obtain ⟨x1, kk, x2, x3, x4, v, -⟩ := SE e
          rw [b2, S1 kk, stp]
          split
          · rename_i c0
            show (((acc.getD k s50).2.1 + (acc.getD k s50).2.2.1).toNat : Int) ≤ _
            have := v.2.2.2.2.1 c0
            omega
          · show ((acc.getD k s50).2.1.toNat : Int) ≤ _
            have := v.2.2.1
            omega
        exact ⟨fun e0 => go 0 (Or.inl rfl) (fun x => absurd x (by omega)) (fun e => by have := (hi5 e).1; omega), fun e0 => ⟨_, f4, g4', _, n4, ci, _, (SRC T5 k5).1, ⟨by omega, by omega⟩, ⟨by omega, by omega⟩, fun w => go 0 (Or.inl rfl) (fun x => absurd x (by omega)) (fun e => by have := wE e; omega), fun w => go 1 (Or.inr rfl) (fun _ => w) (fun _ => rfl)⟩⟩
      have UL : E → ((pst A B (acc.take k)).2 ++ (A.take (acc.getD k s50).2.1.toNat).drop (pst A B (acc.take k)).1).length ≤ 12 := fun e => by
        obtain ⟨x1, kk, x2, x3, x4, v, x5⟩ := SE e
        have l12 := len12 e (k + 1)
        rw [S1 kk, stp] at l12
        split at l12
        · exact l12
        · have l3 : (((pst A B (acc.take k)).2 ++ (A.take (acc.getD k s50).2.1.toNat).drop (pst A B (acc.take k)).1) ++ ((B.drop (acc.getD k s50).2.2.2.2.toNat).take (acc.getD k s50).2.2.1.toNat)).length ≤ 12 := l12
          rw [List.length_append] at l3
          omega
      have SL : E → y1 = 1 → (((B.drop (acc.getD k s50).2.2.2.2.toNat).take (acc.getD k s50).2.2.1.toNat).length : Int) = y3 ∧ (∀ x ∈ ((B.drop (acc.getD k s50).2.2.2.2.toNat).take (acc.getD k s50).2.2.1.toNat), 1 ≤ x ∧ x ≤ 99) ∧ ((pst A B (acc.take k)).2 ++ (A.take (acc.getD k s50).2.1.toNat).drop (pst A B (acc.take k)).1).length + ((B.drop (acc.getD k s50).2.2.2.2.toNat).take (acc.getD k s50).2.2.1.toNat).length ≤ 12 := fun e y0 => by
        obtain ⟨x1, kk, x2, x3, x4, v, -⟩ := SE e
        have v4' := v.2.2.2.1
        have v6 := v.2.2.2.2.2 (by omega)
        have ln : ((B.drop (acc.getD k s50).2.2.2.2.toNat).take (acc.getD k s50).2.2.1.toNat).length = (acc.getD k s50).2.2.1.toNat := by
          rw [List.length_take, List.length_drop]; omega
        have l12 := len12 e (k + 1)
        rw [S1 kk, stp, if_neg (by omega)] at l12
        have l12' : (((pst A B (acc.take k)).2 ++ (A.take (acc.getD k s50).2.1.toNat).drop (pst A B (acc.take k)).1) ++ ((B.drop (acc.getD k s50).2.2.2.2.toNat).take (acc.getD k s50).2.2.1.toNat)).length ≤ 12 := l12
        rw [List.length_append] at l12'
        exact ⟨by rw [ln]; omega, fun x hx => (hE e).2.2 x (List.mem_of_mem_drop (List.mem_of_mem_take hx)), l12'⟩
      have L142 := s67_l (d := d) (c := c) (v4 := v4) (v5 := v5) (q := q) (T := ((acc.drop (k + 1)).flatMap (encS ad) ++ t)) hs cf b8 hr (by omega) yb.1 yb.2.2 SL END
      have L104 := s67_m (d := d) (v4 := v4) (v5 := v5) (y1 := y1) (y3 := y3) (q := q) (U := ((pst A B (acc.take k)).2 ++ (A.take (acc.getD k s50).2.1.toNat).drop (pst A B (acc.take k)).1)) (E := E) (Q := (fun o h' => MP h h' M r ts B E o)) hs hr hc hrc hA A12 lA yb.2.1 UL (fun h5 ts5 g5 w3 hw p5 G5 T5 k5 hi5 => L142 (y3 - 0).toNat 0 h5 ts5 g5 (q + 1 + 1 + 1) w3 0 rfl rfl (by omega) ⟨by omega, by omega⟩ p5 G5 (by omega) T5 k5 (fun e => by
        obtain ⟨b1, b2, b3⟩ := hi5 e
        obtain ⟨x1, kk, x2, x3, x4, v, x5⟩ := SE e
        refine ⟨b1, b2, fun c0 => ⟨b3, ?_⟩, fun c1 => ⟨?_, ?_⟩⟩
        · rw [if_pos (by omega), List.nil_append] at x5; exact x5
        · rw [List.take_zero, List.append_nil]; exact b3
        · rw [if_neg (by omega)] at x5
          rw [List.drop_zero]; exact x5))
      have go69 : ∀ y : Int, (y = 0 ∨ y = 1) → (y = 1 → v3 ≤ y2 ∧ y2 ≤ A.length) → (E → y = 1) → jm_W dh_pr (d + 2) 67 (104, [some (.inr (.inl M)), some (.inl (jz (r : Int))), some (.inl (jz (c : Int))), some (.inl (jz v3)), some (.inl (jz v4)), some (.inl (jz v5)), some (.inl (jz y1)), some (.inl (jz y2)), some (.inl (jz y3)), l9], [], jm_sI h4' M 36 (jz y)) (fun o h' => MP h h' M r ts B E o) := by
        intro y hy hy1 hyE
        refine L104 _ _ ts1 y v3 _ rfl ⟨h3.1, by have := h3g rfl; omega⟩ hy1 (P4.sM (by simp <;> omega)) ⟨jr_I_self, hy, by rw [jr_I_fld (by decide)]; exact G4.2.2⟩ (T4.jq ((jq.refl M [36] [] h4').sM (by simp <;> omega)) (by simp <;> omega) (by simp <;> omega)) k1 (fun e => ?_)
        obtain ⟨i1, i2, i3, i4, i5⟩ := hi e
        obtain ⟨x1, kk, x2, x3, x4, v, x5⟩ := SE e
        refine ⟨hyE e, ?_⟩
        rw [i4, i3, x3, show (((pst A B (acc.take k)).1 : Nat) : Int).toNat = (pst A B (acc.take k)).1 by omega]
      obtain ⟨f4, g4', n4⟩ := hs4.f 5 4 20 (by decide)
      have gr4 : jR g4 := by rcases G4.2.1 with rfl | rfl <;> exact ⟨by decide, by decide⟩
      refine r67_69 ⟨hs4.1, _, G4.1, gr4, fun ge => go69 0 (Or.inl rfl) (fun x => absurd x (by omega)) (fun e => by have := (SE e).1; omega), fun ge => ⟨⟨by omega, by omega⟩, ⟨by omega, by omega⟩, fun w => go69 0 (Or.inl rfl) (fun x => absurd x (by omega)) (fun e => ?_), fun w => ⟨_, f4, g4', _, n4, ci, _, (SRC T4 k1).1, ⟨by omega, by omega⟩, fun w2 => go69 0 (Or.inl rfl) (fun x => absurd x (by omega)) (fun e => ?_), fun w2 => go69 1 (Or.inr rfl) (fun _ => ⟨w, w2⟩) (fun _ => rfl)⟩⟩⟩
      · obtain ⟨i1, i2, i3, i4, i5⟩ := hi e
        obtain ⟨x1, kk, x2, x3, x4, v, x5⟩ := SE e
        have := v.2.1
        omega
      · obtain ⟨x1, kk, x2, x3, x4, v, x5⟩ := SE e
        have := v.2.2.1
        omega
  obtain ⟨f24, g24, n24⟩ := hs.f 34 24 20 (by decide)
  obtain ⟨f4, g4, n4⟩ := hs.f 5 4 20 (by decide)
  have ri : jzi (r : Int) 20 := ⟨by omega, by omega, by omega⟩
  have p1 : jq M [35, 36] [M + 4, M + 5] h (jm_sI (jm_sI h M 35 (jz (pt : Int))) (M + 4) (r : Int).toNat (jz 0)) := ((jq.refl _ _ _ h).sM (by simp <;> omega)).sI (by simp <;> omega)
  have hs1 := hs.js p1.1
  have cf1 := cf.jq p1 (by simp <;> omega) (by decide) (by simp <;> omega)
  have G1 : GP (jm_sI (jm_sI h M 35 (jz (pt : Int))) (M + 4) (r : Int).toNat (jz 0)) M 1 pt := ⟨by rw [off1 (by omega), jr_I_fld (by decide)]; exact G0.1, Or.inr rfl, by rw [off1 (by omega)]; exact jr_I_self⟩
  have T1 : cT (jm_sI (jm_sI h M 35 (jz (pt : Int))) (M + 4) (r : Int).toNat (jz 0)) M (ts.set r []) := by
    refine cT_set T0 hr p1 (Nat.zero_le _) (fun v hv => by cases hv) (fun i hi => ?_) ?_ (fun j hj i hi => ?_) (fun i hi => absurd hi (Nat.not_lt_zero i))
    · rw [er, jr_I_fld hi, off1 (by omega)]
    · rw [er, jr_I_self]; rfl
    · rw [off1 (by omega), off1 (by omega)]
  have lr : r < ts.length := by omega
  refine e67 (r67_0 ⟨hs.1, _, f24, g24, _, n24, ri, _, by rw [er]; exact hpt, _, f4, g4, _, n4, ri, jm_callI (tkM hs1 cf1 b8 G1 (by omega) ⟨by omega, by omega⟩ ⟨by omega, by omega⟩) ?_⟩)
  rintro z h2 ⟨g2, p2, G2, a1, a2, a3⟩
  have zb : 0 ≤ z ∧ z ≤ 24 := by
    rcases G2.2.1 with e' | e'
    · have := a2 e'; omega
    · have := a1 e'; omega
  refine r67_26 (L31 (z - 0).toNat 0 h2 (ts.set r []) g2 (pt + 1) 0 z 0 _ _ _ _ rfl rfl zb (by omega) ⟨by omega, by omega⟩ (fun _ => by omega) (p1.trans (p2.mono (by simp <;> omega) (by simp <;> omega))) G2 (by omega) (T1.jq p2 (by simp <;> omega) (by simp <;> omega)) (fun k hk => set_other lr hk) (fun e => ?_))
  obtain ⟨e1, e2, e3⟩ := hE e
  rw [eD] at e1
  obtain ⟨x1, x2, x3⟩ := a3 rfl _ _ e1 (by omega) (by have := dc.2.1; omega)
  exact ⟨x1, x2, rfl, set_self lr, by rw [List.drop_zero]; exact x3⟩
