/-! The reference: is it written so; adding a line; the places of the bodies. -/
theorem s69 {d M : Nat} {h : jm_H} {fl : List Int} {rs : List Rv} (hs : shM h M) (cf : cF h M fl) (b8 : by8 fl) (V : cV h M rs) (ok : okH rs) : jm_E dh_pr (d + 4) 69 [.inr (.inl M)] h (fun o h' => ∃ z : Int, o = .inl (some (.inl (jz z))) ∧ jq M mK (mS M) h h' ∧ ((z = 1 ∧ EN rs = fl) ∨ (z = 0 ∧ ¬ EN rs = fl))) := by
  have e24 := EN_2400 ok
  have rE := by8_rng (EN_by8 ok)
  have rF := by8_rng b8
  have l4 := cf.2.1
  refine e69 (r69_0 ⟨hs.1, jm_callV (s48 hs V ok.1 ok.2.1 (fun k hk => lnv_rng (ok.2.2 k hk).2.2.2)) ?_⟩)
  rintro h1 ⟨p1, D⟩
  replace D : cdr h1 M (EN rs) := D
  have hs1 := hs.js p1.1
  have cf1 := cf.jq p1 (by simp [mS]) (by decide) (by simp [mS])
  obtain ⟨f23, g23, n23⟩ := hs1.f 33 23 2400 (by decide)
  obtain ⟨f9, g9, n9⟩ := hs1.f 12 9 400 (by decide)
  have no : ∀ v2 : Int, 0 ≤ v2 → v2 ≤ 3000 → ¬ EN rs = fl → jm_W dh_pr (d + 3) 69 (23, [some (.inr (.inl M)), some (.inl (jz 0)), some (.inl (jz v2))], [], h1) (fun o h' => ∃ z : Int, o = .inl (some (.inl (jz z))) ∧ jq M mK (mS M) h h' ∧ ((z = 1 ∧ EN rs = fl) ∨ (z = 0 ∧ ¬ EN rs = fl))) := fun v2 h2 h3 ne =>
    r69_23 ⟨hs1.1, _, D.1, ⟨by omega, by omega⟩, ⟨by omega, by omega⟩, fun _ => ⟨Or.inl rfl, 0, rfl, p1, Or.inr ⟨rfl, ne⟩⟩, fun _ => ⟨⟨by omega, by omega⟩, fun _ => ⟨Or.inl rfl, 0, rfl, p1, Or.inr ⟨rfl, ne⟩⟩, fun x => absurd rfl x⟩⟩
  have L : (EN rs).length = fl.length → ∀ (m j : Nat) (v2 : Int), j + m = (EN rs).length → v2 = j → (∀ i, i < j → (EN rs).getD i 0 = fl.getD i 0) → jm_W dh_pr (d + 3) 69 (23, [some (.inr (.inl M)), some (.inl (jz 1)), some (.inl (jz v2))], [], h1) (fun o h' => ∃ z : Int, o = .inl (some (.inl (jz z))) ∧ jq M mK (mS M) h h' ∧ ((z = 1 ∧ EN rs = fl) ∨ (z = 0 ∧ ¬ EN rs = fl))) := by
    intro el m
    induction m with
    | zero =>
      intro j v2 e e2 hi
      exact r69_23 ⟨hs1.1, _, D.1, ⟨by omega, by omega⟩, ⟨by omega, by omega⟩, fun _ => ⟨Or.inr rfl, 1, rfl, p1, Or.inl ⟨rfl, getD_ext el (fun i h => hi i (by omega))⟩⟩, fun w => absurd w (by omega)⟩
    | succ m ih =>
      intro j v2 e e2 hi
      have ev : v2.toNat = j := by omega
      refine r69_23 ⟨hs1.1, _, D.1, ⟨by omega, by omega⟩, ⟨by omega, by omega⟩, fun w => absurd w (by omega), fun _ => ⟨⟨by omega, by omega⟩, fun x => absurd x (by omega), fun _ => ⟨_, f23, g23, _, n23, ⟨by omega, by omega, by omega⟩, (EN rs).getD j 0, by rw [ev]; exact D.2 j (by omega), _, f9, g9, _, n9, ⟨by omega, by omega, by omega⟩, fl.getD j 0, by rw [ev]; exact cf1.2.2 j (by omega), rE.at _, rF.at _, fun q => no _ (by omega) (by omega) (fun x => q (by rw [x])), fun q => ih (j + 1) _ (by omega) (by omega) (fun i hi' => ?_)⟩⟩⟩
      by_cases ei : i = j
      · rw [ei]; exact q
      · exact hi i (by omega)
  exact r69_4 ⟨hs1.1, _, D.1, _, cf1.1, ⟨by omega, by omega⟩, ⟨by omega, by omega⟩, fun q => no 0 (by omega) (by omega) (fun x => q (by rw [x])), fun q => L (by omega) (EN rs).length 0 0 (by omega) (by omega) (fun i hi => absurd hi (Nat.not_lt_zero i))⟩
theorem cT_at {h : jm_H} {M k : Nat} {ts : List (List Int)} (c : cT h M ts) (hk : k < 20) : (ts.getD k []).length ≤ 12 ∧ lnv (ts.getD k []) ∧ jm_I h (M + 4) k = jz ((ts.getD k []).length : Int) ∧ ∀ i, i < (ts.getD k []).length → jm_I h (M + 5) (12 * k + i) = jz ((ts.getD k []).getD i 0) := by
  obtain ⟨c1, c2, c3, c4⟩ := c
  have hk' : k < ts.length := by omega
  have w := c3 k hk'
  refine ⟨w.1, c4 _ ?_, ?_, w.2⟩
  · rw [List.getD_eq_getElem?_getD, List.getElem?_eq_getElem hk']; exact List.getElem_mem hk'
  · rw [c2 k (by rw [List.length_map]; exact hk'), gD_mp (a := []) hk']
theorem cT_set {h h' : jm_H} {M k : Nat} {ts : List (List Int)} {t : List Int} {ks : List Nat} (c : cT h M ts) (hk : k < 20) (p : jq M ks [M + 4, M + 5] h h') (l12 : t.length ≤ 12) (lt : lnv t) (e1 : ∀ i, i ≠ k → jm_I h' (M + 4) i = jm_I h (M + 4) i) (e2 : jm_I h' (M + 4) k = jz (t.length : Int)) (e3 : ∀ j, j ≠ k → ∀ i, i < 12 → jm_I h' (M + 5) (12 * j + i) = jm_I h (M + 5) (12 * j + i)) (e4 : ∀ i, i < t.length → jm_I h' (M + 5) (12 * k + i) = jz (t.getD i 0)) : cT h' M (ts.set k t) := by
  obtain ⟨c1, c2, c3, c4⟩ := c
  have hk' : k < ts.length := by omega
  refine ⟨by rw [List.length_set]; exact c1, fun i hi => ?_, fun j hj => ?_, fun x hx => ?_⟩
  · rw [List.length_map, List.length_set] at hi
    rw [List.map_set, gD_set (by rw [List.length_map]; exact hk')]
    by_cases ei : i = k
    · rw [if_pos ei, ei]; exact e2
    · rw [if_neg ei, e1 i ei]; exact c2 i (by rw [List.length_map]; exact hi)
  · rw [List.length_set] at hj
    rw [gD_set hk']
    by_cases ej : j = k
    · rw [if_pos ej, ej]; exact ⟨l12, e4⟩
    · rw [if_neg ej]
      have w := c3 j hj
      exact ⟨w.1, fun i hi => (e3 j ej i (by omega)).trans (w.2 i hi)⟩
  · rcases List.mem_or_eq_of_mem_set hx with hx | rfl
    · exact c4 x hx
    · exact lt
theorem s66 {d M r pl : Nat} {h : jm_H} {ts : List (List Int)} {g v : Int} (hs : shM h M) (G : GP h M g pl) (T : cT h M ts) (hr : r < 20) (hv : g = 1 → 1 ≤ v ∧ v ≤ 99) : jm_E dh_pr (d + 1) 66 [.inr (.inl M), .inl (jz (r : Int)), .inl (jz v)] h (fun o h' => o = .inl none ∧ jq M [36] [M + 4, M + 5] h h' ∧ ∃ g' : Int, GP h' M g' pl ∧ ((g' = 1 ∧ g = 1 ∧ (ts.getD r []).length < 12 ∧ cT h' M (ts.set r (ts.getD r [] ++ [v]))) ∨ (g' = 0 ∧ (g = 1 → ¬ (ts.getD r []).length < 12) ∧ cT h' M ts))) := by
  obtain ⟨f4, g4, n4⟩ := hs.f 5 4 20 (by decide)
  obtain ⟨f5, g5, n5⟩ := hs.f 6 5 240 (by decide)
  obtain ⟨t1, t2, t3, t4⟩ := cT_at T hr
  have er : (r : Int).toNat = r := by omega
  have ri : jzi (r : Int) 20 := ⟨by omega, by omega, by omega⟩
  have p0 : jq M [36] [M + 4, M + 5] h (jm_sI h M 36 (jz 0)) := (jq.refl _ _ _ h).sM (by simp <;> omega)
  have G0 : GP (jm_sI h M 36 (jz 0)) M 0 pl := ⟨jr_I_self, Or.inl rfl, by rw [jr_I_fld (by decide)]; exact G.2.2⟩
  have T0 : cT (jm_sI h M 36 (jz 0)) M ts := T.jq ((jq.refl M [36] [] h).sM (by simp <;> omega)) (by simp <;> omega) (by simp <;> omega)
  refine e66 (r66_0 ⟨hs.1, _, G.1, by rcases G.2.1 with rfl | rfl <;> exact ⟨by decide, by decide⟩, fun q => ⟨fun _ => ⟨rfl, p0, 0, G0, Or.inr ⟨rfl, fun x => by omega, T0⟩⟩, fun x => absurd rfl x⟩, fun q => ⟨_, f4, g4, _, n4, ri, ((ts.getD r []).length : Int), by rw [er]; exact t3, ⟨by omega, by omega⟩, fun q1 => ⟨fun _ => ⟨rfl, p0, 0, G0, Or.inr ⟨rfl, fun _ => by omega, T0⟩⟩, fun x => absurd rfl x⟩, fun q1 => ⟨fun x => absurd x (by omega), fun _ => ⟨_, f5, g5, _, n5, ⟨by omega, by omega, by omega⟩, ((ts.getD r []).length : Int), ?_, ?_⟩⟩⟩⟩)
  · rw [off1 (by omega), off1 (by omega), er]; exact t3
  · have g1 : g = 1 := by rcases G.2.1 with e | e; exact absurd e q; exact e
    have i1 : (12 * (r : Int) + ((ts.getD r []).length : Int)).toNat = 12 * r + (ts.getD r []).length := by omega
    rw [i1, er]
    have p : jq M [36] [M + 4, M + 5] h (jm_sI (jm_sI (jm_sI h M 36 (jz 1)) (M + 5) (12 * r + (ts.getD r []).length) (jz v)) (M + 4) r (jz (((ts.getD r []).length : Int) + 1))) := (((jq.refl _ _ _ h).sM (by simp <;> omega)).sI (by simp <;> omega)).sI (by simp <;> omega)
    have el : (ts.getD r [] ++ [v]).length = (ts.getD r []).length + 1 := by rw [List.length_append, List.length_singleton]
    refine ⟨rfl, p, 1, ⟨?_, Or.inr rfl, ?_⟩, Or.inl ⟨rfl, g1, by omega, cT_set T hr p (by rw [el]; omega) ?_ (fun i hi => ?_) ?_ (fun j hj i hi => ?_) (fun i hi => ?_)⟩⟩
    · rw [off1 (by omega), off1 (by omega)]; exact jr_I_self
    · rw [off1 (by omega), off1 (by omega), jr_I_fld (by decide)]; exact G.2.2
    · intro x hx
      rcases List.mem_append.mp hx with hx | hx
      · exact t2 x hx
      · have : x = v := by simpa using hx
        rw [this]; exact hv g1
    · rw [jr_I_fld hi, off1 (by omega), off1 (by omega)]
    · rw [jr_I_self, el]; rfl
    · rw [off1 (by omega), jr_I_sI, if_neg (by omega), off1 (by omega)]
    · rw [el] at hi
      rw [off1 (by omega), jr_I_sI]
      by_cases ei : i = (ts.getD r []).length
      · rw [if_pos ⟨rfl, by omega⟩, ei, getD_app_r (Nat.le_refl _), Nat.sub_self]; rfl
      · rw [if_neg (by omega), off1 (by omega), getD_app_l (by omega)]; exact t4 i (by omega)
/-- passing bytes that must be lines -/
theorem DRl {fl ls t : List Int} {q k : Nat} (h : DR fl q (ls.drop k ++ t)) (hk : k < ls.length) : DR fl q (ls.getD k 0 :: (ls.drop (k + 1) ++ t)) := by
  rw [drop_cons hk] at h
  exact h
theorem s65_a {d M q k : Nat} {h2 : jm_H} {fl : List Int} {E : Prop} {Q : jm_Q} {z1 : Int} (hs2 : shM h2 M) (cf2 : cF h2 M fl) (b8 : by8 fl) (hq8 : q ≤ 8100) : ∀ (m' j qa : Nat) (ga : Int) (ha : jm_H) (v3 v4 v6 v7 : Int) (l5 l8 : Option jm_V) (ls ta : List Int), (v6 - v7).toNat = m' → v7 = j → v6 ≤ 12 → 0 ≤ v6 → (0 ≤ v3 ∧ v3 ≤ 24) → (0 ≤ v4 ∧ v4 ≤ 1) → jq M [35, 36] [] h2 ha → GP ha M ga qa → j ≤ 12 → qa ≤ q + 4 + 15 * v3.toNat + j → (E → ga = 1 ∧ (v4 = 1 → v6 = ls.length ∧ (∀ i, i < ls.length → 1 ≤ ls.getD i 0 ∧ ls.getD i 0 ≤ 99) ∧ DR fl qa (ls.drop j ++ ta)) ∧ (v4 ≠ 1 → DR fl qa ta)) → (∀ (gb : Int) (hb' : jm_H) (qb : Nat) (v7' : Int) (l8 : Option jm_V), jq M [35, 36] [] h2 hb' → GP hb' M gb qb → qb ≤ q + 4 + 15 * v3.toNat + 12 → (E → gb = 1 ∧ DR fl qb ta) → jm_W dh_pr (d + 3) 65 (78, [some (.inr (.inl M)), some (.inl (jz (k : Int))), some (.inl (jz z1)), some (.inl (jz (v3 + 1))), some (.inl (jz v4)), l5, some (.inl (jz v6)), some (.inl (jz v7')), l8], [], hb') Q) → jm_W dh_pr (d + 3) 65 (119, [some (.inr (.inl M)), some (.inl (jz (k : Int))), some (.inl (jz z1)), some (.inl (jz v3)), some (.inl (jz v4)), l5, some (.inl (jz v6)), some (.inl (jz v7)), l8], [], ha) Q := by
  intro m'
  induction m' with
  | zero =>
    intro j qa ga ha v3 v4 v6 v7 l5 l8 ls ta em e7 h6 h6' h3 h4 pa Ga hqa hqa' hia KK
    refine r65_119 ⟨⟨by omega, by omega⟩, ⟨by omega, by omega⟩, fun _ => KK ga ha qa v7 l8 pa Ga (by omega) (fun e5 => ?_), fun w => absurd w (by omega)⟩
    obtain ⟨b1, b2, b3⟩ := hia e5
    refine ⟨b1, ?_⟩
    by_cases c : v4 = 1
    · obtain ⟨c1, c2, c3⟩ := b2 c
      rw [List.drop_eq_nil_of_le (by omega)] at c3
      exact c3
    · exact b3 c
  | succ m' ih' =>
    intro j qa ga ha v3 v4 v6 v7 l5 l8 ls ta em e7 h6 h6' h3 h4 pa Ga hqa hqa' hia KK
    have hsa := hs2.js pa.1
    have cfa := cf2.jq pa (by simp <;> omega) (by decide) (by simp <;> omega)
    refine r65_119 ⟨⟨by omega, by omega⟩, ⟨by omega, by omega⟩, fun w => absurd w (by omega), fun _ => ⟨⟨by omega, by omega⟩, fun c => KK ga ha qa v7 l8 pa Ga (by omega) (fun e5 => ⟨(hia e5).1, (hia e5).2.2 c⟩), fun c => ⟨hsa.1, jm_callI (tkM hsa cfa b8 Ga (by omega) ⟨by omega, by omega⟩ ⟨by omega, by omega⟩) ?_⟩⟩⟩
    rintro z5 h5 ⟨g5, p5, G5, c1, c2, c3⟩
    refine r65_139 (ih' (j + 1) (qa + 1) g5 h5 v3 v4 v6 _ l5 _ ls ta (by omega) (by omega) h6 h6' h3 h4 (pa.trans p5) G5 (by omega) (by omega) (fun e5 => ?_) KK)
    obtain ⟨b1, b2, b3⟩ := hia e5
    obtain ⟨d1, d2, d3⟩ := b2 c
    have jl : j < ls.length := by omega
    have lj := d2 j jl
    obtain ⟨x1, x2, x3⟩ := c3 b1 _ _ (DRl d3 jl) lj.1 lj.2
    exact ⟨x1, fun _ => ⟨d1, d2, x3⟩, fun x => absurd c x⟩
theorem s65_b {d M q k : Nat} {h2 : jm_H} {fl : List Int} {E : Prop} {Q : jm_Q} {z1 : Int} {acc : List S5} {ad T : List Int} (hs2 : shM h2 M) (cf2 : cF h2 M fl) (b8 : by8 fl) (hq8 : q ≤ 8100) (zb : 0 ≤ z1 ∧ z1 ≤ 24) (hacc : E → okS acc 12 ∧ acc.length ≤ 24 ∧ (∀ s ∈ acc, s.1 = 1 → ∀ n : Nat, (n : Int) < s.2.2.1 → 1 ≤ addL s ad n ∧ addL s ad n ≤ 99)) (S0 : E → z1 = acc.length) (K : ∀ (g' : Int) (h3 : jm_H) (q3 : Nat) (l2 l3 l4 l5 l6 l7 l8 : Option jm_V), jq M [35, 36] [] h2 h3 → GP h3 M g' q3 → q3 ≤ q + 400 → (E → g' = 1 ∧ DR fl q3 T) → jm_W dh_pr (d + 3) 65 (2, [some (.inr (.inl M)), some (.inl (jz ((k : Int) + 1))), l2, l3, l4, l5, l6, l7, l8], [], h3) Q) : ∀ (m' i qa : Nat) (ga : Int) (ha : jm_H) (v3 : Int) (l4 l5 l6 l7 l8 : Option jm_V), (z1 - v3).toNat = m' → v3 = i → i ≤ 24 → jq M [35, 36] [] h2 ha → GP ha M ga qa → qa ≤ q + 1 + 15 * i → (E → ga = 1 ∧ DR fl qa ((acc.drop i).flatMap (encS ad) ++ T)) → jm_W dh_pr (d + 3) 65 (78, [some (.inr (.inl M)), some (.inl (jz (k : Int))), some (.inl (jz z1)), some (.inl (jz v3)), l4, l5, l6, l7, l8], [], ha) Q := by
  intro m'
  induction m' with
  | zero =>
    intro i qa ga ha v3 l4 l5 l6 l7 l8 em e3 hi24 pa Ga hqa hia
    refine r65_78 ⟨⟨by omega, by omega⟩, ⟨by omega, by omega⟩, fun _ => K ga ha qa _ _ _ _ _ _ _ pa Ga (by omega) (fun e5 => ?_), fun w => absurd w (by omega)⟩
    obtain ⟨b1, b2⟩ := hia e5
    have s2 := S0 e5
    rw [List.drop_eq_nil_of_le (by omega)] at b2
    exact ⟨b1, b2⟩
  | succ m' ih' =>
    intro i qa ga ha v3 l4 l5 l6 l7 l8 em e3 hi24 pa Ga hqa hia
    have hsa := hs2.js pa.1
    have cfa := cf2.jq pa (by simp <;> omega) (by decide) (by simp <;> omega)
    refine r65_78 ⟨⟨by omega, by omega⟩, ⟨by omega, by omega⟩, fun w => absurd w (by omega), fun _ => ⟨hsa.1, _, Ga.1, by rcases Ga.2.1 with rfl | rfl <;> exact ⟨by decide, by decide⟩, fun c => K ga ha qa _ _ _ _ _ _ _ pa Ga (by omega) (fun e5 => by have := (hia e5).1; omega), fun c => jm_callI (tkM hsa cfa b8 Ga (by omega) ⟨by omega, by omega⟩ ⟨by omega, by omega⟩) ?_⟩⟩
    rintro y1 h4 ⟨g4, p4, G4, c1, c2, c3⟩
    have hs4 := hsa.js p4.1
    have cf4 := cfa.jq p4 (by simp <;> omega) (by decide) (by simp <;> omega)
    refine r65_96 ⟨hs4.1, jm_callI (tkM hs4 cf4 b8 G4 (by omega) ⟨by omega, by omega⟩ ⟨by omega, by omega⟩) ?_⟩
    rintro y2 h5 ⟨g5, p5, G5, c4, c5, c6⟩
    have hs5 := hs4.js p5.1
    have cf5 := cf4.jq p5 (by simp <;> omega) (by decide) (by simp <;> omega)
    refine r65_105 ⟨hs5.1, jm_callI (tkM hs5 cf5 b8 G5 (by omega) ⟨by omega, by omega⟩ ⟨by omega, by omega⟩) ?_⟩
    rintro y3 h6 ⟨g6, p6, G6, c7, c8, c9⟩
    have yb : (0 ≤ y1 ∧ y1 ≤ 1) ∧ (0 ≤ y3 ∧ y3 ≤ 12) := by
      refine ⟨?_, ?_⟩
      · rcases G4.2.1 with e' | e'
        · have := c2 e'; omega
        · have := c1 e'; omega
      · rcases G6.2.1 with e' | e'
        · have := c8 e'; omega
        · have := c7 e'; omega
    have SE : E → g6 = 1 ∧ i < acc.length ∧ y1 = (acc.getD i s50).1 ∧ y3 = (acc.getD i s50).2.2.1 ∧ DR fl (qa + 1 + 1 + 1) ((if (acc.getD i s50).1 = 1 then (List.range (acc.getD i s50).2.2.1.toNat).map (fun n : Nat => addL (acc.getD i s50) ad n) else []) ++ ((acc.drop (i + 1)).flatMap (encS ad) ++ T)) := by
      intro e5
      obtain ⟨b1, b2⟩ := hia e5
      have s2 := S0 e5
      obtain ⟨t2, t3, t4⟩ := hacc e5
      have il : i < acc.length := by omega
      have o := t2 _ (mem_gD il)
      rw [dropS il, List.flatMap_cons, encS] at b2
      simp only [List.append_assoc, List.cons_append, List.nil_append] at b2
      obtain ⟨x1, x2, x3⟩ := c3 b1 _ _ b2 (by omega) (by omega)
      obtain ⟨x4, x5, x6⟩ := c6 x1 _ _ x3 (by omega) (by omega)
      obtain ⟨x7, x8, x9⟩ := c9 x4 _ _ x6 (by omega) (by omega)
      exact ⟨x7, il, x2, x8, x9⟩
    refine r65_114 (s65_a (q := q) hs2 cf2 b8 hq8 (y3 - 0).toNat 0 (qa + 1 + 1 + 1) g6 h6 v3 y1 y3 0 _ _ ((List.range (acc.getD i s50).2.2.1.toNat).map (fun n : Nat => addL (acc.getD i s50) ad n)) ((acc.drop (i + 1)).flatMap (encS ad) ++ T) rfl rfl yb.2.2 yb.2.1 ⟨by omega, by omega⟩ yb.1 (((pa.trans p4).trans p5).trans p6) G6 (by omega) (by omega) (fun e5 => ?_) (fun gb hb' qb v7' l8 pb Gb hqb hib => ih' (i + 1) qb gb hb' (v3 + 1) _ _ _ _ _ (by omega) (by omega) (by omega) pb Gb (by omega) hib))
    obtain ⟨x1, il, x2, x3, x4⟩ := SE e5
    obtain ⟨t2, t3, t4⟩ := hacc e5
    have o := t2 _ (mem_gD il)
    refine ⟨x1, fun c => ?_, fun c => ?_⟩
    · rw [if_pos (by omega)] at x4
      have ln : ((List.range (acc.getD i s50).2.2.1.toNat).map (fun n : Nat => addL (acc.getD i s50) ad n)).length = (acc.getD i s50).2.2.1.toNat := by rw [List.length_map, List.length_range]
      refine ⟨by rw [ln]; omega, fun j hj => ?_, by rw [List.drop_zero]; exact x4⟩
      rw [ln] at hj
      rw [gD_mp (a := 0) (by rw [List.length_range]; exact hj)]
      have : (List.range (acc.getD i s50).2.2.1.toNat).getD j 0 = j := by
        rw [List.getD_eq_getElem?_getD, List.getElem?_range hj]; rfl
      rw [this]
      exact t4 _ (mem_gD il) (by omega) j (by omega)
    · rw [if_neg (by omega), List.nil_append] at x4
      exact x4
theorem s65_c {d M q k : Nat} {h2 : jm_H} {fl : List Int} {E : Prop} {Q : jm_Q} {z1 : Int} {ls T : List Int} (hs2 : shM h2 M) (cf2 : cF h2 M fl) (b8 : by8 fl) (hq8 : q ≤ 8100) (zb : 0 ≤ z1 ∧ z1 ≤ 12) (S0 : E → z1 = ls.length ∧ lnv ls) (K : ∀ (g' : Int) (h3 : jm_H) (q3 : Nat) (l2 l3 l4 l5 l6 l7 l8 : Option jm_V), jq M [35, 36] [] h2 h3 → GP h3 M g' q3 → q3 ≤ q + 400 → (E → g' = 1 ∧ DR fl q3 T) → jm_W dh_pr (d + 3) 65 (2, [some (.inr (.inl M)), some (.inl (jz ((k : Int) + 1))), l2, l3, l4, l5, l6, l7, l8], [], h3) Q) : ∀ (m' j qa : Nat) (ga : Int) (ha : jm_H) (v3 : Int) (l4 l5 l6 l7 l8 : Option jm_V), (z1 - v3).toNat = m' → v3 = j → j ≤ 12 → jq M [35, 36] [] h2 ha → GP ha M ga qa → qa ≤ q + 1 + j → (E → ga = 1 ∧ DR fl qa (ls.drop j ++ T)) → jm_W dh_pr (d + 3) 65 (45, [some (.inr (.inl M)), some (.inl (jz (k : Int))), some (.inl (jz z1)), some (.inl (jz v3)), l4, l5, l6, l7, l8], [], ha) Q := by
  intro m'
  induction m' with
  | zero =>
    intro j qa ga ha v3 l4 l5 l6 l7 l8 em e3 hj pa Ga hqa hia
    refine r65_45 ⟨⟨by omega, by omega⟩, ⟨by omega, by omega⟩, fun _ => K ga ha qa _ _ _ _ _ _ _ pa Ga (by omega) (fun e5 => ?_), fun w => absurd w (by omega)⟩
    obtain ⟨b1, b2⟩ := hia e5
    obtain ⟨s2, s3⟩ := S0 e5
    rw [List.drop_eq_nil_of_le (by omega)] at b2
    exact ⟨b1, b2⟩
  | succ m' ih' =>
    intro j qa ga ha v3 l4 l5 l6 l7 l8 em e3 hj pa Ga hqa hia
    have hsa := hs2.js pa.1
    have cfa := cf2.jq pa (by simp <;> omega) (by decide) (by simp <;> omega)
    refine r65_45 ⟨⟨by omega, by omega⟩, ⟨by omega, by omega⟩, fun w => absurd w (by omega), fun _ => ⟨hsa.1, jm_callI (tkM hsa cfa b8 Ga (by omega) ⟨by omega, by omega⟩ ⟨by omega, by omega⟩) ?_⟩⟩
    rintro y1 h4 ⟨g4, p4, G4, c1, c2, c3⟩
    refine r65_57 (ih' (j + 1) (qa + 1) g4 h4 _ _ _ _ _ _ (by omega) (by omega) (by omega) (pa.trans p4) G4 (by omega) (fun e5 => ?_))
    obtain ⟨b1, b2⟩ := hia e5
    obtain ⟨s2, s3⟩ := S0 e5
    have jl : j < ls.length := by omega
    have lj := s3.at jl
    obtain ⟨x1, x2, x3⟩ := c3 b1 _ _ (DRl b2 jl) lj.1 lj.2
    exact ⟨x1, x3⟩
/-- what findParts leaves -/
def MB (h h' : jm_H) (M n : Nat) (fl : List Int) (rs0 : List Rv) (E : Prop) (o : jm_R) : Prop := o = .inl none ∧ jq M [35, 36] [M + 24] h h' ∧ ∃ (g : Int) (pl : Nat), GP h' M g pl ∧ (g = 1 → ∃ pt : Nat → Nat, ∀ k, k < n → jm_I h' (M + 24) k = jz (pt k : Int) ∧ pt k ≤ 100000 ∧ (E → ∃ t, DR fl (pt k) (body rs0 (sf (pS rs0)) k ++ t))) ∧ (E → g = 1)
theorem s65 {d M pl : Nat} {h : jm_H} {fl : List Int} {rs rs0 : List Rv} {g0 : Int} {E : Prop} (hs : shM h M) (cf : cF h M fl) (b8 : by8 fl) (U : cU h M rs) (ok : okH rs) (G0 : GP h M g0 pl) (hpl : pl ≤ 100) (hE : E → g0 = 1 ∧ okH rs0 ∧ rs = bl rs0 ∧ DR fl pl ((List.range rs0.length).flatMap (body rs0 (sf (pS rs0))))) : jm_E dh_pr (d + 4) 65 [.inr (.inl M)] h (fun o h' => MB h h' M rs.length fl rs0 E o) := by
  have l20 := ok.1
  have el := pS_len rs
  have hP := sfP_all _ _ rfl ok.2.1
  have l4 := cf.2.1
  have L : ∀ (m k q : Nat) (g : Int) (h1 : jm_H) (pt : Nat → Nat) (v1 : Int) (l2 l3 l4 l5 l6 l7 l8 : Option jm_V), k + m = rs.length → v1 = k → jq M [35, 36] [M + 24] h h1 → GP h1 M g q → q ≤ 100 + 400 * k → (∀ j, j < k → jm_I h1 (M + 24) j = jz (pt j : Int) ∧ pt j ≤ 100000 ∧ (E → ∃ t, DR fl (pt j) (body rs0 (sf (pS rs0)) j ++ t))) → (E → g = 1 ∧ DR fl q ((List.range' k m).flatMap (body rs0 (sf (pS rs0))))) → jm_W dh_pr (d + 3) 65 (2, [some (.inr (.inl M)), some (.inl (jz v1)), l2, l3, l4, l5, l6, l7, l8], [], h1) (fun o h' => MB h h' M rs.length fl rs0 E o) := by
    intro m
    induction m with
    | zero =>
      intro k q g h1 pt v1 l2 l3 l4' l5 l6 l7 l8 e e1 p1 G hq hb hi
      have h4k : 400 * k ≤ 400 * 20 := Nat.mul_le_mul_left _ (by omega)
      have hs1 := hs.js p1.1
      have U1 := U.jq p1 (by simp <;> omega) (by decide) (by simp <;> omega)
      have cf1 := cf.jq p1 (by simp <;> omega) (by decide) (by simp <;> omega)
      have P0 : ∀ y : Int, jq M [35, 36] [M + 24] h (jm_sI h1 M 36 (jz y)) := fun y => p1.sM (by simp <;> omega)
      have GG : ∀ y : Int, (y = 0 ∨ y = 1) → GP (jm_sI h1 M 36 (jz y)) M y q := fun y hy => ⟨jr_I_self, hy, by rw [jr_I_fld (by decide)]; exact G.2.2⟩
      refine r65_2 ⟨hs1.1, _, U1.1.1, ⟨by omega, by omega⟩, ⟨by omega, by omega⟩, fun _ => ⟨_, G.1, by rcases G.2.1 with rfl | rfl <;> exact ⟨by decide, by decide⟩, fun w => ⟨rfl, P0 0, 0, q, GG 0 (Or.inl rfl), fun x => absurd x (by omega), fun e5 => ?_⟩, fun w => ⟨_, G.2.2, _, cf1.1, ⟨by omega, by omega⟩, ⟨by omega, by omega⟩, fun w2 => ⟨rfl, P0 0, 0, q, GG 0 (Or.inl rfl), fun x => absurd x (by omega), fun e5 => ?_⟩, fun w2 => ⟨rfl, P0 1, 1, q, GG 1 (Or.inr rfl), fun _ => ⟨pt, fun j hj => ?_⟩, fun _ => rfl⟩⟩⟩, fun w => absurd w (by omega)⟩
      · have := (hi e5).1; omega
      · obtain ⟨i0, i1, i2⟩ := hi e5
        have i3 : fl.drop q = [] := i1
        have := congrArg List.length i3
        rw [List.length_drop] at this
        have i4 : fl.length - q = 0 := this
        omega
      · rw [off1 (by omega)]; exact hb j (by omega)
    | succ m ih =>
      intro k q g h1 pt v1 l2 l3 l4' l5 l6 l7 l8 e e1 p1 G hq hb hi
      subst e1
      have h4k : 400 * k ≤ 400 * 20 := Nat.mul_le_mul_left _ (by omega)
      have kk : k < rs.length := by omega
      have ek : (k : Int).toNat = k := by omega
      have hs1 := hs.js p1.1
      have U1 := U.jq p1 (by simp <;> omega) (by decide) (by simp <;> omega)
      have gr : jR g := by rcases G.2.1 with rfl | rfl <;> exact ⟨by decide, by decide⟩
      by_cases eg : g = 0
      · -- no longer good
        have nE : ¬ E := fun e5 => by have := (hi e5).1; omega
        have P0 : jq M [35, 36] [M + 24] h (jm_sI h1 M 36 (jz 0)) := p1.sM (by simp <;> omega)
        exact r65_2 ⟨hs1.1, _, U1.1.1, ⟨by omega, by omega⟩, ⟨by omega, by omega⟩, fun w => absurd w (by omega), fun _ => ⟨_, G.1, gr, fun _ => ⟨fun _ => ⟨rfl, P0, 0, q, ⟨jr_I_self, Or.inl rfl, by rw [jr_I_fld (by decide)]; exact G.2.2⟩, fun x => absurd x (by omega), fun e5 => absurd e5 nE⟩, fun x => absurd eg x⟩, fun x => absurd eg x⟩⟩
      · have eg1 : g = 1 := G.2.1.resolve_left eg
        subst eg1
        obtain ⟨f24, g24, n24⟩ := hs1.f 34 24 20 (by decide)
        have p2 : jq M [35, 36] [M + 24] h1 (jm_sI h1 (M + 24) (k : Int).toNat (jz (q : Int))) := (jq.refl _ _ _ h1).sI (by simp <;> omega)
        have P2 := p1.trans p2
        have hs2 := hs.js P2.1
        have U2 := U.jq P2 (by simp <;> omega) (by decide) (by simp <;> omega)
        have cf2 := cf.jq P2 (by simp <;> omega) (by decide) (by simp <;> omega)
        have G2 : GP (jm_sI h1 (M + 24) (k : Int).toNat (jz (q : Int))) M 1 q := ⟨by rw [off1 (by omega)]; exact G.1, G.2.1, by rw [off1 (by omega)]; exact G.2.2⟩
        have GE : E → k < rs0.length ∧ okH rs0 ∧ (fsK (pS rs0) = fsK (pS rs)) ∧ DR fl q (body rs0 (sf (pS rs0)) k ++ (List.range' (k + 1) m).flatMap (body rs0 (sf (pS rs0)))) := by
          intro e5
          have i1 := (hi e5).2
          rw [List.range'_succ, List.flatMap_cons] at i1
          obtain ⟨-, o1, o2, -⟩ := hE e5
          have : rs.length = rs0.length := by rw [o2, bl_len]
          exact ⟨by omega, o1, by rw [o2, pS_bl], i1⟩
        -- on to the next one
        have K : ∀ (g' : Int) (h3 : jm_H) (q3 : Nat) (l2 l3 l4 l5 l6 l7 l8 : Option jm_V), jq M [35, 36] [] (jm_sI h1 (M + 24) (k : Int).toNat (jz (q : Int))) h3 → GP h3 M g' q3 → q3 ≤ q + 400 → (E → g' = 1 ∧ DR fl q3 ((List.range' (k + 1) m).flatMap (body rs0 (sf (pS rs0))))) → jm_W dh_pr (d + 3) 65 (2, [some (.inr (.inl M)), some (.inl (jz ((k : Int) + 1))), l2, l3, l4, l5, l6, l7, l8], [], h3) (fun o h' => MB h h' M rs.length fl rs0 E o) := by
          intro g' h3 q3 l2 l3 l4 l5 l6 l7 l8 p3 G3 hq3 hi3
          refine ih (k + 1) q3 g' h3 (fun j => if j = k then q else pt j) _ _ _ _ _ _ _ _ (by omega) (by omega) (P2.trans (p3.mono (by simp <;> omega) (by simp <;> omega))) G3 (qK hq hq3) (fun j hj => ?_) hi3
          rw [p3.2 _ _ (by simp <;> omega) (by omega), jr_I_sI]
          show (if M + 24 = M + 24 ∧ j = (k : Int).toNat then _ else _) = jz ((if j = k then q else pt j : Nat) : Int) ∧ (if j = k then q else pt j) ≤ 100000 ∧ (E → ∃ t, DR fl (if j = k then q else pt j) _)
          by_cases ej : j = k
          · rw [if_pos ⟨rfl, by omega⟩, if_pos ej, ej]
            exact ⟨rfl, by omega, fun e5 => ⟨_, (GE e5).2.2.2⟩⟩
          · rw [if_neg (by omega), if_neg ej]; exact hb j (by omega)
        refine r65_2 ⟨hs1.1, _, U1.1.1, ⟨by omega, by omega⟩, ⟨by omega, by omega⟩, fun w => absurd w (by omega), fun _ => ⟨_, G.1, gr, fun x => absurd x (by omega), fun _ => ⟨_, f24, _, G.2.2, g24, _, n24, ⟨by omega, by omega, by omega⟩, jm_callI (s38 hs2 U2.1 (by omega) ok.2.1 (by omega)) ?_⟩⟩⟩
        rintro z h' ⟨rfl, hd, rfl, hd1, hd2, hd3'⟩
        -- the head is the one revision without a source
        have src : k = hd ↔ ¬ (0 ≤ srcK rs (sf (pS rs)) k ∧ srcK rs (sf (pS rs)) k < rs.length) := by
          rw [srcK_sf, srcOf]
          constructor
          · intro ek'
            rw [ek', if_pos hd2, hd3']; omega
          · intro w
            have v := ok.2.1 k (by omega)
            rw [pS_at kk] at v
            by_cases c : (fsK (pS rs) k).2.2.1 = -1
            · rw [if_pos c] at w
              have nx : (fsK (pS rs) k).1 = -1 := Classical.byContradiction fun x => by
                obtain ⟨b1, b2, -⟩ := hP.2.2.1 k (by omega) c x
                omega
              rcases Nat.lt_trichotomy k hd with lt | eq | gt
              · exact absurd nx (trunk_le ok.2.1 hP hd k lt hd1 c hd2).1
              · exact eq
              · exact absurd hd3' (trunk_le ok.2.1 hP k hd gt (by omega) hd2 c).1
            · rw [if_neg c] at w
              rcases Nat.eq_zero_or_pos k with e0 | e0
              · rw [e0] at c; exact absurd (hP.2.1 (by omega)) c
              · have := v.2 e0; omega
        have srcE : E → srcK rs0 (sf (pS rs0)) k = srcK rs (sf (pS rs)) k := fun e5 => by
          obtain ⟨-, -, o2, -⟩ := hE e5
          rw [o2, srcK_bl, pS_bl]
        have lenE : E → rs.length = rs0.length := fun e5 => by rw [(hE e5).2.2.1, bl_len]
        refine r65_32 ⟨⟨by omega, by omega⟩, ⟨by omega, by omega⟩, fun ne => ⟨hs2.1, jm_callI (tkM hs2 cf2 b8 G2 (by omega) ⟨by omega, by omega⟩ ⟨by omega, by omega⟩) ?_⟩, fun eq => ⟨hs2.1, jm_callI (tkM hs2 cf2 b8 G2 (by omega) ⟨by omega, by omega⟩ ⟨by omega, by omega⟩) ?_⟩⟩
        · -- steps
          rintro z1 h3 ⟨g3, p3, G3, a1, a2, a3⟩
          have zb : 0 ≤ z1 ∧ z1 ≤ 24 := by
            rcases G3.2.1 with e' | e'
            · have := a2 e'; omega
            · have := a1 e'; omega
          obtain ⟨acc, ad, hacc⟩ : ∃ (acc : List S5) (ad : List Int), E → encD (acc, ad) = body rs0 (sf (pS rs0)) k ∧ okS acc 12 ∧ acc.length ≤ 24 ∧ (∀ s ∈ acc, s.1 = 1 → ∀ n : Nat, (n : Int) < s.2.2.1 → 1 ≤ addL s ad n ∧ addL s ad n ≤ 99) := by
            by_cases e5 : E
            · have sc : 0 ≤ srcK rs (sf (pS rs)) k ∧ srcK rs (sf (pS rs)) k < rs.length := Classical.byContradiction fun x => ne (by have := src.mpr x; omega)
              have g1 := (GE e5).1
              have ok0 := (GE e5).2.1
              have sc0 : 0 ≤ srcK rs0 (sf (pS rs0)) k ∧ srcK rs0 (sf (pS rs0)) k < rs0.length := by rw [srcE e5, ← lenE e5]; exact sc
              have hA := (ok0.2.2 _ (show (srcK rs0 (sf (pS rs0)) k).toNat < rs0.length by omega)).2.2.1
              have hB := (ok0.2.2 k g1).2.2
              obtain ⟨d1, d2, d3, d4⟩ := delta_cnt (A := (rs0.getD (srcK rs0 (sf (pS rs0)) k).toNat rv0).2.2.2) (B := (rs0.getD k rv0).2.2.2) hA
              refine ⟨_, _, fun _ => ⟨by rw [body, if_pos sc0], delta_12 hA hB.1, by omega, fun s hs1 e1 n hn => ?_⟩⟩
              obtain ⟨t1, t2, t3, t4, t5⟩ := delta_ok _ _ s hs1 e1
              have := hB.2.at (i := (s.2.2.2.2 + (n : Int)).toNat) (by omega)
              rw [addL, if_pos ⟨e1, by omega, hn⟩, t5 n hn]
              exact this
            · exact ⟨[], [], fun x => absurd x e5⟩
          have P3 : jq M [35, 36] [] (jm_sI h1 (M + 24) (k : Int).toNat (jz (q : Int))) h3 := p3
          have S0 : E → g3 = 1 ∧ z1 = acc.length ∧ DR fl (q + 1) (acc.flatMap (encS ad) ++ (List.range' (k + 1) m).flatMap (body rs0 (sf (pS rs0)))) := fun e5 => by
            obtain ⟨b1, b2, b3, b4⟩ := hacc e5
            have d := (GE e5).2.2.2
            rw [← b1] at d
            exact a3 rfl _ _ d (by omega) (by omega)
          exact r65_75 (s65_b (q := q) (acc := acc) (ad := ad) hs2 cf2 b8 (by omega) zb (fun e5 => (hacc e5).2) (fun e5 => (S0 e5).2.1) K (z1 - 0).toNat 0 (q + 1) g3 h3 0 _ _ _ _ _ rfl rfl (by omega) P3 G3 (by omega) (fun e5 => ⟨(S0 e5).1, by rw [List.drop_zero]; exact (S0 e5).2.2⟩))
        · -- a whole text
          rintro z1 h3 ⟨g3, p3, G3, a1, a2, a3⟩
          have zb : 0 ≤ z1 ∧ z1 ≤ 12 := by
            rcases G3.2.1 with e' | e'
            · have := a2 e'; omega
            · have := a1 e'; omega
          have S0 : E → g3 = 1 ∧ z1 = (rs0.getD k rv0).2.2.2.length ∧ lnv (rs0.getD k rv0).2.2.2 ∧ DR fl (q + 1) ((rs0.getD k rv0).2.2.2 ++ (List.range' (k + 1) m).flatMap (body rs0 (sf (pS rs0)))) := fun e5 => by
            have sc := src.mp (by omega)
            have g1 := (GE e5).1
            have o := ((GE e5).2.1.2.2 k g1).2.2
            have d := (GE e5).2.2.2
            rw [body, if_neg (by rw [srcE e5, ← lenE e5]; exact sc)] at d
            obtain ⟨x1, x2, x3⟩ := a3 rfl _ _ d (by omega) (by omega)
            exact ⟨x1, x2, o.2, x3⟩
          exact r65_42 (s65_c (q := q) (ls := (rs0.getD k rv0).2.2.2) hs2 cf2 b8 (by omega) zb (fun e5 => ⟨(S0 e5).2.1, (S0 e5).2.2.1⟩) K (z1 - 0).toNat 0 (q + 1) g3 h3 0 _ _ _ _ _ rfl rfl (by omega) p3 G3 (by omega) (fun e5 => ⟨(S0 e5).1, by rw [List.drop_zero]; exact (S0 e5).2.2.2⟩))
  refine e65 (r65_0 (L rs.length 0 pl g0 h (fun _ => 0) 0 _ _ _ _ _ _ _ (by omega) (by omega) (jq.refl _ _ _ _) G0 (by omega) (fun j hj => absurd hj (Nat.not_lt_zero j)) (fun e5 => ?_)))
  obtain ⟨o0, o1, o2, o3⟩ := hE e5
  have : rs.length = rs0.length := by rw [o2, bl_len]
  rw [this, ← List.range_eq_range']
  exact ⟨o0, o3⟩
