/-! The reference: the texts of a file; load. -/
/-- what makeTexts leaves -/
def MT (h h' : jm_H) (M n : Nat) (rs0 : List Rv) (E : Prop) (o : jm_R) : Prop := o = .inl none ∧ jq M [35, 36] [M + 4, M + 5] h h' ∧ ∃ (g : Int) (pl : Nat) (ts : List (List Int)), GP h' M g pl ∧ cT h' M ts ∧ (E → g = 1 ∧ ∀ k, k < n → ts.getD k [] = (rs0.getD k rv0).2.2.2)
theorem s68 {d M pl : Nat} {h : jm_H} {fl : List Int} {rs rs0 : List Rv} {ts : List (List Int)} {pt : Nat → Nat} {E : Prop} (hs : shM h M) (cf : cF h M fl) (b8 : by8 fl) (U : cU h M rs) (ok : okH rs) (h0 : 0 < rs.length) (T0 : cT h M ts) (G0 : GP h M 1 pl) (hpt : ∀ k, k < rs.length → jm_I h (M + 24) k = jz (pt k : Int) ∧ pt k ≤ 100000 ∧ (E → ∃ t, DR fl (pt k) (body rs0 (sf (pS rs0)) k ++ t))) (hE : E → okH rs0 ∧ rs = bl rs0) : jm_E dh_pr (d + 4) 68 [.inr (.inl M)] h (fun o h' => MT h h' M rs.length rs0 E o) := by
  have l20 := ok.1
  have el := pS_len rs
  have hP := sfP_all _ _ rfl ok.2.1
  have lenE : E → rs.length = rs0.length := fun e => by rw [(hE e).2, bl_len]
  have fE : E → pS rs0 = pS rs := fun e => by rw [(hE e).2, pS_bl]
  have srcE : E → ∀ k, srcK rs0 (sf (pS rs0)) k = srcK rs (sf (pS rs)) k := fun e k => by rw [(hE e).2, srcK_bl, pS_bl]
  have PT : ∀ {h1 : jm_H}, jq M [35, 36] [M + 4, M + 5] h h1 → ∀ k, k < rs.length → jm_I h1 (M + 24) k = jz (pt k : Int) := fun p k hk => (p.2 _ _ (by simp <;> omega) (by omega)).trans (hpt k hk).1
  -- one revision out of another
  have APP : ∀ (k c : Nat) {h1 : jm_H} {ts1 : List (List Int)} {pl1 : Nat} {Qk : jm_Q}, k < rs.length → c < rs.length → c ≠ k → srcK rs (sf (pS rs)) k = c → jq M [35, 36] [M + 4, M + 5] h h1 → GP h1 M 1 pl1 → cT h1 M ts1 → (E → ts1.getD c [] = (rs0.getD c rv0).2.2.2) → (∀ (h2 : jm_H) (g2 : Int) (pl2 : Nat) (ts2 : List (List Int)), jq M [35, 36] [M + 4, M + 5] h h2 → GP h2 M g2 pl2 → cT h2 M ts2 → (∀ j, j ≠ k → ts2.getD j [] = ts1.getD j []) → (E → g2 = 1 ∧ ts2.getD k [] = (rs0.getD k rv0).2.2.2) → Qk (.inl none) h2) → jm_E dh_pr (d + 3) 67 [.inr (.inl M), .inl (jz (k : Int)), .inl (jz (c : Int))] h1 Qk := by
    intro k c h1 ts1 pl1 Qk hk hc hck hsrc p1 G1 T1 hc1 K
    obtain ⟨t, htt⟩ : ∃ t, E → DR fl (pt k) (body rs0 (sf (pS rs0)) k ++ t) := by
      by_cases e : E
      · obtain ⟨t, ht⟩ := (hpt k hk).2.2 e
        exact ⟨t, fun _ => ht⟩
      · exact ⟨[], fun x => absurd x e⟩
    refine jm_E_mono _ _ _ _ _ _ ?_ (s67 (B := (rs0.getD k rv0).2.2.2) (t := t) (E := E) (hs.js p1.1) (cf.jq p1 (by simp <;> omega) (by decide) (by simp <;> omega)) b8 G1 (PT p1 k hk) (hpt k hk).2.1 T1 (by omega) (by omega) hck (fun e => ?_))
    · rintro o h2 ⟨rfl, p2, g2, pl2, ts2, G2, -, T2, k2, e2⟩
      exact K h2 g2 pl2 ts2 (p1.trans p2) G2 T2 k2 e2
    · have d1 := htt e
      have k0 : k < rs0.length := by rw [← lenE e]; exact hk
      have o := ((hE e).1.2.2 k k0).2.2
      rw [body, if_pos (by rw [srcE e, hsrc, ← lenE e]; omega), srcE e, hsrc, show (c : Int).toNat = c by omega, ← hc1 e] at d1
      exact ⟨d1, o.1, o.2⟩
  -- the branches
  have L91 : ∀ (m k : Nat) (h1 : jm_H) (ts1 : List (List Int)) (g : Int) (pl1 : Nat) (v3 : Int) (l1 l2 : Option jm_V), k + m = rs.length → v3 = k → jq M [35, 36] [M + 4, M + 5] h h1 → GP h1 M g pl1 → cT h1 M ts1 → (E → g = 1 ∧ ∀ j, j < rs.length → ((fsK (pS rs) j).2.2.1 = -1 ∨ j < k) → ts1.getD j [] = (rs0.getD j rv0).2.2.2) → jm_W dh_pr (d + 3) 68 (91, [some (.inr (.inl M)), l1, l2, some (.inl (jz v3))], [], h1) (fun o h' => MT h h' M rs.length rs0 E o) := by
    intro m
    induction m with
    | zero =>
      intro k h1 ts1 g pl1 v3 l1 l2 e e3 p1 G1 T1 hi
      have hs1 := hs.js p1.1
      have U1 := U.jq p1 (by simp <;> omega) (by decide) (by simp <;> omega)
      exact r68_91 ⟨hs1.1, _, U1.1.1, ⟨by omega, by omega⟩, ⟨by omega, by omega⟩, fun _ => ⟨rfl, p1, g, pl1, ts1, G1, T1, fun e5 => ⟨(hi e5).1, fun j hj => (hi e5).2 j hj (Or.inr (by omega))⟩⟩, fun w => absurd w (by omega)⟩
    | succ m ih =>
      intro k h1 ts1 g pl1 v3 l1 l2 e e3 p1 G1 T1 hi
      subst e3
      have hs1 := hs.js p1.1
      have U1 := U.jq p1 (by simp <;> omega) (by decide) (by simp <;> omega)
      have kk : k < rs.length := by omega
      have gr : jR g := by rcases G1.2.1 with rfl | rfl <;> exact ⟨by decide, by decide⟩
      refine r68_91 ⟨hs1.1, _, U1.1.1, ⟨by omega, by omega⟩, ⟨by omega, by omega⟩, fun w => absurd w (by omega), fun _ => ⟨_, G1.1, gr, fun ge => ⟨rfl, p1, g, pl1, ts1, G1, T1, fun e5 => by have := (hi e5).1; omega⟩, fun ge => jm_callI (s37 hs1 U1.1 (by omega) ok.2.1 (show k < (pS rs).length by omega)) ?_⟩⟩
      have g1 : g = 1 := G1.2.1.resolve_left ge
      subst g1
      rintro z h' ⟨rfl, ⟨rfl, f⟩ | ⟨rfl, f⟩⟩
      · refine r68_111 ⟨⟨by omega, by omega⟩, fun _ => ih (k + 1) _ ts1 1 pl1 _ _ _ (by omega) (by omega) p1 G1 T1 (fun e5 => ⟨rfl, fun j hj hh => ?_⟩), fun x => absurd x (by omega)⟩
        by_cases ej : j = k
        · exact (hi e5).2 j hj (Or.inl (by rw [ej]; exact f))
        · exact (hi e5).2 j hj (hh.elim Or.inl (fun x => Or.inr (by omega)))
      · have k0 : 0 < k := by
          rcases Nat.eq_zero_or_pos k with e0 | e0
          · rw [e0] at f; exact absurd (hP.2.1 (by omega)) f
          · exact e0
        have pv := (ok.2.1 k (by omega)).2 k0
        obtain ⟨f2, g2, n2⟩ := hs1.f 2 1 20 (by decide)
        obtain ⟨c, hc⟩ : ∃ c : Nat, (pS rs).getD k 0 = (c : Int) := ⟨((pS rs).getD k 0).toNat, by omega⟩
        have hsrc : srcK rs (sf (pS rs)) k = c := by rw [srcK_sf, srcOf, if_neg f, ← pS_at kk, hc]
        refine r68_111 ⟨⟨by omega, by omega⟩, fun x => absurd rfl x, fun _ => ⟨hs1.1, _, f2, g2, _, n2, ⟨by omega, by omega, by omega⟩, (c : Int), by rw [show (k : Int).toNat = k by omega, ← hc]; exact U1.1.2 k (by omega), APP k c kk (by omega) (by omega) hsrc p1 G1 T1 (fun e5 => (hi e5).2 c (by omega) (Or.inr (by omega))) ?_⟩⟩
        intro h2 g2' pl2 ts2 p2 G2 T2 k2 e2
        refine r68_125 (ih (k + 1) h2 ts2 g2' pl2 _ _ _ (by omega) (by omega) p2 G2 T2 (fun e5 => ⟨(e2 e5).1, fun j hj hh => ?_⟩))
        by_cases ej : j = k
        · rw [ej]; exact (e2 e5).2
        · rw [k2 j ej]; exact (hi e5).2 j hj (hh.elim Or.inl (fun x => Or.inr (by omega)))
  -- the trunk
  have L57 : ∀ (r : Nat) (h1 : jm_H) (ts1 : List (List Int)) (g : Int) (pl1 : Nat) (v3 : Int) (l1 l2 : Option jm_V), v3 = r → r < rs.length → (fsK (pS rs) r).2.2.1 = -1 → jq M [35, 36] [M + 4, M + 5] h h1 → GP h1 M g pl1 → cT h1 M ts1 → (E → g = 1 ∧ ∀ j, j < rs.length → (fsK (pS rs) j).2.2.1 = -1 → r ≤ j → ts1.getD j [] = (rs0.getD j rv0).2.2.2) → jm_W dh_pr (d + 3) 68 (57, [some (.inr (.inl M)), l1, l2, some (.inl (jz v3))], [], h1) (fun o h' => MT h h' M rs.length rs0 E o) := by
    intro r
    induction r using Nat.strongRecOn with
    | _ r ih =>
      intro h1 ts1 g pl1 v3 l1 l2 e3 hr fr p1 G1 T1 hi
      subst e3
      have hs1 := hs.js p1.1
      have U1 := U.jq p1 (by simp <;> omega) (by decide) (by simp <;> omega)
      have gr : jR g := by rcases G1.2.1 with rfl | rfl <;> exact ⟨by decide, by decide⟩
      have none91 : g = 0 → jm_W dh_pr (d + 3) 68 (91, [some (.inr (.inl M)), l1, l2, some (.inl (jz 0))], [], h1) (fun o h' => MT h h' M rs.length rs0 E o) := fun ge => L91 rs.length 0 h1 ts1 g pl1 0 _ _ (by omega) (by omega) p1 G1 T1 (fun e5 => by have := (hi e5).1; omega)
      refine r68_57 ⟨⟨by omega, by omega⟩, fun w => L91 rs.length 0 h1 ts1 g pl1 0 _ _ (by omega) (by omega) p1 G1 T1 (fun e5 => ⟨(hi e5).1, fun j hj hh => ?_⟩), fun w => ⟨hs1.1, _, G1.1, gr, none91, fun ge => ?_⟩⟩
      · rcases hh with x | x
        · exact (hi e5).2 j hj x (by omega)
        · exact absurd x (Nat.not_lt_zero j)
      · have g1 : g = 1 := G1.2.1.resolve_left ge
        subst g1
        obtain ⟨q1, q2⟩ := hP.2.2.2.1 r (by omega) (by omega) fr
        have pv := (ok.2.1 r (by omega)).2 (by omega)
        obtain ⟨c, hc⟩ : ∃ c : Nat, (pS rs).getD r 0 = (c : Int) := ⟨((pS rs).getD r 0).toNat, by omega⟩
        rw [hc, show (c : Int).toNat = c by omega] at q1 q2
        rw [hc] at pv
        obtain ⟨f2, g2, n2⟩ := hs1.f 2 1 20 (by decide)
        have hsrc : srcK rs (sf (pS rs)) c = r := by rw [srcK_sf, srcOf, if_pos q1, q2]
        have rdp : ∀ {hx : jm_H}, cU hx M rs → jm_I hx (M + 1) (r : Int).toNat = jz (c : Int) := fun u => by rw [show (r : Int).toNat = r by omega, ← hc]; exact u.1.2 r (by omega)
        refine ⟨_, f2, g2, _, n2, ⟨by omega, by omega, by omega⟩, (c : Int), rdp U1, APP c r (by omega) hr (by omega) hsrc p1 G1 T1 (fun e5 => (hi e5).2 r hr fr (Nat.le_refl _)) ?_⟩
        intro h2 g2' pl2 ts2 p2 G2 T2 k2 e2
        have hs2 := hs.js p2.1
        have U2 := U.jq p2 (by simp <;> omega) (by decide) (by simp <;> omega)
        obtain ⟨f2', g2'', n2'⟩ := hs2.f 2 1 20 (by decide)
        refine r68_79 ⟨hs2.1, _, f2', g2'', _, n2', ⟨by omega, by omega, by omega⟩, (c : Int), rdp U2, ih c (by omega) h2 ts2 g2' pl2 _ _ _ rfl (by omega) q1 p2 G2 T2 (fun e5 => ⟨(e2 e5).1, fun j hj fj hcj => ?_⟩)⟩
        by_cases ej : j = c
        · rw [ej]; exact (e2 e5).2
        · rw [k2 j ej]
          refine (hi e5).2 j hj fj ?_
          have := (trunk_le ok.2.1 hP j c (by omega) (by omega) q1 fj).2
          rw [q2] at this
          omega
  refine e68 (r68_0 ⟨hs.1, jm_callI (s38 hs U.1 (by omega) ok.2.1 (by omega)) ?_⟩)
  rintro z h' ⟨rfl, hd, rfl, hd1, hd2, hd3'⟩
  have hdl : hd < rs.length := by omega
  obtain ⟨f24, g24, n24⟩ := hs.f 34 24 20 (by decide)
  have eh : (hd : Int).toNat = hd := by omega
  have hi20 : jzi (hd : Int) 20 := ⟨by omega, by omega, by omega⟩
  have p1 : jq M [35, 36] [M + 4, M + 5] h' (jm_sI h' M 35 (jz (pt hd : Int))) := (jq.refl _ _ _ h').sM (by simp <;> omega)
  have hs1 := hs.js p1.1
  have cf1 := cf.jq p1 (by simp <;> omega) (by decide) (by simp <;> omega)
  have ptb := (hpt hd hdl).2.1
  have G1 : GP (jm_sI h' M 35 (jz (pt hd : Int))) M 1 (pt hd) := ⟨by rw [jr_I_fld (by decide)]; exact G0.1, Or.inr rfl, jr_I_self⟩
  obtain ⟨t, htt⟩ : ∃ t, E → DR fl (pt hd) (encT (rs0.getD hd rv0).2.2.2 ++ t) := by
    by_cases e : E
    · obtain ⟨t, ht⟩ := (hpt hd hdl).2.2 e
      rw [body, if_neg (by rw [srcE e, srcK_sf, srcOf, if_pos hd2, hd3']; omega)] at ht
      exact ⟨t, fun _ => ht⟩
    · exact ⟨[], fun x => absurd x e⟩
  have okE : E → (rs0.getD hd rv0).2.2.2.length ≤ 12 ∧ lnv (rs0.getD hd rv0).2.2.2 := fun e => ((hE e).1.2.2 hd (by rw [← lenE e]; exact hdl)).2.2
  refine r68_4 ⟨hs.1, _, f24, g24, _, n24, hi20, _, by rw [eh]; exact (hpt hd hdl).1, jm_callI (tkM hs1 cf1 b8 G1 (by omega) ⟨by omega, by omega⟩ ⟨by omega, by omega⟩) ?_⟩
  rintro z2 h2 ⟨g2, p2, G2, a1, a2, a3⟩
  have zb : 0 ≤ z2 ∧ z2 ≤ 12 := by
    rcases G2.2.1 with e' | e'
    · have := a2 e'; omega
    · have := a1 e'; omega
  have P2 : jq M [35, 36] [M + 4, M + 5] h' h2 := p1.trans (p2.mono (by simp <;> omega) (by simp <;> omega))
  have hs2 := hs.js P2.1
  obtain ⟨f4, g4, n4⟩ := hs2.f 5 4 20 (by decide)
  have p3 : jq M [35, 36] [M + 4, M + 5] h2 (jm_sI h2 (M + 4) (hd : Int).toNat (jz 0)) := (jq.refl _ _ _ h2).sI (by simp <;> omega)
  have T2 : cT h2 M ts := (T0.jq ((jq.refl M [35] [] h').sM (by simp <;> omega)) (by simp <;> omega) (by simp <;> omega)).jq p2 (by simp <;> omega) (by simp <;> omega)
  have lts : hd < ts.length := by rw [T0.1]; omega
  have T3 : cT (jm_sI h2 (M + 4) (hd : Int).toNat (jz 0)) M (ts.set hd []) := by
    refine cT_set T2 (by omega) p3 (Nat.zero_le _) (fun v hv => by cases hv) (fun i hi => ?_) ?_ (fun j hj i hi => ?_) (fun i hi => absurd hi (Nat.not_lt_zero i))
    · rw [eh, jr_I_fld hi]
    · rw [eh, jr_I_self]; rfl
    · rw [off1 (by omega)]
  have G3 : GP (jm_sI h2 (M + 4) (hd : Int).toNat (jz 0)) M g2 (pt hd + 1) := ⟨by rw [off1 (by omega)]; exact G2.1, G2.2.1, by rw [off1 (by omega)]; exact G2.2.2⟩
  have L32 : ∀ (m j : Nat) (h1 : jm_H) (ts1 : List (List Int)) (g : Int) (q : Nat) (v3 : Int), (z2 - v3).toNat = m → v3 = j → j ≤ 12 → jq M [35, 36] [M + 4, M + 5] h' h1 → GP h1 M g q → q ≤ 100001 + j → cT h1 M ts1 → (E → g = 1 ∧ z2 = (rs0.getD hd rv0).2.2.2.length ∧ ts1.getD hd [] = (rs0.getD hd rv0).2.2.2.take j ∧ DR fl q ((rs0.getD hd rv0).2.2.2.drop j ++ t)) → jm_W dh_pr (d + 3) 68 (32, [some (.inr (.inl M)), some (.inl (jz (hd : Int))), some (.inl (jz z2)), some (.inl (jz v3))], [], h1) (fun o h'' => MT h' h'' M rs.length rs0 E o) := by
    intro m
    induction m with
    | zero =>
      intro j h1 ts1 g q v3 em e3 hj p G hq T hi
      refine r68_32 ⟨⟨by omega, by omega⟩, ⟨by omega, by omega⟩, fun _ => L57 hd h1 ts1 g q _ _ _ rfl hdl hd2 p G T (fun e5 => ?_), fun w => absurd w (by omega)⟩
      obtain ⟨b1, b2, b3, b4⟩ := hi e5
      rw [List.take_of_length_le (by omega)] at b3
      refine ⟨b1, fun j hj fj hjh => ?_⟩
      by_cases ej : j = hd
      · rw [ej]; exact b3
      · exact absurd hd3' (trunk_le ok.2.1 hP j hd (by omega) (by omega) hd2 fj).1
    | succ m ih =>
      intro j h1 ts1 g q v3 em e3 hj p G hq T hi
      have hsx := hs.js p.1
      have cfx := cf.jq p (by simp <;> omega) (by decide) (by simp <;> omega)
      refine r68_32 ⟨⟨by omega, by omega⟩, ⟨by omega, by omega⟩, fun w => absurd w (by omega), fun _ => ⟨hsx.1, jm_callI (tkM hsx cfx b8 G (by omega) ⟨by omega, by omega⟩ ⟨by omega, by omega⟩) ?_⟩⟩
      rintro y h4 ⟨g4', p4, G4, b1, b2, b3⟩
      have P4 : jq M [35, 36] [M + 4, M + 5] h' h4 := p.trans (p4.mono (by simp <;> omega) (by simp <;> omega))
      have T4 : cT h4 M ts1 := T.jq p4 (by simp <;> omega) (by simp <;> omega)
      have lt1 : hd < ts1.length := by rw [T.1]; omega
      refine r68_46 ⟨(hs.js P4.1).1, jm_E_mono _ _ _ _ _ _ ?_ (s66 (hs.js P4.1) G4 T4 (show hd < 20 by omega) (fun x => (b1 x).2))⟩
      have GE : E → g4' = 1 ∧ j < (rs0.getD hd rv0).2.2.2.length ∧ y = (rs0.getD hd rv0).2.2.2.getD j 0 ∧ DR fl (q + 1) ((rs0.getD hd rv0).2.2.2.drop (j + 1) ++ t) := fun e5 => by
        obtain ⟨c1, c2, c3, c4⟩ := hi e5
        have jl : j < (rs0.getD hd rv0).2.2.2.length := by omega
        have lj := (okE e5).2.at jl
        obtain ⟨x1, x2, x3⟩ := b3 c1 _ _ (DRl c4 jl) lj.1 lj.2
        exact ⟨x1, jl, x2, x3⟩
      rintro o h5 ⟨rfl, p5, g5, G5, ⟨c1, c2, c3, c4⟩ | ⟨c1, c2, c3⟩⟩
      · refine r68_49 (ih (j + 1) h5 _ g5 (q + 1) _ (by omega) (by omega) (by omega) (P4.trans (p5.mono (by simp <;> omega) (by simp <;> omega))) G5 (by omega) c4 (fun e5 => ?_))
        obtain ⟨x1, jl, x2, x3⟩ := GE e5
        obtain ⟨d1, d2, d3, d4⟩ := hi e5
        refine ⟨c1, d2, ?_, x3⟩
        rw [set_self lt1, d3, x2, take_snoc jl]
      · refine r68_49 (ih (j + 1) h5 _ g5 (q + 1) _ (by omega) (by omega) (by omega) (P4.trans (p5.mono (by simp <;> omega) (by simp <;> omega))) G5 (by omega) c3 (fun e5 => ?_))
        obtain ⟨x1, jl, x2, x3⟩ := GE e5
        obtain ⟨d1, d2, d3, d4⟩ := hi e5
        have o1 := (okE e5).1
        refine absurd ?_ (c2 x1)
        rw [d3, List.length_take]
        omega
  refine r68_22 ⟨hs2.1, _, f4, g4, _, n4, hi20, L32 (z2 - 0).toNat 0 _ (ts.set hd []) g2 (pt hd + 1) 0 rfl rfl (by omega) (P2.trans p3) G3 (by omega) T3 (fun e5 => ?_)⟩
  have o1 := (okE e5).1
  obtain ⟨x1, x2, x3⟩ := a3 rfl _ _ (htt e5) (by omega) (by omega)
  exact ⟨x1, x2, set_self lts, by rw [List.drop_zero]; exact x3⟩
/-- heads and texts put together -/
def mkR (rs : List Rv) (ts : List (List Int)) : List Rv := (List.range rs.length).map (fun k => ((rs.getD k rv0).1, (rs.getD k rv0).2.1, (rs.getD k rv0).2.2.1, ts.getD k []))
theorem mkR_len (rs : List Rv) (ts : List (List Int)) : (mkR rs ts).length = rs.length := by unfold mkR; rw [List.length_map, List.length_range]
theorem mkR_at {rs : List Rv} {ts : List (List Int)} {k : Nat} (hk : k < rs.length) : (mkR rs ts).getD k rv0 = ((rs.getD k rv0).1, (rs.getD k rv0).2.1, (rs.getD k rv0).2.2.1, ts.getD k []) := by
  unfold mkR
  rw [gD_mp (a := 0) (by rw [List.length_range]; exact hk)]
  have : (List.range rs.length).getD k 0 = k := by
    rw [List.getD_eq_getElem?_getD, List.getElem?_range hk]; rfl
  rw [this]
theorem gD_all {α : Type} {xs ys : List α} {d : α} (hl : xs.length = ys.length) (h : ∀ i, i < xs.length → xs.getD i d = ys.getD i d) : xs = ys := by
  apply List.ext_getElem hl
  intro i h1 h2
  have := h i h1
  rw [List.getD_eq_getElem?_getD, List.getD_eq_getElem?_getD, List.getElem?_eq_getElem h1, List.getElem?_eq_getElem h2] at this
  exact this
theorem mkR_map {β : Type} (f : Rv → β) (hf : ∀ a b c e e', f (a, b, c, e) = f (a, b, c, e')) (rs : List Rv) (ts : List (List Int)) : (mkR rs ts).map f = rs.map f := by
  refine gD_all (d := f rv0) (by rw [List.length_map, List.length_map, mkR_len]) (fun i hi => ?_)
  rw [List.length_map, mkR_len] at hi
  rw [gDm, gDm, mkR_at hi]
  exact hf _ _ _ _ _
theorem bl_mkR (rs : List Rv) (ts : List (List Int)) : bl (mkR rs ts) = bl rs := mkR_map _ (fun _ _ _ _ _ => rfl) rs ts
theorem tS_mkR {rs : List Rv} {ts : List (List Int)} (h : rs.length ≤ ts.length) : tS (mkR rs ts) = ts.take rs.length := by
  refine gD_all (d := []) (by rw [tS_len, mkR_len, List.length_take]; omega) (fun i hi => ?_)
  rw [tS_len, mkR_len] at hi
  rw [tS_at (by rw [mkR_len]; exact hi), mkR_at hi, gD_take hi]
theorem okH_mkR {h : jm_H} {M : Nat} {rs : List Rv} {ts : List (List Int)} (ok : okH rs) (T : cT h M ts) : okH (mkR rs ts) := by
  obtain ⟨o1, o2, o3⟩ := ok
  refine ⟨by rw [mkR_len]; exact o1, by rw [pS_of_bl (bl_mkR rs ts)]; exact o2, fun k hk => ?_⟩
  rw [mkR_len] at hk
  rw [mkR_at hk]
  have w := cT_at T (show k < 20 by omega)
  exact ⟨(o3 k hk).1, (o3 k hk).2.1, w.1, w.2.1⟩
def ldK : List Nat := [0, 1, 16, 18, 21, 32, 35, 36, 37]
def ldS (M : Nat) : List Nat := [M + 1, M + 2, M + 3, M + 4, M + 5, M + 11, M + 12, M + 13, M + 14, M + 15, M + 16, M + 17, M + 23, M + 24, M + 25, M + 26, M + 27, M + 28, M + 29]
theorem m70 {d M : Nat} {h : jm_H} {s : St} (R : RM h M s) (ok : oks s) : jm_E dh_pr (d + 5) 70 [.inr (.inl M)] h (fun o h' => mp (ldF s).1 (ldF s).2 M o h h') := by
  have hs := R.1
  have cf := R.2.2.2.2.1
  have b8 := ok.2.2.2.1.2
  have l20 := ok.2.1.1
  have el := pS_len s.2.1
  obtain ⟨ts0, N, U0, eT⟩ := RM_RN R
  have up : ∀ {ha hb : jm_H} {ks S : List Nat}, jq M ks S ha hb → (∀ k ∈ ks, k ∈ ldK) → (∀ b ∈ S, b ∈ ldS M) → jq M ldK (ldS M) ha hb := fun p h1 h2 => p.mono h1 h2
  have upA : ∀ {hb : jm_H}, jq M ldK (ldS M) h hb → jq M mB (mA M) h hb := fun p => mA_up p (by decide) (fun b hb => by simp [ldS] at hb; omega)
  have cfx : ∀ {hb : jm_H}, jq M ldK (ldS M) h hb → cF hb M s.2.2.1 := fun p => cf.jq p (by simp [ldS]) (by decide) (by simp [ldS])
  -- giving back
  have K62 : ∀ (hx : jm_H) (l1 : Option jm_V), jq M ldK (ldS M) h hx → (jm_I hx M 37 = jm_I h M 1 ∧ (∀ i, i < 20 → jm_I hx (M + 25) i = jm_I h (M + 1) i ∧ jm_I hx (M + 26) i = jm_I h (M + 2) i ∧ jm_I hx (M + 27) i = jm_I h (M + 3) i ∧ jm_I hx (M + 28) i = jm_I h (M + 4) i) ∧ ∀ i, i < 240 → jm_I hx (M + 29) i = jm_I h (M + 5) i) → ¬ tells s.2.2.1 → jm_E dh_pr (d + 4) 62 [.inr (.inl M)] hx (jm_k dh_pr (d + 4) 70 (fun o h' => mp (ldF s).1 (ldF s).2 M o h h') 60 [some (.inr (.inl M)), l1] [] 57) := by
    intro hx l1 p ⟨k1, k2, k3⟩ nt
    refine jm_callV (s62 (hs.js p.1)) ?_
    rintro h' ⟨p', b1, b2, b3⟩
    have P : jq M ldK (ldS M) h h' := p.trans (up p' (by decide) (fun b hb => by simp at hb; simp [ldS]; omega))
    rw [ldF_n nt]
    refine r70_60 ⟨rfl, ?_, upA P⟩
    have e1 : ∀ i, i < 20 → jm_I h' (M + 1) i = jm_I h (M + 1) i ∧ jm_I h' (M + 2) i = jm_I h (M + 2) i ∧ jm_I h' (M + 3) i = jm_I h (M + 3) i ∧ jm_I h' (M + 4) i = jm_I h (M + 4) i := fun i hi => ⟨(b2 i hi).1.trans (k2 i hi).1, (b2 i hi).2.1.trans (k2 i hi).2.1, (b2 i hi).2.2.1.trans (k2 i hi).2.2.1, (b2 i hi).2.2.2.trans (k2 i hi).2.2.2⟩
    obtain ⟨a1, a2, a4, a6, a7, a8, a9, a10⟩ := N
    refine RN_RM (ts := ts0) ⟨hs.js P.1, a2.jq P (by simp [ldS]) (by decide) (by simp [ldS]), ⟨a4.1, fun i hi => ?_, fun k hk => ⟨(a4.2.2.1 k hk).1, fun i hi => ?_⟩, a4.2.2.2⟩, a6.jq P (by simp [ldS]) (by decide) (by simp [ldS]), a7.jq P (by simp [ldS]) (by decide) (by simp [ldS]), (P.2 M 15 (by simp [ldS]) (fun q => absurd q.2 (by decide))).trans a8, a9.jq P (by simp [ldS]) (by decide) (fun i h1 h2 => by simp [ldS]; omega), nmr_jq a10 P (by simp [ldS]) (by simp [ldS])⟩ ⟨⟨(b1.trans k1).trans U0.1.1, fun i hi => ?_⟩, fun i hi => ?_, fun i hi => ?_⟩ eT
    · have : i < 20 := by rw [List.length_map, a4.1] at hi; exact hi
      rw [(e1 i this).2.2.2]; exact a4.2.1 i hi
    · have w := (a4.2.2.1 k hk).1
      have : 12 * k + i < 240 := by rw [a4.1] at hk; omega
      rw [b3 _ this, k3 _ this]; exact (a4.2.2.1 k hk).2 i hi
    · replace hi : i < (pS s.2.1).length := hi
      rw [(e1 i (by omega)).1]; exact U0.1.2 i hi
    · have hi' : i < 20 := by
        rw [List.length_map] at hi
        have h2 : i < s.2.1.length := hi
        have := pS_len s.2.1
        omega
      rw [(e1 i hi').2.1]; exact U0.2.1 i hi
    · have hi' : i < 20 := by
        rw [List.length_map] at hi
        have h2 : i < s.2.1.length := hi
        have := pS_len s.2.1
        omega
      rw [(e1 i hi').2.2.1]; exact U0.2.2 i hi
  -- what was kept stays
  have KP : ∀ {ha hb : jm_H} {ks S : List Nat}, jq M ks S ha hb → M ∉ S → 37 ∉ ks → (∀ i, 25 ≤ i → i < 30 → M + i ∉ S) → (jm_I ha M 37 = jm_I h M 1 ∧ (∀ i, i < 20 → jm_I ha (M + 25) i = jm_I h (M + 1) i ∧ jm_I ha (M + 26) i = jm_I h (M + 2) i ∧ jm_I ha (M + 27) i = jm_I h (M + 3) i ∧ jm_I ha (M + 28) i = jm_I h (M + 4) i) ∧ ∀ i, i < 240 → jm_I ha (M + 29) i = jm_I h (M + 5) i) → (jm_I hb M 37 = jm_I h M 1 ∧ (∀ i, i < 20 → jm_I hb (M + 25) i = jm_I h (M + 1) i ∧ jm_I hb (M + 26) i = jm_I h (M + 2) i ∧ jm_I hb (M + 27) i = jm_I h (M + 3) i ∧ jm_I hb (M + 28) i = jm_I h (M + 4) i) ∧ ∀ i, i < 240 → jm_I hb (M + 29) i = jm_I h (M + 5) i) := by
    intro ha hb ks S p h0 h37 hS ⟨k1, k2, k3⟩
    refine ⟨(p.2 M 37 h0 (fun x => h37 x.2)).trans k1, fun i hi => ⟨?_, ?_, ?_, ?_⟩, fun i hi => ?_⟩
    · exact (p.2 _ _ (hS 25 (by omega) (by omega)) (by omega)).trans (k2 i hi).1
    · exact (p.2 _ _ (hS 26 (by omega) (by omega)) (by omega)).trans (k2 i hi).2.1
    · exact (p.2 _ _ (hS 27 (by omega) (by omega)) (by omega)).trans (k2 i hi).2.2.1
    · exact (p.2 _ _ (hS 28 (by omega) (by omega)) (by omega)).trans (k2 i hi).2.2.2
    · exact (p.2 _ _ (hS 29 (by omega) (by omega)) (by omega)).trans (k3 i hi)
  have p1 : jq M [0] [] h (jm_sI h M 0 (jz 0)) := (jq.refl _ _ _ h).sM (by simp <;> omega)
  have hs1 := hs.js p1.1
  refine e70 (r70_0 ⟨hs.1, jm_callV (s61 hs1) ?_⟩)
  rintro h2 ⟨p2, c1, c2, c3⟩
  have J2 : jq M ldK (ldS M) h h2 := (up p1 (by decide) (by simp <;> omega)).trans (up p2 (by decide) (fun b hb => by simp at hb; simp [ldS]; omega))
  have KP2 : jm_I h2 M 37 = jm_I h M 1 ∧ (∀ i, i < 20 → jm_I h2 (M + 25) i = jm_I h (M + 1) i ∧ jm_I h2 (M + 26) i = jm_I h (M + 2) i ∧ jm_I h2 (M + 27) i = jm_I h (M + 3) i ∧ jm_I h2 (M + 28) i = jm_I h (M + 4) i) ∧ ∀ i, i < 240 → jm_I h2 (M + 29) i = jm_I h (M + 5) i := by
    have o : ∀ i, 1 ≤ i → ∀ k, jm_I (jm_sI h M 0 (jz 0)) (M + i) k = jm_I h (M + i) k := fun i hi k => off1 (by omega)
    refine ⟨c1.trans (jr_I_fld (by decide)), fun i hi => ?_, fun i hi => (c3 i hi).trans (o 5 (by omega) i)⟩
    obtain ⟨d1, d2, d3, d4⟩ := c2 i hi
    exact ⟨d1.trans (o 1 (by omega) i), d2.trans (o 2 (by omega) i), d3.trans (o 3 (by omega) i), d4.trans (o 4 (by omega) i)⟩
  have T2 : cT h2 M ts0 := (N.2.2.1.jq p1 (by simp <;> omega) (by simp <;> omega)).jq p2 (by simp <;> omega) (by simp <;> omega)
  have hs2 := hs.js J2.1
  refine r70_9 ⟨hs2.1, jm_E_mono _ _ _ _ _ _ ?_ (s64 (rs0 := ldR s.2.2.1) (t := (List.range (ldR s.2.2.1).length).flatMap (body (ldR s.2.2.1) (sf (pS (ldR s.2.2.1))))) (E := tells s.2.2.1) hs2 (cfx J2) b8 (fun e => ⟨(ldR_ok e).1, by
    have := (ldR_ok e).2
    refine ⟨?_, Nat.zero_le _⟩
    rw [List.drop_zero]
    exact this.symm⟩))⟩
  rintro o h3 ⟨rfl, p3, n, pl, g, n1, n20, G3, hpl, hg, hgE⟩
  have J3 : jq M ldK (ldS M) h h3 := J2.trans (up p3 (by decide) (fun b hb => by simp at hb; simp [ldS]; omega))
  have KP3 := KP p3 (by simp <;> omega) (by decide) (fun i h1 h2 => by simp; omega) KP2
  have hs3 := hs.js J3.1
  have T3 : cT h3 M ts0 := T2.jq p3 (by simp <;> omega) (by simp <;> omega)
  rcases G3.2.1 with eg | eg
  · subst eg
    have nt : ¬ tells s.2.2.1 := fun e => by have := hgE e; omega
    exact r70_13 ⟨hs3.1, _, G3.1, ⟨by omega, by omega⟩, fun _ => ⟨fun _ => ⟨fun _ => K62 h3 _ J3 KP3 nt, fun x => absurd rfl x⟩, fun x => absurd rfl x⟩, fun x => absurd rfl x⟩
  subst eg
  obtain ⟨rs, lrs, U3, ok3, hE3⟩ := hg rfl
  refine r70_13 ⟨hs3.1, _, G3.1, ⟨by omega, by omega⟩, fun x => absurd x (by omega), fun _ => jm_E_mono _ _ _ _ _ _ ?_ (s65 (rs0 := ldR s.2.2.1) (E := tells s.2.2.1) hs3 (cfx J3) b8 U3 ok3 G3 hpl (fun e => ⟨rfl, (ldR_ok e).1, (hE3 e).1, (hE3 e).2⟩))⟩
  rintro o h4 ⟨rfl, p4, g4, pl4, G4, hg4, hgE4⟩
  have J4 : jq M ldK (ldS M) h h4 := J3.trans (up p4 (by decide) (fun b hb => by simp at hb; simp [ldS]; omega))
  have KP4 := KP p4 (by simp <;> omega) (by decide) (fun i h1 h2 => by simp; omega) KP3
  have hs4 := hs.js J4.1
  have U4 := U3.jq p4 (by simp <;> omega) (by decide) (by simp <;> omega)
  have T4 : cT h4 M ts0 := T3.jq p4 (by simp <;> omega) (by simp <;> omega)
  have n4 : jm_I h4 M 1 = jz (n : Int) := by rw [p4.2 M 1 (by simp <;> omega) (fun q => absurd q.2 (by decide))]; exact n1
  rcases G4.2.1 with eg | eg
  · subst eg
    have nt : ¬ tells s.2.2.1 := fun e => by have := hgE4 e; omega
    exact r70_24 ⟨hs4.1, _, G4.1, ⟨by omega, by omega⟩, fun _ => ⟨fun _ => K62 h4 _ J4 KP4 nt, fun x => absurd rfl x⟩, fun x => absurd rfl x⟩
  subst eg
  obtain ⟨pt, hpt⟩ := hg4 rfl
  -- is it written so; then names
  have K69 : ∀ (h5 : jm_H) (ts : List (List Int)) (l1 : Option jm_V), jq M [35, 36] [M + 4, M + 5] h4 h5 → cT h5 M ts → (tells s.2.2.1 → ∀ k, k < rs.length → ts.getD k [] = ((ldR s.2.2.1).getD k rv0).2.2.2) → jm_E dh_pr (d + 4) 69 [.inr (.inl M)] h5 (jm_k dh_pr (d + 4) 70 (fun o h' => mp (ldF s).1 (ldF s).2 M o h h') 53 [some (.inr (.inl M)), l1] [] 50) := by
    intro h5 ts l1 p5 T5 hts
    have J5 : jq M ldK (ldS M) h h5 := J4.trans (up p5 (by decide) (fun b hb => by simp at hb; simp [ldS]; omega))
    have KP5 := KP p5 (by simp <;> omega) (by decide) (fun i h1 h2 => by simp; omega) KP4
    have hs5 := hs.js J5.1
    have U5 := U4.jq p5 (by simp <;> omega) (by decide) (by simp <;> omega)
    have U5' : cU h5 M (mkR rs ts) := by
      refine ⟨?_, ?_, ?_⟩
      · rw [pS_of_bl (bl_mkR rs ts)]; exact U5.1
      · rw [mkR_map _ (fun _ _ _ _ _ => rfl)]; exact U5.2.1
      · rw [mkR_map _ (fun _ _ _ _ _ => rfl)]; exact U5.2.2
    have eT5 : tS (mkR rs ts) = ts.take (mkR rs ts).length := by rw [tS_mkR (by rw [T5.1]; exact ok3.1), mkR_len]
    have ok5 := okH_mkR ok3 T5
    have same : tells s.2.2.1 → mkR rs ts = ldR s.2.2.1 := fun e => by
      refine rv_ext ?_ (fun k hk => ?_)
      · rw [bl_mkR, (hE3 e).1]
        unfold bl
        rw [List.map_map]; rfl
      · rw [mkR_len] at hk
        rw [mkR_at hk]
        exact hts e k hk
    refine jm_callI (s69 hs5 (cfx J5) b8 (cV_mk U5' T5 eT5) ok5) ?_
    rintro z h6 ⟨p6, ⟨rfl, g6⟩ | ⟨rfl, g6⟩⟩
    · have tt : tells s.2.2.1 := ⟨_, ok5, g6⟩
      have er := same tt
      rw [ldF_y tt, ← er]
      have J6 : jq M ldK (ldS M) h h6 := J5.trans (up p6 (by decide) (fun b hb => by simp [mS] at hb; simp [ldS]; omega))
      have U6 := U5'.jq p6 (by simp [mS]) (by decide) (by simp [mS])
      have T6 : cT h6 M ts := T5.jq p6 (by simp [mS]) (by simp [mS])
      have n6 : jm_I h6 M 1 = jz ((mkR rs ts).length : Int) := by rw [← pS_len]; exact U6.1.1
      have l6 := ok5.1
      have LN : ∀ (m r : Nat) (h7 : jm_H) (v1 : Int), r + m = (mkR rs ts).length → v1 = r → jq M [] [M + 6, M + 7] h6 h7 → nmr h7 M (pS (mkR rs ts)) r → jm_W dh_pr (d + 4) 70 (64, [some (.inr (.inl M)), some (.inl (jz v1))], [], h7) (fun o h' => mp (((mkR rs ts).length : Int), (s.1, mkR rs ts, s.2.2)).1 (((mkR rs ts).length : Int), (s.1, mkR rs ts, s.2.2)).2 M o h h') := by
        intro m
        induction m with
        | zero =>
          intro r h7 v1 e e1 p7 nm7
          have hs7 := (hs.js J6.1).js p7.1
          have n7 : jm_I h7 M 1 = jz ((mkR rs ts).length : Int) := by rw [p7.2 M 1 (by simp <;> omega) (by simp <;> omega)]; exact n6
          refine r70_64 ⟨hs7.1, _, n7, ⟨by omega, by omega⟩, ⟨by omega, by omega⟩, fun _ => ⟨rfl, ?_, (upA J6).trans (mA_up p7 (fun k hk => by cases hk) (fun b hb => by simp at hb; omega))⟩, fun w => absurd w (by omega)⟩
          obtain ⟨a1, a2, a4, a6, a7, a8, a9, a10⟩ := N
          refine ⟨hs7, (a2.jq J6 (by simp [ldS]) (by decide) (by simp [ldS])).jq p7 (by simp <;> omega) (by simp <;> omega) (by simp <;> omega), U6.jq p7 (by simp <;> omega) (by simp <;> omega) (by simp <;> omega), ⟨ts, T6.jq p7 (by simp <;> omega) (by simp <;> omega), eT5⟩, (a6.jq J6 (by simp [ldS]) (by decide) (by simp [ldS])).jq p7 (by simp <;> omega) (by simp <;> omega) (by simp <;> omega), (a7.jq J6 (by simp [ldS]) (by decide) (by simp [ldS])).jq p7 (by simp <;> omega) (by simp <;> omega) (by simp <;> omega), ?_, (a9.jq J6 (by simp [ldS]) (by decide) (fun i h1 h2 => by simp [ldS]; omega)).jq p7 (by simp <;> omega) (by simp <;> omega) (fun i h1 h2 => by simp; omega), ?_⟩
          · rw [p7.2 M 15 (by simp <;> omega) (by simp <;> omega), J6.2 M 15 (by simp [ldS]) (fun q => absurd q.2 (by decide))]; exact a8
          · show nmr h7 M (pS (mkR rs ts)) (mkR rs ts).length
            rw [show (mkR rs ts).length = r by omega]; exact nm7
        | succ m ih =>
          intro r h7 v1 e e1 p7 nm7
          subst e1
          have hs7 := (hs.js J6.1).js p7.1
          have n7 : jm_I h7 M 1 = jz ((mkR rs ts).length : Int) := by rw [p7.2 M 1 (by simp <;> omega) (by simp <;> omega)]; exact n6
          refine r70_64 ⟨hs7.1, _, n7, ⟨by omega, by omega⟩, ⟨by omega, by omega⟩, fun w => absurd w (by omega), fun _ => jm_callV (s40 hs7 (U6.1.2.jq p7 (by simp <;> omega) (by omega)) (by rw [pS_len]; exact l6) ok5.2.1 (by rw [pS_len]; omega) nm7) ?_⟩
          rintro h8 ⟨p8, nm8⟩
          exact r70_77 (ih (r + 1) h8 _ (by omega) (by omega) (p7.trans p8) nm8)
      exact r70_53 ⟨⟨by omega, by omega⟩, fun _ => LN (mkR rs ts).length 0 h6 0 (by omega) (by omega) (jq.refl _ _ _ _) (fun k hk => absurd hk (Nat.not_lt_zero k)), fun x => absurd x (by omega)⟩
    · have nt : ¬ tells s.2.2.1 := fun e => g6 (by rw [same e]; exact (ldR_ok e).2)
      have J6 : jq M ldK (ldS M) h h6 := J5.trans (up p6 (by decide) (fun b hb => by simp [mS] at hb; simp [ldS]; omega))
      have KP6 := KP p6 (by simp [mS]) (by decide) (fun i h1 h2 => by simp [mS]; omega) KP5
      exact r70_53 ⟨⟨by omega, by omega⟩, fun x => absurd rfl x, fun _ => ⟨(hs.js J6.1).1, K62 h6 _ J6 KP6 nt⟩⟩
  refine r70_24 ⟨hs4.1, _, G4.1, ⟨by omega, by omega⟩, fun x => absurd x (by omega), fun _ => ⟨_, n4, ⟨by omega, by omega⟩, fun w => ⟨fun x => absurd x (by omega), fun _ => K69 h4 ts0 _ (jq.refl _ _ _ _) T4 (fun e k hk => by omega)⟩, fun w => jm_E_mono _ _ _ _ _ _ ?_ (s68 (rs0 := ldR s.2.2.1) (E := tells s.2.2.1) hs4 (cfx J4) b8 U4 ok3 (by omega) T4 G4 hpt (fun e => ⟨(ldR_ok e).1, (hE3 e).1⟩))⟩⟩
  rintro o h5 ⟨rfl, p5, g5, pl5, ts5, G5, T5, hE5⟩
  have J5 : jq M ldK (ldS M) h h5 := J4.trans (up p5 (by decide) (fun b hb => by simp at hb; simp [ldS]; omega))
  have KP5 := KP p5 (by simp <;> omega) (by decide) (fun i h1 h2 => by simp; omega) KP4
  rcases G5.2.1 with eg | eg
  · subst eg
    have nt : ¬ tells s.2.2.1 := fun e => by have := (hE5 e).1; omega
    exact r70_42 ⟨(hs.js J5.1).1, _, G5.1, ⟨by omega, by omega⟩, fun _ => K62 h5 _ J5 KP5 nt, fun x => absurd rfl x⟩
  · subst eg
    exact r70_42 ⟨(hs.js J5.1).1, _, G5.1, ⟨by omega, by omega⟩, fun x => absurd x (by omega), fun _ => K69 h5 ts5 _ p5 T5 (fun e => (hE5 e).2)⟩
