/-! The class itself: its shape; the desk's methods. -/
/-- the object X and what it made, one behind another: 180 addresses; the two histories may stand either way round -/
def shX (h : jm_H) (X c p : Nat) : Prop := jm_T h X = 1 ∧ (jm_F h X 0 = X + 1 ∧ jm_F h X 1 = X + 3 ∧ jm_F h X 2 = X + 5 ∧ jm_F h X 3 = X + 7 ∧ jm_F h X 4 = X + 27 ∧ jm_F h X 5 = X + 29 ∧ jm_F h X 6 = X + 31 ∧ jm_F h X 7 = X + 33 ∧ jm_F h X 8 = X + 54 ∧ jm_F h X 9 = c ∧ jm_F h X 10 = p) ∧
  (shT h (X + 1) ∧ shT h (X + 3) ∧ shT h (X + 5)) ∧ shD h (X + 7) ∧ (shB h (X + 27) ∧ shB h (X + 29) ∧ shB h (X + 31)) ∧ shW h (X + 33) ∧ (jm_T h (X + 54) = 6 ∧ jm_F h (X + 54) 0 = X + 55 ∧ sha h (X + 55) 20) ∧ (shH h c ∧ shH h p) ∧ ((c = X + 56 ∧ p = X + 118) ∨ (c = X + 118 ∧ p = X + 56))
theorem shX.js {h h' : jm_H} {X c p : Nat} (s : shX h X c p) (q : js h h') : shX h' X c p := by
  obtain ⟨s1, ⟨f0, f1, f2, f3, f4, f5, f6, f7, f8, f9, f10⟩, ⟨t1, t2, t3⟩, t4, ⟨b1, b2, b3⟩, w1, ⟨r1, r2, r3⟩, ⟨h1, h2⟩, e⟩ := s
  have pf := q.2.2.2.2.1
  exact ⟨(q.2.2.1 _).trans s1, ⟨(pf _ _).trans f0, (pf _ _).trans f1, (pf _ _).trans f2, (pf _ _).trans f3, (pf _ _).trans f4, (pf _ _).trans f5, (pf _ _).trans f6, (pf _ _).trans f7, (pf _ _).trans f8, (pf _ _).trans f9, (pf _ _).trans f10⟩, ⟨t1.js q, t2.js q, t3.js q⟩, t4.js q, ⟨b1.js q, b2.js q, b3.js q⟩, w1.js q, ⟨(q.2.2.1 _).trans r1, (pf _ _).trans r2, r3.js q⟩, ⟨h1.js q, h2.js q⟩, e⟩
theorem s4 {d X c p : Nat} {h : jm_H} {xs : List Int} (hs : shX h X c p) (hc : cx h (X + 1) xs) : jm_E dh_pr (d + 1) 4 [.inr (.inl X)] h (fun o h' => o = .inl (some (.inl (jz xs.length))) ∧ h' = h) := e4 (r4_0 ⟨hs.1, _, hs.2.1.1, hs.2.2.1.1.1, _, hc.1, rfl, rfl⟩)
theorem s5 {d X c p : Nat} {h : jm_H} {xs : List Int} {k : Int} (hs : shX h X c p) (hc : cx h (X + 1) xs) (hk : jR k) : jm_E dh_pr (d + 2) 5 [.inr (.inl X), .inl (jz k)] h (fun o h' => o = .inl (some (.inl (jz (if 0 ≤ k ∧ k < xs.length then xs.getD k.toNat 0 else -1)))) ∧ h' = h) := by
  refine e5 (r5_0 ⟨hs.1, _, hs.2.1.1, hs.2.2.1.1.1, jm_E_mono _ _ _ _ _ _ ?_ (s121 hs.2.2.1.1 hc hk)⟩)
  rintro o h' ⟨rfl, rfl⟩
  exact r5_8 ⟨rfl, rfl⟩
theorem s2 {d X c p : Nat} {h : jm_H} {xs : List Int} {k v : Int} (hs : shX h X c p) (hc : cx h (X + 1) xs) (hk : jR k) (hv : jR v) : jm_E dh_pr (d + 3) 2 [.inr (.inl X), .inl (jz k), .inl (jz v)] h (fun o h' => ∃ z : Int, o = .inl (some (.inl (jz z))) ∧ jf [X + 1, X + 2] h h' ∧ ((z = 1 ∧ (okl v xs.length ∧ 0 ≤ k ∧ k ≤ xs.length) ∧ cx h' (X + 1) (xs.take k.toNat ++ v :: xs.drop k.toNat)) ∨ (z = 0 ∧ ¬ (okl v xs.length ∧ 0 ≤ k ∧ k ≤ xs.length) ∧ cx h' (X + 1) xs))) := by
  refine e2 (r2_0 ⟨hs.1, _, hs.2.1.1, hs.2.2.1.1.1, jm_callI (s123 hs.2.2.1.1 hc hk hv) ?_⟩)
  rintro z h' (⟨rfl, ho, hf, hc'⟩ | ⟨rfl, ho, rfl⟩)
  · exact r2_9 ⟨Or.inr rfl, 1, rfl, hf, Or.inl ⟨rfl, ho, hc'⟩⟩
  · exact r2_9 ⟨Or.inl rfl, 0, rfl, jf.refl _ _, Or.inr ⟨rfl, ho, hc⟩⟩
theorem s3 {d X c p : Nat} {h : jm_H} {xs : List Int} {k : Int} (hs : shX h X c p) (hc : cx h (X + 1) xs) (hk : jR k) : jm_E dh_pr (d + 2) 3 [.inr (.inl X), .inl (jz k)] h (fun o h' => jf [X + 1, X + 2] h h' ∧ (((0 ≤ k ∧ k < xs.length) ∧ o = .inl (some (.inl (jz (xs.getD k.toNat 0)))) ∧ cx h' (X + 1) (xs.take k.toNat ++ xs.drop (k.toNat + 1))) ∨ (¬ (0 ≤ k ∧ k < xs.length) ∧ o = .inl (some (.inl (jz (-1)))) ∧ cx h' (X + 1) xs))) := by
  refine e3 (r3_0 ⟨hs.1, _, hs.2.1.1, hs.2.2.1.1.1, jm_E_mono _ _ _ _ _ _ ?_ (s124 hs.2.2.1.1 hc hk)⟩)
  rintro o h' (⟨hk', rfl, hf, hc'⟩ | ⟨hk', rfl, rfl⟩)
  · exact r3_8 ⟨hf, Or.inl ⟨hk', rfl, hc'⟩⟩
  · exact r3_8 ⟨jf.refl _ _, Or.inr ⟨hk', rfl, hc⟩⟩
theorem s1 {d X e p : Nat} {h : jm_H} {xs : List Int} {a b c : Int} (hs : shX h X e p) (hc : cx h (X + 1) xs) : jm_E dh_pr (d + 3) 1 [.inr (.inl X), .inl (jz a), .inl (jz b), .inl (jz c)] h (fun o h' => ∃ z : Int, o = .inl (some (.inl (jz z))) ∧ jf [X + 1, X + 2, X + 3, X + 4] h h' ∧ ((z = 1 ∧ okB (jb12 a b c) ∧ cx h' (X + 1) (nzs (jb12 a b c))) ∨ (z = 0 ∧ ¬ okB (jb12 a b c) ∧ cx h' (X + 1) xs))) := by
  have spec := apB_spec (jb12 a b c) [] (by show 0 + 12 ≤ 12; omega)
  have ap : apB [] (jb12 a b c) = (apB [] (jb4 a)).bind (fun ys => (apB ys (jb4 b)).bind (fun zs => apB zs (jb4 c))) := by
    rw [jb12, apB_app]
    congr 1
    funext ys
    rw [apB_app]
  have no : apB [] (jb12 a b c) = none → ¬ okB (jb12 a b c) := fun h1 h2 => by rw [spec.1 h2] at h1; cases h1
  have up : ∀ {h1 h2 : jm_H}, jf [X + 3, X + 3 + 1] h1 h2 → jf [X + 1, X + 2, X + 3, X + 4] h1 h2 := fun q => q.mono (by simp)
  have keep : ∀ {h2 : jm_H}, jf [X + 3, X + 3 + 1] h h2 → cx h2 (X + 1) xs := fun q => hc.jf q (by simp) (by simp)
  refine e1 (r1_0 ⟨hs.1, _, hs.2.1.2.1, hs.2.2.1.2.1.1, jm_callV (s119 hs.2.2.1.2.1) ?_⟩)
  rintro h1 ⟨hf1', hc1⟩
  have hf1 : jf [X + 3, X + 3 + 1] h h1 := hf1'.mono (by simp)
  have hs1 := hs.js hf1.1
  refine r1_7 ⟨hs1.1, _, hs1.2.1.2.1, hs1.2.2.1.2.1.1, jm_callI (s125 (w := a) hs1.2.2.1.2.1 hc1) ?_⟩
  rintro z h2 ⟨hf2', ⟨rfl, ys, ey, hc2⟩ | ⟨rfl, ey⟩⟩
  · have hf2 := hf1.trans hf2'
    have hs2 := hs.js hf2.1
    refine r1_15 ⟨⟨by omega, by omega⟩, fun q => absurd q (by omega), fun _ => ⟨hs2.1, _, hs2.2.1.2.1, hs2.2.2.1.2.1.1, jm_callI (s125 (w := b) hs2.2.2.1.2.1 hc2) ?_⟩⟩
    rintro z h3 ⟨hf3', ⟨rfl, zs, ez, hc3⟩ | ⟨rfl, ez⟩⟩
    · have hf3 := hf2.trans hf3'
      have hs3 := hs.js hf3.1
      refine r1_26 ⟨⟨by omega, by omega⟩, fun q => absurd q (by omega), fun _ => ⟨hs3.1, _, hs3.2.1.2.1, hs3.2.2.1.2.1.1, jm_callI (s125 (w := c) hs3.2.2.1.2.1 hc3) ?_⟩⟩
      rintro z h4 ⟨hf4', ⟨rfl, us, eu, hc4⟩ | ⟨rfl, eu⟩⟩
      · have hf4 := hf3.trans hf4'
        have hs4 := hs.js hf4.1
        have full : apB [] (jb12 a b c) = some us := by rw [ap, ey]; show (apB ys (jb4 b)).bind _ = _; rw [ez]; exact eu
        have ok : okB (jb12 a b c) := Classical.byContradiction fun q => by rw [spec.2 q] at full; cases full
        have eus : us = nzs (jb12 a b c) := by
          rw [spec.1 ok, List.nil_append] at full
          exact (Option.some.inj full).symm
        refine r1_37 ⟨⟨by omega, by omega⟩, fun _ => ⟨hs4.1, _, hs4.2.1.1, _, hs4.2.1.2.1, hs4.2.2.1.1.1, jm_callV (s120 hs4.2.2.1.1 hs4.2.2.1.2.1 hc4) ?_⟩, fun q => absurd q (by omega)⟩
        rintro h5 ⟨hf5, hc5⟩
        exact r1_53 ⟨1, rfl, (up hf4).trans (hf5.mono (by simp)), Or.inl ⟨rfl, ok, by rw [← eus]; exact hc5⟩⟩
      · have hf4 := hf3.trans hf4'
        exact r1_37 ⟨⟨by omega, by omega⟩, fun q => absurd rfl q, fun _ => ⟨0, rfl, up hf4, Or.inr ⟨rfl, no (by rw [ap, ey]; show (apB ys (jb4 b)).bind _ = _; rw [ez]; exact eu), keep hf4⟩⟩⟩
    · have hf3 := hf2.trans hf3'
      exact r1_26 ⟨⟨by omega, by omega⟩, fun _ => ⟨0, rfl, up hf3, Or.inr ⟨rfl, no (by rw [ap, ey]; show (apB ys (jb4 b)).bind _ = _; rw [ez]; rfl), keep hf3⟩⟩, fun q => absurd rfl q⟩
  · have hf2 := hf1.trans hf2'
    exact r1_15 ⟨⟨by omega, by omega⟩, fun _ => ⟨0, rfl, up hf2, Or.inr ⟨rfl, no (by rw [ap, ey]; rfl), keep hf2⟩⟩, fun q => absurd rfl q⟩
