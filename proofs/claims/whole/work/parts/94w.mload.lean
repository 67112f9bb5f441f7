/-! The reference: keeping, taking bytes, heads, adding lines. -/
theorem jz_of (x : Int32) : x = jz x.toInt := (jz_self x).symm
theorem s61 {d M : Nat} {h : jm_H} (hs : shM h M) : jm_E dh_pr (d + 1) 61 [.inr (.inl M)] h (fun o h' => o = .inl none ∧ jq M [37] [M + 25, M + 26, M + 27, M + 28, M + 29] h h' ∧ jm_I h' M 37 = jm_I h M 1 ∧ (∀ i, i < 20 → jm_I h' (M + 25) i = jm_I h (M + 1) i ∧ jm_I h' (M + 26) i = jm_I h (M + 2) i ∧ jm_I h' (M + 27) i = jm_I h (M + 3) i ∧ jm_I h' (M + 28) i = jm_I h (M + 4) i) ∧ ∀ i, i < 240 → jm_I h' (M + 29) i = jm_I h (M + 5) i) := by
  have L2 : ∀ (m j : Nat) (h1 : jm_H) (v1 : Int), j + m = 240 → v1 = j → jq M [37] [M + 25, M + 26, M + 27, M + 28, M + 29] h h1 → jm_I h1 M 37 = jm_I h M 1 → (∀ i, i < 20 → jm_I h1 (M + 25) i = jm_I h (M + 1) i ∧ jm_I h1 (M + 26) i = jm_I h (M + 2) i ∧ jm_I h1 (M + 27) i = jm_I h (M + 3) i ∧ jm_I h1 (M + 28) i = jm_I h (M + 4) i) → (∀ i, i < j → jm_I h1 (M + 29) i = jm_I h (M + 5) i) → jm_W dh_pr d 61 (72, [some (.inr (.inl M)), some (.inl (jz v1))], [], h1) (fun o h' => o = .inl none ∧ jq M [37] [M + 25, M + 26, M + 27, M + 28, M + 29] h h' ∧ jm_I h' M 37 = jm_I h M 1 ∧ (∀ i, i < 20 → jm_I h' (M + 25) i = jm_I h (M + 1) i ∧ jm_I h' (M + 26) i = jm_I h (M + 2) i ∧ jm_I h' (M + 27) i = jm_I h (M + 3) i ∧ jm_I h' (M + 28) i = jm_I h (M + 4) i) ∧ ∀ i, i < 240 → jm_I h' (M + 29) i = jm_I h (M + 5) i) := by
    intro m
    induction m with
    | zero =>
      intro j h1 v1 e e1 p a1 a2 a3
      exact r61_72 ⟨⟨by omega, by omega⟩, fun _ => ⟨rfl, p, a1, a2, fun i hi => a3 i (by omega)⟩, fun w => absurd w (by omega)⟩
    | succ m ih =>
      intro j h1 v1 e e1 p a1 a2 a3
      have hs1 := hs.js p.1
      obtain ⟨f29, g29, n29⟩ := hs1.f 42 29 240 (by decide)
      obtain ⟨f5, g5, n5⟩ := hs1.f 6 5 240 (by decide)
      have ev : v1.toNat = j := by omega
      refine r61_72 ⟨⟨by omega, by omega⟩, fun w => absurd w (by omega), fun _ => ⟨hs1.1, _, f29, _, f5, g5, _, n5, ⟨by omega, by omega, by omega⟩, _, jz_of _, g29, _, n29, ⟨by omega, by omega, by omega⟩, ih (j + 1) _ _ (by omega) (by omega) (p.sI (by simp <;> omega)) (by rw [off1 (by omega)]; exact a1) (fun i hi => ?_) (fun i hi => ?_)⟩⟩
      · rw [off1 (by omega), off1 (by omega), off1 (by omega), off1 (by omega)]; exact a2 i hi
      · rw [jr_I_sI]
        by_cases ei : i = j
        · rw [if_pos ⟨rfl, by omega⟩, jz_self, ev, ei]
          exact p.2 _ _ (by simp <;> omega) (by omega)
        · rw [if_neg (by omega)]; exact a3 i (by omega)
  have L1 : ∀ (m j : Nat) (h1 : jm_H) (v1 : Int), j + m = 20 → v1 = j → jq M [37] [M + 25, M + 26, M + 27, M + 28, M + 29] h h1 → jm_I h1 M 37 = jm_I h M 1 → (∀ i, i < j → jm_I h1 (M + 25) i = jm_I h (M + 1) i ∧ jm_I h1 (M + 26) i = jm_I h (M + 2) i ∧ jm_I h1 (M + 27) i = jm_I h (M + 3) i ∧ jm_I h1 (M + 28) i = jm_I h (M + 4) i) → jm_W dh_pr d 61 (10, [some (.inr (.inl M)), some (.inl (jz v1))], [], h1) (fun o h' => o = .inl none ∧ jq M [37] [M + 25, M + 26, M + 27, M + 28, M + 29] h h' ∧ jm_I h' M 37 = jm_I h M 1 ∧ (∀ i, i < 20 → jm_I h' (M + 25) i = jm_I h (M + 1) i ∧ jm_I h' (M + 26) i = jm_I h (M + 2) i ∧ jm_I h' (M + 27) i = jm_I h (M + 3) i ∧ jm_I h' (M + 28) i = jm_I h (M + 4) i) ∧ ∀ i, i < 240 → jm_I h' (M + 29) i = jm_I h (M + 5) i) := by
    intro m
    induction m with
    | zero =>
      intro j h1 v1 e e1 p a1 a2
      exact r61_10 ⟨⟨by omega, by omega⟩, fun _ => L2 240 0 h1 0 (by omega) (by omega) p a1 (fun i hi => a2 i (by omega)) (fun i hi => absurd hi (Nat.not_lt_zero i)), fun w => absurd w (by omega)⟩
    | succ m ih =>
      intro j h1 v1 e e1 p a1 a2
      have hs1 := hs.js p.1
      obtain ⟨f25, g25, n25⟩ := hs1.f 38 25 20 (by decide)
      obtain ⟨f26, g26, n26⟩ := hs1.f 39 26 20 (by decide)
      obtain ⟨f27, g27, n27⟩ := hs1.f 40 27 20 (by decide)
      obtain ⟨f28, g28, n28⟩ := hs1.f 41 28 20 (by decide)
      obtain ⟨f1, g1, n1⟩ := hs1.f 2 1 20 (by decide)
      obtain ⟨f2, g2, n2⟩ := hs1.f 3 2 20 (by decide)
      obtain ⟨f3, g3, n3⟩ := hs1.f 4 3 20 (by decide)
      obtain ⟨f4, g4, n4⟩ := hs1.f 5 4 20 (by decide)
      have ev : v1.toNat = j := by omega
      have ki : jzi v1 20 := ⟨by omega, by omega, by omega⟩
      refine r61_10 ⟨⟨by omega, by omega⟩, fun w => absurd w (by omega), fun _ => ⟨hs1.1, _, f25, _, f1, g1, _, n1, ki, _, jz_of _, g25, _, n25, ki, _, f26, _, f2, g2, _, n2, ki, _, jz_of _, g26, _, n26, ki, _, f27, _, f3, g3, _, n3, ki, _, jz_of _, g27, _, n27, ki, _, f28, _, f4, g4, _, n4, ki, _, jz_of _, g28, _, n28, ki, ih (j + 1) _ _ (by omega) (by omega) ((((p.sI (by simp <;> omega)).sI (by simp <;> omega)).sI (by simp <;> omega)).sI (by simp <;> omega)) (by rw [off1 (by omega), off1 (by omega), off1 (by omega), off1 (by omega)]; exact a1) (fun i hi => ?_)⟩⟩
      simp only [jz_self, ev]
      by_cases ei : i = j
      · subst ei
        refine ⟨?_, ?_, ?_, ?_⟩
        · rw [off1 (by omega), off1 (by omega), off1 (by omega), jr_I_self]
          exact p.2 _ _ (by simp <;> omega) (by omega)
        · rw [off1 (by omega), off1 (by omega), jr_I_self, off1 (by omega)]
          exact p.2 _ _ (by simp <;> omega) (by omega)
        · rw [off1 (by omega), jr_I_self, off1 (by omega), off1 (by omega)]
          exact p.2 _ _ (by simp <;> omega) (by omega)
        · rw [jr_I_self, off1 (by omega), off1 (by omega), off1 (by omega)]
          exact p.2 _ _ (by simp <;> omega) (by omega)
      · obtain ⟨b1, b2, b3, b4⟩ := a2 i (by omega)
        refine ⟨?_, ?_, ?_, ?_⟩
        · rw [off1 (by omega), off1 (by omega), off1 (by omega), jr_I_fld ei]; exact b1
        · rw [off1 (by omega), off1 (by omega), jr_I_fld ei, off1 (by omega)]; exact b2
        · rw [off1 (by omega), jr_I_fld ei, off1 (by omega), off1 (by omega)]; exact b3
        · rw [jr_I_fld ei, off1 (by omega), off1 (by omega), off1 (by omega)]; exact b4
  refine e61 (r61_0 ⟨hs.1, _, jz_of _, L1 20 0 _ 0 (by omega) (by omega) ((jq.refl _ _ _ h).sM (by simp <;> omega)) (by rw [jr_I_self, jz_self]) (fun i hi => absurd hi (Nat.not_lt_zero i))⟩)
theorem s62 {d M : Nat} {h : jm_H} (hs : shM h M) : jm_E dh_pr (d + 1) 62 [.inr (.inl M)] h (fun o h' => o = .inl none ∧ jq M [1] [M + 1, M + 2, M + 3, M + 4, M + 5] h h' ∧ jm_I h' M 1 = jm_I h M 37 ∧ (∀ i, i < 20 → jm_I h' (M + 1) i = jm_I h (M + 25) i ∧ jm_I h' (M + 2) i = jm_I h (M + 26) i ∧ jm_I h' (M + 3) i = jm_I h (M + 27) i ∧ jm_I h' (M + 4) i = jm_I h (M + 28) i) ∧ ∀ i, i < 240 → jm_I h' (M + 5) i = jm_I h (M + 29) i) := by
  have L2 : ∀ (m j : Nat) (h1 : jm_H) (v1 : Int), j + m = 240 → v1 = j → jq M [1] [M + 1, M + 2, M + 3, M + 4, M + 5] h h1 → jm_I h1 M 1 = jm_I h M 37 → (∀ i, i < 20 → jm_I h1 (M + 1) i = jm_I h (M + 25) i ∧ jm_I h1 (M + 2) i = jm_I h (M + 26) i ∧ jm_I h1 (M + 3) i = jm_I h (M + 27) i ∧ jm_I h1 (M + 4) i = jm_I h (M + 28) i) → (∀ i, i < j → jm_I h1 (M + 5) i = jm_I h (M + 29) i) → jm_W dh_pr d 62 (72, [some (.inr (.inl M)), some (.inl (jz v1))], [], h1) (fun o h' => o = .inl none ∧ jq M [1] [M + 1, M + 2, M + 3, M + 4, M + 5] h h' ∧ jm_I h' M 1 = jm_I h M 37 ∧ (∀ i, i < 20 → jm_I h' (M + 1) i = jm_I h (M + 25) i ∧ jm_I h' (M + 2) i = jm_I h (M + 26) i ∧ jm_I h' (M + 3) i = jm_I h (M + 27) i ∧ jm_I h' (M + 4) i = jm_I h (M + 28) i) ∧ ∀ i, i < 240 → jm_I h' (M + 5) i = jm_I h (M + 29) i) := by
    intro m
    induction m with
    | zero =>
      intro j h1 v1 e e1 p a1 a2 a3
      exact r62_72 ⟨⟨by omega, by omega⟩, fun _ => ⟨rfl, p, a1, a2, fun i hi => a3 i (by omega)⟩, fun w => absurd w (by omega)⟩
    | succ m ih =>
      intro j h1 v1 e e1 p a1 a2 a3
      have hs1 := hs.js p.1
      obtain ⟨f29, g29, n29⟩ := hs1.f 42 29 240 (by decide)
      obtain ⟨f5, g5, n5⟩ := hs1.f 6 5 240 (by decide)
      have ev : v1.toNat = j := by omega
      refine r62_72 ⟨⟨by omega, by omega⟩, fun w => absurd w (by omega), fun _ => ⟨hs1.1, _, f5, _, f29, g29, _, n29, ⟨by omega, by omega, by omega⟩, _, jz_of _, g5, _, n5, ⟨by omega, by omega, by omega⟩, ih (j + 1) _ _ (by omega) (by omega) (p.sI (by simp <;> omega)) (by rw [off1 (by omega)]; exact a1) (fun i hi => ?_) (fun i hi => ?_)⟩⟩
      · rw [off1 (by omega), off1 (by omega), off1 (by omega), off1 (by omega)]; exact a2 i hi
      · rw [jr_I_sI]
        by_cases ei : i = j
        · rw [if_pos ⟨rfl, by omega⟩, jz_self, ev, ei]
          exact p.2 _ _ (by simp <;> omega) (by omega)
        · rw [if_neg (by omega)]; exact a3 i (by omega)
  have L1 : ∀ (m j : Nat) (h1 : jm_H) (v1 : Int), j + m = 20 → v1 = j → jq M [1] [M + 1, M + 2, M + 3, M + 4, M + 5] h h1 → jm_I h1 M 1 = jm_I h M 37 → (∀ i, i < j → jm_I h1 (M + 1) i = jm_I h (M + 25) i ∧ jm_I h1 (M + 2) i = jm_I h (M + 26) i ∧ jm_I h1 (M + 3) i = jm_I h (M + 27) i ∧ jm_I h1 (M + 4) i = jm_I h (M + 28) i) → jm_W dh_pr d 62 (10, [some (.inr (.inl M)), some (.inl (jz v1))], [], h1) (fun o h' => o = .inl none ∧ jq M [1] [M + 1, M + 2, M + 3, M + 4, M + 5] h h' ∧ jm_I h' M 1 = jm_I h M 37 ∧ (∀ i, i < 20 → jm_I h' (M + 1) i = jm_I h (M + 25) i ∧ jm_I h' (M + 2) i = jm_I h (M + 26) i ∧ jm_I h' (M + 3) i = jm_I h (M + 27) i ∧ jm_I h' (M + 4) i = jm_I h (M + 28) i) ∧ ∀ i, i < 240 → jm_I h' (M + 5) i = jm_I h (M + 29) i) := by
    intro m
    induction m with
    | zero =>
      intro j h1 v1 e e1 p a1 a2
      exact r62_10 ⟨⟨by omega, by omega⟩, fun _ => L2 240 0 h1 0 (by omega) (by omega) p a1 (fun i hi => a2 i (by omega)) (fun i hi => absurd hi (Nat.not_lt_zero i)), fun w => absurd w (by omega)⟩
    | succ m ih =>
      intro j h1 v1 e e1 p a1 a2
      have hs1 := hs.js p.1
      obtain ⟨f25, g25, n25⟩ := hs1.f 38 25 20 (by decide)
      obtain ⟨f26, g26, n26⟩ := hs1.f 39 26 20 (by decide)
      obtain ⟨f27, g27, n27⟩ := hs1.f 40 27 20 (by decide)
      obtain ⟨f28, g28, n28⟩ := hs1.f 41 28 20 (by decide)
      obtain ⟨f1, g1, n1⟩ := hs1.f 2 1 20 (by decide)
      obtain ⟨f2, g2, n2⟩ := hs1.f 3 2 20 (by decide)
      obtain ⟨f3, g3, n3⟩ := hs1.f 4 3 20 (by decide)
      obtain ⟨f4, g4, n4⟩ := hs1.f 5 4 20 (by decide)
      have ev : v1.toNat = j := by omega
      have ki : jzi v1 20 := ⟨by omega, by omega, by omega⟩
      refine r62_10 ⟨⟨by omega, by omega⟩, fun w => absurd w (by omega), fun _ => ⟨hs1.1, _, f1, _, f25, g25, _, n25, ki, _, jz_of _, g1, _, n1, ki, _, f2, _, f26, g26, _, n26, ki, _, jz_of _, g2, _, n2, ki, _, f3, _, f27, g27, _, n27, ki, _, jz_of _, g3, _, n3, ki, _, f4, _, f28, g28, _, n28, ki, _, jz_of _, g4, _, n4, ki, ih (j + 1) _ _ (by omega) (by omega) ((((p.sI (by simp <;> omega)).sI (by simp <;> omega)).sI (by simp <;> omega)).sI (by simp <;> omega)) (by rw [off1 (by omega), off1 (by omega), off1 (by omega), off1 (by omega)]; exact a1) (fun i hi => ?_)⟩⟩
      simp only [jz_self, ev]
      by_cases ei : i = j
      · subst ei
        refine ⟨?_, ?_, ?_, ?_⟩
        · rw [off1 (by omega), off1 (by omega), off1 (by omega), jr_I_self]
          exact p.2 _ _ (by simp <;> omega) (by omega)
        · rw [off1 (by omega), off1 (by omega), jr_I_self, off1 (by omega)]
          exact p.2 _ _ (by simp <;> omega) (by omega)
        · rw [off1 (by omega), jr_I_self, off1 (by omega), off1 (by omega)]
          exact p.2 _ _ (by simp <;> omega) (by omega)
        · rw [jr_I_self, off1 (by omega), off1 (by omega), off1 (by omega)]
          exact p.2 _ _ (by simp <;> omega) (by omega)
      · obtain ⟨b1, b2, b3, b4⟩ := a2 i (by omega)
        refine ⟨?_, ?_, ?_, ?_⟩
        · rw [off1 (by omega), off1 (by omega), off1 (by omega), jr_I_fld ei]; exact b1
        · rw [off1 (by omega), off1 (by omega), jr_I_fld ei, off1 (by omega)]; exact b2
        · rw [off1 (by omega), jr_I_fld ei, off1 (by omega), off1 (by omega)]; exact b3
        · rw [jr_I_fld ei, off1 (by omega), off1 (by omega), off1 (by omega)]; exact b4
  refine e62 (r62_0 ⟨hs.1, _, jz_of _, L1 20 0 _ 0 (by omega) (by omega) ((jq.refl _ _ _ h).sM (by simp <;> omega)) (by rw [jr_I_self, jz_self]) (fun i hi => absurd hi (Nat.not_lt_zero i))⟩)
/-- still good, and the place where it is read on -/
def GP (h : jm_H) (M : Nat) (g : Int) (pl : Nat) : Prop := jm_I h M 36 = jz g ∧ (g = 0 ∨ g = 1) ∧ jm_I h M 35 = jz (pl : Int)
theorem GP_jq {h h' : jm_H} {M pl : Nat} {g : Int} {ks S : List Nat} (G : GP h M g pl) (p : jq M ks S h h') (h0 : M ∉ S) (h1 : 35 ∉ ks) (h2 : 36 ∉ ks) : GP h' M g pl := ⟨(p.2 M 36 h0 (fun q => h2 q.2)).trans G.1, G.2.1, (p.2 M 35 h0 (fun q => h1 q.2)).trans G.2.2⟩
theorem tkM {d M pl : Nat} {h : jm_H} {fl : List Int} {g least most : Int} (hs : shM h M) (cf : cF h M fl) (b8 : by8 fl) (G : GP h M g pl) (hpl : pl ≤ 1000000) (hl : jR least) (hm : jR most) : jm_E dh_pr (d + 1) 63 [.inr (.inl M), .inl (jz least), .inl (jz most)] h (fun o h' => ∃ z : Int, o = .inl (some (.inl (jz z))) ∧ ∃ g' : Int, jq M [35, 36] [] h h' ∧ GP h' M g' (pl + 1) ∧ (g' = 1 → g = 1 ∧ least ≤ z ∧ z ≤ most) ∧ (g' = 0 → z = 0) ∧ (g = 1 → ∀ x t, DR fl pl (x :: t) → least ≤ x → x ≤ most → g' = 1 ∧ z = x ∧ DR fl (pl + 1) t)) := by
  obtain ⟨f9, g9, n9⟩ := hs.f 12 9 400 (by decide)
  have l4 := cf.2.1
  have P : ∀ y : Int, jq M [35, 36] [] h (jm_sI (jm_sI h M 36 (jz y)) M 35 (jz ((pl : Int) + 1))) := fun y => ((jq.refl _ _ _ h).sM (by simp <;> omega)).sM (by simp <;> omega)
  have GG : ∀ y : Int, (y = 0 ∨ y = 1) → GP (jm_sI (jm_sI h M 36 (jz y)) M 35 (jz ((pl : Int) + 1))) M y (pl + 1) := fun y hy => ⟨by rw [jr_I_fld (by decide), jr_I_self], hy, by rw [jr_I_self]; rfl⟩
  have bad : (g = 1 → ∀ x t, DR fl pl (x :: t) → ¬ (least ≤ x ∧ x ≤ most)) → ∃ z : Int, (.inl (some (.inl (jz 0))) : jm_R) = .inl (some (.inl (jz z))) ∧ ∃ g' : Int, jq M [35, 36] [] h (jm_sI (jm_sI h M 36 (jz 0)) M 35 (jz ((pl : Int) + 1))) ∧ GP (jm_sI (jm_sI h M 36 (jz 0)) M 35 (jz ((pl : Int) + 1))) M g' (pl + 1) ∧ (g' = 1 → g = 1 ∧ least ≤ z ∧ z ≤ most) ∧ (g' = 0 → z = 0) ∧ (g = 1 → ∀ x t, DR fl pl (x :: t) → least ≤ x → x ≤ most → g' = 1 ∧ z = x ∧ DR fl (pl + 1) t) := fun w => ⟨0, rfl, 0, P 0, GG 0 (Or.inl rfl), fun x => absurd x (by omega), fun _ => rfl, fun e x t a b c => absurd ⟨b, c⟩ (w e x t a)⟩
  refine e63 (r63_0 ⟨hs.1, _, G.1, by rcases G.2.1 with rfl | rfl <;> exact ⟨by decide, by decide⟩, fun q => ⟨fun _ => ⟨_, G.2.2, bad (fun e => by omega)⟩, fun x => absurd rfl x⟩, fun q => ⟨_, G.2.2, _, cf.1, ⟨by omega, by omega⟩, ⟨by omega, by omega⟩, fun q1 => ⟨fun _ => bad (fun e x t a => ?_), fun x => absurd rfl x⟩, fun q1 => ⟨_, f9, g9, _, n9, ⟨by omega, by omega, by omega⟩, fl.getD pl 0, ?_, ?_, hl, fun q2 => ⟨fun _ => bad (fun e x t a => ?_), fun x => absurd rfl x⟩, fun q2 => ⟨hm, fun q3 => ⟨fun _ => bad (fun e x t a => ?_), fun x => absurd rfl x⟩, fun q3 => ⟨fun x => absurd x (by omega), fun _ => ⟨_, rfl, 1, P 1, GG 1 (Or.inr rfl), fun _ => ⟨?_, q2, q3⟩, fun x => absurd x (by omega), fun e x t a b c => ⟨rfl, ?_⟩⟩⟩⟩⟩⟩⟩)
  · obtain ⟨a1, a2⟩ := a
    rw [List.drop_eq_nil_of_le (by omega)] at a1
    cases a1
  · rw [show (pl : Int).toNat = pl by omega]; exact cf.2.2 pl (by omega)
  · have hl' : pl < fl.length := by omega
    have : 0 ≤ fl.getD pl 0 ∧ fl.getD pl 0 ≤ 255 := by
      rw [List.getD_eq_getElem?_getD, List.getElem?_eq_getElem hl']
      exact b8 _ (List.getElem_mem hl')
    constructor <;> omega
  · obtain ⟨a1, a2⟩ := a
    rw [drop_cons (by omega)] at a1
    injection a1 with a1 a3
    omega
  · obtain ⟨a1, a2⟩ := a
    rw [drop_cons (by omega)] at a1
    injection a1 with a1 a3
    omega
  · rcases G.2.1 with e | e
    · exact absurd e q
    · exact e
  · obtain ⟨a1, a2⟩ := a
    rw [drop_cons (by omega)] at a1
    injection a1 with a1 a3
    exact ⟨a1, a3, by omega⟩
/-- what readHeads leaves -/
def MH (h h' : jm_H) (M : Nat) (fl : List Int) (rs0 : List Rv) (t : List Int) (E : Prop) (o : jm_R) : Prop := o = .inl none ∧ jq M [1, 35, 36] [M + 1, M + 2, M + 3] h h' ∧ ∃ (n pl : Nat) (g : Int), jm_I h' M 1 = jz (n : Int) ∧ n ≤ 20 ∧ GP h' M g pl ∧ pl ≤ 100 ∧ (g = 1 → ∃ rs, rs.length = n ∧ cU h' M rs ∧ okH rs ∧ (E → rs = bl rs0 ∧ DR fl pl t)) ∧ (E → g = 1)
theorem s64 {d M : Nat} {h : jm_H} {fl t : List Int} {rs0 : List Rv} {E : Prop} (hs : shM h M) (cf : cF h M fl) (b8 : by8 fl) (hE : E → okH rs0 ∧ DR fl 0 ((rs0.length : Int) :: (rs0.flatMap hd3 ++ t))) : jm_E dh_pr (d + 2) 64 [.inr (.inl M)] h (fun o h' => MH h h' M fl rs0 t E o) := by
  have L : ∀ (m r pl n : Nat) (g : Int) (h1 : jm_H) (v1 : Int), r + m = n → n ≤ 20 → v1 = r → jq M [1, 35, 36] [M + 1, M + 2, M + 3] h h1 → jm_I h1 M 1 = jz (n : Int) → GP h1 M g pl → pl = 1 + 3 * r → (g = 1 → ∃ rs, rs.length = r ∧ row h1 (M + 1) (pS rs) ∧ row h1 (M + 2) (rs.map (fun r => r.2.1)) ∧ row h1 (M + 3) (rs.map (fun r => r.2.2.1)) ∧ okH rs ∧ (E → n = rs0.length ∧ rs = bl (rs0.take r) ∧ DR fl pl ((rs0.drop r).flatMap hd3 ++ t))) → (E → g = 1) → jm_W dh_pr (d + 1) 64 (23, [some (.inr (.inl M)), some (.inl (jz v1))], [], h1) (fun o h' => MH h h' M fl rs0 t E o) := by
    intro m
    induction m with
    | zero =>
      intro r pl n g h1 v1 e en e1 p1 c1 G hpl hi hg
      have hs1 := hs.js p1.1
      refine r64_23 ⟨hs1.1, _, c1, ⟨by omega, by omega⟩, ⟨by omega, by omega⟩, fun _ => ⟨rfl, p1, n, pl, g, c1, en, G, by omega, fun eg => ?_, hg⟩, fun w => absurd w (by omega)⟩
      obtain ⟨rs, a1, a2, a3, a4, a5, a6⟩ := hi eg
      refine ⟨rs, by omega, ⟨⟨by rw [c1, pS_len]; congr 2; omega, a2⟩, a3, a4⟩, a5, fun e5 => ?_⟩
      obtain ⟨b1, b2, b3⟩ := a6 e5
      rw [List.take_of_length_le (by omega)] at b2
      rw [List.drop_eq_nil_of_le (by omega)] at b3
      exact ⟨b2, b3⟩
    | succ m ih =>
      intro r pl n g h1 v1 e en e1 p1 c1 G hpl hi hg
      subst e1
      have hs1 := hs.js p1.1
      have cf1 := cf.jq p1 (by simp <;> omega) (by decide) (by simp <;> omega)
      obtain ⟨f1, g1, n1⟩ := hs1.f 2 1 20 (by decide)
      have er : (r : Int).toNat = r := by omega
      have ri : jzi (r : Int) 20 := ⟨by omega, by omega, by omega⟩
      -- behind the first byte of a head
      have K : ∀ (least : Int), (least = if r = 0 then 0 else 1) → jm_E dh_pr (d + 1) 63 [.inr (.inl M), .inl (jz least), .inl (jz (r : Int))] h1 (jm_k dh_pr (d + 1) 64 (fun o h' => MH h h' M fl rs0 t E o) 50 [some (.inr (.inl M)), some (.inl (jz (r : Int)))] [.inl (jz (r : Int)), .inr (.inl (M + 1))] 47) := by
        intro least hle
        refine jm_callI (tkM hs1 cf1 b8 G (by omega) (by split at hle <;> constructor <;> omega) ⟨by omega, by omega⟩) ?_
        rintro z1 h2 ⟨g1', p2, G2, a1, a2, a3⟩
        have P2 : jq M [1, 35, 36] [M + 1, M + 2, M + 3] h1 h2 := p2.mono (by simp <;> omega) (by simp <;> omega)
        have hs2 := hs1.js p2.1
        obtain ⟨f1', g1'', n1'⟩ := hs2.f 2 1 20 (by decide)
        obtain ⟨f2', g2', n2'⟩ := hs2.f 3 2 20 (by decide)
        have p3 : jq M [1, 35, 36] [M + 1, M + 2, M + 3] h2 (jm_sI h2 (M + 1) (r : Int).toNat (jz (z1 - 1))) := (jq.refl _ _ _ h2).sI (by simp <;> omega)
        have hs3 := hs2.js p3.1
        have cf3 := (cf1.jq P2 (by simp <;> omega) (by decide) (by simp <;> omega)).jq p3 (by simp <;> omega) (by decide) (by simp <;> omega)
        have G3 : GP (jm_sI h2 (M + 1) (r : Int).toNat (jz (z1 - 1))) M g1' (pl + 1) := ⟨by rw [off1 (by omega)]; exact G2.1, G2.2.1, by rw [off1 (by omega)]; exact G2.2.2⟩
        refine r64_50 ⟨g1'', _, n1', ri, hs2.1, _, f2', jm_callI (tkM hs3 cf3 b8 G3 (by omega) ⟨by omega, by omega⟩ ⟨by omega, by omega⟩) ?_⟩
        rintro z2 h4 ⟨g2'', p4, G4, b1, b2, b3⟩
        have P4 : jq M [1, 35, 36] [M + 1, M + 2, M + 3] h1 h4 := (P2.trans p3).trans (p4.mono (by simp <;> omega) (by simp <;> omega))
        have hs4 := hs1.js P4.1
        obtain ⟨f2'', g2''', n2''⟩ := hs4.f 3 2 20 (by decide)
        obtain ⟨f3', g3', n3'⟩ := hs4.f 4 3 20 (by decide)
        have p5 : jq M [1, 35, 36] [M + 1, M + 2, M + 3] h4 (jm_sI h4 (M + 2) (r : Int).toNat (jz z2)) := (jq.refl _ _ _ h4).sI (by simp <;> omega)
        have hs5 := hs4.js p5.1
        have cf5 := (cf1.jq P4 (by simp <;> omega) (by decide) (by simp <;> omega)).jq p5 (by simp <;> omega) (by decide) (by simp <;> omega)
        have G5 : GP (jm_sI h4 (M + 2) (r : Int).toNat (jz z2)) M g2'' (pl + 1 + 1) := ⟨by rw [off1 (by omega)]; exact G4.1, G4.2.1, by rw [off1 (by omega)]; exact G4.2.2⟩
        refine r64_64 ⟨g2''', _, n2'', ri, hs4.1, _, f3', jm_callI (tkM hs5 cf5 b8 G5 (by omega) ⟨by omega, by omega⟩ ⟨by omega, by omega⟩) ?_⟩
        rintro z3 h6 ⟨g3'', p6, G6, c1', c2', c3'⟩
        have P6 : jq M [1, 35, 36] [M + 1, M + 2, M + 3] h1 h6 := (P4.trans p5).trans (p6.mono (by simp <;> omega) (by simp <;> omega))
        have hs6 := hs1.js P6.1
        obtain ⟨f3'', g3''', n3''⟩ := hs6.f 4 3 20 (by decide)
        have p7 : jq M [1, 35, 36] [M + 1, M + 2, M + 3] h6 (jm_sI h6 (M + 3) (r : Int).toNat (jz (z3 - 1))) := (jq.refl _ _ _ h6).sI (by simp <;> omega)
        have G7 : GP (jm_sI h6 (M + 3) (r : Int).toNat (jz (z3 - 1))) M g3'' (pl + 1 + 1 + 1) := ⟨by rw [off1 (by omega)]; exact G6.1, G6.2.1, by rw [off1 (by omega)]; exact G6.2.2⟩
        have cn : jm_I (jm_sI h6 (M + 3) (r : Int).toNat (jz (z3 - 1))) M 1 = jz (n : Int) := by
          rw [off1 (by omega), p6.2 M 1 (by simp <;> omega) (fun q => absurd q.2 (by decide)), off1 (by omega), p4.2 M 1 (by simp <;> omega) (fun q => absurd q.2 (by decide)), off1 (by omega), p2.2 M 1 (by simp <;> omega) (fun q => absurd q.2 (by decide))]; exact c1
        -- what the bytes tell
        have GE : E → g3'' = 1 ∧ ∃ rs, (rs.length = r ∧ rs = bl (rs0.take r)) ∧ r < rs0.length ∧ z1 - 1 = (rs0.getD r rv0).1 ∧ z2 = (rs0.getD r rv0).2.1 ∧ z3 - 1 = (rs0.getD r rv0).2.2.1 ∧ DR fl (pl + 1 + 1 + 1) ((rs0.drop (r + 1)).flatMap hd3 ++ t) := by
          intro e5
          have eg := hg e5
          obtain ⟨rs, i1, i2, i3, i4, i5, i6⟩ := hi eg
          obtain ⟨j1, j2, j3⟩ := i6 e5
          have kk : r < rs0.length := by omega
          rw [rv_drop kk, List.flatMap_cons, hd3] at j3
          simp only [List.append_assoc, List.cons_append, List.nil_append] at j3
          obtain ⟨o1, o2, o3⟩ := (hE e5).1
          have ok3 := o3 _ kk
          have v := o2 r (by rw [pS_len]; exact kk)
          rw [pS_at kk] at v
          have vl : least ≤ (rs0.getD r rv0).1 + 1 ∧ (rs0.getD r rv0).1 + 1 ≤ r := by
            rcases Nat.eq_zero_or_pos r with e0 | e0
            · have := v.1 e0
              rw [if_pos e0] at hle
              omega
            · have := v.2 e0
              rw [if_neg (by omega)] at hle
              omega
          obtain ⟨k1, k2, k3⟩ := a3 eg _ _ j3 vl.1 vl.2
          obtain ⟨k4, k5, k6⟩ := b3 k1 _ _ k3 (by omega) (by omega)
          obtain ⟨k7, k8, k9⟩ := c3' k4 _ _ k6 (by omega) (by omega)
          exact ⟨k7, rs, ⟨i1, j2⟩, kk, by omega, k5, by omega, k9⟩
        refine r64_76 ⟨g3''', _, n3'', ri, ?_⟩
        refine ih (r + 1) (pl + 1 + 1 + 1) n g3'' _ _ (by omega) en (by omega) (p1.trans (P6.trans p7)) cn G7 (by omega) (fun eg => ?_) (fun e5 => (GE e5).1)
        obtain ⟨d1, d2, d3⟩ := c1' eg
        obtain ⟨d4, d5, d6⟩ := b1 d1
        obtain ⟨d7, d8, d9⟩ := a1 d4
        obtain ⟨rs, i1, i2, i3, i4, i5, i6⟩ := hi d7
        have okn := okH_snoc (p := z1 - 1) (u := z2) (l := z3 - 1) (t := []) i5 (by omega) (fun x => by rw [i1] at x; rw [if_pos x] at hle; omega) (fun x => by rw [i1] at x ⊢; rw [if_neg (by omega)] at hle; omega) ⟨d5, by omega⟩ ⟨by omega, by omega⟩ ⟨Nat.zero_le _, fun v hv => by cases hv⟩
        refine ⟨rs ++ [(z1 - 1, z2, z3 - 1, [])], by rw [List.length_append, List.length_singleton]; omega, ?_, ?_, ?_, okn, fun e5 => ?_⟩
        · rw [pS_snoc]
          have w1 := ((i2.jq p2 (by simp <;> omega) (by omega)).push' (v := z1 - 1) (n := (r : Int).toNat) (by rw [pS_len, i1, er]) rfl)
          have w2 := ((w1.jq p4 (by simp <;> omega) (by omega)).off (a := M + 2) (k := (r : Int).toNat) (x := jz z2) (by omega)).jq p6 (by simp <;> omega) (by omega)
          exact w2.off (by omega)
        · rw [List.map_append]
          have w1 := ((i3.jq p2 (by simp <;> omega) (by omega)).off (a := M + 1) (k := (r : Int).toNat) (x := jz (z1 - 1)) (by omega)).jq p4 (by simp <;> omega) (by omega)
          have w2 := (w1.push' (v := z2) (n := (r : Int).toNat) (by rw [List.length_map, i1, er]) rfl).jq p6 (by simp <;> omega) (by omega)
          exact w2.off (by omega)
        · rw [List.map_append]
          have w1 := ((i4.jq p2 (by simp <;> omega) (by omega)).off (a := M + 1) (k := (r : Int).toNat) (x := jz (z1 - 1)) (by omega)).jq p4 (by simp <;> omega) (by omega)
          have w2 := (w1.off (a := M + 2) (k := (r : Int).toNat) (x := jz z2) (by omega)).jq p6 (by simp <;> omega) (by omega)
          exact w2.push' (v := z3 - 1) (n := (r : Int).toNat) (by rw [List.length_map, i1, er]) rfl
        · obtain ⟨-, rs', ⟨j1, j2⟩, kk, j3, j4, j5, j6⟩ := GE e5
          obtain ⟨k1, k2, k3⟩ := i6 e5
          refine ⟨k1, ?_, j6⟩
          rw [take_snoc' (d := rv0) kk]
          unfold bl at k2 ⊢
          rw [List.map_append, ← k2]
          show rs ++ [(z1 - 1, z2, z3 - 1, [])] = rs ++ [blk0 (rs0.getD r rv0)]
          rw [j3, j4, j5]; rfl
      exact r64_23 ⟨hs1.1, _, c1, ⟨by omega, by omega⟩, ⟨by omega, by omega⟩, fun w => absurd w (by omega), fun _ => ⟨_, f1, fun w => K 1 (by rw [if_neg (by omega)]), fun w => K 0 (by rw [if_pos (by omega)])⟩⟩
  have p1 : jq M [1, 35, 36] [M + 1, M + 2, M + 3] h (jm_sI (jm_sI h M 36 (jz 1)) M 35 (jz 0)) := ((jq.refl _ _ _ h).sM (by simp <;> omega)).sM (by simp <;> omega)
  have hs1 := hs.js p1.1
  have cf1 := cf.jq p1 (by simp <;> omega) (by decide) (by simp <;> omega)
  have G1 : GP (jm_sI (jm_sI h M 36 (jz 1)) M 35 (jz 0)) M 1 0 := ⟨by rw [jr_I_fld (by decide), jr_I_self], Or.inr rfl, jr_I_self⟩
  refine e64 (r64_0 ⟨hs.1, jm_callI (tkM hs1 cf1 b8 G1 (by omega) ⟨by omega, by omega⟩ ⟨by omega, by omega⟩) ?_⟩)
  rintro z h2 ⟨g2, p2, G2, a1, a2, a3⟩
  have hs2 := hs1.js p2.1
  have zb : 0 ≤ z ∧ z ≤ 20 := by
    rcases G2.2.1 with e | e
    · have := a2 e; omega
    · have := a1 e; omega
  have p3 : jq M [1, 35, 36] [M + 1, M + 2, M + 3] h2 (jm_sI h2 M 1 (jz z)) := (jq.refl _ _ _ h2).sM (by simp <;> omega)
  refine r64_18 ⟨hs2.1, L z.toNat 0 1 z.toNat g2 _ 0 (by omega) (by omega) (by omega) ((p1.trans (p2.mono (by simp <;> omega) (by simp <;> omega))).trans p3) (by rw [jr_I_self]; congr 1; omega) (GP_jq G2 ((jq.refl M [1] [] h2).sM (by simp <;> omega)) (by simp <;> omega) (by decide) (by decide)) (by omega) (fun eg => ⟨[], rfl, row.nil _ _, row.nil _ _, row.nil _ _, ⟨Nat.zero_le _, fun k hk => absurd hk (Nat.not_lt_zero k), fun k hk => absurd hk (Nat.not_lt_zero k)⟩, fun e5 => ?_⟩) (fun e5 => ?_)⟩
  · obtain ⟨o1, o2⟩ := hE e5
    have l20 := o1.1
    obtain ⟨k1, k2, k3⟩ := a3 rfl _ _ o2 (by omega) (by omega)
    exact ⟨by omega, rfl, k3⟩
  · obtain ⟨o1, o2⟩ := hE e5
    have l20 := o1.1
    exact (a3 rfl _ _ o2 (by omega) (by omega)).1
