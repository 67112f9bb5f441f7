/-! The reference: writing aside and replacing the file. -/
theorem s49 {d M : Nat} {h : jm_H} {bs : List Int} {cr : Int} (hs : shM h M) (hc : cdr h M bs) (hl : bs.length ≤ 2400) (h15 : jm_I h M 15 = jz cr) (rc : jR cr) : jm_E dh_pr (d + 1) 49 [.inr (.inl M)] h (fun o h' => ∃ z : Int, o = .inl (some (.inl (jz z))) ∧ h' = h ∧ ((z = 1 ∧ (0 ≤ cr ∧ cr ≤ bs.length)) ∨ (z = 0 ∧ ¬ (0 ≤ cr ∧ cr ≤ bs.length)))) :=
  e49 (r49_0 ⟨hs.1, _, h15, rc, fun q => ⟨0, rfl, rfl, Or.inr ⟨rfl, by omega⟩⟩, fun q => ⟨_, hc.1, ⟨by omega, by omega⟩, fun q' => ⟨0, rfl, rfl, Or.inr ⟨rfl, by omega⟩⟩, fun q' => ⟨1, rfl, rfl, Or.inl ⟨rfl, q, q'⟩⟩⟩⟩)
theorem s50m {d M n : Nat} {h : jm_H} {bs : List Int} (hs : shM h M) (hc : cdr h M bs) (h15 : jm_I h M 15 = jz n) (hn : n ≤ bs.length) (h4 : n ≤ 400) : jm_E dh_pr (d + 1) 50 [.inr (.inl M)] h (fun o h' => o = .inl none ∧ jq M [13, 15] [M + 10] h h' ∧ jm_I h' M 15 = jz (-1) ∧ cE h' M (bs.take n)) := by
  have lt : (bs.take n).length = n := by rw [List.length_take]; omega
  have L : ∀ (m j : Nat) (h2 : jm_H) (v1 : Int), j + m = n → v1 = j → jq M [13, 15] [M + 10] h h2 → jm_I h2 M 13 = jz n → row h2 (M + 10) (bs.take j) → jm_W dh_pr d 50 (10, [some (.inr (.inl M)), some (.inl (jz v1))], [], h2) (fun o h' => o = .inl none ∧ jq M [13, 15] [M + 10] h h' ∧ jm_I h' M 15 = jz (-1) ∧ cE h' M (bs.take n)) := by
    intro m
    induction m with
    | zero =>
      intro j h2 v1 e e1 hf a1 hr
      have hs2 := hs.js hf.1
      refine r50_10 ⟨hs2.1, _, a1, ⟨by omega, by omega⟩, ⟨by omega, by omega⟩, fun _ => ⟨rfl, hf.sM (by simp), jr_I_self, ?_, by omega, ?_⟩, fun q => absurd q (by omega)⟩
      · rw [jr_I_fld (by decide), lt]; exact a1
      · rw [show n = j by omega]; exact hr.off (by omega)
    | succ m ih =>
      intro j h2 v1 e e1 hf a1 hr
      have hs2 := hs.js hf.1
      obtain ⟨f1, g1, n1⟩ := hs2.f 14 10 400 (by decide)
      obtain ⟨f2, g2, n2⟩ := hs2.f 33 23 2400 (by decide)
      refine r50_10 ⟨hs2.1, _, a1, ⟨by omega, by omega⟩, ⟨by omega, by omega⟩, fun q => absurd q (by omega), fun _ => ⟨_, f1, _, f2, g2, _, n2, ⟨by omega, by omega, by omega⟩, bs.getD j 0, ?_, g1, _, n1, ⟨by omega, by omega, by omega⟩, ?_⟩⟩
      · rw [show v1.toNat = j by omega, hf.2 (M + 23) _ (by simp) (by omega)]; exact hc.2 j (by omega)
      · exact ih (j + 1) _ _ (by omega) (by omega) (hf.sI (by simp)) (by rw [off1 (by omega)]; exact a1) (hr.push' (by rw [List.length_take]; omega) (take_snoc (by omega)))
  exact e50 (r50_0 ⟨hs.1, _, h15, L n 0 _ _ (by omega) (by omega) ((jq.refl _ _ _ h).sM (by simp)) jr_I_self (row.nil _ _)⟩)
theorem s51 {d M : Nat} {h : jm_H} {bs : List Int} {cr : Int} (hs : shM h M) (hc : cdr h M bs) (h15 : jm_I h M 15 = jz cr) (rc : jR cr) (h4 : bs.length ≤ 400) : jm_E dh_pr (d + 1) 51 [.inr (.inl M)] h (fun o h' => ∃ z : Int, o = .inl (some (.inl (jz z))) ∧ jq M [11, 13, 15] [M + 9] h h' ∧ jm_I h' M 15 = jz (-1) ∧ cF h' M bs ∧ cE h' M [] ∧ ((z = 1 ∧ cr = bs.length + 1) ∨ (z = 0 ∧ ¬ cr = bs.length + 1))) := by
  have L : ∀ (m j : Nat) (h2 : jm_H) (v1 : Int), j + m = bs.length → v1 = j → jq M [11, 13, 15] [M + 9] h h2 → jm_I h2 M 11 = jz bs.length → jm_I h2 M 15 = jz cr → jm_I h2 M 32 = jz bs.length → row h2 (M + 9) (bs.take j) → jm_W dh_pr d 51 (10, [some (.inr (.inl M)), some (.inl (jz v1))], [], h2) (fun o h' => ∃ z : Int, o = .inl (some (.inl (jz z))) ∧ jq M [11, 13, 15] [M + 9] h h' ∧ jm_I h' M 15 = jz (-1) ∧ cF h' M bs ∧ cE h' M [] ∧ ((z = 1 ∧ cr = bs.length + 1) ∨ (z = 0 ∧ ¬ cr = bs.length + 1))) := by
    intro m
    induction m with
    | zero =>
      intro j h2 v1 e e1 hf a1 a2 a3 hr
      have hs2 := hs.js hf.1
      rw [List.take_of_length_le (by omega)] at hr
      have F : jq M [11, 13, 15] [M + 9] h (jm_sI (jm_sI h2 M 13 (jz 0)) M 15 (jz (-1))) := (hf.sM (by simp)).sM (by simp)
      have cf : cF (jm_sI (jm_sI h2 M 13 (jz 0)) M 15 (jz (-1))) M bs := ⟨by rw [jr_I_fld (by decide), jr_I_fld (by decide)]; exact a1, h4, (hr.off (by omega)).off (by omega)⟩
      have ce : cE (jm_sI (jm_sI h2 M 13 (jz 0)) M 15 (jz (-1))) M [] := ⟨by rw [jr_I_fld (by decide), jr_I_self]; rfl, by simp, row.nil _ _⟩
      exact r51_10 ⟨hs2.1, _, a1, ⟨by omega, by omega⟩, ⟨by omega, by omega⟩, fun _ => ⟨_, a2, _, a3, rc, ⟨by omega, by omega⟩, fun q => ⟨0, rfl, F, jr_I_self, cf, ce, Or.inr ⟨rfl, q⟩⟩, fun q => ⟨1, rfl, F, jr_I_self, cf, ce, Or.inl ⟨rfl, q⟩⟩⟩, fun q => absurd q (by omega)⟩
    | succ m ih =>
      intro j h2 v1 e e1 hf a1 a2 a3 hr
      have hs2 := hs.js hf.1
      obtain ⟨f1, g1, n1⟩ := hs2.f 12 9 400 (by decide)
      obtain ⟨f2, g2, n2⟩ := hs2.f 33 23 2400 (by decide)
      refine r51_10 ⟨hs2.1, _, a1, ⟨by omega, by omega⟩, ⟨by omega, by omega⟩, fun q => absurd q (by omega), fun _ => ⟨_, f1, _, f2, g2, _, n2, ⟨by omega, by omega, by omega⟩, bs.getD j 0, ?_, g1, _, n1, ⟨by omega, by omega, by omega⟩, ?_⟩⟩
      · rw [show v1.toNat = j by omega, hf.2 (M + 23) _ (by simp) (by omega)]; exact hc.2 j (by omega)
      · exact ih (j + 1) _ _ (by omega) (by omega) (hf.sI (by simp)) (by rw [off1 (by omega)]; exact a1) (by rw [off1 (by omega)]; exact a2) (by rw [off1 (by omega)]; exact a3) (hr.push' (by rw [List.length_take]; omega) (take_snoc (by omega)))
  refine e51 (r51_0 ⟨hs.1, _, hc.1, L bs.length 0 _ _ (by omega) (by omega) ((jq.refl _ _ _ h).sM (by simp)) jr_I_self ?_ ?_ (row.nil _ _)⟩)
  · rw [jr_I_fld (by decide)]; exact h15
  · rw [jr_I_fld (by decide)]; exact hc.1
