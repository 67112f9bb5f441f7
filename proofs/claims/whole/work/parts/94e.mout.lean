/-! The reference: checking out. -/
theorem s58 {d M : Nat} {h : jm_H} {rs : List Rv} {r : Int} (hs : shM h M) (hc : cV h M rs) (l20 : rs.length ≤ 20) (hr : jR r) : jm_E dh_pr (d + 2) 58 [.inr (.inl M), .inl (jz r)] h (fun o h' => jq M [0, 10] [M + 8] h h' ∧ (((0 ≤ r ∧ r < rs.length) ∧ o = .inl (some (.inl (jz ((rs.getD r.toNat rv0).2.2.2.length : Nat)))) ∧ jm_I h' M 0 = jz 0 ∧ cD h' M (rs.getD r.toNat rv0).2.2.2) ∨ (¬ (0 ≤ r ∧ r < rs.length) ∧ o = .inl (some (.inl (jz 0))) ∧ h' = jm_sI h M 0 (jz 1)))) := by
  have el := pS_len rs
  have cc : jm_I h M 1 = jz rs.length := by rw [← el]; exact hc.1.1
  refine e58 (r58_0 ⟨hs.1, jm_callI (s53 hs cc l20 hr) ?_⟩)
  rintro z h' ⟨rfl, ⟨rfl, q⟩ | ⟨rfl, q⟩⟩
  · have kk : r.toNat < rs.length := by omega
    obtain ⟨f1, g1, n1⟩ := hs.f 5 4 20 (by decide)
    have tk := hc.2.2.2.2 r.toNat (by rw [tS_len]; exact kk)
    rw [tS_at kk] at tk
    have len : jm_I h' (M + 4) r.toNat = jz (rs.getD r.toNat rv0).2.2.2.length := by
      rw [hc.2.2.2.1 r.toNat (by rw [List.length_map, tS_len]; exact kk), gD_mp (a := []) (by rw [tS_len]; exact kk), tS_at kk]
    generalize (rs.getD r.toNat rv0).2.2.2 = A at *
    obtain ⟨t12, tt⟩ := tk
    have L : ∀ (m j : Nat) (h2 : jm_H) (v2 : Int), j + m = A.length → v2 = j → jq M [0, 10] [M + 8] h' h2 → jm_I h2 M 0 = jz 0 → jm_I h2 M 10 = jz A.length → row h2 (M + 8) (A.take j) → jm_W dh_pr (d + 1) 58 (38, [some (.inr (.inl M)), some (.inl (jz r)), some (.inl (jz v2))], [], h2) (fun o h2 => jq M [0, 10] [M + 8] h' h2 ∧ (((0 ≤ r ∧ r < rs.length) ∧ o = .inl (some (.inl (jz (A.length : Nat)))) ∧ jm_I h2 M 0 = jz 0 ∧ cD h2 M A) ∨ (¬ (0 ≤ r ∧ r < rs.length) ∧ o = .inl (some (.inl (jz 0))) ∧ h2 = jm_sI h' M 0 (jz 1)))) := by
      intro m
      induction m with
      | zero =>
        intro j h2 v2 e e2 hf a0 a1 hrw
        have hs2 := hs.js hf.1
        rw [List.take_of_length_le (by omega)] at hrw
        exact r58_38 ⟨hs2.1, _, a1, ⟨by omega, by omega⟩, ⟨by omega, by omega⟩, fun _ => ⟨hf, Or.inl ⟨q, rfl, a0, a1, t12, hrw⟩⟩, fun p => absurd p (by omega)⟩
      | succ m ih =>
        intro j h2 v2 e e2 hf a0 a1 hrw
        have hs2 := hs.js hf.1
        obtain ⟨f2, g2, n2⟩ := hs2.f 9 8 12 (by decide)
        obtain ⟨f3, g3, n3⟩ := hs2.f 6 5 240 (by decide)
        refine r58_38 ⟨hs2.1, _, a1, ⟨by omega, by omega⟩, ⟨by omega, by omega⟩, fun p => absurd p (by omega), fun _ => ⟨_, f2, _, f3, g3, _, n3, ⟨by omega, by omega, by omega⟩, A.getD j 0, ?_, g2, _, n2, ⟨by omega, by omega, by omega⟩, ?_⟩⟩
        · rw [show (12 * r + v2).toNat = 12 * r.toNat + j by omega, hf.2 (M + 5) _ (by simp) (by omega)]
          exact tt j (by omega)
        · exact ih (j + 1) _ _ (by omega) (by omega) (hf.sI (by simp)) (by rw [off1 (by omega)]; exact a0) (by rw [off1 (by omega)]; exact a1) (hrw.push' (by rw [List.length_take]; omega) (take_snoc (by omega)))
    refine r58_6 ⟨⟨by omega, by omega⟩, fun _ => ⟨hs.1, hs.1, _, jr_I_self, ⟨by omega, by omega⟩, fun _ => ⟨_, f1, g1, _, n1, ⟨by omega, by omega, by omega⟩, _, len, ?_⟩, fun p => absurd p (by omega)⟩, fun e => absurd rfl e⟩
    exact L A.length 0 _ _ (by omega) (by omega) (((jq.refl _ _ _ h').sM (by simp)).sM (by simp)) (by rw [jr_I_fld (by decide)]; exact jr_I_self) jr_I_self (row.nil _ _)
  · exact r58_6 ⟨⟨by omega, by omega⟩, fun e => absurd e (by omega), fun _ => ⟨hs.1, hs.1, _, jr_I_self, ⟨by omega, by omega⟩, fun p => absurd p (by omega), fun _ => ⟨(jq.refl _ _ _ h').sM (by simp), Or.inr ⟨q, rfl, rfl⟩⟩⟩⟩
