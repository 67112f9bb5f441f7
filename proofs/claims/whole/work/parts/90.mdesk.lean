/-! The reference: its desk. -/
def cD (h : jm_H) (M : Nat) (xs : List Int) : Prop := jm_I h M 10 = jz xs.length ∧ xs.length ≤ 12 ∧ row h (M + 8) xs
theorem s29 {d : Nat} {h : jm_H} {v : Int} (hv : jR v) : jm_E dh_pr (d + 1) 29 [.inl (jz v)] h (fun o h' => ∃ z : Int, o = .inl (some (.inl (jz z))) ∧ h' = h ∧ ((z = 1 ∧ (1 ≤ v ∧ v ≤ 99)) ∨ (z = 0 ∧ ¬ (1 ≤ v ∧ v ≤ 99)))) := by
  exact e29 (r29_0 ⟨hv, fun q => ⟨0, rfl, rfl, Or.inr ⟨rfl, by omega⟩⟩, fun q => ⟨fun q' => ⟨0, rfl, rfl, Or.inr ⟨rfl, by omega⟩⟩, fun q' => ⟨1, rfl, rfl, Or.inl ⟨rfl, q, q'⟩⟩⟩⟩)
theorem s34 {d M : Nat} {h : jm_H} {xs : List Int} (hs : shM h M) (hc : cD h M xs) : jm_E dh_pr (d + 1) 34 [.inr (.inl M)] h (fun o h' => o = .inl (some (.inl (jz xs.length))) ∧ h' = jm_sI h M 0 (jz 0)) := by
  exact e34 (r34_0 ⟨hs.1, _, hc.1, rfl, rfl⟩)
theorem s35 {d M : Nat} {h : jm_H} {xs : List Int} {k : Int} (hs : shM h M) (hc : cD h M xs) (hk : jR k) : jm_E dh_pr (d + 1) 35 [.inr (.inl M), .inl (jz k)] h (fun o h' => o = .inl (some (.inl (jz (if 0 ≤ k ∧ k < xs.length then xs.getD k.toNat 0 else -1)))) ∧ h' = jm_sI h M 0 (jz 0)) := by
  obtain ⟨c1, c2, c3⟩ := hc
  obtain ⟨f1, g1, n1⟩ := hs.f 9 8 12 (by decide)
  refine e35 (r35_0 ⟨hs.1, hk, fun q => ⟨?_, rfl⟩, fun q => ⟨_, c1, jR_len c2, fun q' => ⟨_, f1, g1, _, n1, ⟨q, by omega, by omega⟩, _, c3 k.toNat (by omega), ?_, rfl⟩, fun q' => ⟨?_, rfl⟩⟩⟩)
  · rw [if_neg (by omega)]
  · rw [if_pos (by omega)]
  · rw [if_neg (by omega)]
theorem s32 {d M : Nat} {h : jm_H} {xs : List Int} {k v : Int} (hs : shM h M) (hc : cD h M xs) (hk : jR k) (hv : jR v) : jm_E dh_pr (d + 2) 32 [.inr (.inl M), .inl (jz k), .inl (jz v)] h (fun o h' => ∃ z : Int, o = .inl (some (.inl (jz z))) ∧ jq M [0, 10] [M + 8] h h' ∧ jm_I h' M 0 = jz 0 ∧ ((z = 1 ∧ (okl v xs.length ∧ 0 ≤ k ∧ k ≤ xs.length) ∧ cD h' M (xs.take k.toNat ++ v :: xs.drop k.toNat)) ∨ (z = 0 ∧ ¬ (okl v xs.length ∧ 0 ≤ k ∧ k ≤ xs.length) ∧ cD h' M xs))) := by
  obtain ⟨c1, c2, c3⟩ := hc
  have F1 : jq M [0, 10] [M + 8] h (jm_sI h M 0 (jz 0)) := (jq.refl _ _ _ h).sM (by simp)
  have z1 : jm_I (jm_sI h M 0 (jz 0)) M 0 = jz 0 := jr_I_self
  have d1 : cD (jm_sI h M 0 (jz 0)) M xs := ⟨by rw [jr_I_fld (by decide)]; exact c1, c2, c3.off (by omega)⟩
  have hs1 := hs.js F1.1
  refine e32 (r32_0 ⟨hs.1, jm_callI (s29 hv) ?_⟩)
  rintro z h' ⟨rfl, ⟨rfl, o⟩ | ⟨rfl, o⟩⟩
  · refine r32_9 ⟨⟨by omega, by omega⟩, fun q => absurd q (by omega), fun _ => ⟨hs1.1, _, d1.1, jR_len c2, fun q => ⟨0, rfl, F1, z1, Or.inr ⟨rfl, fun p => by have := p.1.2.2; omega, d1⟩⟩, fun q => ⟨hk, fun q' => ⟨0, rfl, F1, z1, Or.inr ⟨rfl, by omega, d1⟩⟩, fun q' => ⟨fun q3 => ?_, fun q3 => ⟨0, rfl, F1, z1, Or.inr ⟨rfl, by omega, d1⟩⟩⟩⟩⟩⟩
    have L : ∀ (m : Nat) (h2 : jm_H) (v3 : Int), v3 = k + m → k + m ≤ xs.length → jq M [0, 10] [M + 8] h h2 → jm_I h2 M 0 = jz 0 → jm_I h2 M 10 = jz xs.length → (∀ j : Nat, (j : Int) < v3 → jm_I h2 (M + 8) j = jz (xs.getD j 0)) → (∀ j : Nat, v3 < j → j ≤ xs.length → jm_I h2 (M + 8) j = jz (xs.getD (j - 1) 0)) →
        jm_W dh_pr (d + 1) 32 (40, [some (.inr (.inl M)), some (.inl (jz k)), some (.inl (jz v)), some (.inl (jz v3))], [], h2) (fun o h' => ∃ z : Int, o = .inl (some (.inl (jz z))) ∧ jq M [0, 10] [M + 8] h h' ∧ jm_I h' M 0 = jz 0 ∧ ((z = 1 ∧ (okl v xs.length ∧ 0 ≤ k ∧ k ≤ xs.length) ∧ cD h' M (xs.take k.toNat ++ v :: xs.drop k.toNat)) ∨ (z = 0 ∧ ¬ (okl v xs.length ∧ 0 ≤ k ∧ k ≤ xs.length) ∧ cD h' M xs))) := by
      intro m
      induction m with
      | zero =>
        intro h2 v3 e3 hle hf a0 a1 a2 a3
        have hs2 := hs.js hf.1
        obtain ⟨f1, g1, n1⟩ := hs2.f 9 8 12 (by decide)
        have el : (xs.take k.toNat ++ v :: xs.drop k.toNat).length = xs.length + 1 := by simp; omega
        have et : (xs.take k.toNat).length = k.toNat := by rw [List.length_take]; omega
        refine r32_40 ⟨⟨by omega, by omega⟩, hk, fun _ => ⟨hs2.1, _, f1, g1, _, n1, ⟨by omega, by omega, by omega⟩, _, a1, 1, rfl, (hf.sI (by simp)).sM (by simp), ?_, Or.inl ⟨rfl, ⟨⟨o.1, o.2, by omega⟩, q', q3⟩, ?_, by rw [el]; omega, fun i hi => ?_⟩⟩, fun p => absurd p (by omega)⟩
        · rw [jr_I_fld (by decide), off1 (by omega)]; exact a0
        · rw [jr_I_self, el]; rfl
        · rw [el] at hi
          rw [off1 (by omega), jr_I_sI]
          by_cases i1 : i = k.toNat
          · rw [if_pos ⟨rfl, i1⟩, i1, getD_app_r (by omega), et, Nat.sub_self]; rfl
          · rw [if_neg (fun p => i1 p.2)]
            by_cases i2 : i < k.toNat
            · rw [a2 i (by omega), getD_app_l (by omega), getD_take i2]
            · rw [a3 i (by omega) (by omega), getD_app_r (by omega), et]
              obtain ⟨j, rfl⟩ : ∃ j, i = k.toNat + 1 + j := ⟨i - (k.toNat + 1), by omega⟩
              rw [show k.toNat + 1 + j - k.toNat = j + 1 by omega, List.getD_cons_succ, getD_drop, show k.toNat + 1 + j - 1 = k.toNat + j by omega]
      | succ m ih =>
        intro h2 v3 e3 hle hf a0 a1 a2 a3
        have hs2 := hs.js hf.1
        obtain ⟨f1, g1, n1⟩ := hs2.f 9 8 12 (by decide)
        refine r32_40 ⟨⟨by omega, by omega⟩, hk, fun p => absurd p (by omega), fun _ => ⟨hs2.1, _, f1, g1, _, n1, ⟨by omega, by omega, by omega⟩, _, a2 (v3 - 1).toNat (by omega), ⟨by omega, by omega, by omega⟩, ?_⟩⟩
        refine ih _ _ (by omega) (by omega) (hf.sI (by simp)) (by rw [off1 (by omega)]; exact a0) (by rw [off1 (by omega)]; exact a1) (fun j hj => ?_) (fun j hj hj2 => ?_)
        · rw [jr_I_sI, if_neg (by omega)]; exact a2 j (by omega)
        · rw [jr_I_sI]
          by_cases e : j = v3.toNat
          · rw [if_pos ⟨rfl, e⟩, e, show (v3 - 1).toNat = v3.toNat - 1 by omega]
          · rw [if_neg (fun p => e p.2)]; exact a3 j (by omega) hj2
    exact L (xs.length - k.toNat) _ _ (by omega) (by omega) F1 z1 d1.1 (fun j hj => d1.2.2 j (by omega)) (fun j hj hj2 => by omega)
  · exact r32_9 ⟨⟨by omega, by omega⟩, fun _ => ⟨0, rfl, F1, z1, Or.inr ⟨rfl, fun p => o ⟨p.1.1, p.1.2.1⟩, d1⟩⟩, fun q => absurd rfl q⟩
