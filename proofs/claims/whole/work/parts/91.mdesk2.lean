/-! The reference: taking out, and typing a desk. -/
theorem s33 {d M : Nat} {h : jm_H} {xs : List Int} {k : Int} (hs : shM h M) (hc : cD h M xs) (hk : jR k) : jm_E dh_pr (d + 1) 33 [.inr (.inl M), .inl (jz k)] h (fun o h' => jq M [0, 10] [M + 8] h h' ∧ jm_I h' M 0 = jz 0 ∧ (((0 ≤ k ∧ k < xs.length) ∧ o = .inl (some (.inl (jz (xs.getD k.toNat 0)))) ∧ cD h' M (xs.take k.toNat ++ xs.drop (k.toNat + 1))) ∨ (¬ (0 ≤ k ∧ k < xs.length) ∧ o = .inl (some (.inl (jz (-1)))) ∧ cD h' M xs))) := by
  obtain ⟨c1, c2, c3⟩ := hc
  obtain ⟨f1, g1, n1⟩ := hs.f 9 8 12 (by decide)
  have F1 : jq M [0, 10] [M + 8] h (jm_sI h M 0 (jz 0)) := (jq.refl _ _ _ h).sM (by simp)
  have d1 : cD (jm_sI h M 0 (jz 0)) M xs := ⟨by rw [jr_I_fld (by decide)]; exact c1, c2, c3.off (by omega)⟩
  refine e33 (r33_0 ⟨hs.1, hk, fun q => ⟨F1, jr_I_self, Or.inr ⟨by omega, rfl, d1⟩⟩, fun q => ⟨_, c1, jR_len c2, fun q' => ⟨_, f1, g1, _, n1, ⟨q, by omega, by omega⟩, _, c3 k.toNat (by omega), ?_⟩, fun q' => ⟨F1, jr_I_self, Or.inr ⟨by omega, rfl, d1⟩⟩⟩⟩)
  have et : (xs.take k.toNat).length = k.toNat := by rw [List.length_take]; omega
  have el : (xs.take k.toNat ++ xs.drop (k.toNat + 1)).length = xs.length - 1 := by rw [List.length_append, et, List.length_drop]; omega
  have yl : ∀ j : Nat, (j : Int) < k → (xs.take k.toNat ++ xs.drop (k.toNat + 1)).getD j 0 = xs.getD j 0 := fun j hj => by
    rw [getD_app_l (by omega), getD_take (by omega)]
  have yr : ∀ j : Nat, k ≤ j → (xs.take k.toNat ++ xs.drop (k.toNat + 1)).getD j 0 = xs.getD (j + 1) 0 := fun j hj => by
    rw [getD_app_r (by omega), et, getD_drop, show k.toNat + 1 + (j - k.toNat) = j + 1 by omega]
  generalize xs.take k.toNat ++ xs.drop (k.toNat + 1) = ys at *
  have L : ∀ (m i : Nat) (h2 : jm_H) (v3 : Int), i + m = ys.length → v3 = i → k ≤ i → jq M [0, 10] [M + 8] h h2 → jm_I h2 M 0 = jz 0 → jm_I h2 M 10 = jz ((xs.length : Int) - 1) → (∀ j, j < i → jm_I h2 (M + 8) j = jz (ys.getD j 0)) → (∀ j, i ≤ j → j < xs.length → jm_I h2 (M + 8) j = jz (xs.getD j 0)) →
      jm_W dh_pr d 33 (38, [some (.inr (.inl M)), some (.inl (jz k)), some (.inl (jz (xs.getD k.toNat 0))), some (.inl (jz v3))], [], h2) (fun o h' => jq M [0, 10] [M + 8] h h' ∧ jm_I h' M 0 = jz 0 ∧ (((0 ≤ k ∧ k < xs.length) ∧ o = .inl (some (.inl (jz (xs.getD k.toNat 0)))) ∧ cD h' M ys) ∨ (¬ (0 ≤ k ∧ k < xs.length) ∧ o = .inl (some (.inl (jz (-1)))) ∧ cD h' M xs))) := by
    intro m
    induction m with
    | zero =>
      intro i h2 v3 e1 e3 hki hf a0 a1 a2 a3
      have hs2 := hs.js hf.1
      refine r33_38 ⟨hs2.1, _, a1, ⟨by omega, by omega⟩, ⟨by omega, by omega⟩, fun _ => ⟨hf, a0, Or.inl ⟨⟨q, q'⟩, rfl, ?_, by omega, fun j hj => a2 j (by omega)⟩⟩, fun p => absurd p (by omega)⟩
      rw [a1]; congr 1; omega
    | succ m ih =>
      intro i h2 v3 e1 e3 hki hf a0 a1 a2 a3
      have hs2 := hs.js hf.1
      obtain ⟨f1, g1, n1⟩ := hs2.f 9 8 12 (by decide)
      refine r33_38 ⟨hs2.1, _, a1, ⟨by omega, by omega⟩, ⟨by omega, by omega⟩, fun p => absurd p (by omega), fun _ => ⟨_, f1, g1, _, n1, ⟨by omega, by omega, by omega⟩, _, a3 (v3 + 1).toNat (by omega) (by omega), ⟨by omega, by omega, by omega⟩, ?_⟩⟩
      refine ih (i + 1) _ _ (by omega) (by omega) (by omega) (hf.sI (by simp)) (by rw [off1 (by omega)]; exact a0) (by rw [off1 (by omega)]; exact a1) (fun j hj => ?_) (fun j hj hj2 => ?_)
      · rw [jr_I_sI]
        by_cases e : j = v3.toNat
        · rw [if_pos ⟨rfl, e⟩, yr j (by omega), show (v3 + 1).toNat = j + 1 by omega]
        · rw [if_neg (fun p => e p.2)]; exact a2 j (by omega)
      · rw [jr_I_sI, if_neg (by omega)]; exact a3 j (by omega) hj2
  refine L (ys.length - k.toNat) k.toNat _ _ (by omega) (by omega) (by omega) (F1.sM (by simp)) (by rw [jr_I_fld (by decide)]; exact jr_I_self) jr_I_self (fun j hj => ?_) (fun j hj hj2 => ?_)
  · rw [off1 (by omega), yl j (by omega)]; exact d1.2.2 j (by omega)
  · rw [off1 (by omega)]; exact d1.2.2 j (by omega)
/-- the k'th byte of three words -/
def jb12 (a b c : Int) : List Int := jb4 a ++ (jb4 b ++ jb4 c)
theorem s30 {d : Nat} {h : jm_H} {a b c : Int} {k : Nat} (hk : k < 12) : jm_E dh_pr (d + 1) 30 [.inl (jz (k : Int)), .inl (jz a), .inl (jz b), .inl (jz c)] h (fun o h' => ∃ z : Int, o = .inl (some (.inl (jz z))) ∧ z = (jb12 a b c).getD k 0 ∧ h' = h) := by
  have rm : ∀ k : Nat, k < 12 → jz (k : Int) - jz (k : Int) / jz 4 * jz 4 = jz ((k % 4 : Nat) : Int) := by decide
  have by' : ∀ (w s : Int), jz (Int32.toInt (jz w >>> (jz s &&& 31))) &&& jz 255 = jz (jby w s) := fun w s => by
    show jz _ &&& jz 255 = jz (Int32.toInt _)
    rw [jz_self, jz_self]; rfl
  have sh : ∀ j : Nat, j < 4 → ∀ w, (jb4 w).getD j 0 = jby w (24 - 8 * (j : Int)) := by
    intro j hj w
    match j, hj with
    | 0, _ => rfl
    | 1, _ => rfl
    | 2, _ => rfl
    | 3, _ => rfl
  have l4 : ∀ w, (jb4 w).length = 4 := fun _ => rfl
  refine e30 (r30_0 ⟨⟨by omega, by omega⟩, fun q => ⟨fun q' => ⟨_, rm k hk, _, (jz_self _).symm, jby c (24 - 8 * ((k % 4 : Nat) : Int)), by' _ _, _, rfl, ?_, rfl⟩, fun q' => ⟨_, rm k hk, _, (jz_self _).symm, jby b (24 - 8 * ((k % 4 : Nat) : Int)), by' _ _, _, rfl, ?_, rfl⟩⟩, fun q => ⟨_, rm k hk, _, (jz_self _).symm, jby a (24 - 8 * ((k % 4 : Nat) : Int)), by' _ _, _, rfl, ?_, rfl⟩⟩)
  · rw [jb12, getD_app_r (by rw [l4]; omega), getD_app_r (by rw [l4, l4]; omega), l4, l4, sh _ (by omega), show k - 4 - 4 = k % 4 by omega]
  · rw [jb12, getD_app_r (by rw [l4]; omega), getD_app_l (by rw [l4, l4]; omega), l4, sh _ (by omega), show k - 4 = k % 4 by omega]
  · rw [jb12, getD_app_l (by rw [l4]; omega), sh _ (by omega), show k % 4 = k by omega]
