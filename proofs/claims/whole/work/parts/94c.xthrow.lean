/-! The class: what is asked before a change, and what is thrown. -/
/-- a thrown object of the kind t (even: just made) stands behind the heap -/
def xh (h : jm_H) (t : Nat) : jm_H := jm_sT (jm_new h t 0 6) h.1 (t + 1)
/-- room for one more -/
def xr (h : jm_H) : Prop := h.1 + 1 ≤ 601026 ∧ h.2.1 + 6 ≤ 7293034
theorem xh_T (h : jm_H) (t : Nat) : jm_T (xh h t) h.1 = t + 1 := by
  unfold xh; rw [jr_T_sT, if_pos rfl]
theorem xh_n (h : jm_H) (t : Nat) : jm_T (jm_new h t 0 6) h.1 = t := by
  rw [jr_T_new, if_pos rfl]
/-- nothing below is touched -/
theorem xh_I (h : jm_H) (t : Nat) {b : Nat} (hb : b ≠ h.1) (k : Nat) : jm_I (xh h t) b k = jm_I h b k := by
  unfold xh; rw [jr_I_sT, jr_I_new, if_neg hb]
theorem xh_F (h : jm_H) (t : Nat) {b : Nat} (hb : b ≠ h.1) (k : Nat) : jm_F (xh h t) b k = jm_F h b k := by
  unfold xh; rw [jr_F_sT, jr_F_new, if_neg hb]
theorem xh_N (h : jm_H) (t : Nat) {b : Nat} (hb : b ≠ h.1) : jm_N (xh h t) b = jm_N h b := by
  unfold xh; rw [jr_N_sT, jr_N_new, if_neg hb]
theorem xh_L (h : jm_H) (t : Nat) {b : Nat} (hb : b ≠ h.1) (k : Nat) : jm_L (xh h t) b k = jm_L h b k := by
  unfold xh; rw [jr_L_sT, jr_L_new, if_neg hb]
theorem xh_T' (h : jm_H) (t : Nat) {b : Nat} (hb : b ≠ h.1) : jm_T (xh h t) b = jm_T h b := by
  unfold xh; rw [jr_T_sT, if_neg hb, jr_T_new, if_neg hb]
theorem s21 {d : Nat} {h : jm_H} {u : Int} (hu : jR u) (hr : xr h) : jm_E dh_pr (d + 1) 21 [.inl (jz u)] h (fun o h' => ((0 ≤ u ∧ u < 4) ∧ o = .inl none ∧ h' = h) ∨ (¬ (0 ≤ u ∧ u < 4) ∧ o = .inr h.1 ∧ h' = xh h 200)) := by
  have t : jm_T (jm_sT (jm_new h 200 0 6) h.1 201) h.1 = 201 := xh_T h 200
  refine e21 (r21_0 ⟨hu, fun q => ⟨hr.1, hr.2, xh_n h 200, by rw [t]; omega, by rw [t], Or.inr ⟨by omega, rfl, rfl⟩⟩, fun q => ⟨fun q' => Or.inl ⟨⟨q, q'⟩, rfl, rfl⟩, fun q' => ⟨hr.1, hr.2, xh_n h 200, by rw [t]; omega, by rw [t], Or.inr ⟨by omega, rfl, rfl⟩⟩⟩⟩)
theorem s22 {d X c p n : Nat} {h : jm_H} {r : Int} (hs : shX h X c p) (hc : jm_I h c 1 = jz n) (l20 : n ≤ 20) (hk : jR r) (hr : xr h) : jm_E dh_pr (d + 2) 22 [.inr (.inl X), .inl (jz r)] h (fun o h' => ((0 ≤ r ∧ r < n) ∧ o = .inl none ∧ h' = h) ∨ (¬ (0 ≤ r ∧ r < n) ∧ o = .inr h.1 ∧ h' = xh h 200)) := by
  have h9 : jm_F h X 9 = c := hs.2.1.2.2.2.2.2.2.2.2.2.1
  have hh : shH h c := hs.2.2.2.2.2.2.2.1.1
  refine e22 (r22_0 ⟨hs.1, _, h9, hh.1, jm_callI (s96 hh.1 hc l20 hk) ?_⟩)
  have t : jm_T (jm_sT (jm_new h 200 0 6) h.1 201) h.1 = 201 := xh_T h 200
  rintro z h' ⟨rfl, ⟨rfl, q⟩ | ⟨rfl, q⟩⟩
  · exact r22_8 ⟨⟨by omega, by omega⟩, fun _ => Or.inl ⟨q, rfl, rfl⟩, fun e => absurd e (by omega)⟩
  · exact r22_8 ⟨⟨by omega, by omega⟩, fun e => absurd rfl e, fun _ => ⟨hr.1, hr.2, xh_n h' 200, by rw [t]; omega, by rw [t], Or.inr ⟨q, rfl, rfl⟩⟩⟩
theorem s23 {d X c p r : Nat} {h : jm_H} {u : Int} {rs : List Rv} {fs : List FS} (hs : shX h X c p) (hc : cH h c rs fs) (hk : r < rs.length) (hu : jR u) (hl : jR (rs.getD r rv0).2.2.1) (hr : xr h) : jm_E dh_pr (d + 1) 23 [.inr (.inl X), .inl (jz u), .inl (jz (r : Int))] h (fun o h' => ((rs.getD r rv0).2.2.1 = u ∧ o = .inl none ∧ h' = h) ∨ (¬ (rs.getD r rv0).2.2.1 = u ∧ o = .inr h.1 ∧ h' = xh h 202)) := by
  have h9 : jm_F h X 9 = c := hs.2.1.2.2.2.2.2.2.2.2.2.1
  have hh : shH h c := hs.2.2.2.2.2.2.2.1.1
  have l20 := hc.2.1
  have sk := hh.2.2.2 r (by omega)
  have ck := hc.2.2.2 r hk
  have t : jm_T (jm_sT (jm_new h 202 0 6) h.1 203) h.1 = 203 := xh_T h 202
  exact e23 (r23_0 ⟨hs.1, _, h9, hh.1, _, hh.2.1, hh.2.2.1.1, _, hh.2.2.1.2, ⟨by omega, by omega, by omega⟩, c + 2 + 3 * r, sk.1, sk.2.1, _, ck.1.2.2.1, hl, hu, fun q => Or.inl ⟨q, rfl, rfl⟩, fun q => ⟨hr.1, hr.2, xh_n h 202, by rw [t]; omega, by rw [t], Or.inr ⟨q, rfl, rfl⟩⟩⟩)
