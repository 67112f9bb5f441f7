/-! The class's object, as it is made. -/
theorem delta_nil : delta [] [] = ([], []) := rfl
theorem c0_end {d X v : Nat} {h h11 : jm_H} (eX : X = h.1) (t11 : jm_T h11 X = 1) (F4 : jm_F (jm_sF h11 X 10 v) X 4 = X + 27) (t27 : jm_T h11 (X + 27) = 3) (SX : shX (jm_sF h11 X 10 v) X (X + 56) (X + 118)) (GF : gr h (jm_sF h11 X 10 v) 180 2887) (Y1 : cx (jm_sF h11 X 10 v) (X + 1) []) (Y3 : cx (jm_sF h11 X 10 v) (X + 5) []) (Y4 : dD (jm_sF h11 X 10 v) (X + 7) [] [] false) (Y5 : cb (jm_sF h11 X 10 v) (X + 27) []) (Y6 : cb (jm_sF h11 X 10 v) (X + 29) []) (Y10 : cH (jm_sF h11 X 10 v) (X + 56) [] []) : jm_W dh_pr (d + 4) 0 (122, [some (.inr (.inl X))], [.inr (.inl v), .inr (.inl X)], h11) (fun o h' => o = .inl none ∧ gr h h' 180 2887 ∧ RX h' X (X + 56) (X + 118) s00) := by
  refine r0_122 ⟨t11, t11, _, F4, t27, jm_callV (s81 (bs := []) SX.2.2.2.2.1.1 Y5 (Nat.lt_of_lt_of_le (Nat.succ_pos 0) (by decide))) ?_⟩
  rintro h12 ⟨hf, hc⟩
  have J : jf [X, X + 27, X + 28] (jm_sF h11 X 10 v) (jm_sI h12 X 11 (jz (-1))) := (hf.mono (by simp <;> omega)).sI (by simp <;> omega)
  have hs12 := SX.js hf.1
  have g1 : gr h (jm_sI h12 X 11 (jz (-1))) 180 2887 := ⟨by rw [J.1.1]; exact GF.1, by rw [J.1.2.1]; exact GF.2.1, fun b hb => sm_trans (GF.2.2 b hb) ⟨J.1.2.2.1 b, J.1.2.2.2.1 b, J.1.2.2.2.2.1 b, J.1.2.2.2.2.2 b, J.2 b (by simp; omega)⟩⟩
  have g2 : cb (jm_sI h12 X 11 (jz (-1))) (X + 27) [0] := hc.jf ((jf.refl [X] h12).sI (by simp <;> omega)) (by simp <;> omega) (by simp <;> omega)
  have g3 : ∃ op, dD (jm_sI h12 X 11 (jz (-1))) (X + 7) (delta [] []).1 (delta [] []).2 op := by
    rw [delta_nil]
    exact ⟨false, Y4.jf J (fun i hi => by simp; omega)⟩
  have g4 : cH (jm_sI h12 X 11 (jz (-1))) (X + 56) [] (sf (pS [])) := Y10.jf J (fun i hi => by simp; omega)
  exact r0_133 ⟨hs12.1, rfl, g1, SX.js J.1, Y1.jf J (by simp <;> omega) (by simp <;> omega), Y3.jf J (by simp <;> omega) (by simp <;> omega), g3, g2, Y6.jf J (by simp <;> omega) (by simp <;> omega), jr_I_self, g4⟩
