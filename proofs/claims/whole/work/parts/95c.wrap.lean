/-! The law's own methods: a call, with what it throws told as a number. -/
theorem sm_sL {h : jm_H} {a k b : Nat} {x : Int64} (ne : b ≠ a) : sm h (jm_sL h a k x) b := ⟨jr_T_sL h a k x b, jr_N_sL h a k x b, fun j => jr_F_sL h a k x b j, fun j => by rw [jr_L_sL, if_neg (fun q => ne q.1)], fun j => jr_I_sL h a k x b j⟩
/-- all but X's objects and the row O of answers is the same -/
def uo (X O : Nat) (h h' : jm_H) : Prop := (h.1 ≤ h'.1 ∧ h'.1 ≤ h.1 + 1 ∧ h'.2.1 ≤ h.2.1 + 6) ∧ (∀ b, b < h.1 → ¬ (X ≤ b ∧ b < X + 180) → b ≠ O → sm h h' b) ∧ jm_T h' O = jm_T h O ∧ jm_N h' O = jm_N h O
theorem uo_ux {X O : Nat} {h h' : jm_H} (u : ux X 180 h h') (hO : O < h.1 ∧ ¬ (X ≤ O ∧ O < X + 180)) : uo X O h h' := ⟨u.1, fun b h1 h2 _ => u.2 b h1 h2, (u.2 O hO.1 hO.2).1, (u.2 O hO.1 hO.2).2.1⟩
def wo (X O : Nat) (h h' : jm_H) (r : Int × Int × St) (o : jm_R) : Prop := o = .inl (some (.inl (jz r.1))) ∧ (∃ c p, RX h' X c p r.2.2) ∧ (r.1 = 0 → jm_L h' O 0 = Int32.toInt64 (jz r.2.1)) ∧ uo X O h h' ∧ (0 ≤ r.1 ∧ r.1 ≤ 3)
theorem wo_0 {X O : Nat} {h h1 : jm_H} {r : Int × Int × St} (u : ux X 180 h h1) (hO : O < h.1 ∧ ¬ (X ≤ O ∧ O < X + 180)) (R : ∃ c p, RX h1 X c p r.2.2) (e : r.1 = 0) : wo X O h (jm_sL h1 O (0 : Int).toNat (Int32.toInt64 (jz r.2.1))) r (.inl (some (.inl (jz 0)))) := by
  obtain ⟨c, p, R⟩ := R
  have sO := u.2 O hO.1 hO.2
  refine ⟨by rw [e], ⟨c, p, RX_sr R (fun i hi => sm_sL (by omega))⟩, fun _ => ?_, ⟨u.1, fun b h1 h2 h3 => sm_trans (u.2 b h1 h2) (sm_sL h3), ?_, ?_⟩, by omega⟩
  · rw [jr_L_sL, if_pos ⟨rfl, rfl⟩]
  · rw [jr_T_sL]; exact sO.1
  · rw [jr_N_sL]; exact sO.2.1
theorem wo_n {X O : Nat} {h h1 : jm_H} {r : Int × Int × St} {k : Int} (u : ux X 180 h h1) (hO : O < h.1 ∧ ¬ (X ≤ O ∧ O < X + 180)) (R : ∃ c p, RX h1 X c p r.2.2) (e : r.1 = k) (hk : 1 ≤ k ∧ k ≤ 3) : wo X O h h1 r (.inl (some (.inl (jz k)))) := ⟨by rw [e], R, fun x => by omega, uo_ux u hO, by omega⟩
theorem lk_c (s : St) (u r : Int) : (lkF s u r).1 ≠ 3 := by
  unfold lkF
  split
  · split
    · show (0 : Int) ≠ 3; omega
    · show (2 : Int) ≠ 3; omega
  · show (1 : Int) ≠ 3; omega
theorem ul_c (s : St) (u r : Int) : (ulF s u r).1 ≠ 3 := by
  unfold ulF
  split
  · split
    · show (0 : Int) ≠ 3; omega
    · show (2 : Int) ≠ 3; omega
  · show (1 : Int) ≠ 3; omega
theorem ot_c (s : St) (r : Int) : (otF s r).1 = 0 ∨ (otF s r).1 = 1 := by
  unfold otF
  split
  · exact Or.inl rfl
  · exact Or.inr rfl
theorem ab_c (s : St) (r w : Int) : (abF s r w).1 = 0 ∨ (abF s r w).1 = 1 := by
  unfold abF
  split
  · exact Or.inl rfl
  · exact Or.inr rfl
theorem na_c (s : St) (r w : Int) : (naF s r w).1 = 0 ∨ (naF s r w).1 = 1 := by
  unfold naF
  split
  · exact Or.inl rfl
  · exact Or.inr rfl
theorem ro_c (s : St) (r w : Int) : (roF s r w).1 = 0 ∨ (roF s r w).1 = 1 := by
  unfold roF
  split
  · exact Or.inl rfl
  · exact Or.inr rfl
theorem cm_c (s : St) (r : Int) : (cmF s r).1 = 0 ∨ (cmF s r).1 = 1 := by
  unfold cmF
  split
  · exact Or.inl rfl
  · exact Or.inr rfl
theorem w131 {d X c p O : Nat} {h : jm_H} {s : St} {v1 v2 : Int} (R : RX h X c p s) (ok : oks s) (hb : X + 180 ≤ h.1) (hr : xr h) (hO : O < h.1 ∧ ¬ (X ≤ O ∧ O < X + 180)) (tO : jm_T h O = 101 ∧ jm_N h O = 1) (h1 : jR v1) (h2 : jR v2) : jm_E dh_pr (d + 6) 131 [.inr (.inl X), .inl (jz v1), .inl (jz v2), .inr (.inl O)] h (fun o h' => wo X O h h' (lkF s v1 v2) o) := by
  refine e131 (r131_0 ⟨R.1.1, jm_E_mono _ _ _ _ _ _ ?_ (x6 R ok hb hr h1 h2)⟩)
  rintro o h1 ⟨u1, R1, ⟨e, rfl⟩ | ⟨e, rfl, t⟩ | ⟨e, rfl, t⟩ | ⟨e, rfl, t⟩⟩
  · have sO := u1.2 O hO.1 hO.2
    exact r131_8 ⟨sO.1.trans tO.1, _, sO.2.1.trans tO.2, ⟨by omega, by omega, by omega⟩, wo_0 u1 hO R1 e⟩
  · exact jm_kH (y := 13) (by rw [t]; rfl) (by decide) (r131_13 (wo_n u1 hO R1 e (by omega)))
  · exact jm_kH (y := 17) (by rw [t]; rfl) (by decide) (r131_17 (wo_n u1 hO R1 e (by omega)))
  · exact absurd e (lk_c _ _ _)
theorem w132 {d X c p O : Nat} {h : jm_H} {s : St} {v1 v2 : Int} (R : RX h X c p s) (ok : oks s) (hb : X + 180 ≤ h.1) (hr : xr h) (hO : O < h.1 ∧ ¬ (X ≤ O ∧ O < X + 180)) (tO : jm_T h O = 101 ∧ jm_N h O = 1) (h1 : jR v1) (h2 : jR v2) : jm_E dh_pr (d + 6) 132 [.inr (.inl X), .inl (jz v1), .inl (jz v2), .inr (.inl O)] h (fun o h' => wo X O h h' (ulF s v1 v2) o) := by
  refine e132 (r132_0 ⟨R.1.1, jm_E_mono _ _ _ _ _ _ ?_ (x7 R ok hb hr h1 h2)⟩)
  rintro o h1 ⟨u1, R1, ⟨e, rfl⟩ | ⟨e, rfl, t⟩ | ⟨e, rfl, t⟩ | ⟨e, rfl, t⟩⟩
  · have sO := u1.2 O hO.1 hO.2
    exact r132_8 ⟨sO.1.trans tO.1, _, sO.2.1.trans tO.2, ⟨by omega, by omega, by omega⟩, wo_0 u1 hO R1 e⟩
  · exact jm_kH (y := 13) (by rw [t]; rfl) (by decide) (r132_13 (wo_n u1 hO R1 e (by omega)))
  · exact jm_kH (y := 17) (by rw [t]; rfl) (by decide) (r132_17 (wo_n u1 hO R1 e (by omega)))
  · exact absurd e (ul_c _ _ _)
theorem w133 {d X c p O : Nat} {h : jm_H} {s : St} {v1 v2 : Int} (R : RX h X c p s) (ok : oks s) (hb : X + 180 ≤ h.1) (hr : xr h) (hO : O < h.1 ∧ ¬ (X ≤ O ∧ O < X + 180)) (tO : jm_T h O = 101 ∧ jm_N h O = 1) (h1 : jR v1) (h2 : jR v2) : jm_E dh_pr (d + 5) 133 [.inr (.inl X), .inl (jz v1), .inl (jz v2), .inr (.inl O)] h (fun o h' => wo X O h h' (ciF s v1 v2) o) := by
  refine e133 (r133_0 ⟨R.1.1, jm_E_mono _ _ _ _ _ _ ?_ (x8 R ok hb hr h1 h2)⟩)
  rintro o h1 ⟨u1, R1, ⟨e, rfl⟩ | ⟨e, rfl, t⟩ | ⟨e, rfl, t⟩ | ⟨e, rfl, t⟩⟩
  · have sO := u1.2 O hO.1 hO.2
    exact r133_8 ⟨sO.1.trans tO.1, _, sO.2.1.trans tO.2, ⟨by omega, by omega, by omega⟩, wo_0 u1 hO R1 e⟩
  · exact jm_kH (y := 13) (by rw [t]; rfl) (by decide) (r133_13 (wo_n u1 hO R1 e (by omega)))
  · exact jm_kH (y := 17) (by rw [t]; rfl) (by decide) (r133_17 (wo_n u1 hO R1 e (by omega)))
  · exact jm_kH (y := 21) (by rw [t]; rfl) (by decide) (r133_21 (wo_n u1 hO R1 e (by omega)))
theorem w134 {d X c p O : Nat} {h : jm_H} {s : St} {v1 : Int} (R : RX h X c p s) (ok : oks s) (hb : X + 180 ≤ h.1) (hr : xr h) (hO : O < h.1 ∧ ¬ (X ≤ O ∧ O < X + 180)) (tO : jm_T h O = 101 ∧ jm_N h O = 1) (h1 : jR v1) : jm_E dh_pr (d + 4) 134 [.inr (.inl X), .inl (jz v1), .inr (.inl O)] h (fun o h' => wo X O h h' (otF s v1) o) := by
  refine e134 (r134_0 ⟨R.1.1, jm_E_mono _ _ _ _ _ _ ?_ (x9 R hb hr h1)⟩)
  rintro o h1 ⟨u1, R1, ⟨e, rfl⟩ | ⟨e, rfl, t⟩ | ⟨e, rfl, t⟩ | ⟨e, rfl, t⟩⟩
  · have sO := u1.2 O hO.1 hO.2
    exact r134_7 ⟨sO.1.trans tO.1, _, sO.2.1.trans tO.2, ⟨by omega, by omega, by omega⟩, wo_0 u1 hO R1 e⟩
  · exact jm_kH (y := 12) (by rw [t]; rfl) (by decide) (r134_12 (wo_n u1 hO R1 e (by omega)))
  · have := ot_c s v1; omega
  · have := ot_c s v1; omega
theorem w136 {d X c p O : Nat} {h : jm_H} {s : St} {v1 v2 : Int} (R : RX h X c p s) (ok : oks s) (hb : X + 180 ≤ h.1) (hr : xr h) (hO : O < h.1 ∧ ¬ (X ≤ O ∧ O < X + 180)) (tO : jm_T h O = 101 ∧ jm_N h O = 1) (h1 : jR v1) (h2 : jR v2) : jm_E dh_pr (d + 4) 136 [.inr (.inl X), .inl (jz v1), .inl (jz v2), .inr (.inl O)] h (fun o h' => wo X O h h' (abF s v1 v2) o) := by
  refine e136 (r136_0 ⟨R.1.1, jm_E_mono _ _ _ _ _ _ ?_ (x14 R hb hr h1 h2)⟩)
  rintro o h1 ⟨u1, R1, ⟨e, rfl⟩ | ⟨e, rfl, t⟩ | ⟨e, rfl, t⟩ | ⟨e, rfl, t⟩⟩
  · have sO := u1.2 O hO.1 hO.2
    exact r136_8 ⟨sO.1.trans tO.1, _, sO.2.1.trans tO.2, ⟨by omega, by omega, by omega⟩, wo_0 u1 hO R1 e⟩
  · exact jm_kH (y := 13) (by rw [t]; rfl) (by decide) (r136_13 (wo_n u1 hO R1 e (by omega)))
  · have := ab_c s v1 v2; omega
  · have := ab_c s v1 v2; omega
theorem w137 {d X c p O : Nat} {h : jm_H} {s : St} {v1 v2 : Int} (R : RX h X c p s) (ok : oks s) (hb : X + 180 ≤ h.1) (hr : xr h) (hO : O < h.1 ∧ ¬ (X ≤ O ∧ O < X + 180)) (tO : jm_T h O = 101 ∧ jm_N h O = 1) (h1 : jR v1) (h2 : jR v2) : jm_E dh_pr (d + 4) 137 [.inr (.inl X), .inl (jz v1), .inl (jz v2), .inr (.inl O)] h (fun o h' => wo X O h h' (naF s v1 v2) o) := by
  refine e137 (r137_0 ⟨R.1.1, jm_E_mono _ _ _ _ _ _ ?_ (x15 R ok hb hr h1 h2)⟩)
  rintro o h1 ⟨u1, R1, ⟨e, rfl⟩ | ⟨e, rfl, t⟩ | ⟨e, rfl, t⟩ | ⟨e, rfl, t⟩⟩
  · have sO := u1.2 O hO.1 hO.2
    exact r137_8 ⟨sO.1.trans tO.1, _, sO.2.1.trans tO.2, ⟨by omega, by omega, by omega⟩, wo_0 u1 hO R1 e⟩
  · exact jm_kH (y := 13) (by rw [t]; rfl) (by decide) (r137_13 (wo_n u1 hO R1 e (by omega)))
  · have := na_c s v1 v2; omega
  · have := na_c s v1 v2; omega
theorem w138 {d X c p O : Nat} {h : jm_H} {s : St} {v1 v2 : Int} (R : RX h X c p s) (ok : oks s) (hb : X + 180 ≤ h.1) (hr : xr h) (hO : O < h.1 ∧ ¬ (X ≤ O ∧ O < X + 180)) (tO : jm_T h O = 101 ∧ jm_N h O = 1) (h1 : jR v1) (h2 : jR v2) : jm_E dh_pr (d + 4) 138 [.inr (.inl X), .inl (jz v1), .inl (jz v2), .inr (.inl O)] h (fun o h' => wo X O h h' (roF s v1 v2) o) := by
  refine e138 (r138_0 ⟨R.1.1, jm_E_mono _ _ _ _ _ _ ?_ (x16 R ok hb hr h1 h2)⟩)
  rintro o h1 ⟨u1, R1, ⟨e, rfl⟩ | ⟨e, rfl, t⟩ | ⟨e, rfl, t⟩ | ⟨e, rfl, t⟩⟩
  · have sO := u1.2 O hO.1 hO.2
    exact r138_8 ⟨sO.1.trans tO.1, _, sO.2.1.trans tO.2, ⟨by omega, by omega, by omega⟩, wo_0 u1 hO R1 e⟩
  · exact jm_kH (y := 13) (by rw [t]; rfl) (by decide) (r138_13 (wo_n u1 hO R1 e (by omega)))
  · have := ro_c s v1 v2; omega
  · have := ro_c s v1 v2; omega
theorem w139 {d X c p O : Nat} {h : jm_H} {s : St} {v1 : Int} (R : RX h X c p s) (ok : oks s) (hb : X + 180 ≤ h.1) (hr : xr h) (hO : O < h.1 ∧ ¬ (X ≤ O ∧ O < X + 180)) (tO : jm_T h O = 101 ∧ jm_N h O = 1) (h1 : jR v1) : jm_E dh_pr (d + 4) 139 [.inr (.inl X), .inl (jz v1), .inr (.inl O)] h (fun o h' => wo X O h h' (cmF s v1) o) := by
  refine e139 (r139_0 ⟨R.1.1, jm_E_mono _ _ _ _ _ _ ?_ (x17 R ok hb hr h1)⟩)
  rintro o h1 ⟨u1, R1, ⟨e, rfl⟩ | ⟨e, rfl, t⟩ | ⟨e, rfl, t⟩ | ⟨e, rfl, t⟩⟩
  · have sO := u1.2 O hO.1 hO.2
    exact r139_7 ⟨sO.1.trans tO.1, _, sO.2.1.trans tO.2, ⟨by omega, by omega, by omega⟩, wo_0 u1 hO R1 e⟩
  · exact jm_kH (y := 12) (by rw [t]; rfl) (by decide) (r139_12 (wo_n u1 hO R1 e (by omega)))
  · have := cm_c s v1; omega
  · have := cm_c s v1; omega
theorem w135 {d X c p O : Nat} {h : jm_H} {s : St} {v1 v2 : Int} (R : RX h X c p s) (ok : oks s) (hb : X + 180 ≤ h.1) (hr : xr h) (hO : O < h.1 ∧ ¬ (X ≤ O ∧ O < X + 180)) (h1 : jR v1) (h2 : jR v2) : jm_E dh_pr (d + 3) 135 [.inr (.inl X), .inl (jz v1), .inl (jz v2)] h (fun o h' => o = .inl (some (.inl (jz (crF s v1 v2).1))) ∧ (∃ c p, RX h' X c p (crF s v1 v2).2.2) ∧ uo X O h h' ∧ (0 ≤ (crF s v1 v2).1 ∧ (crF s v1 v2).1 ≤ 3)) := by
  refine e135 (r135_0 ⟨R.1.1, jm_E_mono _ _ _ _ _ _ ?_ (x11 R ok hb hr h1 h2)⟩)
  rintro o h1 ⟨u1, R1, ⟨e, rfl⟩ | ⟨e, rfl, t⟩ | ⟨e, rfl, t⟩⟩
  · exact r135_6 ⟨by rw [e], R1, uo_ux u1 hO, by omega⟩
  · exact jm_kH (y := 9) (by rw [t]; rfl) (by decide) (r135_9 ⟨by rw [e], R1, uo_ux u1 hO, by omega⟩)
  · exact jm_kH (y := 12) (by rw [t]; rfl) (by decide) (r135_12 ⟨by rw [e], R1, uo_ux u1 hO, by omega⟩)
theorem x4 {d X c p : Nat} {h : jm_H} {s : St} (R : RX h X c p s) : jm_E dh_pr (d + 1) 4 [.inr (.inl X)] h (fun o h' => o = .inl (some (.inl (jz s.1.length))) ∧ ux X 180 h h' ∧ ∃ c p, RX h' X c p s) := by
  refine jm_E_mono _ _ _ _ _ _ ?_ (s4 R.1 R.2.1)
  rintro o h' ⟨rfl, rfl⟩
  exact ⟨rfl, ux_refl _ _ _, c, p, R⟩
theorem x5 {d X c p : Nat} {h : jm_H} {s : St} {k : Int} (R : RX h X c p s) (hk : jR k) : jm_E dh_pr (d + 2) 5 [.inr (.inl X), .inl (jz k)] h (fun o h' => o = .inl (some (.inl (jz (if 0 ≤ k ∧ k < s.1.length then s.1.getD k.toNat 0 else -1)))) ∧ ux X 180 h h' ∧ ∃ c p, RX h' X c p s) := by
  refine jm_E_mono _ _ _ _ _ _ ?_ (s5 R.1 R.2.1 hk)
  rintro o h' ⟨rfl, rfl⟩
  exact ⟨rfl, ux_refl _ _ _, c, p, R⟩
theorem x13 {d X c p : Nat} {h : jm_H} {s : St} (R : RX h X c p s) : jm_E dh_pr (d + 1) 13 [.inr (.inl X)] h (fun o h' => o = .inl (some (.inl (jz s.2.1.length))) ∧ ux X 180 h h' ∧ ∃ c p, RX h' X c p s) := by
  refine jm_E_mono _ _ _ _ _ _ ?_ (s13 R.1 R.2.2.2.2.2.2.2.1)
  rintro o h' ⟨rfl, rfl⟩
  exact ⟨rfl, ux_refl _ _ _, c, p, R⟩
theorem x18' {d X c p : Nat} {h : jm_H} {s : St} {k w : Int} (R : RX h X c p s) (ok : oks s) (hk : jR k) (hw : jR w) : jm_E dh_pr (d + 3) 18 [.inr (.inl X), .inl (jz k), .inl (jz w)] h (fun o h' => o = .inl (some (.inl (jz (stF s k w)))) ∧ ux X 180 h h' ∧ ∃ c p, RX h' X c p s) := by
  refine jm_E_mono _ _ _ _ _ _ ?_ (x18 R ok hk hw)
  rintro o h' ⟨rfl, rfl⟩
  exact ⟨rfl, ux_refl _ _ _, c, p, R⟩
theorem x19 {d X c p : Nat} {h : jm_H} {s : St} {v : Int} (R : RX h X c p s) (hv : jR v) : jm_E dh_pr (d + 1) 19 [.inr (.inl X), .inl (jz v)] h (fun o h' => o = .inl (some (.inl (jz ((if v = 0 then s.2.2.1.length else s.2.2.2.1.length : Nat) : Int)))) ∧ ux X 180 h h' ∧ ∃ c p, RX h' X c p s) := by
  refine jm_E_mono _ _ _ _ _ _ ?_ (s19 R.1 R.2.2.2.2.1 R.2.2.2.2.2.1 hv)
  rintro o h' ⟨rfl, rfl⟩
  exact ⟨rfl, ux_refl _ _ _, c, p, R⟩
theorem x20 {d X c p : Nat} {h : jm_H} {s : St} {k v : Int} (R : RX h X c p s) (ok : oks s) (hk : jR k) (hv : jR v) : jm_E dh_pr (d + 3) 20 [.inr (.inl X), .inl (jz k), .inl (jz v)] h (fun o h' => o = .inl (some (.inl (jz (atN s k v)))) ∧ ux X 180 h h' ∧ ∃ c p, RX h' X c p s) := by
  refine jm_E_mono _ _ _ _ _ _ ?_ (s20 R.1 R.2.2.2.2.1 R.2.2.2.2.2.1 ⟨ok.2.2.2.1.1, ok.2.2.2.2.1⟩ hk hv)
  rintro o h' ⟨rfl, rfl⟩
  exact ⟨rfl, ux_refl _ _ _, c, p, R⟩
theorem oks_ds {s : St} (ok : oks s) (a b c : Int) : oks (dsF s a b c).2 := by
  by_cases q : okB (jb12 a b c)
  · have ec : dsF s a b c = (1, (nzs (jb12 a b c), s.2)) := by unfold dsF; rw [if_pos q]
    rw [ec]
    refine ⟨⟨?_, fun v hv => ?_⟩, ok.2⟩
    · have : (nzs (jb12 a b c)).length ≤ (jb12 a b c).length := List.length_filter_le _ _
      have l : (jb12 a b c).length = 12 := rfl
      show (nzs (jb12 a b c)).length ≤ 12
      omega
    · have hv' : v ∈ (jb12 a b c).filter (fun b => decide (b ≠ 0)) := hv
      rw [List.mem_filter] at hv'
      obtain ⟨h1, h2⟩ := hv'
      have h3 : v ≠ 0 := of_decide_eq_true h2
      exact (q v h1).resolve_left h3
  · have ec : dsF s a b c = (0, s) := by unfold dsF; rw [if_neg q]
    rw [ec]; exact ok
theorem oks_in {s : St} (ok : oks s) (k v : Int) : oks (inF s k v).2 := by
  unfold inF
  split
  · rename_i q
    obtain ⟨⟨q1, q2, q3⟩, q4, q5⟩ := q
    refine ⟨⟨?_, fun x hx => ?_⟩, ok.2⟩
    · show (s.1.take k.toNat ++ v :: s.1.drop k.toNat).length ≤ 12
      rw [List.length_append, List.length_take, List.length_cons, List.length_drop]
      omega
    · rcases List.mem_append.mp hx with hx | hx
      · exact ok.1.2 x (List.mem_of_mem_take hx)
      · rcases List.mem_cons.mp hx with rfl | hx
        · exact ⟨q1, q2⟩
        · exact ok.1.2 x (List.mem_of_mem_drop hx)
  · exact ok
theorem oks_rm {s : St} (ok : oks s) (k : Int) : oks (rmF s k).2 := by
  unfold rmF
  split
  · refine ⟨⟨?_, fun x hx => ?_⟩, ok.2⟩
    · have l := ok.1.1
      show (s.1.take k.toNat ++ s.1.drop (k.toNat + 1)).length ≤ 12
      rw [List.length_append, List.length_take, List.length_drop]
      omega
    · rcases List.mem_append.mp hx with hx | hx
      · exact ok.1.2 x (List.mem_of_mem_take hx)
      · exact ok.1.2 x (List.mem_of_mem_drop hx)
  · exact ok
theorem oks_ca {s : St} (ok : oks s) {n : Int} (hn : jR n) : oks (caF s n).2 := by
  unfold caF
  split
  · rename_i q
    exact ⟨ok.1, ok.2.1, ok.2.2.1, ok.2.2.2.1, ok.2.2.2.2.1, ⟨q, hn⟩, ok.2.2.2.2.2.2⟩
  · exact ok
theorem oks_ab {s : St} (ok : oks s) (r w : Int) : oks (abF s r w).2.2 := by
  unfold abF
  split <;> exact ok
theorem oks_na {s : St} (ok : oks s) (r w : Int) : oks (naF s r w).2.2 := by
  unfold naF
  split <;> exact ok
theorem oks_ro {s : St} (ok : oks s) (r w : Int) : oks (roF s r w).2.2 := by
  unfold roF
  split <;> exact ok
