/-! The law: every run answers 1. -/
theorem lg_same (x : Int64) : lg_cmp x x = jz 0 := by
  unfold lg_cmp
  rw [if_neg (by simp <;> omega), if_pos rfl]; rfl
/-- what holds at the head of the law's loop, after i rounds -/
def LI (L : Nat) (xs : Nat → Int32) (h : jm_H) (s : St) (i : Nat) : Prop := (jm_T h 1 = 99 ∧ jm_N h 1 = L ∧ ∀ k, jm_I h 1 k = xs k) ∧ (∃ c p, RX h 2 c p s) ∧ RM h 182 s ∧ oks s ∧ (jm_T h 212 = 101 ∧ jm_N h 212 = 1) ∧ (213 ≤ h.1 ∧ h.1 ≤ 213 + 2 * i ∧ h.2.1 ≤ 10000 + 12 * i)
/-- between the two calls of a round -/
def LM (L : Nat) (xs : Nat → Int32) (h : jm_H) (s s' : St) (i : Nat) : Prop := (jm_T h 1 = 99 ∧ jm_N h 1 = L ∧ ∀ k, jm_I h 1 k = xs k) ∧ (∃ c p, RX h 2 c p s') ∧ RM h 182 s ∧ oks s' ∧ (jm_T h 212 = 101 ∧ jm_N h 212 = 1) ∧ (213 ≤ h.1 ∧ h.1 ≤ 213 + 2 * i + 1 ∧ h.2.1 ≤ 10000 + 12 * i + 6)
theorem LI_X {L i : Nat} {xs : Nat → Int32} {h h1 : jm_H} {s s' : St} (I : LI L xs h s i) (u : uo 2 212 h h1) (R : ∃ c p, RX h1 2 c p s') (ok : oks s') : LM L xs h1 s s' i := by
  obtain ⟨⟨a1, a2, a3⟩, -, c, -, ⟨e1, e2⟩, f1, f2, f3⟩ := I
  have s1 := u.2.1 1 (by omega) (by omega) (by omega)
  have u1 := u.1
  exact ⟨⟨s1.1.trans a1, s1.2.1.trans a2, fun k => (s1.2.2.2.2 k).trans (a3 k)⟩, R, RM_sr c (fun j hj => u.2.1 _ (by omega) (by omega) (by omega)), ok, ⟨u.2.2.1.trans e1, u.2.2.2.trans e2⟩, by omega, by omega, by omega⟩
theorem LM_M {L i : Nat} {xs : Nat → Int32} {h1 h2 : jm_H} {s s' : St} (I : LM L xs h1 s s' i) (p : jq 182 mB (mA 182) h1 h2) (R : RM h2 182 s') : LI L xs h2 s' (i + 1) ∧ ∀ k, jm_L h2 212 k = jm_L h1 212 k := by
  obtain ⟨⟨a1, a2, a3⟩, ⟨c, q, b⟩, -, ok, ⟨e1, e2⟩, f1, f2, f3⟩ := I
  have u := ux_A p
  have s1 := u.2 1 (by omega) (by omega)
  have s2 := u.2 212 (by omega) (by omega)
  have u1 := u.1
  exact ⟨⟨⟨s1.1.trans a1, s1.2.1.trans a2, fun k => (s1.2.2.2.2 k).trans (a3 k)⟩, ⟨c, q, RX_sr b (fun j hj => u.2 _ (by omega) (by omega))⟩, R, ok, ⟨s2.1.trans e1, s2.2.1.trans e2⟩, by omega, by omega, by omega⟩, s2.2.2.2.1⟩
theorem jz_val (v : Int) : ∃ w : Int, jR w ∧ jz v = jz w := ⟨(jz v).toInt, jR_toInt _, jz_of _⟩
theorem LI_xr {L i : Nat} {xs : Nat → Int32} {h : jm_H} {s : St} (I : LI L xs h s i) (hi : i ≤ 512) : xr h := by
  obtain ⟨-, -, -, -, -, f1, f2, f3⟩ := I
  exact ⟨by omega, by omega⟩
theorem law_l {L : Nat} {xs : Nat → Int32} (hL : L ≤ 2048) : ∀ (m i : Nat) (h : jm_H) (s : St) (v4 : Int) (l5 l6 : Option jm_V), 4 * i + 4 * m ≤ L + 4 → 4 * i + 4 * m + 3 ≥ L → v4 = 4 * (i : Int) → LI L xs h s i → jm_W dh_pr 11 140 (23, [some (.inr (.inl 1)), some (.inr (.inl 2)), some (.inr (.inl 182)), some (.inr (.inl 212)), some (.inl (jz v4)), l5, l6], [], h) (fun o _ => o = .inl (some (.inl (jz 1)))) := by
  intro m
  induction m with
  | zero =>
    intro i h s v4 l5 l6 e1 e2 e4 I
    obtain ⟨⟨a1, a2, a3⟩, -⟩ := I
    exact r140_23 ⟨a1, L, a2, ⟨by omega, by omega⟩, ⟨by omega, by omega⟩, fun _ => rfl, fun w => absurd w (by omega)⟩
  | succ m ih =>
    intro i h s v4 l5 l6 e1 e2 e4 I
    have I0 := I
    obtain ⟨⟨a1, a2, a3⟩, ⟨c, p, R⟩, RMh, ok, ⟨t1, t2⟩, f1, f2, f3⟩ := I
    by_cases fin : (L : Int) - 4 < v4
    · exact r140_23 ⟨a1, L, a2, ⟨by omega, by omega⟩, ⟨by omega, by omega⟩, fun _ => rfl, fun w => absurd w (by omega)⟩
    have hi : i ≤ 512 := by omega
    have hr := LI_xr I0 hi
    have hO : 212 < h.1 ∧ ¬ (2 ≤ 212 ∧ 212 < 2 + 180) := ⟨by omega, by omega⟩
    have ji : ∀ k : Int, 0 ≤ k → k ≤ 3 → jzi (v4 + k) L := fun k h1 h2 => ⟨by omega, by omega, by omega⟩
    have NX : ∀ (h2 : jm_H) (s' : St) (l5 l6 : Option jm_V), LI L xs h2 s' (i + 1) → jm_W dh_pr 11 140 (23, [some (.inr (.inl 1)), some (.inr (.inl 2)), some (.inr (.inl 182)), some (.inr (.inl 212)), some (.inl (jz (v4 + 4))), l5, l6], [], h2) (fun o _ => o = .inl (some (.inl (jz 1)))) := fun h2 s' l5 l6 I2 => ih (i + 1) h2 s' _ _ _ (by omega) (by omega) (by omega) I2
    have A : ∀ k : Int, ∃ z : Int, jR z ∧ xs ((v4 + k).toNat) = jz z := fun k => ⟨(xs ((v4 + k).toNat)).toInt, jR_toInt _, jz_of _⟩
    obtain ⟨y1, j1, y1e⟩ := A 1
    obtain ⟨y2, j2, y2e⟩ := A 2
    obtain ⟨y3, j3, y3e⟩ := A 3
    have b1 : jm_I h 1 ((v4 + 1).toNat) = jz y1 := (a3 _).trans y1e
    have b2 : jm_I h 1 ((v4 + 2).toNat) = jz y2 := (a3 _).trans y2e
    have b3 : jm_I h 1 ((v4 + 3).toNat) = jz y3 := (a3 _).trans y3e
    have i1 := ji 1 (by omega) (by omega)
    have i2 := ji 2 (by omega) (by omega)
    have i3 := ji 3 (by omega) (by omega)
    have x1' := R.1.1
    have i0 : jzi v4 L := ⟨by omega, by omega, by omega⟩
    have C0 : jm_E dh_pr 11 1 [.inr (.inl 2), .inl (jz y1), .inl (jz y2), .inl (jz y3)] h (jm_k dh_pr 11 140 (fun o _ => o = .inl (some (.inl (jz 1)))) 154 [some (.inr (.inl 1)), some (.inr (.inl 2)), some (.inr (.inl 182)), some (.inr (.inl 212)), some (.inl (jz v4)), l5, l6] [] 151) := by
      refine jm_E_le (d := 3) (by omega) (jm_E_mono _ _ _ _ _ _ ?_ (x1 (d := 0) R ))
      rintro o h1 ⟨rfl, u1, R1⟩
      have M1 := LI_X I0 (uo_ux u1 hO) R1 (oks_ds ok y1 y2 y3)
      obtain ⟨⟨d0, dN, dI⟩, -⟩ := M1
      have M1 := LI_X I0 (uo_ux u1 hO) R1 (oks_ds ok y1 y2 y3)
      have d1 : jm_I h1 1 ((v4 + 1).toNat) = jz y1 := (dI _).trans y1e
      have d2 : jm_I h1 1 ((v4 + 2).toNat) = jz y2 := (dI _).trans y2e
      have d3 : jm_I h1 1 ((v4 + 3).toNat) = jz y3 := (dI _).trans y3e
      refine r140_154 ⟨d0, _, dN, i1, _, d1, i2, _, d2, i3, _, d3, M1.2.2.1.1.1, ?_⟩
      refine jm_E_le (d := 2) (by omega) (jm_E_mono _ _ _ _ _ _ ?_ (m31 (d := 0) M1.2.2.1 ))
      rintro o h2 ⟨rfl, RM2, p2⟩
      obtain ⟨w, jw, ew⟩ := jz_val (dsF s y1 y2 y3).1
      rw [ew]
      exact r140_176 ⟨jw, jw, fun _ => NX h2 _ _ _ (LM_M M1 p2 RM2).1, fun x => absurd rfl x⟩
    have C1 : jm_E dh_pr 11 2 [.inr (.inl 2), .inl (jz y1), .inl (jz y2)] h (jm_k dh_pr 11 140 (fun o _ => o = .inl (some (.inl (jz 1)))) 197 [some (.inr (.inl 1)), some (.inr (.inl 2)), some (.inr (.inl 182)), some (.inr (.inl 212)), some (.inl (jz v4)), l5, l6] [] 194) := by
      refine jm_E_le (d := 3) (by omega) (jm_E_mono _ _ _ _ _ _ ?_ (x2 (d := 0) R j1 j2))
      rintro o h1 ⟨rfl, u1, R1⟩
      have M1 := LI_X I0 (uo_ux u1 hO) R1 (oks_in ok y1 y2)
      obtain ⟨⟨d0, dN, dI⟩, -⟩ := M1
      have M1 := LI_X I0 (uo_ux u1 hO) R1 (oks_in ok y1 y2)
      have d1 : jm_I h1 1 ((v4 + 1).toNat) = jz y1 := (dI _).trans y1e
      have d2 : jm_I h1 1 ((v4 + 2).toNat) = jz y2 := (dI _).trans y2e
      refine r140_197 ⟨d0, _, dN, i1, _, d1, i2, _, d2, M1.2.2.1.1.1, ?_⟩
      refine jm_E_le (d := 2) (by omega) (jm_E_mono _ _ _ _ _ _ ?_ (m32 (d := 0) M1.2.2.1 j1 j2))
      rintro o h2 ⟨rfl, RM2, p2⟩
      obtain ⟨w, jw, ew⟩ := jz_val (inF s y1 y2).1
      rw [ew]
      exact r140_213 ⟨jw, jw, fun _ => NX h2 _ _ _ (LM_M M1 p2 RM2).1, fun x => absurd rfl x⟩
    have C2 : jm_E dh_pr 11 3 [.inr (.inl 2), .inl (jz y1)] h (jm_k dh_pr 11 140 (fun o _ => o = .inl (some (.inl (jz 1)))) 228 [some (.inr (.inl 1)), some (.inr (.inl 2)), some (.inr (.inl 182)), some (.inr (.inl 212)), some (.inl (jz v4)), l5, l6] [] 225) := by
      refine jm_E_le (d := 2) (by omega) (jm_E_mono _ _ _ _ _ _ ?_ (x3 (d := 0) R j1))
      rintro o h1 ⟨rfl, u1, R1⟩
      have M1 := LI_X I0 (uo_ux u1 hO) R1 (oks_rm ok y1)
      obtain ⟨⟨d0, dN, dI⟩, -⟩ := M1
      have M1 := LI_X I0 (uo_ux u1 hO) R1 (oks_rm ok y1)
      have d1 : jm_I h1 1 ((v4 + 1).toNat) = jz y1 := (dI _).trans y1e
      refine r140_228 ⟨d0, _, dN, i1, _, d1, M1.2.2.1.1.1, ?_⟩
      refine jm_E_le (d := 1) (by omega) (jm_E_mono _ _ _ _ _ _ ?_ (m33 (d := 0) M1.2.2.1 j1))
      rintro o h2 ⟨rfl, RM2, p2⟩
      obtain ⟨w, jw, ew⟩ := jz_val (rmF s y1).1
      rw [ew]
      exact r140_238 ⟨jw, jw, fun _ => NX h2 _ _ _ (LM_M M1 p2 RM2).1, fun x => absurd rfl x⟩
    have C3 : jm_E dh_pr 11 4 [.inr (.inl 2)] h (jm_k dh_pr 11 140 (fun o _ => o = .inl (some (.inl (jz 1)))) 247 [some (.inr (.inl 1)), some (.inr (.inl 2)), some (.inr (.inl 182)), some (.inr (.inl 212)), some (.inl (jz v4)), l5, l6] [] 244) := by
      refine jm_E_le (d := 1) (by omega) (jm_E_mono _ _ _ _ _ _ ?_ (x4 (d := 0) R ))
      rintro o h1 ⟨rfl, u1, R1⟩
      have M1 := LI_X I0 (uo_ux u1 hO) R1 ok
      obtain ⟨⟨d0, dN, dI⟩, -⟩ := M1
      have M1 := LI_X I0 (uo_ux u1 hO) R1 ok
      refine r140_247 ⟨M1.2.2.1.1.1, ?_⟩
      refine jm_E_le (d := 1) (by omega) (jm_E_mono _ _ _ _ _ _ ?_ (m34 (d := 0) M1.2.2.1 ))
      rintro o h2 ⟨rfl, RM2, p2⟩
      obtain ⟨w, jw, ew⟩ := jz_val (s.1.length : Int)
      rw [ew]
      exact r140_251 ⟨jw, jw, fun _ => NX h2 _ _ _ (LM_M M1 p2 RM2).1, fun x => absurd rfl x⟩
    have C4 : jm_E dh_pr 11 5 [.inr (.inl 2), .inl (jz y1)] h (jm_k dh_pr 11 140 (fun o _ => o = .inl (some (.inl (jz 1)))) 266 [some (.inr (.inl 1)), some (.inr (.inl 2)), some (.inr (.inl 182)), some (.inr (.inl 212)), some (.inl (jz v4)), l5, l6] [] 263) := by
      refine jm_E_le (d := 2) (by omega) (jm_E_mono _ _ _ _ _ _ ?_ (x5 (d := 0) R j1))
      rintro o h1 ⟨rfl, u1, R1⟩
      have M1 := LI_X I0 (uo_ux u1 hO) R1 ok
      obtain ⟨⟨d0, dN, dI⟩, -⟩ := M1
      have M1 := LI_X I0 (uo_ux u1 hO) R1 ok
      have d1 : jm_I h1 1 ((v4 + 1).toNat) = jz y1 := (dI _).trans y1e
      refine r140_266 ⟨d0, _, dN, i1, _, d1, M1.2.2.1.1.1, ?_⟩
      refine jm_E_le (d := 1) (by omega) (jm_E_mono _ _ _ _ _ _ ?_ (m35 (d := 0) M1.2.2.1 j1))
      rintro o h2 ⟨rfl, RM2, p2⟩
      obtain ⟨w, jw, ew⟩ := jz_val (if 0 ≤ y1 ∧ y1 < s.1.length then s.1.getD y1.toNat 0 else -1)
      rw [ew]
      exact r140_276 ⟨jw, jw, fun _ => NX h2 _ _ _ (LM_M M1 p2 RM2).1, fun x => absurd rfl x⟩
    have C5 : jm_E dh_pr 11 131 [.inr (.inl 2), .inl (jz y1), .inl (jz y2), .inr (.inl 212)] h (jm_k dh_pr 11 140 (fun o _ => o = .inl (some (.inl (jz 1)))) 298 [some (.inr (.inl 1)), some (.inr (.inl 2)), some (.inr (.inl 182)), some (.inr (.inl 212)), some (.inl (jz v4)), l5, l6] [] 295) := by
      refine jm_E_le (d := 6) (by omega) (jm_E_mono _ _ _ _ _ _ ?_ (w131 (d := 0) R ok (by omega) hr hO ⟨t1, t2⟩ j1 j2))
      rintro o h1 ⟨rfl, R1, l1, u1, cb1⟩
      have M1 := LI_X I0 u1 R1 (oks_lk ok y1 y2)
      obtain ⟨⟨d0, dN, dI⟩, -⟩ := M1
      have M1 := LI_X I0 u1 R1 (oks_lk ok y1 y2)
      have d1 : jm_I h1 1 ((v4 + 1).toNat) = jz y1 := (dI _).trans y1e
      have d2 : jm_I h1 1 ((v4 + 2).toNat) = jz y2 := (dI _).trans y2e
      refine r140_298 ⟨d0, _, dN, i1, _, d1, i2, _, d2, M1.2.2.1.1.1, ?_⟩
      refine jm_E_le (d := 5) (by omega) (jm_E_mono _ _ _ _ _ _ ?_ (m55 (d := 0) M1.2.2.1 ok j1 j2))
      rintro o h2 ⟨⟨v, rfl, ev⟩, z2, RM2, p2⟩
      obtain ⟨I2, L2⟩ := LM_M M1 p2 RM2
      refine r140_316 ⟨RM2.1.1, jm_E_le (d := 1) (by omega) (jm_E_mono _ _ _ _ _ _ ?_ (m28 (d := 0) RM2 z2))⟩
      rintro o h3 ⟨rfl, rfl⟩
      refine r140_322 ⟨⟨by omega, by omega⟩, ⟨by omega, by omega⟩, fun _ => ⟨fun _ => NX h3 _ _ _ I2, fun q => ⟨I2.2.2.2.2.1.1, _, I2.2.2.2.2.1.2, ⟨by omega, by omega, by omega⟩, _, rfl, 0, ?_, ⟨by omega, by omega⟩, fun _ => NX h3 _ _ _ I2, fun x => absurd rfl x⟩⟩, fun x => absurd rfl x⟩
      rw [L2 0, l1 q, ev q]; exact lg_same _
    have C6 : jm_E dh_pr 11 132 [.inr (.inl 2), .inl (jz y1), .inl (jz y2), .inr (.inl 212)] h (jm_k dh_pr 11 140 (fun o _ => o = .inl (some (.inl (jz 1)))) 366 [some (.inr (.inl 1)), some (.inr (.inl 2)), some (.inr (.inl 182)), some (.inr (.inl 212)), some (.inl (jz v4)), l5, l6] [] 363) := by
      refine jm_E_le (d := 6) (by omega) (jm_E_mono _ _ _ _ _ _ ?_ (w132 (d := 0) R ok (by omega) hr hO ⟨t1, t2⟩ j1 j2))
      rintro o h1 ⟨rfl, R1, l1, u1, cb1⟩
      have M1 := LI_X I0 u1 R1 (oks_ul ok y1 y2)
      obtain ⟨⟨d0, dN, dI⟩, -⟩ := M1
      have M1 := LI_X I0 u1 R1 (oks_ul ok y1 y2)
      have d1 : jm_I h1 1 ((v4 + 1).toNat) = jz y1 := (dI _).trans y1e
      have d2 : jm_I h1 1 ((v4 + 2).toNat) = jz y2 := (dI _).trans y2e
      refine r140_366 ⟨d0, _, dN, i1, _, d1, i2, _, d2, M1.2.2.1.1.1, ?_⟩
      refine jm_E_le (d := 5) (by omega) (jm_E_mono _ _ _ _ _ _ ?_ (m56 (d := 0) M1.2.2.1 ok j1 j2))
      rintro o h2 ⟨⟨v, rfl, ev⟩, z2, RM2, p2⟩
      obtain ⟨I2, L2⟩ := LM_M M1 p2 RM2
      refine r140_384 ⟨RM2.1.1, jm_E_le (d := 1) (by omega) (jm_E_mono _ _ _ _ _ _ ?_ (m28 (d := 0) RM2 z2))⟩
      rintro o h3 ⟨rfl, rfl⟩
      refine r140_390 ⟨⟨by omega, by omega⟩, ⟨by omega, by omega⟩, fun _ => ⟨fun _ => NX h3 _ _ _ I2, fun q => ⟨I2.2.2.2.2.1.1, _, I2.2.2.2.2.1.2, ⟨by omega, by omega, by omega⟩, _, rfl, 0, ?_, ⟨by omega, by omega⟩, fun _ => NX h3 _ _ _ I2, fun x => absurd rfl x⟩⟩, fun x => absurd rfl x⟩
      rw [L2 0, l1 q, ev q]; exact lg_same _
    have C7 : jm_E dh_pr 11 133 [.inr (.inl 2), .inl (jz y1), .inl (jz y2), .inr (.inl 212)] h (jm_k dh_pr 11 140 (fun o _ => o = .inl (some (.inl (jz 1)))) 434 [some (.inr (.inl 1)), some (.inr (.inl 2)), some (.inr (.inl 182)), some (.inr (.inl 212)), some (.inl (jz v4)), l5, l6] [] 431) := by
      refine jm_E_le (d := 5) (by omega) (jm_E_mono _ _ _ _ _ _ ?_ (w133 (d := 0) R ok (by omega) hr hO ⟨t1, t2⟩ j1 j2))
      rintro o h1 ⟨rfl, R1, l1, u1, cb1⟩
      have M1 := LI_X I0 u1 R1 (oks_ci ok y1 y2)
      obtain ⟨⟨d0, dN, dI⟩, -⟩ := M1
      have M1 := LI_X I0 u1 R1 (oks_ci ok y1 y2)
      have d1 : jm_I h1 1 ((v4 + 1).toNat) = jz y1 := (dI _).trans y1e
      have d2 : jm_I h1 1 ((v4 + 2).toNat) = jz y2 := (dI _).trans y2e
      refine r140_434 ⟨d0, _, dN, i1, _, d1, i2, _, d2, M1.2.2.1.1.1, ?_⟩
      refine jm_E_le (d := 4) (by omega) (jm_E_mono _ _ _ _ _ _ ?_ (m57 (d := 0) M1.2.2.1 ok j1 j2))
      rintro o h2 ⟨⟨v, rfl, ev⟩, z2, RM2, p2⟩
      obtain ⟨I2, L2⟩ := LM_M M1 p2 RM2
      refine r140_452 ⟨RM2.1.1, jm_E_le (d := 1) (by omega) (jm_E_mono _ _ _ _ _ _ ?_ (m28 (d := 0) RM2 z2))⟩
      rintro o h3 ⟨rfl, rfl⟩
      refine r140_458 ⟨⟨by omega, by omega⟩, ⟨by omega, by omega⟩, fun _ => ⟨fun _ => NX h3 _ _ _ I2, fun q => ⟨I2.2.2.2.2.1.1, _, I2.2.2.2.2.1.2, ⟨by omega, by omega, by omega⟩, _, rfl, 0, ?_, ⟨by omega, by omega⟩, fun _ => NX h3 _ _ _ I2, fun x => absurd rfl x⟩⟩, fun x => absurd rfl x⟩
      rw [L2 0, l1 q, ev q]; exact lg_same _
    have C8 : jm_E dh_pr 11 134 [.inr (.inl 2), .inl (jz y1), .inr (.inl 212)] h (jm_k dh_pr 11 140 (fun o _ => o = .inl (some (.inl (jz 1)))) 496 [some (.inr (.inl 1)), some (.inr (.inl 2)), some (.inr (.inl 182)), some (.inr (.inl 212)), some (.inl (jz v4)), l5, l6] [] 493) := by
      refine jm_E_le (d := 4) (by omega) (jm_E_mono _ _ _ _ _ _ ?_ (w134 (d := 0) R ok (by omega) hr hO ⟨t1, t2⟩ j1))
      rintro o h1 ⟨rfl, R1, l1, u1, cb1⟩
      have M1 := LI_X I0 u1 R1 (oks_ot ok y1)
      obtain ⟨⟨d0, dN, dI⟩, -⟩ := M1
      have M1 := LI_X I0 u1 R1 (oks_ot ok y1)
      have d1 : jm_I h1 1 ((v4 + 1).toNat) = jz y1 := (dI _).trans y1e
      refine r140_496 ⟨d0, _, dN, i1, _, d1, M1.2.2.1.1.1, ?_⟩
      refine jm_E_le (d := 2) (by omega) (jm_E_mono _ _ _ _ _ _ ?_ (m58 (d := 0) M1.2.2.1 ok j1))
      rintro o h2 ⟨⟨v, rfl, ev⟩, z2, RM2, p2⟩
      obtain ⟨I2, L2⟩ := LM_M M1 p2 RM2
      refine r140_508 ⟨RM2.1.1, jm_E_le (d := 1) (by omega) (jm_E_mono _ _ _ _ _ _ ?_ (m28 (d := 0) RM2 z2))⟩
      rintro o h3 ⟨rfl, rfl⟩
      refine r140_514 ⟨⟨by omega, by omega⟩, ⟨by omega, by omega⟩, fun _ => ⟨fun _ => NX h3 _ _ _ I2, fun q => ⟨I2.2.2.2.2.1.1, _, I2.2.2.2.2.1.2, ⟨by omega, by omega, by omega⟩, _, rfl, 0, ?_, ⟨by omega, by omega⟩, fun _ => NX h3 _ _ _ I2, fun x => absurd rfl x⟩⟩, fun x => absurd rfl x⟩
      rw [L2 0, l1 q, ev q]; exact lg_same _
    have C9 : jm_E dh_pr 11 10 [.inr (.inl 2), .inl (jz y1)] h (jm_k dh_pr 11 140 (fun o _ => o = .inl (some (.inl (jz 1)))) 551 [some (.inr (.inl 1)), some (.inr (.inl 2)), some (.inr (.inl 182)), some (.inr (.inl 212)), some (.inl (jz v4)), l5, l6] [] 548) := by
      refine jm_E_le (d := 1) (by omega) (jm_E_mono _ _ _ _ _ _ ?_ (x10 (d := 0) R j1))
      rintro o h1 ⟨rfl, u1, R1⟩
      have M1 := LI_X I0 (uo_ux u1 hO) R1 (oks_ca ok j1)
      obtain ⟨⟨d0, dN, dI⟩, -⟩ := M1
      have M1 := LI_X I0 (uo_ux u1 hO) R1 (oks_ca ok j1)
      have d1 : jm_I h1 1 ((v4 + 1).toNat) = jz y1 := (dI _).trans y1e
      refine r140_551 ⟨d0, _, dN, i1, _, d1, M1.2.2.1.1.1, ?_⟩
      refine jm_E_le (d := 1) (by omega) (jm_E_mono _ _ _ _ _ _ ?_ (m59 (d := 0) M1.2.2.1 j1))
      rintro o h2 ⟨rfl, RM2, p2⟩
      obtain ⟨w, jw, ew⟩ := jz_val (caF s y1).1
      rw [ew]
      exact r140_561 ⟨jw, jw, fun _ => NX h2 _ _ _ (LM_M M1 p2 RM2).1, fun x => absurd rfl x⟩
    have C10 : jm_E dh_pr 11 135 [.inr (.inl 2), .inl (jz y1), .inl (jz y2)] h (jm_k dh_pr 11 140 (fun o _ => o = .inl (some (.inl (jz 1)))) 582 [some (.inr (.inl 1)), some (.inr (.inl 2)), some (.inr (.inl 182)), some (.inr (.inl 212)), some (.inl (jz v4)), l5, l6] [] 579) := by
      refine jm_E_le (d := 3) (by omega) (jm_E_mono _ _ _ _ _ _ ?_ (w135 (d := 0) R ok (by omega) hr hO j1 j2))
      rintro o h1 ⟨rfl, R1, u1, cb1⟩
      have M1 := LI_X I0 u1 R1 (oks_cr ok y1 y2)
      obtain ⟨⟨d0, dN, dI⟩, -⟩ := M1
      have M1 := LI_X I0 u1 R1 (oks_cr ok y1 y2)
      have d1 : jm_I h1 1 ((v4 + 1).toNat) = jz y1 := (dI _).trans y1e
      have d2 : jm_I h1 1 ((v4 + 2).toNat) = jz y2 := (dI _).trans y2e
      refine r140_582 ⟨d0, _, dN, i1, _, d1, i2, _, d2, M1.2.2.1.1.1, ?_⟩
      refine jm_E_le (d := 1) (by omega) (jm_E_mono _ _ _ _ _ _ ?_ (m60 (d := 0) M1.2.2.1 ok j1 j2))
      rintro o h2 ⟨rfl, z2, RM2, p2⟩
      obtain ⟨I2, L2⟩ := LM_M M1 p2 RM2
      refine r140_600 ⟨RM2.1.1, jm_E_le (d := 1) (by omega) (jm_E_mono _ _ _ _ _ _ ?_ (m28 (d := 0) RM2 z2))⟩
      rintro o h3 ⟨rfl, rfl⟩
      exact r140_604 ⟨⟨by omega, by omega⟩, ⟨by omega, by omega⟩, fun _ => NX h3 _ _ _ I2, fun x => absurd rfl x⟩
    have C11 : jm_E dh_pr 11 12 [.inr (.inl 2)] h (jm_k dh_pr 11 140 (fun o _ => o = .inl (some (.inl (jz 1)))) 618 [some (.inr (.inl 1)), some (.inr (.inl 2)), some (.inr (.inl 182)), some (.inr (.inl 212)), some (.inl (jz v4)), l5, l6] [] 615) := by
      refine jm_E_le (d := 8) (by omega) (jm_E_mono _ _ _ _ _ _ ?_ (x12 (d := 0) R ok ))
      rintro o h1 ⟨rfl, u1, R1⟩
      have M1 := LI_X I0 (uo_ux u1 hO) R1 (oks_ld ok)
      obtain ⟨⟨d0, dN, dI⟩, -⟩ := M1
      have M1 := LI_X I0 (uo_ux u1 hO) R1 (oks_ld ok)
      refine r140_618 ⟨M1.2.2.1.1.1, ?_⟩
      refine jm_E_le (d := 5) (by omega) (jm_E_mono _ _ _ _ _ _ ?_ (m70 (d := 0) M1.2.2.1 ok ))
      rintro o h2 ⟨rfl, RM2, p2⟩
      obtain ⟨w, jw, ew⟩ := jz_val (ldF s).1
      rw [ew]
      exact r140_622 ⟨jw, jw, fun _ => NX h2 _ _ _ (LM_M M1 p2 RM2).1, fun x => absurd rfl x⟩
    have C12 : jm_E dh_pr 11 13 [.inr (.inl 2)] h (jm_k dh_pr 11 140 (fun o _ => o = .inl (some (.inl (jz 1)))) 631 [some (.inr (.inl 1)), some (.inr (.inl 2)), some (.inr (.inl 182)), some (.inr (.inl 212)), some (.inl (jz v4)), l5, l6] [] 628) := by
      refine jm_E_le (d := 1) (by omega) (jm_E_mono _ _ _ _ _ _ ?_ (x13 (d := 0) R ))
      rintro o h1 ⟨rfl, u1, R1⟩
      have M1 := LI_X I0 (uo_ux u1 hO) R1 ok
      obtain ⟨⟨d0, dN, dI⟩, -⟩ := M1
      have M1 := LI_X I0 (uo_ux u1 hO) R1 ok
      refine r140_631 ⟨M1.2.2.1.1.1, ?_⟩
      refine jm_E_le (d := 1) (by omega) (jm_E_mono _ _ _ _ _ _ ?_ (m71 (d := 0) M1.2.2.1 ))
      rintro o h2 ⟨rfl, RM2, p2⟩
      obtain ⟨w, jw, ew⟩ := jz_val (s.2.1.length : Int)
      rw [ew]
      exact r140_635 ⟨jw, jw, fun _ => NX h2 _ _ _ (LM_M M1 p2 RM2).1, fun x => absurd rfl x⟩
    have C13 : jm_E dh_pr 11 136 [.inr (.inl 2), .inl (jz y1), .inl (jz y2), .inr (.inl 212)] h (jm_k dh_pr 11 140 (fun o _ => o = .inl (some (.inl (jz 1)))) 657 [some (.inr (.inl 1)), some (.inr (.inl 2)), some (.inr (.inl 182)), some (.inr (.inl 212)), some (.inl (jz v4)), l5, l6] [] 654) := by
      refine jm_E_le (d := 4) (by omega) (jm_E_mono _ _ _ _ _ _ ?_ (w136 (d := 0) R ok (by omega) hr hO ⟨t1, t2⟩ j1 j2))
      rintro o h1 ⟨rfl, R1, l1, u1, cb1⟩
      have M1 := LI_X I0 u1 R1 (oks_ab ok y1 y2)
      obtain ⟨⟨d0, dN, dI⟩, -⟩ := M1
      have M1 := LI_X I0 u1 R1 (oks_ab ok y1 y2)
      have d1 : jm_I h1 1 ((v4 + 1).toNat) = jz y1 := (dI _).trans y1e
      have d2 : jm_I h1 1 ((v4 + 2).toNat) = jz y2 := (dI _).trans y2e
      refine r140_657 ⟨d0, _, dN, i1, _, d1, i2, _, d2, M1.2.2.1.1.1, ?_⟩
      refine jm_E_le (d := 2) (by omega) (jm_E_mono _ _ _ _ _ _ ?_ (m72 (d := 0) M1.2.2.1 ok j1 j2))
      rintro o h2 ⟨⟨v, rfl, ev⟩, z2, RM2, p2⟩
      obtain ⟨I2, L2⟩ := LM_M M1 p2 RM2
      refine r140_675 ⟨RM2.1.1, jm_E_le (d := 1) (by omega) (jm_E_mono _ _ _ _ _ _ ?_ (m28 (d := 0) RM2 z2))⟩
      rintro o h3 ⟨rfl, rfl⟩
      refine r140_681 ⟨⟨by omega, by omega⟩, ⟨by omega, by omega⟩, fun _ => ⟨fun _ => NX h3 _ _ _ I2, fun q => ⟨I2.2.2.2.2.1.1, _, I2.2.2.2.2.1.2, ⟨by omega, by omega, by omega⟩, _, rfl, 0, ?_, ⟨by omega, by omega⟩, fun _ => NX h3 _ _ _ I2, fun x => absurd rfl x⟩⟩, fun x => absurd rfl x⟩
      rw [L2 0, l1 q, ev q]; exact lg_same _
    have C14 : jm_E dh_pr 11 137 [.inr (.inl 2), .inl (jz y1), .inl (jz y2), .inr (.inl 212)] h (jm_k dh_pr 11 140 (fun o _ => o = .inl (some (.inl (jz 1)))) 725 [some (.inr (.inl 1)), some (.inr (.inl 2)), some (.inr (.inl 182)), some (.inr (.inl 212)), some (.inl (jz v4)), l5, l6] [] 722) := by
      refine jm_E_le (d := 4) (by omega) (jm_E_mono _ _ _ _ _ _ ?_ (w137 (d := 0) R ok (by omega) hr hO ⟨t1, t2⟩ j1 j2))
      rintro o h1 ⟨rfl, R1, l1, u1, cb1⟩
      have M1 := LI_X I0 u1 R1 (oks_na ok y1 y2)
      obtain ⟨⟨d0, dN, dI⟩, -⟩ := M1
      have M1 := LI_X I0 u1 R1 (oks_na ok y1 y2)
      have d1 : jm_I h1 1 ((v4 + 1).toNat) = jz y1 := (dI _).trans y1e
      have d2 : jm_I h1 1 ((v4 + 2).toNat) = jz y2 := (dI _).trans y2e
      refine r140_725 ⟨d0, _, dN, i1, _, d1, i2, _, d2, M1.2.2.1.1.1, ?_⟩
      refine jm_E_le (d := 2) (by omega) (jm_E_mono _ _ _ _ _ _ ?_ (m73 (d := 0) M1.2.2.1 ok j1 j2))
      rintro o h2 ⟨⟨v, rfl, ev⟩, z2, RM2, p2⟩
      obtain ⟨I2, L2⟩ := LM_M M1 p2 RM2
      refine r140_743 ⟨RM2.1.1, jm_E_le (d := 1) (by omega) (jm_E_mono _ _ _ _ _ _ ?_ (m28 (d := 0) RM2 z2))⟩
      rintro o h3 ⟨rfl, rfl⟩
      refine r140_749 ⟨⟨by omega, by omega⟩, ⟨by omega, by omega⟩, fun _ => ⟨fun _ => NX h3 _ _ _ I2, fun q => ⟨I2.2.2.2.2.1.1, _, I2.2.2.2.2.1.2, ⟨by omega, by omega, by omega⟩, _, rfl, 0, ?_, ⟨by omega, by omega⟩, fun _ => NX h3 _ _ _ I2, fun x => absurd rfl x⟩⟩, fun x => absurd rfl x⟩
      rw [L2 0, l1 q, ev q]; exact lg_same _
    have C15 : jm_E dh_pr 11 138 [.inr (.inl 2), .inl (jz y1), .inl (jz y2), .inr (.inl 212)] h (jm_k dh_pr 11 140 (fun o _ => o = .inl (some (.inl (jz 1)))) 793 [some (.inr (.inl 1)), some (.inr (.inl 2)), some (.inr (.inl 182)), some (.inr (.inl 212)), some (.inl (jz v4)), l5, l6] [] 790) := by
      refine jm_E_le (d := 4) (by omega) (jm_E_mono _ _ _ _ _ _ ?_ (w138 (d := 0) R ok (by omega) hr hO ⟨t1, t2⟩ j1 j2))
      rintro o h1 ⟨rfl, R1, l1, u1, cb1⟩
      have M1 := LI_X I0 u1 R1 (oks_ro ok y1 y2)
      obtain ⟨⟨d0, dN, dI⟩, -⟩ := M1
      have M1 := LI_X I0 u1 R1 (oks_ro ok y1 y2)
      have d1 : jm_I h1 1 ((v4 + 1).toNat) = jz y1 := (dI _).trans y1e
      have d2 : jm_I h1 1 ((v4 + 2).toNat) = jz y2 := (dI _).trans y2e
      refine r140_793 ⟨d0, _, dN, i1, _, d1, i2, _, d2, M1.2.2.1.1.1, ?_⟩
      refine jm_E_le (d := 2) (by omega) (jm_E_mono _ _ _ _ _ _ ?_ (m74 (d := 0) M1.2.2.1 ok j1 j2))
      rintro o h2 ⟨⟨v, rfl, ev⟩, z2, RM2, p2⟩
      obtain ⟨I2, L2⟩ := LM_M M1 p2 RM2
      refine r140_811 ⟨RM2.1.1, jm_E_le (d := 1) (by omega) (jm_E_mono _ _ _ _ _ _ ?_ (m28 (d := 0) RM2 z2))⟩
      rintro o h3 ⟨rfl, rfl⟩
      refine r140_817 ⟨⟨by omega, by omega⟩, ⟨by omega, by omega⟩, fun _ => ⟨fun _ => NX h3 _ _ _ I2, fun q => ⟨I2.2.2.2.2.1.1, _, I2.2.2.2.2.1.2, ⟨by omega, by omega, by omega⟩, _, rfl, 0, ?_, ⟨by omega, by omega⟩, fun _ => NX h3 _ _ _ I2, fun x => absurd rfl x⟩⟩, fun x => absurd rfl x⟩
      rw [L2 0, l1 q, ev q]; exact lg_same _
    have C16 : jm_E dh_pr 11 139 [.inr (.inl 2), .inl (jz y1), .inr (.inl 212)] h (jm_k dh_pr 11 140 (fun o _ => o = .inl (some (.inl (jz 1)))) 855 [some (.inr (.inl 1)), some (.inr (.inl 2)), some (.inr (.inl 182)), some (.inr (.inl 212)), some (.inl (jz v4)), l5, l6] [] 852) := by
      refine jm_E_le (d := 4) (by omega) (jm_E_mono _ _ _ _ _ _ ?_ (w139 (d := 0) R ok (by omega) hr hO ⟨t1, t2⟩ j1))
      rintro o h1 ⟨rfl, R1, l1, u1, cb1⟩
      have M1 := LI_X I0 u1 R1 (oks_cm ok y1)
      obtain ⟨⟨d0, dN, dI⟩, -⟩ := M1
      have M1 := LI_X I0 u1 R1 (oks_cm ok y1)
      have d1 : jm_I h1 1 ((v4 + 1).toNat) = jz y1 := (dI _).trans y1e
      refine r140_855 ⟨d0, _, dN, i1, _, d1, M1.2.2.1.1.1, ?_⟩
      refine jm_E_le (d := 3) (by omega) (jm_E_mono _ _ _ _ _ _ ?_ (m75 (d := 0) M1.2.2.1 ok j1))
      rintro o h2 ⟨⟨v, rfl, ev⟩, z2, RM2, p2⟩
      obtain ⟨I2, L2⟩ := LM_M M1 p2 RM2
      refine r140_867 ⟨RM2.1.1, jm_E_le (d := 1) (by omega) (jm_E_mono _ _ _ _ _ _ ?_ (m28 (d := 0) RM2 z2))⟩
      rintro o h3 ⟨rfl, rfl⟩
      refine r140_873 ⟨⟨by omega, by omega⟩, ⟨by omega, by omega⟩, fun _ => ⟨fun _ => NX h3 _ _ _ I2, fun q => ⟨I2.2.2.2.2.1.1, _, I2.2.2.2.2.1.2, ⟨by omega, by omega, by omega⟩, _, rfl, 0, ?_, ⟨by omega, by omega⟩, fun _ => NX h3 _ _ _ I2, fun x => absurd rfl x⟩⟩, fun x => absurd rfl x⟩
      rw [L2 0, l1 q, ev q]; exact lg_same _
    have C17 : jm_E dh_pr 11 18 [.inr (.inl 2), .inl (jz y1), .inl (jz y2)] h (jm_k dh_pr 11 140 (fun o _ => o = .inl (some (.inl (jz 1)))) 916 [some (.inr (.inl 1)), some (.inr (.inl 2)), some (.inr (.inl 182)), some (.inr (.inl 212)), some (.inl (jz v4)), l5, l6] [] 913) := by
      refine jm_E_le (d := 3) (by omega) (jm_E_mono _ _ _ _ _ _ ?_ (x18' (d := 0) R ok j1 j2))
      rintro o h1 ⟨rfl, u1, R1⟩
      have M1 := LI_X I0 (uo_ux u1 hO) R1 ok
      obtain ⟨⟨d0, dN, dI⟩, -⟩ := M1
      have M1 := LI_X I0 (uo_ux u1 hO) R1 ok
      have d1 : jm_I h1 1 ((v4 + 1).toNat) = jz y1 := (dI _).trans y1e
      have d2 : jm_I h1 1 ((v4 + 2).toNat) = jz y2 := (dI _).trans y2e
      refine r140_916 ⟨d0, _, dN, i1, _, d1, i2, _, d2, M1.2.2.1.1.1, ?_⟩
      refine jm_E_le (d := 1) (by omega) (jm_E_mono _ _ _ _ _ _ ?_ (m76 (d := 0) M1.2.2.1 ok j1 j2))
      rintro o h2 ⟨rfl, RM2, p2⟩
      obtain ⟨w, jw, ew⟩ := jz_val (stF s y1 y2)
      rw [ew]
      exact r140_932 ⟨jw, jw, fun _ => NX h2 _ _ _ (LM_M M1 p2 RM2).1, fun x => absurd rfl x⟩
    have C18 : ∀ b : Int, ((b = 0 ∧ y1 = 0) ∨ (b = 1 ∧ ¬ y1 = 0)) → jm_E dh_pr 11 19 [.inr (.inl 2), .inl (jz b)] h (jm_k dh_pr 11 140 (fun o _ => o = .inl (some (.inl (jz 1)))) 955 [some (.inr (.inl 1)), some (.inr (.inl 2)), some (.inr (.inl 182)), some (.inr (.inl 212)), some (.inl (jz v4)), l5, l6] [] 952) := by
      intro b hb
      have jb : jR b := by rcases hb with ⟨rfl, -⟩ | ⟨rfl, -⟩ <;> exact ⟨by decide, by decide⟩
      refine jm_E_le (d := 1) (by omega) (jm_E_mono _ _ _ _ _ _ ?_ (x19 R jb))
      rintro o h1 ⟨rfl, u1, R1⟩
      have M1 := LI_X I0 (uo_ux u1 hO) R1 ok
      obtain ⟨⟨d0, dN, dI⟩, -⟩ := M1
      have M1 := LI_X I0 (uo_ux u1 hO) R1 ok
      have d1 : jm_I h1 1 ((v4 + 1).toNat) = jz y1 := (dI _).trans y1e
      have KM : jm_E dh_pr 11 77 [.inr (.inl 182), .inl (jz b)] h1 (jm_k dh_pr 11 140 (fun o _ => o = .inl (some (.inl (jz 1)))) 973 [some (.inr (.inl 1)), some (.inr (.inl 2)), some (.inr (.inl 182)), some (.inr (.inl 212)), some (.inl (jz v4)), l5, l6] [.inl (jz ((if b = 0 then s.2.2.1.length else s.2.2.2.1.length : Nat) : Int))] 970) := by
        refine jm_E_le (d := 1) (by omega) (jm_E_mono _ _ _ _ _ _ ?_ (m77 M1.2.2.1 jb))
        rintro o h2 ⟨rfl, RM2, p2⟩
        obtain ⟨w, jw, ew⟩ := jz_val ((if b = 0 then s.2.2.1.length else s.2.2.2.1.length : Nat) : Int)
        rw [ew]
        exact r140_973 ⟨jw, jw, fun _ => NX h2 s _ _ (LM_M M1 p2 RM2).1, fun x => absurd rfl x⟩
      exact r140_955 ⟨d0, _, dN, i1, _, d1, j1, fun q => ⟨M1.2.2.1.1.1, by rcases hb with ⟨rfl, -⟩ | ⟨-, x⟩; exact KM; exact absurd q x⟩, fun q => ⟨M1.2.2.1.1.1, by rcases hb with ⟨-, x⟩ | ⟨rfl, -⟩; exact absurd x q; exact KM⟩⟩
    have C19 : ∀ b : Int, ((b = 0 ∧ y2 = 0) ∨ (b = 1 ∧ ¬ y2 = 0)) → jm_E dh_pr 11 20 [.inr (.inl 2), .inl (jz y1), .inl (jz b)] h (jm_k dh_pr 11 140 (fun o _ => o = .inl (some (.inl (jz 1)))) 1002 [some (.inr (.inl 1)), some (.inr (.inl 2)), some (.inr (.inl 182)), some (.inr (.inl 212)), some (.inl (jz v4)), l5, l6] [] 999) := by
      intro b hb
      have jb : jR b := by rcases hb with ⟨rfl, -⟩ | ⟨rfl, -⟩ <;> exact ⟨by decide, by decide⟩
      refine jm_E_le (d := 3) (by omega) (jm_E_mono _ _ _ _ _ _ ?_ (x20 R ok j1 jb))
      rintro o h1 ⟨rfl, u1, R1⟩
      have M1 := LI_X I0 (uo_ux u1 hO) R1 ok
      obtain ⟨⟨d0, dN, dI⟩, -⟩ := M1
      have M1 := LI_X I0 (uo_ux u1 hO) R1 ok
      have d1 : jm_I h1 1 ((v4 + 1).toNat) = jz y1 := (dI _).trans y1e
      have d2 : jm_I h1 1 ((v4 + 2).toNat) = jz y2 := (dI _).trans y2e
      have KM : jm_E dh_pr 11 78 [.inr (.inl 182), .inl (jz y1), .inl (jz b)] h1 (jm_k dh_pr 11 140 (fun o _ => o = .inl (some (.inl (jz 1)))) 1026 [some (.inr (.inl 1)), some (.inr (.inl 2)), some (.inr (.inl 182)), some (.inr (.inl 212)), some (.inl (jz v4)), l5, l6] [.inl (jz (atN s y1 b))] 1023) := by
        refine jm_E_le (d := 1) (by omega) (jm_E_mono _ _ _ _ _ _ ?_ (m78 M1.2.2.1 j1 jb))
        rintro o h2 ⟨rfl, RM2, p2⟩
        obtain ⟨w, jw, ew⟩ := jz_val (atN s y1 b)
        rw [ew]
        exact r140_1026 ⟨jw, jw, fun _ => NX h2 s _ _ (LM_M M1 p2 RM2).1, fun x => absurd rfl x⟩
      exact r140_1002 ⟨d0, _, dN, i1, _, d1, i2, _, d2, j2, fun q => ⟨M1.2.2.1.1.1, by rcases hb with ⟨rfl, -⟩ | ⟨-, x⟩; exact KM; exact absurd q x⟩, fun q => ⟨M1.2.2.1.1.1, by rcases hb with ⟨-, x⟩ | ⟨rfl, -⟩; exact absurd x q; exact KM⟩⟩
    refine r140_23 ⟨a1, L, a2, ⟨by omega, by omega⟩, ⟨by omega, by omega⟩, fun w => absurd w fin, fun _ => ⟨i0, _, jz_of _, _, jz_of _, jR_toInt _, fun _ => ⟨i1, _, b1, i2, _, b2, i3, _, b3, x1', C0⟩, fun _ => ⟨i1, _, b1, i2, _, b2, x1', C1⟩, fun _ => ⟨i1, _, b1, x1', C2⟩, fun _ => ⟨x1', C3⟩, fun _ => ⟨i1, _, b1, x1', C4⟩, fun _ => ⟨i1, _, b1, i2, _, b2, C5⟩, fun _ => ⟨i1, _, b1, i2, _, b2, C6⟩, fun _ => ⟨i1, _, b1, i2, _, b2, C7⟩, fun _ => ⟨i1, _, b1, C8⟩, fun _ => ⟨i1, _, b1, x1', C9⟩, fun _ => ⟨i1, _, b1, i2, _, b2, C10⟩, fun _ => ⟨x1', C11⟩, fun _ => ⟨x1', C12⟩, fun _ => ⟨i1, _, b1, i2, _, b2, C13⟩, fun _ => ⟨i1, _, b1, i2, _, b2, C14⟩, fun _ => ⟨i1, _, b1, i2, _, b2, C15⟩, fun _ => ⟨i1, _, b1, C16⟩, fun _ => ⟨i1, _, b1, i2, _, b2, x1', C17⟩, fun _ => ⟨i1, _, b1, j1, fun q => ⟨x1', C18 0 (Or.inl ⟨rfl, q⟩)⟩, fun q => ⟨x1', C18 1 (Or.inr ⟨rfl, q⟩)⟩⟩, fun _ => ⟨i1, _, b1, i2, _, b2, j2, fun q => ⟨x1', C19 0 (Or.inl ⟨rfl, q⟩)⟩, fun q => ⟨x1', C19 1 (Or.inr ⟨rfl, q⟩)⟩⟩, fun _ _ _ _ _ _ _ _ _ _ _ _ _ _ _ _ _ _ _ _ => ?_⟩⟩
    exact NX h s _ _ ⟨⟨a1, a2, a3⟩, ⟨c, p, R⟩, RMh, ok, ⟨t1, t2⟩, by omega, by omega, by omega⟩
theorem s00_ok : oks s00 := ⟨⟨Nat.zero_le _, fun v hv => by cases hv⟩, ⟨Nat.zero_le _, fun k hk => absurd hk (Nat.not_lt_zero k), fun k hk => absurd hk (Nat.not_lt_zero k)⟩, by decide, ⟨by decide, fun v hv => by
  have h0 : v ∈ [(0 : Int)] := hv
  have : v = 0 := by simpa using h0
  omega⟩, Nat.zero_le _, ⟨by decide, by decide, by decide⟩, ⟨Nat.zero_le _, fun v hv => by cases hv⟩, ⟨Nat.zero_le _, fun v hv => by cases hv⟩⟩
theorem dh_run : dh_Run := by
  intro L xs hL
  have H1 : (dh_H0 L xs).1 = 2 := rfl
  have H2 : (dh_H0 L xs).2.1 = 0 := rfl
  refine e140 (r140_0 ⟨by show 2 + 1 ≤ _; omega, by show 0 + 12 ≤ _; omega, new_T _ _ _ _, jm_E_le (d := 5) (by omega) (jm_E_mono _ _ _ _ _ _ ?_ (c0 (d := 0) (h := dh_H0 L xs) (by show 2 + 180 ≤ _; omega) (by show 0 + 2887 ≤ _; omega)))⟩)
  rintro o h1 ⟨rfl, g1, R1⟩
  have n1 : h1.1 = 182 := g1.1
  have z1 : h1.2.1 = 2887 := by rw [g1.2.1, H2]
  refine r140_7 ⟨by omega, by omega, new_T _ _ _ _, jm_E_le (d := 1) (by omega) (jm_E_mono _ _ _ _ _ _ ?_ (c27 (d := 0) (h := h1) (by omega) (by omega)))⟩
  rintro o h2 ⟨rfl, g2, R2⟩
  have n2 : h2.1 = 212 := by rw [g2.1, n1]
  have z2 : h2.2.1 = 2887 + 5199 := by rw [g2.2.1, z1]
  have g3 := grNew h2 101 1 1
  have X2 : RX h1 2 58 120 s00 := R1
  have S1 : sm (dh_H0 L xs) (jm_new h2 101 1 1) 1 := sm_trans (sm_trans (g1.2.2 1 (by show 1 < 2; omega)) (g2.2.2 1 (by omega))) (g3.2.2 1 (by omega))
  rw [n1] at R2
  have X3 : RX (jm_new h2 101 1 1) 2 58 120 s00 := RX_sr (RX_sr X2 (fun i hi => g2.2.2 _ (by omega))) (fun i hi => g3.2.2 _ (by omega))
  have M3 : RM (jm_new h2 101 1 1) 182 s00 := RM_sr R2 (fun i hi => g3.2.2 _ (by omega))
  have O3 : jm_T (jm_new h2 101 1 1) 212 = 101 ∧ jm_N (jm_new h2 101 1 1) 212 = 1 := by
    rw [jr_T_new, jr_N_new, if_pos n2.symm, if_pos n2.symm]
    exact ⟨rfl, rfl⟩
  refine r140_15 ⟨by omega, by omega, ?_⟩
  have W := law_l (xs := xs) hL ((L + 3) / 4) 0 (jm_new h2 101 1 1) s00 0 none none (by omega) (by omega) rfl ⟨⟨S1.1, S1.2.1, fun k => S1.2.2.2.2 k⟩, ⟨58, 120, X3⟩, M3, s00_ok, O3, by show 213 ≤ h2.1 + 1; omega, by show h2.1 + 1 ≤ 213 + 2 * 0; omega, by show h2.2.1 + 1 ≤ 10000 + 12 * 0; omega⟩
  rw [n1, n2]
  exact W
