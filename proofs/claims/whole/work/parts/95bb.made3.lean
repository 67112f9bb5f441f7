/-! The class's object, as it is made: the constructor. -/
set_option maxHeartbeats 8000000 in
theorem c0 {d : Nat} {h : jm_H} (r1 : h.1 + 180 ≤ 601026) (r2 : h.2.1 + 2887 ≤ 7293034) : jm_E dh_pr (d + 5) 0 [.inr (.inl h.1)] (jm_new h 1 0 12) (fun o h' => o = .inl none ∧ gr h h' 180 2887 ∧ RX h' h.1 (h.1 + 56) (h.1 + 118) s00) := by
  have T0 : jm_T (jm_new h 1 0 12) h.1 = 1 := new_T _ _ _ _
  have I0 : ∀ k, jm_I (jm_new h 1 0 12) h.1 k = jz 0 := fun k => new_I _ _ _ _ _
  refine e0 (r0_0 ⟨by rw [T0]; omega, by show h.1 + 1 + 1 ≤ _; omega, by show h.2.1 + 12 + 2 ≤ _; omega, new_T _ _ _ _, jm_callV (c118 (h := jm_new h 1 0 12) (by show h.1 + 1 + 2 ≤ _; omega) (by show h.2.1 + 12 + 14 ≤ _; omega)) ?_⟩)
  rintro h1 ⟨g1, o1, x1⟩
  have G1 : gr h h1 3 26 := (grNew h 1 0 12).trans g1
  have n1 : h1.1 = h.1 + 3 := G1.1
  have z1 : h1.2.1 = h.2.1 + 26 := G1.2.1
  have t1 : jm_T h1 h.1 = 1 := (g1.2.2 h.1 (Nat.lt_succ_self _)).1.trans T0
  have I1 : ∀ k, jm_I h1 h.1 k = jz 0 := fun k => ((g1.2.2 h.1 (Nat.lt_succ_self _)).2.2.2.2 k).trans (I0 k)
  refine r0_12 ⟨t1, by omega, by omega, new_T _ _ _ _, jm_callV (c118 (h := jm_sF h1 h.1 0 (jm_new h 1 0 12).1) (by show h1.1 + 2 ≤ _; omega) (by show h1.2.1 + 14 ≤ _; omega)) ?_⟩
  rintro h2 ⟨g2, o2, x2⟩
  obtain ⟨G2, S2, tt2, ii2, ff2⟩ := stepX G1 (by omega) g2
  have n2 : h2.1 = h.1 + 5 := G2.1
  have z2 : h2.2.1 = h.2.1 + 40 := G2.2.1
  have t2 : jm_T h2 h.1 = 1 := tt2.trans t1
  have I2 : ∀ k, jm_I h2 h.1 k = jz 0 := fun k => (ii2 k).trans (I1 k)
  refine r0_23 ⟨t2, by omega, by omega, new_T _ _ _ _, jm_callV (c118 (h := jm_sF h2 h.1 1 h1.1) (by show h2.1 + 2 ≤ _; omega) (by show h2.2.1 + 14 ≤ _; omega)) ?_⟩
  rintro h3 ⟨g3, o3, x3⟩
  obtain ⟨G3, S3, tt3, ii3, ff3⟩ := stepX G2 (by omega) g3
  have n3 : h3.1 = h.1 + 7 := G3.1
  have z3 : h3.2.1 = h.2.1 + 54 := G3.2.1
  have t3 : jm_T h3 h.1 = 1 := tt3.trans t2
  have I3 : ∀ k, jm_I h3 h.1 k = jz 0 := fun k => (ii3 k).trans (I2 k)
  refine r0_34 ⟨t3, by omega, by omega, new_T _ _ _ _, jm_callV (c88 (h := jm_sF h3 h.1 2 h2.1) (by show h3.1 + 20 ≤ _; omega) (by show h3.2.1 + 299 ≤ _; omega)) ?_⟩
  rintro h4 ⟨g4, o4, x4⟩
  obtain ⟨G4, S4, tt4, ii4, ff4⟩ := stepX G3 (by omega) g4
  have n4 : h4.1 = h.1 + 27 := G4.1
  have z4 : h4.2.1 = h.2.1 + 353 := G4.2.1
  have t4 : jm_T h4 h.1 = 1 := tt4.trans t3
  have I4 : ∀ k, jm_I h4 h.1 k = jz 0 := fun k => (ii4 k).trans (I3 k)
  refine r0_45 ⟨t4, by omega, by omega, new_T _ _ _ _, jm_callV (c79 (h := jm_sF h4 h.1 3 h3.1) (by show h4.1 + 2 ≤ _; omega) (by show h4.2.1 + 403 ≤ _; omega)) ?_⟩
  rintro h5 ⟨g5, o5, x5⟩
  obtain ⟨G5, S5, tt5, ii5, ff5⟩ := stepX G4 (by omega) g5
  have n5 : h5.1 = h.1 + 29 := G5.1
  have z5 : h5.2.1 = h.2.1 + 756 := G5.2.1
  have t5 : jm_T h5 h.1 = 1 := tt5.trans t4
  have I5 : ∀ k, jm_I h5 h.1 k = jz 0 := fun k => (ii5 k).trans (I4 k)
  refine r0_56 ⟨t5, by omega, by omega, new_T _ _ _ _, jm_callV (c79 (h := jm_sF h5 h.1 4 h4.1) (by show h5.1 + 2 ≤ _; omega) (by show h5.2.1 + 403 ≤ _; omega)) ?_⟩
  rintro h6 ⟨g6, o6, x6⟩
  obtain ⟨G6, S6, tt6, ii6, ff6⟩ := stepX G5 (by omega) g6
  have n6 : h6.1 = h.1 + 31 := G6.1
  have z6 : h6.2.1 = h.2.1 + 1159 := G6.2.1
  have t6 : jm_T h6 h.1 = 1 := tt6.trans t5
  have I6 : ∀ k, jm_I h6 h.1 k = jz 0 := fun k => (ii6 k).trans (I5 k)
  refine r0_67 ⟨t6, by omega, by omega, new_T _ _ _ _, jm_callV (c79 (h := jm_sF h6 h.1 5 h5.1) (by show h6.1 + 2 ≤ _; omega) (by show h6.2.1 + 403 ≤ _; omega)) ?_⟩
  rintro h7 ⟨g7, o7, x7⟩
  obtain ⟨G7, S7, tt7, ii7, ff7⟩ := stepX G6 (by omega) g7
  have n7 : h7.1 = h.1 + 33 := G7.1
  have z7 : h7.2.1 = h.2.1 + 1562 := G7.2.1
  have t7 : jm_T h7 h.1 = 1 := tt7.trans t6
  have I7 : ∀ k, jm_I h7 h.1 k = jz 0 := fun k => (ii7 k).trans (I6 k)
  refine r0_78 ⟨t7, by omega, by omega, new_T _ _ _ _, jm_callV (c127 (h := jm_sF h7 h.1 6 h6.1) (by show h7.1 + 21 ≤ _; omega) (by show h7.2.1 + 300 ≤ _; omega)) ?_⟩
  rintro h8 ⟨g8, o8⟩
  obtain ⟨G8, S8, tt8, ii8, ff8⟩ := stepX G7 (by omega) g8
  have n8 : h8.1 = h.1 + 54 := G8.1
  have z8 : h8.2.1 = h.2.1 + 1862 := G8.2.1
  have t8 : jm_T h8 h.1 = 1 := tt8.trans t7
  have I8 : ∀ k, jm_I h8 h.1 k = jz 0 := fun k => (ii8 k).trans (I7 k)
  refine r0_89 ⟨t8, by omega, by omega, new_T _ _ _ _, jm_callV (c101 (h := jm_sF h8 h.1 7 h7.1) (by show h8.1 + 2 ≤ _; omega) (by show h8.2.1 + 21 ≤ _; omega)) ?_⟩
  rintro h9 ⟨g9, o9⟩
  obtain ⟨G9, S9, tt9, ii9, ff9⟩ := stepX G8 (by omega) g9
  have n9 : h9.1 = h.1 + 56 := G9.1
  have z9 : h9.2.1 = h.2.1 + 1883 := G9.2.1
  have t9 : jm_T h9 h.1 = 1 := tt9.trans t8
  have I9 : ∀ k, jm_I h9 h.1 k = jz 0 := fun k => (ii9 k).trans (I8 k)
  refine r0_100 ⟨t9, by omega, by omega, new_T _ _ _ _, jm_callV (c94 (h := jm_sF h9 h.1 8 h8.1) (by show h9.1 + 62 ≤ _; omega) (by show h9.2.1 + 502 ≤ _; omega)) ?_⟩
  rintro h10 ⟨g10, o10, x10⟩
  obtain ⟨G10, S10, tt10, ii10, ff10⟩ := stepX G9 (by omega) g10
  have n10 : h10.1 = h.1 + 118 := G10.1
  have z10 : h10.2.1 = h.2.1 + 2385 := G10.2.1
  have t10 : jm_T h10 h.1 = 1 := tt10.trans t9
  have I10 : ∀ k, jm_I h10 h.1 k = jz 0 := fun k => (ii10 k).trans (I9 k)
  refine r0_111 ⟨t10, by omega, by omega, new_T _ _ _ _, jm_callV (c94 (h := jm_sF h10 h.1 9 h9.1) (by show h10.1 + 62 ≤ _; omega) (by show h10.2.1 + 502 ≤ _; omega)) ?_⟩
  rintro h11 ⟨g11, o11, x11⟩
  obtain ⟨G11, S11, tt11, ii11, ff11⟩ := stepX G10 (by omega) g11
  have n11 : h11.1 = h.1 + 180 := G11.1
  have z11 : h11.2.1 = h.2.1 + 2887 := G11.2.1
  have t11 : jm_T h11 h.1 = 1 := tt11.trans t10
  have I11 : ∀ k, jm_I h11 h.1 k = jz 0 := fun k => (ii11 k).trans (I10 k)
  have FS : ∀ b, b ≠ h.1 → sm h11 (jm_sF h11 h.1 10 h10.1) b := fun b hb => sm_sF hb
  have D11 : ∀ b, h.1 < b → b < h11.1 → sm h11 (jm_sF h11 h.1 10 h10.1) b := fun b h1 _ => FS b (by omega)
  have D10 : ∀ b, h.1 < b → b < h10.1 → sm h10 (jm_sF h11 h.1 10 h10.1) b := fun b h1 h2 => sm_trans (S11 b h1 h2) (D11 b h1 (by omega))
  have D9 : ∀ b, h.1 < b → b < h9.1 → sm h9 (jm_sF h11 h.1 10 h10.1) b := fun b h1 h2 => sm_trans (S10 b h1 h2) (D10 b h1 (by omega))
  have D8 : ∀ b, h.1 < b → b < h8.1 → sm h8 (jm_sF h11 h.1 10 h10.1) b := fun b h1 h2 => sm_trans (S9 b h1 h2) (D9 b h1 (by omega))
  have D7 : ∀ b, h.1 < b → b < h7.1 → sm h7 (jm_sF h11 h.1 10 h10.1) b := fun b h1 h2 => sm_trans (S8 b h1 h2) (D8 b h1 (by omega))
  have D6 : ∀ b, h.1 < b → b < h6.1 → sm h6 (jm_sF h11 h.1 10 h10.1) b := fun b h1 h2 => sm_trans (S7 b h1 h2) (D7 b h1 (by omega))
  have D5 : ∀ b, h.1 < b → b < h5.1 → sm h5 (jm_sF h11 h.1 10 h10.1) b := fun b h1 h2 => sm_trans (S6 b h1 h2) (D6 b h1 (by omega))
  have D4 : ∀ b, h.1 < b → b < h4.1 → sm h4 (jm_sF h11 h.1 10 h10.1) b := fun b h1 h2 => sm_trans (S5 b h1 h2) (D5 b h1 (by omega))
  have D3 : ∀ b, h.1 < b → b < h3.1 → sm h3 (jm_sF h11 h.1 10 h10.1) b := fun b h1 h2 => sm_trans (S4 b h1 h2) (D4 b h1 (by omega))
  have D2 : ∀ b, h.1 < b → b < h2.1 → sm h2 (jm_sF h11 h.1 10 h10.1) b := fun b h1 h2 => sm_trans (S3 b h1 h2) (D3 b h1 (by omega))
  have D1 : ∀ b, h.1 < b → b < h1.1 → sm h1 (jm_sF h11 h.1 10 h10.1) b := fun b h1 h2 => sm_trans (S2 b h1 h2) (D2 b h1 (by omega))
  have F0 : jm_F (jm_sF h11 h.1 10 h10.1) h.1 0 = h.1 + 1 := by
    rw [jr_F_fld (by decide)]
    have e : jm_F h11 h.1 0 = (jm_new h 1 0 12).1 := ((ff11 0).trans (if_neg (by decide))).trans (((ff10 0).trans (if_neg (by decide))).trans (((ff9 0).trans (if_neg (by decide))).trans (((ff8 0).trans (if_neg (by decide))).trans (((ff7 0).trans (if_neg (by decide))).trans (((ff6 0).trans (if_neg (by decide))).trans (((ff5 0).trans (if_neg (by decide))).trans (((ff4 0).trans (if_neg (by decide))).trans (((ff3 0).trans (if_neg (by decide))).trans ((ff2 0).trans (if_pos rfl))))))))))
    rw [e]
    rfl
  have F1 : jm_F (jm_sF h11 h.1 10 h10.1) h.1 1 = h.1 + 3 := by
    rw [jr_F_fld (by decide)]
    have e : jm_F h11 h.1 1 = h1.1 := ((ff11 1).trans (if_neg (by decide))).trans (((ff10 1).trans (if_neg (by decide))).trans (((ff9 1).trans (if_neg (by decide))).trans (((ff8 1).trans (if_neg (by decide))).trans (((ff7 1).trans (if_neg (by decide))).trans (((ff6 1).trans (if_neg (by decide))).trans (((ff5 1).trans (if_neg (by decide))).trans (((ff4 1).trans (if_neg (by decide))).trans ((ff3 1).trans (if_pos rfl)))))))))
    rw [e]
    exact n1
  have F2 : jm_F (jm_sF h11 h.1 10 h10.1) h.1 2 = h.1 + 5 := by
    rw [jr_F_fld (by decide)]
    have e : jm_F h11 h.1 2 = h2.1 := ((ff11 2).trans (if_neg (by decide))).trans (((ff10 2).trans (if_neg (by decide))).trans (((ff9 2).trans (if_neg (by decide))).trans (((ff8 2).trans (if_neg (by decide))).trans (((ff7 2).trans (if_neg (by decide))).trans (((ff6 2).trans (if_neg (by decide))).trans (((ff5 2).trans (if_neg (by decide))).trans ((ff4 2).trans (if_pos rfl))))))))
    rw [e]
    exact n2
  have F3 : jm_F (jm_sF h11 h.1 10 h10.1) h.1 3 = h.1 + 7 := by
    rw [jr_F_fld (by decide)]
    have e : jm_F h11 h.1 3 = h3.1 := ((ff11 3).trans (if_neg (by decide))).trans (((ff10 3).trans (if_neg (by decide))).trans (((ff9 3).trans (if_neg (by decide))).trans (((ff8 3).trans (if_neg (by decide))).trans (((ff7 3).trans (if_neg (by decide))).trans (((ff6 3).trans (if_neg (by decide))).trans ((ff5 3).trans (if_pos rfl)))))))
    rw [e]
    exact n3
  have F4 : jm_F (jm_sF h11 h.1 10 h10.1) h.1 4 = h.1 + 27 := by
    rw [jr_F_fld (by decide)]
    have e : jm_F h11 h.1 4 = h4.1 := ((ff11 4).trans (if_neg (by decide))).trans (((ff10 4).trans (if_neg (by decide))).trans (((ff9 4).trans (if_neg (by decide))).trans (((ff8 4).trans (if_neg (by decide))).trans (((ff7 4).trans (if_neg (by decide))).trans ((ff6 4).trans (if_pos rfl))))))
    rw [e]
    exact n4
  have F5 : jm_F (jm_sF h11 h.1 10 h10.1) h.1 5 = h.1 + 29 := by
    rw [jr_F_fld (by decide)]
    have e : jm_F h11 h.1 5 = h5.1 := ((ff11 5).trans (if_neg (by decide))).trans (((ff10 5).trans (if_neg (by decide))).trans (((ff9 5).trans (if_neg (by decide))).trans (((ff8 5).trans (if_neg (by decide))).trans ((ff7 5).trans (if_pos rfl)))))
    rw [e]
    exact n5
  have F6 : jm_F (jm_sF h11 h.1 10 h10.1) h.1 6 = h.1 + 31 := by
    rw [jr_F_fld (by decide)]
    have e : jm_F h11 h.1 6 = h6.1 := ((ff11 6).trans (if_neg (by decide))).trans (((ff10 6).trans (if_neg (by decide))).trans (((ff9 6).trans (if_neg (by decide))).trans ((ff8 6).trans (if_pos rfl))))
    rw [e]
    exact n6
  have F7 : jm_F (jm_sF h11 h.1 10 h10.1) h.1 7 = h.1 + 33 := by
    rw [jr_F_fld (by decide)]
    have e : jm_F h11 h.1 7 = h7.1 := ((ff11 7).trans (if_neg (by decide))).trans (((ff10 7).trans (if_neg (by decide))).trans ((ff9 7).trans (if_pos rfl)))
    rw [e]
    exact n7
  have F8 : jm_F (jm_sF h11 h.1 10 h10.1) h.1 8 = h.1 + 54 := by
    rw [jr_F_fld (by decide)]
    have e : jm_F h11 h.1 8 = h8.1 := ((ff11 8).trans (if_neg (by decide))).trans ((ff10 8).trans (if_pos rfl))
    rw [e]
    exact n8
  have F9 : jm_F (jm_sF h11 h.1 10 h10.1) h.1 9 = h.1 + 56 := by
    rw [jr_F_fld (by decide)]
    have e : jm_F h11 h.1 9 = h9.1 := (ff11 9).trans (if_pos rfl)
    rw [e]
    exact n9
  have F10 : jm_F (jm_sF h11 h.1 10 h10.1) h.1 10 = h.1 + 118 := by rw [jr_F_self]; exact n10
  have O1 : shT (jm_sF h11 h.1 10 h10.1) (h.1 + 1) := shT_sr (a := h.1 + 1) o1 (fun i hi => D1 _ (by omega) (by omega))
  have Y1 : cx (jm_sF h11 h.1 10 h10.1) (h.1 + 1) [] := cx_sr (a := h.1 + 1) x1 (fun i hi => D1 _ (by omega) (by omega))
  have o2' : shT h2 (h.1 + 3) := by rw [← n1]; exact o2
  have O2 : shT (jm_sF h11 h.1 10 h10.1) (h.1 + 3) := shT_sr o2' (fun i hi => D2 _ (by omega) (by omega))
  have x2' : cx h2 (h.1 + 3) [] := by rw [← n1]; exact x2
  have Y2 : cx (jm_sF h11 h.1 10 h10.1) (h.1 + 3) [] := cx_sr x2' (fun i hi => D2 _ (by omega) (by omega))
  have o3' : shT h3 (h.1 + 5) := by rw [← n2]; exact o3
  have O3 : shT (jm_sF h11 h.1 10 h10.1) (h.1 + 5) := shT_sr o3' (fun i hi => D3 _ (by omega) (by omega))
  have x3' : cx h3 (h.1 + 5) [] := by rw [← n2]; exact x3
  have Y3 : cx (jm_sF h11 h.1 10 h10.1) (h.1 + 5) [] := cx_sr x3' (fun i hi => D3 _ (by omega) (by omega))
  have o4' : shD h4 (h.1 + 7) := by rw [← n3]; exact o4
  have O4 : shD (jm_sF h11 h.1 10 h10.1) (h.1 + 7) := shD_sr o4' (fun i hi => D4 _ (by omega) (by omega))
  have x4' : dD h4 (h.1 + 7) [] [] false := by rw [← n3]; exact x4
  have Y4 : dD (jm_sF h11 h.1 10 h10.1) (h.1 + 7) [] [] false := dD_sr x4' (fun i hi => D4 _ (by omega) (by omega))
  have o5' : shB h5 (h.1 + 27) := by rw [← n4]; exact o5
  have O5 : shB (jm_sF h11 h.1 10 h10.1) (h.1 + 27) := shB_sr o5' (fun i hi => D5 _ (by omega) (by omega))
  have x5' : cb h5 (h.1 + 27) [] := by rw [← n4]; exact x5
  have Y5 : cb (jm_sF h11 h.1 10 h10.1) (h.1 + 27) [] := cb_sr x5' (fun i hi => D5 _ (by omega) (by omega))
  have o6' : shB h6 (h.1 + 29) := by rw [← n5]; exact o6
  have O6 : shB (jm_sF h11 h.1 10 h10.1) (h.1 + 29) := shB_sr o6' (fun i hi => D6 _ (by omega) (by omega))
  have x6' : cb h6 (h.1 + 29) [] := by rw [← n5]; exact x6
  have Y6 : cb (jm_sF h11 h.1 10 h10.1) (h.1 + 29) [] := cb_sr x6' (fun i hi => D6 _ (by omega) (by omega))
  have o7' : shB h7 (h.1 + 31) := by rw [← n6]; exact o7
  have O7 : shB (jm_sF h11 h.1 10 h10.1) (h.1 + 31) := shB_sr o7' (fun i hi => D7 _ (by omega) (by omega))
  have x7' : cb h7 (h.1 + 31) [] := by rw [← n6]; exact x7
  have Y7 : cb (jm_sF h11 h.1 10 h10.1) (h.1 + 31) [] := cb_sr x7' (fun i hi => D7 _ (by omega) (by omega))
  have o8' : shW h8 (h.1 + 33) := by rw [← n7]; exact o8
  have O8 : shW (jm_sF h11 h.1 10 h10.1) (h.1 + 33) := shW_sr o8' (fun i hi => D8 _ (by omega) (by omega))
  have o9' : jm_T h9 (h.1 + 54) = 6 ∧ jm_F h9 (h.1 + 54) 0 = h.1 + 55 ∧ sha h9 (h.1 + 55) 20 := by
    rw [show h.1 + 55 = h.1 + 54 + 1 by omega, ← n8]; exact o9
  have O9 : jm_T (jm_sF h11 h.1 10 h10.1) (h.1 + 54) = 6 ∧ jm_F (jm_sF h11 h.1 10 h10.1) (h.1 + 54) 0 = h.1 + 55 ∧ sha (jm_sF h11 h.1 10 h10.1) (h.1 + 55) 20 := ⟨(D9 _ (by omega) (by omega)).1.trans o9'.1, ((D9 _ (by omega) (by omega)).2.2.1 0).trans o9'.2.1, sha_sm o9'.2.2 (D9 _ (by omega) (by omega))⟩
  have o10' : shH h10 (h.1 + 56) := by rw [← n9]; exact o10
  have O10 : shH (jm_sF h11 h.1 10 h10.1) (h.1 + 56) := shH_sr o10' (fun i hi => D10 _ (by omega) (by omega))
  have x10' : cH h10 (h.1 + 56) [] [] := by rw [← n9]; exact x10
  have Y10 : cH (jm_sF h11 h.1 10 h10.1) (h.1 + 56) [] [] := cH_sr x10' (fun i hi => D10 _ (by omega) (by omega))
  have o11' : shH h11 (h.1 + 118) := by rw [← n10]; exact o11
  have O11 : shH (jm_sF h11 h.1 10 h10.1) (h.1 + 118) := shH_sr o11' (fun i hi => D11 _ (by omega) (by omega))
  have x11' : cH h11 (h.1 + 118) [] [] := by rw [← n10]; exact x11
  have Y11 : cH (jm_sF h11 h.1 10 h10.1) (h.1 + 118) [] [] := cH_sr x11' (fun i hi => D11 _ (by omega) (by omega))
  have TF : jm_T (jm_sF h11 h.1 10 h10.1) h.1 = 1 := by rw [jr_T_sF]; exact t11
  have IF : ∀ k, jm_I (jm_sF h11 h.1 10 h10.1) h.1 k = jz 0 := fun k => by rw [jr_I_sF]; exact I11 k
  have SX : shX (jm_sF h11 h.1 10 h10.1) h.1 (h.1 + 56) (h.1 + 118) := ⟨TF, ⟨F0, F1, F2, F3, F4, F5, F6, F7, F8, F9, F10⟩, ⟨O1, O2, O3⟩, O4, ⟨O5, O6, O7⟩, O8, O9, ⟨O10, O11⟩, Or.inl ⟨rfl, rfl⟩⟩
  have GF : gr h (jm_sF h11 h.1 10 h10.1) 180 2887 := gr_set G11 (Nat.le_refl _)
  have t27 : jm_T h11 (h.1 + 27) = 3 := by
    have := SX.2.2.2.2.1.1.1
    rwa [jr_T_sF] at this
  exact c0_end (d := d) rfl t11 F4 t27 SX GF Y1 Y3 Y4 Y5 Y6 Y10
