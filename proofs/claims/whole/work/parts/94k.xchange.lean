/-! The class: changes. -/
theorem jm_kT {d mi q pc a : Nat} {Q : jm_Q} {ls : jm_Ls} {rest : List jm_V} {h' : jm_H} (hn : ∀ pc t, dh_pr.2.1 mi pc t = none) (w : Q (.inr a) h') : jm_k dh_pr d mi Q q ls rest pc (.inr a) h' := by
  unfold jm_k
  dsimp only
  unfold jo_thr
  rw [hn]
  exact w
theorem jm_kH {d mi q pc a y : Nat} {Q : jm_Q} {ls : jm_Ls} {rest : List jm_V} {h' : jm_H} (hn : dh_pr.2.1 mi pc (jm_T h' a) = some y) (hy : y ≠ 999999) (w : jm_W dh_pr d mi (y, ls, [.inr (.inl a)], h') Q) : jm_k dh_pr d mi Q q ls rest pc (.inr a) h' := by
  unfold jm_k
  dsimp only
  unfold jo_thr
  rw [hn]
  exact ⟨hy, w⟩
theorem sm_sF {h : jm_H} {a k x b : Nat} (ne : b ≠ a) : sm h (jm_sF h a k x) b := ⟨jr_T_sF h a k x b, jr_N_sF h a k x b, fun j => by rw [jr_F_sF, if_neg (fun q => ne q.1)], fun j => jr_L_sF h a k x b j, fun j => jr_I_sF h a k x b j⟩
theorem shX_swap {h : jm_H} {X c p : Nat} (s : shX h X c p) : shX (jm_sF (jm_sF h X 9 p) X 10 c) X p c := by
  obtain ⟨s1, ⟨f0, f1, f2, f3, f4, f5, f6, f7, f8, f9, f10⟩, ⟨t1, t2, t3⟩, t4, ⟨b1, b2, b3⟩, w1, ⟨r1, r2, r3⟩, ⟨h1, h2⟩, e⟩ := s
  have q : sr (X + 1) 179 h (jm_sF (jm_sF h X 9 p) X 10 c) := fun i hi => sm_trans (sm_sF (by omega)) (sm_sF (by omega))
  have fl : ∀ k, k ≠ 9 → k ≠ 10 → jm_F (jm_sF (jm_sF h X 9 p) X 10 c) X k = jm_F h X k := fun k h9 h10 => by rw [jr_F_fld h10, jr_F_fld h9]
  refine ⟨by rw [jr_T_sF, jr_T_sF]; exact s1, ⟨(fl _ (by decide) (by decide)).trans f0, (fl _ (by decide) (by decide)).trans f1, (fl _ (by decide) (by decide)).trans f2, (fl _ (by decide) (by decide)).trans f3, (fl _ (by decide) (by decide)).trans f4, (fl _ (by decide) (by decide)).trans f5, (fl _ (by decide) (by decide)).trans f6, (fl _ (by decide) (by decide)).trans f7, (fl _ (by decide) (by decide)).trans f8, by rw [jr_F_fld (by decide), jr_F_self], jr_F_self⟩, ⟨shT_sr t1 (q.sub (by omega) (by omega)), shT_sr t2 (q.sub (by omega) (by omega)), shT_sr t3 (q.sub (by omega) (by omega))⟩, shD_sr t4 (q.sub (by omega) (by omega)), ⟨shB_sr b1 (q.sub (by omega) (by omega)), shB_sr b2 (q.sub (by omega) (by omega)), shB_sr b3 (q.sub (by omega) (by omega))⟩, shW_sr w1 (q.sub (by omega) (by omega)), ⟨(q 53 (by omega)).1.trans r1, ((q 53 (by omega)).2.2.1 0).trans r2, sha_sm r3 (q 54 (by omega))⟩, ⟨shH_sr h2 (q.sub (by omega) (by omega)), shH_sr h1 (q.sub (by omega) (by omega))⟩, ?_⟩
  rcases e with ⟨e1, e2⟩ | ⟨e1, e2⟩
  · exact Or.inr ⟨e2, e1⟩
  · exact Or.inl ⟨e2, e1⟩
theorem x25 {d X c p : Nat} {h : jm_H} {s : St} {rs' : List Rv} {ans : Int} (R : RX h X c p s) (ok : oks s) (hp : cH h p rs' (sf (pS rs'))) (hd : cb h (X + 31) (EN rs')) (l4 : (EN rs').length ≤ 400) : jm_E dh_pr (d + 3) 25 [.inr (.inl X), .inl (jz ans)] h (fun o h' => o = .inl (some (.inl (jz (coF s rs' ans).1))) ∧ ux X 180 h h' ∧ ∃ c p, RX h' X c p (coF s rs' ans).2) := by
  obtain ⟨dk, rs, fl, as, cr, A, B⟩ := s
  obtain ⟨hs, r2, r3, ⟨op, r4⟩, r5, r6, r7, r8⟩ := R
  have hcr : -1 ≤ cr ∧ jR cr := ok.2.2.2.2.2.1
  have e := hs.2.2.2.2.2.2.2.2
  have f4 : jm_F h X 4 = X + 27 := hs.2.1.2.2.2.2.1
  have f5 : jm_F h X 5 = X + 29 := hs.2.1.2.2.2.2.2.1
  have f6 : jm_F h X 6 = X + 31 := hs.2.1.2.2.2.2.2.2.1
  obtain ⟨b1, b2, b3⟩ := hs.2.2.2.2.1
  have j1 : jf [X] h (jm_sI h X 11 (jz (-1))) := (jf.refl _ h).sI (by simp <;> omega)
  have hs1 := hs.js j1.1
  have K59 : ∀ (h2 : jm_H), ¬ (0 ≤ cr ∧ cr ≤ (EN rs').length) → (jf [X + 27, X + 27 + 1] (jm_sI h X 11 (jz (-1))) h2 ∧ cb h2 (X + 27) ((EN rs').take ((EN rs').length : Int).toNat)) → jm_W dh_pr (d + 2) 25 (59, [some (.inr (.inl X)), some (.inl (jz ans)), some (.inl (jz cr))], [], h2) (fun o h' => o = .inl (some (.inl (jz (coF (dk, rs, fl, as, cr, A, B) rs' ans).1))) ∧ ux X 180 h h' ∧ ∃ c p, RX h' X c p (coF (dk, rs, fl, as, cr, A, B) rs' ans).2) := by
    rintro h2 nc ⟨hf2, hc2⟩
    rw [show ((EN rs').length : Int).toNat = (EN rs').length by omega, List.take_length] at hc2
    have ec : coF (dk, rs, fl, as, cr, A, B) rs' ans = (if cr = (EN rs').length + 1 then -2 else ans, (dk, rs', EN rs', [], -1, A, B)) := by
      unfold coF; rw [if_neg nc]
    rw [ec]
    have hs2 := hs1.js hf2.1
    refine r25_59 ⟨hs2.1, _, hs2.2.1.2.2.2.2.2.1, hs2.2.2.2.2.1.2.1.1, jm_callV (s80 hs2.2.2.2.2.1.2.1) ?_⟩
    rintro h3 ⟨hf3, hc3⟩
    have hs3 := hs2.js hf3.1
    have J : jf [X, X + 27, X + 28, X + 29, X + 30] h h3 := ((j1.mono (by simp <;> omega)).trans (hf2.mono (by simp <;> omega))).trans (hf3.mono (by simp <;> omega))
    refine r25_66 ⟨hs3.1, jm_callV (s26 hs3) ?_⟩
    rintro h4 rfl
    have q : sr (X + 1) 179 h3 (jm_sF (jm_sF h3 X 9 p) X 10 c) := fun i hi => sm_trans (sm_sF (by omega)) (sm_sF (by omega))
    have hs4 := shX_swap hs3
    have U : ux X 180 h (jm_sF (jm_sF h3 X 9 p) X 10 c) := ux_step (ux_jf J (fun b hb => by simp at hb; omega)) ⟨J.1.1, J.1.2.1⟩ (ux_step (ux_sF (by omega)) ⟨rfl, rfl⟩ (ux_sF (by omega)))
    have i11 : jm_I h3 X 11 = jz (-1) := by
      rw [hf3.2 X (by simp; omega), hf2.2 X (by simp; omega)]; exact jr_I_self
    have d31 : cb (jm_sF (jm_sF h3 X 9 p) X 10 c) (X + 31) (EN rs') := cb_sr (hd.jf J (by simp <;> omega) (by simp <;> omega)) (q.sub (by omega) (by omega))
    have RR : RX (jm_sF (jm_sF h3 X 9 p) X 10 c) X p c (dk, rs', EN rs', [], -1, A, B) := by
      refine ⟨hs4, cx_sr (r2.jf J (by simp <;> omega) (by simp <;> omega)) (q.sub (by omega) (by omega)), cx_sr (r3.jf J (by simp <;> omega) (by simp <;> omega)) (q.sub (by omega) (by omega)), ⟨op, dD_sr (r4.jf J (fun i hi => by simp; omega)) (q.sub (by omega) (by omega))⟩, cb_sr (hc2.jf hf3 (by simp <;> omega) (by simp <;> omega)) (q.sub (by omega) (by omega)), cb_sr hc3 (q.sub (by omega) (by omega)), ?_, cH_sr (hp.jf J (fun i hi => by simp; omega)) (q.sub (by omega) (by omega))⟩
      rw [jr_I_sF, jr_I_sF]; exact i11
    refine r25_70 ⟨hs4.1, _, hs4.2.1.2.2.2.2.2.2.1, hs4.2.2.2.2.1.2.2.1, _, d31.1, hcr.2, ⟨by omega, by omega⟩, fun q5 => ⟨?_, U, p, c, RR⟩, fun q5 => ⟨?_, U, p, c, RR⟩⟩
    · rw [if_neg q5]
    · rw [if_pos q5]
  have sh85 : ∀ n : Int, jR n → jm_E dh_pr (d + 2) 85 [.inr (.inl (X + 27)), .inr (.inl (X + 31)), .inl (jz n)] (jm_sI h X 11 (jz (-1))) (fun o h' => o = .inl none ∧ jf [X + 27, X + 27 + 1] (jm_sI h X 11 (jz (-1))) h' ∧ cb h' (X + 27) ((EN rs').take n.toNat)) := fun n hn => s85 hs1.2.2.2.2.1.1 hs1.2.2.2.2.1.2.2 (hd.jf j1 (by simp <;> omega) (by simp <;> omega)) (by simp <;> omega) (by simp <;> omega) l4 hn
  refine e25 (r25_0 ⟨hs.1, cr, r7, hcr.2, fun q => ⟨_, f4, _, f6, b3.1, _, hd.1, b1.1, jm_callV (sh85 _ ⟨by omega, by omega⟩) (fun h2 w => K59 h2 (by omega) w)⟩, fun q => ⟨_, f6, b3.1, _, hd.1, ⟨by omega, by omega⟩, fun q' => ⟨_, f4, b1.1, jm_callV (sh85 _ ⟨by omega, by omega⟩) (fun h2 w => K59 h2 (by omega) w)⟩, fun q' => ⟨_, f5, b2.1, jm_callV (s85 hs1.2.2.2.2.1.2.1 hs1.2.2.2.2.1.2.2 (hd.jf j1 (by simp <;> omega) (by simp <;> omega)) (by simp <;> omega) (by simp <;> omega) l4 hcr.2) ?_⟩⟩⟩)
  rintro h2 ⟨hf2, hc2⟩
  have ec : coF (dk, rs, fl, as, cr, A, B) rs' ans = (-2, (dk, rs, fl, (EN rs').take cr.toNat, -1, A, B)) := by
    unfold coF; rw [if_pos (show 0 ≤ cr ∧ cr ≤ (EN rs').length by omega)]
  rw [ec]
  have J : jf [X, X + 29, X + 30] h h2 := (j1.mono (by simp <;> omega)).trans (hf2.mono (by simp <;> omega))
  refine r25_38 ⟨rfl, ux_jf J (fun b hb => by simp at hb; omega), c, p, hs1.js hf2.1, r2.jf J (by simp <;> omega) (by simp <;> omega), r3.jf J (by simp <;> omega) (by simp <;> omega), ⟨op, r4.jf J (fun i hi => by simp; omega)⟩, r5.jf J (by simp <;> omega) (by simp <;> omega), hc2, ?_, r8.jf J (fun i hi => by simp; omega)⟩
  rw [hf2.2 X (by simp; omega)]; exact jr_I_self
theorem cH_stL {h : jm_H} {a k : Nat} {rs : List Rv} {fs : List FS} {l : Int} (c : cH h a rs fs) (hk : k < rs.length) : cH (jm_sI h (a + 2 + 3 * k) 3 (jz l)) a (stL rs k l) fs := by
  obtain ⟨c1, c2, c3, c4⟩ := c
  have J : jf [a + 2 + 3 * k] h (jm_sI h (a + 2 + 3 * k) 3 (jz l)) := (jf.refl _ h).sI (by simp <;> omega)
  refine ⟨by rw [off1 (by omega), stL_len]; exact c1, by rw [stL_len]; exact c2, by rw [stL_len]; exact c3, fun i hi => ?_⟩
  rw [stL_len] at hi
  rw [stL_at hk]
  by_cases e : i = k
  · rw [if_pos e, e]; exact (c4 k hk).sI3
  · rw [if_neg e]; exact (c4 i hi).jf J (by simp; omega) (by simp; omega) (by simp; omega)
theorem x24 {d X c p r : Nat} {h : jm_H} {s : St} {l : Int} (R : RX h X c p s) (ok : oks s) (hr : r < s.2.1.length) (hl : -1 ≤ l ∧ l < 4) : jm_E dh_pr (d + 4) 24 [.inr (.inl X), .inl (jz (r : Int)), .inl (jz l)] h (fun o h' => o = .inl (some (.inl (jz (coF s (stL s.2.1 r l) (EN (stL s.2.1 r l)).length).1))) ∧ ux X 180 h h' ∧ ∃ c p, RX h' X c p (coF s (stL s.2.1 r l) (EN (stL s.2.1 r l)).length).2) := by
  obtain ⟨dk, rs, fl, as, cr, A, B⟩ := s
  replace hr : r < rs.length := hr
  have R0 := R
  obtain ⟨hs, r2, r3, ⟨op, r4⟩, r5, r6, r7, r8⟩ := R
  replace r8 : cH h c rs (sf (pS rs)) := r8
  have okh : okH rs := ok.2.1
  have l20 := okh.1
  have e := hs.2.2.2.2.2.2.2.2
  have ok' := okH_stL okh hr hl
  have len4 : (EN (stL rs r l)).length ≤ 400 := by rw [EN_len (pS_stL hr) (tS_stL hr)]; exact ok.2.2.1
  refine e24 (r24_0 ⟨hs.1, _, hs.cur.2, _, hs.cur.1, hs.his.2.1, jm_callV (s97 hs.his.2 hs.his.1 r8 (fun i hi => by rw [mem_rg]; omega)) ?_⟩)
  rintro h1 ⟨hf1, hc1⟩
  have hs1 := hs.js hf1.1
  have hp1 := hs1.his.2
  have sk := hp1.2.2.2 r (by omega)
  have J2 : jf (rg p 62) h (jm_sI h1 (p + 2 + 3 * r) 3 (jz l)) := hf1.sI (mem_rg.mpr (by omega))
  have hs2 := hs.js J2.1
  have c2 := cH_stL (l := l) hc1 hr
  rw [← pS_stL (l := l) hr] at c2
  refine r24_11 ⟨hs1.1, _, hs1.cur.2, hp1.1, _, hp1.2.1, hp1.2.2.1.1, _, hp1.2.2.1.2, ⟨by omega, by omega, by omega⟩, p + 2 + 3 * r, sk.1, sk.2.1, _, hs1.2.1.2.2.2.2.2.2.2.1, _, hs1.2.1.2.2.2.2.2.2.1, hs1.2.2.2.2.2.1.1, jm_callV (s128 hs2.2.2.2.2.2.1 hs2.his.2 c2 hs2.2.2.2.2.1.2.2 (fun i hi q => by simp at q; omega) (fun i hi q => by rw [mem_rg] at q; omega) (fun i hi q => by simp at q; omega) (okR_ok ok')) ?_⟩
  rintro h3 ⟨hf3, hc3⟩
  have J3 : jf (rg p 62 ++ (rg (X + 33) 21 ++ [X + 31, X + 31 + 1])) h h3 := (J2.mono (fun b hb => List.mem_append_left _ hb)).trans (hf3.mono (fun b hb => List.mem_append_right _ hb))
  have hS : ∀ b ∈ rg p 62 ++ (rg (X + 33) 21 ++ [X + 31, X + 31 + 1]), (X + 3 ≤ b ∧ b < X + 5) ∨ (X + 31 ≤ b ∧ b < X + 56) ∨ (p ≤ b ∧ b < p + 62) := fun b hb => by
    simp only [List.mem_append, mem_rg, List.mem_cons, List.not_mem_nil, or_false] at hb
    omega
  have R3 := RX_jf R0 J3 hS
  have hs3 := R3.1
  refine r24_39 ⟨hs3.1, _, hs3.2.1.2.2.2.2.2.2.1, hs3.2.2.2.2.1.2.2.1, _, hc3.1, jm_E_mono _ _ _ _ _ _ ?_ (x25 R3 ok (c2.jf hf3 (fun i hi q => by
    simp only [List.mem_append, mem_rg, List.mem_cons, List.not_mem_nil, or_false] at q
    omega)) hc3 len4)⟩
  rintro o h' ⟨rfl, hu, hR⟩
  refine r24_50 ⟨rfl, ux_step (ux_jf J3 (fun b hb => by have := hS b hb; omega)) ⟨J3.1.1, J3.1.2.1⟩ hu, hR⟩
theorem x6 {d X c p : Nat} {h : jm_H} {s : St} {u r : Int} (R : RX h X c p s) (ok : oks s) (hb : X + 180 ≤ h.1) (hr : xr h) (hu : jR u) (hk : jR r) : jm_E dh_pr (d + 5) 6 [.inr (.inl X), .inl (jz u), .inl (jz r)] h (fun o h' => ux X 180 h h' ∧ (∃ c p, RX h' X c p (lkF s u r).2.2) ∧ xo 203 (lkF s u r).1 (lkF s u r).2.1 o h h') := by
  have hs := R.1
  have hc := R.2.2.2.2.2.2.2
  have l20 := hc.2.1
  have F1 : ¬ (okU u ∧ okV s r) → lkF s u r = (1, 0, s) := fun q => by unfold lkF; rw [if_neg q]
  have t1 : jm_T (xh h 200) h.1 = 201 := xh_T h 200
  have t2 : jm_T (xh h 202) h.1 = 203 := xh_T h 202
  refine e6 (r6_0 (jm_E_mono _ _ _ _ _ _ ?_ (s21 hu hr)))
  rintro o h' (⟨q1, rfl, rfl⟩ | ⟨q1, rfl, rfl⟩)
  · refine r6_4 ⟨hs.1, jm_E_mono _ _ _ _ _ _ ?_ (s22 hs hc.1 l20 hk hr)⟩
    rintro o h' (⟨q2, rfl, rfl⟩ | ⟨q2, rfl, rfl⟩)
    · have kk : r.toNat < s.2.1.length := by omega
      have sk := hs.his.1.2.2.2 r.toNat (by omega)
      have ck := hc.2.2.2 r.toNat kk
      have lk := (ok.2.1.2.2 r.toNat kk).2.1
      have er : ((r.toNat : Nat) : Int) = r := by omega
      refine r6_9 ⟨hs.1, _, hs.cur.1, hs.his.1.1, _, hs.his.1.2.1, hs.his.1.2.2.1.1, _, hs.his.1.2.2.1.2, ⟨by omega, by omega, by omega⟩, c + 2 + 3 * r.toNat, sk.1, sk.2.1, _, ck.1.2.2.1, ⟨by omega, by omega⟩, fun q3 => ?_, fun q3 => ?_⟩
      · have e : lkF s u r = (0, coF s (stL s.2.1 r.toNat u) (EN (stL s.2.1 r.toNat u)).length) := by
          unfold lkF; rw [if_pos ⟨q1, q2⟩, if_pos (show lockOf s r = -1 from q3)]
        rw [e]
        have W := x24 (d := d) (l := u) R ok kk ⟨by omega, q1.2⟩
        rw [er] at W
        refine jm_E_mono _ _ _ _ _ _ ?_ W
        rintro o h2 ⟨rfl, w1, w2⟩
        exact r6_39 ⟨w1, w2, Or.inl ⟨rfl, rfl⟩⟩
      · have e : lkF s u r = (2, 0, s) := by
          unfold lkF; rw [if_pos ⟨q1, q2⟩, if_neg (show ¬ lockOf s r = -1 from q3)]
        rw [e]
        exact ⟨hr.1, hr.2, xh_n h' 202, by show 200 ≤ jm_T (xh h' 202) h'.1; rw [t2]; omega, by show jm_T (xh h' 202) h'.1 % 2 = 1; rw [t2], ux_xh _ _ _ _, ⟨c, p, RX_xh R hb 202⟩, Or.inr (Or.inr (Or.inl ⟨rfl, rfl, t2⟩))⟩
    · refine jm_kT (fun _ _ => rfl) ?_
      rw [F1 (fun w => q2 w.2)]
      exact ⟨ux_xh _ _ _ _, ⟨c, p, RX_xh R hb 200⟩, Or.inr (Or.inl ⟨rfl, rfl, t1⟩)⟩
  · refine jm_kT (fun _ _ => rfl) ?_
    rw [F1 (fun w => q1 w.1)]
    exact ⟨ux_xh _ _ _ _, ⟨c, p, RX_xh R hb 200⟩, Or.inr (Or.inl ⟨rfl, rfl, t1⟩)⟩
theorem x7 {d X c p : Nat} {h : jm_H} {s : St} {u r : Int} (R : RX h X c p s) (ok : oks s) (hb : X + 180 ≤ h.1) (hr : xr h) (hu : jR u) (hk : jR r) : jm_E dh_pr (d + 5) 7 [.inr (.inl X), .inl (jz u), .inl (jz r)] h (fun o h' => ux X 180 h h' ∧ (∃ c p, RX h' X c p (ulF s u r).2.2) ∧ xo 203 (ulF s u r).1 (ulF s u r).2.1 o h h') := by
  have hs := R.1
  have hc := R.2.2.2.2.2.2.2
  have l20 := hc.2.1
  have F1 : ¬ (okU u ∧ okV s r) → ulF s u r = (1, 0, s) := fun q => by unfold ulF; rw [if_neg q]
  have t1 : jm_T (xh h 200) h.1 = 201 := xh_T h 200
  have t2 : jm_T (xh h 202) h.1 = 203 := xh_T h 202
  refine e7 (r7_0 (jm_E_mono _ _ _ _ _ _ ?_ (s21 hu hr)))
  rintro o h' (⟨q1, rfl, rfl⟩ | ⟨q1, rfl, rfl⟩)
  · refine r7_4 ⟨hs.1, jm_E_mono _ _ _ _ _ _ ?_ (s22 hs hc.1 l20 hk hr)⟩
    rintro o h' (⟨q2, rfl, rfl⟩ | ⟨q2, rfl, rfl⟩)
    · have kk : r.toNat < s.2.1.length := by omega
      have lk := (ok.2.1.2.2 r.toNat kk).2.1
      have er : ((r.toNat : Nat) : Int) = r := by omega
      have W3 := s23 (d := d + 3) hs hc kk hu ⟨by omega, by omega⟩ hr
      rw [er] at W3
      refine r7_9 ⟨hs.1, jm_E_mono _ _ _ _ _ _ ?_ W3⟩
      rintro o h' (⟨q3, rfl, rfl⟩ | ⟨q3, rfl, rfl⟩)
      · have e : ulF s u r = (0, coF s (stL s.2.1 r.toNat (-1)) (EN (stL s.2.1 r.toNat (-1))).length) := by
          unfold ulF; rw [if_pos ⟨q1, q2⟩, if_pos (show lockOf s r = u from q3)]
        rw [e]
        have W := x24 (d := d) (l := -1) R ok kk ⟨by omega, by omega⟩
        rw [er] at W
        refine r7_15 ⟨hs.1, jm_E_mono _ _ _ _ _ _ ?_ W⟩
        rintro o h2 ⟨rfl, w1, w2⟩
        exact r7_21 ⟨w1, w2, Or.inl ⟨rfl, rfl⟩⟩
      · refine jm_kT (fun _ _ => rfl) ?_
        have e : ulF s u r = (2, 0, s) := by
          unfold ulF; rw [if_pos ⟨q1, q2⟩, if_neg (show ¬ lockOf s r = u from q3)]
        rw [e]
        exact ⟨ux_xh _ _ _ _, ⟨c, p, RX_xh R hb 202⟩, Or.inr (Or.inr (Or.inl ⟨rfl, rfl, t2⟩))⟩
    · refine jm_kT (fun _ _ => rfl) ?_
      rw [F1 (fun w => q2 w.2)]
      exact ⟨ux_xh _ _ _ _, ⟨c, p, RX_xh R hb 200⟩, Or.inr (Or.inl ⟨rfl, rfl, t1⟩)⟩
  · refine jm_kT (fun _ _ => rfl) ?_
    rw [F1 (fun w => q1 w.1)]
    exact ⟨ux_xh _ _ _ _, ⟨c, p, RX_xh R hb 200⟩, Or.inr (Or.inl ⟨rfl, rfl, t1⟩)⟩
