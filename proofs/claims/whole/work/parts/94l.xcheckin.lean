/-! The class: checking in. -/
theorem set_last {α : Type} : ∀ (l : List α) (x y : α), (l ++ [x]).set l.length y = l ++ [y]
  | [], _, _ => rfl
  | a :: l, x, y => congrArg (a :: ·) (set_last l x y)
theorem set_left {α : Type} : ∀ (l : List α) (k : Nat) (x : List α) (y : α), k < l.length → (l ++ x).set k y = l.set k y ++ x
  | [], _, _, _, h => absurd h (Nat.not_lt_zero _)
  | a :: l, 0, x, y, _ => rfl
  | a :: l, k + 1, x, y, h => congrArg (a :: ·) (set_left l k x y (Nat.lt_of_succ_lt_succ h))
theorem stL_snoc {rs : List Rv} {k : Nat} {l : Int} {n : Rv} (hk : k < rs.length) : stL (rs ++ [n]) k l = stL rs k l ++ [n] := by
  unfold stL
  rw [gD_l hk, set_left _ _ _ _ hk]
theorem cH_set {h h' : jm_H} {a k : Nat} {rs : List Rv} {fs : List FS} {r' : Rv} {S : List Nat} (c : cH h a rs fs) (hk : k < rs.length) (J : jf S h h') (hS : ∀ b ∈ S, a + 2 + 3 * k ≤ b ∧ b < a + 2 + 3 * k + 3) (hr : cR h' (a + 2 + 3 * k) r' (fs.getD k fs0)) : cH h' a (rs.set k r') fs := by
  obtain ⟨c1, c2, c3, c4⟩ := c
  have n : ∀ b, ¬ (a + 2 + 3 * k ≤ b ∧ b < a + 2 + 3 * k + 3) → b ∉ S := fun b hb m => hb (hS b m)
  refine ⟨by rw [J.2 a (n _ (by omega)), List.length_set]; exact c1, by rw [List.length_set]; exact c2, by rw [List.length_set]; exact c3, fun i hi => ?_⟩
  rw [List.length_set] at hi
  rw [gD_set hk]
  by_cases e : i = k
  · rw [if_pos e, e]; exact hr
  · rw [if_neg e]; exact (c4 i hi).jf J (n _ (by omega)) (n _ (by omega)) (n _ (by omega))
theorem x8 {d X c p : Nat} {h : jm_H} {s : St} {u r : Int} (R : RX h X c p s) (ok : oks s) (hb : X + 180 ≤ h.1) (hr : xr h) (hu : jR u) (hk : jR r) : jm_E dh_pr (d + 4) 8 [.inr (.inl X), .inl (jz u), .inl (jz r)] h (fun o h' => ux X 180 h h' ∧ (∃ c p, RX h' X c p (ciF s u r).2.2) ∧ xo 203 (ciF s u r).1 (ciF s u r).2.1 o h h') := by
  have hs := R.1
  have hc := R.2.2.2.2.2.2.2
  have l20 := hc.2.1
  have e := hs.2.2.2.2.2.2.2.2
  have okh := ok.2.1
  have el := pS_len s.2.1
  have hP := sfP_all _ _ rfl okh.2.1
  have F1 : ¬ (okU u ∧ (opg s r ∨ okV s r)) → ciF s u r = (1, 0, s) := fun q => by unfold ciF; rw [if_neg q]
  have t1 : jm_T (xh h 200) h.1 = 201 := xh_T h 200
  have t2 : jm_T (xh h 202) h.1 = 203 := xh_T h 202
  have t3 : jm_T (xh h 204) h.1 = 205 := xh_T h 204
  have C3 : okU u → (opg s r ∨ okV s r) → (opg s r ∨ lockOf s r = u) → ¬ (s.2.1.length < 20 ∧ (EN (ciR s u r)).length ≤ 400) → ciF s u r = (3, 0, s) := fun q1 q2 q3 q4 => by
    unfold ciF; rw [if_pos ⟨q1, q2⟩, if_pos q3, if_neg q4]
  have K71 : ∀ v3 : Int, ((v3 = 1 ∧ opg s r) ∨ (v3 = 0 ∧ ¬ opg s r ∧ okV s r)) → okU u → (opg s r ∨ lockOf s r = u) → s.2.1.length < 20 → jm_E dh_pr (d + 3) 97 [.inr (.inl p), .inr (.inl c)] h (jm_k dh_pr (d + 3) 8 (fun o h' => ux X 180 h h' ∧ (∃ c p, RX h' X c p (ciF s u r).2.2) ∧ xo 203 (ciF s u r).1 (ciF s u r).2.1 o h h') 71 [some (.inr (.inl X)), some (.inl (jz u)), some (.inl (jz r)), some (.inl (jz v3)), none] [] 68) := by
    intro v3 hv3 q1 q3 h20
    have q2 : opg s r ∨ okV s r := hv3.elim (fun w => Or.inl w.2) (fun w => Or.inr w.2.2)
    have okc := okH_ci ok q1 q2 h20
    have pr1 : (s.2.1.length = 0 → r = -1) ∧ (0 < s.2.1.length → 0 ≤ r ∧ r < s.2.1.length) := by
      rcases hv3 with ⟨-, w⟩ | ⟨-, w1, w2⟩
      · exact ⟨fun _ => w.1, fun h => by have := w.2; omega⟩
      · exact ⟨fun h => by have := w2.1; have := w2.2; omega, fun _ => w2⟩
    refine jm_callV (s97 hs.his.2 hs.his.1 hc (fun i hi => by rw [mem_rg]; omega)) ?_
    rintro h1 ⟨hf1, hc1⟩
    have hs1 := hs.js hf1.1
    refine r8_71 ⟨hs1.1, _, hs1.cur.2, hs1.his.2.1, jm_E_mono _ _ _ _ _ _ ?_ (s98 hs1.his.2 hc1 h20 hk (fun k hk => by
      rw [sf_len] at hk
      have := hP.2.2.2.2 k hk
      show jR (fsK (pS s.2.1) k).1
      constructor <;> omega))⟩
    rintro o h2 ⟨rfl, hf2, hc2⟩
    have J2 := hf1.trans hf2
    have hs2 := hs.js J2.1
    have hp2 := hs2.his.2
    have sk := hp2.2.2.2 s.2.1.length h20
    rw [← sf_snoc] at hc2
    have d2 := R.2.1.jf J2 (fun q => by rw [mem_rg] at q; omega) (fun q => by rw [mem_rg] at q; omega)
    refine r8_80 ⟨hs2.1, _, hs2.cur.2, hp2.1, _, hp2.2.1, hp2.2.2.1.1, _, hp2.2.2.1.2, ⟨by omega, by omega, by omega⟩, p + 2 + 3 * s.2.1.length, sk.1, sk.2.1, _, sk.2.2.1, _, hs2.2.1.1, sk.2.2.2.1, jm_callV (s120 sk.2.2.2 hs2.2.2.1.1 d2) ?_⟩
    rintro h3 ⟨hf3, hx3⟩
    have cl : cR h3 (p + 2 + 3 * s.2.1.length) (r, u, -1, s.1) ((sf (pS s.2.1 ++ [r])).getD s.2.1.length fs0) := by
      have w := hc2.2.2.2 s.2.1.length (by rw [List.length_append, List.length_singleton]; omega)
      rw [gD_n rfl] at w
      obtain ⟨⟨w1, w2, w3, w4, w5, w6, w7, w8, w9⟩, -⟩ := w
      have q := hf3.2 (p + 2 + 3 * s.2.1.length) (by simp; omega)
      exact ⟨⟨(q _).trans w1, (q _).trans w2, (q _).trans w3, (q _).trans w4, (q _).trans w5, (q _).trans w6, (q _).trans w7, (q _).trans w8, (q _).trans w9⟩, hx3⟩
    have hc3 := cH_set hc2 (by rw [List.length_append, List.length_singleton]; omega) hf3 (fun b hb => by simp at hb; omega) cl
    rw [set_last] at hc3
    have J3 : jf (rg p 62) h h3 := J2.trans (hf3.mono (fun b hb => by rw [mem_rg]; simp at hb; omega))
    have hs3 := hs.js J3.1
    have hp3 := hs3.his.2
    -- what follows the writing
    have K134 : ∀ (h4 : jm_H) (l4 : Option jm_V), l4 = some (.inl (jz (s.2.1.length : Int))) → jf (rg p 62 ++ (rg (X + 33) 21 ++ [X + 31, X + 31 + 1])) h h4 → cH h4 p (ciR s u r) (sf (pS (ciR s u r))) → cb h4 (X + 31) (EN (ciR s u r)) → jm_W dh_pr (d + 3) 8 (134, [some (.inr (.inl X)), some (.inl (jz u)), some (.inl (jz r)), some (.inl (jz v3)), l4], [], h4) (fun o h' => ux X 180 h h' ∧ (∃ c p, RX h' X c p (ciF s u r).2.2) ∧ xo 203 (ciF s u r).1 (ciF s u r).2.1 o h h') := by
      rintro h4 l4 rfl J4 hc4 hb4
      have hS : ∀ b ∈ rg p 62 ++ (rg (X + 33) 21 ++ [X + 31, X + 31 + 1]), (X + 3 ≤ b ∧ b < X + 5) ∨ (X + 31 ≤ b ∧ b < X + 56) ∨ (p ≤ b ∧ b < p + 62) := fun b hb => by
        simp only [List.mem_append, mem_rg, List.mem_cons, List.not_mem_nil, or_false] at hb
        omega
      have R4 := RX_jf R J4 hS
      have hs4 := R4.1
      have e1 := J4.1.1
      have e2 := J4.1.2.1
      have U4 : ux X 180 h h4 := ux_jf J4 (fun b hb => by have := hS b hb; omega)
      refine r8_134 ⟨hs4.1, _, hs4.2.1.2.2.2.2.2.2.1, hs4.2.2.2.2.1.2.2.1, jm_E_mono _ _ _ _ _ _ ?_ (s82 hs4.2.2.2.2.1.2.2 hb4)⟩
      rintro o h5 ⟨rfl, rfl⟩
      by_cases q4 : (EN (ciR s u r)).length ≤ 400
      · rw [if_pos q4]
        have ec : ciF s u r = (0, coF s (ciR s u r) s.2.1.length) := by
          unfold ciF; rw [if_pos ⟨q1, q2⟩, if_pos q3, if_pos ⟨h20, q4⟩]
        rw [ec]
        refine r8_141 ⟨⟨by omega, by omega⟩, fun _ => ⟨hs4.1, jm_E_mono _ _ _ _ _ _ ?_ (x25 R4 ok hc4 hb4 q4)⟩, fun w => absurd w (by omega)⟩
        rintro o h6 ⟨rfl, w1, w2⟩
        exact r8_158 ⟨ux_step U4 ⟨e1, e2⟩ w1, w2, Or.inl ⟨rfl, rfl⟩⟩
      · rw [if_neg q4, C3 q1 q2 q3 (fun w => q4 w.2)]
        have t4 : jm_T (xh h5 204) h5.1 = 205 := xh_T h5 204
        have hr1 := hr.1
        have hr2 := hr.2
        refine r8_141 ⟨⟨by omega, by omega⟩, fun w => absurd rfl w, fun _ => ⟨by omega, by omega, xh_n h5 204, by show 200 ≤ jm_T (xh h5 204) h5.1; rw [t4]; omega, by show jm_T (xh h5 204) h5.1 % 2 = 1; rw [t4], ux_step U4 ⟨e1, e2⟩ (ux_xh _ _ 204 _), ⟨c, p, RX_xh R4 (by omega) 204⟩, Or.inr (Or.inr (Or.inr ⟨rfl, by rw [e1], by rw [← e1]; exact t4⟩))⟩⟩
    have nn1 : ∀ i, i < 62 → p + i ∉ [X + 31, X + 31 + 1] := fun i hi q => by simp at q; omega
    have nn2 : ∀ i, i < 62 → p + i ∉ rg (X + 33) 21 := fun i hi q => by rw [mem_rg] at q; omega
    have nn3 : ∀ i, i < 21 → X + 33 + i ∉ [X + 31, X + 31 + 1] := fun i hi q => by simp at q; omega
    have nn4 : ∀ i, i < 62 → p + i ∉ rg (X + 33) 21 ++ [X + 31, X + 31 + 1] := fun i hi q => by
      rcases List.mem_append.mp q with q | q
      · exact nn2 i hi q
      · exact nn1 i hi q
    rcases hv3 with ⟨rfl, w⟩ | ⟨rfl, w1, w2⟩
    · have ec : s.2.1 ++ [(r, u, -1, s.1)] = ciR s u r := by unfold ciR; rw [if_pos w]
      have ep : pS s.2.1 ++ [r] = pS (ciR s u r) := by rw [← ec, pS_snoc]
      rw [ec, ep] at hc3
      refine r8_102 ⟨⟨by omega, by omega⟩, fun _ => ⟨hs3.1, _, hs3.2.1.2.2.2.2.2.2.2.1, _, hs3.cur.2, _, hs3.2.1.2.2.2.2.2.2.1, hs3.2.2.2.2.2.1.1, jm_callV (s128 hs3.2.2.2.2.2.1 hp3 hc3 hs3.2.2.2.2.1.2.2 nn1 nn2 nn3 (okR_ok okc)) ?_⟩, fun w => absurd w (by omega)⟩
      rintro h4 ⟨hf4, hb4⟩
      exact K134 h4 _ rfl ((J3.mono (fun b hb => List.mem_append_left _ hb)).trans (hf4.mono (fun b hb => List.mem_append_right _ hb))) (hc3.jf hf4 nn4) hb4
    · obtain ⟨w2, w3⟩ := w2
      have kk : r.toNat < s.2.1.length := by omega
      have ec : stL (s.2.1 ++ [(r, u, -1, s.1)]) r.toNat (-1) = ciR s u r := by rw [stL_snoc kk]; unfold ciR; rw [if_neg w1]
      have ep : pS s.2.1 ++ [r] = pS (ciR s u r) := by rw [← ec, pS_stL (by rw [List.length_append]; omega), pS_snoc]
      have sk3 := hp3.2.2.2 r.toNat (by omega)
      have hc4 := cH_stL (l := -1) (k := r.toNat) hc3 (by rw [List.length_append]; omega)
      rw [ec, ep] at hc4
      have J4 : jf (rg p 62) h (jm_sI h3 (p + 2 + 3 * r.toNat) 3 (jz (-1))) := J3.sI (mem_rg.mpr (by omega))
      have hs4 := hs.js J4.1
      refine r8_102 ⟨⟨by omega, by omega⟩, fun w => absurd rfl w, fun _ => ⟨hs3.1, _, hs3.cur.2, hp3.1, _, hp3.2.1, hp3.2.2.1.1, _, hp3.2.2.1.2, ⟨by omega, by omega, by omega⟩, p + 2 + 3 * r.toNat, sk3.1, sk3.2.1, _, hs3.2.1.2.2.2.2.2.2.2.1, _, hs3.2.1.2.2.2.2.2.2.1, hs3.2.2.2.2.2.1.1, jm_callV (s128 hs4.2.2.2.2.2.1 hs4.his.2 hc4 hs4.2.2.2.2.1.2.2 nn1 nn2 nn3 (okR_ok okc)) ?_⟩⟩
      rintro h5 ⟨hf5, hb5⟩
      exact K134 h5 _ rfl ((J4.mono (fun b hb => List.mem_append_left _ hb)).trans (hf5.mono (fun b hb => List.mem_append_right _ hb))) (hc4.jf hf5 nn4) hb5
  have N22 : ¬ opg s r → okU u → jm_E dh_pr (d + 3) 22 [.inr (.inl X), .inl (jz r)] h (jm_k dh_pr (d + 3) 8 (fun o h' => ux X 180 h h' ∧ (∃ c p, RX h' X c p (ciF s u r).2.2) ∧ xo 203 (ciF s u r).1 (ciF s u r).2.1 o h h') 34 [some (.inr (.inl X)), some (.inl (jz u)), some (.inl (jz r)), some (.inl (jz 0)), none] [] 31) := by
    intro no q1
    refine jm_E_mono _ _ _ _ _ _ ?_ (s22 hs hc.1 l20 hk hr)
    rintro o h' (⟨q2, rfl, rfl⟩ | ⟨q2, rfl, rfl⟩)
    · have kk : r.toNat < s.2.1.length := by omega
      have lk := (okh.2.2 r.toNat kk).2.1
      have er : ((r.toNat : Nat) : Int) = r := by omega
      have W3 := s23 (d := d + 2) hs hc kk hu ⟨by omega, by omega⟩ hr
      rw [er] at W3
      refine r8_34 ⟨hs.1, jm_E_mono _ _ _ _ _ _ ?_ W3⟩
      rintro o h' (⟨q3, rfl, rfl⟩ | ⟨q3, rfl, rfl⟩)
      · refine r8_40 ⟨hs.1, _, hs.cur.1, hs.his.1.1, _, hc.1, ⟨by omega, by omega⟩, fun q4 => ⟨_, hs.cur.2, hs.his.2.1, K71 0 (Or.inr ⟨rfl, no, q2⟩) q1 (Or.inr q3) (by omega)⟩, fun q4 => ?_⟩
        rw [C3 q1 (Or.inr q2) (Or.inr q3) (by omega)]
        exact ⟨hr.1, hr.2, xh_n h' 204, by show 200 ≤ jm_T (xh h' 204) h'.1; rw [t3]; omega, by show jm_T (xh h' 204) h'.1 % 2 = 1; rw [t3], ux_xh _ _ 204 _, ⟨c, p, RX_xh R hb 204⟩, Or.inr (Or.inr (Or.inr ⟨rfl, rfl, t3⟩))⟩
      · refine jm_kT (fun _ _ => rfl) ?_
        have ec : ciF s u r = (2, 0, s) := by
          unfold ciF; rw [if_pos ⟨q1, Or.inr q2⟩, if_neg (fun w => w.elim no q3)]
        rw [ec]
        exact ⟨ux_xh _ _ _ _, ⟨c, p, RX_xh R hb 202⟩, Or.inr (Or.inr (Or.inl ⟨rfl, rfl, t2⟩))⟩
    · refine jm_kT (fun _ _ => rfl) ?_
      rw [F1 (fun w => w.2.elim no q2)]
      exact ⟨ux_xh _ _ _ _, ⟨c, p, RX_xh R hb 200⟩, Or.inr (Or.inl ⟨rfl, rfl, t1⟩)⟩
  refine e8 (r8_0 (jm_E_mono _ _ _ _ _ _ ?_ (s21 hu hr)))
  rintro o h' (⟨q1, rfl, rfl⟩ | ⟨q1, rfl, rfl⟩)
  · refine r8_4 ⟨hk, fun q => ⟨fun w => absurd rfl w, fun _ => ⟨hs.1, N22 (fun w => q w.1) q1⟩⟩, fun q => ⟨hs.1, _, hs.cur.1, hs.his.1.1, _, hc.1, ⟨by omega, by omega⟩, fun q' => ⟨fun w => absurd rfl w, fun _ => N22 (fun w => q' (by have := w.2; omega)) q1⟩, fun q' => ⟨fun _ => ⟨fun _ => ⟨_, hs.cur.2, hs.his.2.1, K71 1 (Or.inl ⟨rfl, q, by omega⟩) q1 (Or.inl ⟨q, by omega⟩) (by omega)⟩, fun w => absurd w (by omega)⟩, fun w => absurd w (by omega)⟩⟩⟩
  · refine jm_kT (fun _ _ => rfl) ?_
    rw [F1 (fun w => q1 w.1)]
    exact ⟨ux_xh _ _ _ _, ⟨c, p, RX_xh R hb 200⟩, Or.inr (Or.inl ⟨rfl, rfl, t1⟩)⟩
