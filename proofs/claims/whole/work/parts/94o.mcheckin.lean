/-! The reference: checking in. -/
theorem take_set_n {α : Type} : ∀ (l : List α) (n : Nat) (x : α), n < l.length → (l.set n x).take (n + 1) = l.take n ++ [x]
  | [], _, _, h => absurd h (Nat.not_lt_zero _)
  | a :: l, 0, x, _ => rfl
  | a :: l, n + 1, x, h => congrArg (a :: ·) (take_set_n l n x (Nat.lt_of_succ_lt_succ h))
theorem take_set_o {α : Type} : ∀ (l : List α) (n : Nat) (x : α), (l.set n x).take n = l.take n
  | [], _, _ => rfl
  | a :: l, 0, x => rfl
  | a :: l, n + 1, x => congrArg (a :: ·) (take_set_o l n x)
theorem cU_pop {h : jm_H} {M : Nat} {rs : List Rv} {x : Rv} {z : Int} (c : cU h M (rs ++ [x])) (hz : z = rs.length) : cU (jm_sI h M 1 (jz z)) M rs := by
  have tk : ∀ f : Rv → Int, ((rs ++ [x]).map f).take rs.length = rs.map f := fun f => by
    rw [List.map_append, List.take_append_of_le_length (by rw [List.length_map]; exact Nat.le_refl _), List.take_of_length_le (by rw [List.length_map]; exact Nat.le_refl _)]
  refine ⟨⟨by rw [jr_I_self, hz, pS_len], ?_⟩, ?_, ?_⟩
  · have := c.1.2.take rs.length
    rw [show (pS (rs ++ [x])).take rs.length = pS rs from tk _] at this
    exact this.off (by omega)
  · have := c.2.1.take rs.length
    rw [tk] at this
    exact this.off (by omega)
  · have := c.2.2.take rs.length
    rw [tk] at this
    exact this.off (by omega)
theorem m57 {d M : Nat} {h : jm_H} {s : St} {u r : Int} (R : RM h M s) (ok : oks s) (hu : jR u) (hk : jR r) : jm_E dh_pr (d + 4) 57 [.inr (.inl M), .inl (jz u), .inl (jz r)] h (fun o h' => mo (ciF s u r) M o h h') := by
  obtain ⟨ts, N, U, eT⟩ := RM_RN R
  have hs := R.1
  have okh := ok.2.1
  have l20 := okh.1
  have el := pS_len s.2.1
  have hcr := ok.2.2.2.2.2.1
  have F1 : ¬ (okU u ∧ (opg s r ∨ okV s r)) → ciF s u r = (1, 0, s) := fun q => by unfold ciF; rw [if_neg q]
  have C3 : okU u → (opg s r ∨ okV s r) → (opg s r ∨ lockOf s r = u) → ¬ (s.2.1.length < 20 ∧ (EN (ciR s u r)).length ≤ 400) → ciF s u r = (3, 0, s) := fun q1 q2 q3 q4 => by
    unfold ciF; rw [if_pos ⟨q1, q2⟩, if_pos q3, if_neg q4]
  have cc : jm_I h M 1 = jz s.2.1.length := by rw [← el]; exact U.1.1
  obtain ⟨f1, g1, n1⟩ := hs.f 2 1 20 (by decide)
  obtain ⟨f2, g2, n2⟩ := hs.f 3 2 20 (by decide)
  obtain ⟨f3, g3, n3⟩ := hs.f 4 3 20 (by decide)
  obtain ⟨f4, g4, n4⟩ := hs.f 5 4 20 (by decide)
  have S5' : ∀ b ∈ [M + 1, M + 2, M + 3, M + 4, M + 5], M + 1 ≤ b ∧ b < M + 30 := fun b hb => by simp at hb; omega
  -- from the write on
  have K48 : ∀ (v3 v5 : Int) (hW : jm_H), ((v3 = 1 ∧ opg s r) ∨ (v3 = 0 ∧ ¬ opg s r ∧ okV s r ∧ lockOf s r = u)) → okU u → s.2.1.length < 20 → jq M [0, 1] [M + 1, M + 2, M + 3, M + 4, M + 5] h hW → cU hW M (ciR s u r) → RN hW M s (ts.set s.2.1.length s.1) → jm_I hW M 0 = jz 0 → jm_E dh_pr (d + 3) 48 [.inr (.inl M)] hW (jm_k dh_pr (d + 3) 57 (fun o h' => mo (ciF s u r) M o h h') 190 [some (.inr (.inl M)), some (.inl (jz u)), some (.inl (jz r)), some (.inl (jz v3)), some (.inl (jz (s.2.1.length : Int))), some (.inl (jz v5))] [] 187) := by
    intro v3 v5 hW hv q1 h20 JW UW NW zW
    have q2 : opg s r ∨ okV s r := hv.elim (fun w => Or.inl w.2) (fun w => Or.inr w.2.2.1)
    have q3 : opg s r ∨ lockOf s r = u := hv.elim (fun w => Or.inl w.2) (fun w => Or.inr w.2.2.2)
    have okc := okH_ci ok q1 q2 h20
    have e24 := EN_2400 okc
    have lts : s.2.1.length < ts.length := by rw [N.2.2.1.1]; exact h20
    obtain ⟨cs, ecs, ecl, ect, ecp⟩ : ∃ cs : List Rv, ciR s u r = cs ++ [(r, u, -1, s.1)] ∧ cs.length = s.2.1.length ∧ tS cs = tS s.2.1 ∧ pS cs = pS s.2.1 := by
      unfold ciR
      by_cases w : opg s r
      · rw [if_pos w]; exact ⟨_, rfl, rfl, rfl, rfl⟩
      · rw [if_neg w]
        have v := q2.resolve_left w
        have kk : r.toNat < s.2.1.length := by have := v.1; have := v.2; omega
        exact ⟨_, rfl, stL_len _ _ _, tS_stL kk, pS_stL kk⟩
    have eTc : tS (ciR s u r) = (ts.set s.2.1.length s.1).take (ciR s u r).length := by
      rw [ecs, tS_snoc, List.length_append, List.length_singleton, ecl, take_set_n _ _ _ lts, ect, eT]
    have eTs : tS s.2.1 = (ts.set s.2.1.length s.1).take s.2.1.length := by rw [take_set_o]; exact eT
    have VW := cV_mk UW NW.2.2.1 eTc
    have PW := mA_up JW (by decide) S5'
    refine jm_callV (s48 NW.1 VW okc.1 okc.2.1 (fun k hk => lnv_rng (okc.2.2 k hk).2.2.2)) ?_
    rintro h2 ⟨p2, D2⟩
    replace D2 : cdr h2 M (EN (ciR s u r)) := D2
    have N2 := RN_jq NW p2 (by decide) (fun b hb => by simp [mS] at hb; simp [scS]; omega)
    have U2 := UW.jq p2 (by simp [mS]) (by decide) (by simp [mS])
    have hs2 := N2.1
    have P2 : jq M mB (mA M) h h2 := PW.trans (mA_up p2 mK_43 mS_30)
    obtain ⟨f3', g3', n3'⟩ := hs2.f 4 3 20 (by decide)
    have z2 : jm_I h2 M 0 = jz 0 := by rw [p2.2 M 0 (by simp [mS]) (fun q => absurd q.2 (by decide))]; exact zW
    have c2 : jm_I h2 M 1 = jz ((s.2.1.length : Int) + 1) := by
      rw [U2.1.1, pS_len, ecs, List.length_append, List.length_singleton, ecl]; rfl
    -- undone
    have B : ∀ c : Int, ((v3 = 1 ∧ opg s r) → RN (jm_sI (jm_sI h2 M 1 (jz ((s.2.1.length : Int) + 1 - 1))) M 0 (jz c)) M s (ts.set s.2.1.length s.1) ∧ cU (jm_sI (jm_sI h2 M 1 (jz ((s.2.1.length : Int) + 1 - 1))) M 0 (jz c)) M s.2.1 ∧ jq M [0, 1] [M + 3] h2 (jm_sI (jm_sI h2 M 1 (jz ((s.2.1.length : Int) + 1 - 1))) M 0 (jz c))) ∧ ((v3 = 0 ∧ ¬ opg s r ∧ okV s r ∧ lockOf s r = u) → RN (jm_sI (jm_sI (jm_sI h2 M 1 (jz ((s.2.1.length : Int) + 1 - 1))) (M + 3) r.toNat (jz u)) M 0 (jz c)) M s (ts.set s.2.1.length s.1) ∧ cU (jm_sI (jm_sI (jm_sI h2 M 1 (jz ((s.2.1.length : Int) + 1 - 1))) (M + 3) r.toNat (jz u)) M 0 (jz c)) M s.2.1 ∧ jq M [0, 1] [M + 3] h2 (jm_sI (jm_sI (jm_sI h2 M 1 (jz ((s.2.1.length : Int) + 1 - 1))) (M + 3) r.toNat (jz u)) M 0 (jz c))) := by
      intro c
      refine ⟨fun w => ?_, fun w => ?_⟩
      · have p : jq M [0, 1] [M + 3] h2 (jm_sI (jm_sI h2 M 1 (jz ((s.2.1.length : Int) + 1 - 1))) M 0 (jz c)) := ((jq.refl _ _ _ h2).sM (by simp <;> omega)).sM (by simp <;> omega)
        refine ⟨RN_jq N2 p (by decide) (fun b hb => by simp at hb; simp [hb]), ?_, p⟩
        have e1 : ciR s u r = s.2.1 ++ [(r, u, -1, s.1)] := by unfold ciR; rw [if_pos w.2]
        rw [e1] at U2
        have := cU_pop (z := (s.2.1.length : Int) + 1 - 1) U2 (by omega)
        exact this.jq ((jq.refl M [0] [] _).sM (by simp <;> omega)) (by simp <;> omega) (by decide) (by simp <;> omega)
      · have p : jq M [0, 1] [M + 3] h2 (jm_sI (jm_sI (jm_sI h2 M 1 (jz ((s.2.1.length : Int) + 1 - 1))) (M + 3) r.toNat (jz u)) M 0 (jz c)) := (((jq.refl _ _ _ h2).sM (by simp <;> omega)).sI (by simp <;> omega)).sM (by simp <;> omega)
        refine ⟨RN_jq N2 p (by decide) (fun b hb => by simp at hb; simp [hb]), ?_, p⟩
        obtain ⟨-, w1, w2, w3⟩ := w
        have kk : r.toNat < s.2.1.length := by have := w2.1; have := w2.2; omega
        have e1 : ciR s u r = stL s.2.1 r.toNat (-1) ++ [(r, u, -1, s.1)] := by unfold ciR; rw [if_neg w1]
        rw [e1] at U2
        have a1 := cU_pop (z := (s.2.1.length : Int) + 1 - 1) U2 (by rw [stL_len]; omega)
        have a2 := cU_lk (l := u) a1 (k := r.toNat) (by rw [stL_len]; exact kk)
        have e2 : (s.2.1.getD r.toNat rv0).2.2.1 = u := w3
        have e3 := stL_back (l := -1) kk
        rw [e2] at e3
        rw [e3] at a2
        exact a2.jq ((jq.refl M [0] [] _).sM (by simp <;> omega)) (by simp <;> omega) (by decide) (by simp <;> omega)
    have up2 : ∀ {h3 : jm_H}, jq M [0, 1] [M + 3] h2 h3 → jq M mB (mA M) h h3 := fun p => P2.trans (mA_up p (by decide) (fun b hb => by simp at hb; omega))
    refine r57_190 ⟨hs2.1, jm_callI (s49 hs2 D2 e24 N2.2.2.2.2.2.1 hcr.2) ?_⟩
    intro z h' hz
    obtain ⟨rfl, hz⟩ := hz
    by_cases q4 : (EN (ciR s u r)).length ≤ 400
    · have ecf : ciF s u r = (0, coF s (ciR s u r) s.2.1.length) := by
        unfold ciF; rw [if_pos ⟨q1, q2⟩, if_pos q3, if_pos ⟨h20, q4⟩]
      rw [ecf]
      rcases hz with ⟨rfl, q⟩ | ⟨rfl, q⟩
      · have ec : coF s (ciR s u r) s.2.1.length = (-2, (s.1, s.2.1, s.2.2.1, (EN (ciR s u r)).take s.2.2.2.2.1.toNat, -1, s.2.2.2.2.2)) := by
          unfold coF; rw [if_pos q]
        rw [ec]
        have K50 : ∀ h3 : jm_H, RN h3 M s (ts.set s.2.1.length s.1) → cU h3 M s.2.1 → jq M [0, 1] [M + 3] h' h3 → jm_I h3 M 0 = jz 0 → jm_E dh_pr (d + 3) 50 [.inr (.inl M)] h3 (jm_k dh_pr (d + 3) 57 (fun o h' => mo (0, -2, (s.1, s.2.1, s.2.2.1, (EN (ciR s u r)).take s.2.2.2.2.1.toNat, -1, s.2.2.2.2.2)) M o h h') 262 [some (.inr (.inl M)), some (.inl (jz u)), some (.inl (jz r)), some (.inl (jz v3)), some (.inl (jz (s.2.1.length : Int))), some (.inl (jz 1))] [] 259) := by
          intro h3 N3 U3 p3 z3
          have i15 : jm_I h3 M 15 = jz ((s.2.2.2.2.1.toNat : Nat) : Int) := by
            rw [N3.2.2.2.2.2.1]; congr 1; omega
          refine jm_callV (s50m N3.1 (D2.jq p3 (by simp <;> omega) (by decide) (by simp <;> omega)) i15 (by omega) (by omega)) ?_
          rintro h4 ⟨p4, j4, E4⟩
          have z4 : jm_I h4 M 0 = jz 0 := by rw [p4.2 M 0 (by simp <;> omega) (fun q => absurd q.2 (by decide))]; exact z3
          have N4 := RN_cut N3 p4 E4 j4
          exact r57_262 ⟨N4.1.1, 0, z4, ⟨by omega, by omega⟩, fun _ => ⟨⟨-2, rfl, fun _ => rfl⟩, z4, RN_RM N4 (U3.jq p4 (by simp <;> omega) (by decide) (by simp <;> omega)) eTs, (up2 p3).trans (mA_up p4 (by decide) (fun b hb => by simp at hb; omega))⟩, fun w => absurd w (by omega)⟩
        refine r57_194 ⟨hs2.1, _, D2.1, ⟨by omega, by omega⟩, fun w => absurd w (by omega), fun _ => ⟨⟨by omega, by omega⟩, fun w => absurd w (by omega), fun _ => ⟨_, c2, ⟨by omega, by omega⟩, fun w => ⟨fun _ => ⟨fun x => absurd rfl x, fun _ => ?_⟩, fun x => absurd x (by omega)⟩, fun w => ⟨_, f3', g3', _, n3', ?_, fun _ => ⟨fun x => absurd rfl x, fun _ => ?_⟩, fun x => absurd x (by omega)⟩⟩⟩⟩
        · obtain ⟨b1, b2, b3⟩ := (B 0).1 (hv.resolve_right (fun x => w x.1))
          exact K50 _ b1 b2 b3 jr_I_self
        · have v := (hv.resolve_left (fun x => by omega)).2.2.1
          exact ⟨v.1, by have := v.2; omega, by omega⟩
        · obtain ⟨b1, b2, b3⟩ := (B 0).2 (hv.resolve_left (fun x => by omega))
          exact K50 _ b1 b2 b3 jr_I_self
      · have ec : coF s (ciR s u r) s.2.1.length = (if s.2.2.2.2.1 = (EN (ciR s u r)).length + 1 then -2 else (s.2.1.length : Int), (s.1, ciR s u r, EN (ciR s u r), [], -1, s.2.2.2.2.2)) := by
          unfold coF; rw [if_neg q]
        rw [ec]
        have lc : (pS (ciR s u r)).length = s.2.1.length + 1 := by rw [pS_len, ecs, List.length_append, List.length_singleton, ecl]
        have nm0 : nmr h' M (pS (ciR s u r)) s.2.1.length := by
          intro k hk
          have w := N2.2.2.2.2.2.2.2 k hk
          have e1 : pS (ciR s u r) = pS s.2.1 ++ [r] := by rw [ecs, pS_snoc, ecp]
          have e2 := nm_snoc (ps := pS s.2.1) (p := r) (by rw [← e1]; exact okc.2.1) k (by omega)
          rw [e1, e2]; exact w
        refine r57_194 ⟨hs2.1, _, D2.1, ⟨by omega, by omega⟩, fun w => absurd w (by omega), fun _ => ⟨⟨by omega, by omega⟩, fun _ => jm_callV (s40 hs2 U2.1.2 (by rw [lc]; omega) okc.2.1 (by omega) nm0) ?_, fun w => absurd rfl w⟩⟩
        rintro h3 ⟨p3, M3⟩
        have hs3 := hs2.js p3.1
        have i15 : jm_I h3 M 15 = jz s.2.2.2.2.1 := by rw [p3.2 M 15 (by simp <;> omega) (by simp <;> omega)]; exact N2.2.2.2.2.2.1
        refine r57_282 ⟨hs3.1, jm_callI (s51 hs3 (D2.jq p3 (by simp <;> omega) (by simp <;> omega) (by simp <;> omega)) i15 hcr.2 q4) ?_⟩
        rintro z h4 ⟨p4, j4, F4, E4, qz⟩
        have hs4 := hs3.js p4.1
        have P4 : jq M mB (mA M) h h4 := (P2.trans (mA_up p3 (fun k hk => by cases hk) (fun b hb => by simp at hb; omega))).trans (mA_up p4 (by decide) (fun b hb => by simp at hb; omega))
        have z4 : jm_I h4 M 0 = jz 0 := by rw [p4.2 M 0 (by simp <;> omega) (fun q => absurd q.2 (by decide)), p3.2 M 0 (by simp <;> omega) (by simp <;> omega)]; exact z2
        have R4 : RM h4 M (s.1, ciR s u r, EN (ciR s u r), [], -1, s.2.2.2.2.2) := by
          obtain ⟨a1, a2, a4, a6, a7, a8, a9, a10⟩ := N2
          refine ⟨hs4, (a2.jq p3 (by simp <;> omega) (by simp <;> omega) (by simp <;> omega)).jq p4 (by simp <;> omega) (by decide) (by simp <;> omega), (U2.jq p3 (by simp <;> omega) (by simp <;> omega) (by simp <;> omega)).jq p4 (by simp <;> omega) (by decide) (by simp <;> omega), ⟨_, (a4.jq p3 (by simp <;> omega) (by simp <;> omega)).jq p4 (by simp <;> omega) (by simp <;> omega), eTc⟩, F4, E4, j4, (a9.jq p3 (by simp <;> omega) (by simp <;> omega) (fun i h1 h2 => by simp; omega)).jq p4 (by simp <;> omega) (by decide) (fun i h1 h2 => by simp; omega), ?_⟩
          have := nmr_jq M3 p4 (by simp <;> omega) (by simp <;> omega)
          rw [← lc, pS_len] at this
          exact this
        rcases qz with ⟨rfl, qz⟩ | ⟨rfl, qz⟩
        · refine r57_286 ⟨⟨by omega, by omega⟩, fun w => absurd w (by omega), fun _ => ⟨⟨-2, rfl, fun _ => ?_⟩, z4, R4, P4⟩⟩
          show (-2 : Int) = if s.2.2.2.2.1 = (EN (ciR s u r)).length + 1 then -2 else (s.2.1.length : Int)
          rw [if_pos qz]
        · refine r57_286 ⟨⟨by omega, by omega⟩, fun _ => ⟨⟨_, rfl, fun _ => ?_⟩, z4, R4, P4⟩, fun w => absurd rfl w⟩
          show (s.2.1.length : Int) = if s.2.2.2.2.1 = (EN (ciR s u r)).length + 1 then -2 else (s.2.1.length : Int)
          rw [if_neg qz]
    · rw [C3 q1 q2 q3 (fun w => q4 w.2)]
      have zr : jR z := by rcases hz with ⟨rfl, -⟩ | ⟨rfl, -⟩ <;> exact ⟨by decide, by decide⟩
      have fin : ∀ h3 : jm_H, RN h3 M s (ts.set s.2.1.length s.1) → cU h3 M s.2.1 → jq M [0, 1] [M + 3] h' h3 → jm_I h3 M 0 = jz 3 → mo (3, 0, s) M (.inl (some (.inl (jz 0)))) h h3 := fun h3 b1 b2 b3 z3 => ⟨⟨0, rfl, fun _ => rfl⟩, z3, RN_RM b1 b2 eTs, up2 b3⟩
      refine r57_194 ⟨hs2.1, _, D2.1, ⟨by omega, by omega⟩, fun _ => ⟨_, c2, ⟨by omega, by omega⟩, fun w => ⟨fun x => absurd x (by omega), fun _ => ⟨fun _ => ⟨fun x => absurd x (by omega), fun _ => ?_⟩, fun x => absurd x (by omega)⟩⟩, fun w => ⟨_, f3', g3', _, n3', ?_, fun x => absurd x (by omega), fun _ => ⟨fun _ => ⟨fun x => absurd x (by omega), fun _ => ?_⟩, fun x => absurd x (by omega)⟩⟩⟩, fun w => absurd w (by omega)⟩
      · obtain ⟨b1, b2, b3⟩ := (B 3).1 (hv.resolve_right (fun x => w x.1))
        exact fin _ b1 b2 b3 jr_I_self
      · have v := (hv.resolve_left (fun x => by omega)).2.2.1
        exact ⟨v.1, by have := v.2; omega, by omega⟩
      · obtain ⟨b1, b2, b3⟩ := (B 3).2 (hv.resolve_left (fun x => by omega))
        exact fin _ b1 b2 b3 jr_I_self
  -- the text of the new revision is written
  have K130 : ∀ v3 : Int, ((v3 = 1 ∧ opg s r) ∨ (v3 = 0 ∧ ¬ opg s r ∧ okV s r ∧ lockOf s r = u)) → okU u → s.2.1.length < 20 → jm_W dh_pr (d + 3) 57 (130, [some (.inr (.inl M)), some (.inl (jz u)), some (.inl (jz r)), some (.inl (jz v3)), some (.inl (jz (s.2.1.length : Int))), some (.inl (jz 0))], [], jm_sI (jm_sI (jm_sI (jm_sI (jm_sI h M 0 (jz 0)) (M + 1) (s.2.1.length : Int).toNat (jz r)) (M + 2) (s.2.1.length : Int).toNat (jz u)) (M + 3) (s.2.1.length : Int).toNat (jz (-1))) (M + 4) (s.2.1.length : Int).toNat (jz (s.1.length : Int))) (fun o h' => mo (ciF s u r) M o h h') := by
    intro v3 hv q1 h20
    have en : (s.2.1.length : Int).toNat = s.2.1.length := by omega
    have q2 : opg s r ∨ okV s r := hv.elim (fun w => Or.inl w.2) (fun w => Or.inr w.2.2.1)
    rw [en]
    have lts : s.2.1.length < ts.length := by rw [N.2.2.1.1]; exact h20
    have ld := N.2.1.2.1
    have L : ∀ (m j : Nat) (h1 : jm_H) (v5 : Int), j + m = s.1.length → v5 = j → jq M [0] [M + 1, M + 2, M + 3, M + 4, M + 5] h h1 → jm_I h1 M 0 = jz 0 → row h1 (M + 1) (pS s.2.1 ++ [r]) → row h1 (M + 2) (s.2.1.map (fun r => r.2.1) ++ [u]) → row h1 (M + 3) (s.2.1.map (fun r => r.2.2.1) ++ [-1]) → row h1 (M + 4) ((ts.set s.2.1.length s.1).map (fun t => (t.length : Int))) → (∀ k, k ≠ s.2.1.length → ∀ i, i < 12 → jm_I h1 (M + 5) (12 * k + i) = jm_I h (M + 5) (12 * k + i)) → (∀ i, i < j → jm_I h1 (M + 5) (12 * s.2.1.length + i) = jz (s.1.getD i 0)) → jm_W dh_pr (d + 3) 57 (130, [some (.inr (.inl M)), some (.inl (jz u)), some (.inl (jz r)), some (.inl (jz v3)), some (.inl (jz (s.2.1.length : Int))), some (.inl (jz v5))], [], h1) (fun o h' => mo (ciF s u r) M o h h') := by
      intro m
      induction m with
      | zero =>
        intro j h1 v5 e e5 J z1 r1 r2 r3 r4 t1 t2
        have hs1 := hs.js J.1
        have d1 := N.2.1.jq J (by simp <;> omega) (by simp <;> omega) (by simp <;> omega)
        obtain ⟨f3', g3', n3'⟩ := hs1.f 4 3 20 (by decide)
        have T1 : cT h1 M (ts.set s.2.1.length s.1) := by
          refine ⟨by rw [List.length_set]; exact N.2.2.1.1, r4, fun k hk => ?_, fun t ht => ?_⟩
          · rw [List.length_set] at hk
            rw [gD_set lts]
            by_cases ek : k = s.2.1.length
            · rw [if_pos ek, ek]
              exact ⟨ld, fun i hi => t2 i (by omega)⟩
            · rw [if_neg ek]
              have w := N.2.2.1.2.2.1 k hk
              exact ⟨w.1, fun i hi => (t1 k ek i (by omega)).trans (w.2 i hi)⟩
          · rcases List.mem_or_eq_of_mem_set ht with ht | rfl
            · exact N.2.2.1.2.2.2 t ht
            · exact ok.1.2
        have N1 : RN h1 M s (ts.set s.2.1.length s.1) := by
          obtain ⟨a1, a2, a4, a6, a7, a8, a9, a10⟩ := N
          exact ⟨hs1, d1, T1, a6.jq J (by simp <;> omega) (by simp <;> omega) (by simp <;> omega), a7.jq J (by simp <;> omega) (by simp <;> omega) (by simp <;> omega), (J.2 M 15 (by simp <;> omega) (by simp <;> omega)).trans a8, a9.jq J (by simp <;> omega) (by simp <;> omega) (fun i h1 h2 => by simp; omega), nmr_jq a10 J (by simp <;> omega) (by simp <;> omega)⟩
        have c1 : jm_I h1 M 1 = jz (s.2.1.length : Int) := by rw [J.2 M 1 (by simp <;> omega) (by simp <;> omega)]; exact cc
        refine r57_130 ⟨hs1.1, _, d1.1, ⟨by omega, by omega⟩, ⟨by omega, by omega⟩, fun _ => ⟨?_, fun w => ⟨_, c1, ?_⟩, fun w => ⟨_, f3', g3', _, n3', ?_, _, c1, ?_⟩⟩, fun w => absurd w (by omega)⟩
        · rcases hv with ⟨rfl, -⟩ | ⟨rfl, -⟩ <;> exact ⟨by decide, by decide⟩
        · have hv' := hv.resolve_right (fun x => w x.1)
          have e1 : ciR s u r = s.2.1 ++ [(r, u, -1, s.1)] := by unfold ciR; rw [if_pos hv'.2]
          have p1 : jq M [1] [] h1 (jm_sI h1 M 1 (jz ((s.2.1.length : Int) + 1))) := (jq.refl _ _ _ h1).sM (by simp <;> omega)
          refine K48 v3 v5 _ hv q1 h20 ((J.mono (by simp <;> omega) (by simp <;> omega)).trans (p1.mono (by simp <;> omega) (by simp <;> omega))) ?_ (RN_jq N1 p1 (by decide) (fun b hb => by cases hb)) (by rw [jr_I_fld (by decide)]; exact z1)
          rw [e1]
          refine ⟨⟨?_, ?_⟩, ?_, ?_⟩
          · rw [jr_I_self, pS_len, List.length_append, List.length_singleton]; rfl
          · rw [pS_snoc]; exact r1.off (by omega)
          · rw [List.map_append]; exact r2.off (by omega)
          · rw [List.map_append]; exact r3.off (by omega)
        · have v := (hv.resolve_left (fun x => by omega)).2.2.1
          exact ⟨v.1, by have := v.2; omega, by omega⟩
        · have hv' := hv.resolve_left (fun x => by omega)
          have kk : r.toNat < s.2.1.length := by have := hv'.2.2.1.1; have := hv'.2.2.1.2; omega
          have e1 : ciR s u r = stL (s.2.1 ++ [(r, u, -1, s.1)]) r.toNat (-1) := by rw [stL_snoc kk]; unfold ciR; rw [if_neg hv'.2.1]
          have kk2 : r.toNat < (s.2.1 ++ [(r, u, -1, s.1)]).length := by rw [List.length_append]; omega
          have p1 : jq M [1] [M + 3] h1 (jm_sI (jm_sI h1 (M + 3) r.toNat (jz (-1))) M 1 (jz ((s.2.1.length : Int) + 1))) := ((jq.refl _ _ _ h1).sI (by simp <;> omega)).sM (by simp <;> omega)
          refine K48 v3 v5 _ hv q1 h20 ((J.mono (by simp <;> omega) (by simp <;> omega)).trans (p1.mono (by simp <;> omega) (by simp <;> omega))) ?_ (RN_jq N1 p1 (by decide) (fun b hb => by simp at hb; simp [hb])) (by rw [jr_I_fld (by decide), off1 (by omega)]; exact z1)
          rw [e1]
          refine ⟨⟨?_, ?_⟩, ?_, ?_⟩
          · rw [jr_I_self, pS_len, stL_len, List.length_append, List.length_singleton]; rfl
          · rw [pS_stL kk2, pS_snoc]; exact (r1.off (by omega)).off (by omega)
          · rw [uS_stL kk2, List.map_append]; exact (r2.off (by omega)).off (by omega)
          · rw [lS_stL, List.map_append]
            exact (r3.set (by rw [List.length_append, List.length_map]; omega)).off (by omega)
      | succ m ih =>
        intro j h1 v5 e e5 J z1 r1 r2 r3 r4 t1 t2
        have hs1 := hs.js J.1
        have d1 := N.2.1.jq J (by simp <;> omega) (by simp <;> omega) (by simp <;> omega)
        obtain ⟨f5, g5, n5⟩ := hs1.f 6 5 240 (by decide)
        obtain ⟨f8, g8, n8⟩ := hs1.f 9 8 12 (by decide)
        refine r57_130 ⟨hs1.1, _, d1.1, ⟨by omega, by omega⟩, ⟨by omega, by omega⟩, fun w => absurd w (by omega), fun _ => ⟨_, f5, _, f8, g8, _, n8, ⟨by omega, by omega, by omega⟩, s.1.getD j 0, by rw [show v5.toNat = j by omega]; exact d1.2.2 j (by omega), g5, _, n5, ⟨by omega, by omega, by omega⟩, ih (j + 1) _ _ (by omega) (by omega) (J.sI (by simp <;> omega)) (by rw [off1 (by omega)]; exact z1) (r1.off (by omega)) (r2.off (by omega)) (r3.off (by omega)) (r4.off (by omega)) (fun k hk i hi => ?_) (fun i hi => ?_)⟩⟩
        · rw [jr_I_sI, if_neg (by omega)]; exact t1 k hk i hi
        · rw [jr_I_sI]
          by_cases ei : i = j
          · rw [if_pos ⟨rfl, by omega⟩, ei]
          · rw [if_neg (by omega)]; exact t2 i (by omega)
    have J0 : jq M [0] [M + 1, M + 2, M + 3, M + 4, M + 5] h (jm_sI (jm_sI (jm_sI (jm_sI (jm_sI h M 0 (jz 0)) (M + 1) s.2.1.length (jz r)) (M + 2) s.2.1.length (jz u)) (M + 3) s.2.1.length (jz (-1))) (M + 4) s.2.1.length (jz (s.1.length : Int))) := (((((jq.refl _ _ _ h).sM (by simp <;> omega)).sI (by simp <;> omega)).sI (by simp <;> omega)).sI (by simp <;> omega)).sI (by simp <;> omega)
    refine L s.1.length 0 _ 0 (by omega) (by omega) J0 ?_ ?_ ?_ ?_ ?_ (fun k hk i hi => by rw [off1 (by omega), off1 (by omega), off1 (by omega), off1 (by omega), off1 (by omega)]) (fun i hi => absurd hi (Nat.not_lt_zero i))
    · rw [off1 (by omega), off1 (by omega), off1 (by omega), off1 (by omega)]; exact jr_I_self
    · exact ((((U.1.2.off (by omega)).push' (v := r) (by omega) rfl).off (by omega)).off (by omega)).off (by omega)
    · exact ((((U.2.1.off (by omega)).off (by omega)).push' (v := u) (by rw [List.length_map]) rfl).off (by omega)).off (by omega)
    · exact ((((U.2.2.off (by omega)).off (by omega)).off (by omega)).push' (v := -1) (by rw [List.length_map]) rfl).off (by omega)
    · rw [List.map_set]
      exact ((((N.2.2.1.2.1.off (by omega)).off (by omega)).off (by omega)).off (by omega)).set (by rw [List.length_map]; exact lts)
  have K52 : ∀ v3 : Int, ((v3 = 1 ∧ opg s r) ∨ (v3 = 0 ∧ ¬ opg s r)) → jm_E dh_pr (d + 3) 52 [.inl (jz u)] h (jm_k dh_pr (d + 3) 57 (fun o h' => mo (ciF s u r) M o h h') 23 [some (.inr (.inl M)), some (.inl (jz u)), some (.inl (jz r)), some (.inl (jz v3)), none, none] [.inr (.inl M)] 20) := by
    intro v3 hv
    refine jm_callI (s52 hu) ?_
    rintro z h' ⟨rfl, ⟨rfl, q1⟩ | ⟨rfl, q1⟩⟩
    · refine r57_23 ⟨⟨by omega, by omega⟩, fun w => absurd rfl w, fun _ => ⟨?_, fun w => ⟨fun _ => ⟨hs.1, _, cc, ⟨by omega, by omega⟩, fun w2 => ⟨hs.1, 0, jr_I_self, ⟨by omega, by omega⟩, fun _ => ⟨_, by rw [jr_I_fld (by decide)]; exact cc, _, f1, g1, _, n1, ?_, _, f2, g2, _, n2, ?_, _, f3, g3, _, n3, ?_, _, f4, _, by rw [jr_I_fld (by decide)]; exact N.2.1.1, g4, _, n4, ?_, ?_⟩, fun x => absurd x (by omega)⟩, fun w2 => ?_⟩, fun x => absurd x w⟩, fun w => ⟨hs.1, jm_callI (s53 hs cc l20 hk) ?_⟩⟩⟩
      · rcases hv with ⟨rfl, -⟩ | ⟨rfl, -⟩ <;> exact ⟨by decide, by decide⟩
      · exact ⟨by omega, by omega, by omega⟩
      · exact ⟨by omega, by omega, by omega⟩
      · exact ⟨by omega, by omega, by omega⟩
      · exact ⟨by omega, by omega, by omega⟩
      · exact K130 v3 (Or.inl (hv.resolve_right (fun x => w x.1))) q1 (by omega)
      · have := (hv.resolve_right (fun x => w x.1)).2.2
        omega
      · have no := (hv.resolve_left (fun x => by omega)).2
        have ev3 := (hv.resolve_left (fun x => by omega)).1
        rintro z h' ⟨rfl, ⟨rfl, q2⟩ | ⟨rfl, q2⟩⟩
        · have kk : r.toNat < s.2.1.length := by omega
          have lk := (okh.2.2 r.toNat kk).2.1
          refine r57_35 ⟨⟨by omega, by omega⟩, fun _ => ⟨⟨by omega, by omega⟩, fun w3 => absurd w w3, fun _ => ⟨hs.1, _, f3, g3, _, n3, ⟨by omega, by omega, by omega⟩, (s.2.1.getD r.toNat rv0).2.2.1, lk_at U kk, ⟨by omega, by omega⟩, hu, fun q3 => ⟨_, cc, ⟨by omega, by omega⟩, fun w4 => ⟨hs.1, 0, jr_I_self, ⟨by omega, by omega⟩, fun _ => ⟨_, by rw [jr_I_fld (by decide)]; exact cc, _, f1, g1, _, n1, ⟨by omega, by omega, by omega⟩, _, f2, g2, _, n2, ⟨by omega, by omega, by omega⟩, ⟨by omega, by omega, by omega⟩, _, f4, _, by rw [jr_I_fld (by decide)]; exact N.2.1.1, g4, _, n4, ⟨by omega, by omega, by omega⟩, K130 v3 (Or.inr ⟨ev3, no, q2, q3⟩) q1 (by omega)⟩, fun x => absurd x (by omega)⟩, fun w4 => ⟨hs.1, 3, jr_I_self, ⟨by omega, by omega⟩, fun x => absurd x (by omega), fun _ => ?_⟩⟩, fun q3 => ⟨hs.1, 2, jr_I_self, ⟨by omega, by omega⟩, fun x => absurd x (by omega), fun _ => ?_⟩⟩⟩, fun w3 => absurd rfl w3⟩
          · rw [C3 q1 (Or.inr q2) (Or.inr q3) (by omega)]
            exact mo_c R (by decide)
          · have ec : ciF s u r = (2, 0, s) := by
              unfold ciF; rw [if_pos ⟨q1, Or.inr q2⟩, if_neg (fun x => x.elim no q3)]
            rw [ec]
            exact mo_c R (by decide)
        · refine r57_35 ⟨⟨by omega, by omega⟩, fun x => absurd x (by omega), fun _ => ⟨hs.1, hs.1, 1, jr_I_self, ⟨by omega, by omega⟩, fun x => absurd x (by omega), fun _ => ?_⟩⟩
          rw [F1 (fun x => x.2.elim no q2)]
          exact mo_c R (by decide)
    · refine r57_23 ⟨⟨by omega, by omega⟩, fun _ => ⟨hs.1, hs.1, 1, jr_I_self, ⟨by omega, by omega⟩, fun x => absurd x (by omega), fun _ => ?_⟩, fun x => absurd x (by omega)⟩
      rw [F1 (fun x => q1 x.1)]
      exact mo_c R (by decide)
  refine e57 (r57_0 ⟨hs.1, _, cc, ⟨by omega, by omega⟩, fun q => K52 0 (Or.inr ⟨rfl, fun w => q (by have := w.2; omega)⟩), fun q => ⟨hk, fun q' => K52 0 (Or.inr ⟨rfl, fun w => q' w.1⟩), fun q' => K52 1 (Or.inl ⟨rfl, q', by omega⟩)⟩⟩)
