/-! The reference: comparing. -/
theorem s41n {d M : Nat} {h : jm_H} (hs : shM h M) : jm_E dh_pr (d + 1) 41 [.inr (.inl M), .inl (jz (-1))] h (fun o h' => o = .inl none ∧ jq M [16] [M + 11] h h' ∧ cA h' M []) := by
  have hs1 := hs.js (js.sI h M 16 (jz 0))
  exact e41 (r41_0 ⟨⟨by omega, by omega⟩, fun q => absurd q (by omega), fun _ => ⟨hs.1, r41_20 ⟨hs1.1, 0, jr_I_self, ⟨by omega, by omega⟩, ⟨by omega, by omega⟩, fun _ => ⟨rfl, (jq.refl _ _ _ h).sM (by simp <;> omega), jr_I_self, Nat.zero_le _, row.nil _ _⟩, fun q => absurd q (by omega)⟩⟩⟩)
def cmK : List Nat := [0, 16, 18, 21, 26]
def cmS (M : Nat) : List Nat := [M + 11, M + 12, M + 13, M + 14, M + 15, M + 16, M + 17, M + 18, M + 19, M + 20, M + 21, M + 22]
theorem RM_cs {h h' : jm_H} {M : Nat} {s : St} {A B : List Int} (r : RM h M s) (p : jq M cmK (cmS M) h h') (c : cS h' M A B) : RM h' M (s.1, s.2.1, s.2.2.1, s.2.2.2.1, s.2.2.2.2.1, A, B) := by
  obtain ⟨r1, r2, r3, ⟨ts, r4, r5⟩, r6, r7, r8, r9, r10⟩ := r
  exact ⟨r1.js p.1, r2.jq p (by simp [cmS]) (by decide) (by simp [cmS]), r3.jq p (by simp [cmS]) (by decide) (by simp [cmS]), ⟨ts, r4.jq p (by simp [cmS]) (by simp [cmS]), r5⟩, r6.jq p (by simp [cmS]) (by decide) (by simp [cmS]), r7.jq p (by simp [cmS]) (by decide) (by simp [cmS]), (p.2 M 15 (by simp [cmS]) (fun q => absurd q.2 (by decide))).trans r8, c, nmr_jq r10 p (by simp [cmS]) (by simp [cmS])⟩
theorem m75 {d M : Nat} {h : jm_H} {s : St} {r : Int} (R : RM h M s) (ok : oks s) (hk : jR r) : jm_E dh_pr (d + 3) 75 [.inr (.inl M), .inl (jz r)] h (fun o h' => mo (cmF s r) M o h h') := by
  have l20 := ok.2.1.1
  have hs := R.1
  have D0 := R.2.1
  have ld := D0.2.1
  have rB : rng s.1 := lnv_rng ok.1.2
  have EC : ∀ A, (r = -1 ∨ okV s r) → A = cmA s r → cmF s r = (0, ((delta A s.1).1.length : Int), (s.1, s.2.1, s.2.2.1, s.2.2.2.1, s.2.2.2.2.1, A, s.1)) := fun A q eA => by
    unfold cmF; rw [if_pos q, eA]
  have K36 : ∀ (A : List Int) (h2 : jm_H), rng A → jq M cmK (cmS M) h h2 → jm_I h2 M 0 = jz 0 → cA h2 M A → jm_W dh_pr (d + 2) 75 (36, [some (.inr (.inl M)), some (.inl (jz r)), none], [], h2) (fun o h' => mo (0, ((delta A s.1).1.length : Int), (s.1, s.2.1, s.2.2.1, s.2.2.2.1, s.2.2.2.2.1, A, s.1)) M o h h') := by
    intro A h2 rA J z0 hA
    have L98 : ∀ (acc : List S5), acc = (delta A s.1).1 → acc.length ≤ 24 → ∀ (m j : Nat) (h5 : jm_H) (v2 : Int), j + m = acc.length → v2 = j → jq M cmK (cmS M) h h5 → jm_I h5 M 0 = jz 0 → dM h5 M acc → jm_I h5 M 26 = jz (acc.length : Int) → row h5 (M + 18) ((acc.map (fun s => s.1)).take j) → row h5 (M + 19) ((acc.map (fun s => s.2.1)).take j) → row h5 (M + 20) ((acc.map (fun s => s.2.2.1)).take j) → row h5 (M + 21) ((acc.map (fun s => s.2.2.2.2)).take j) → row h5 (M + 22) s.1 → jm_W dh_pr (d + 2) 75 (98, [some (.inr (.inl M)), some (.inl (jz r)), some (.inl (jz v2))], [], h5) (fun o h' => mo (0, ((delta A s.1).1.length : Int), (s.1, s.2.1, s.2.2.1, s.2.2.2.1, s.2.2.2.2.1, A, s.1)) M o h h') := by
      intro acc eacc l24 m
      induction m with
      | zero =>
        intro j h5 v2 e e2 J5 z5 D5 i26 w1 w2 w3 w4 w5
        have hs5 := hs.js J5.1
        rw [List.take_of_length_le (by rw [List.length_map]; omega)] at w1 w2 w3 w4
        refine r75_98 ⟨hs5.1, _, D5.1, ⟨by omega, by omega⟩, ⟨by omega, by omega⟩, fun _ => ⟨⟨_, rfl, fun _ => ?_⟩, z5, RM_cs R J5 ?_, mA_up J5 (by decide) (fun b hb => by simp [cmS] at hb; omega)⟩, fun x => absurd x (by omega)⟩
        · rw [eacc]
        · rw [eacc] at i26 w1 w2 w3 w4
          exact ⟨i26, w1, w2, w3, w4, w5⟩
      | succ m ih =>
        intro j h5 v2 e e2 J5 z5 D5 i26 w1 w2 w3 w4 w5
        have hs5 := hs.js J5.1
        obtain ⟨f14, g14, n14⟩ := hs5.f 22 14 24 (by decide)
        obtain ⟨f15, g15, n15⟩ := hs5.f 23 15 24 (by decide)
        obtain ⟨f16, g16, n16⟩ := hs5.f 24 16 24 (by decide)
        obtain ⟨f17, g17, n17⟩ := hs5.f 25 17 24 (by decide)
        obtain ⟨f18, g18, n18⟩ := hs5.f 27 18 24 (by decide)
        obtain ⟨f19, g19, n19⟩ := hs5.f 28 19 24 (by decide)
        obtain ⟨f20, g20, n20⟩ := hs5.f 29 20 24 (by decide)
        obtain ⟨f21, g21, n21⟩ := hs5.f 30 21 24 (by decide)
        have ev : v2.toNat = j := by omega
        have ki : jzi v2 24 := ⟨by omega, by omega, by omega⟩
        have ll : ∀ (f : S5 → Int), j < (acc.map f).length := fun f => by rw [List.length_map]; omega
        have lt : ∀ (f : S5 → Int), v2.toNat = ((acc.map f).take j).length := fun f => by rw [List.length_take, List.length_map]; omega
        obtain ⟨D1, D2, D3, D4, D5'⟩ := D5
        refine r75_98 ⟨hs5.1, _, D1, ⟨by omega, by omega⟩, ⟨by omega, by omega⟩, fun x => absurd x (by omega), fun _ => ⟨_, f18, _, f14, g14, _, n14, ki, (acc.map (fun s => s.1)).getD j 0, by rw [ev]; exact D2 j (ll _), g18, _, n18, ki, _, f19, _, f15, g15, _, n15, ki, (acc.map (fun s => s.2.1)).getD j 0, by rw [off1 (by omega), ev]; exact D3 j (ll _), g19, _, n19, ki, _, f20, _, f16, g16, _, n16, ki, (acc.map (fun s => s.2.2.1)).getD j 0, by rw [off1 (by omega), off1 (by omega), ev]; exact D4 j (ll _), g20, _, n20, ki, _, f21, _, f17, g17, _, n17, ki, (acc.map (fun s => s.2.2.2.2)).getD j 0, by rw [off1 (by omega), off1 (by omega), off1 (by omega), ev]; exact D5' j (ll _), g21, _, n21, ki, ?_⟩⟩
        have p : jq M [] [M + 18, M + 19, M + 20, M + 21] h5 (jm_sI (jm_sI (jm_sI (jm_sI h5 (M + 18) v2.toNat (jz ((acc.map (fun s => s.1)).getD j 0))) (M + 19) v2.toNat (jz ((acc.map (fun s => s.2.1)).getD j 0))) (M + 20) v2.toNat (jz ((acc.map (fun s => s.2.2.1)).getD j 0))) (M + 21) v2.toNat (jz ((acc.map (fun s => s.2.2.2.2)).getD j 0))) := ((((jq.refl _ _ _ h5).sI (by simp <;> omega)).sI (by simp <;> omega)).sI (by simp <;> omega)).sI (by simp <;> omega)
        refine ih (j + 1) _ _ (by omega) (by omega) (J5.trans (p.mono (by simp <;> omega) (fun b hb => by simp at hb; simp [cmS]; omega))) ((p.2 M 0 (by simp <;> omega) (by simp <;> omega)).trans z5) (dM.jq ⟨D1, D2, D3, D4, D5'⟩ p (by simp <;> omega) (by simp <;> omega) (fun i hi => by simp; omega)) ((p.2 M 26 (by simp <;> omega) (by simp <;> omega)).trans i26) ?_ ?_ ?_ ?_ (w5.jq p (by simp <;> omega) (by omega))
        · exact (((w1.push' (lt _) (take_snoc (ll _))).off (by omega)).off (by omega)).off (by omega)
        · exact (((w2.off (by omega)).push' (lt _) (take_snoc (ll _))).off (by omega)).off (by omega)
        · exact (((w3.off (by omega)).off (by omega)).push' (lt _) (take_snoc (ll _))).off (by omega)
        · exact ((((w4.off (by omega)).off (by omega)).off (by omega)).push' (lt _) (take_snoc (ll _)))
    have L46 : ∀ (m j : Nat) (h3 : jm_H) (v2 : Int), j + m = s.1.length → v2 = j → jq M cmK (cmS M) h h3 → jm_I h3 M 0 = jz 0 → cA h3 M A → jm_I h3 M 18 = jz (s.1.length : Int) → row h3 (M + 12) (s.1.take j) → row h3 (M + 22) (s.1.take j) → jm_W dh_pr (d + 2) 75 (46, [some (.inr (.inl M)), some (.inl (jz r)), some (.inl (jz v2))], [], h3) (fun o h' => mo (0, ((delta A s.1).1.length : Int), (s.1, s.2.1, s.2.2.1, s.2.2.2.1, s.2.2.2.2.1, A, s.1)) M o h h') := by
      intro m
      induction m with
      | zero =>
        intro j h3 v2 e e2 J3 z3 A3 i18 w1 w2
        have hs3 := hs.js J3.1
        have D3 := D0.jq J3 (by simp [cmS]) (by decide) (by simp [cmS])
        rw [List.take_of_length_le (by omega)] at w1 w2
        refine r75_46 ⟨hs3.1, _, D3.1, ⟨by omega, by omega⟩, ⟨by omega, by omega⟩, fun _ => jm_callV (s45 hs3 A3 ⟨i18, ld, w1⟩ rA rB) ?_, fun x => absurd x (by omega)⟩
        rintro h4 ⟨p4, D4, d24, -⟩
        have hs4 := hs3.js p4.1
        have J4 : jq M cmK (cmS M) h h4 := J3.trans (p4.mono (by decide) (fun b hb => by simp [m4] at hb; simp [cmS]; omega))
        have p5 : jq M [26] [] h4 (jm_sI h4 M 26 (jz ((delta A s.1).1.length : Int))) := (jq.refl _ _ _ h4).sM (by simp <;> omega)
        refine r75_88 ⟨hs4.1, _, D4.1, L98 _ rfl d24 (delta A s.1).1.length 0 _ 0 (by omega) (by omega) (J4.trans (p5.mono (by decide) (by simp <;> omega))) ?_ (D4.jq p5 (by simp <;> omega) (by decide) (fun i hi => by simp)) jr_I_self (row.nil _ _) (row.nil _ _) (row.nil _ _) (row.nil _ _) ?_⟩
        · rw [jr_I_fld (by decide), p4.2 M 0 (by simp [m4]) (fun q => absurd q.2 (by decide))]; exact z3
        · exact (w2.jq p4 (by simp [m4]) (by omega)).jq p5 (by simp <;> omega) (by omega)
      | succ m ih =>
        intro j h3 v2 e e2 J3 z3 A3 i18 w1 w2
        have hs3 := hs.js J3.1
        have D3 := D0.jq J3 (by simp [cmS]) (by decide) (by simp [cmS])
        obtain ⟨f8, g8, n8⟩ := hs3.f 9 8 12 (by decide)
        obtain ⟨f12, g12, n12⟩ := hs3.f 19 12 12 (by decide)
        obtain ⟨f22, g22, n22⟩ := hs3.f 31 22 12 (by decide)
        have ev : v2.toNat = j := by omega
        have ki : jzi v2 12 := ⟨by omega, by omega, by omega⟩
        have lt : v2.toNat = (s.1.take j).length := by rw [List.length_take]; omega
        refine r75_46 ⟨hs3.1, _, D3.1, ⟨by omega, by omega⟩, ⟨by omega, by omega⟩, fun x => absurd x (by omega), fun _ => ⟨_, f12, _, f8, g8, _, n8, ki, s.1.getD j 0, by rw [ev]; exact D3.2.2 j (by omega), g12, _, n12, ki, _, f22, s.1.getD j 0, by rw [off1 (by omega), ev]; exact D3.2.2 j (by omega), g22, _, n22, ki, ?_⟩⟩
        have p : jq M [] [M + 12, M + 22] h3 (jm_sI (jm_sI h3 (M + 12) v2.toNat (jz (s.1.getD j 0))) (M + 22) v2.toNat (jz (s.1.getD j 0))) := ((jq.refl _ _ _ h3).sI (by simp <;> omega)).sI (by simp <;> omega)
        refine ih (j + 1) _ _ (by omega) (by omega) (J3.trans (p.mono (by simp <;> omega) (fun b hb => by simp at hb; simp [cmS]; omega))) ((p.2 M 0 (by simp <;> omega) (by simp <;> omega)).trans z3) (A3.jq p (by simp <;> omega) (by simp <;> omega) (by simp <;> omega)) ((p.2 M 18 (by simp <;> omega) (by simp <;> omega)).trans i18) ?_ ?_
        · exact (w1.push' lt (take_snoc (by omega))).off (by omega)
        · exact (w2.off (by omega)).push' lt (take_snoc (by omega))
    have hs2 := hs.js J.1
    have D2 := D0.jq J (by simp [cmS]) (by decide) (by simp [cmS])
    have p3 : jq M [18] [] h2 (jm_sI h2 M 18 (jz (s.1.length : Int))) := (jq.refl _ _ _ h2).sM (by simp <;> omega)
    exact r75_36 ⟨hs2.1, _, D2.1, L46 s.1.length 0 _ 0 (by omega) (by omega) (J.trans (p3.mono (by decide) (by simp <;> omega))) (by rw [jr_I_fld (by decide)]; exact z0) (hA.jq p3 (by simp <;> omega) (by decide) (by simp <;> omega)) jr_I_self (row.nil _ _) (row.nil _ _)⟩
  have p1 : jq M [0] [] h (jm_sI h M 0 (jz 0)) := (jq.refl _ _ _ h).sM (by simp <;> omega)
  obtain ⟨C1, C2, C3⟩ := RM_code R 0
  refine e75 (r75_0 ⟨hk, fun q => ⟨hs.1, fun _ => ?_, fun x => absurd x (by omega)⟩, fun q => ⟨hs.1, jm_callI (s53 hs (RM_cnt R) l20 hk) ?_⟩⟩)
  · rw [EC [] (Or.inl q) (by unfold cmA; rw [if_pos q])]
    have W := s41n (d := d + 1) C1.1
    rw [← q] at W
    refine jm_callV W ?_
    rintro h2 ⟨p2, A2⟩
    exact K36 [] h2 (fun v hv => by cases hv) ((p1.mono (by decide) (by simp <;> omega)).trans (p2.mono (by decide) (by simp [cmS]))) (by rw [p2.2 M 0 (by simp <;> omega) (fun q => absurd q.2 (by decide))]; exact jr_I_self) A2
  · rintro z h' ⟨rfl, ⟨rfl, q2⟩ | ⟨rfl, q2⟩⟩
    · have kk : r.toNat < s.2.1.length := by omega
      rw [EC (s.2.1.getD r.toNat rv0).2.2.2 (Or.inr q2) (by unfold cmA; rw [if_neg q])]
      have V1 := RM_cV C1
      have W := s41 (d := d + 1) (r := r.toNat) C1.1 V1.2.2.2.1 V1.2.2.2.2 (by rw [tS_len]; exact l20) (by rw [tS_len]; exact kk)
      rw [show ((r.toNat : Nat) : Int) = r by omega, tS_at kk] at W
      refine r75_11 ⟨⟨by omega, by omega⟩, fun _ => ⟨hs.1, hs.1, 0, jr_I_self, ⟨by omega, by omega⟩, fun _ => jm_callV W ?_, fun x => absurd x (by omega)⟩, fun x => absurd rfl x⟩
      rintro h2 ⟨p2, A2⟩
      exact K36 _ h2 (lnv_rng (ok.2.1.2.2 _ kk).2.2.2) ((p1.mono (by decide) (by simp <;> omega)).trans (p2.mono (by decide) (by simp [cmS]))) (by rw [p2.2 M 0 (by simp <;> omega) (fun q => absurd q.2 (by decide))]; exact jr_I_self) A2
    · have ec : cmF s r = (1, 0, s) := by unfold cmF; rw [if_neg (fun w => w.elim q q2)]
      rw [ec]
      exact r75_11 ⟨⟨by omega, by omega⟩, fun x => absurd x (by omega), fun _ => ⟨hs.1, hs.1, 1, jr_I_self, ⟨by omega, by omega⟩, fun x => absurd x (by omega), fun _ => mo_c R (by decide)⟩⟩
