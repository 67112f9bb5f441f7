/-! The class: load. -/
def RR (h h' : jm_H) (F H rd : Nat) (rs0 : List Rv) (E : Prop) (o : jm_R) : Prop := ∃ z : Int, o = .inl (some (.inl (jz z))) ∧ jq F [2] ((rd + 1) :: rg H 62) h h' ∧ (z = 0 ∨ z = 1) ∧ (z = 1 → ∃ rs, cH h' H rs (sf (pS rs)) ∧ okH rs ∧ (E → rs = rs0)) ∧ (E → z = 1)
theorem s102 {d F H rd : Nat} {h : jm_H} {fl : List Int} {rs0 : List Rv} {E : Prop} (f : shB h F ∧ cb h F fl) (l4 : fl.length ≤ 400) (b8 : by8 fl) (hrd : jm_T h rd = 6 ∧ jm_F h rd 0 = rd + 1 ∧ sha h (rd + 1) 20) (hH : shH h H) (nF : ∀ i, i < 62 → H + i ≠ F ∧ H + i ≠ F + 1) (nR : ∀ i, i < 62 → H + i ≠ rd + 1) (nD : F ≠ rd + 1 ∧ F + 1 ≠ rd + 1) (hE : E → okH rs0 ∧ EN rs0 = fl) : jm_E dh_pr (d + 7) 102 [.inr (.inl rd), .inr (.inl F), .inr (.inl H)] h (fun o h' => RR h h' F H rd rs0 E o) := by
  have nFm : F ∉ rg H 62 ∧ F + 1 ∉ rg H 62 ∧ rd + 1 ∉ rg H 62 := by
    refine ⟨fun x => ?_, fun x => ?_, fun x => ?_⟩
    · rw [mem_rg] at x
      have := (nF (F - H) (by omega)).1
      omega
    · rw [mem_rg] at x
      have := (nF (F + 1 - H) (by omega)).2
      omega
    · rw [mem_rg] at x
      have := nR (rd + 1 - H) (by omega)
      omega
  have nF0 := nF 0 (by omega)
  have nR0 := nR 0 (by omega)
  have p1 : jq F [2] [] h (jm_sI h F 2 (jz 0)) := (jq.refl _ _ _ h).sM (by simp <;> omega)
  have f1 : FB (jm_sI h F 2 (jz 0)) F fl 0 := ⟨f.1.js p1.1, cb_q f.2 p1 (by simp <;> omega) (by simp <;> omega), jr_I_self⟩
  have hH1 := hH.js p1.1
  have RK : ∀ {h1 : jm_H}, js h h1 → jm_T h1 rd = 6 ∧ jm_F h1 rd 0 = rd + 1 ∧ sha h1 (rd + 1) 20 := fun p => ⟨(p.2.2.1 rd).trans hrd.1, (p.2.2.2.2.1 rd 0).trans hrd.2.1, hrd.2.2.js p⟩
  refine e102 (r102_0 ⟨f.1.1, hH.1, jm_callV (s95 hH1) ?_⟩)
  rintro h2 ⟨hf2, hc2⟩
  have P2 : jq F [2] ((rd + 1) :: rg H 62) h h2 := (p1.mono (by simp <;> omega) (by simp <;> omega)).trans ((jf_q (ks := [2]) hf2).mono (fun k hk => hk) (fun b hb => by
    have : b = H := by simpa using hb
    rw [this]
    exact List.mem_cons_of_mem _ (mem_rg.mpr (by omega))))
  have f2 := FB_q f1 hf2 (by simp; exact fun x => nF0.1 x.symm) (by simp; exact fun x => nF0.2 x.symm)
  have hH2 := hH1.js hf2.1
  refine r102_9 ⟨(RK P2.1).1, jm_E_mono _ _ _ _ _ _ ?_ (s103 (rd := rd) (rs0 := rs0) (t := (List.range rs0.length).flatMap (body rs0 (sf (pS rs0)))) (E := E) f2 l4 b8 (by omega) hH2 hc2 nFm.1 nFm.2.1 (fun e => ⟨(hE e).1, by rw [← (hE e).2]; rfl, Nat.zero_le _⟩))⟩
  rintro o h3 ⟨z, rfl, p3, hz, hz1, hzE⟩
  have P3 : jq F [2] ((rd + 1) :: rg H 62) h h3 := P2.trans (p3.mono (by simp <;> omega) (fun b hb => List.mem_cons_of_mem _ hb))
  rcases hz with rfl | rfl
  · exact r102_15 ⟨⟨by omega, by omega⟩, fun _ => ⟨0, rfl, P3, Or.inl rfl, fun x => absurd x (by omega), hzE⟩, fun x => absurd rfl x⟩
  · obtain ⟨rs1, q3, f3, hq3, hc3, ok3, ht3, hE3⟩ := hz1 rfl
    have hH3 := hH.js P3.1
    refine r102_15 ⟨⟨by omega, by omega⟩, fun x => absurd x (by omega), fun _ => ⟨(RK P3.1).1, jm_E_mono _ _ _ _ _ _ ?_ (s104 (rs0 := rs0) (E := E) f3 l4 b8 (by omega) (RK P3.1) hH3 hc3 ok3 (fun i hi => (nF i hi).1) nR nD (fun e => ⟨(hE e).1, (hE3 e).1, (hE3 e).2⟩))⟩⟩
    rintro o h4 ⟨z, rfl, p4, hz, hz1, hzE⟩
    have P4 : jq F [2] ((rd + 1) :: rg H 62) h h4 := P3.trans (p4.mono (by simp <;> omega) (fun b hb => by
      have : b = rd + 1 := by simpa using hb
      rw [this]; exact List.mem_cons_self))
    rcases hz with rfl | rfl
    · exact r102_24 ⟨⟨by omega, by omega⟩, fun _ => ⟨0, rfl, P4, Or.inl rfl, fun x => absurd x (by omega), hzE⟩, fun x => absurd rfl x⟩
    · obtain ⟨⟨q4, f4⟩, bst, hb⟩ := hz1 rfl
      have hH4 := hH.js P4.1
      have hc4 : cH h4 H rs1 (sf (pS rs1)) := hc3.jf (jq_f p4) (fun i hi => by simp; exact ⟨(nF i hi).1, nR i hi⟩)
      refine r102_24 ⟨⟨by omega, by omega⟩, fun x => absurd x (by omega), fun _ => ⟨(RK P4.1).1, jm_E_mono _ _ _ _ _ _ ?_ (s107 (rs0 := rs0) (bst := bst) (E := E) ⟨f4.1, f4.2.1⟩ l4 b8 (RK P4.1) hb hH4 hc4 ok3 ht3 nF nR (fun x => nD.1 x.symm) (fun e => ⟨(hE e).1, (hE3 e).1⟩))⟩⟩
      rintro o h5 ⟨z, rfl, p5, hz, hz1, hzE⟩
      have P5 : jq F [2] ((rd + 1) :: rg H 62) h h5 := P4.trans (p5.mono (by simp <;> omega) (fun b hb => List.mem_cons_of_mem _ hb))
      rcases hz with rfl | rfl
      · exact r102_33 ⟨⟨by omega, by omega⟩, fun _ => ⟨0, rfl, P5, Or.inl rfl, fun x => absurd x (by omega), hzE⟩, fun x => absurd rfl x⟩
      · exact r102_33 ⟨⟨by omega, by omega⟩, fun x => absurd x (by omega), fun _ => ⟨1, rfl, P5, Or.inr rfl, fun _ => hz1 rfl, fun _ => rfl⟩⟩
/-- bytes that tell a history, and that history -/
def tells (fl : List Int) : Prop := ∃ rs, okH rs ∧ EN rs = fl
noncomputable def ldR (fl : List Int) : List Rv := @dite (List Rv) (tells fl) (Classical.propDecidable _) (fun h => Classical.choose h) (fun _ => [])
theorem ldR_ok {fl : List Int} (h : tells fl) : okH (ldR fl) ∧ EN (ldR fl) = fl := by
  unfold ldR
  rw [dif_pos h]
  exact Classical.choose_spec h
noncomputable def ldF (s : St) : Int × St := @ite (Int × St) (tells s.2.2.1) (Classical.propDecidable _) (((ldR s.2.2.1).length : Int), (s.1, ldR s.2.2.1, s.2.2)) (-1, s)
theorem ldF_y {s : St} (h : tells s.2.2.1) : ldF s = (((ldR s.2.2.1).length : Int), (s.1, ldR s.2.2.1, s.2.2)) := by unfold ldF; rw [if_pos h]
theorem ldF_n {s : St} (h : ¬ tells s.2.2.1) : ldF s = (-1, s) := by unfold ldF; rw [if_neg h]
theorem oks_ld {s : St} (ok : oks s) : oks (ldF s).2 := by
  by_cases h : tells s.2.2.1
  · rw [ldF_y h]
    obtain ⟨h1, h2⟩ := ldR_ok h
    refine ⟨ok.1, h1, ?_, ok.2.2.2⟩
    show (EN (ldR s.2.2.1)).length ≤ 400
    rw [h2]; exact ok.2.2.2.1.1
  · rw [ldF_n h]; exact ok
theorem RX_q {h h' : jm_H} {X c p : Nat} {s : St} {S : List Nat} (r : RX h X c p s) (q : jq (X + 27) [2] S h h') (hS : ∀ b ∈ S, (X + 3 ≤ b ∧ b < X + 5) ∨ (X + 31 ≤ b ∧ b < X + 56) ∨ (p ≤ b ∧ b < p + 62)) : RX h' X c p s := by
  obtain ⟨r1, r2, r3, ⟨op, r4⟩, r5, r6, r7, r8⟩ := r
  have e := r1.2.2.2.2.2.2.2.2
  have n : ∀ b, ¬ ((X + 3 ≤ b ∧ b < X + 5) ∨ (X + 31 ≤ b ∧ b < X + 56) ∨ (p ≤ b ∧ b < p + 62)) → b ∉ S := fun b hb m => hb (hS b m)
  have n' : ∀ b, b ≠ X + 27 → ¬ ((X + 3 ≤ b ∧ b < X + 5) ∨ (X + 31 ≤ b ∧ b < X + 56) ∨ (p ≤ b ∧ b < p + 62)) → b ∉ (X + 27) :: S := fun b h1 h2 m => by
    rcases List.mem_cons.mp m with m | m
    · exact h1 m
    · exact h2 (hS b m)
  have J := jq_f q
  exact ⟨r1.js q.1, r2.jf J (n' _ (by omega) (by omega)) (n' _ (by omega) (by omega)), r3.jf J (n' _ (by omega) (by omega)) (n' _ (by omega) (by omega)), ⟨op, r4.jf J (fun i hi => n' _ (by omega) (by omega))⟩, cb_q r5 q (n _ (by omega)) (n _ (by omega)), r6.jf J (n' _ (by omega) (by omega)) (n' _ (by omega) (by omega)), (J.2 X (n' _ (by omega) (by omega)) 11).trans r7, r8.jf J (fun i hi => n' _ (by omega) (by omega))⟩
theorem by8_rng {xs : List Int} (h : by8 xs) : rng xs := fun v hv => by
  have := h v hv
  constructor <;> omega
theorem x12 {d X c p : Nat} {h : jm_H} {s : St} (R : RX h X c p s) (ok : oks s) : jm_E dh_pr (d + 8) 12 [.inr (.inl X)] h (fun o h' => o = .inl (some (.inl (jz (ldF s).1))) ∧ ux X 180 h h' ∧ ∃ c p, RX h' X c p (ldF s).2) := by
  have hs := R.1
  have e := hs.2.2.2.2.2.2.2.2
  have l4 := ok.2.2.2.1.1
  have b8 := ok.2.2.2.1.2
  have f4 : jm_F h X 4 = X + 27 := hs.2.1.2.2.2.2.1
  have f8 : jm_F h X 8 = X + 54 := hs.2.1.2.2.2.2.2.2.2.2.1
  have nn1 : ∀ i, i < 62 → p + i ∉ [X + 31, X + 31 + 1] := fun i hi q => by simp at q; omega
  have nn2 : ∀ i, i < 62 → p + i ∉ rg (X + 33) 21 := fun i hi q => by rw [mem_rg] at q; omega
  have nn3 : ∀ i, i < 21 → X + 33 + i ∉ [X + 31, X + 31 + 1] := fun i hi q => by simp at q; omega
  refine e12 (r12_0 ⟨hs.1, _, f8, _, f4, _, hs.cur.2, hs.2.2.2.2.2.2.1.1, jm_E_mono _ _ _ _ _ _ ?_ (s102 (rs0 := ldR s.2.2.1) (E := tells s.2.2.1) ⟨hs.2.2.2.2.1.1, R.2.2.2.2.1⟩ l4 b8 hs.2.2.2.2.2.2.1 hs.his.2 (fun i hi => by omega) (fun i hi => by omega) (by omega) (fun w => ldR_ok w))⟩)
  rintro o h1 ⟨z, rfl, p1, hz, hz1, hzE⟩
  have hS1 : ∀ b ∈ (X + 54 + 1) :: rg p 62, (X + 3 ≤ b ∧ b < X + 5) ∨ (X + 31 ≤ b ∧ b < X + 56) ∨ (p ≤ b ∧ b < p + 62) := fun b hb => by
    rcases List.mem_cons.mp hb with hb | hb
    · omega
    · rw [mem_rg] at hb; omega
  have R1 := RX_q R p1 hS1
  have U1 : ux X 180 h h1 := ux_jq p1 (by omega) (fun b hb => by have := hS1 b hb; omega)
  rcases hz with rfl | rfl
  · have nt : ¬ tells s.2.2.1 := fun w => by have := hzE w; omega
    rw [ldF_n nt]
    exact r12_15 ⟨⟨by omega, by omega⟩, fun x => absurd rfl x, fun _ => ⟨rfl, U1, c, p, R1⟩⟩
  · obtain ⟨rs', hc1, ok', hE1⟩ := hz1 rfl
    have hs1 := R1.1
    refine r12_15 ⟨⟨by omega, by omega⟩, fun _ => ⟨hs1.1, _, hs1.2.1.2.2.2.2.2.2.2.1, _, hs1.cur.2, _, hs1.2.1.2.2.2.2.2.2.1, hs1.2.2.2.2.2.1.1, jm_callV (s128 hs1.2.2.2.2.2.1 hs1.his.2 hc1 hs1.2.2.2.2.1.2.2 nn1 nn2 nn3 (okR_ok ok')) ?_⟩, fun x => absurd x (by omega)⟩
    rintro h2 ⟨hf2, hd2⟩
    have hS2 : ∀ b ∈ rg (X + 33) 21 ++ [X + 31, X + 31 + 1], (X + 3 ≤ b ∧ b < X + 5) ∨ (X + 31 ≤ b ∧ b < X + 56) ∨ (p ≤ b ∧ b < p + 62) := fun b hb => by
      simp only [List.mem_append, mem_rg, List.mem_cons, List.not_mem_nil, or_false] at hb
      omega
    have R2 := RX_jf R1 hf2 hS2
    have hs2 := R2.1
    have U2 : ux X 180 h h2 := ux_step U1 ⟨p1.1.1, p1.1.2.1⟩ (ux_jf hf2 (fun b hb => by have := hS2 b hb; omega))
    have hc2 : cH h2 p rs' (sf (pS rs')) := hc1.jf hf2 (fun i hi q => (List.mem_append.mp q).elim (nn2 i hi) (nn1 i hi))
    refine r12_35 ⟨hs2.1, _, hs2.2.1.2.2.2.2.2.2.1, _, hs2.2.1.2.2.2.2.1, hs2.2.2.2.2.1.2.2.1, jm_callI (s86 hs2.2.2.2.2.1.2.2 hd2 hs2.2.2.2.2.1.1 R2.2.2.2.2.1 l4 (by8_rng (EN_by8 ok')) (by8_rng b8)) ?_⟩
    rintro z h3 ⟨rfl, ⟨rfl, g⟩ | ⟨rfl, g⟩⟩
    · have tt : tells s.2.2.1 := ⟨rs', ok', g⟩
      have er := hE1 tt
      rw [ldF_y tt, ← er]
      refine r12_46 ⟨⟨by omega, by omega⟩, fun _ => ⟨hs2.1, jm_callV (s26 hs2) ?_⟩, fun x => absurd x (by omega)⟩
      rintro h4 rfl
      have q : sr (X + 1) 179 h3 (jm_sF (jm_sF h3 X 9 p) X 10 c) := fun i hi => sm_trans (sm_sF (by omega)) (sm_sF (by omega))
      have hs4 := shX_swap hs2
      have cc := cH_sr hc2 (q.sub (by omega) (by omega))
      obtain ⟨r1, r2, r3, ⟨op, r4⟩, r5, r6, r7, r8⟩ := R2
      have RR4 : RX (jm_sF (jm_sF h3 X 9 p) X 10 c) X p c (s.1, rs', s.2.2) := by
        refine ⟨hs4, cx_sr r2 (q.sub (by omega) (by omega)), cx_sr r3 (q.sub (by omega) (by omega)), ⟨op, dD_sr r4 (q.sub (by omega) (by omega))⟩, cb_sr r5 (q.sub (by omega) (by omega)), cb_sr r6 (q.sub (by omega) (by omega)), ?_, cc⟩
        rw [jr_I_sF, jr_I_sF]; exact r7
      exact r12_55 ⟨hs4.1, _, hs4.cur.1, hs4.his.1.1, _, cc.1, rfl, ux_step U2 ⟨hf2.1.1.trans p1.1.1, hf2.1.2.1.trans p1.1.2.1⟩ (ux_step (ux_sF (by omega)) ⟨rfl, rfl⟩ (ux_sF (by omega))), p, c, RR4⟩
    · have nt : ¬ tells s.2.2.1 := fun w => by
        have er := hE1 w
        exact g (by rw [er]; exact (ldR_ok w).2)
      rw [ldF_n nt]
      exact r12_46 ⟨⟨by omega, by omega⟩, fun x => absurd rfl x, fun _ => ⟨rfl, U2, c, p, R2⟩⟩
