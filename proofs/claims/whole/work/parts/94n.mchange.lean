/-! The reference: changes. -/
theorem cD.jq {h h' : jm_H} {M : Nat} {xs : List Int} {ks S : List Nat} (c : cD h M xs) (p : jq M ks S h h') (h0 : M ∉ S) (h1 : 10 ∉ ks) (h2 : M + 8 ∉ S) : cD h' M xs := ⟨(p.2 M 10 h0 (fun q => h1 q.2)).trans c.1, c.2.1, c.2.2.jq p h2 (by omega)⟩
theorem cF.jq {h h' : jm_H} {M : Nat} {xs : List Int} {ks S : List Nat} (c : cF h M xs) (p : jq M ks S h h') (h0 : M ∉ S) (h1 : 11 ∉ ks) (h2 : M + 9 ∉ S) : cF h' M xs := ⟨(p.2 M 11 h0 (fun q => h1 q.2)).trans c.1, c.2.1, c.2.2.jq p h2 (by omega)⟩
theorem cE.jq {h h' : jm_H} {M : Nat} {xs : List Int} {ks S : List Nat} (c : cE h M xs) (p : jq M ks S h h') (h0 : M ∉ S) (h1 : 13 ∉ ks) (h2 : M + 10 ∉ S) : cE h' M xs := ⟨(p.2 M 13 h0 (fun q => h1 q.2)).trans c.1, c.2.1, c.2.2.jq p h2 (by omega)⟩
theorem cU.jq {h h' : jm_H} {M : Nat} {rs : List Rv} {ks S : List Nat} (c : cU h M rs) (p : jq M ks S h h') (h0 : M ∉ S) (h1 : 1 ∉ ks) (h2 : M + 1 ∉ S ∧ M + 2 ∉ S ∧ M + 3 ∉ S) : cU h' M rs := ⟨⟨(p.2 M 1 h0 (fun q => h1 q.2)).trans c.1.1, c.1.2.jq p h2.1 (by omega)⟩, c.2.1.jq p h2.2.1 (by omega), c.2.2.jq p h2.2.2 (by omega)⟩
theorem cT.jq {h h' : jm_H} {M : Nat} {ts : List (List Int)} {ks S : List Nat} (c : cT h M ts) (p : jq M ks S h h') (h4 : M + 4 ∉ S) (h5 : M + 5 ∉ S) : cT h' M ts := ⟨c.1, c.2.1.jq p h4 (by omega), c.2.2.1.same (fun k => p.2 (M + 5) k h5 (by omega)), c.2.2.2⟩
theorem cS.jq {h h' : jm_H} {M : Nat} {A B : List Int} {ks S : List Nat} (c : cS h M A B) (p : jq M ks S h h') (h0 : M ∉ S) (h1 : 26 ∉ ks) (h2 : ∀ i, 18 ≤ i → i < 23 → M + i ∉ S) : cS h' M A B := by
  obtain ⟨c1, c2, c3, c4, c5, c6⟩ := c
  exact ⟨(p.2 M 26 h0 (fun q => h1 q.2)).trans c1, c2.jq p (h2 18 (by omega) (by omega)) (by omega), c3.jq p (h2 19 (by omega) (by omega)) (by omega), c4.jq p (h2 20 (by omega) (by omega)) (by omega), c5.jq p (h2 21 (by omega) (by omega)) (by omega), c6.jq p (h2 22 (by omega) (by omega)) (by omega)⟩
/-- all but the heads of the revisions -/
def RN (h : jm_H) (M : Nat) (s : St) (ts : List (List Int)) : Prop := shM h M ∧ cD h M s.1 ∧ cT h M ts ∧ cF h M s.2.2.1 ∧ cE h M s.2.2.2.1 ∧ jm_I h M 15 = jz s.2.2.2.2.1 ∧ cS h M s.2.2.2.2.2.1 s.2.2.2.2.2.2 ∧ nmr h M (pS s.2.1) s.2.1.length
theorem RM_RN {h : jm_H} {M : Nat} {s : St} (r : RM h M s) : ∃ ts, RN h M s ts ∧ cU h M s.2.1 ∧ tS s.2.1 = ts.take s.2.1.length := by
  obtain ⟨r1, r2, r3, ⟨ts, r4, r5⟩, r6, r7, r8, r9, r10⟩ := r
  exact ⟨ts, ⟨r1, r2, r4, r6, r7, r8, r9, r10⟩, r3, r5⟩
theorem RN_RM {h : jm_H} {M : Nat} {s : St} {ts : List (List Int)} (r : RN h M s ts) (u : cU h M s.2.1) (e : tS s.2.1 = ts.take s.2.1.length) : RM h M s := by
  obtain ⟨r1, r2, r4, r6, r7, r8, r9, r10⟩ := r
  exact ⟨r1, r2, u, ⟨ts, r4, e⟩, r6, r7, r8, r9, r10⟩
theorem RN_jq {h h' : jm_H} {M : Nat} {s : St} {ts : List (List Int)} {ks S : List Nat} (r : RN h M s ts) (p : jq M ks S h h') (h1 : ∀ k ∈ ks, k ∈ 1 :: scK) (h2 : ∀ b ∈ S, b ∈ (M + 1) :: (M + 2) :: (M + 3) :: scS M) : RN h' M s ts := by
  obtain ⟨r1, r2, r4, r6, r7, r8, r9, r10⟩ := r
  have nk : ∀ k, k ≠ 0 → k ≠ 1 → k ≠ 16 → k ≠ 18 → k ≠ 21 → k ≠ 32 → k ≠ 35 → k ≠ 36 → k ≠ 37 → k ∉ ks := fun k a b c d e f g i j q => by
    have := h1 k q
    simp [scK] at this
    omega
  have ns : ∀ i, (i = 0 ∨ (4 ≤ i ∧ i < 11) ∨ (18 ≤ i ∧ i < 23)) → M + i ∉ S := fun i hi q => by
    have := h2 _ q
    simp [scS] at this
    omega
  have n0 : M ∉ S := ns 0 (by omega)
  exact ⟨r1.js p.1, r2.jq p n0 (nk _ (by omega) (by omega) (by omega) (by omega) (by omega) (by omega) (by omega) (by omega) (by omega)) (ns 8 (by omega)), r4.jq p (ns 4 (by omega)) (ns 5 (by omega)), r6.jq p n0 (nk _ (by omega) (by omega) (by omega) (by omega) (by omega) (by omega) (by omega) (by omega) (by omega)) (ns 9 (by omega)), r7.jq p n0 (nk _ (by omega) (by omega) (by omega) (by omega) (by omega) (by omega) (by omega) (by omega) (by omega)) (ns 10 (by omega)), (p.2 M 15 n0 (fun q => nk 15 (by omega) (by omega) (by omega) (by omega) (by omega) (by omega) (by omega) (by omega) (by omega) q.2)).trans r8, r9.jq p n0 (nk _ (by omega) (by omega) (by omega) (by omega) (by omega) (by omega) (by omega) (by omega) (by omega)) (fun i h3 h4 => ns i (by omega)), nmr_jq r10 p (ns 6 (by omega)) (ns 7 (by omega))⟩
/-- the state behind a cut, and behind a replaced file -/
theorem RN_cut {h h' : jm_H} {M : Nat} {s : St} {ts : List (List Int)} {as : List Int} (r : RN h M s ts) (p : jq M [13, 15] [M + 10] h h') (e : cE h' M as) (i : jm_I h' M 15 = jz (-1)) : RN h' M (s.1, s.2.1, s.2.2.1, as, -1, s.2.2.2.2.2) ts := by
  obtain ⟨r1, r2, r4, r6, r7, r8, r9, r10⟩ := r
  exact ⟨r1.js p.1, r2.jq p (by simp <;> omega) (by decide) (by simp <;> omega), r4.jq p (by simp <;> omega) (by simp <;> omega), r6.jq p (by simp <;> omega) (by decide) (by simp <;> omega), e, i, r9.jq p (by simp <;> omega) (by decide) (fun i h1 h2 => by simp; omega), nmr_jq r10 p (by simp <;> omega) (by simp <;> omega)⟩
theorem RN_rep {h h' : jm_H} {M : Nat} {s : St} {ts : List (List Int)} {fl : List Int} (r : RN h M s ts) (p : jq M [11, 13, 15] [M + 9] h h') (f : cF h' M fl) (e : cE h' M []) (i : jm_I h' M 15 = jz (-1)) : RN h' M (s.1, s.2.1, fl, [], -1, s.2.2.2.2.2) ts := by
  obtain ⟨r1, r2, r4, r6, r7, r8, r9, r10⟩ := r
  exact ⟨r1.js p.1, r2.jq p (by simp <;> omega) (by decide) (by simp <;> omega), r4.jq p (by simp <;> omega) (by simp <;> omega), f, e, i, r9.jq p (by simp <;> omega) (by decide) (fun i h1 h2 => by simp; omega), nmr_jq r10 p (by simp <;> omega) (by simp <;> omega)⟩
theorem cU_lk {h : jm_H} {M k : Nat} {rs : List Rv} {l : Int} (c : cU h M rs) (hk : k < rs.length) : cU (jm_sI h (M + 3) k (jz l)) M (stL rs k l) := by
  refine ⟨?_, ?_, ?_⟩
  · rw [pS_stL hk]
    exact ⟨by rw [off1 (by omega)]; exact c.1.1, c.1.2.off (by omega)⟩
  · rw [uS_stL hk]; exact c.2.1.off (by omega)
  · rw [lS_stL]; exact c.2.2.set (by rw [List.length_map]; exact hk)
theorem stL_back {rs : List Rv} {k : Nat} {l : Int} (hk : k < rs.length) : stL (stL rs k l) k (rs.getD k rv0).2.2.1 = rs := by
  have e := stL_at (l := l) hk k
  rw [if_pos rfl] at e
  unfold stL at e ⊢
  rw [e, List.set_set]
  apply List.ext_getElem?
  intro i
  by_cases q : i = k
  · subst q
    rw [List.getElem?_set_self hk, List.getD_eq_getElem?_getD, List.getElem?_eq_getElem hk]; rfl
  · rw [List.getElem?_set_ne (Ne.symm q)]
theorem lk_at {h : jm_H} {M k : Nat} {rs : List Rv} (c : cU h M rs) (hk : k < rs.length) : jm_I h (M + 3) k = jz (rs.getD k rv0).2.2.1 := by
  rw [c.2.2 k (by rw [List.length_map]; exact hk), gD_mp (a := rv0) hk]
theorem EN_2400 {rs : List Rv} (ok : okH rs) : (EN rs).length ≤ 2400 := by
  have l20 := ok.1
  have h3 := hd3_len rs
  have hb : ((List.range rs.length).flatMap (body rs (sf (pS rs)))).length ≤ 85 * rs.length := by
    have := fm_len (body rs (sf (pS rs))) 85 (List.range rs.length) (fun k hk => by
      rw [List.mem_range] at hk
      have o := (ok.2.2 k hk).2.2.1
      unfold body
      split
      · exact encD_85 (ok.2.2 _ (by omega)).2.2.1 o
      · show (rs.getD k rv0).2.2.2.length + 1 ≤ 85
        omega)
    rwa [List.length_range] at this
  show ((rs.flatMap hd3) ++ (List.range rs.length).flatMap (body rs (sf (pS rs)))).length + 1 ≤ 2400
  rw [List.length_append]
  have : 85 * rs.length ≤ 85 * 20 := Nat.mul_le_mul_left 85 l20
  omega
theorem ux_M {h h' : jm_H} {M : Nat} {ks S : List Nat} (p : jq M ks S h h') (hs : ∀ b ∈ S, M ≤ b ∧ b < M + 30) : ux M 30 h h' := ux_jq p (by omega) hs
/-- one frame for all that the reference does -/
def mA (M : Nat) : List Nat := rg (M + 1) 29
def mB : List Nat := List.range 43
theorem mA_up {h h' : jm_H} {M : Nat} {ks S : List Nat} (p : jq M ks S h h') (h1 : ∀ k ∈ ks, k < 43) (h2 : ∀ b ∈ S, M + 1 ≤ b ∧ b < M + 30) : jq M mB (mA M) h h' := p.mono (fun k hk => List.mem_range.mpr (h1 k hk)) (fun b hb => mem_rg.mpr (by have := h2 b hb; omega))
theorem ux_A {h h' : jm_H} {M : Nat} (p : jq M mB (mA M) h h') : ux M 30 h h' := ux_jq p (by omega) (fun b hb => by have := mem_rg.mp hb; omega)
theorem mK_43 : ∀ k ∈ mK, k < 43 := by decide
theorem mS_30 {M : Nat} : ∀ b ∈ mS M, M + 1 ≤ b ∧ b < M + 30 := fun b hb => by simp [mS] at hb; omega
theorem m54 {d M r : Nat} {h : jm_H} {s : St} {l : Int} (R : RM h M s) (ok : oks s) (hr : r < s.2.1.length) (hl : -1 ≤ l ∧ l < 4) : jm_E dh_pr (d + 4) 54 [.inr (.inl M), .inl (jz (r : Int)), .inl (jz l)] h (fun o h' => o = .inl (some (.inl (jz (coF s (stL s.2.1 r l) (EN (stL s.2.1 r l)).length).1))) ∧ jq M mB (mA M) h h' ∧ jm_I h' M 0 = jm_I h M 0 ∧ RM h' M (coF s (stL s.2.1 r l) (EN (stL s.2.1 r l)).length).2) := by
  obtain ⟨ts, N, U, eT⟩ := RM_RN R
  have okh := ok.2.1
  have l20 := okh.1
  have hs := N.1
  have ok' := okH_stL okh hr hl
  have e24 := EN_2400 ok'
  have len4 : (EN (stL s.2.1 r l)).length ≤ 400 := by rw [EN_len (pS_stL hr) (tS_stL hr)]; exact ok.2.2.1
  have hcr := ok.2.2.2.2.2.1
  obtain ⟨f4, g4, n4⟩ := hs.f 4 3 20 (by decide)
  have ri : jzi (r : Int) 20 := ⟨by omega, by omega, by omega⟩
  have er : (r : Int).toNat = r := by omega
  have p1 : jq M [] [M + 3] h (jm_sI h (M + 3) r (jz l)) := (jq.refl _ _ _ h).sI (by simp <;> omega)
  have N1 := RN_jq N p1 (fun k hk => by cases hk) (fun b hb => by simp at hb; simp [hb])
  have U1 := cU_lk (l := l) U hr
  have eT1 : tS (stL s.2.1 r l) = ts.take (stL s.2.1 r l).length := by rw [tS_stL hr, stL_len]; exact eT
  have V1 := cV_mk U1 N1.2.2.1 eT1
  refine e54 (r54_0 ⟨hs.1, _, f4, g4, _, n4, ri, (s.2.1.getD r rv0).2.2.1, by rw [er]; exact lk_at U hr, ?_⟩)
  rw [er]
  refine jm_callV (s48 N1.1 V1 ok'.1 ok'.2.1 (fun k hk => lnv_rng (ok'.2.2 k hk).2.2.2)) ?_
  rintro h2 ⟨q2, D2⟩
  have N2 := RN_jq N1 q2 (by decide) (fun b hb => by simp [mS] at hb; simp [scS]; omega)
  have U2 := U1.jq q2 (by simp [mS]) (by decide) (by simp [mS])
  have hs2 := N2.1
  have P2 : jq M mB (mA M) h h2 := (mA_up p1 (fun k hk => by cases hk) (fun b hb => by simp at hb; omega)).trans (mA_up q2 mK_43 mS_30)
  have z2 : jm_I h2 M 0 = jm_I h M 0 := by rw [q2.2 M 0 (by simp [mS]) (fun q => absurd q.2 (by decide)), p1.2 M 0 (by simp <;> omega) (by simp <;> omega)]
  refine r54_18 ⟨hs2.1, jm_callI (s49 hs2 D2 e24 N2.2.2.2.2.2.1 hcr.2) ?_⟩
  rintro z h' ⟨rfl, ⟨rfl, q⟩ | ⟨rfl, q⟩⟩
  · obtain ⟨f4', g4', n4'⟩ := hs2.f 4 3 20 (by decide)
    have ec : coF s (stL s.2.1 r l) (EN (stL s.2.1 r l)).length = (-2, (s.1, s.2.1, s.2.2.1, (EN (stL s.2.1 r l)).take s.2.2.2.2.1.toNat, -1, s.2.2.2.2.2)) := by
      unfold coF; exact if_pos q
    rw [ec]
    replace q : 0 ≤ s.2.2.2.2.1 ∧ s.2.2.2.2.1 ≤ ((EN (stL s.2.1 r l)).length : Int) := q
    have p3 : jq M [] [M + 3] h' (jm_sI h' (M + 3) r (jz (s.2.1.getD r rv0).2.2.1)) := (jq.refl _ _ _ h').sI (by simp <;> omega)
    have N3 := RN_jq N2 p3 (fun k hk => by cases hk) (fun b hb => by simp at hb; simp [hb])
    have U3 := cU_lk (l := (s.2.1.getD r rv0).2.2.1) U2 (k := r) (by rw [stL_len]; exact hr)
    rw [stL_back hr] at U3
    have i15 : jm_I (jm_sI h' (M + 3) r (jz (s.2.1.getD r rv0).2.2.1)) M 15 = jz ((s.2.2.2.2.1.toNat : Nat) : Int) := by
      rw [N3.2.2.2.2.2.1]; congr 1; omega
    refine r54_22 ⟨⟨by omega, by omega⟩, fun w => absurd w (by omega), fun _ => ⟨hs2.1, _, f4', g4', _, n4', ri, ?_⟩⟩
    rw [er]
    refine jm_callV (s50m N3.1 (D2.jq p3 (by simp <;> omega) (by simp <;> omega) (by simp <;> omega)) i15 (show s.2.2.2.2.1.toNat ≤ (EN (stL s.2.1 r l)).length by omega) (by omega)) ?_
    rintro h4 ⟨q4, j4, E4⟩
    exact r54_36 ⟨rfl, (P2.trans (mA_up p3 (fun k hk => by cases hk) (fun b hb => by simp at hb; omega))).trans (mA_up q4 (by decide) (fun b hb => by simp at hb; omega)), by rw [q4.2 M 0 (by simp <;> omega) (fun q => absurd q.2 (by decide)), p3.2 M 0 (by simp <;> omega) (by simp <;> omega)]; exact z2, RN_RM (RN_cut N3 q4 E4 j4) (U3.jq q4 (by simp <;> omega) (by decide) (by simp <;> omega)) eT⟩
  · have ec : coF s (stL s.2.1 r l) (EN (stL s.2.1 r l)).length = (if s.2.2.2.2.1 = (EN (stL s.2.1 r l)).length + 1 then -2 else ((EN (stL s.2.1 r l)).length : Int), (s.1, stL s.2.1 r l, EN (stL s.2.1 r l), [], -1, s.2.2.2.2.2)) := by
      unfold coF; exact if_neg q
    rw [ec]
    refine r54_22 ⟨⟨by omega, by omega⟩, fun _ => ⟨hs2.1, jm_callI (s51 hs2 D2 N2.2.2.2.2.2.1 hcr.2 len4) ?_⟩, fun w => absurd rfl w⟩
    rintro z h3 ⟨q3, j3, F3, E3, qz⟩
    have N3 := RN_rep N2 q3 F3 E3 j3
    have U3 := U2.jq q3 (by simp <;> omega) (by decide) (by simp <;> omega)
    have P3 := P2.trans (mA_up q3 (by decide) (fun b hb => by simp at hb; omega))
    have z3 : jm_I h3 M 0 = jm_I h M 0 := by rw [q3.2 M 0 (by simp <;> omega) (fun q => absurd q.2 (by decide))]; exact z2
    have R3 : RM h3 M (s.1, stL s.2.1 r l, EN (stL s.2.1 r l), [], -1, s.2.2.2.2.2) := by
      obtain ⟨a1, a2, a4, a6, a7, a8, a9, a10⟩ := N3
      refine ⟨a1, a2, U3, ⟨ts, a4, eT1⟩, a6, a7, a8, a9, ?_⟩
      show nmr h3 M (pS (stL s.2.1 r l)) (stL s.2.1 r l).length
      rw [pS_stL hr, stL_len]; exact a10
    rcases qz with ⟨rfl, qz⟩ | ⟨rfl, qz⟩
    · refine r54_43 ⟨⟨by omega, by omega⟩, fun w => absurd w (by omega), fun _ => ⟨?_, P3, z3, R3⟩⟩
      exact congrArg (fun z : Int => (Sum.inl (some (Sum.inl (jz z))) : jm_R)) (if_pos qz).symm
    · refine r54_43 ⟨⟨by omega, by omega⟩, fun _ => ⟨R3.1.1, _, F3.1, ?_, P3, z3, R3⟩, fun w => absurd rfl w⟩
      exact congrArg (fun z : Int => (Sum.inl (some (Sum.inl (jz z))) : jm_R)) (if_neg qz).symm
/-- what a call of the reference answers -/
def mo (r : Int × Int × St) (M : Nat) (o : jm_R) (h h' : jm_H) : Prop := (∃ v : Int, o = .inl (some (.inl (jz v))) ∧ (r.1 = 0 → v = r.2.1)) ∧ jm_I h' M 0 = jz r.1 ∧ RM h' M r.2.2 ∧ jq M mB (mA M) h h'
theorem RM_code {h : jm_H} {M : Nat} {s : St} (r : RM h M s) (c : Int) : RM (jm_sI h M 0 (jz c)) M s ∧ jq M mB (mA M) h (jm_sI h M 0 (jz c)) ∧ jm_I (jm_sI h M 0 (jz c)) M 0 = jz c := ⟨RM_jq r (((jq.refl M [0] [] h)).sM (by simp <;> omega)) (by decide) (fun b hb => by cases hb), mA_up ((jq.refl M [0] [] h).sM (by simp <;> omega)) (by decide) (fun b hb => by cases hb), jr_I_self⟩
theorem mo_c {h : jm_H} {M : Nat} {s : St} {c : Int} (r : RM h M s) (hc : c ≠ 0) : mo (c, 0, s) M (.inl (some (.inl (jz 0)))) h (jm_sI h M 0 (jz c)) := ⟨⟨0, rfl, fun _ => rfl⟩, (RM_code r c).2.2, (RM_code r c).1, (RM_code r c).2.1⟩
theorem m55 {d M : Nat} {h : jm_H} {s : St} {u r : Int} (R : RM h M s) (ok : oks s) (hu : jR u) (hk : jR r) : jm_E dh_pr (d + 5) 55 [.inr (.inl M), .inl (jz u), .inl (jz r)] h (fun o h' => mo (lkF s u r) M o h h') := by
  have hs := R.1
  have l20 := ok.2.1.1
  have U := R.2.2.1
  have F1 : ¬ (okU u ∧ okV s r) → lkF s u r = (1, 0, s) := fun q => by unfold lkF; rw [if_neg q]
  have cc : jm_I h M 1 = jz s.2.1.length := by rw [← pS_len]; exact U.1.1
  obtain ⟨C1, C2, C3⟩ := RM_code R 0
  refine e55 (r55_0 (jm_callI (s52 hu) ?_))
  rintro z h' ⟨rfl, ⟨rfl, q1⟩ | ⟨rfl, q1⟩⟩
  · refine r55_5 ⟨⟨by omega, by omega⟩, fun w => absurd rfl w, fun _ => ⟨hs.1, jm_callI (s53 hs cc l20 hk) ?_⟩⟩
    rintro z h' ⟨rfl, ⟨rfl, q2⟩ | ⟨rfl, q2⟩⟩
    · have kk : r.toNat < s.2.1.length := by omega
      have lk := (ok.2.1.2.2 r.toNat kk).2.1
      have er : ((r.toNat : Nat) : Int) = r := by omega
      obtain ⟨f4, g4, n4⟩ := hs.f 4 3 20 (by decide)
      refine r55_13 ⟨⟨by omega, by omega⟩, fun _ => ⟨hs.1, _, f4, g4, _, n4, ⟨by omega, by omega, by omega⟩, (s.2.1.getD r.toNat rv0).2.2.1, lk_at U kk, ⟨by omega, by omega⟩, fun q3 => ⟨hs.1, 0, jr_I_self, ⟨by omega, by omega⟩, fun _ => ?_, fun w => absurd w (by omega)⟩, fun q3 => ⟨hs.1, 2, jr_I_self, ⟨by omega, by omega⟩, fun w => absurd w (by omega), fun _ => ?_⟩⟩, fun w => absurd rfl w⟩
      · have e : lkF s u r = (0, coF s (stL s.2.1 r.toNat u) (EN (stL s.2.1 r.toNat u)).length) := by
          unfold lkF; rw [if_pos ⟨q1, q2⟩, if_pos (show lockOf s r = -1 by show (s.2.1.getD r.toNat rv0).2.2.1 = -1; omega)]
        rw [e]
        have W := m54 (d := d) (l := u) C1 ok kk ⟨by omega, q1.2⟩
        rw [er] at W
        refine jm_E_mono _ _ _ _ _ _ ?_ W
        rintro o h2 ⟨rfl, w1, w2, w3⟩
        exact r55_54 ⟨⟨_, rfl, fun _ => rfl⟩, w2.trans C3, w3, C2.trans w1⟩
      · have e : lkF s u r = (2, 0, s) := by
          unfold lkF; rw [if_pos ⟨q1, q2⟩, if_neg (show ¬ lockOf s r = -1 by show ¬ (s.2.1.getD r.toNat rv0).2.2.1 = -1; omega)]
        rw [e]
        exact mo_c R (by decide)
    · refine r55_13 ⟨⟨by omega, by omega⟩, fun w => absurd w (by omega), fun _ => ⟨hs.1, hs.1, 1, jr_I_self, ⟨by omega, by omega⟩, fun w => absurd w (by omega), fun _ => ?_⟩⟩
      rw [F1 (fun w => q2 w.2)]
      exact mo_c R (by decide)
  · refine r55_5 ⟨⟨by omega, by omega⟩, fun _ => ⟨hs.1, hs.1, 1, jr_I_self, ⟨by omega, by omega⟩, fun w => absurd w (by omega), fun _ => ?_⟩, fun w => absurd w (by omega)⟩
    rw [F1 (fun w => q1 w.1)]
    exact mo_c R (by decide)
theorem m56 {d M : Nat} {h : jm_H} {s : St} {u r : Int} (R : RM h M s) (ok : oks s) (hu : jR u) (hk : jR r) : jm_E dh_pr (d + 5) 56 [.inr (.inl M), .inl (jz u), .inl (jz r)] h (fun o h' => mo (ulF s u r) M o h h') := by
  have hs := R.1
  have l20 := ok.2.1.1
  have U := R.2.2.1
  have F1 : ¬ (okU u ∧ okV s r) → ulF s u r = (1, 0, s) := fun q => by unfold ulF; rw [if_neg q]
  have cc : jm_I h M 1 = jz s.2.1.length := by rw [← pS_len]; exact U.1.1
  obtain ⟨C1, C2, C3⟩ := RM_code R 0
  refine e56 (r56_0 (jm_callI (s52 hu) ?_))
  rintro z h' ⟨rfl, ⟨rfl, q1⟩ | ⟨rfl, q1⟩⟩
  · refine r56_5 ⟨⟨by omega, by omega⟩, fun w => absurd rfl w, fun _ => ⟨hs.1, jm_callI (s53 hs cc l20 hk) ?_⟩⟩
    rintro z h' ⟨rfl, ⟨rfl, q2⟩ | ⟨rfl, q2⟩⟩
    · have kk : r.toNat < s.2.1.length := by omega
      have lk := (ok.2.1.2.2 r.toNat kk).2.1
      have er : ((r.toNat : Nat) : Int) = r := by omega
      obtain ⟨f4, g4, n4⟩ := hs.f 4 3 20 (by decide)
      refine r56_13 ⟨⟨by omega, by omega⟩, fun _ => ⟨hs.1, _, f4, g4, _, n4, ⟨by omega, by omega, by omega⟩, (s.2.1.getD r.toNat rv0).2.2.1, lk_at U kk, ⟨by omega, by omega⟩, hu, fun q3 => ⟨hs.1, 0, jr_I_self, ⟨by omega, by omega⟩, fun _ => ?_, fun w => absurd w (by omega)⟩, fun q3 => ⟨hs.1, 2, jr_I_self, ⟨by omega, by omega⟩, fun w => absurd w (by omega), fun _ => ?_⟩⟩, fun w => absurd rfl w⟩
      · have e : ulF s u r = (0, coF s (stL s.2.1 r.toNat (-1)) (EN (stL s.2.1 r.toNat (-1))).length) := by
          unfold ulF; rw [if_pos ⟨q1, q2⟩, if_pos (show lockOf s r = u from q3)]
        rw [e]
        have W := m54 (d := d) (l := -1) C1 ok kk ⟨by omega, by omega⟩
        rw [er] at W
        refine jm_E_mono _ _ _ _ _ _ ?_ W
        rintro o h2 ⟨rfl, w1, w2, w3⟩
        exact r56_55 ⟨⟨_, rfl, fun _ => rfl⟩, w2.trans C3, w3, C2.trans w1⟩
      · have e : ulF s u r = (2, 0, s) := by
          unfold ulF; rw [if_pos ⟨q1, q2⟩, if_neg (show ¬ lockOf s r = u from q3)]
        rw [e]
        exact mo_c R (by decide)
    · refine r56_13 ⟨⟨by omega, by omega⟩, fun w => absurd w (by omega), fun _ => ⟨hs.1, hs.1, 1, jr_I_self, ⟨by omega, by omega⟩, fun w => absurd w (by omega), fun _ => ?_⟩⟩
      rw [F1 (fun w => q2 w.2)]
      exact mo_c R (by decide)
  · refine r56_5 ⟨⟨by omega, by omega⟩, fun _ => ⟨hs.1, hs.1, 1, jr_I_self, ⟨by omega, by omega⟩, fun w => absurd w (by omega), fun _ => ?_⟩, fun w => absurd w (by omega)⟩
    rw [F1 (fun w => q1 w.1)]
    exact mo_c R (by decide)
