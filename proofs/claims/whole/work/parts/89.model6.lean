/-! The reference: write gives enc. -/
theorem srcK_sf (rs : List Rv) (k : Nat) : srcK rs (sf (pS rs)) k = srcOf (rs.getD k rv0) (fsK (pS rs) k) := rfl
theorem s48_2 {d M : Nat} {h0 : jm_H} {Q : jm_Q} {rs : List Rv} (hs : shM h0 M) (hc : cV h0 M rs) (l20 : rs.length ≤ 20) (hv : vp (pS rs)) (rt : ∀ k, k < rs.length → rng (rs.getD k rv0).2.2.2) {bs : List Int} (hl : bs.length ≤ 61)
    (K : ∀ h, jq M mK (mS M) h0 h → cdr h M (bs ++ (List.range rs.length).flatMap (body rs (sf (pS rs)))) → Q (.inl none) h) :
    ∀ (m k : Nat) (h : jm_H) (v1 : Int) (l2 : Option jm_V), k + m = rs.length → v1 = k → jq M mK (mS M) h0 h → cdr h M (bs ++ (List.range k).flatMap (body rs (sf (pS rs)))) → (bs ++ (List.range k).flatMap (body rs (sf (pS rs)))).length ≤ 61 + 85 * k → jm_W dh_pr (d + 2) 48 (65, [some (.inr (.inl M)), some (.inl (jz v1)), l2], [], h) Q := by
  have el := pS_len rs
  have hP := sfP_all _ (pS rs) rfl hv
  intro m
  induction m with
  | zero =>
    intro k h v1 l2 e1 e2 hf hcb hle
    have hs' := hs.js hf.1
    have hc' := cV_w hc hf
    refine r48_65 ⟨hs'.1, _, hc'.1.1, ⟨by omega, by omega⟩, ⟨by omega, by omega⟩, fun _ => K h hf ?_, fun q => absurd q (by omega)⟩
    rw [show rs.length = k by omega]; exact hcb
  | succ m ih =>
    intro k h v1 l2 e1 e2 hf hcb hle
    subst e2
    have kk : k < rs.length := by omega
    have kp : k < (pS rs).length := by omega
    have ev : (k : Int).toNat = k := by omega
    have ki : jzi (k : Int) 20 := ⟨by omega, by omega, by omega⟩
    have hk85 : 85 * k ≤ 85 * 19 := Nat.mul_le_mul_left 85 (by omega)
    have t12 : ∀ j, j < rs.length → (rs.getD j rv0).2.2.2.length ≤ 12 := fun j hj => by
      have := (hc.2.2.2.2 j (by rw [tS_len]; exact hj)).1
      rwa [tS_at hj] at this
    have hs1 := hs.js hf.1
    have hc1 := cV_w hc hf
    have step : bs ++ (List.range (k + 1)).flatMap (body rs (sf (pS rs))) = bs ++ (List.range k).flatMap (body rs (sf (pS rs))) ++ body rs (sf (pS rs)) k := by
      rw [List.range_succ, fm_snoc, List.append_assoc]
    have bk := hP.2.2.2.2 k kp
    -- with the source j: first, second, steps
    have D : ∀ (j : Nat) (l2 : Option jm_V), j < rs.length → srcK rs (sf (pS rs)) k = j → jm_E dh_pr (d + 2) 41 [.inr (.inl M), .inl (jz (j : Int))] h (jm_k dh_pr (d + 2) 48 Q 153 [some (.inr (.inl M)), some (.inl (jz (k : Int))), l2] [] 150) := by
      intro j l2 hj hsrc
      have eb : body rs (sf (pS rs)) k = encD (delta (rs.getD j rv0).2.2.2 (rs.getD k rv0).2.2.2) := by
        rw [body, if_pos (by rw [hsrc]; omega), hsrc]; rfl
      have lb := encD_85 (t12 j hj) (t12 k kk)
      refine jm_callV (s41 hs1 hc1.2.2.2.1 hc1.2.2.2.2 (by rw [tS_len]; exact l20) (by rw [tS_len]; exact hj)) ?_
      rintro h2 ⟨hf2, ha2⟩
      rw [tS_at hj] at ha2
      have F2 : jq M mK (mS M) h0 h2 := hf.trans (hf2.mono (by decide) (by simp [mS]))
      have hs2 := hs.js F2.1
      have hc2 := cV_w hc F2
      have hcb2 := hcb.jq hf2 (by simp) (by decide) (by simp)
      refine r48_153 ⟨hs2.1, jm_callV (s42 hs2 hc2.2.2.2.1 hc2.2.2.2.2 (by rw [tS_len]; exact l20) (by rw [tS_len]; exact kk)) ?_⟩
      rintro h3 ⟨hf3, hb3⟩
      rw [tS_at kk] at hb3
      have F3 : jq M mK (mS M) h0 h3 := F2.trans (hf3.mono (by decide) (by simp [mS]))
      have hs3 := hs.js F3.1
      have hcb3 := hcb2.jq hf3 (by simp) (by decide) (by simp)
      have ha3 := ha2.jq hf3 (by simp) (by decide) (by simp)
      refine r48_158 ⟨hs3.1, jm_callV (s45 hs3 ha3 hb3 (rt j hj) (rt k kk)) ?_⟩
      rintro h4 ⟨hf4, hd4, d24, dok⟩
      have F4 : jq M mK (mS M) h0 h4 := F3.trans (hf4.mono (by decide) (by simp [mS, m4]))
      have hs4 := hs.js F4.1
      have hcb4 := hcb3.jq hf4 (by simp [m4]) (by decide) (by simp [m4])
      have hb4 := hb3.jq hf4 (by simp [m4]) (by decide) (by simp [m4])
      refine r48_162 ⟨hs4.1, jm_callV (s47 (ad := (delta (rs.getD j rv0).2.2.2 (rs.getD k rv0).2.2.2).2) hs4 hd4 hb4 hcb4 dok (delta_ok _ _) d24 ?_) ?_⟩
      · rw [List.length_append]
        have : (encD ((delta (rs.getD j rv0).2.2.2 (rs.getD k rv0).2.2.2).1, (delta (rs.getD j rv0).2.2.2 (rs.getD k rv0).2.2.2).2)).length ≤ 85 := lb
        omega
      · rintro h5 ⟨hf5, hcb5⟩
        refine r48_166 (ih (k + 1) h5 _ _ (by omega) (by omega) (F4.trans (hf5.mono (by decide) (by simp [mS]))) (hcb5.app ?_) ?_)
        · rw [step, eb]
        · rw [step, eb, List.length_append]
          omega
    refine r48_65 ⟨hs1.1, _, hc1.1.1, ⟨by omega, by omega⟩, ⟨by omega, by omega⟩, fun q => absurd q (by omega), fun _ => jm_callI (s38 hs1 hc1.1 (by omega) hv (by omega)) ?_⟩
    rintro z h2 ⟨rfl, hd, rfl, hd1, hd2, hd3'⟩
    refine r48_78 ⟨⟨by omega, by omega⟩, ⟨by omega, by omega⟩, fun q => ⟨hs1.1, jm_callI (s37 (r := k) hs1 hc1.1 (by omega) hv kp) ?_⟩, fun q => ?_⟩
    · rintro z h2 ⟨rfl, ⟨rfl, f1⟩ | ⟨rfl, f1⟩⟩
      · -- on the trunk, not its head
        have nn : (fsK (pS rs) k).1 ≠ -1 := by
          intro e
          by_cases lt : k < hd
          · exact (trunk_le hv hP hd k lt hd1 f1 hd2).1 e
          · exact (trunk_le hv hP k hd (by omega) kp hd2 f1).1 hd3'
        obtain ⟨g1, g2, g3⟩ := hP.2.2.1 k kp f1 nn
        refine r48_133 ⟨⟨by omega, by omega⟩, fun p => absurd p (by omega), fun _ => ⟨hs1.1, ?_⟩⟩
        refine jm_callI (s36 hs1 hc1.1.1 hc1.1.2 (by omega) (hv.rng (by omega)) kp) ?_
        rintro z h2 ⟨rfl, rfl⟩
        rw [← hP.1 k kp]
        have := D (fsK (pS rs) k).1.toNat l2 (by omega) (by rw [srcK_sf, srcOf, if_pos f1]; omega)
        rw [show (((fsK (pS rs) k).1.toNat : Nat) : Int) = (fsK (pS rs) k).1 by omega] at this
        exact r48_141 ⟨hs1.1, this⟩
      · -- on a branch
        have k0 : 0 < k := by
          rcases Nat.eq_zero_or_pos k with e | e
          · rw [e] at f1; exact absurd (hP.2.1 (by omega)) f1
          · exact e
        obtain ⟨p1, p2⟩ := (hv k kp).2 k0
        obtain ⟨f0, g0, n0⟩ := hs1.f 2 1 20 (by decide)
        refine r48_133 ⟨⟨by omega, by omega⟩, fun _ => ⟨hs1.1, _, f0, g0, _, n0, ki, (pS rs).getD k 0, by rw [ev]; exact hc1.1.2 k kp, hs1.1, ?_⟩, fun p => absurd rfl p⟩
        have := D ((pS rs).getD k 0).toNat l2 (by omega) (by rw [srcK_sf, srcOf, if_neg f1, ← pS_at kk]; omega)
        rw [show ((((pS rs).getD k 0).toNat : Nat) : Int) = (pS rs).getD k 0 by omega] at this
        exact this
    · -- the head
      have e : k = hd := by omega
      subst e
      have eb : body rs (sf (pS rs)) k = encT (rs.getD k rv0).2.2.2 := by
        rw [body, if_neg]
        rw [srcK_sf, srcOf, if_pos hd2, hd3']
        omega
      obtain ⟨f1, g1, n1⟩ := hs1.f 5 4 20 (by decide)
      have tk := t12 k kk
      refine ⟨hs1.1, _, f1, g1, _, n1, ki, ((rs.getD k rv0).2.2.2.length : Int), ?_, jm_callV (s46 hs1 hcb (by omega)) ?_⟩
      · rw [ev, hc1.2.2.2.1 k (by rw [List.length_map, tS_len]; exact kk), gD_mp (a := []) (by rw [tS_len]; exact kk), tS_at kk]
      · rintro h2 ⟨hf2, hcb2⟩
        have F2 : jq M mK (mS M) h0 h2 := hf.trans (hf2.mono (by decide) (by simp [mS]))
        refine r48_91 (s48_t (X := bs ++ (List.range k).flatMap (body rs (sf (pS rs))) ++ [((rs.getD k rv0).2.2.2.length : Int)]) (hs.js F2.1) (cV_w hc F2) l20 kk rfl (by rw [List.length_append, List.length_singleton]; omega) (fun h3 v2 hf3 hcb3 => ih (k + 1) h3 _ _ (by omega) (by omega) (F2.trans hf3) (hcb3.app ?_) ?_) (rs.getD k rv0).2.2.2.length 0 h2 0 (by omega) (by omega) (jq.refl _ _ _ _) (by simpa using hcb2))
        · rw [step, eb, encT]
          simp only [List.append_assoc, List.cons_append, List.nil_append]
        · rw [step, eb, List.length_append, encT, List.length_cons]
          omega
theorem s48 {d M : Nat} {h : jm_H} {rs : List Rv} (hs : shM h M) (hc : cV h M rs) (l20 : rs.length ≤ 20) (hv : vp (pS rs)) (rt : ∀ k, k < rs.length → rng (rs.getD k rv0).2.2.2) :
    jm_E dh_pr (d + 3) 48 [.inr (.inl M)] h (fun o h' => o = .inl none ∧ jq M mK (mS M) h h' ∧ cdr h' M (enc rs (sf (pS rs)))) := by
  have el := pS_len rs
  have p1 : jq M mK (mS M) h (jm_sI h M 32 (jz 0)) := (jq.refl _ _ _ h).sM (by decide)
  have c0 : cdr (jm_sI h M 32 (jz 0)) M [] := ⟨jr_I_self, row.nil _ _⟩
  have hs1 := hs.js p1.1
  have hc1 := cV_w hc p1
  refine e48 (r48_0 ⟨hs.1, (rs.length : Int), ?_, jm_callV (s46 hs1 c0 (by simp)) ?_⟩)
  · rw [← el]; exact hc.1.1
  · rintro h2 ⟨hf2, hcb2⟩
    have F2 : jq M mK (mS M) h h2 := p1.trans (hf2.mono (by decide) (by simp [mS]))
    refine r48_13 (s48_1 (bs := [(rs.length : Int)]) (hs.js F2.1) (cV_w hc F2) l20 (by simp) (fun h3 l2 hf3 hcb3 => ?_) rs.length 0 h2 0 none (by omega) (by omega) (jq.refl _ _ _ _) (by simpa using hcb2))
    have F3 := F2.trans hf3
    have lh : ([(rs.length : Int)] ++ rs.flatMap hd3).length ≤ 61 := by
      have := fm_len hd3 3 rs (fun s hs => Nat.le_refl 3)
      rw [List.length_append, List.length_singleton]
      omega
    refine s48_2 (bs := [(rs.length : Int)] ++ rs.flatMap hd3) (hs.js F3.1) (cV_w hc F3) l20 hv rt lh (fun h4 hf4 hcb4 => ⟨rfl, F3.trans hf4, hcb4.app ?_⟩) rs.length 0 h3 0 l2 (by omega) (by omega) (jq.refl _ _ _ _) (by simpa using hcb3) (by simp at lh ⊢; omega)
    rw [enc]
    simp only [List.append_assoc, List.cons_append, List.nil_append]
