/-! The class's Reader: heads and places of the bodies. -/
def blk0 (r : Rv) : Rv := (r.1, r.2.1, r.2.2.1, [])
/-- the heads alone -/
def bl (rs : List Rv) : List Rv := rs.map blk0
theorem bl_len (rs : List Rv) : (bl rs).length = rs.length := List.length_map _
theorem pS_bl (rs : List Rv) : pS (bl rs) = pS rs := by
  unfold pS bl
  rw [List.map_map]; rfl
theorem bl_at {rs : List Rv} {k : Nat} (hk : k < rs.length) : (bl rs).getD k rv0 = blk0 (rs.getD k rv0) := gD_mp hk
theorem rv_drop {rs : List Rv} {k : Nat} (hk : k < rs.length) : rs.drop k = rs.getD k rv0 :: rs.drop (k + 1) := by
  rw [List.drop_eq_getElem_cons hk, List.getD_eq_getElem?_getD, List.getElem?_eq_getElem hk]; rfl
theorem stL_last (rs : List Rv) (p u l l' : Int) (t : List Int) : stL (rs ++ [(p, u, l, t)]) rs.length l' = rs ++ [(p, u, l', t)] := by
  unfold stL
  rw [gD_n rfl, set_last]
theorem jR_next {rs : List Rv} (ok : okH rs) : ∀ k, k < (sf (pS rs)).length → jR ((sf (pS rs)).getD k fs0).1 := fun k hk => by
  rw [sf_len] at hk
  have el := pS_len rs
  have l20 := ok.1
  have := (sfP_all _ _ rfl ok.2.1).2.2.2.2 k hk
  show jR (fsK (pS rs) k).1
  constructor <;> omega
/-- what readHeads leaves -/
def RH (h h' : jm_H) (F H q : Nat) (fl : List Int) (rs0 : List Rv) (t : List Int) (E : Prop) (o : jm_R) : Prop := ∃ z : Int, o = .inl (some (.inl (jz z))) ∧ jq F [2] (rg H 62) h h' ∧ (z = 0 ∨ z = 1) ∧ (z = 1 → ∃ (rs : List Rv) (q' : Nat), FB h' F fl q' ∧ q' ≤ q + 100 ∧ cH h' H rs (sf (pS rs)) ∧ okH rs ∧ (∀ k, k < rs.length → (rs.getD k rv0).2.2.2 = []) ∧ (E → rs = bl rs0 ∧ DR fl q' t)) ∧ (E → z = 1)
theorem s103 {d F H q rd : Nat} {h : jm_H} {fl t : List Int} {rs0 : List Rv} {E : Prop} (f : FB h F fl q) (l4 : fl.length ≤ 400) (b8 : by8 fl) (hq : q ≤ 1000) (hH : shH h H) (h0 : cH h H [] []) (nF : F ∉ rg H 62) (nF1 : F + 1 ∉ rg H 62) (hE : E → okH rs0 ∧ DR fl q ((rs0.length : Int) :: (rs0.flatMap hd3 ++ t))) : jm_E dh_pr (d + 4) 103 [.inr (.inl rd), .inr (.inl F), .inr (.inl H)] h (fun o h' => RH h h' F H q fl rs0 t E o) := by
  have nFH : ∀ i, i < 62 → H + i ≠ F := fun i hi e => nF (by rw [mem_rg]; omega)
  have hn : ∀ i, i < 62 → H + i ∉ F :: ([] : List Nat) := fun i hi => by simp; exact nFH i hi
  have L : ∀ (m : Nat) (q1 : Nat) (v3 v4 : Int) (h1 : jm_H) (rs : List Rv) (l5 l6 l7 l8 : Option jm_V), (v3 - v4).toNat = m → v4 = rs.length → 0 ≤ v3 → v3 ≤ 20 → jq F [2] (rg H 62) h h1 → FB h1 F fl q1 → q1 ≤ q + 1 + 3 * rs.length → cH h1 H rs (sf (pS rs)) → okH rs → (∀ k, k < rs.length → (rs.getD k rv0).2.2.2 = []) → (E → v3 = rs0.length ∧ rs = bl (rs0.take rs.length) ∧ DR fl q1 ((rs0.drop rs.length).flatMap hd3 ++ t)) → jm_W dh_pr (d + 3) 103 (20, [some (.inr (.inl rd)), some (.inr (.inl F)), some (.inr (.inl H)), some (.inl (jz v3)), some (.inl (jz v4)), l5, l6, l7, l8], [], h1) (fun o h' => RH h h' F H q fl rs0 t E o) := by
    intro m
    induction m with
    | zero =>
      intro q1 v3 v4 h1 rs l5 l6 l7 l8 em e4 hv0 hv p1 f1 hq1 hc ok ht hi
      have l20 := ok.1
      refine r103_20 ⟨⟨by omega, by omega⟩, ⟨by omega, by omega⟩, fun w => ⟨1, rfl, p1, Or.inr rfl, fun _ => ⟨rs, q1, f1, by omega, hc, ok, ht, fun e => ?_⟩, fun _ => rfl⟩, fun w => absurd w (by omega)⟩
      obtain ⟨i1, i2, i3⟩ := hi e
      rw [List.take_of_length_le (by omega)] at i2
      rw [List.drop_eq_nil_of_le (by omega)] at i3
      exact ⟨i2, i3⟩
    | succ m ih =>
      intro q1 v3 v4 h1 rs l5 l6 l7 l8 em e4 hv0 hv p1 f1 hq1 hc ok ht hi
      have l20 := ok.1
      refine r103_20 ⟨⟨by omega, by omega⟩, ⟨by omega, by omega⟩, fun w => absurd w (by omega), fun w => ⟨f1.1.1, jm_callI (tkX f1 l4 b8 (by omega)) ?_⟩⟩
      rintro z1 h2 ⟨q2, p2, f2, hq2, hz1, hE2⟩
      refine r103_30 ⟨f2.1.1, jm_callI (tkX f2 l4 b8 (by omega)) ?_⟩
      rintro z2 h3 ⟨q3, p3, f3, hq3, hz2, hE3⟩
      refine r103_38 ⟨f3.1.1, jm_callI (tkX f3 l4 b8 (by omega)) ?_⟩
      rintro z3 h4 ⟨q4, p4, f4, hq4, hz3, hE4⟩
      have P : jq F [2] [] h1 h4 := (p2.trans p3).trans p4
      have P4 : jq F [2] (rg H 62) h h4 := p1.trans (P.mono (by simp <;> omega) (by simp <;> omega))
      have hH4 := hH.js P4.1
      have hc4 : cH h4 H rs (sf (pS rs)) := hc.jf (jq_f P) hn
      have G : E → rs.length < rs0.length ∧ z1 - 1 = (rs0.getD rs.length rv0).1 ∧ z2 = (rs0.getD rs.length rv0).2.1 ∧ z3 - 1 = (rs0.getD rs.length rv0).2.2.1 ∧ DR fl q4 ((rs0.drop (rs.length + 1)).flatMap hd3 ++ t) ∧ ((rs.length = 0 → z1 - 1 = -1) ∧ (0 < rs.length → 0 ≤ z1 - 1 ∧ z1 - 1 < rs.length)) ∧ (0 ≤ z2 ∧ z2 < 4) ∧ (-1 ≤ z3 - 1 ∧ z3 - 1 < 4) := by
        intro e
        obtain ⟨i1, i2, i3⟩ := hi e
        have kk : rs.length < rs0.length := by omega
        rw [rv_drop kk, List.flatMap_cons, hd3] at i3
        simp only [List.append_assoc, List.cons_append, List.nil_append] at i3
        obtain ⟨a1, a2⟩ := hE2 _ _ i3
        obtain ⟨b1, b2⟩ := hE3 _ _ a2
        obtain ⟨c1, c2⟩ := hE4 _ _ b2
        obtain ⟨o1, o2, o3⟩ := (hE e).1
        have ok3 := o3 _ kk
        have v := o2 rs.length (by rw [pS_len]; exact kk)
        rw [pS_at kk] at v
        exact ⟨kk, by omega, b1, by omega, c2, ⟨fun x => by have := v.1 x; omega, fun x => by have := v.2 x; omega⟩, by omega, by omega⟩
      have bad : ¬ (((rs.length = 0 → z1 - 1 = -1) ∧ (0 < rs.length → 0 ≤ z1 - 1 ∧ z1 - 1 < rs.length)) ∧ (0 ≤ z2 ∧ z2 < 4) ∧ (-1 ≤ z3 - 1 ∧ z3 - 1 < 4)) → RH h h4 F H q fl rs0 t E (.inl (some (.inl (jz 0)))) := fun w => ⟨0, rfl, P4, Or.inl rfl, fun x => absurd x (by omega), fun e => absurd (G e).2.2.2.2.2 w⟩
      have K98 : ∀ (l8' : Option jm_V), ((rs.length = 0 → z1 - 1 = -1) ∧ (0 < rs.length → 0 ≤ z1 - 1 ∧ z1 - 1 < rs.length)) → (0 ≤ z2 ∧ z2 < 4) → (-1 ≤ z3 - 1 ∧ z3 - 1 < 4) → jm_E dh_pr (d + 3) 98 [.inr (.inl H), .inl (jz (z1 - 1)), .inl (jz z2)] h4 (jm_k dh_pr (d + 3) 103 (fun o h' => RH h h' F H q fl rs0 t E o) 113 [some (.inr (.inl rd)), some (.inr (.inl F)), some (.inr (.inl H)), some (.inl (jz v3)), some (.inl (jz v4)), some (.inl (jz (z1 - 1))), some (.inl (jz z2)), some (.inl (jz (z3 - 1))), l8'] [] 110) := by
        intro l8' g1 g2 g3
        refine jm_E_mono _ _ _ _ _ _ ?_ (s98 hH4 hc4 (by omega) ⟨by omega, by omega⟩ (jR_next ok))
        rintro o h5 ⟨rfl, hf5, hc5⟩
        have hH5 := hH4.js hf5.1
        have sk := hH5.2.2.2 rs.length (by omega)
        rw [← sf_snoc] at hc5
        have hc6 := cH_stL (l := z3 - 1) (k := rs.length) hc5 (by rw [List.length_append, List.length_singleton]; omega)
        rw [stL_last] at hc6
        have J : jf (rg H 62) h4 (jm_sI h5 (H + 2 + 3 * rs.length) 3 (jz (z3 - 1))) := hf5.sI (mem_rg.mpr (by omega))
        have ep : pS (rs ++ [(z1 - 1, z2, z3 - 1, [])]) = pS rs ++ [z1 - 1] := pS_snoc _ _
        refine r103_113 ⟨hH5.1, _, hH5.2.1, hH5.2.2.1.1, _, hH5.2.2.1.2, ⟨by omega, by omega, by omega⟩, H + 2 + 3 * rs.length, by rw [show v4.toNat = rs.length by omega]; exact sk.1, sk.2.1, ?_⟩
        refine ih q4 v3 _ _ (rs ++ [(z1 - 1, z2, z3 - 1, [])]) _ _ _ _ (by omega) (by rw [List.length_append, List.length_singleton]; omega) hv0 hv (P4.trans (jf_q J)) (FB_q f4 J nF nF1) (by rw [List.length_append, List.length_singleton]; omega) (by rw [ep]; exact hc6) (okH_snoc ok (by omega) g1.1 g1.2 g2 g3 ⟨Nat.zero_le _, fun v hv => by cases hv⟩) (fun k hk => ?_) (fun e => ?_)
        · rw [List.length_append, List.length_singleton] at hk
          by_cases ek : k = rs.length
          · rw [gD_n ek]
          · rw [gD_l (by omega)]; exact ht k (by omega)
        · obtain ⟨kk, c1, c2, c3, c4, -⟩ := G e
          obtain ⟨i1, i2, i3⟩ := hi e
          rw [List.length_append, List.length_singleton]
          refine ⟨i1, ?_, c4⟩
          rw [take_snoc' (d := rv0) kk]
          unfold bl at i2 ⊢
          rw [List.map_append, ← i2]
          show rs ++ [(z1 - 1, z2, z3 - 1, [])] = rs ++ [blk0 (rs0.getD rs.length rv0)]
          rw [c1, c2, c3]; rfl
      refine r103_44 ⟨⟨by omega, by omega⟩, fun w2 => ⟨hH4.1, jm_callI (s96 hH4.1 hc4.1 l20 ⟨by omega, by omega⟩) ?_⟩, fun w2 => ⟨⟨by omega, by omega⟩, fun w3 => ⟨fun _ => bad (by omega), fun x => absurd rfl x⟩, fun w3 => ⟨fun x => absurd x (by omega), fun _ => ⟨⟨by omega, by omega⟩, fun w4 => bad (by omega), fun w4 => ⟨fun w5 => bad (by omega), fun w5 => ⟨⟨by omega, by omega⟩, fun w6 => bad (by omega), fun w6 => ⟨fun w7 => ⟨hH4.1, K98 _ ⟨fun _ => w3, fun x => by omega⟩ ⟨w4, w5⟩ ⟨w6, w7⟩⟩, fun w7 => bad (by omega)⟩⟩⟩⟩⟩⟩⟩
      rintro z h5 ⟨rfl, ⟨rfl, g⟩ | ⟨rfl, g⟩⟩
      · exact r103_73 ⟨⟨by omega, by omega⟩, fun x => absurd x (by omega), fun _ => ⟨⟨by omega, by omega⟩, fun w4 => bad (by omega), fun w4 => ⟨fun w5 => bad (by omega), fun w5 => ⟨⟨by omega, by omega⟩, fun w6 => bad (by omega), fun w6 => ⟨fun w7 => ⟨hH4.1, K98 _ ⟨fun x => by omega, fun _ => g⟩ ⟨w4, w5⟩ ⟨w6, w7⟩⟩, fun w7 => bad (by omega)⟩⟩⟩⟩⟩
      · exact r103_73 ⟨⟨by omega, by omega⟩, fun _ => bad (fun x => g (x.1.2 (by omega))), fun x => absurd rfl x⟩
  refine e103 (r103_0 ⟨f.1.1, jm_callI (tkX f l4 b8 (by omega)) ?_⟩)
  rintro z h1 ⟨q1, p1, f1, hq1, hz, hE1⟩
  have P1 : jq F [2] (rg H 62) h h1 := p1.mono (by simp <;> omega) (by simp <;> omega)
  have bad : ¬ (0 ≤ z ∧ z ≤ 20) → RH h h1 F H q fl rs0 t E (.inl (some (.inl (jz 0)))) := fun w => ⟨0, rfl, P1, Or.inl rfl, fun x => absurd x (by omega), fun e => by
    obtain ⟨o1, o2⟩ := hE e
    obtain ⟨a1, a2⟩ := hE1 _ _ o2
    have := o1.1
    omega⟩
  refine r103_4 ⟨⟨by omega, by omega⟩, fun w => bad (by omega), fun w => ⟨fun w2 => L (z - 0).toNat q1 z 0 h1 [] _ _ _ _ rfl rfl w w2 P1 f1 (by show q1 ≤ q + 1 + 3 * 0; omega) (h0.jf (jq_f p1) hn) ⟨Nat.zero_le _, fun k hk => absurd hk (Nat.not_lt_zero k), fun k hk => absurd hk (Nat.not_lt_zero k)⟩ (fun k hk => absurd hk (Nat.not_lt_zero k)) (fun e => ?_), fun w2 => bad (by omega)⟩⟩
  obtain ⟨o1, o2⟩ := hE e
  obtain ⟨a1, a2⟩ := hE1 _ _ o2
  exact ⟨a1, rfl, a2⟩
theorem srcK_bl (rs : List Rv) (fs : List FS) (k : Nat) : srcK (bl rs) fs k = srcK rs fs k := by
  have : ((bl rs).getD k rv0).1 = (rs.getD k rv0).1 := by
    have e := gDm blk0 rs k rv0
    show ((rs.map blk0).getD k (blk0 rv0)).1 = _
    rw [e]; rfl
  unfold srcK srcOf
  rw [this]
theorem body_okS {rs : List Rv} (ok : okH rs) {j k : Nat} (hj : j < rs.length) (hk : k < rs.length) : okS (delta (rs.getD j rv0).2.2.2 (rs.getD k rv0).2.2.2).1 24 := by
  have h1 := (ok.2.2 j hj).2.2.1
  have h2 := (ok.2.2 k hk).2.2.1
  exact (delta_cnt h1).2.2.2.mono (by omega)
/-- what findBodies leaves -/
theorem qK {C q q1 q3 k : Nat} (a : q1 ≤ q + C * k) (b : q3 ≤ q1 + C) : q3 ≤ q + C * (k + 1) := by
  rw [Nat.mul_succ]
  omega
def RB (h h' : jm_H) (F rd n : Nat) (fl : List Int) (rs0 : List Rv) (E : Prop) (o : jm_R) : Prop := ∃ z : Int, o = .inl (some (.inl (jz z))) ∧ jq F [2] [rd + 1] h h' ∧ (z = 0 ∨ z = 1) ∧ (z = 1 → (∃ q', FB h' F fl q') ∧ ∃ bst : Nat → Nat, ∀ k, k < n → jm_I h' (rd + 1) k = jz (bst k : Int) ∧ bst k ≤ 1800000 ∧ (E → ∃ t, DR fl (bst k) (body rs0 (sf (pS rs0)) k ++ t))) ∧ (E → z = 1)
theorem s104 {d F H q rd : Nat} {h : jm_H} {fl : List Int} {rs rs0 : List Rv} {E : Prop} (f : FB h F fl q) (l4 : fl.length ≤ 400) (b8 : by8 fl) (hq : q ≤ 1000) (hrd : jm_T h rd = 6 ∧ jm_F h rd 0 = rd + 1 ∧ sha h (rd + 1) 20) (hH : shH h H) (hc : cH h H rs (sf (pS rs))) (ok : okH rs) (nF : ∀ i, i < 62 → H + i ≠ F) (nR : ∀ i, i < 62 → H + i ≠ rd + 1) (nD : F ≠ rd + 1 ∧ F + 1 ≠ rd + 1) (hE : E → okH rs0 ∧ rs = bl rs0 ∧ DR fl q ((List.range rs0.length).flatMap (body rs0 (sf (pS rs0))))) : jm_E dh_pr (d + 4) 104 [.inr (.inl rd), .inr (.inl F), .inr (.inl H)] h (fun o h' => RB h h' F rd rs.length fl rs0 E o) := by
  have l20 := ok.1
  have el := pS_len rs
  have hP := sfP_all _ _ rfl ok.2.1
  have okr := okR_ok ok
  have L : ∀ (m k q1 : Nat) (v3 : Int) (h1 : jm_H) (bst : Nat → Nat) (l4' : Option jm_V), k + m = rs.length → v3 = k → jq F [2] [rd + 1] h h1 → FB h1 F fl q1 → q1 ≤ q + 70000 * k → (∀ j, j < k → jm_I h1 (rd + 1) j = jz (bst j : Int) ∧ bst j ≤ 1800000 ∧ (E → ∃ t, DR fl (bst j) (body rs0 (sf (pS rs0)) j ++ t))) → (E → DR fl q1 ((List.range' k m).flatMap (body rs0 (sf (pS rs0))))) → jm_W dh_pr (d + 3) 104 (2, [some (.inr (.inl rd)), some (.inr (.inl F)), some (.inr (.inl H)), some (.inl (jz v3)), l4'], [], h1) (fun o h' => RB h h' F rd rs.length fl rs0 E o) := by
    intro m
    induction m with
    | zero =>
      intro k q1 v3 h1 bst l4' e e3 p1 f1 hq1 hb hi
      have h7 : 70000 * k ≤ 70000 * 20 := Nat.mul_le_mul_left _ (by omega)
      have hH1 := hH.js p1.1
      have hc1 : cH h1 H rs (sf (pS rs)) := hc.jf (jq_f p1) (fun i hi => by simp; exact ⟨nF i hi, nR i hi⟩)
      refine r104_2 ⟨hH1.1, _, hc1.1, ⟨by omega, by omega⟩, ⟨by omega, by omega⟩, fun _ => ⟨f1.1.1, _, f1.2.2, _, f1.2.1.1, ⟨by omega, by omega⟩, ⟨by omega, by omega⟩, fun w => ⟨0, rfl, p1, Or.inl rfl, fun x => absurd x (by omega), fun e => ?_⟩, fun w => ⟨1, rfl, p1, Or.inr rfl, fun _ => ⟨⟨q1, f1⟩, bst, fun j hj => hb j (by omega)⟩, fun _ => rfl⟩⟩, fun w => absurd w (by omega)⟩
      obtain ⟨i1, i2⟩ := hi e
      have i3 : fl.drop q1 = [] := i1
      have := congrArg List.length i3
      rw [List.length_drop] at this
      have i4 : fl.length - q1 = 0 := this
      omega
    | succ m ih =>
      intro k q1 v3 h1 bst l4' e e3 p1 f1 hq1 hb hi
      have h7 : 70000 * k ≤ 70000 * 20 := Nat.mul_le_mul_left _ (by omega)
      have kk : k < rs.length := by omega
      have ev : v3.toNat = k := by omega
      have hH1 := hH.js p1.1
      have hc1 : cH h1 H rs (sf (pS rs)) := hc.jf (jq_f p1) (fun i hi => by simp; exact ⟨nF i hi, nR i hi⟩)
      have rT : jm_T h1 rd = 6 := (p1.1.2.2.1 rd).trans hrd.1
      have rF : jm_F h1 rd 0 = rd + 1 := (p1.1.2.2.2.2.1 rd 0).trans hrd.2.1
      have rA := hrd.2.2.js p1.1
      have sk1 := hH1.2.2.2 k (by omega)
      have J : jf [rd + 1] h1 (jm_sI h1 (rd + 1) v3.toNat (jz (q1 : Int))) := (jf.refl _ h1).sI (by simp <;> omega)
      have hH2 := hH1.js J.1
      have hc2 := hc1.jf J (fun i hi => by simp; exact nR i hi)
      have sk := hH2.2.2.2 k (by omega)
      have ck : cR (jm_sI h1 (rd + 1) v3.toNat (jz (q1 : Int))) (H + 2 + 3 * k) (rs.getD k rv0) (fsK (pS rs) k) := hc2.2.2.2 k kk
      have f2 := FB_q f1 J (by simp; exact nD.1) (by simp; omega)
      have P2 : jq F [2] [rd + 1] h (jm_sI h1 (rd + 1) v3.toNat (jz (q1 : Int))) := p1.trans (jf_q J)
      have b2 : ∀ bst' : Nat → Nat, (∀ j, j < k → bst' j = bst j) → bst' k = q1 → (E → ∃ t, DR fl q1 (body rs0 (sf (pS rs0)) k ++ t)) → ∀ h3 : jm_H, (∀ j, jm_I h3 (rd + 1) j = jm_I (jm_sI h1 (rd + 1) v3.toNat (jz (q1 : Int))) (rd + 1) j) → ∀ j, j < k + 1 → jm_I h3 (rd + 1) j = jz (bst' j : Int) ∧ bst' j ≤ 1800000 ∧ (E → ∃ t, DR fl (bst' j) (body rs0 (sf (pS rs0)) j ++ t)) := by
        intro bst' c1 c2 c3 h3 c4 j hj
        rw [c4, jr_I_sI]
        by_cases ej : j = k
        · rw [if_pos ⟨rfl, by omega⟩, ej, c2]
          exact ⟨rfl, by omega, c3⟩
        · rw [if_neg (by omega), c1 j (by omega)]; exact hb j (by omega)
      have G : E → k < rs0.length ∧ DR fl q1 (body rs0 (sf (pS rs0)) k ++ (List.range' (k + 1) m).flatMap (body rs0 (sf (pS rs0)))) := by
        intro e5
        have i1 := hi e5
        rw [List.range'_succ, List.flatMap_cons] at i1
        obtain ⟨-, o2, -⟩ := hE e5
        have : rs.length = rs0.length := by rw [o2, bl_len]
        exact ⟨by omega, i1⟩
      have srcE : E → srcOf (rs.getD k rv0) (fsK (pS rs) k) = srcK rs0 (sf (pS rs0)) k := fun e5 => by
        obtain ⟨-, o2, -⟩ := hE e5
        rw [← srcK_bl rs0, ← pS_bl rs0, ← o2]; rfl
      have K : ∀ z (h3 : jm_H) (q3 : Nat) (l4'' : Option jm_V), jq F [2] [] (jm_sI h1 (rd + 1) v3.toNat (jz (q1 : Int))) h3 → FB h3 F fl q3 → q3 ≤ q1 + 70000 → z = 1 → (E → DR fl q3 ((List.range' (k + 1) m).flatMap (body rs0 (sf (pS rs0))))) → jm_W dh_pr (d + 3) 104 (2, [some (.inr (.inl rd)), some (.inr (.inl F)), some (.inr (.inl H)), some (.inl (jz (v3 + 1))), l4''], [], h3) (fun o h' => RB h h' F rd rs.length fl rs0 E o) := by
        intro z h3 q3 l4'' p3 f3 hq3 hz hi3
        exact ih (k + 1) q3 _ h3 (fun j => if j = k then q1 else bst j) _ (by omega) (by omega) (P2.trans (p3.mono (by simp <;> omega) (by simp <;> omega))) f3 (qK hq1 hq3) (b2 (fun j => if j = k then q1 else bst j) (fun j hj => if_neg (by omega)) (if_pos rfl) (fun e5 => ⟨_, (G e5).2⟩) h3 (fun j => p3.2 _ _ (by simp <;> omega) (fun x => nD.1 x.1.symm))) hi3
      have bad : ∀ (h3 : jm_H), jq F [2] [] (jm_sI h1 (rd + 1) v3.toNat (jz (q1 : Int))) h3 → ¬ E → RB h h3 F rd rs.length fl rs0 E (.inl (some (.inl (jz 0)))) := fun h3 p3 w => ⟨0, rfl, P2.trans (p3.mono (by simp <;> omega) (by simp <;> omega)), Or.inl rfl, fun x => absurd x (by omega), fun e5 => absurd e5 w⟩
      refine r104_2 ⟨hH1.1, _, hc1.1, ⟨by omega, by omega⟩, ⟨by omega, by omega⟩, fun w => absurd w (by omega), fun _ => ⟨rT, _, rF, f1.1.1, _, f1.2.2, rA.1, _, rA.2, ⟨by omega, by omega, by omega⟩, _, hH1.2.1, hH1.2.2.1.1, _, hH1.2.2.1.2, ⟨by omega, by omega, by omega⟩, H + 2 + 3 * k, by rw [ev]; exact sk1.1, sk1.2.1, jm_callI (s117 sk.2 ck (okr k kk).2.1) ?_⟩⟩
      rintro z h3 ⟨rfl, rfl⟩
      have sr := (okr k kk).2.2
      refine r104_29 ⟨sr, fun w => ⟨fun _ => ⟨(J.1.2.2.1 rd).trans rT, ?_⟩, fun x => absurd rfl x⟩, fun w => ⟨fun x => absurd x (by omega), fun _ => ⟨(J.1.2.2.1 rd).trans rT, jm_callI (s105 (rd := rd) f2 l4 b8 (by omega)) ?_⟩⟩⟩
      · -- steps
        refine jm_callI (s106 (rd := rd) (E := E) (acc := (delta (rs0.getD (srcK rs0 (sf (pS rs0)) k).toNat rv0).2.2.2 (rs0.getD k rv0).2.2.2).1) (ad := (delta (rs0.getD (srcK rs0 (sf (pS rs0)) k).toNat rv0).2.2.2 (rs0.getD k rv0).2.2.2).2) (t := (List.range' (k + 1) m).flatMap (body rs0 (sf (pS rs0)))) f2 l4 b8 (by omega) (fun e5 => ?_) (fun e5 => ?_)) ?_
        · obtain ⟨g1, g2⟩ := G e5
          have gs := srcE e5
          have okr0 := okR_ok (hE e5).1
          have sb := (sfP_all _ _ rfl (hE e5).1.2.1).2.2.2.2 k (by rw [pS_len]; exact g1)
          have v0 := (hE e5).1.2.1 k (by rw [pS_len]; exact g1)
          rw [pS_at g1] at v0
          have q0 : 0 ≤ srcK rs0 (sf (pS rs0)) k ∧ srcK rs0 (sf (pS rs0)) k < rs0.length := by
            rw [gs] at w
            rw [srcK_sf, srcOf] at w ⊢
            rw [pS_len] at sb
            split at w
            · rename_i c; rw [if_pos c]; omega
            · rename_i c
              rw [if_neg c]
              rcases Nat.eq_zero_or_pos k with e0 | e0
              · have := v0.1 e0; omega
              · have := v0.2 e0; omega
          rw [body, if_pos q0] at g2
          exact g2
        · obtain ⟨g1, g2⟩ := G e5
          exact (delta_cnt (by
            by_cases c : (srcK rs0 (sf (pS rs0)) k).toNat < rs0.length
            · exact ((hE e5).1.2.2 _ c).2.2.1
            · rw [dh_getD _ _ (by omega)]; exact Nat.zero_le _)).2.2.2.mono (by
            have h2 := ((hE e5).1.2.2 k g1).2.2.1
            by_cases c : (srcK rs0 (sf (pS rs0)) k).toNat < rs0.length
            · have := ((hE e5).1.2.2 _ c).2.2.1
              omega
            · rw [dh_getD _ _ (by omega)]
              show 0 + _ ≤ 24
              omega)
        · rintro z h4 ⟨q4, p4, f4, hq4, hz, hE4⟩
          rcases hz with rfl | rfl
          · exact r104_61 ⟨⟨by omega, by omega⟩, fun x => absurd rfl x, fun _ => bad h4 p4 (fun e5 => by have := (hE4 e5).1; omega)⟩
          · exact r104_61 ⟨⟨by omega, by omega⟩, fun _ => K 1 h4 q4 _ p4 f4 hq4 rfl (fun e5 => (hE4 e5).2), fun x => absurd x (by omega)⟩
      · -- a whole text
        rintro z h4 ⟨q4, p4, f4, hq4, hz, hE4⟩
        have g5 : E → z = 1 ∧ DR fl q4 ((List.range' (k + 1) m).flatMap (body rs0 (sf (pS rs0)))) := fun e5 => by
          obtain ⟨g1, g2⟩ := G e5
          have gs := srcE e5
          rw [body, if_neg (by rw [← gs, w]; omega)] at g2
          exact hE4 _ _ g2
        rcases hz with rfl | rfl
        · exact r104_50 ⟨⟨by omega, by omega⟩, fun _ => bad h4 p4 (fun e5 => by have := (g5 e5).1; omega), fun x => absurd rfl x⟩
        · exact r104_50 ⟨⟨by omega, by omega⟩, fun x => absurd x (by omega), fun _ => K 1 h4 q4 _ p4 f4 hq4 rfl (fun e5 => (g5 e5).2)⟩
  refine e104 (r104_0 (L rs.length 0 q 0 h (fun _ => 0) _ (by omega) (by omega) (jq.refl _ _ _ _) f (by omega) (fun j hj => absurd hj (Nat.not_lt_zero j)) (fun e5 => ?_)))
  obtain ⟨-, o2, o3⟩ := hE e5
  have : rs.length = rs0.length := by rw [o2, bl_len]
  rw [this, ← List.range_eq_range']
  exact o3
