/-! The class's Reader: bodies; load. -/
def setT (rs : List Rv) (k : Nat) (t : List Int) : List Rv := rs.set k ((rs.getD k rv0).1, (rs.getD k rv0).2.1, (rs.getD k rv0).2.2.1, t)
theorem setT_len (rs : List Rv) (k : Nat) (t : List Int) : (setT rs k t).length = rs.length := List.length_set
theorem setT_at {rs : List Rv} {k : Nat} {t : List Int} (hk : k < rs.length) (i : Nat) : (setT rs k t).getD i rv0 = if i = k then ((rs.getD k rv0).1, (rs.getD k rv0).2.1, (rs.getD k rv0).2.2.1, t) else rs.getD i rv0 := gD_set hk
theorem bl_setT {rs : List Rv} {k : Nat} {t : List Int} (hk : k < rs.length) : bl (setT rs k t) = bl rs := by
  unfold bl setT
  apply List.ext_getElem?
  intro i
  rw [List.getElem?_map, List.getElem?_map]
  by_cases e : i = k
  · subst e
    rw [List.getElem?_set_self hk, List.getD_eq_getElem?_getD, List.getElem?_eq_getElem hk]; rfl
  · rw [List.getElem?_set_ne (Ne.symm e)]
theorem pS_of_bl {rs rs' : List Rv} (h : bl rs = bl rs') : pS rs = pS rs' := by rw [← pS_bl rs, h, pS_bl]
theorem len_of_bl {rs rs' : List Rv} (h : bl rs = bl rs') : rs.length = rs'.length := by rw [← bl_len rs, h, bl_len]
theorem hd_of_bl {rs rs' : List Rv} (h : bl rs = bl rs') {k : Nat} (hk : k < rs.length) : (rs.getD k rv0).1 = (rs'.getD k rv0).1 ∧ (rs.getD k rv0).2.1 = (rs'.getD k rv0).2.1 ∧ (rs.getD k rv0).2.2.1 = (rs'.getD k rv0).2.2.1 := by
  have e1 := bl_at hk
  have e2 := bl_at (rs := rs') (k := k) (by rw [← len_of_bl h]; exact hk)
  rw [h, e2] at e1
  unfold blk0 at e1
  injection e1 with a1 a2
  injection a2 with a2 a3
  injection a3 with a3 a4
  exact ⟨a1.symm, a2.symm, a3.symm⟩
theorem rv_ext {rs rs' : List Rv} (h : bl rs = bl rs') (ht : ∀ k, k < rs.length → (rs.getD k rv0).2.2.2 = (rs'.getD k rv0).2.2.2) : rs = rs' := by
  apply List.ext_getElem (len_of_bl h)
  intro i h1 h2
  have a := hd_of_bl h h1
  have b := ht i h1
  rw [List.getD_eq_getElem?_getD, List.getD_eq_getElem?_getD, List.getElem?_eq_getElem h1, List.getElem?_eq_getElem h2] at a b
  simp only [Option.getD_some] at a b
  exact Prod.ext a.1 (Prod.ext a.2.1 (Prod.ext a.2.2 b))
theorem okH_setT {rs : List Rv} {k : Nat} {t : List Int} (ok : okH rs) (hk : k < rs.length) (h1 : t.length ≤ 12) (h2 : lnv t) : okH (setT rs k t) := by
  obtain ⟨o1, o2, o3⟩ := ok
  refine ⟨by rw [setT_len]; exact o1, by rw [pS_of_bl (bl_setT hk)]; exact o2, fun i hi => ?_⟩
  rw [setT_len] at hi
  rw [setT_at hk]
  by_cases e : i = k
  · rw [if_pos e]
    have := o3 k hk
    exact ⟨this.1, this.2.1, h1, h2⟩
  · rw [if_neg e]; exact o3 i hi
theorem cH_setT {h h' : jm_H} {H k F : Nat} {rs : List Rv} {fs : List FS} {ys : List Int} (c : cH h H rs fs) (hk : k < rs.length) (p : jq F [2] [H + 2 + 3 * k + 1, H + 2 + 3 * k + 1 + 1] h h') (nF : ∀ i, i < 62 → H + i ≠ F) (hx : cx h' (H + 2 + 3 * k + 1) ys) : cH h' H (setT rs k ys) fs := by
  obtain ⟨c1, c2, c3, c4⟩ := c
  have nb : ∀ b, H ≤ b → b < H + 62 → b ≠ F := fun b h1 h2 => by have := nF (b - H) (by omega); rwa [show H + (b - H) = b by omega] at this
  have J := jq_f p
  refine ⟨by rw [p.2 H 1 (by simp; omega) (fun x => nF 0 (by omega) x.1), setT_len]; exact c1, by rw [setT_len]; exact c2, by rw [setT_len]; exact c3, fun i hi => ?_⟩
  rw [setT_len] at hi
  rw [setT_at hk]
  by_cases e : i = k
  · rw [if_pos e, e]
    obtain ⟨⟨a1, a2, a3, a4, a5, a6, a7, a8, a9⟩, -⟩ := c4 k hk
    have q : ∀ j, jm_I h' (H + 2 + 3 * k) j = jm_I h (H + 2 + 3 * k) j := fun j => p.2 _ j (by simp <;> omega) (fun x => nb _ (by omega) (by omega) x.1)
    exact ⟨⟨(q _).trans a1, (q _).trans a2, (q _).trans a3, (q _).trans a4, (q _).trans a5, (q _).trans a6, (q _).trans a7, (q _).trans a8, (q _).trans a9⟩, hx⟩
  · rw [if_neg e]
    have n1 := nb (H + 2 + 3 * i) (by omega) (by omega)
    have n2 := nb (H + 2 + 3 * i + 1) (by omega) (by omega)
    have n3 := nb (H + 2 + 3 * i + 2) (by omega) (by omega)
    exact (c4 i hi).jf J (by simp; omega) (by simp; omega) (by simp; omega)
/-- a body rests on another revision's text -/
theorem src_ne {rs : List Rv} (ok : okH rs) {k : Nat} (hk : k < rs.length) (h0 : 0 ≤ srcK rs (sf (pS rs)) k) (h1 : srcK rs (sf (pS rs)) k < rs.length) : srcK rs (sf (pS rs)) k ≠ k ∧ (((fsK (pS rs) k).2.2.1 = -1 ∧ (k : Int) < srcK rs (sf (pS rs)) k ∧ (fsK (pS rs) (srcK rs (sf (pS rs)) k).toNat).2.2.1 = -1) ∨ (¬ (fsK (pS rs) k).2.2.1 = -1 ∧ srcK rs (sf (pS rs)) k < k)) := by
  have el := pS_len rs
  have hP := sfP_all _ _ rfl ok.2.1
  have v := ok.2.1 k (by omega)
  rw [pS_at hk] at v
  rw [srcK_sf, srcOf] at *
  by_cases c : (fsK (pS rs) k).2.2.1 = -1
  · rw [if_pos c] at h0 h1 ⊢
    obtain ⟨g1, g2, g3⟩ := hP.2.2.1 k (by omega) c (by omega)
    exact ⟨by omega, Or.inl ⟨c, g1, g3⟩⟩
  · rw [if_neg c] at h0 h1 ⊢
    rcases Nat.eq_zero_or_pos k with e | e
    · have := v.1 e; omega
    · have := v.2 e
      exact ⟨by omega, Or.inr ⟨c, this.2⟩⟩
/-- what readBody leaves -/
def RY (h h' : jm_H) (F H k : Nat) (rs rs0 : List Rv) (E : Prop) (o : jm_R) : Prop := ∃ z : Int, o = .inl (some (.inl (jz z))) ∧ jq F [2] (rg H 62) h h' ∧ (z = 0 ∨ z = 1) ∧ (z = 1 → ∃ ys, cH h' H (setT rs k ys) (sf (pS rs)) ∧ ys.length ≤ 12 ∧ lnv ys ∧ (E → ys = (rs0.getD k rv0).2.2.2)) ∧ (E → z = 1)
theorem s108 {d F H rd k b : Nat} {h : jm_H} {fl : List Int} {rs rs0 : List Rv} {E : Prop} (f : shB h F ∧ cb h F fl) (l4 : fl.length ≤ 400) (b8 : by8 fl) (hrd : jm_T h rd = 6 ∧ jm_F h rd 0 = rd + 1 ∧ sha h (rd + 1) 20) (hb : jm_I h (rd + 1) k = jz (b : Int)) (hb18 : b ≤ 1800000) (hH : shH h H) (hc : cH h H rs (sf (pS rs))) (ok : okH rs) (hk : k < rs.length) (nF : ∀ i, i < 62 → H + i ≠ F ∧ H + i ≠ F + 1) (hE : E → okH rs0 ∧ bl rs = bl rs0 ∧ (∃ t, DR fl b (body rs0 (sf (pS rs0)) k ++ t)) ∧ (rs.getD k rv0).2.2.2 = [] ∧ (0 ≤ srcK rs (sf (pS rs)) k → srcK rs (sf (pS rs)) k < rs.length → (rs.getD (srcK rs (sf (pS rs)) k).toNat rv0).2.2.2 = (rs0.getD (srcK rs (sf (pS rs)) k).toNat rv0).2.2.2)) : jm_E dh_pr (d + 5) 108 [.inr (.inl rd), .inr (.inl F), .inr (.inl H), .inl (jz (k : Int))] h (fun o h' => RY h h' F H k rs rs0 E o) := by
  have l20 := ok.1
  have okr := okR_ok ok
  have nb : ∀ b, H ≤ b → b < H + 62 → b ≠ F ∧ b ≠ F + 1 := fun b h1 h2 => by have := nF (b - H) (by omega); rwa [show H + (b - H) = b by omega] at this
  have ek : (k : Int).toNat = k := by omega
  obtain ⟨t, htt⟩ : ∃ t, E → DR fl b (body rs0 (sf (pS rs0)) k ++ t) := by
    by_cases e : E
    · obtain ⟨t, ht⟩ := (hE e).2.2.1
      exact ⟨t, fun _ => ht⟩
    · exact ⟨[], fun x => absurd x e⟩
  have srcE : E → srcK rs0 (sf (pS rs0)) k = srcK rs (sf (pS rs)) k := fun e => by
    obtain ⟨-, o2, -⟩ := hE e
    rw [← srcK_bl rs0, ← pS_bl rs0, ← o2, srcK_bl, pS_bl]
  have lenE : E → rs.length = rs0.length := fun e => len_of_bl (hE e).2.1
  have sk := hH.2.2.2 k (by omega)
  have ck : cR h (H + 2 + 3 * k) (rs.getD k rv0) (fsK (pS rs) k) := hc.2.2.2 k hk
  have p1 : jq F [2] [] h (jm_sI h F 2 (jz (b : Int))) := (jq.refl _ _ _ h).sM (by simp <;> omega)
  have f1 : FB (jm_sI h F 2 (jz (b : Int))) F fl b := ⟨f.1.js p1.1, cb_q f.2 p1 (by simp <;> omega) (by simp <;> omega), jr_I_self⟩
  have hH1 := hH.js p1.1
  have hc1 : cH (jm_sI h F 2 (jz (b : Int))) H rs (sf (pS rs)) := hc.jf (jq_f p1) (fun i hi => by simp; exact (nF i hi).1)
  have sk1 := hH1.2.2.2 k (by omega)
  have ck1 := hc1.2.2.2 k hk
  have rT : jm_T (jm_sI h F 2 (jz (b : Int))) rd = 6 := (p1.1.2.2.1 rd).trans hrd.1
  have na := nb (H + 2 + 3 * k + 1) (by omega) (by omega)
  have na1 := nb (H + 2 + 3 * k + 1 + 1) (by omega) (by omega)
  have n0 : F ∉ [H + 2 + 3 * k + 1, H + 2 + 3 * k + 1 + 1] := by simp; omega
  have n1 : F + 1 ∉ [H + 2 + 3 * k + 1, H + 2 + 3 * k + 1 + 1] := by simp; omega
  have upJ : ∀ {h' : jm_H}, jq F [2] [H + 2 + 3 * k + 1, H + 2 + 3 * k + 1 + 1] (jm_sI h F 2 (jz (b : Int))) h' → jq F [2] (rg H 62) h h' := fun p => (p1.mono (by simp <;> omega) (by simp <;> omega)).trans (p.mono (by simp <;> omega) (fun x hx => by rw [mem_rg]; simp at hx; omega))
  refine e108 (r108_0 ⟨hH.1, _, hH.2.1, hH.2.2.1.1, _, hH.2.2.1.2, ⟨by omega, by omega, by omega⟩, H + 2 + 3 * k, by rw [ek]; exact sk.1, sk.2.1, _, sk.2.2.1, jm_callI (s117 sk.2 ck (okr k hk).2.1) ?_⟩)
  rintro z h' ⟨rfl, rfl⟩
  have sr : jR (srcK rs (sf (pS rs)) k) := (okr k hk).2.2
  refine r108_20 ⟨hrd.1, _, hrd.2.1, hrd.2.2.1, _, hrd.2.2.2, ⟨by omega, by omega, by omega⟩, (b : Int), by rw [ek]; exact hb, f.1.1, hH.1, jm_callI (s96 hH1.1 hc1.1 l20 sr) ?_⟩
  rintro z h' ⟨rfl, ⟨rfl, g⟩ | ⟨rfl, g⟩⟩
  · replace g : 0 ≤ srcK rs (sf (pS rs)) k ∧ srcK rs (sf (pS rs)) k < rs.length := g
    obtain ⟨sn, -⟩ := src_ne ok hk g.1 g.2
    have ss := hH1.2.2.2 (srcK rs (sf (pS rs)) k).toNat (by omega)
    have cs := hc1.2.2.2 (srcK rs (sf (pS rs)) k).toNat (by omega)
    have nbs := nb (H + 2 + 3 * (srcK rs (sf (pS rs)) k).toNat + 1) (by omega) (by omega)
    have nbs1 := nb (H + 2 + 3 * (srcK rs (sf (pS rs)) k).toNat + 1 + 1) (by omega) (by omega)
    refine r108_38 ⟨⟨by omega, by omega⟩, fun x => absurd x (by omega), fun _ => ⟨hH1.1, _, hH1.2.1, hH1.2.2.1.1, _, hH1.2.2.1.2, ⟨g.1, by show srcK rs (sf (pS rs)) k < _; omega, by omega⟩, H + 2 + 3 * (srcK rs (sf (pS rs)) k).toNat, ss.1, ss.2.1, _, ss.2.2.1, rT, jm_callI (s110 (E := E) (A := (rs.getD (srcK rs (sf (pS rs)) k).toNat rv0).2.2.2) (B := (rs0.getD k rv0).2.2.2) (t := t) f1 l4 b8 (by omega) rT sk1.2.2.2 ck1.2 (ok.2.2 k hk).2.2.2 ss.2.2.2 cs.2 (ok.2.2 _ (by omega)).2.2.2 n0 n1 (by simp; omega) (by simp; omega) nbs.1 nbs1.1 (fun e => ?_)) ?_⟩⟩
    · obtain ⟨o1, o2, -, o4, o5⟩ := hE e
      have d1 := htt e
      have k0 : k < rs0.length := by rw [← lenE e]; exact hk
      rw [body, if_pos (by rw [srcE e, ← lenE e]; exact g), srcE e, ← o5 g.1 g.2] at d1
      exact ⟨d1, o4, (o1.2.2 k k0).2.2.2, (o1.2.2 k k0).2.2.1⟩
    · rintro z h2 ⟨p2, hz, hz1, hzE⟩
      refine r108_58 ⟨hz, z, rfl, upJ p2, hz, fun e => ?_, hzE⟩
      obtain ⟨ys, y1, y2, y3⟩ := hz1 e
      exact ⟨ys, cH_setT hc1 hk p2 (fun i hi => (nF i hi).1) y1, y1.2.1, y2, y3⟩
  · replace g : ¬ (0 ≤ srcK rs (sf (pS rs)) k ∧ srcK rs (sf (pS rs)) k < rs.length) := g
    refine r108_38 ⟨⟨by omega, by omega⟩, fun _ => ⟨rT, jm_callI (s109 (rd := rd) (E := E) (ls := (rs0.getD k rv0).2.2.2) (t := t) f1 l4 b8 (by omega) sk1.2.2.2 ck1.2 (ok.2.2 k hk).2.2.2 n0 n1 (fun e => ?_)) ?_⟩, fun x => absurd rfl x⟩
    · obtain ⟨o1, o2, -, o4, o5⟩ := hE e
      have d1 := htt e
      have k0 : k < rs0.length := by rw [← lenE e]; exact hk
      rw [body, if_neg (by rw [srcE e, ← lenE e]; exact g)] at d1
      refine ⟨d1, (o1.2.2 k k0).2.2.2, ?_⟩
      rw [o4]
      have := (o1.2.2 k k0).2.2.1
      show 0 + _ ≤ 12
      omega
    · rintro z h2 ⟨q2, ys, p2, f2, hq2, hz, hy, ly, hzE⟩
      refine r108_68 ⟨hz, z, rfl, upJ p2, hz, fun _ => ⟨ys, cH_setT hc1 hk p2 (fun i hi => (nF i hi).1) hy, hy.2.1, ly, fun e => ?_⟩, fun e => (hzE e).1⟩
      obtain ⟨-, -, -, o4, -⟩ := hE e
      rw [(hzE e).2.1, o4]; rfl
/-- what readBodies leaves -/
def RZ (h h' : jm_H) (F H : Nat) (rs0 : List Rv) (E : Prop) (o : jm_R) : Prop := ∃ z : Int, o = .inl (some (.inl (jz z))) ∧ jq F [2] (rg H 62) h h' ∧ (z = 0 ∨ z = 1) ∧ (z = 1 → ∃ rs, cH h' H rs (sf (pS rs)) ∧ okH rs ∧ (E → rs = rs0)) ∧ (E → z = 1)
theorem s107 {d F H rd : Nat} {h : jm_H} {fl : List Int} {rs1 rs0 : List Rv} {bst : Nat → Nat} {E : Prop} (f : shB h F ∧ cb h F fl) (l4 : fl.length ≤ 400) (b8 : by8 fl) (hrd : jm_T h rd = 6 ∧ jm_F h rd 0 = rd + 1 ∧ sha h (rd + 1) 20) (hb : ∀ k, k < rs1.length → jm_I h (rd + 1) k = jz (bst k : Int) ∧ bst k ≤ 1800000 ∧ (E → ∃ t, DR fl (bst k) (body rs0 (sf (pS rs0)) k ++ t))) (hH : shH h H) (hc : cH h H rs1 (sf (pS rs1))) (ok1 : okH rs1) (ht1 : ∀ k, k < rs1.length → (rs1.getD k rv0).2.2.2 = []) (nF : ∀ i, i < 62 → H + i ≠ F ∧ H + i ≠ F + 1) (nR : ∀ i, i < 62 → H + i ≠ rd + 1) (nD : rd + 1 ≠ F) (hE : E → okH rs0 ∧ rs1 = bl rs0) : jm_E dh_pr (d + 6) 107 [.inr (.inl rd), .inr (.inl F), .inr (.inl H)] h (fun o h' => RZ h h' F H rs0 E o) := by
  have l20 := ok1.1
  have el := pS_len rs1
  have hP := sfP_all _ _ rfl ok1.2.1
  have nFm : F ∉ rg H 62 ∧ F + 1 ∉ rg H 62 ∧ rd + 1 ∉ rg H 62 := by
    refine ⟨fun x => ?_, fun x => ?_, fun x => ?_⟩
    · rw [mem_rg] at x
      have := (nF (F - H) (by omega)).1
      omega
    · rw [mem_rg] at x
      have := (nF (F + 1 - H) (by omega)).2
      omega
    · rw [mem_rg] at x
      have := nR (rd + 1 - H) (by omega)
      omega
  have lenE : E → rs1.length = rs0.length := fun e => by rw [(hE e).2, bl_len]
  have fE : E → pS rs0 = pS rs1 := fun e => by rw [(hE e).2, pS_bl]
  -- keep: what stays the same
  have keep : ∀ {h1 : jm_H}, jq F [2] (rg H 62) h h1 → (shB h1 F ∧ cb h1 F fl) ∧ (jm_T h1 rd = 6 ∧ jm_F h1 rd 0 = rd + 1 ∧ sha h1 (rd + 1) 20) ∧ (∀ k, k < rs1.length → jm_I h1 (rd + 1) k = jz (bst k : Int)) := fun p => ⟨⟨f.1.js p.1, cb_q f.2 p nFm.1 nFm.2.1⟩, ⟨(p.1.2.2.1 rd).trans hrd.1, (p.1.2.2.2.2.1 rd 0).trans hrd.2.1, hrd.2.2.js p.1⟩, fun k hk => (p.2 _ _ nFm.2.2 (fun x => nD x.1)).trans (hb k hk).1⟩
  -- one body
  have one : ∀ (k : Nat) (h1 : jm_H) (rs : List Rv), k < rs1.length → jq F [2] (rg H 62) h h1 → cH h1 H rs (sf (pS rs1)) → okH rs → bl rs = bl rs1 → (E → (rs.getD k rv0).2.2.2 = [] ∧ (0 ≤ srcK rs (sf (pS rs)) k → srcK rs (sf (pS rs)) k < rs.length → (rs.getD (srcK rs (sf (pS rs)) k).toNat rv0).2.2.2 = (rs0.getD (srcK rs (sf (pS rs)) k).toNat rv0).2.2.2)) → jm_E dh_pr (d + 5) 108 [.inr (.inl rd), .inr (.inl F), .inr (.inl H), .inl (jz (k : Int))] h1 (fun o h' => RY h1 h' F H k rs rs0 E o) := by
    intro k h1 rs hk p1 hc1 okr eb hi
    obtain ⟨k1, k2, k3⟩ := keep p1
    have ep := pS_of_bl eb
    have lr := len_of_bl eb
    rw [← ep] at hc1
    refine s108 k1 l4 b8 k2 (k3 k hk) (hb k hk).2.1 (hH.js p1.1) hc1 okr (by omega) nF (fun e => ?_)
    obtain ⟨o1, o2⟩ := hE e
    obtain ⟨i1, i2⟩ := hi e
    exact ⟨o1, by rw [eb, o2]; unfold bl; rw [List.map_map]; rfl, (hb k hk).2.2 e, i1, i2⟩
  have fk : ∀ k, k < rs1.length → jR (fsK (pS rs1) k).2.2.1 := fun k hk => by
    have := hP.2.2.2.2 k (by omega)
    constructor <;> omega
  have CK : ∀ {h1 : jm_H} {rs : List Rv}, cH h1 H rs (sf (pS rs1)) → bl rs = bl rs1 → ∀ k, k < rs1.length → cR h1 (H + 2 + 3 * k) (rs.getD k rv0) (fsK (pS rs1) k) := fun c eb k hk => c.2.2.2 k (by rw [len_of_bl eb]; exact hk)
  -- the branches
  have L2 : ∀ (m k : Nat) (v3 : Int) (h1 : jm_H) (rs : List Rv), k + m = rs1.length → v3 = k → jq F [2] (rg H 62) h h1 → cH h1 H rs (sf (pS rs1)) → okH rs → bl rs = bl rs1 → (E → ∀ j, j < rs1.length → (rs.getD j rv0).2.2.2 = if (fsK (pS rs1) j).2.2.1 = -1 ∨ j < k then (rs0.getD j rv0).2.2.2 else []) → jm_W dh_pr (d + 5) 107 (43, [some (.inr (.inl rd)), some (.inr (.inl F)), some (.inr (.inl H)), some (.inl (jz v3))], [], h1) (fun o h' => RZ h h' F H rs0 E o) := by
    intro m
    induction m with
    | zero =>
      intro k v3 h1 rs e e3 p1 hc1 okr eb hi
      have hH1 := hH.js p1.1
      have lr := len_of_bl eb
      refine r107_43 ⟨hH1.1, _, hc1.1, ⟨by omega, by omega⟩, ⟨by omega, by omega⟩, fun _ => ⟨1, rfl, p1, Or.inr rfl, fun _ => ⟨rs, by rw [pS_of_bl eb]; exact hc1, okr, fun e5 => ?_⟩, fun _ => rfl⟩, fun w => absurd w (by omega)⟩
      refine rv_ext (by rw [eb, (hE e5).2]; unfold bl; rw [List.map_map]; rfl) (fun j hj => ?_)
      rw [hi e5 j (by omega), if_pos (Or.inr (by omega))]
    | succ m ih =>
      intro k v3 h1 rs e e3 p1 hc1 okr eb hi
      subst e3
      have hH1 := hH.js p1.1
      have lr := len_of_bl eb
      have kk : k < rs1.length := by omega
      have sk := hH1.2.2.2 k (by omega)
      refine r107_43 ⟨hH1.1, _, hc1.1, ⟨by omega, by omega⟩, ⟨by omega, by omega⟩, fun w => absurd w (by omega), fun _ => ⟨_, hH1.2.1, hH1.2.2.1.1, _, hH1.2.2.1.2, ⟨by omega, by omega, by omega⟩, H + 2 + 3 * k, by rw [show (k : Int).toNat = k by omega]; exact sk.1, sk.2.1, jm_callI (s116 sk.2 (CK hc1 eb k kk) (fk k kk)) ?_⟩⟩
      rintro z h2 ⟨rfl, ⟨rfl, g⟩ | ⟨rfl, g⟩⟩
      · refine r107_60 ⟨⟨by omega, by omega⟩, fun _ => ih (k + 1) _ h2 rs (by omega) (by omega) p1 hc1 okr eb (fun e5 j hj => ?_), fun x => absurd x (by omega)⟩
        rw [hi e5 j hj]
        by_cases c : (fsK (pS rs1) j).2.2.1 = -1
        · rw [if_pos (Or.inl c), if_pos (Or.inl c)]
        · have : j ≠ k := fun x => c (by rw [x]; exact g)
          by_cases c2 : j < k
          · rw [if_pos (Or.inr c2), if_pos (Or.inr (by omega))]
          · rw [if_neg (fun x => x.elim c c2), if_neg (fun x => x.elim c (by omega))]
      · obtain ⟨k1, k2, k3⟩ := keep p1
        refine r107_60 ⟨⟨by omega, by omega⟩, fun x => absurd rfl x, fun _ => ⟨k2.1, jm_callI (one k h2 rs kk p1 hc1 okr eb (fun e5 => ?_)) ?_⟩⟩
        · refine ⟨by rw [hi e5 k kk, if_neg (fun x => x.elim g (by omega))], fun s0 s1 => ?_⟩
          obtain ⟨-, w | w⟩ := src_ne okr (show k < rs.length by omega) s0 s1
          · rw [pS_of_bl eb] at w; exact absurd w.1 g
          · rw [hi e5 _ (by omega), if_pos (Or.inr (by omega))]
        · rintro z h3 ⟨p3, hz, hz1, hzE⟩
          have P3 := p1.trans p3
          rcases hz with rfl | rfl
          · exact r107_70 ⟨⟨by omega, by omega⟩, fun x => absurd rfl x, fun _ => ⟨0, rfl, P3, Or.inl rfl, fun x => absurd x (by omega), hzE⟩⟩
          · obtain ⟨ys, y1, y2, y3, y4⟩ := hz1 rfl
            refine r107_70 ⟨⟨by omega, by omega⟩, fun _ => ih (k + 1) _ h3 (setT rs k ys) (by omega) (by omega) P3 (by rw [← pS_of_bl eb]; exact y1) (okH_setT okr (by omega) y2 y3) (by rw [bl_setT (by omega)]; exact eb) (fun e5 j hj => ?_), fun x => absurd x (by omega)⟩
            rw [setT_at (by omega)]
            by_cases ej : j = k
            · rw [if_pos ej, if_pos (Or.inr (by omega)), ej]; exact y4 e5
            · rw [if_neg ej, hi e5 j hj]
              by_cases c : (fsK (pS rs1) j).2.2.1 = -1
              · rw [if_pos (Or.inl c), if_pos (Or.inl c)]
              · by_cases c2 : j < k
                · rw [if_pos (Or.inr c2), if_pos (Or.inr (by omega))]
                · rw [if_neg (fun x => x.elim c c2), if_neg (fun x => x.elim c (by omega))]
  -- the trunk
  have L1 : ∀ (k : Nat) (v3 : Int) (h1 : jm_H) (rs : List Rv), k ≤ rs1.length → v3 = (k : Int) - 1 → jq F [2] (rg H 62) h h1 → cH h1 H rs (sf (pS rs1)) → okH rs → bl rs = bl rs1 → (E → ∀ j, j < rs1.length → (rs.getD j rv0).2.2.2 = if (fsK (pS rs1) j).2.2.1 = -1 ∧ k ≤ j then (rs0.getD j rv0).2.2.2 else []) → jm_W dh_pr (d + 5) 107 (7, [some (.inr (.inl rd)), some (.inr (.inl F)), some (.inr (.inl H)), some (.inl (jz v3))], [], h1) (fun o h' => RZ h h' F H rs0 E o) := by
    intro k
    induction k with
    | zero =>
      intro v3 h1 rs hk e3 p1 hc1 okr eb hi
      refine r107_7 ⟨⟨by omega, by omega⟩, fun _ => L2 rs1.length 0 0 h1 rs (by omega) (by omega) p1 hc1 okr eb (fun e5 j hj => ?_), fun w => absurd w (by omega)⟩
      rw [hi e5 j hj]
      by_cases c : (fsK (pS rs1) j).2.2.1 = -1
      · rw [if_pos ⟨c, Nat.zero_le _⟩, if_pos (Or.inl c)]
      · rw [if_neg (fun x => c x.1), if_neg (fun x => x.elim c (Nat.not_lt_zero j))]
    | succ k ih =>
      intro v3 h1 rs hk e3 p1 hc1 okr eb hi
      have e4 : v3 = k := by omega
      subst e4
      have hH1 := hH.js p1.1
      have lr := len_of_bl eb
      have kk : k < rs1.length := by omega
      have sk := hH1.2.2.2 k (by omega)
      refine r107_7 ⟨⟨by omega, by omega⟩, fun w => absurd w (by omega), fun _ => ⟨hH1.1, _, hH1.2.1, hH1.2.2.1.1, _, hH1.2.2.1.2, ⟨by omega, by omega, by omega⟩, H + 2 + 3 * k, by rw [show (k : Int).toNat = k by omega]; exact sk.1, sk.2.1, jm_callI (s116 sk.2 (CK hc1 eb k kk) (fk k kk)) ?_⟩⟩
      rintro z h2 ⟨rfl, ⟨rfl, g⟩ | ⟨rfl, g⟩⟩
      · obtain ⟨k1, k2, k3⟩ := keep p1
        refine r107_20 ⟨⟨by omega, by omega⟩, fun x => absurd x (by omega), fun _ => ⟨k2.1, jm_callI (one k h2 rs kk p1 hc1 okr eb (fun e5 => ?_)) ?_⟩⟩
        · refine ⟨by rw [hi e5 k kk, if_neg (by omega)], fun s0 s1 => ?_⟩
          obtain ⟨-, w | w⟩ := src_ne okr (show k < rs.length by omega) s0 s1
          · have w3 := w.2.2
            rw [pS_of_bl eb] at w3
            have w2 := w.2.1
            rw [hi e5 _ (by omega), if_pos ⟨by rw [pS_of_bl eb]; exact w3, by omega⟩]
          · rw [pS_of_bl eb] at w; exact absurd g w.1
        · rintro z h3 ⟨p3, hz, hz1, hzE⟩
          have P3 := p1.trans p3
          rcases hz with rfl | rfl
          · exact r107_30 ⟨⟨by omega, by omega⟩, fun x => absurd rfl x, fun _ => ⟨0, rfl, P3, Or.inl rfl, fun x => absurd x (by omega), hzE⟩⟩
          · obtain ⟨ys, y1, y2, y3, y4⟩ := hz1 rfl
            refine r107_30 ⟨⟨by omega, by omega⟩, fun _ => ih _ h3 (setT rs k ys) (by omega) (by omega) P3 (by rw [← pS_of_bl eb]; exact y1) (okH_setT okr (by omega) y2 y3) (by rw [bl_setT (by omega)]; exact eb) (fun e5 j hj => ?_), fun x => absurd x (by omega)⟩
            rw [setT_at (by omega)]
            by_cases ej : j = k
            · rw [if_pos ej, if_pos ⟨by rw [ej]; exact g, by omega⟩, ej]; exact y4 e5
            · rw [if_neg ej, hi e5 j hj]
              by_cases c : (fsK (pS rs1) j).2.2.1 = -1
              · by_cases c2 : k + 1 ≤ j
                · rw [if_pos ⟨c, c2⟩, if_pos ⟨c, by omega⟩]
                · rw [if_neg (fun x => c2 x.2), if_neg (fun x => by omega)]
              · rw [if_neg (fun x => c x.1), if_neg (fun x => c x.1)]
      · refine r107_20 ⟨⟨by omega, by omega⟩, fun _ => ih _ h2 rs (by omega) (by omega) p1 hc1 okr eb (fun e5 j hj => ?_), fun x => absurd rfl x⟩
        rw [hi e5 j hj]
        by_cases c : (fsK (pS rs1) j).2.2.1 = -1
        · have : j ≠ k := fun x => g (by rw [← x]; exact c)
          by_cases c2 : k + 1 ≤ j
          · rw [if_pos ⟨c, c2⟩, if_pos ⟨c, by omega⟩]
          · rw [if_neg (fun x => c2 x.2), if_neg (fun x => by omega)]
        · rw [if_neg (fun x => c x.1), if_neg (fun x => c x.1)]
  refine e107 (r107_0 ⟨hH.1, _, hc.1, L1 rs1.length _ h rs1 (Nat.le_refl _) rfl (jq.refl _ _ _ _) hc ok1 rfl (fun e5 j hj => ?_)⟩)
  rw [ht1 j hj, if_neg (by omega)]
