/-! The class's Reader: texts and steps. -/
theorem jf_q {F : Nat} {ks S : List Nat} {h h' : jm_H} (p : jf S h h') : jq F ks S h h' := ⟨p.1, fun b k hb _ => p.2 b hb k⟩
theorem jq_f {F : Nat} {ks S : List Nat} {h h' : jm_H} (p : jq F ks S h h') : jf (F :: S) h h' := ⟨p.1, fun b hb k => p.2 b k (fun q => hb (List.mem_cons_of_mem _ q)) (fun q => hb (by rw [q.1]; exact List.mem_cons_self))⟩
theorem cb_q {F : Nat} {S : List Nat} {h h' : jm_H} {bs : List Int} (c : cb h F bs) (p : jq F [2] S h h') (h0 : F ∉ S) (h1 : F + 1 ∉ S) : cb h' F bs := ⟨(p.2 F 1 h0 (by simp <;> omega)).trans c.1, c.2.1, c.2.2.jq p h1 (by omega)⟩
/-- the file's bytes, and the place where it is read on -/
def FB (h : jm_H) (F : Nat) (fl : List Int) (q : Nat) : Prop := shB h F ∧ cb h F fl ∧ jm_I h F 2 = jz (q : Int)
theorem FB_q {F q : Nat} {S : List Nat} {h h' : jm_H} {fl : List Int} (c : FB h F fl q) (p : jf S h h') (h0 : F ∉ S) (h1 : F + 1 ∉ S) : FB h' F fl q := ⟨c.1.js p.1, c.2.1.jf p h0 h1, (p.2 F h0 2).trans c.2.2⟩
/-- what is still to be read -/
def DR (fl : List Int) (q : Nat) (r : List Int) : Prop := fl.drop q = r ∧ q ≤ fl.length
theorem DR_step {fl w r : List Int} {q : Nat} (h : DR fl q (w ++ r)) : DR fl (q + w.length) r := by
  obtain ⟨h1, h2⟩ := h
  refine ⟨by rw [← List.drop_drop, h1, List.drop_left], ?_⟩
  have := congrArg List.length h1
  rw [List.length_drop, List.length_append] at this
  omega
theorem tkX {d F q : Nat} {h : jm_H} {fl : List Int} (f : FB h F fl q) (l4 : fl.length ≤ 400) (b8 : by8 fl) (hq : q ≤ 2000000) : jm_E dh_pr (d + 2) 87 [.inr (.inl F)] h (fun o h' => ∃ z : Int, o = .inl (some (.inl (jz z))) ∧ ∃ q' : Nat, jq F [2] [] h h' ∧ FB h' F fl q' ∧ (q ≤ q' ∧ q' ≤ q + 1) ∧ (-1 ≤ z ∧ z ≤ 255) ∧ ∀ x t, DR fl q (x :: t) → z = x ∧ DR fl q' t) := by
  refine jm_E_mono _ _ _ _ _ _ ?_ (s87 f.1 f.2.1 f.2.2 ⟨by omega, by omega⟩)
  rintro o h' ⟨z, rfl, ⟨ho, rfl, rfl⟩ | ⟨ho, rfl, rfl⟩⟩
  · obtain ⟨o1, o2, o3⟩ := ho
    have hl : q < fl.length := by omega
    have p : jq F [2] [] h (jm_sI h F 2 (jz ((q : Int) + 1))) := (jq.refl _ _ _ h).sM (by simp <;> omega)
    have eq : (q : Int).toNat = q := by omega
    have bz : 0 ≤ fl.getD q 0 ∧ fl.getD q 0 ≤ 255 := by
      rw [List.getD_eq_getElem?_getD, List.getElem?_eq_getElem hl]
      exact b8 _ (List.getElem_mem hl)
    rw [eq]
    refine ⟨_, rfl, q + 1, p, ⟨f.1.js p.1, cb_q f.2.1 p (by simp <;> omega) (by simp <;> omega), ?_⟩, ⟨by omega, by omega⟩, ⟨by omega, by omega⟩, fun x t e => ?_⟩
    · rw [jr_I_self]; rfl
    · obtain ⟨e, -⟩ := e
      rw [drop_cons hl] at e
      injection e with e1 e2
      exact ⟨e1, e2, by omega⟩
  · have hl : fl.length ≤ q := by
      rcases Nat.lt_or_ge q fl.length with w | w
      · exact absurd ⟨by omega, by omega, by omega⟩ ho
      · exact w
    refine ⟨_, rfl, q, jq.refl _ _ _ _, f, ⟨by omega, by omega⟩, ⟨by omega, by omega⟩, fun x t e => ?_⟩
    obtain ⟨e, -⟩ := e
    rw [List.drop_eq_nil_of_le hl] at e
    cases e
theorem FB_set {F : Nat} {h : jm_H} {fl : List Int} {q q' : Nat} {v : Int} (f : FB h F fl q) (hv : v = q') : jq F [2] [] h (jm_sI h F 2 (jz v)) ∧ FB (jm_sI h F 2 (jz v)) F fl q' := by
  have p : jq F [2] [] h (jm_sI h F 2 (jz v)) := (jq.refl _ _ _ h).sM (by simp <;> omega)
  exact ⟨p, f.1.js p.1, cb_q f.2.1 p (by simp <;> omega) (by simp <;> omega), by rw [jr_I_self, hv]⟩
theorem s105 {d F q rd : Nat} {h : jm_H} {fl : List Int} (f : FB h F fl q) (l4 : fl.length ≤ 400) (b8 : by8 fl) (hq : q ≤ 1900000) : jm_E dh_pr (d + 3) 105 [.inr (.inl rd), .inr (.inl F)] h (fun o h' => ∃ z : Int, o = .inl (some (.inl (jz z))) ∧ ∃ q' : Nat, jq F [2] [] h h' ∧ FB h' F fl q' ∧ q' ≤ q + 70000 ∧ (z = 0 ∨ z = 1) ∧ ∀ xs t, DR fl q (encT xs ++ t) → z = 1 ∧ DR fl q' t) := by
  refine e105 (r105_0 ⟨f.1.1, jm_callI (tkX f l4 b8 (by omega)) ?_⟩)
  rintro z h1 ⟨q1, p1, f1, hq1, hz, hE⟩
  refine r105_4 ⟨⟨by omega, by omega⟩, fun w => ⟨f1.1.1, _, f1.2.2, ?_⟩, fun w => ⟨0, rfl, q1, p1, f1, by omega, Or.inl rfl, fun xs t e => ?_⟩⟩
  · obtain ⟨p2, f2⟩ := FB_set (q' := q1 + z.toNat) (v := (q1 : Int) + z) f1 (by omega)
    refine ⟨1, rfl, q1 + z.toNat, p1.trans p2, f2, by omega, Or.inr rfl, fun xs t e => ⟨rfl, ?_⟩⟩
    obtain ⟨e1, e2⟩ := hE _ _ e
    rw [e1, show ((xs.length : Nat) : Int).toNat = xs.length by omega]
    exact DR_step e2
  · obtain ⟨e1, e2⟩ := hE _ _ e
    omega
theorem dropS {acc : List S5} {k : Nat} (hk : k < acc.length) : acc.drop k = acc.getD k s50 :: acc.drop (k + 1) := by
  rw [List.drop_eq_getElem_cons hk, List.getD_eq_getElem?_getD, List.getElem?_eq_getElem hk]; rfl
theorem s106 {d F q rd : Nat} {h : jm_H} {fl : List Int} {acc : List S5} {ad t : List Int} {E : Prop} (f : FB h F fl q) (l4 : fl.length ≤ 400) (b8 : by8 fl) (hq : q ≤ 1900000) (hE : E → DR fl q (encD (acc, ad) ++ t)) (hA : E → okS acc 24) : jm_E dh_pr (d + 3) 106 [.inr (.inl rd), .inr (.inl F)] h (fun o h' => ∃ z : Int, o = .inl (some (.inl (jz z))) ∧ ∃ q' : Nat, jq F [2] [] h h' ∧ FB h' F fl q' ∧ q' ≤ q + 70000 ∧ (z = 0 ∨ z = 1) ∧ (E → z = 1 ∧ DR fl q' t)) := by
  have L : ∀ (m : Nat) (k q1 : Nat) (v2 v3 : Int) (h1 : jm_H) (l4' l5' : Option jm_V), (v2 - v3).toNat = m → v3 = k → v2 ≤ 255 → -1 ≤ v2 → k ≤ 255 → jq F [2] [] h h1 → FB h1 F fl q1 → q1 ≤ q + 1 + 258 * k → (E → v2 = acc.length ∧ DR fl q1 ((acc.drop k).flatMap (encS ad) ++ t)) → jm_W dh_pr (d + 2) 106 (7, [some (.inr (.inl rd)), some (.inr (.inl F)), some (.inl (jz v2)), some (.inl (jz v3)), l4', l5'], [], h1) (fun o h' => ∃ z : Int, o = .inl (some (.inl (jz z))) ∧ ∃ q' : Nat, jq F [2] [] h h' ∧ FB h' F fl q' ∧ q' ≤ q + 70000 ∧ (z = 0 ∨ z = 1) ∧ (E → z = 1 ∧ DR fl q' t)) := by
    intro m
    induction m with
    | zero =>
      intro k q1 v2 v3 h1 l4' l5' em e3 hv hv' hk255 p1 f1 hq1 hi
      have h258 : 258 * k ≤ 258 * 255 := Nat.mul_le_mul_left 258 hk255
      refine r106_7 ⟨⟨by omega, by omega⟩, ⟨by omega, by omega⟩, fun w => ⟨fun w2 => ⟨0, rfl, q1, p1, f1, by omega, Or.inl rfl, fun e => ?_⟩, fun w2 => ⟨1, rfl, q1, p1, f1, by omega, Or.inr rfl, fun e => ⟨rfl, ?_⟩⟩⟩, fun w => absurd w (by omega)⟩
      · obtain ⟨i1, i2⟩ := hi e
        omega
      · obtain ⟨i1, i2⟩ := hi e
        rw [List.drop_eq_nil_of_le (by omega)] at i2
        exact i2
    | succ m ih =>
      intro k q1 v2 v3 h1 l4' l5' em e3 hv hv' hk255 p1 f1 hq1 hi
      have h258 : 258 * k ≤ 258 * 255 := Nat.mul_le_mul_left 258 hk255
      refine r106_7 ⟨⟨by omega, by omega⟩, ⟨by omega, by omega⟩, fun w => absurd w (by omega), fun w => ⟨f1.1.1, jm_callI (tkX f1 l4 b8 (by omega)) ?_⟩⟩
      rintro z1 h2 ⟨q2, p2, f2, hq2, hz1, hE2⟩
      refine r106_16 ⟨f2.1.1, jm_callI (tkX f2 l4 b8 (by omega)) ?_⟩
      rintro z2 h3 ⟨q3, p3, f3, hq3, hz2, hE3⟩
      refine r106_22 ⟨f3.1.1, jm_callI (tkX f3 l4 b8 (by omega)) ?_⟩
      rintro z3 h4 ⟨q4, p4, f4, hq4, hz3, hE4⟩
      have P4 := ((p1.trans p2).trans p3).trans p4
      -- what the bytes tell
      have G : E → k < acc.length ∧ z1 = (acc.getD k s50).1 ∧ z3 = (acc.getD k s50).2.2.1 ∧ DR fl q4 ((if (acc.getD k s50).1 = 1 then (List.range (acc.getD k s50).2.2.1.toNat).map (fun n : Nat => addL (acc.getD k s50) ad n) else []) ++ ((acc.drop (k + 1)).flatMap (encS ad) ++ t)) := by
        intro e
        obtain ⟨i1, i2⟩ := hi e
        have kk : k < acc.length := by omega
        rw [dropS kk, List.flatMap_cons, encS] at i2
        simp only [List.append_assoc, List.cons_append, List.nil_append] at i2
        obtain ⟨a1, a2⟩ := hE2 _ _ i2
        obtain ⟨b1, b2⟩ := hE3 _ _ a2
        obtain ⟨c1, c2⟩ := hE4 _ _ b2
        exact ⟨kk, a1, c1, c2⟩
      refine r106_27 ⟨⟨by omega, by omega⟩, fun w2 => ⟨0, rfl, q4, P4, f4, by omega, Or.inl rfl, fun e => ?_⟩, fun w2 => ⟨⟨by omega, by omega⟩, fun w3 => ⟨fun w4 => ?_, fun w4 => ⟨f4.1.1, _, f4.2.2, ?_⟩⟩, fun w3 => ⟨0, rfl, q4, P4, f4, by omega, Or.inl rfl, fun e => ?_⟩⟩⟩
      · obtain ⟨kk, g1, g2, g3⟩ := G e
        have o := hA e _ (mem_gD kk)
        omega
      · refine ih (k + 1) q4 v2 _ h4 _ _ (by omega) (by omega) hv hv' (by omega) P4 f4 (by omega) (fun e => ?_)
        obtain ⟨kk, g1, g2, g3⟩ := G e
        rw [if_neg (by omega), List.nil_append] at g3
        exact ⟨(hi e).1, g3⟩
      · obtain ⟨p5, f5⟩ := FB_set (q' := q4 + z3.toNat) (v := (q4 : Int) + z3) f4 (by omega)
        refine ih (k + 1) (q4 + z3.toNat) v2 _ _ _ _ (by omega) (by omega) hv hv' (by omega) (P4.trans p5) f5 (by omega) (fun e => ?_)
        obtain ⟨kk, g1, g2, g3⟩ := G e
        rw [if_pos (by omega)] at g3
        have g4 := DR_step g3
        rw [List.length_map, List.length_range, ← g2] at g4
        exact ⟨(hi e).1, g4⟩
      · obtain ⟨kk, g1, g2, g3⟩ := G e
        have o := hA e _ (mem_gD kk)
        omega
  refine e106 (r106_0 ⟨f.1.1, jm_callI (tkX f l4 b8 (by omega)) ?_⟩)
  rintro z h1 ⟨q1, p1, f1, hq1, hz, hE1⟩
  refine r106_4 (L (z - 0).toNat 0 q1 z 0 h1 _ _ rfl rfl hz.2 hz.1 (by omega) p1 f1 (by omega) (fun e => ?_))
  obtain ⟨a1, a2⟩ := hE1 _ _ (hE e)
  exact ⟨a1, a2⟩
theorem q302 {q q1 q2 q3 q5 k : Nat} (a : q1 ≤ q + 1 + 302 * k) (b : q2 ≤ q1 + 1) (c : q3 ≤ q2 + 1) (e : q5 ≤ q3 + 300) : q5 ≤ q + 1 + 302 * (k + 1) := by
  rw [Nat.mul_succ]
  generalize 302 * k = y at *
  have h1 : q3 ≤ q + 1 + y + 2 := Nat.le_trans c (Nat.succ_le_succ (Nat.le_trans b (Nat.succ_le_succ a)))
  have h2 : q5 ≤ q + 1 + y + 2 + 300 := Nat.le_trans e (Nat.add_le_add_right h1 300)
  rw [Nat.add_assoc (q + 1 + y), Nat.add_assoc (q + 1)] at h2
  exact h2
theorem s109 {d F a q rd : Nat} {h : jm_H} {fl xs ls t : List Int} {E : Prop} (f : FB h F fl q) (l4 : fl.length ≤ 400) (b8 : by8 fl) (hq : q ≤ 1990000) (ht : shT h a) (hx : cx h a xs) (lx : lnv xs) (n0 : F ∉ [a, a + 1]) (n1 : F + 1 ∉ [a, a + 1]) (hE : E → DR fl q (encT ls ++ t) ∧ lnv ls ∧ xs.length + ls.length ≤ 12) : jm_E dh_pr (d + 3) 109 [.inr (.inl rd), .inr (.inl F), .inr (.inl a)] h (fun o h' => ∃ z : Int, o = .inl (some (.inl (jz z))) ∧ ∃ (q' : Nat) (ys : List Int), jq F [2] [a, a + 1] h h' ∧ FB h' F fl q' ∧ q' ≤ q + 300 ∧ (z = 0 ∨ z = 1) ∧ cx h' a ys ∧ lnv ys ∧ (E → z = 1 ∧ ys = xs ++ ls ∧ DR fl q' t)) := by
  have na : a ≠ F := fun e => n0 (by rw [e]; simp)
  have na1 : a + 1 ≠ F := fun e => n0 (by rw [← e]; simp)
  have L : ∀ (m : Nat) (k q1 : Nat) (v3 v4 : Int) (h1 : jm_H) (ys : List Int), (v3 - v4).toNat = m → v4 = k → v3 ≤ 255 → -1 ≤ v3 → k ≤ 255 → jq F [2] [a, a + 1] h h1 → FB h1 F fl q1 → q1 ≤ q + 1 + k → cx h1 a ys → lnv ys → (E → v3 = ls.length ∧ ys = xs ++ ls.take k ∧ DR fl q1 (ls.drop k ++ t)) → jm_W dh_pr (d + 2) 109 (8, [some (.inr (.inl rd)), some (.inr (.inl F)), some (.inr (.inl a)), some (.inl (jz v3)), some (.inl (jz v4))], [], h1) (fun o h' => ∃ z : Int, o = .inl (some (.inl (jz z))) ∧ ∃ (q' : Nat) (ys : List Int), jq F [2] [a, a + 1] h h' ∧ FB h' F fl q' ∧ q' ≤ q + 300 ∧ (z = 0 ∨ z = 1) ∧ cx h' a ys ∧ lnv ys ∧ (E → z = 1 ∧ ys = xs ++ ls ∧ DR fl q' t)) := by
    intro m
    induction m with
    | zero =>
      intro k q1 v3 v4 h1 ys em e4 hv hv' hk p1 f1 hq1 hy ly hi
      refine r109_8 ⟨⟨by omega, by omega⟩, ⟨by omega, by omega⟩, fun w => ⟨1, rfl, q1, ys, p1, f1, by omega, Or.inr rfl, hy, ly, fun e => ⟨rfl, ?_⟩⟩, fun w => absurd w (by omega)⟩
      obtain ⟨i1, i2, i3⟩ := hi e
      rw [List.take_of_length_le (by omega)] at i2
      rw [List.drop_eq_nil_of_le (by omega)] at i3
      exact ⟨i2, i3⟩
    | succ m ih =>
      intro k q1 v3 v4 h1 ys em e4 hv hv' hk p1 f1 hq1 hy ly hi
      refine r109_8 ⟨⟨by omega, by omega⟩, ⟨by omega, by omega⟩, fun w => absurd w (by omega), fun w => ⟨f1.1.1, jm_callI (tkX f1 l4 b8 (by omega)) ?_⟩⟩
      rintro z1 h2 ⟨q2, p2, f2, hq2, hz1, hE2⟩
      have P2 : jq F [2] [a, a + 1] h h2 := p1.trans (p2.mono (by simp <;> omega) (by simp <;> omega))
      have ht2 := ht.js P2.1
      have hy2 : cx h2 a ys := hy.jf (jq_f p2) (by simp [na]) (by simp [na1])
      have G : E → k < ls.length ∧ z1 = ls.getD k 0 ∧ DR fl q2 (ls.drop (k + 1) ++ t) := by
        intro e
        obtain ⟨i1, i2, i3⟩ := hi e
        have kk : k < ls.length := by omega
        rw [drop_cons kk] at i3
        obtain ⟨a1, a2⟩ := hE2 _ _ i3
        exact ⟨kk, a1, a2⟩
      refine r109_19 ⟨ht2.1, jm_callI (s122 ht2 hy2 ⟨by omega, by omega⟩) ?_⟩
      rintro z h3 (⟨rfl, ho, hf3, hy3⟩ | ⟨rfl, ho, rfl⟩)
      · refine r109_22 ⟨⟨by omega, by omega⟩, fun _ => ih (k + 1) q2 v3 _ h3 (ys ++ [z1]) (by omega) (by omega) hv hv' (by omega) (P2.trans (jf_q hf3)) (FB_q f2 hf3 n0 n1) (by omega) hy3 ?_ (fun e => ?_), fun w2 => absurd w2 (by omega)⟩
        · intro v hv2
          rcases List.mem_append.mp hv2 with hv2 | hv2
          · exact ly v hv2
          · have : v = z1 := by simpa using hv2
            rw [this]; exact ⟨ho.1, ho.2.1⟩
        · obtain ⟨kk, g1, g2⟩ := G e
          obtain ⟨i1, i2, i3⟩ := hi e
          refine ⟨i1, ?_, g2⟩
          rw [take_snoc kk, ← List.append_assoc, ← i2, g1]
      · refine r109_22 ⟨⟨by omega, by omega⟩, fun w2 => absurd rfl w2, fun _ => ⟨0, rfl, q2, ys, P2, f2, by omega, Or.inl rfl, hy2, ly, fun e => ?_⟩⟩
        obtain ⟨kk, g1, g2⟩ := G e
        obtain ⟨i1, i2, i3⟩ := hi e
        obtain ⟨-, h5, h6⟩ := hE e
        have v := h5.at kk
        exact absurd ⟨by omega, by omega, by rw [i2, List.length_append, List.length_take]; omega⟩ ho
  refine e109 (r109_0 ⟨f.1.1, jm_callI (tkX f l4 b8 (by omega)) ?_⟩)
  rintro z h1 ⟨q1, p1, f1, hq1, hz, hE1⟩
  refine r109_4 (L (z - 0).toNat 0 q1 z 0 h1 xs rfl rfl hz.2 hz.1 (by omega) (p1.mono (by simp <;> omega) (by simp <;> omega)) f1 (by omega) (hx.jf (jq_f p1) (by simp [na]) (by simp [na1])) lx (fun e => ?_))
  obtain ⟨e1, -, -⟩ := hE e
  obtain ⟨a1, a2⟩ := hE1 _ _ e1
  exact ⟨a1, by rw [List.take_zero, List.append_nil], a2⟩
theorem s110 {d F a b q rd : Nat} {h : jm_H} {fl A B t : List Int} {xs : List Int} {E : Prop} (f : FB h F fl q) (l4 : fl.length ≤ 400) (b8 : by8 fl) (hq : q ≤ 1900000) (hrd : jm_T h rd = 6) (ht : shT h a) (hx : cx h a xs) (lx : lnv xs) (hb : shT h b) (hA : cx h b A) (lA : lnv A) (n0 : F ∉ [a, a + 1]) (n1 : F + 1 ∉ [a, a + 1]) (m0 : b ∉ [a, a + 1]) (m1 : b + 1 ∉ [a, a + 1]) (k0 : b ≠ F) (k1 : b + 1 ≠ F) (hE : E → DR fl q (encD (delta A B) ++ t) ∧ xs = [] ∧ lnv B ∧ B.length ≤ 12) : jm_E dh_pr (d + 4) 110 [.inr (.inl rd), .inr (.inl F), .inr (.inl b), .inr (.inl a)] h (fun o h' => ∃ z : Int, o = .inl (some (.inl (jz z))) ∧ jq F [2] [a, a + 1] h h' ∧ (z = 0 ∨ z = 1) ∧ (z = 1 → ∃ ys, cx h' a ys ∧ lnv ys ∧ (E → ys = B)) ∧ (E → z = 1)) := by
  have na : a ≠ F := fun e => n0 (by rw [e]; simp)
  have na1 : a + 1 ≠ F := fun e => n0 (by rw [← e]; simp)
  have lA12 := hA.2.1
  obtain ⟨va, vp1, vB⟩ := delta_app A B
  obtain ⟨dc1, dc2, dc3, dc4⟩ := delta_cnt (A := A) (B := B) lA12
  have oa := delta_ok A B
  have pre := fun k => pst_pre vB k
  generalize hacc : (delta A B).1 = acc at *
  generalize had : (delta A B).2 = ad at *
  have eD : encD (delta A B) = (acc.length : Int) :: acc.flatMap (encS ad) := by
    unfold encD; rw [hacc, had]
  have L : ∀ (m : Nat) (k q1 : Nat) (v4 v5 v6 : Int) (h1 : jm_H) (ys : List Int) (l7 l8 : Option jm_V), (v4 - v6).toNat = m → v6 = k → v4 ≤ 255 → -1 ≤ v4 → k ≤ 255 → (-1 ≤ v5 ∧ v5 ≤ 1000) → jq F [2] [a, a + 1] h h1 → FB h1 F fl q1 → q1 ≤ q + 1 + 302 * k → cx h1 a ys → lnv ys → (E → v4 = acc.length ∧ v5 = ((pst A B (acc.take k)).1 : Int) ∧ ys = (pst A B (acc.take k)).2 ∧ DR fl q1 ((acc.drop k).flatMap (encS ad) ++ t)) → jm_W dh_pr (d + 3) 110 (12, [some (.inr (.inl rd)), some (.inr (.inl F)), some (.inr (.inl b)), some (.inr (.inl a)), some (.inl (jz v4)), some (.inl (jz v5)), some (.inl (jz v6)), l7, l8], [], h1) (fun o h' => ∃ z : Int, o = .inl (some (.inl (jz z))) ∧ jq F [2] [a, a + 1] h h' ∧ (z = 0 ∨ z = 1) ∧ (z = 1 → ∃ ys, cx h' a ys ∧ lnv ys ∧ (E → ys = B)) ∧ (E → z = 1)) := by
    intro m
    induction m with
    | zero =>
      intro k q1 v4 v5 v6 h1 ys l7 l8 em e6 hv hv' hk hv5 p1 f1 hq1 hy ly hi
      have ht1 := ht.js p1.1
      have hb1 := hb.js p1.1
      have hA1 : cx h1 b A := hA.jf (jq_f p1) (by simp [k0]; simpa using m0) (by simp [k1]; simpa using m1)
      refine r110_12 ⟨⟨by omega, by omega⟩, ⟨by omega, by omega⟩, fun w => ⟨hb1.1, _, hA1.1, ht1.1, jm_callI (s126 ht1 hy hb1 hA1 m0 m1 lA ⟨by omega, by omega⟩ ⟨by omega, by omega⟩) ?_⟩, fun w => absurd w (by omega)⟩
      rintro z h2 ⟨hf2, ⟨rfl, ho, hy2⟩ | ⟨rfl, ho⟩⟩
      · refine r110_94 ⟨Or.inr rfl, 1, rfl, p1.trans (jf_q hf2), Or.inr rfl, fun _ => ⟨_, hy2, ?_, fun e => ?_⟩, fun _ => rfl⟩
        · intro v hv2
          rcases List.mem_append.mp hv2 with hv2 | hv2
          · exact ly v hv2
          · exact lA v (List.mem_of_mem_drop (List.mem_of_mem_take hv2))
        · obtain ⟨i1, i2, i3, i4⟩ := hi e
          rw [List.take_of_length_le (by omega)] at i2 i3
          rw [i2, i3, show (((pst A B acc).1 : Nat) : Int).toNat = (pst A B acc).1 by omega, List.take_of_length_le (by rw [List.length_drop]; omega)]
          exact vB
      · refine r110_94 ⟨Or.inl rfl, 0, rfl, p1.trans (jf_q hf2), Or.inl rfl, fun x => absurd x (by omega), fun e => ?_⟩
        obtain ⟨i1, i2, i3, i4⟩ := hi e
        obtain ⟨-, -, -, h6⟩ := hE e
        rw [List.take_of_length_le (by omega)] at i2 i3
        refine absurd ⟨by omega, by omega, by omega, ?_⟩ ho
        have := congrArg List.length vB
        rw [List.length_append, List.length_drop] at this
        rw [i3, i2]
        omega
    | succ m ih =>
      intro k q1 v4 v5 v6 h1 ys l7 l8 em e6 hv hv' hk hv5 p1 f1 hq1 hy ly hi
      have h302 : 302 * k ≤ 302 * 255 := Nat.mul_le_mul_left 302 hk
      refine r110_12 ⟨⟨by omega, by omega⟩, ⟨by omega, by omega⟩, fun w => absurd w (by omega), fun w => ⟨f1.1.1, jm_callI (tkX f1 l4 b8 (by omega)) ?_⟩⟩
      rintro z1 h2 ⟨q2, p2, f2, hq2, hz1, hE2⟩
      refine r110_23 ⟨f2.1.1, jm_callI (tkX f2 l4 b8 (by omega)) ?_⟩
      rintro z2 h3 ⟨q3, p3, f3, hq3, hz2, hE3⟩
      have P3 : jq F [2] [a, a + 1] h h3 := (p1.trans (p2.mono (by simp <;> omega) (by simp <;> omega))).trans (p3.mono (by simp <;> omega) (by simp <;> omega))
      have ht3 := ht.js P3.1
      have hb3 := hb.js P3.1
      have hA3 : cx h3 b A := hA.jf (jq_f P3) (by simp [k0]; simpa using m0) (by simp [k1]; simpa using m1)
      have hy3 : cx h3 a ys := (hy.jf (jq_f p2) (by simp [na]) (by simp [na1])).jf (jq_f p3) (by simp [na]) (by simp [na1])
      have G : E → k < acc.length ∧ z1 = (acc.getD k s50).1 ∧ z2 = (acc.getD k s50).2.1 ∧ vst A B (pst A B (acc.take k)).1 (acc.getD k s50) ∧ DR fl q3 ((if (acc.getD k s50).1 = 0 then [(acc.getD k s50).2.2.1] else encT ((B.drop (acc.getD k s50).2.2.2.2.toNat).take (acc.getD k s50).2.2.1.toNat)) ++ ((acc.drop (k + 1)).flatMap (encS ad) ++ t)) := by
        intro e
        obtain ⟨i1, i2, i3, i4⟩ := hi e
        have kk : k < acc.length := by omega
        have v := va k kk
        rw [dropS kk, List.flatMap_cons, encS_eq (A := A) (oa _ (mem_gD kk)) v.1 v.2.2.2.1] at i4
        simp only [List.append_assoc, List.cons_append, List.nil_append] at i4
        obtain ⟨a1, a2⟩ := hE2 _ _ i4
        obtain ⟨b1, b2⟩ := hE3 _ _ a2
        exact ⟨kk, a1, b1, v, b2⟩
      have S1 : k < acc.length → pst A B (acc.take (k + 1)) = stp A B (pst A B (acc.take k)) (acc.getD k s50) := fun kk => by
        rw [take_snoc' (d := s50) kk, pst_snoc]
      have len12 : E → ∀ j, (pst A B (acc.take j)).2.length ≤ 12 := fun e j => by
        obtain ⟨t', ht'⟩ := pre j
        obtain ⟨-, -, -, h6⟩ := hE e
        rw [ht', List.length_append] at h6
        omega
      refine r110_29 ⟨ht3.1, jm_callI (s126 ht3 hy3 hb3 hA3 m0 m1 lA ⟨by omega, by omega⟩ ⟨by omega, by omega⟩) ?_⟩
      rintro z h4 ⟨hf4, ⟨rfl, ho, hy4⟩ | ⟨rfl, ho⟩⟩
      · have f4 := FB_q f3 hf4 n0 n1
        have P4 : jq F [2] [a, a + 1] h h4 := P3.trans (jf_q hf4)
        have ly4 : lnv (ys ++ (A.drop v5.toNat).take (z2 - v5).toNat) := by
          intro v hv2
          rcases List.mem_append.mp hv2 with hv2 | hv2
          · exact ly v hv2
          · exact lA v (List.mem_of_mem_drop (List.mem_of_mem_take hv2))
        have slice : E → (A.drop v5.toNat).take (z2 - v5).toNat = (A.take (acc.getD k s50).2.1.toNat).drop (pst A B (acc.take k)).1 := fun e => by
          obtain ⟨i1, i2, i3, i4⟩ := hi e
          obtain ⟨kk, g1, g2, g3, g4⟩ := G e
          rw [List.drop_take, i2, g2]
          congr 1
          omega
        refine r110_40 ⟨⟨by omega, by omega⟩, fun _ => ⟨⟨by omega, by omega⟩, fun w2 => ⟨(P4.1.2.2.1 rd).trans hrd, ?_⟩, fun w2 => ⟨f4.1.1, jm_callI (tkX f4 l4 b8 (by omega)) ?_⟩⟩, fun w2 => absurd w2 (by omega)⟩
        · refine jm_callI (s109 (rd := rd) (E := E) (ls := (B.drop (acc.getD k s50).2.2.2.2.toNat).take (acc.getD k s50).2.2.1.toNat) (t := (acc.drop (k + 1)).flatMap (encS ad) ++ t) f4 l4 b8 (by omega) (ht.js P4.1) hy4 ly4 n0 n1 (fun e => ?_)) ?_
          · obtain ⟨i1, i2, i3, i4⟩ := hi e
            obtain ⟨kk, g1, g2, g3, g4⟩ := G e
            obtain ⟨-, -, h5, h6⟩ := hE e
            rw [if_neg (by omega)] at g4
            refine ⟨g4, fun v hv2 => h5 v (List.mem_of_mem_drop (List.mem_of_mem_take hv2)), ?_⟩
            have := len12 e (k + 1)
            rw [S1 kk, stp, if_neg (by omega)] at this
            rw [slice e, i3]
            rw [List.length_append] at this
            exact this
          · rintro z5 h5 ⟨q5, ys5, p5, f5, hq5, hz5, hy5, ly5, hE5⟩
            have P5 := P4.trans p5
            rcases hz5 with rfl | rfl
            · refine r110_72 ⟨⟨by omega, by omega⟩, fun x => absurd rfl x, fun _ => ⟨0, rfl, P5, Or.inl rfl, fun x => absurd x (by omega), fun e => (hE5 e).1⟩⟩
            · refine r110_72 ⟨⟨by omega, by omega⟩, fun _ => ih (k + 1) q5 v4 _ _ h5 ys5 _ _ (by omega) (by omega) hv hv' (by omega) ⟨by omega, by omega⟩ P5 f5 (q302 hq1 hq2.2 hq3.2 hq5) hy5 ly5 (fun e => ?_), fun x => absurd x (by omega)⟩
              obtain ⟨i1, i2, i3, i4⟩ := hi e
              obtain ⟨kk, g1, g2, g3, g4⟩ := G e
              obtain ⟨-, e5, e6'⟩ := hE5 e
              have g5 := g3.2.1
              refine ⟨i1, ?_, ?_, e6'⟩
              · rw [S1 kk, stp, if_neg (by omega)]
                show z2 = (((acc.getD k s50).2.1.toNat : Nat) : Int)
                omega
              · rw [S1 kk, stp, if_neg (by omega), e5, slice e, i3]
        · rintro z5 h5 ⟨q5, p5, f5, hq5, hz5, hE5⟩
          refine r110_60 (ih (k + 1) q5 v4 _ _ h5 _ _ _ (by omega) (by omega) hv hv' (by omega) ⟨by omega, by omega⟩ (P4.trans (p5.mono (by simp <;> omega) (by simp <;> omega))) f5 (by omega) (hy4.jf (jq_f p5) (by simp [na]) (by simp [na1])) ly4 (fun e => ?_))
          obtain ⟨i1, i2, i3, i4⟩ := hi e
          obtain ⟨kk, g1, g2, g3, g4⟩ := G e
          rw [if_pos (by omega), List.singleton_append] at g4
          obtain ⟨a1, a2⟩ := hE5 _ _ g4
          have g5 := g3.2.1
          have g6 := g3.2.2.2.1
          refine ⟨i1, ?_, ?_, a2⟩
          · rw [S1 kk, stp, if_pos (by omega)]
            show z2 + z5 = ((((acc.getD k s50).2.1 + (acc.getD k s50).2.2.1).toNat : Nat) : Int)
            omega
          · rw [S1 kk, stp, if_pos (by omega), slice e, i3]
      · refine r110_40 ⟨⟨by omega, by omega⟩, fun x => absurd rfl x, fun _ => ⟨0, rfl, P3.trans (jf_q hf4), Or.inl rfl, fun x => absurd x (by omega), fun e => ?_⟩⟩
        obtain ⟨i1, i2, i3, i4⟩ := hi e
        obtain ⟨kk, g1, g2, g3, g4⟩ := G e
        have g5 := g3.2.1
        have g6 := g3.2.2.1
        refine absurd ⟨by omega, by omega, by omega, ?_⟩ ho
        have := len12 e (k + 1)
        rw [S1 kk, stp] at this
        have l1 : ((A.take (acc.getD k s50).2.1.toNat).drop (pst A B (acc.take k)).1).length = (acc.getD k s50).2.1.toNat - (pst A B (acc.take k)).1 := by
          rw [List.length_drop, List.length_take]; omega
        rw [i3]
        split at this
        · have h7 : ((pst A B (acc.take k)).2 ++ (A.take (acc.getD k s50).2.1.toNat).drop (pst A B (acc.take k)).1).length ≤ 12 := this
          rw [List.length_append, l1] at h7
          omega
        · have h7 : ((pst A B (acc.take k)).2 ++ (A.take (acc.getD k s50).2.1.toNat).drop (pst A B (acc.take k)).1 ++ (B.drop (acc.getD k s50).2.2.2.2.toNat).take (acc.getD k s50).2.2.1.toNat).length ≤ 12 := this
          rw [List.length_append, List.length_append, l1] at h7
          omega
  refine e110 (r110_0 ⟨f.1.1, jm_callI (tkX f l4 b8 (by omega)) ?_⟩)
  rintro z h1 ⟨q1, p1, f1, hq1, hz, hE1⟩
  refine r110_4 (L (z - 0).toNat 0 q1 z 0 0 h1 xs _ _ rfl rfl hz.2 hz.1 (by omega) ⟨by omega, by omega⟩ (p1.mono (by simp <;> omega) (by simp <;> omega)) f1 (by omega) (hx.jf (jq_f p1) (by simp [na]) (by simp [na1])) lx (fun e => ?_))
  obtain ⟨e1, e2, -, -⟩ := hE e
  rw [eD] at e1
  obtain ⟨a1, a2⟩ := hE1 _ _ e1
  exact ⟨a1, rfl, e2, a2⟩
