/-! The class's rows of bytes. -/
def shB (h : jm_H) (a : Nat) : Prop := jm_T h a = 3 ∧ jm_F h a 0 = a + 1 ∧ sha h (a + 1) 400
theorem shB.js {h h' : jm_H} {a : Nat} (s : shB h a) (p : js h h') : shB h' a := ⟨(p.2.2.1 a).trans s.1, (p.2.2.2.2.1 a 0).trans s.2.1, s.2.2.js p⟩
/-- its bytes; what lies behind the 400th is counted alone -/
def cb (h : jm_H) (a : Nat) (bs : List Int) : Prop := jm_I h a 1 = jz bs.length ∧ bs.length ≤ 100000 ∧ row h (a + 1) (bs.take 400)
theorem cb.jf {h h' : jm_H} {a : Nat} {bs : List Int} {S : List Nat} (c : cb h a bs) (p : jf S h h') (h1 : a ∉ S) (h2 : a + 1 ∉ S) : cb h' a bs := ⟨(p.2 a h1 1).trans c.1, c.2.1, c.2.2.jf p h2⟩
theorem cb.at {h : jm_H} {a : Nat} {bs : List Int} (c : cb h a bs) {i : Nat} (hi : i < bs.length) (h4 : i < 400) : jm_I h (a + 1) i = jz (bs.getD i 0) := by
  rw [c.2.2 i (by rw [List.length_take]; omega), getD_take h4]
theorem jR_b {bs : List Int} (h : bs.length ≤ 100000) : jR (bs.length : Int) := by constructor <;> omega
theorem s80 {d a : Nat} {h : jm_H} (hs : shB h a) : jm_E dh_pr (d + 1) 80 [.inr (.inl a)] h (fun o h' => o = .inl none ∧ jf [a, a + 1] h h' ∧ cb h' a []) := by
  refine e80 (r80_0 ⟨hs.1, rfl, (jf.refl _ h).sI (by simp), jr_I_self, by simp, ?_⟩)
  intro i hi
  simp at hi
theorem s81 {d a : Nat} {h : jm_H} {bs : List Int} {v : Int} (hs : shB h a) (hc : cb h a bs) (hl : bs.length < 100000) : jm_E dh_pr (d + 1) 81 [.inr (.inl a), .inl (jz v)] h (fun o h' => o = .inl none ∧ jf [a, a + 1] h h' ∧ cb h' a (bs ++ [v])) := by
  obtain ⟨c1, c2, c3⟩ := hc
  have el : (bs ++ [v]).length = bs.length + 1 := by rw [List.length_append, List.length_singleton]
  refine e81 (r81_0 ⟨hs.1, _, c1, jR_b c2, fun q => ⟨rfl, (jf.refl _ h).sI (by simp), ?_, by omega, ?_⟩, fun q => ⟨_, hs.2.1, hs.2.2.1, _, hs.2.2.2, ⟨by omega, by omega, by omega⟩, rfl, ((jf.refl _ h).sI (by simp)).sI (by simp), ?_, by omega, ?_⟩⟩)
  · rw [jr_I_self, el]; rfl
  · have : (bs ++ [v]).take 400 = bs.take 400 := by rw [List.take_append_of_le_length (by omega)]
    rw [this]
    exact c3.same (fun k => by rw [jr_I_sI, if_neg (by omega)])
  · rw [jr_I_self, el]; rfl
  · have t1 : (bs ++ [v]).take 400 = bs ++ [v] := List.take_of_length_le (by omega)
    have t2 : bs.take 400 = bs := List.take_of_length_le (by omega)
    rw [t2] at c3
    rw [t1, show (bs.length : Int).toNat = bs.length by omega]
    refine (c3.push v).same (fun k => ?_)
    rw [jr_I_sI _ a, if_neg (by omega)]
theorem s82 {d a : Nat} {h : jm_H} {bs : List Int} (hs : shB h a) (hc : cb h a bs) : jm_E dh_pr (d + 1) 82 [.inr (.inl a)] h (fun o h' => o = .inl (some (.inl (jz (if bs.length ≤ 400 then 1 else 0)))) ∧ h' = h) := by
  refine e82 (r82_0 ⟨hs.1, _, hc.1, jR_b hc.2.1, fun q => ⟨?_, rfl⟩, fun q => ⟨?_, rfl⟩⟩)
  · rw [if_neg (by omega)]
  · rw [if_pos (by omega)]
/-- a place of the row -/
def okb (k : Int) (n : Nat) : Prop := 0 ≤ k ∧ k < n ∧ k < 400
theorem s83 {d a : Nat} {h : jm_H} {bs : List Int} {k : Int} (hs : shB h a) (hc : cb h a bs) (hk : jR k) : jm_E dh_pr (d + 1) 83 [.inr (.inl a), .inl (jz k)] h (fun o h' => ∃ z : Int, o = .inl (some (.inl (jz z))) ∧ h' = h ∧ ((z = 1 ∧ okb k bs.length) ∨ (z = 0 ∧ ¬ okb k bs.length))) := by
  refine e83 (r83_0 ⟨hk, fun q => ⟨0, rfl, rfl, Or.inr ⟨rfl, fun p => ?_⟩⟩, fun q => ⟨hs.1, _, hc.1, jR_b hc.2.1, fun q' => ⟨0, rfl, rfl, Or.inr ⟨rfl, fun p => ?_⟩⟩, fun q' => ⟨fun q3 => ⟨0, rfl, rfl, Or.inr ⟨rfl, fun p => ?_⟩⟩, fun q3 => ⟨1, rfl, rfl, Or.inl ⟨rfl, q, q', q3⟩⟩⟩⟩⟩)
  · have := p.1; omega
  · have := p.2.1; omega
  · have := p.2.2; omega
theorem s84 {d a : Nat} {h : jm_H} {bs : List Int} {k : Int} (hs : shB h a) (hc : cb h a bs) (hk : jR k) : jm_E dh_pr (d + 2) 84 [.inr (.inl a), .inl (jz k)] h (fun o h' => ∃ z : Int, o = .inl (some (.inl (jz z))) ∧ h' = h ∧ ((okb k bs.length ∧ z = bs.getD k.toNat 0) ∨ (¬ okb k bs.length ∧ z = -1))) := by
  refine e84 (r84_0 ⟨hs.1, jm_callI (s83 hs hc hk) ?_⟩)
  rintro z h' ⟨rfl, ⟨rfl, ho⟩ | ⟨rfl, ho⟩⟩
  · exact r84_5 ⟨⟨by omega, by omega⟩, fun p => absurd p (by omega), fun _ => ⟨hs.1, _, hs.2.1, hs.2.2.1, _, hs.2.2.2, ⟨ho.1, by have := ho.2.2; omega, by omega⟩, _, hc.at (by have := ho.1; have := ho.2.1; omega) (by have := ho.1; have := ho.2.2; omega), _, rfl, rfl, Or.inl ⟨ho, rfl⟩⟩⟩
  · exact r84_5 ⟨⟨by omega, by omega⟩, fun _ => ⟨_, rfl, rfl, Or.inr ⟨ho, rfl⟩⟩, fun p => absurd rfl p⟩
theorem s85_l {d a b : Nat} {h0 : jm_H} {Q : jm_Q} {ys : List Int} {n : Int} (hs : shB h0 a) (hb : shB h0 b) (hc : cb h0 b ys) (n1 : b ∉ [a, a + 1]) (n2 : b + 1 ∉ [a, a + 1]) (h4 : ys.length ≤ 400) (hn : jR n)
    (Qok : ∀ h', jf [a, a + 1] h0 h' → cb h' a (ys.take n.toNat) → Q (.inl none) h') :
    ∀ (m j : Nat) (h : jm_H) (v : Int), j + m = min n.toNat ys.length → v = j → jf [a, a + 1] h0 h → cb h a (ys.take j) → jm_W dh_pr (d + 1) 85 (6, [some (.inr (.inl a)), some (.inr (.inl b)), some (.inl (jz n)), some (.inl (jz v))], [], h) Q := by
  intro m
  induction m with
  | zero =>
    intro j h v e1 e2 hf hcb
    have hb' := hb.js hf.1
    have hc' := hc.jf hf n1 n2
    have ej : ys.take n.toNat = ys.take j := by
      by_cases q : n.toNat ≤ ys.length
      · rw [show n.toNat = j by omega]
      · rw [List.take_of_length_le (by omega), List.take_of_length_le (by omega)]
    refine r85_6 ⟨⟨by omega, by omega⟩, hn, fun q => Qok h hf (by rw [ej]; exact hcb), fun q => ⟨hb'.1, jm_callI (s83 hb' hc' ⟨by omega, by omega⟩) ?_⟩⟩
    rintro z h' ⟨rfl, ⟨rfl, ho⟩ | ⟨rfl, ho⟩⟩
    · have := ho.2.1
      omega
    · exact r85_16 ⟨⟨by omega, by omega⟩, fun _ => Qok _ hf (by rw [ej]; exact hcb), fun p => absurd rfl p⟩
  | succ m ih =>
    intro j h v e1 e2 hf hcb
    have hs' := hs.js hf.1
    have hb' := hb.js hf.1
    have hc' := hc.jf hf n1 n2
    refine r85_6 ⟨⟨by omega, by omega⟩, hn, fun q => absurd q (by omega), fun q => ⟨hb'.1, jm_callI (s83 hb' hc' ⟨by omega, by omega⟩) ?_⟩⟩
    rintro z h' ⟨rfl, ⟨rfl, ho⟩ | ⟨rfl, ho⟩⟩
    · refine r85_16 ⟨⟨by omega, by omega⟩, fun p => absurd p (by omega), fun _ => ⟨hb'.1, _, hb'.2.1, hb'.2.2.1, _, hb'.2.2.2, ⟨ho.1, by have := ho.2.2; omega, by omega⟩, _, hc'.at (by omega) (by omega), hs'.1, jm_callV (s81 hs' hcb (by rw [List.length_take]; omega)) ?_⟩⟩
      rintro h2 ⟨hf2, hcb2⟩
      refine r85_29 (ih (j + 1) h2 _ (by omega) (by omega) (hf.trans hf2) ?_)
      rw [take_snoc (by omega)]
      rw [show v.toNat = j by omega] at hcb2
      exact hcb2
    · exact absurd ⟨by omega, by omega, by omega⟩ ho
theorem s85 {d a b : Nat} {h : jm_H} {ys : List Int} {n : Int} (hs : shB h a) (hb : shB h b) (hc : cb h b ys) (n1 : b ∉ [a, a + 1]) (n2 : b + 1 ∉ [a, a + 1]) (h4 : ys.length ≤ 400) (hn : jR n) :
    jm_E dh_pr (d + 2) 85 [.inr (.inl a), .inr (.inl b), .inl (jz n)] h (fun o h' => o = .inl none ∧ jf [a, a + 1] h h' ∧ cb h' a (ys.take n.toNat)) := by
  refine e85 (r85_0 ⟨hs.1, jm_callV (s80 hs) ?_⟩)
  rintro h1 ⟨hf1, hc1⟩
  refine r85_4 (s85_l hs hb hc n1 n2 h4 hn (fun h' g1 g2 => ⟨rfl, g1, g2⟩) (min n.toNat ys.length) 0 h1 0 (by omega) (by omega) hf1 (by simpa using hc1))
theorem getD_ext {xs ys : List Int} (hl : xs.length = ys.length) (h : ∀ i, i < xs.length → xs.getD i 0 = ys.getD i 0) : xs = ys := by
  apply List.ext_getElem hl
  intro i h1 h2
  have := h i h1
  rw [List.getD_eq_getElem?_getD, List.getD_eq_getElem?_getD, List.getElem?_eq_getElem h1, List.getElem?_eq_getElem h2] at this
  exact this
/-- all in range -/
def rng (xs : List Int) : Prop := ∀ v ∈ xs, jR v
theorem rng.at {xs : List Int} (h : rng xs) (i : Nat) : jR (xs.getD i 0) := by
  by_cases hi : i < xs.length
  · rw [List.getD_eq_getElem?_getD, List.getElem?_eq_getElem hi]
    exact h _ (List.getElem_mem hi)
  · rw [List.getD_eq_getElem?_getD, List.getElem?_eq_none (by omega)]
    exact ⟨by decide, by decide⟩
theorem s86_l {d a b : Nat} {h : jm_H} {Q : jm_Q} {xs ys : List Int} (hs : shB h a) (hca : cb h a xs) (hb : shB h b) (hcb : cb h b ys) (hl : xs.length = ys.length) (h4 : ys.length ≤ 400) (rx : rng xs) (ry : rng ys)
    (Qok : xs = ys → Q (.inl (some (.inl (jz 1)))) h) (Qno : ¬ xs = ys → Q (.inl (some (.inl (jz 0)))) h) :
    ∀ (m j : Nat) (v : Int), j + m = xs.length → v = j → (∀ i, i < j → xs.getD i 0 = ys.getD i 0) → jm_W dh_pr (d + 2) 86 (15, [some (.inr (.inl a)), some (.inr (.inl b)), some (.inl (jz v))], [], h) Q := by
  intro m
  induction m with
  | zero =>
    intro j v e1 e2 hi
    exact r86_15 ⟨hs.1, _, hca.1, ⟨by omega, by omega⟩, jR_b hca.2.1, fun _ => Qok (getD_ext hl (fun i h => hi i (by omega))), fun q => absurd q (by omega)⟩
  | succ m ih =>
    intro j v e1 e2 hi
    refine r86_15 ⟨hs.1, _, hca.1, ⟨by omega, by omega⟩, jR_b hca.2.1, fun q => absurd q (by omega), fun q => jm_callI (s84 hs hca ⟨by omega, by omega⟩) ?_⟩
    rintro z h' ⟨rfl, ⟨ho, rfl⟩ | ⟨ho, rfl⟩⟩
    · refine r86_28 ⟨hb.1, jm_callI (s84 hb hcb ⟨by omega, by omega⟩) ?_⟩
      rintro z h' ⟨rfl, ⟨ho, rfl⟩ | ⟨ho, rfl⟩⟩
      · refine r86_33 ⟨rx.at _, ry.at _, fun q3 => ih (j + 1) _ (by omega) (by omega) (fun i h => ?_), fun q3 => Qno (fun e => q3 (by rw [e]))⟩
        by_cases e : i = j
        · rw [e, show j = v.toNat by omega]; exact q3
        · exact hi i (by omega)
      · exact absurd ⟨by omega, by omega, by omega⟩ ho
    · exact absurd ⟨by omega, by omega, by omega⟩ ho
theorem s86 {d a b : Nat} {h : jm_H} {xs ys : List Int} (hs : shB h a) (hca : cb h a xs) (hb : shB h b) (hcb : cb h b ys) (h4 : ys.length ≤ 400) (rx : rng xs) (ry : rng ys) :
    jm_E dh_pr (d + 3) 86 [.inr (.inl a), .inr (.inl b)] h (fun o h' => ∃ z : Int, o = .inl (some (.inl (jz z))) ∧ h' = h ∧ ((z = 1 ∧ xs = ys) ∨ (z = 0 ∧ ¬ xs = ys))) := by
  refine e86 (r86_0 ⟨hs.1, _, hca.1, hb.1, _, hcb.1, jR_b hca.2.1, jR_b hcb.2.1, fun q => ?_, fun q => ⟨0, rfl, rfl, Or.inr ⟨rfl, fun e => q (by rw [e])⟩⟩⟩)
  exact s86_l hs hca hb hcb (by omega) h4 rx ry (fun e => ⟨1, rfl, rfl, Or.inl ⟨rfl, e⟩⟩) (fun e => ⟨0, rfl, rfl, Or.inr ⟨rfl, e⟩⟩) xs.length 0 0 (by omega) (by omega) (fun i h => by omega)
/-- the next byte of a row of at most 400, at the place p -/
theorem s87 {d a : Nat} {h : jm_H} {bs : List Int} {p : Int} (hs : shB h a) (hc : cb h a bs) (hp : jm_I h a 2 = jz p) (hr : jR p) : jm_E dh_pr (d + 2) 87 [.inr (.inl a)] h (fun o h' => ∃ z : Int, o = .inl (some (.inl (jz z))) ∧ ((okb p bs.length ∧ z = bs.getD p.toNat 0 ∧ h' = jm_sI h a 2 (jz (p + 1))) ∨ (¬ okb p bs.length ∧ z = -1 ∧ h' = h))) := by
  refine e87 (r87_0 ⟨hs.1, _, hp, jm_callI (s83 hs hc hr) ?_⟩)
  rintro z h' ⟨rfl, ⟨rfl, ho⟩ | ⟨rfl, ho⟩⟩
  · exact r87_8 ⟨⟨by omega, by omega⟩, fun _ => ⟨hs.1, _, hs.2.1, _, hp, hs.2.2.1, _, hs.2.2.2, ⟨ho.1, by have := ho.2.2; omega, by omega⟩, _, hc.at (by have := ho.1; have := ho.2.1; omega) (by have := ho.1; have := ho.2.2; omega), _, rfl, Or.inl ⟨ho, rfl, rfl⟩⟩, fun q => absurd q (by omega)⟩
  · exact r87_8 ⟨⟨by omega, by omega⟩, fun q => absurd rfl q, fun _ => ⟨_, rfl, Or.inr ⟨ho, rfl, rfl⟩⟩⟩
