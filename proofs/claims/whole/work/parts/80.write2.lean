/-! The class's Writer: texts and steps. -/
theorem take_snoc' {α : Type} {xs : List α} {j : Nat} {d : α} (hj : j < xs.length) : xs.take (j + 1) = xs.take j ++ [xs.getD j d] := by
  rw [List.take_succ, List.getD_eq_getElem?_getD, List.getElem?_eq_getElem hj]; rfl
theorem fm_snoc {α : Type} (l : List α) (x : α) (f : α → List Int) : (l ++ [x]).flatMap f = l.flatMap f ++ f x := by
  rw [List.flatMap_append, List.flatMap_cons, List.flatMap_nil, List.append_nil]
theorem fm_len {α : Type} (f : α → List Int) (m : Nat) : ∀ l : List α, (∀ x ∈ l, (f x).length ≤ m) → (l.flatMap f).length ≤ m * l.length
  | [], _ => Nat.zero_le _
  | x :: l, h => by
    have h1 := h x List.mem_cons_self
    have h2 := fm_len f m l (fun y hy => h y (List.mem_cons_of_mem _ hy))
    rw [List.flatMap_cons, List.length_append, List.length_cons, Nat.mul_succ]
    omega
def encT (xs : List Int) : List Int := (xs.length : Int) :: xs
def encS (ad : List Int) (s : S5) : List Int := [s.1, s.2.1, s.2.2.1] ++ (if s.1 = 1 then (List.range s.2.2.1.toNat).map (fun n : Nat => addL s ad n) else [])
def encD (q : List S5 × List Int) : List Int := (q.1.length : Int) :: q.1.flatMap (encS q.2)
theorem s129_l {d w b c : Nat} {h0 : jm_H} {Q : jm_Q} {xs bs : List Int} {l0 : Option jm_V} (hb : shT h0 b) (hx : cx h0 b xs) (hc : shB h0 c) (n1 : b ∉ [c, c + 1]) (n2 : b + 1 ∉ [c, c + 1]) (hl : bs.length + 20 < 100000)
    (Qok : ∀ h, jf [c, c + 1] h0 h → cb h c (bs ++ xs) → Q (.inl none) h) :
    ∀ (m j : Nat) (h : jm_H) (v : Int), j + m = xs.length → v = j → jf [c, c + 1] h0 h → cb h c (bs ++ xs.take j) → jm_W dh_pr (d + 1) 129 (10, [l0, some (.inr (.inl b)), some (.inr (.inl c)), some (.inl (jz v))], [], h) Q := by
  have l12 := hx.2.1
  intro m
  induction m with
  | zero =>
    intro j h v e1 e2 hf hcb
    have hb' := hb.js hf.1
    have hx' := hx.jf hf n1 n2
    refine r129_10 ⟨hb'.1, _, hx'.1, ⟨by omega, by omega⟩, jR_len l12, fun _ => Qok h hf ?_, fun q => absurd q (by omega)⟩
    rw [List.take_of_length_le (by omega)] at hcb
    exact hcb
  | succ m ih =>
    intro j h v e1 e2 hf hcb
    have hb' := hb.js hf.1
    have hc' := hc.js hf.1
    have hx' := hx.jf hf n1 n2
    refine r129_10 ⟨hb'.1, _, hx'.1, ⟨by omega, by omega⟩, jR_len l12, fun q => absurd q (by omega), fun _ => ⟨_, hb'.2.1, hb'.2.2.1, _, hb'.2.2.2, ⟨by omega, by omega, by omega⟩, xs.getD j 0, by rw [show v.toNat = j by omega]; exact hx'.2.2 j (by omega), hc'.1, jm_callV (s81 hc' hcb (by rw [List.length_append, List.length_take]; omega)) ?_⟩⟩
    rintro h2 ⟨hf2, hcb2⟩
    refine r129_28 (ih (j + 1) h2 _ (by omega) (by omega) (hf.trans hf2) ?_)
    rw [take_snoc (by omega), ← List.append_assoc]
    exact hcb2
theorem s129 {d w b c : Nat} {h : jm_H} {xs bs : List Int} (hb : shT h b) (hx : cx h b xs) (hc : shB h c) (hcb : cb h c bs) (n1 : b ∉ [c, c + 1]) (n2 : b + 1 ∉ [c, c + 1]) (hl : bs.length + 30 < 100000) :
    jm_E dh_pr (d + 2) 129 [.inr (.inl w), .inr (.inl b), .inr (.inl c)] h (fun o h' => o = .inl none ∧ jf [c, c + 1] h h' ∧ cb h' c (bs ++ encT xs)) := by
  refine e129 (r129_0 ⟨hb.1, _, hx.1, hc.1, jm_callV (s81 hc hcb (by omega)) ?_⟩)
  rintro h1 ⟨hf1, hcb1⟩
  refine r129_8 (s129_l (w := w) (bs := bs ++ [(xs.length : Int)]) (hb.js hf1.1) (hx.jf hf1 n1 n2) (hc.js hf1.1) n1 n2 (by rw [List.length_append, List.length_singleton]; omega) (fun h2 g1 g2 => ⟨rfl, hf1.trans g1, ?_⟩) xs.length 0 h1 0 (by omega) (by omega) (jf.refl _ _) (by simpa using hcb1))
  rw [encT, List.append_cons]
  exact g2
def shW (h : jm_H) (a : Nat) : Prop := jm_T h a = 9 ∧ jm_F h a 0 = a + 1 ∧ shD h (a + 1)
theorem shW.js {h h' : jm_H} {a : Nat} (s : shW h a) (p : js h h') : shW h' a := ⟨(p.2.2.1 a).trans s.1, (p.2.2.2.2.1 a 0).trans s.2.1, s.2.2.js p⟩
theorem encS_len {ad : List Int} {s : S5} (h : s.2.2.1 ≤ 24) : (encS ad s).length ≤ 27 := by
  unfold encS
  rw [List.length_append]
  split
  · rw [List.length_map, List.length_range]; simp; omega
  · simp
theorem s130_in {d w c : Nat} {h0 : jm_H} {Q : jm_Q} {acc : List S5} {ad B : List Int} {op : Bool} {k : Nat} {X : List Int} {v2 v3 : Int} (hw : shW h0 w) (hd : dD h0 (w + 1) acc ad op) (hc : shB h0 c) (nn : ∀ i, i < 7 → w + i ∉ [c, c + 1]) (ok : okS acc 24) (oa : okA acc ad B B.length) (l12 : ad.length ≤ 12) (h24 : acc.length ≤ 24) (hk : k < acc.length) (e2 : v2 = k) (h3 : 0 ≤ v3 ∧ v3 ≤ 24) (hl : X.length + 30 < 100000)
    (K : ∀ h v4, jf [c, c + 1] h0 h → cb h c (X ++ (List.range v3.toNat).map (fun n : Nat => addL (acc.getD k s50) ad n)) → jm_W dh_pr (d + 1) 130 (13, [some (.inr (.inl w)), some (.inr (.inl c)), some (.inl (jz (v2 + 1))), some (.inl (jz v3)), some (.inl (jz v4))], [], h) Q) :
    ∀ (m j : Nat) (h : jm_H) (v4 : Int), j + m = v3.toNat → v4 = j → jf [c, c + 1] h0 h → cb h c (X ++ (List.range j).map (fun n : Nat => addL (acc.getD k s50) ad n)) → jm_W dh_pr (d + 1) 130 (93, [some (.inr (.inl w)), some (.inr (.inl c)), some (.inl (jz v2)), some (.inl (jz v3)), some (.inl (jz v4))], [], h) Q := by
  intro m
  induction m with
  | zero =>
    intro j h v4 e1 e4 hf hcb
    refine r130_93 ⟨⟨by omega, by omega⟩, ⟨by omega, by omega⟩, fun _ => K h v4 hf ?_, fun q => absurd q (by omega)⟩
    rw [show v3.toNat = j by omega]; exact hcb
  | succ m ih =>
    intro j h v4 e1 e4 hf hcb
    have hw' := hw.js hf.1
    have hc' := hc.js hf.1
    have hd' := hd.jf hf (fun i hi => by have := nn (1 + i) (by omega); rwa [← Nat.add_assoc] at this)
    refine r130_93 ⟨⟨by omega, by omega⟩, ⟨by omega, by omega⟩, fun q => absurd q (by omega), fun _ => ⟨hw'.1, _, hw'.2.1, hw'.2.2.1, jm_callI (s93 hw'.2.2 hd' ok oa l12 h24 ⟨by omega, by omega⟩ ⟨by omega, by omega⟩) ?_⟩⟩
    rintro z h2 ⟨rfl, rfl⟩
    refine r130_110 ⟨hc'.1, jm_callV (s81 hc' hcb (by rw [List.length_append, List.length_map, List.length_range]; omega)) ?_⟩
    rintro h3' ⟨hf3, hcb3⟩
    refine r130_113 (ih (j + 1) h3' _ (by omega) (by omega) (hf.trans hf3) ?_)
    rw [List.range_succ, List.map_append, ← List.append_assoc]
    rw [show v2.toNat = k by omega, e4] at hcb3
    exact hcb3
theorem s130_l {d w c : Nat} {h0 : jm_H} {Q : jm_Q} {acc : List S5} {ad B bs : List Int} {op : Bool} (hw : shW h0 w) (hd : dD h0 (w + 1) acc ad op) (hc : shB h0 c) (nn : ∀ i, i < 7 → w + i ∉ [c, c + 1]) (ok : okS acc 24) (oa : okA acc ad B B.length) (l12 : ad.length ≤ 12) (h24 : acc.length ≤ 24) (hl : bs.length + 800 < 100000)
    (Qok : ∀ h, jf [c, c + 1] h0 h → cb h c (bs ++ acc.flatMap (encS ad)) → Q (.inl none) h) :
    ∀ (m k : Nat) (h : jm_H) (v2 : Int) (l3 l4 : Option jm_V), k + m = acc.length → v2 = k → jf [c, c + 1] h0 h → cb h c (bs ++ (acc.take k).flatMap (encS ad)) → jm_W dh_pr (d + 1) 130 (13, [some (.inr (.inl w)), some (.inr (.inl c)), some (.inl (jz v2)), l3, l4], [], h) Q := by
  intro m
  induction m with
  | zero =>
    intro k h v2 l3 l4 e1 e2 hf hcb
    have hw' := hw.js hf.1
    have hd' := hd.jf hf (fun i hi => by have := nn (1 + i) (by omega); rwa [← Nat.add_assoc] at this)
    refine r130_13 ⟨hw'.1, _, hw'.2.1, hw'.2.2.1, _, hd'.1.1, ⟨by omega, by omega⟩, ⟨by omega, by omega⟩, fun _ => Qok h hf ?_, fun q => absurd q (by omega)⟩
    rw [List.take_of_length_le (by omega)] at hcb
    exact hcb
  | succ m ih =>
    intro k h v2 l3 l4 e1 e2 hf hcb
    have kk : k < acc.length := by omega
    have nd : ∀ i, i < 6 → w + 1 + i ∉ [c, c + 1] := fun i hi => by have := nn (1 + i) (by omega); rwa [← Nat.add_assoc] at this
    have o := ok _ (mem_gD kk)
    have rd : ∀ (f : S5 → Int), (acc.map f).getD k 0 = f (acc.getD k s50) := fun f => gD_map kk
    have ll : ∀ (f : S5 → Int), k < (acc.map f).length := fun f => by rw [List.length_map]; exact kk
    have lens : (bs ++ (acc.take k).flatMap (encS ad)).length ≤ bs.length + 27 * 24 := by
      have := fm_len (encS ad) 27 (acc.take k) (fun s hs => encS_len (ok s (List.mem_of_mem_take hs)).2.2.2)
      rw [List.length_take] at this
      rw [List.length_append]
      have h2 : 27 * min k acc.length ≤ 27 * 24 := Nat.mul_le_mul_left 27 (by omega)
      omega
    have ev : v2.toNat = k := by omega
    have ki : jzi v2 24 := ⟨by omega, by omega, by omega⟩
    have hw1 := hw.js hf.1
    have hc1 := hc.js hf.1
    have hd1 := hd.jf hf nd
    obtain ⟨t1, ⟨f0, f1, f2, -, -, -⟩, ⟨g1, g2, g3, -, -⟩, -⟩ := hw1.2.2
    refine r130_13 ⟨hw1.1, _, hw1.2.1, t1, _, hd1.1.1, ⟨by omega, by omega⟩, ⟨by omega, by omega⟩, fun q => absurd q (by omega), fun _ => ⟨_, f0, g1.1, _, g1.2, ki, _, by rw [ev, hd1.2.1 _ (ll _), rd], hc1.1, jm_callV (s81 hc1 hcb (by omega)) ?_⟩⟩
    rintro h2 ⟨hf2, hcb2⟩
    have F2 := hf.trans hf2
    have hw2 := hw.js F2.1
    have hc2 := hc.js F2.1
    have hd2 := hd.jf F2 nd
    obtain ⟨t1, ⟨f0, f1, f2, -, -, -⟩, ⟨g1, g2, g3, -, -⟩, -⟩ := hw2.2.2
    refine r130_37 ⟨hw2.1, _, hw2.2.1, t1, _, f1, g2.1, _, g2.2, ki, _, by rw [ev, hd2.2.2.1 _ (ll _), rd], hc2.1, jm_callV (s81 hc2 hcb2 (by rw [List.length_append, List.length_singleton]; omega)) ?_⟩
    rintro h3 ⟨hf3, hcb3⟩
    have F3 := F2.trans hf3
    have hw3 := hw.js F3.1
    have hc3 := hc.js F3.1
    have hd3 := hd.jf F3 nd
    obtain ⟨t1, ⟨f0, f1, f2, -, -, -⟩, ⟨g1, g2, g3, -, -⟩, -⟩ := hw3.2.2
    refine r130_50 ⟨hw3.1, _, hw3.2.1, t1, _, f2, g3.1, _, g3.2, ki, _, by rw [ev, hd3.2.2.2.1 _ (ll _), rd], hc3.1, jm_callV (s81 hc3 hcb3 (by rw [List.length_append, List.length_append, List.length_singleton, List.length_singleton]; omega)) ?_⟩
    rintro h4 ⟨hf4, hcb4⟩
    have F4 := F3.trans hf4
    have hw4 := hw.js F4.1
    have hc4 := hc.js F4.1
    have hd4 := hd.jf F4 nd
    obtain ⟨t1, ⟨f0, f1, f2, -, -, -⟩, ⟨g1, g2, g3, -, -⟩, -⟩ := hw4.2.2
    have lX : (bs ++ (acc.take k).flatMap (encS ad) ++ [(acc.getD k s50).1] ++ [(acc.getD k s50).2.1] ++ [(acc.getD k s50).2.2.1]).length + 30 < 100000 := by
      rw [List.length_append, List.length_append, List.length_append, List.length_singleton, List.length_singleton, List.length_singleton]; omega
    have step : bs ++ (acc.take (k + 1)).flatMap (encS ad) = bs ++ (acc.take k).flatMap (encS ad) ++ [(acc.getD k s50).1] ++ [(acc.getD k s50).2.1] ++ [(acc.getD k s50).2.2.1] ++ (if (acc.getD k s50).1 = 1 then (List.range (acc.getD k s50).2.2.1.toNat).map (fun n : Nat => addL (acc.getD k s50) ad n) else []) := by
      rw [take_snoc' (d := s50) kk, fm_snoc, encS]
      simp only [List.append_assoc, List.cons_append, List.nil_append]
    refine r130_63 ⟨hw4.1, _, hw4.2.1, t1, _, f0, g1.1, _, g1.2, ki, (acc.getD k s50).1, by rw [ev, hd4.2.1 _ (ll _), rd], ⟨by omega, by omega⟩, fun q => ?_, fun q => ⟨_, f2, g3.1, _, g3.2, ki, (acc.getD k s50).2.2.1, by rw [ev, hd4.2.2.2.1 _ (ll _), rd], ?_⟩⟩
    · refine s130_in hw4 hd4 hc4 nn ok oa l12 h24 kk e2 ⟨by omega, by omega⟩ lX (fun h5 v4 hf5 hcb5 => ih (k + 1) h5 _ _ _ (by omega) (by omega) (F4.trans hf5) ?_) 0 0 h4 0 (by simp) (by simp) (jf.refl _ _) (by simpa using hcb4)
      rw [step, if_neg q]
      simpa using hcb5
    · refine s130_in hw4 hd4 hc4 nn ok oa l12 h24 kk e2 ⟨by omega, by omega⟩ lX (fun h5 v4 hf5 hcb5 => ih (k + 1) h5 _ _ _ (by omega) (by omega) (F4.trans hf5) ?_) (acc.getD k s50).2.2.1.toNat 0 h4 0 (by omega) (by simp) (jf.refl _ _) (by simpa using hcb4)
      rw [step, if_pos q]
      exact hcb5
theorem s130 {d w c : Nat} {h : jm_H} {acc : List S5} {ad B bs : List Int} {op : Bool} (hw : shW h w) (hd : dD h (w + 1) acc ad op) (hc : shB h c) (hcb : cb h c bs) (nn : ∀ i, i < 7 → w + i ∉ [c, c + 1]) (ok : okS acc 24) (oa : okA acc ad B B.length) (l12 : ad.length ≤ 12) (h24 : acc.length ≤ 24) (hl : bs.length + 900 < 100000) :
    jm_E dh_pr (d + 2) 130 [.inr (.inl w), .inr (.inl c)] h (fun o h' => o = .inl none ∧ jf [c, c + 1] h h' ∧ cb h' c (bs ++ encD (acc, ad))) := by
  refine e130 (r130_0 ⟨hw.1, _, hw.2.1, hw.2.2.1, _, hd.1.1, hc.1, jm_callV (s81 hc hcb (by omega)) ?_⟩)
  rintro h1 ⟨hf1, hcb1⟩
  refine r130_11 (s130_l (bs := bs ++ [(acc.length : Int)]) (hw.js hf1.1) (hd.jf hf1 (fun i hi => by have := nn (1 + i) (by omega); rwa [← Nat.add_assoc] at this)) (hc.js hf1.1) nn ok oa l12 h24 (by rw [List.length_append, List.length_singleton]; omega) (fun h2 g1 g2 => ⟨rfl, hf1.trans g1, ?_⟩) acc.length 0 h1 0 none none (by omega) (by omega) (jf.refl _ _) (by simpa using hcb1))
  rw [encD, List.append_cons]
  exact g2
