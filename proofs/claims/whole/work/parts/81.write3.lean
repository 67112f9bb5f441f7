/-! The class's Writer: a history told as bytes. -/
def hd3 (r : Rv) : List Int := [r.1 + 1, r.2.1, r.2.2.1 + 1]
def srcK (rs : List Rv) (fs : List FS) (k : Nat) : Int := srcOf (rs.getD k rv0) (fs.getD k fs0)
def body (rs : List Rv) (fs : List FS) (k : Nat) : List Int := if 0 ≤ srcK rs fs k ∧ srcK rs fs k < rs.length then encD (delta (rs.getD (srcK rs fs k).toNat rv0).2.2.2 (rs.getD k rv0).2.2.2) else encT (rs.getD k rv0).2.2.2
/-- a history as bytes -/
def enc (rs : List Rv) (fs : List FS) : List Int := (rs.length : Int) :: (rs.flatMap hd3 ++ (List.range rs.length).flatMap (body rs fs))
theorem encD_len {acc : List S5} {ad : List Int} (ok : okS acc 24) (h24 : acc.length ≤ 24) : (encD (acc, ad)).length ≤ 649 := by
  have := fm_len (encS ad) 27 acc (fun s hs => encS_len (ok s hs).2.2.2)
  have h2 : 27 * acc.length ≤ 27 * 24 := Nat.mul_le_mul_left 27 h24
  show (acc.flatMap (encS ad)).length + 1 ≤ 649
  omega
/-- numbers of a history's places, and its lines, are small -/
def okR (rs : List Rv) (fs : List FS) : Prop := ∀ k, k < rs.length → rng (rs.getD k rv0).2.2.2 ∧ jR (fs.getD k fs0).2.2.1 ∧ jR (srcK rs fs k)
theorem s128_1 {d w a c : Nat} {h0 : jm_H} {Q : jm_Q} {rs : List Rv} {fs : List FS} (hs : shH h0 a) (hc : cH h0 a rs fs) (hb : shB h0 c) (nc : ∀ i, i < 62 → a + i ∉ [c, c + 1]) {bs : List Int} (hl : bs.length ≤ 10)
    (K : ∀ h l4 l5, jf [c, c + 1] h0 h → cb h c (bs ++ rs.flatMap hd3) → jm_W dh_pr (d + 1) 128 (69, [some (.inr (.inl w)), some (.inr (.inl a)), some (.inr (.inl c)), some (.inl (jz 0)), l4, l5], [], h) Q) :
    ∀ (m k : Nat) (h : jm_H) (v3 : Int) (l4 l5 : Option jm_V), k + m = rs.length → v3 = k → jf [c, c + 1] h0 h → cb h c (bs ++ (rs.take k).flatMap hd3) → jm_W dh_pr (d + 1) 128 (14, [some (.inr (.inl w)), some (.inr (.inl a)), some (.inr (.inl c)), some (.inl (jz v3)), l4, l5], [], h) Q := by
  have l20 := hc.2.1
  intro m
  induction m with
  | zero =>
    intro k h v3 l4 l5 e1 e3 hf hcb
    have hs' := hs.js hf.1
    have hc' := hc.jf hf nc
    refine r128_14 ⟨hs'.1, _, hc'.1, ⟨by omega, by omega⟩, jR_20 l20, fun _ => K h _ _ hf ?_, fun q => absurd q (by omega)⟩
    rw [List.take_of_length_le (by omega)] at hcb
    exact hcb
  | succ m ih =>
    intro k h v3 l4 l5 e1 e3 hf hcb
    have kk : k < rs.length := by omega
    have hs1 := hs.js hf.1
    have hc1 := hc.jf hf nc
    have hb1 := hb.js hf.1
    have sk := hs1.2.2.2 k (by omega)
    have lens : (bs ++ (rs.take k).flatMap hd3).length ≤ 70 := by
      have := fm_len hd3 3 (rs.take k) (fun s hs => Nat.le_refl 3)
      rw [List.length_take] at this
      rw [List.length_append]
      omega
    refine r128_14 ⟨hs1.1, _, hc1.1, ⟨by omega, by omega⟩, jR_20 l20, fun q => absurd q (by omega), fun _ => ⟨_, hs1.2.1, hs1.2.2.1.1, _, hs1.2.2.1.2, ⟨by omega, by omega, by omega⟩, a + 2 + 3 * k, by rw [show v3.toNat = k by omega]; exact sk.1, sk.2.1, _, (hc1.2.2.2 k kk).1.1, hb1.1, jm_callV (s81 hb1 hcb (by omega)) ?_⟩⟩
    rintro h2 ⟨hf2, hcb2⟩
    have F2 := hf.trans hf2
    have hs2 := hs.js F2.1
    have hc2 := hc.jf F2 nc
    have hb2 := hb.js F2.1
    refine r128_41 ⟨(hs2.2.2.2 k (by omega)).2.1, _, (hc2.2.2.2 k kk).1.2.1, hb2.1, jm_callV (s81 hb2 hcb2 (by rw [List.length_append, List.length_singleton]; omega)) ?_⟩
    rintro h3 ⟨hf3, hcb3⟩
    have F3 := F2.trans hf3
    have hs3 := hs.js F3.1
    have hc3 := hc.jf F3 nc
    have hb3 := hb.js F3.1
    refine r128_50 ⟨(hs3.2.2.2 k (by omega)).2.1, _, (hc3.2.2.2 k kk).1.2.2.1, hb3.1, jm_callV (s81 hb3 hcb3 (by rw [List.length_append, List.length_append, List.length_singleton, List.length_singleton]; omega)) ?_⟩
    rintro h4 ⟨hf4, hcb4⟩
    refine r128_61 (ih (k + 1) h4 _ _ _ (by omega) (by omega) (F3.trans hf4) ?_)
    rw [take_snoc' (d := rv0) kk, fm_snoc, hd3]
    simp only [List.append_assoc, List.cons_append, List.nil_append] at hcb4 ⊢
    exact hcb4
theorem s128_2 {d w a c : Nat} {h0 : jm_H} {Q : jm_Q} {rs : List Rv} {fs : List FS} (hw : shW h0 w) (hs : shH h0 a) (hc : cH h0 a rs fs) (hb : shB h0 c) (nc : ∀ i, i < 62 → a + i ∉ [c, c + 1]) (na : ∀ i, i < 62 → a + i ∉ rg w 21) (nw : ∀ i, i < 21 → w + i ∉ [c, c + 1]) (ok : okR rs fs) {bs : List Int} (hl : bs.length ≤ 100)
    (K : ∀ h, jf (rg w 21 ++ [c, c + 1]) h0 h → cb h c (bs ++ (List.range rs.length).flatMap (body rs fs)) → Q (.inl none) h) :
    ∀ (m k : Nat) (h : jm_H) (v3 : Int) (l4 l5 : Option jm_V), k + m = rs.length → v3 = k → jf (rg w 21 ++ [c, c + 1]) h0 h → cb h c (bs ++ (List.range k).flatMap (body rs fs)) → (bs ++ (List.range k).flatMap (body rs fs)).length ≤ 100 + 700 * k → jm_W dh_pr (d + 2) 128 (69, [some (.inr (.inl w)), some (.inr (.inl a)), some (.inr (.inl c)), some (.inl (jz v3)), l4, l5], [], h) Q := by
  have l20 := hc.2.1
  have nS : ∀ i, i < 62 → a + i ∉ rg w 21 ++ [c, c + 1] := fun i hi q => (List.mem_append.mp q).elim (na i hi) (nc i hi)
  intro m
  induction m with
  | zero =>
    intro k h v3 l4 l5 e1 e3 hf hcb hle
    have hs' := hs.js hf.1
    have hc' := hc.jf hf nS
    refine r128_69 ⟨hs'.1, _, hc'.1, ⟨by omega, by omega⟩, jR_20 l20, fun _ => K h hf ?_, fun q => absurd q (by omega)⟩
    rw [show rs.length = k by omega]
    exact hcb
  | succ m ih =>
    intro k h v3 l4 l5 e1 e3 hf hcb hle
    have kk : k < rs.length := by omega
    have hw1 := hw.js hf.1
    have hs1 := hs.js hf.1
    have hc1 := hc.jf hf nS
    have hb1 := hb.js hf.1
    have sk := hs1.2.2.2 k (by omega)
    have ck := hc1.2.2.2 k kk
    have okk := ok k kk
    have h700 : 700 * k ≤ 700 * 20 := Nat.mul_le_mul_left 700 (by omega)
    have n1 : a + 2 + 3 * k + 1 ∉ [c, c + 1] := by have := nc (3 + 3 * k) (by omega); rwa [show a + (3 + 3 * k) = a + 2 + 3 * k + 1 by omega] at this
    have n2 : a + 2 + 3 * k + 1 + 1 ∉ [c, c + 1] := by have := nc (4 + 3 * k) (by omega); rwa [show a + (4 + 3 * k) = a + 2 + 3 * k + 1 + 1 by omega] at this
    have nwa : ∀ j, j < 20 → a + 2 + 3 * j + 1 ∉ rg (w + 1) 20 ∧ a + 2 + 3 * j + 1 + 1 ∉ rg (w + 1) 20 := by
      intro j hj
      have p1 := na (3 + 3 * j) (by omega)
      have p2 := na (4 + 3 * j) (by omega)
      rw [mem_rg] at p1 p2
      rw [mem_rg, mem_rg]
      omega
    refine r128_69 ⟨hs1.1, _, hc1.1, ⟨by omega, by omega⟩, jR_20 l20, fun q => absurd q (by omega), fun _ => ⟨_, hs1.2.1, hs1.2.2.1.1, _, hs1.2.2.1.2, ⟨by omega, by omega, by omega⟩, a + 2 + 3 * k, by rw [show v3.toNat = k by omega]; exact sk.1, sk.2.1, _, sk.2.2.1, jm_callI (s117 sk.2 ck okk.2.1) ?_⟩⟩
    rintro z h2 ⟨rfl, rfl⟩
    refine r128_97 ⟨hs1.1, jm_callI (s96 hs1.1 hc1.1 l20 okk.2.2) ?_⟩
    have step : bs ++ (List.range (k + 1)).flatMap (body rs fs) = bs ++ (List.range k).flatMap (body rs fs) ++ body rs fs k := by
      rw [List.range_succ, fm_snoc, List.append_assoc]
    rintro z h2 ⟨rfl, ⟨rfl, q⟩ | ⟨rfl, q⟩⟩
    · have q' : 0 ≤ srcK rs fs k ∧ srcK rs fs k < rs.length := q
      have jj : (srcK rs fs k).toNat < rs.length := by omega
      have sj := hs1.2.2.2 (srcK rs fs k).toNat (by omega)
      have cj := hc1.2.2.2 (srcK rs fs k).toNat jj
      refine r128_105 ⟨⟨by omega, by omega⟩, fun p => absurd p (by omega), fun _ => ⟨hw1.1, _, hw1.2.1, hs1.1, _, hs1.2.1, hs1.2.2.1.1, _, hs1.2.2.1.2, ⟨q'.1, by omega, by omega⟩, a + 2 + 3 * (srcK rs fs k).toNat, sj.1, sj.2.1, _, sj.2.2.1, hw1.2.2.1, jm_callV (s89 hw1.2.2 sj.2.2.2 cj.2 sk.2.2.2 ck.2 (ok _ jj).1 okk.1 (nwa _ (by omega)).1 (nwa _ (by omega)).2 (nwa _ (by omega)).1 (nwa _ (by omega)).2) ?_⟩⟩
      rintro h3 ⟨hf3, ⟨op, hd3'⟩, d24, dok, d12⟩
      have F3 : jf (rg w 21 ++ [c, c + 1]) h0 h3 := hf.trans (hf3.mono (fun x hx => List.mem_append_left _ (by rw [mem_rg] at hx ⊢; omega)))
      have hw3 := hw.js F3.1
      have hb3 := hb.js F3.1
      have hcb3 := hcb.jf hf3 (fun p => by
        rw [mem_rg] at p
        have := nw (c - w) (by omega)
        rw [show w + (c - w) = c by omega] at this
        simp at this) (fun p => by
        rw [mem_rg] at p
        have := nw (c + 1 - w) (by omega)
        rw [show w + (c + 1 - w) = c + 1 by omega] at this
        simp at this)
      refine r128_127 ⟨hw3.1, jm_callV (s130 hw3 hd3' hb3 hcb3 (fun i hi => nw i (by omega)) dok (delta_ok _ _) d12 d24 (by omega)) ?_⟩
      rintro h4 ⟨hf4, hcb4⟩
      have lb := encD_len (ad := (delta (rs.getD (srcK rs fs k).toNat rv0).2.2.2 (rs.getD k rv0).2.2.2).2) dok d24
      have eb : body rs fs k = encD (delta (rs.getD (srcK rs fs k).toNat rv0).2.2.2 (rs.getD k rv0).2.2.2) := by rw [body, if_pos q']
      refine r128_132 (ih (k + 1) h4 _ _ _ (by omega) (by omega) (F3.trans (hf4.mono (fun x hx => List.mem_append_right _ hx))) ?_ ?_)
      · rw [step, eb]; exact hcb4
      · rw [step, eb, List.length_append]
        have : (encD (delta (rs.getD (srcK rs fs k).toNat rv0).2.2.2 (rs.getD k rv0).2.2.2)).length ≤ 649 := lb
        omega
    · have q' : ¬ (0 ≤ srcK rs fs k ∧ srcK rs fs k < rs.length) := q
      have eb : body rs fs k = encT (rs.getD k rv0).2.2.2 := by rw [body, if_neg q']
      refine r128_105 ⟨⟨by omega, by omega⟩, fun _ => ⟨hw1.1, jm_callV (s129 sk.2.2.2 ck.2 hb1 hcb n1 n2 (by omega)) ?_⟩, fun p => absurd rfl p⟩
      rintro h4 ⟨hf4, hcb4⟩
      refine r128_142 (ih (k + 1) h4 _ _ _ (by omega) (by omega) (hf.trans (hf4.mono (fun x hx => List.mem_append_right _ hx))) ?_ ?_)
      · rw [step, eb]; exact hcb4
      · rw [step, eb, List.length_append]
        have : (encT (rs.getD k rv0).2.2.2).length ≤ 13 := by
          have := ck.2.2.1
          show (rs.getD k rv0).2.2.2.length + 1 ≤ 13
          omega
        omega
theorem s128 {d w a c : Nat} {h : jm_H} {rs : List Rv} {fs : List FS} (hw : shW h w) (hs : shH h a) (hc : cH h a rs fs) (hb : shB h c) (nc : ∀ i, i < 62 → a + i ∉ [c, c + 1]) (na : ∀ i, i < 62 → a + i ∉ rg w 21) (nw : ∀ i, i < 21 → w + i ∉ [c, c + 1]) (ok : okR rs fs) :
    jm_E dh_pr (d + 3) 128 [.inr (.inl w), .inr (.inl a), .inr (.inl c)] h (fun o h' => o = .inl none ∧ jf (rg w 21 ++ [c, c + 1]) h h' ∧ cb h' c (enc rs fs)) := by
  refine e128 (r128_0 ⟨hb.1, jm_callV (s80 hb) ?_⟩)
  rintro h1 ⟨hf1, hcb1⟩
  have hs1 := hs.js hf1.1
  have hc1 := hc.jf hf1 nc
  have hb1 := hb.js hf1.1
  refine r128_4 ⟨hs1.1, _, hc1.1, hb1.1, jm_callV (s81 hb1 hcb1 (by simp)) ?_⟩
  rintro h2 ⟨hf2, hcb2⟩
  have F2 := hf1.trans hf2
  refine r128_12 (s128_1 (bs := [(rs.length : Int)]) (hs.js F2.1) (hc.jf F2 nc) (hb.js F2.1) nc (by simp) (fun h3 l4 l5 hf3 hcb3 => ?_) rs.length 0 h2 0 none none (by omega) (by omega) (jf.refl _ _) (by simpa using hcb2))
  have F3 := F2.trans hf3
  have l20 := hc.2.1
  have lh : ([(rs.length : Int)] ++ rs.flatMap hd3).length ≤ 61 := by
    have := fm_len hd3 3 rs (fun s hs => Nat.le_refl 3)
    rw [List.length_append, List.length_singleton]
    omega
  refine s128_2 (bs := [(rs.length : Int)] ++ rs.flatMap hd3) (hw.js F3.1) (hs.js F3.1) (hc.jf F3 nc) (hb.js F3.1) nc na nw ok (by omega) (fun h4 hf4 hcb4 => ⟨rfl, (F3.mono (fun x hx => List.mem_append_right _ hx)).trans hf4, ?_⟩) rs.length 0 h3 0 l4 l5 (by omega) (by omega) (jf.refl _ _) (by simpa using hcb3) (by simp at lh ⊢; omega)
  rw [enc]
  simpa only [List.append_assoc, List.cons_append, List.nil_append] using hcb4
