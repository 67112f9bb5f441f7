/-! The class's revisions and histories. -/
/-- parent, user, lock, text -/
abbrev Rv : Type := Int × Int × Int × List Int
/-- next, branches, fork, branch, place, length of the name -/
abbrev FS : Type := Int × Int × Int × Int × Int × Int
def rv0 : Rv := (-1, 0, -1, [])
def fs0 : FS := (-1, 0, -1, 1, 1, 2)
def shV (h : jm_H) (a : Nat) : Prop := jm_T h a = 7 ∧ jm_F h a 0 = a + 1 ∧ shT h (a + 1)
theorem shV.js {h h' : jm_H} {a : Nat} (s : shV h a) (p : js h h') : shV h' a := ⟨(p.2.2.1 a).trans s.1, (p.2.2.2.2.1 a 0).trans s.2.1, s.2.2.js p⟩
def cR (h : jm_H) (a : Nat) (r : Rv) (f : FS) : Prop :=
  (jm_I h a 1 = jz r.1 ∧ jm_I h a 2 = jz r.2.1 ∧ jm_I h a 3 = jz r.2.2.1 ∧ jm_I h a 4 = jz f.1 ∧ jm_I h a 5 = jz f.2.1 ∧ jm_I h a 6 = jz f.2.2.1 ∧ jm_I h a 7 = jz f.2.2.2.1 ∧ jm_I h a 8 = jz f.2.2.2.2.1 ∧ jm_I h a 9 = jz f.2.2.2.2.2) ∧ cx h (a + 1) r.2.2.2
theorem cR.jf {h h' : jm_H} {a : Nat} {r : Rv} {f : FS} {S : List Nat} (c : cR h a r f) (p : jf S h h') (h1 : a ∉ S) (h2 : a + 1 ∉ S) (h3 : a + 2 ∉ S) : cR h' a r f := by
  obtain ⟨⟨c1, c2, c3, c4, c5, c6, c7, c8, c9⟩, c10⟩ := c
  have q := p.2 a h1
  exact ⟨⟨(q _).trans c1, (q _).trans c2, (q _).trans c3, (q _).trans c4, (q _).trans c5, (q _).trans c6, (q _).trans c7, (q _).trans c8, (q _).trans c9⟩, c10.jf p h2 h3⟩
theorem off1 {h : jm_H} {a b k j : Nat} {x : Int32} (hn : b ≠ a) : jm_I (jm_sI h a k x) b j = jm_I h b j := by
  rw [jr_I_sI, if_neg (fun q => hn q.1)]
theorem s112 {d a b : Nat} {h : jm_H} {r : Rv} {f : FS} (hs : shV h a) (hb : shV h b) (hc : cR h b r f) (n0 : b ≠ a) (n1 : b ≠ a + 1) (n2 : b ≠ a + 2) : jm_E dh_pr (d + 2) 112 [.inr (.inl a), .inr (.inl b)] h (fun o h' => o = .inl none ∧ jf [a, a + 1, a + 2] h h' ∧ cR h' a r f) := by
  obtain ⟨⟨c1, c2, c3, c4, c5, c6, c7, c8, c9⟩, c10⟩ := hc
  refine e112 (r112_0 ⟨hs.1, _, hs.2.1, hb.1, _, hb.2.1, hs.2.2.1, jm_callV (s120 hs.2.2 hb.2.2 c10) ?_⟩)
  rintro h1 ⟨hf1, hx1⟩
  have hs1 := hs.js hf1.1
  have hb1 := hb.js hf1.1
  have q : ∀ k, jm_I h1 b k = jm_I h b k := hf1.2 b (by simp; omega)
  have m : a ∈ [a, a + 1, a + 2] := by simp
  have m1 : a ∈ [a] := by simp
  refine r112_11 ⟨hb1.1, _, (q _).trans c1, hs1.1, r.2.1, ?_, r.2.2.1, ?_, f.1, ?_, f.2.1, ?_, f.2.2.1, ?_, f.2.2.2.1, ?_, f.2.2.2.2.1, ?_, f.2.2.2.2.2, ?_, rfl, ?_, ?_, ?_⟩
  · rw [off1 n0, q]; exact c2
  · rw [off1 n0, off1 n0, q]; exact c3
  · rw [off1 n0, off1 n0, off1 n0, q]; exact c4
  · rw [off1 n0, off1 n0, off1 n0, off1 n0, q]; exact c5
  · rw [off1 n0, off1 n0, off1 n0, off1 n0, off1 n0, q]; exact c6
  · rw [off1 n0, off1 n0, off1 n0, off1 n0, off1 n0, off1 n0, q]; exact c7
  · rw [off1 n0, off1 n0, off1 n0, off1 n0, off1 n0, off1 n0, off1 n0, q]; exact c8
  · rw [off1 n0, off1 n0, off1 n0, off1 n0, off1 n0, off1 n0, off1 n0, off1 n0, q]; exact c9
  · exact (((((((((hf1.mono (by simp)).sI m).sI m).sI m).sI m).sI m).sI m).sI m).sI m).sI m
  · simp [jr_I_sI]
  · exact hx1.jf ((((((((((jf.refl [a] h1).sI m1).sI m1).sI m1).sI m1).sI m1).sI m1).sI m1).sI m1).sI m1) (by simp) (by simp; omega)
theorem s113 {d a : Nat} {h : jm_H} {p u : Int} (hs : shV h a) : jm_E dh_pr (d + 2) 113 [.inr (.inl a), .inl (jz p), .inl (jz u)] h (fun o h' => o = .inl none ∧ jf [a, a + 1, a + 2] h h' ∧ cR h' a (p, u, -1, []) fs0) := by
  refine e113 (r113_0 ⟨hs.1, _, hs.2.1, hs.2.2.1, jm_callV (s119 hs.2.2) ?_⟩)
  rintro h1 ⟨hf1, hx1⟩
  have hs1 := hs.js hf1.1
  have m : a ∈ [a, a + 1, a + 2] := by simp
  have m1 : a ∈ [a] := by simp
  refine r113_7 ⟨hs1.1, rfl, ?_, ?_, ?_⟩
  · exact (((((((((hf1.mono (by simp)).sI m).sI m).sI m).sI m).sI m).sI m).sI m).sI m).sI m
  · simp [jr_I_sI, fs0]
  · exact hx1.jf ((((((((((jf.refl [a] h1).sI m1).sI m1).sI m1).sI m1).sI m1).sI m1).sI m1).sI m1).sI m1) (by simp) (by simp; omega)
theorem s114 {d a b : Nat} {h : jm_H} {r r' : Rv} {f f' : FS} (hs : shV h a) (hb : shV h b) (hc : cR h a r f) (hc' : cR h b r' f') (n0 : b ≠ a) : jm_E dh_pr (d + 1) 114 [.inr (.inl a), .inr (.inl b)] h (fun o h' => o = .inl none ∧ jf [a] h h' ∧ cR h' a r (f.1, f.2.1, f'.2.2.1, f'.2.2.2.1, f'.2.2.2.2.1 + 1, f'.2.2.2.2.2)) := by
  obtain ⟨⟨c1, c2, c3, c4, c5, c6, c7, c8, c9⟩, c10⟩ := hc
  obtain ⟨⟨-, -, -, -, -, b6, b7, b8, b9⟩, -⟩ := hc'
  have m1 : a ∈ [a] := by simp
  have fr : ∀ y1 y2 y3 y4, jf [a] h (jm_sI (jm_sI (jm_sI (jm_sI h a 6 y1) a 7 y2) a 8 y3) a 9 y4) := fun _ _ _ _ => ((((jf.refl [a] h).sI m1).sI m1).sI m1).sI m1
  refine e114 (r114_0 ⟨hb.1, _, b6, hs.1, f'.2.2.2.1, ?_, f'.2.2.2.2.1, ?_, f'.2.2.2.2.2, ?_, rfl, fr _ _ _ _, ?_, c10.jf (fr _ _ _ _) (by simp) (by simp; omega)⟩)
  · rw [off1 n0]; exact b7
  · rw [off1 n0, off1 n0]; exact b8
  · rw [off1 n0, off1 n0, off1 n0]; exact b9
  · simp [jr_I_sI, c1, c2, c3, c4, c5]
theorem s115 {d a b : Nat} {h : jm_H} {r r' : Rv} {f f' : FS} (hs : shV h a) (hb : shV h b) (hc : cR h a r f) (hc' : cR h b r' f') (n0 : b ≠ a) : jm_E dh_pr (d + 1) 115 [.inr (.inl a), .inr (.inl b)] h (fun o h' => o = .inl none ∧ jf [a] h h' ∧ cR h' a r (f.1, f.2.1, r.1, f'.2.1, 1, f'.2.2.2.2.2 + 2)) := by
  obtain ⟨⟨c1, c2, c3, c4, c5, c6, c7, c8, c9⟩, c10⟩ := hc
  obtain ⟨⟨-, -, -, -, b5, b6, b7, b8, b9⟩, -⟩ := hc'
  have m1 : a ∈ [a] := by simp
  have fr : ∀ y1 y2 y3 y4, jf [a] h (jm_sI (jm_sI (jm_sI (jm_sI h a 6 y1) a 7 y2) a 8 y3) a 9 y4) := fun _ _ _ _ => ((((jf.refl [a] h).sI m1).sI m1).sI m1).sI m1
  refine e115 (r115_0 ⟨hs.1, _, c1, hb.1, f'.2.1, ?_, f'.2.2.2.2.2, ?_, rfl, fr _ _ _ _, ?_, c10.jf (fr _ _ _ _) (by simp) (by simp; omega)⟩)
  · rw [off1 n0]; exact b5
  · rw [off1 n0, off1 n0, off1 n0]; exact b9
  · simp [jr_I_sI, c1, c2, c3, c4, c5]
/-- on the trunk; from which revision a text is told -/
theorem s116 {d a : Nat} {h : jm_H} {r : Rv} {f : FS} (hs : shV h a) (hc : cR h a r f) (hr : jR f.2.2.1) : jm_E dh_pr (d + 1) 116 [.inr (.inl a)] h (fun o h' => ∃ z : Int, o = .inl (some (.inl (jz z))) ∧ h' = h ∧ ((z = 1 ∧ f.2.2.1 = -1) ∨ (z = 0 ∧ ¬ f.2.2.1 = -1))) := by
  refine e116 (r116_0 ⟨hs.1, _, hc.1.2.2.2.2.2.1, hr, fun q => ⟨0, rfl, rfl, Or.inr ⟨rfl, q⟩⟩, fun q => ⟨1, rfl, rfl, Or.inl ⟨rfl, q⟩⟩⟩)
def srcOf (r : Rv) (f : FS) : Int := if f.2.2.1 = -1 then f.1 else r.1
theorem s117 {d a : Nat} {h : jm_H} {r : Rv} {f : FS} (hs : shV h a) (hc : cR h a r f) (hr : jR f.2.2.1) : jm_E dh_pr (d + 2) 117 [.inr (.inl a)] h (fun o h' => ∃ z : Int, o = .inl (some (.inl (jz z))) ∧ z = srcOf r f ∧ h' = h) := by
  refine e117 (r117_0 ⟨hs.1, jm_callI (s116 hs hc hr) ?_⟩)
  rintro z h' ⟨rfl, ⟨rfl, q⟩ | ⟨rfl, q⟩⟩
  · exact r117_4 ⟨⟨by omega, by omega⟩, fun p => absurd p (by omega), fun _ => ⟨hs.1, _, hc.1.2.2.2.1, _, rfl, by rw [srcOf, if_pos q], rfl⟩⟩
  · exact r117_4 ⟨⟨by omega, by omega⟩, fun _ => ⟨hs.1, _, hc.1.1, _, rfl, by rw [srcOf, if_neg q], rfl⟩, fun p => absurd rfl p⟩
def shH (h : jm_H) (a : Nat) : Prop := jm_T h a = 5 ∧ jm_F h a 0 = a + 1 ∧ (jm_T h (a + 1) = 69 ∧ jm_N h (a + 1) = 20) ∧ ∀ k, k < 20 → jm_F h (a + 1) k = a + 2 + 3 * k ∧ shV h (a + 2 + 3 * k)
theorem shH.js {h h' : jm_H} {a : Nat} (s : shH h a) (p : js h h') : shH h' a := ⟨(p.2.2.1 a).trans s.1, (p.2.2.2.2.1 a 0).trans s.2.1, ⟨(p.2.2.1 _).trans s.2.2.1.1, (p.2.2.2.1 _).trans s.2.2.1.2⟩, fun k hk => ⟨(p.2.2.2.2.1 _ _).trans (s.2.2.2 k hk).1, (s.2.2.2 k hk).2.js p⟩⟩
def cH (h : jm_H) (a : Nat) (rs : List Rv) (fs : List FS) : Prop := jm_I h a 1 = jz rs.length ∧ rs.length ≤ 20 ∧ fs.length = rs.length ∧ ∀ k, k < rs.length → cR h (a + 2 + 3 * k) (rs.getD k rv0) (fs.getD k fs0)
theorem cH.jf {h h' : jm_H} {a : Nat} {rs : List Rv} {fs : List FS} {S : List Nat} (c : cH h a rs fs) (p : jf S h h') (hn : ∀ i, i < 62 → a + i ∉ S) : cH h' a rs fs := by
  obtain ⟨c1, c2, c3, c4⟩ := c
  refine ⟨(p.2 a (hn 0 (by omega)) 1).trans c1, c2, c3, fun k hk => (c4 k hk).jf p ?_ ?_ ?_⟩
  · have := hn (2 + 3 * k) (by omega); rwa [← Nat.add_assoc] at this
  · have := hn (3 + 3 * k) (by omega); rwa [show a + (3 + 3 * k) = a + 2 + 3 * k + 1 by omega] at this
  · have := hn (4 + 3 * k) (by omega); rwa [show a + (4 + 3 * k) = a + 2 + 3 * k + 2 by omega] at this
theorem jR_20 {rs : List Rv} (h : rs.length ≤ 20) : jR (rs.length : Int) := by constructor <;> omega
theorem s95 {d a : Nat} {h : jm_H} (hs : shH h a) : jm_E dh_pr (d + 1) 95 [.inr (.inl a)] h (fun o h' => o = .inl none ∧ jf [a] h h' ∧ cH h' a [] []) := by
  refine e95 (r95_0 ⟨hs.1, rfl, (jf.refl _ h).sI (by simp), jr_I_self, by simp, rfl, fun k hk => absurd hk (Nat.not_lt_zero k)⟩)
theorem s96 {d a : Nat} {h : jm_H} {n : Nat} {k : Int} (hs : jm_T h a = 5) (hc : jm_I h a 1 = jz n) (hn : n ≤ 20) (hk : jR k) : jm_E dh_pr (d + 1) 96 [.inr (.inl a), .inl (jz k)] h (fun o h' => ∃ z : Int, o = .inl (some (.inl (jz z))) ∧ h' = h ∧ ((z = 1 ∧ (0 ≤ k ∧ k < n)) ∨ (z = 0 ∧ ¬ (0 ≤ k ∧ k < n)))) := by
  refine e96 (r96_0 ⟨hk, fun q => ⟨0, rfl, rfl, Or.inr ⟨rfl, by omega⟩⟩, fun q => ⟨hs, _, hc, ⟨by omega, by omega⟩, fun q' => ⟨0, rfl, rfl, Or.inr ⟨rfl, by omega⟩⟩, fun q' => ⟨1, rfl, rfl, Or.inl ⟨rfl, q, q'⟩⟩⟩⟩)
theorem s97_l {d a b : Nat} {h0 : jm_H} {Q : jm_Q} {rs : List Rv} {fs : List FS} (hs : shH h0 a) (hb : shH h0 b) (hc : cH h0 b rs fs) (hn : ∀ i, i < 62 → b + i ∉ rg a 62)
    (Qok : ∀ h, jf (rg a 62) h0 h → cH h a rs fs → Q (.inl none) h) :
    ∀ (m j : Nat) (h : jm_H) (v : Int), j + m = rs.length → v = j → jf (rg a 62) h0 h → jm_I h a 1 = jz rs.length → (∀ k, k < j → cR h (a + 2 + 3 * k) (rs.getD k rv0) (fs.getD k fs0)) → jm_W dh_pr (d + 2) 97 (10, [some (.inr (.inl a)), some (.inr (.inl b)), some (.inl (jz v))], [], h) Q := by
  have l20 := hc.2.1
  intro m
  induction m with
  | zero =>
    intro j h v e1 e2 hf h1 hk
    have hs' := hs.js hf.1
    exact r97_10 ⟨hs'.1, _, h1, ⟨by omega, by omega⟩, jR_20 l20, fun _ => Qok h hf ⟨h1, l20, hc.2.2.1, fun k hk' => hk k (by omega)⟩, fun q => absurd q (by omega)⟩
  | succ m ih =>
    intro j h v e1 e2 hf h1 hk
    have hs' := hs.js hf.1
    have hb' := hb.js hf.1
    have hc' := hc.jf hf hn
    have ev : v.toNat = j := by omega
    have sa := hs'.2.2.2 j (by omega)
    have sb := hb'.2.2.2 j (by omega)
    have nn : ∀ x, x < 3 → ∀ y, y < 3 → a + 2 + 3 * j + x ≠ b + 2 + 3 * j + y := by
      intro x hx y hy e
      have := hn (2 + 3 * j + y) (by omega)
      apply this
      rw [mem_rg]
      omega
    refine r97_10 ⟨hs'.1, _, h1, ⟨by omega, by omega⟩, jR_20 l20, fun q => absurd q (by omega), fun _ => ⟨_, hs'.2.1, hs'.2.2.1.1, _, hs'.2.2.1.2, ⟨by omega, by omega, by omega⟩, a + 2 + 3 * j, by rw [ev]; exact sa.1, hb'.1, _, hb'.2.1, hb'.2.2.1.1, _, hb'.2.2.1.2, ⟨by omega, by omega, by omega⟩, b + 2 + 3 * j, by rw [ev]; exact sb.1, sa.2.1, jm_callV (s112 sa.2 sb.2 (hc'.2.2.2 j (by omega)) (fun e => nn 0 (by omega) 0 (by omega) e.symm) (fun e => nn 1 (by omega) 0 (by omega) e.symm) (fun e => nn 2 (by omega) 0 (by omega) e.symm)) ?_⟩⟩
    rintro h2 ⟨hf2, hc2⟩
    have sub : ∀ x ∈ [a + 2 + 3 * j, a + 2 + 3 * j + 1, a + 2 + 3 * j + 2], x ∈ rg a 62 := by
      intro x hx
      rw [mem_rg]
      simp at hx
      omega
    refine r97_33 (ih (j + 1) h2 _ (by omega) (by omega) (hf.trans (hf2.mono sub)) ?_ (fun k hk' => ?_))
    · rw [hf2.2 a (by simp; omega)]; exact h1
    · by_cases e : k = j
      · rw [e]; exact hc2
      · exact (hk k (by omega)).jf hf2 (by simp; omega) (by simp; omega) (by simp; omega)
theorem s97 {d a b : Nat} {h : jm_H} {rs : List Rv} {fs : List FS} (hs : shH h a) (hb : shH h b) (hc : cH h b rs fs) (hn : ∀ i, i < 62 → b + i ∉ rg a 62) : jm_E dh_pr (d + 3) 97 [.inr (.inl a), .inr (.inl b)] h (fun o h' => o = .inl none ∧ jf (rg a 62) h h' ∧ cH h' a rs fs) := by
  refine e97 (r97_0 ⟨hb.1, _, hc.1, hs.1, s97_l hs hb hc hn (fun h' g1 g2 => ⟨rfl, g1, g2⟩) rs.length 0 _ 0 (by omega) (by omega) ((jf.refl _ h).sI (mem_rg.mpr (by omega))) jr_I_self (fun k hk => absurd hk (Nat.not_lt_zero k))⟩)
