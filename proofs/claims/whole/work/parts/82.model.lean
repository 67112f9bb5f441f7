/-! The reference: its shape, its frames; single methods. -/
/-- same but for the fields ks of M and the numbers of the objects in S -/
def jq (M : Nat) (ks S : List Nat) (h h' : jm_H) : Prop := js h h' ∧ ∀ b k, b ∉ S → ¬ (b = M ∧ k ∈ ks) → jm_I h' b k = jm_I h b k
theorem jq.refl (M : Nat) (ks S : List Nat) (h : jm_H) : jq M ks S h h := ⟨js.refl h, fun _ _ _ _ => rfl⟩
theorem jq.trans {M : Nat} {ks S : List Nat} {h h1 h2 : jm_H} (p : jq M ks S h h1) (q : jq M ks S h1 h2) : jq M ks S h h2 := ⟨p.1.trans q.1, fun b k h3 h4 => (q.2 b k h3 h4).trans (p.2 b k h3 h4)⟩
theorem jq.mono {M : Nat} {ks ks' S S' : List Nat} {h h' : jm_H} (p : jq M ks S h h') (h1 : ∀ k ∈ ks, k ∈ ks') (h2 : ∀ b ∈ S, b ∈ S') : jq M ks' S' h h' := ⟨p.1, fun b k h3 h4 => p.2 b k (fun q => h3 (h2 b q)) (fun q => h4 ⟨q.1, h1 k q.2⟩)⟩
theorem jq.sI {M : Nat} {ks S : List Nat} {h h1 : jm_H} (p : jq M ks S h h1) {a k : Nat} {x : Int32} (ha : a ∈ S) : jq M ks S h (jm_sI h1 a k x) := ⟨p.1.trans (js.sI h1 a k x), fun b j h3 h4 => by
  rw [jr_I_sI, if_neg (fun q => h3 (by rw [q.1]; exact ha))]; exact p.2 b j h3 h4⟩
theorem jq.sM {M : Nat} {ks S : List Nat} {h h1 : jm_H} (p : jq M ks S h h1) {k : Nat} {x : Int32} (hk : k ∈ ks) : jq M ks S h (jm_sI h1 M k x) := ⟨p.1.trans (js.sI h1 M k x), fun b j h3 h4 => by
  rw [jr_I_sI, if_neg (fun q => h4 ⟨q.1, by rw [q.2]; exact hk⟩)]; exact p.2 b j h3 h4⟩
theorem row.jq {h h' : jm_H} {a M : Nat} {xs : List Int} {ks S : List Nat} (r : row h a xs) (p : jq M ks S h h') (ha : a ∉ S) (hm : a ≠ M) : row h' a xs := r.same (fun k => p.2 a k ha (fun q => hm q.1))
/-- field, address behind the object, length -/
def mT : List (Nat × Nat × Nat) := [(2, 1, 20), (3, 2, 20), (4, 3, 20), (5, 4, 20), (6, 5, 240), (7, 6, 20), (8, 7, 840), (9, 8, 12), (12, 9, 400), (14, 10, 400), (17, 11, 12), (19, 12, 12), (20, 13, 196), (22, 14, 24), (23, 15, 24), (24, 16, 24), (25, 17, 24), (27, 18, 24), (28, 19, 24), (29, 20, 24), (30, 21, 24), (31, 22, 12), (33, 23, 2400), (34, 24, 20), (38, 25, 20), (39, 26, 20), (40, 27, 20), (41, 28, 20), (42, 29, 240)]
def shM (h : jm_H) (M : Nat) : Prop := jm_T h M = 2 ∧ ∀ q ∈ mT, jm_F h M q.1 = M + q.2.1 ∧ sha h (M + q.2.1) q.2.2
theorem shM.js {h h' : jm_H} {M : Nat} (s : shM h M) (p : js h h') : shM h' M := ⟨(p.2.2.1 M).trans s.1, fun q hq => ⟨(p.2.2.2.2.1 _ _).trans (s.2 q hq).1, (s.2 q hq).2.js p⟩⟩
theorem shM.f {h : jm_H} {M : Nat} (s : shM h M) (k o n : Nat) (m : (k, o, n) ∈ mT) : jm_F h M k = M + o ∧ jm_T h (M + o) = 100 ∧ jm_N h (M + o) = n := ⟨(s.2 _ m).1, (s.2 _ m).2.1, (s.2 _ m).2.2⟩
/-- what is drafted -/
def cdr (h : jm_H) (M : Nat) (bs : List Int) : Prop := jm_I h M 32 = jz bs.length ∧ row h (M + 23) bs
theorem s46 {d M : Nat} {h : jm_H} {bs : List Int} {v : Int} (hs : shM h M) (hc : cdr h M bs) (hl : bs.length < 2400) : jm_E dh_pr (d + 1) 46 [.inr (.inl M), .inl (jz v)] h (fun o h' => o = .inl none ∧ jq M [32] [M + 23] h h' ∧ cdr h' M (bs ++ [v])) := by
  obtain ⟨f1, f2, f3⟩ := hs.f 33 23 2400 (by decide)
  refine e46 (r46_0 ⟨hs.1, _, f1, _, hc.1, f2, _, f3, ⟨by omega, by omega, by omega⟩, rfl, ((jq.refl _ _ _ h).sI (by simp)).sM (by simp), ?_, (hc.2.push' (by omega) rfl).off (by omega)⟩)
  rw [jr_I_self, List.length_append, List.length_singleton]; rfl
/-- the first child behind k, in n places -/
def nxF (ps : List Int) (r : Int) : Nat → Nat → Int
  | 0, _ => -1
  | n + 1, k => if ps.getD k 0 = r then k else nxF ps r n (k + 1)
def nextOf (ps : List Int) (r : Nat) : Int := nxF ps r (ps.length - (r + 1)) (r + 1)
theorem s36 {d M : Nat} {h : jm_H} {ps : List Int} {r : Nat} (hs : shM h M) (hc : jm_I h M 1 = jz ps.length) (hp : row h (M + 1) ps) (l20 : ps.length ≤ 20) (rp : rng ps) (hr : r < ps.length) : jm_E dh_pr (d + 1) 36 [.inr (.inl M), .inl (jz r)] h (fun o h' => ∃ z : Int, o = .inl (some (.inl (jz z))) ∧ z = nextOf ps r ∧ h' = h) := by
  obtain ⟨f1, f2, f3⟩ := hs.f 2 1 20 (by decide)
  have L : ∀ (n k : Nat) (v2 : Int), k + n = ps.length → v2 = k → jm_W dh_pr d 36 (4, [some (.inr (.inl M)), some (.inl (jz (r : Int))), some (.inl (jz v2))], [], h) (fun o h' => ∃ z : Int, o = .inl (some (.inl (jz z))) ∧ z = nxF ps r n k ∧ h' = h) := by
    intro n
    induction n with
    | zero => exact fun k v2 e1 e2 => r36_4 ⟨hs.1, _, hc, ⟨by omega, by omega⟩, ⟨by omega, by omega⟩, fun _ => ⟨_, rfl, rfl, rfl⟩, fun q => absurd q (by omega)⟩
    | succ n ih =>
      intro k v2 e1 e2
      refine r36_4 ⟨hs.1, _, hc, ⟨by omega, by omega⟩, ⟨by omega, by omega⟩, fun q => absurd q (by omega), fun _ => ⟨_, f1, f2, _, f3, ⟨by omega, by omega, by omega⟩, ps.getD k 0, by rw [show v2.toNat = k by omega]; exact hp k (by omega), rp.at _, ⟨by omega, by omega⟩, fun q => ?_, fun q => ⟨v2, rfl, ?_, rfl⟩⟩⟩
      · rw [nxF, if_neg q]; exact ih (k + 1) _ (by omega) (by omega)
      · rw [nxF, if_pos q]; exact e2
  exact e36 (r36_0 (L (ps.length - (r + 1)) (r + 1) _ (by omega) (by omega)))
/-- texts of the revisions, in one row -/
def txs (h : jm_H) (a : Nat) (ts : List (List Int)) : Prop := ∀ k, k < ts.length → (ts.getD k []).length ≤ 12 ∧ ∀ i, i < (ts.getD k []).length → jm_I h a (12 * k + i) = jz ((ts.getD k []).getD i 0)
theorem txs.same {h h' : jm_H} {a : Nat} {ts : List (List Int)} (t : txs h a ts) (e : ∀ k, jm_I h' a k = jm_I h a k) : txs h' a ts := fun k hk => ⟨(t k hk).1, fun i hi => (e _).trans ((t k hk).2 i hi)⟩
/-- the first and the second text to compare -/
def cA (h : jm_H) (M : Nat) (A : List Int) : Prop := jm_I h M 16 = jz A.length ∧ A.length ≤ 12 ∧ row h (M + 11) A
def cB (h : jm_H) (M : Nat) (B : List Int) : Prop := jm_I h M 18 = jz B.length ∧ B.length ≤ 12 ∧ row h (M + 12) B
theorem s41 {d M : Nat} {h : jm_H} {ts : List (List Int)} {r : Nat} (hs : shM h M) (hl : row h (M + 4) (ts.map (fun t => (t.length : Int)))) (ht : txs h (M + 5) ts) (l20 : ts.length ≤ 20) (hr : r < ts.length) : jm_E dh_pr (d + 1) 41 [.inr (.inl M), .inl (jz r)] h (fun o h' => o = .inl none ∧ jq M [16] [M + 11] h h' ∧ cA h' M (ts.getD r [])) := by
  obtain ⟨f1, f2, f3⟩ := hs.f 5 4 20 (by decide)
  obtain ⟨g1, g2, g3⟩ := hs.f 6 5 240 (by decide)
  obtain ⟨k1, k2, k3⟩ := hs.f 17 11 12 (by decide)
  obtain ⟨t1, t2⟩ := ht r hr
  have el : (ts.map (fun t => (t.length : Int))).getD r 0 = (ts.getD r []).length := by
    rw [List.getD_eq_getElem?_getD, List.getD_eq_getElem?_getD, List.getElem?_map, List.getElem?_eq_getElem hr]; rfl
  generalize ts.getD r [] = A at *
  have L : ∀ (n j : Nat) (v2 : Int) (h1 : jm_H), j + n = A.length → v2 = j → jq M [16] [M + 11] h h1 → jm_I h1 M 16 = jz A.length → row h1 (M + 11) (A.take j) → jm_W dh_pr d 41 (20, [some (.inr (.inl M)), some (.inl (jz (r : Int))), some (.inl (jz v2))], [], h1) (fun o h' => o = .inl none ∧ jq M [16] [M + 11] h h' ∧ cA h' M A) := by
    intro n
    induction n with
    | zero =>
      intro j v2 h1 e1 e2 hf hc hr1
      have hs1 := hs.js hf.1
      refine r41_20 ⟨hs1.1, _, hc, ⟨by omega, by omega⟩, ⟨by omega, by omega⟩, fun _ => ⟨rfl, hf, hc, t1, ?_⟩, fun q => absurd q (by omega)⟩
      rw [List.take_of_length_le (by omega)] at hr1; exact hr1
    | succ n ih =>
      intro j v2 h1 e1 e2 hf hc hr1
      have hs1 := hs.js hf.1
      obtain ⟨g1, g2, g3⟩ := hs1.f 6 5 240 (by decide)
      obtain ⟨k1, k2, k3⟩ := hs1.f 17 11 12 (by decide)
      refine r41_20 ⟨hs1.1, _, hc, ⟨by omega, by omega⟩, ⟨by omega, by omega⟩, fun q => absurd q (by omega), fun _ => ⟨_, k1, _, g1, g2, _, g3, ⟨by omega, by omega, by omega⟩, A.getD j 0, ?_, k2, _, k3, ⟨by omega, by omega, by omega⟩, ?_⟩⟩
      · rw [show (12 * (r : Int) + v2).toNat = 12 * r + j by omega, hf.2 (M + 5) _ (by simp) (by omega)]
        exact t2 j (by omega)
      · refine ih (j + 1) _ _ (by omega) (by omega) (hf.sI (by simp)) (by rw [off1 (by omega)]; exact hc) ?_
        exact hr1.push' (by rw [List.length_take]; omega) (take_snoc (by omega))
  refine e41 (r41_0 ⟨⟨by omega, by omega⟩, fun _ => ⟨hs.1, _, f1, f2, _, f3, ⟨by omega, by omega, by omega⟩, (A.length : Int), ?_, ?_⟩, fun q => absurd q (by omega)⟩)
  · rw [show (r : Int).toNat = r by omega, hl r (by rw [List.length_map]; exact hr), el]
  · exact L A.length 0 _ _ (by omega) (by omega) ((jq.refl _ _ _ h).sM (by simp)) jr_I_self (row.nil _ _)
theorem s42 {d M : Nat} {h : jm_H} {ts : List (List Int)} {r : Nat} (hs : shM h M) (hl : row h (M + 4) (ts.map (fun t => (t.length : Int)))) (ht : txs h (M + 5) ts) (l20 : ts.length ≤ 20) (hr : r < ts.length) : jm_E dh_pr (d + 1) 42 [.inr (.inl M), .inl (jz r)] h (fun o h' => o = .inl none ∧ jq M [18] [M + 12] h h' ∧ cB h' M (ts.getD r [])) := by
  obtain ⟨f1, f2, f3⟩ := hs.f 5 4 20 (by decide)
  obtain ⟨t1, t2⟩ := ht r hr
  have el : (ts.map (fun t => (t.length : Int))).getD r 0 = (ts.getD r []).length := by
    rw [List.getD_eq_getElem?_getD, List.getD_eq_getElem?_getD, List.getElem?_map, List.getElem?_eq_getElem hr]; rfl
  generalize ts.getD r [] = A at *
  have L : ∀ (n j : Nat) (v2 : Int) (h1 : jm_H), j + n = A.length → v2 = j → jq M [18] [M + 12] h h1 → jm_I h1 M 18 = jz A.length → row h1 (M + 12) (A.take j) → jm_W dh_pr d 42 (12, [some (.inr (.inl M)), some (.inl (jz (r : Int))), some (.inl (jz v2))], [], h1) (fun o h' => o = .inl none ∧ jq M [18] [M + 12] h h' ∧ cB h' M A) := by
    intro n
    induction n with
    | zero =>
      intro j v2 h1 e1 e2 hf hc hr1
      have hs1 := hs.js hf.1
      refine r42_12 ⟨hs1.1, _, hc, ⟨by omega, by omega⟩, ⟨by omega, by omega⟩, fun _ => ⟨rfl, hf, hc, t1, ?_⟩, fun q => absurd q (by omega)⟩
      rw [List.take_of_length_le (by omega)] at hr1; exact hr1
    | succ n ih =>
      intro j v2 h1 e1 e2 hf hc hr1
      have hs1 := hs.js hf.1
      obtain ⟨g1, g2, g3⟩ := hs1.f 6 5 240 (by decide)
      obtain ⟨k1, k2, k3⟩ := hs1.f 19 12 12 (by decide)
      refine r42_12 ⟨hs1.1, _, hc, ⟨by omega, by omega⟩, ⟨by omega, by omega⟩, fun q => absurd q (by omega), fun _ => ⟨_, k1, _, g1, g2, _, g3, ⟨by omega, by omega, by omega⟩, A.getD j 0, ?_, k2, _, k3, ⟨by omega, by omega, by omega⟩, ?_⟩⟩
      · rw [show (12 * (r : Int) + v2).toNat = 12 * r + j by omega, hf.2 (M + 5) _ (by simp) (by omega)]
        exact t2 j (by omega)
      · refine ih (j + 1) _ _ (by omega) (by omega) (hf.sI (by simp)) (by rw [off1 (by omega)]; exact hc) ?_
        exact hr1.push' (by rw [List.length_take]; omega) (take_snoc (by omega))
  refine e42 (r42_0 ⟨hs.1, _, f1, f2, _, f3, ⟨by omega, by omega, by omega⟩, (A.length : Int), ?_, ?_⟩)
  · rw [show (r : Int).toNat = r by omega, hl r (by rw [List.length_map]; exact hr), el]
  · exact L A.length 0 _ _ (by omega) (by omega) ((jq.refl _ _ _ h).sM (by simp)) jr_I_self (row.nil _ _)
