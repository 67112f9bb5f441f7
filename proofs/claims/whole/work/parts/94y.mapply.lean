/-! The reference: steps taken. -/
/-- what apply leaves -/
def MP (h h' : jm_H) (M r : Nat) (ts : List (List Int)) (B : List Int) (E : Prop) (o : jm_R) : Prop := o = .inl none ∧ jq M [35, 36] [M + 4, M + 5] h h' ∧ ∃ (g : Int) (pl : Nat) (ts' : List (List Int)), GP h' M g pl ∧ pl ≤ 200000 ∧ cT h' M ts' ∧ (∀ k, k ≠ r → ts'.getD k [] = ts.getD k []) ∧ (E → g = 1 ∧ ts'.getD r [] = B)
theorem set_other {ts : List (List Int)} {r k : Nat} {t : List Int} (hr : r < ts.length) (hk : k ≠ r) : (ts.set r t).getD k [] = ts.getD k [] := by rw [gD_set hr, if_neg hk]
theorem set_self {ts : List (List Int)} {r : Nat} {t : List Int} (hr : r < ts.length) : (ts.set r t).getD r [] = t := by rw [gD_set hr, if_pos rfl]
theorem td_step {A : List Int} {p t : Nat} (h : p < t) (ht : t ≤ A.length) : (A.take t).drop p = A.getD p 0 :: (A.take t).drop (p + 1) := by
  rw [drop_cons (by rw [List.length_take]; omega), getD_take h]
theorem s67_src {M r c : Nat} {A : List Int} {ts : List (List Int)} (hc : c < 20) (hrc : c ≠ r) (hA : ts.getD c [] = A) : ∀ {h1 : jm_H} {ts1 : List (List Int)}, cT h1 M ts1 → (∀ k, k ≠ r → ts1.getD k [] = ts.getD k []) → jm_I h1 (M + 4) (c : Int).toNat = jz (A.length : Int) ∧ ∀ i, i < A.length → jm_I h1 (M + 5) (12 * c + i) = jz (A.getD i 0) := by
  intro h1 ts1 T1 k1
  obtain ⟨-, -, a3, a4⟩ := cT_at T1 hc
  rw [k1 c hrc, hA] at a3 a4
  rw [show (c : Int).toNat = c by omega]
  exact ⟨a3, a4⟩
theorem s67_add {d M r : Nat} {h : jm_H} {ts : List (List Int)} (hs : shM h M) (hr : r < 20) : ∀ {h1 : jm_H} {ts1 : List (List Int)} {g : Int} {q : Nat} {v : Int} {Qk : jm_Q}, jq M [35, 36] [M + 4, M + 5] h h1 → GP h1 M g q → cT h1 M ts1 → (∀ k, k ≠ r → ts1.getD k [] = ts.getD k []) → (g = 1 → 1 ≤ v ∧ v ≤ 99) → (∀ (h2 : jm_H) (g2 : Int) (ts2 : List (List Int)), jq M [35, 36] [M + 4, M + 5] h h2 → GP h2 M g2 q → cT h2 M ts2 → (∀ k, k ≠ r → ts2.getD k [] = ts.getD k []) → ((g2 = 1 ∧ g = 1 ∧ ts2.getD r [] = ts1.getD r [] ++ [v]) ∨ (g2 = 0 ∧ (g = 1 → ¬ (ts1.getD r []).length < 12))) → Qk (.inl none) h2) → jm_E dh_pr (d + 2) 66 [.inr (.inl M), .inl (jz (r : Int)), .inl (jz v)] h1 Qk := by
  intro h1 ts1 g q v Qk p1 G1 T1 k1 hv K
  refine jm_E_mono _ _ _ _ _ _ ?_ (s66 (hs.js p1.1) G1 T1 hr hv)
  rintro o h2 ⟨rfl, p2, g2, G2, ⟨a1, a2, a3, a4⟩ | ⟨a1, a2, a3⟩⟩
  · have l1 : r < ts1.length := by rw [T1.1]; exact hr
    exact K h2 g2 _ (p1.trans (p2.mono (by simp <;> omega) (by simp <;> omega))) G2 a4 (fun k hk => by rw [set_other l1 hk]; exact k1 k hk) (Or.inl ⟨a1, a2, set_self l1⟩)
  · exact K h2 g2 _ (p1.trans (p2.mono (by simp <;> omega) (by simp <;> omega))) G2 a3 k1 (Or.inr ⟨a1, a2⟩)
theorem s67_e {d M r c : Nat} {h : jm_H} {A B : List Int} {ts : List (List Int)} {E : Prop} (hs : shM h M) (hr : r < 20) (hc : c < 20) (hrc : c ≠ r) (hA : ts.getD c [] = A) (A12 : A.length ≤ 12) (lA : lnv A) (hE : E → B.length ≤ 12) : ∀ (m : Nat) (h1 : jm_H) (ts1 : List (List Int)) (g : Int) (q : Nat) (v3 : Int) (l4 l5 l6 l7 l8 l9 : Option jm_V), ((A.length : Int) - v3).toNat = m → 0 ≤ v3 → v3 ≤ 30 → jq M [35, 36] [M + 4, M + 5] h h1 → GP h1 M g q → q ≤ 200000 → cT h1 M ts1 → (∀ k, k ≠ r → ts1.getD k [] = ts.getD k []) → (E → g = 1 ∧ v3 ≤ A.length ∧ ts1.getD r [] ++ A.drop v3.toNat = B) → jm_W dh_pr (d + 2) 67 (226, [some (.inr (.inl M)), some (.inl (jz (r : Int))), some (.inl (jz (c : Int))), some (.inl (jz v3)), l4, l5, l6, l7, l8, l9], [], h1) (fun o h' => MP h h' M r ts B E o) := by
  have SRC := @s67_src M r c A ts hc hrc hA
  have ci : jzi (c : Int) 20 := ⟨by omega, by omega, by omega⟩
  intro m
  induction m with
  | zero =>
    intro h1 ts1 g q v3 l4 l5 l6 l7 l8 l9 em h3 h3' p1 G1 hq T1 k1 hi
    have hs1 := hs.js p1.1
    obtain ⟨f4, g4, n4⟩ := hs1.f 5 4 20 (by decide)
    have done : MP h h1 M r ts B E (.inl none) := ⟨rfl, p1, g, q, ts1, G1, hq, T1, k1, fun e => by
      obtain ⟨i1, i2, i3⟩ := hi e
      rw [List.drop_eq_nil_of_le (by omega), List.append_nil] at i3
      exact ⟨i1, i3⟩⟩
    exact r67_226 ⟨hs1.1, _, G1.1, by rcases G1.2.1 with rfl | rfl <;> exact ⟨by decide, by decide⟩, fun _ => done, fun _ => ⟨_, f4, g4, _, n4, ci, _, (SRC T1 k1).1, ⟨by omega, by omega⟩, ⟨by omega, by omega⟩, fun _ => done, fun w => absurd w (by omega)⟩⟩
  | succ m ih =>
    intro h1 ts1 g q v3 l4 l5 l6 l7 l8 l9 em h3 h3' p1 G1 hq T1 k1 hi
    have hs1 := hs.js p1.1
    obtain ⟨f4, g4, n4⟩ := hs1.f 5 4 20 (by decide)
    obtain ⟨f5, g5, n5⟩ := hs1.f 6 5 240 (by decide)
    have vl : v3.toNat < A.length := by omega
    have lv := lA.at vl
    refine r67_226 ⟨hs1.1, _, G1.1, by rcases G1.2.1 with rfl | rfl <;> exact ⟨by decide, by decide⟩, fun w => ⟨rfl, p1, g, q, ts1, G1, hq, T1, k1, fun e => by have := (hi e).1; omega⟩, fun w => ⟨_, f4, g4, _, n4, ci, _, (SRC T1 k1).1, ⟨by omega, by omega⟩, ⟨by omega, by omega⟩, fun w => absurd w (by omega), fun _ => ⟨_, f5, g5, _, n5, ⟨by omega, by omega, by omega⟩, A.getD v3.toNat 0, by rw [show (12 * (c : Int) + v3).toNat = 12 * c + v3.toNat by omega]; exact (SRC T1 k1).2 _ vl, s67_add hs hr p1 G1 T1 k1 (fun _ => lv) ?_⟩⟩⟩
    intro h2 g2 ts2 p2 G2 T2 k2 hg2
    refine r67_259 (ih h2 ts2 g2 q _ _ _ _ _ _ _ (by omega) (by omega) (by omega) p2 G2 hq T2 k2 (fun e => ?_))
    obtain ⟨i1, i2, i3⟩ := hi e
    rw [drop_cons vl] at i3
    rcases hg2 with ⟨b1, b2, b3⟩ | ⟨b1, b2⟩
    · refine ⟨b1, by omega, ?_⟩
      rw [b3, List.append_assoc, show (v3 + 1).toNat = v3.toNat + 1 by omega]
      exact i3
    · have := congrArg List.length i3
      rw [List.length_append, List.length_cons] at this
      have h6 := hE e
      exact absurd (by omega) (b2 i1)
/-- what stands behind a step's lines -/
def EE (d M r c : Nat) (Q : jm_Q) (h5 : jm_H) (g5 w3 v4 v5 y1 y2 y3 v9 : Int) : Prop := (g5 = 0 → jm_W dh_pr (d + 2) 67 (31, [some (.inr (.inl M)), some (.inl (jz (r : Int))), some (.inl (jz (c : Int))), some (.inl (jz w3)), some (.inl (jz v4)), some (.inl (jz (v5 + 1))), some (.inl (jz y1)), some (.inl (jz y2)), some (.inl (jz y3)), some (.inl (jz v9))], [], jm_sI h5 M 36 (jz 0)) Q) ∧ (¬ g5 = 0 → ∃ f26 : Nat, jm_F h5 M 5 = f26 ∧ jm_T h5 f26 = 100 ∧ ∃ n27 : Nat, jm_N h5 f26 = n27 ∧ jzi (c : Int) n27 ∧ ∃ z28 : Int, jm_I h5 f26 (c : Int).toNat = jz z28 ∧ jR w3 ∧ jR z28 ∧ (z28 < w3 → jm_W dh_pr (d + 2) 67 (31, [some (.inr (.inl M)), some (.inl (jz (r : Int))), some (.inl (jz (c : Int))), some (.inl (jz w3)), some (.inl (jz v4)), some (.inl (jz (v5 + 1))), some (.inl (jz y1)), some (.inl (jz y2)), some (.inl (jz y3)), some (.inl (jz v9))], [], jm_sI h5 M 36 (jz 0)) Q) ∧ (w3 ≤ z28 → jm_W dh_pr (d + 2) 67 (31, [some (.inr (.inl M)), some (.inl (jz (r : Int))), some (.inl (jz (c : Int))), some (.inl (jz w3)), some (.inl (jz v4)), some (.inl (jz (v5 + 1))), some (.inl (jz y1)), some (.inl (jz y2)), some (.inl (jz y3)), some (.inl (jz v9))], [], jm_sI h5 M 36 (jz 1)) Q))
/-- lines that are added -/
theorem s67_l {d M r c q : Nat} {h : jm_H} {fl U W T : List Int} {ts : List (List Int)} {E : Prop} {Q : jm_Q} {v4 v5 y1 y2 y3 : Int} (hs : shM h M) (cf : cF h M fl) (b8 : by8 fl) (hr : r < 20) (hq : q ≤ 150000) (yb1 : 0 ≤ y1 ∧ y1 ≤ 1) (yb3 : 0 ≤ y3 ∧ y3 ≤ 12) (SE : E → y1 = 1 → (W.length : Int) = y3 ∧ (∀ x ∈ W, 1 ≤ x ∧ x ≤ 99) ∧ U.length + W.length ≤ 12) (END : ∀ (h5 : jm_H) (ts5 : List (List Int)) (g5 : Int) (q5 : Nat) (w3 v9 : Int), (0 ≤ w3 ∧ w3 ≤ 30) → jq M [35, 36] [M + 4, M + 5] h h5 → GP h5 M g5 q5 → q5 ≤ q + 15 → cT h5 M ts5 → (∀ k, k ≠ r → ts5.getD k [] = ts.getD k []) → (E → g5 = 1 ∧ (y1 = 0 → w3 = y2 + y3 ∧ ts5.getD r [] = U) ∧ (y1 = 1 → w3 = y2 ∧ ts5.getD r [] = U ++ W) ∧ DR fl q5 T) → EE d M r c Q h5 g5 w3 v4 v5 y1 y2 y3 v9) : ∀ (m' l : Nat) (h5 : jm_H) (ts5 : List (List Int)) (g5 : Int) (q5 : Nat) (w3 v9 : Int), (y3 - v9).toNat = m' → v9 = l → l ≤ 12 → (0 ≤ w3 ∧ w3 ≤ 13) → jq M [35, 36] [M + 4, M + 5] h h5 → GP h5 M g5 q5 → q5 ≤ q + 3 + l → cT h5 M ts5 → (∀ k, k ≠ r → ts5.getD k [] = ts.getD k []) → (E → g5 = 1 ∧ w3 = y2 ∧ (y1 = 0 → ts5.getD r [] = U ∧ DR fl q5 T) ∧ (y1 = 1 → ts5.getD r [] = U ++ W.take l ∧ DR fl q5 (W.drop l ++ T))) → jm_W dh_pr (d + 2) 67 (142, [some (.inr (.inl M)), some (.inl (jz (r : Int))), some (.inl (jz (c : Int))), some (.inl (jz w3)), some (.inl (jz v4)), some (.inl (jz v5)), some (.inl (jz y1)), some (.inl (jz y2)), some (.inl (jz y3)), some (.inl (jz v9))], [], h5) Q := by
  have E0 : ∀ (l : Nat) (ts5 : List (List Int)) (g5 : Int) (q5 : Nat) (w3 : Int), (E → g5 = 1 ∧ w3 = y2 ∧ (y1 = 0 → ts5.getD r [] = U ∧ DR fl q5 T) ∧ (y1 = 1 → ts5.getD r [] = U ++ W.take l ∧ DR fl q5 (W.drop l ++ T))) → (y1 = 1 → y3 ≤ l) → (y1 = 0 → E → g5 = 1 ∧ (y1 = 0 → (w3 + y3) = y2 + y3 ∧ ts5.getD r [] = U) ∧ (y1 = 1 → (w3 + y3) = y2 ∧ ts5.getD r [] = U ++ W) ∧ DR fl q5 T) ∧ (¬ y1 = 0 → E → g5 = 1 ∧ (y1 = 0 → w3 = y2 + y3 ∧ ts5.getD r [] = U) ∧ (y1 = 1 → w3 = y2 ∧ ts5.getD r [] = U ++ W) ∧ DR fl q5 T) := by
    intro l ts5 g5 q5 w3 hi5 hl
    refine ⟨fun y0 e => ?_, fun y0 e => ?_⟩
    · obtain ⟨b1, b2, b3, b4⟩ := hi5 e
      obtain ⟨b5, b6⟩ := b3 y0
      exact ⟨b1, fun _ => ⟨by omega, b5⟩, fun x => absurd x (by omega), b6⟩
    · obtain ⟨b1, b2, b3, b4⟩ := hi5 e
      have y1' : y1 = 1 := by omega
      obtain ⟨b5, b6⟩ := b4 y1'
      have ln : W.length ≤ l := by have := (SE e y1').1; have := hl y1'; omega
      rw [List.take_of_length_le ln] at b5
      rw [List.drop_eq_nil_of_le ln] at b6
      exact ⟨b1, fun x => absurd x y0, fun _ => ⟨b2, b5⟩, b6⟩
  intro m'
  induction m' with
  | zero =>
    intro l h5 ts5 g5 q5 w3 v9 em' e9 hl hw p5 G5 hq5 T5 k5 hi5
    have hs5 := hs.js p5.1
    have gr5 : jR g5 := by rcases G5.2.1 with rfl | rfl <;> exact ⟨by decide, by decide⟩
    obtain ⟨z0, z1⟩ := E0 l ts5 g5 q5 w3 hi5 (fun _ => by omega)
    have A0 := fun y0 => END h5 ts5 g5 q5 w3 v9 ⟨by omega, by omega⟩ p5 G5 (by omega) T5 k5 (z1 y0)
    have A1 := fun y0 => END h5 ts5 g5 q5 (w3 + y3) v9 ⟨by omega, by omega⟩ p5 G5 (by omega) T5 k5 (z0 y0)
    exact r67_142 ⟨⟨by omega, by omega⟩, ⟨by omega, by omega⟩, fun _ => ⟨⟨by omega, by omega⟩, fun y0 => ⟨hs5.1, _, G5.1, gr5, (A0 y0).1, (A0 y0).2⟩, fun y0 => ⟨hs5.1, _, G5.1, gr5, (A1 y0).1, (A1 y0).2⟩⟩, fun w => absurd w (by omega)⟩
  | succ m' ih' =>
    intro l h5 ts5 g5 q5 w3 v9 em' e9 hl hw p5 G5 hq5 T5 k5 hi5
    have hs5 := hs.js p5.1
    have cf5 := cf.jq p5 (by simp <;> omega) (by decide) (by simp <;> omega)
    have gr5 : jR g5 := by rcases G5.2.1 with rfl | rfl <;> exact ⟨by decide, by decide⟩
    refine r67_142 ⟨⟨by omega, by omega⟩, ⟨by omega, by omega⟩, fun w => absurd w (by omega), fun _ => ⟨hs5.1, _, G5.1, gr5, fun ge => ⟨⟨by omega, by omega⟩, fun y0 => ?_, fun y0 => ?_⟩, fun ge => ⟨⟨by omega, by omega⟩, fun y0 => ⟨fun y0' => absurd (show y1 = 1 by omega) y0, fun y0' => ?_⟩, fun y0 => jm_callI (tkM hs5 cf5 b8 G5 (by omega) ⟨by omega, by omega⟩ ⟨by omega, by omega⟩) ?_⟩⟩⟩
    · exact END h5 ts5 g5 q5 w3 v9 ⟨by omega, by omega⟩ p5 G5 (by omega) T5 k5 (fun e => by have := (hi5 e).1; omega)
    · exact END h5 ts5 g5 q5 (w3 + y3) v9 ⟨by omega, by omega⟩ p5 G5 (by omega) T5 k5 (fun e => by have := (hi5 e).1; omega)
    · exact END h5 ts5 g5 q5 (w3 + y3) v9 ⟨by omega, by omega⟩ p5 G5 (by omega) T5 k5 ((E0 l ts5 g5 q5 w3 hi5 (fun x => by omega)).1 y0')
    · rintro y6 h6 ⟨g6, p6, G6, b1, b2, b3⟩
      have P6 : jq M [35, 36] [M + 4, M + 5] h h6 := p5.trans (p6.mono (by simp <;> omega) (by simp <;> omega))
      refine r67_171 ⟨(hs.js P6.1).1, s67_add hs hr P6 G6 (T5.jq p6 (by simp <;> omega) (by simp <;> omega)) k5 (fun x => (b1 x).2) ?_⟩
      intro h7 g7 ts7 p7 G7 T7 k7 hg7
      refine r67_174 (ih' (l + 1) h7 ts7 g7 (q5 + 1) w3 _ (by omega) (by omega) (by omega) hw p7 G7 (by omega) T7 k7 (fun e => ?_))
      obtain ⟨c1, c2, c3, c4⟩ := hi5 e
      obtain ⟨c5, c6⟩ := c4 y0
      obtain ⟨s1, s2, s3⟩ := SE e y0
      have ll : l < W.length := by omega
      have lv : 1 ≤ W.getD l 0 ∧ W.getD l 0 ≤ 99 := by
        rw [List.getD_eq_getElem?_getD, List.getElem?_eq_getElem ll]
        exact s2 _ (List.getElem_mem ll)
      obtain ⟨d1, d2, d3⟩ := b3 c1 _ _ (DRl c6 ll) lv.1 lv.2
      rcases hg7 with ⟨f1, f2, f3⟩ | ⟨f1, f2⟩
      · refine ⟨f1, c2, fun x => absurd x (by omega), fun _ => ⟨?_, d3⟩⟩
        rw [f3, c5, d2, take_snoc ll]
        simp only [List.append_assoc]
      · refine absurd ?_ (f2 d1)
        rw [c5, List.length_append, List.length_take]
        omega
/-- lines of the source up to a step's place -/
theorem s67_m {d M r c q : Nat} {h : jm_H} {A U : List Int} {ts : List (List Int)} {E : Prop} {Q : jm_Q} {v4 v5 y1 y2 y3 : Int} (hs : shM h M) (hr : r < 20) (hc : c < 20) (hrc : c ≠ r) (hA : ts.getD c [] = A) (A12 : A.length ≤ 12) (lA : lnv A) (yb2 : 0 ≤ y2 ∧ y2 ≤ 12) (hU : E → U.length ≤ 12) (go : ∀ (h5 : jm_H) (ts5 : List (List Int)) (g5 : Int) (w3 : Int), (0 ≤ w3 ∧ w3 ≤ 12) → jq M [35, 36] [M + 4, M + 5] h h5 → GP h5 M g5 (q + 1 + 1 + 1) → cT h5 M ts5 → (∀ k, k ≠ r → ts5.getD k [] = ts.getD k []) → (E → g5 = 1 ∧ w3 = y2 ∧ ts5.getD r [] = U) → jm_W dh_pr (d + 2) 67 (142, [some (.inr (.inl M)), some (.inl (jz (r : Int))), some (.inl (jz (c : Int))), some (.inl (jz w3)), some (.inl (jz v4)), some (.inl (jz v5)), some (.inl (jz y1)), some (.inl (jz y2)), some (.inl (jz y3)), some (.inl (jz 0))], [], h5) Q) : ∀ (m' : Nat) (h5 : jm_H) (ts5 : List (List Int)) (g5 : Int) (w3 : Int) (l9 : Option jm_V), (y2 - w3).toNat = m' → (0 ≤ w3 ∧ w3 ≤ 12) → (g5 = 1 → w3 ≤ y2 ∧ y2 ≤ A.length) → jq M [35, 36] [M + 4, M + 5] h h5 → GP h5 M g5 (q + 1 + 1 + 1) → cT h5 M ts5 → (∀ k, k ≠ r → ts5.getD k [] = ts.getD k []) → (E → g5 = 1 ∧ ts5.getD r [] ++ (A.take y2.toNat).drop w3.toNat = U) → jm_W dh_pr (d + 2) 67 (104, [some (.inr (.inl M)), some (.inl (jz (r : Int))), some (.inl (jz (c : Int))), some (.inl (jz w3)), some (.inl (jz v4)), some (.inl (jz v5)), some (.inl (jz y1)), some (.inl (jz y2)), some (.inl (jz y3)), l9], [], h5) Q := by
  have SRC := @s67_src M r c A ts hc hrc hA
  intro m'
  induction m' with
  | zero =>
    intro h5 ts5 g5 w3 l9 em' hw hg5 p5 G5 T5 k5 hi5
    have hs5 := hs.js p5.1
    have gr5 : jR g5 := by rcases G5.2.1 with rfl | rfl <;> exact ⟨by decide, by decide⟩
    refine r67_104 ⟨hs5.1, _, G5.1, gr5, fun ge => go h5 ts5 g5 w3 hw p5 G5 T5 k5 (fun e => by have := (hi5 e).1; omega), fun ge => ⟨⟨by omega, by omega⟩, ⟨by omega, by omega⟩, fun _ => go h5 ts5 g5 w3 hw p5 G5 T5 k5 (fun e => ?_), fun w => absurd w (by omega)⟩⟩
    obtain ⟨b1, b2⟩ := hi5 e
    have := hg5 b1
    have ew : w3 = y2 := by omega
    rw [ew, td_nil, List.append_nil] at b2
    exact ⟨b1, ew, b2⟩
  | succ m' ih' =>
    intro h5 ts5 g5 w3 l9 em' hw hg5 p5 G5 T5 k5 hi5
    have hs5 := hs.js p5.1
    have gr5 : jR g5 := by rcases G5.2.1 with rfl | rfl <;> exact ⟨by decide, by decide⟩
    obtain ⟨f5, g5', n5⟩ := hs5.f 6 5 240 (by decide)
    refine r67_104 ⟨hs5.1, _, G5.1, gr5, fun ge => go h5 ts5 g5 w3 hw p5 G5 T5 k5 (fun e => by have := (hi5 e).1; omega), fun ge => ⟨⟨by omega, by omega⟩, ⟨by omega, by omega⟩, fun w => absurd w (by omega), fun _ => ?_⟩⟩
    have ge1 : g5 = 1 := G5.2.1.resolve_left ge
    obtain ⟨gw1, gw2⟩ := hg5 ge1
    have vl : w3.toNat < A.length := by omega
    have lv := lA.at vl
    refine ⟨_, f5, g5', _, n5, ⟨by omega, by omega, by omega⟩, A.getD w3.toNat 0, by rw [show (12 * (c : Int) + w3).toNat = 12 * c + w3.toNat by omega]; exact (SRC T5 k5).2 _ vl, s67_add hs hr p5 G5 T5 k5 (fun _ => lv) ?_⟩
    intro h6 g6 ts6 p6 G6 T6 k6 hg6
    refine r67_133 (ih' h6 ts6 g6 _ _ (by omega) ⟨by omega, by omega⟩ (fun _ => ⟨by omega, gw2⟩) p6 G6 T6 k6 (fun e => ?_))
    obtain ⟨b1, b2⟩ := hi5 e
    rw [td_step (by omega) (by omega)] at b2
    rcases hg6 with ⟨f1, f2, f3⟩ | ⟨f1, f2⟩
    · refine ⟨f1, ?_⟩
      rw [f3, List.append_assoc, show (w3 + 1).toNat = w3.toNat + 1 by omega]
      exact b2
    · have l12' := hU e
      rw [← b2, List.length_append, List.length_cons] at l12'
      exact absurd (by omega) (f2 b1)
