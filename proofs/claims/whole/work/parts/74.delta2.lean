/-! The class's Delta. -/
def rg (a n : Nat) : List Nat := List.range' a n
theorem mem_rg {a n b : Nat} : b ∈ rg a n ↔ a ≤ b ∧ b < a + n := List.mem_range'_1
theorem row.off {h : jm_H} {a b k : Nat} {x : Int32} {xs : List Int} (r : row h b xs) (hn : b ≠ a) : row (jm_sI h a k x) b xs := r.same (fun j => by rw [jr_I_sI, if_neg (fun q => hn q.1)])
theorem row.set {h : jm_H} {a k : Nat} {xs : List Int} {v : Int} (r : row h a xs) (hk : k < xs.length) : row (jm_sI h a k (jz v)) a (xs.set k v) := by
  intro i hi
  rw [List.length_set] at hi
  rw [jr_I_sI]
  by_cases e : i = k
  · rw [if_pos ⟨rfl, e⟩, e, List.getD_eq_getElem?_getD, List.getElem?_set_self hk]; rfl
  · rw [if_neg (fun q => e q.2), r i hi, List.getD_eq_getElem?_getD, List.getD_eq_getElem?_getD, List.getElem?_set_ne (Ne.symm e)]
def shD (h : jm_H) (a : Nat) : Prop := jm_T h a = 4 ∧ (jm_F h a 0 = a + 1 ∧ jm_F h a 1 = a + 2 ∧ jm_F h a 2 = a + 3 ∧ jm_F h a 3 = a + 4 ∧ jm_F h a 4 = a + 5 ∧ jm_F h a 5 = a + 6) ∧ (sha h (a + 1) 24 ∧ sha h (a + 2) 24 ∧ sha h (a + 3) 24 ∧ sha h (a + 4) 24 ∧ sha h (a + 5) 12) ∧ jm_T h (a + 6) = 61 ∧ jm_N h (a + 6) = 13 ∧ ∀ i, i < 13 → jm_F h (a + 6) i = a + 7 + i ∧ sha h (a + 7 + i) 13
theorem shD.js {h h' : jm_H} {a : Nat} (s : shD h a) (p : js h h') : shD h' a := by
  obtain ⟨s1, ⟨f0, f1, f2, f3, f4, f5⟩, ⟨g1, g2, g3, g4, g5⟩, t1, t2, t3⟩ := s
  have pf := p.2.2.2.2.1
  exact ⟨(p.2.2.1 a).trans s1, ⟨(pf _ _).trans f0, (pf _ _).trans f1, (pf _ _).trans f2, (pf _ _).trans f3, (pf _ _).trans f4, (pf _ _).trans f5⟩, ⟨g1.js p, g2.js p, g3.js p, g4.js p, g5.js p⟩, (p.2.2.1 _).trans t1, (p.2.2.2.1 _).trans t2, fun i hi => ⟨(pf _ _).trans (t3 i hi).1, (t3 i hi).2.js p⟩⟩
/-- texts in common are counted from the places i, j on -/
def tb (h : jm_H) (a : Nat) (A B : List Int) (i j : Nat) : Prop := jm_I h (a + 7 + i) j = jz (lc A B i j)
theorem jR_lc (A B : List Int) (i j : Nat) (h : A.length ≤ 12) : jR (lc A B i j : Int) := by
  have := lc_le A B i j
  constructor <;> omega
theorem s90_in {d a b c : Nat} {h0 : jm_H} {Q : jm_Q} {A B : List Int} (hs : shD h0 a) (hb : shT h0 b) (hcb : cx h0 b A) (hc : shT h0 c) (hcc : cx h0 c B) (rA : rng A) (rB : rng B) (nb : b ∉ rg a 20) (nb' : b + 1 ∉ rg a 20) (nc : c ∉ rg a 20) (nc' : c + 1 ∉ rg a 20) {i : Nat} (hi : i ≤ A.length) {v3 : Int} (h3 : v3 = i)
    (K : ∀ h l4, jf (rg (a + 7) 13) h0 h → (∀ i', i ≤ i' → i' ≤ A.length → ∀ j, j ≤ B.length → tb h a A B i' j) → jm_W dh_pr d 90 (5, [some (.inr (.inl a)), some (.inr (.inl b)), some (.inr (.inl c)), some (.inl (jz (v3 + (-1)))), l4], [], h) Q) :
    ∀ (m : Nat) (h : jm_H) (v4 : Int), m ≤ B.length + 1 → v4 = (m : Int) - 1 → jf (rg (a + 7) 13) h0 h → (∀ i', i < i' → i' ≤ A.length → ∀ j, j ≤ B.length → tb h a A B i' j) → (∀ j, m ≤ j → j ≤ B.length → tb h a A B i j) → jm_W dh_pr d 90 (15, [some (.inr (.inl a)), some (.inr (.inl b)), some (.inr (.inl c)), some (.inl (jz v3)), some (.inl (jz v4))], [], h) Q := by
  have lA := hcb.2.1
  have lB := hcc.2.1
  have sub : ∀ x, x ∈ rg (a + 7) 13 → x ∈ rg a 20 := fun x hx => by rw [mem_rg] at hx ⊢; omega
  intro m
  induction m with
  | zero =>
    intro h v4 _ e4 hf t1 t2
    refine rr90_15 ⟨⟨by omega, by omega⟩, fun _ => K h _ hf (fun i' h1 h2 j hj => ?_), fun q => absurd q (by omega)⟩
    by_cases e : i' = i
    · rw [e]; exact t2 j (Nat.zero_le _) hj
    · exact t1 i' (by omega) h2 j hj
  | succ j ih =>
    intro h v4 hm e4 hf t1 t2
    have hs' := hs.js hf.1
    have hb' := hb.js hf.1
    have hc' := hc.js hf.1
    have hcb' := hcb.jf hf (fun q => nb (sub _ q)) (fun q => nb' (sub _ q))
    have hcc' := hcc.jf hf (fun q => nc (sub _ q)) (fun q => nc' (sub _ q))
    obtain ⟨s1, ⟨-, -, -, -, -, f5⟩, -, u1, u2, u3⟩ := hs'
    have e3 : v3.toNat = i := by omega
    have e3' : (v3 + 1).toNat = i + 1 := by omega
    have ev : v4.toNat = j := by omega
    have ev' : (v4 + 1).toNat = j + 1 := by omega
    have fin : ∀ (z : Int), z = lc A B i j → jm_W dh_pr d 90 (15, [some (.inr (.inl a)), some (.inr (.inl b)), some (.inr (.inl c)), some (.inl (jz v3)), some (.inl (jz (v4 + (-1))))], [], jm_sI h (a + 7 + i) v4.toNat (jz z)) Q := by
      intro z hz
      refine ih _ _ (by omega) (by omega) (hf.sI (mem_rg.mpr (by omega))) (fun i' h1 h2 j' hj' => ?_) (fun j' h1 h2 => ?_)
      · show jm_I _ _ _ = _
        rw [jr_I_sI, if_neg (by omega)]
        exact t1 i' h1 h2 j' hj'
      · show jm_I _ _ _ = _
        rw [jr_I_sI, ev]
        by_cases e : j' = j
        · rw [if_pos ⟨rfl, e⟩, e, hz]
        · rw [if_neg (fun q => e q.2)]
          exact t2 j' (by omega) h2
    refine rr90_15 ⟨⟨by omega, by omega⟩, fun q => absurd q (by omega), fun _ => ⟨hb'.1, _, hcb'.1, ⟨by omega, by omega⟩, jR_len lA, fun q => ⟨s1, _, f5, u1, _, u2, ⟨by omega, by omega, by omega⟩, a + 7 + i, ?_, (u3 i (by omega)).2.1, _, (u3 i (by omega)).2.2, ⟨by omega, by omega, by omega⟩, fin 0 ?_⟩, fun q => ⟨hc'.1, _, hcc'.1, jR_len lB, fun q' => ⟨_, hb'.2.1, hb'.2.2.1, _, hb'.2.2.2, ⟨by omega, by omega, by omega⟩, A.getD i 0, ?_, _, hc'.2.1, hc'.2.2.1, _, hc'.2.2.2, ⟨by omega, by omega, by omega⟩, B.getD j 0, ?_, rA.at _, rB.at _, fun q3 => ⟨s1, _, f5, u1, _, u2, ⟨by omega, by omega, by omega⟩, a + 7 + i, ?_, ⟨by omega, by omega, by omega⟩, a + 7 + (i + 1), ?_, (u3 (i + 1) (by omega)).2.1, _, (u3 (i + 1) (by omega)).2.2, ⟨by omega, by omega, by omega⟩, (lc A B (i + 1) j : Int), ?_, (u3 i (by omega)).2.1, _, (u3 i (by omega)).2.2, ⟨by omega, by omega, by omega⟩, (lc A B i (j + 1) : Int), ?_, jR_lc _ _ _ _ lA, jR_lc _ _ _ _ lA, ⟨by omega, by omega, by omega⟩, fin _ ?_⟩, fun q3 => ⟨s1, _, f5, u1, _, u2, ⟨by omega, by omega, by omega⟩, a + 7 + i, ?_, ⟨by omega, by omega, by omega⟩, a + 7 + (i + 1), ?_, (u3 (i + 1) (by omega)).2.1, _, (u3 (i + 1) (by omega)).2.2, ⟨by omega, by omega, by omega⟩, (lc A B (i + 1) (j + 1) : Int), ?_, (u3 i (by omega)).2.1, _, (u3 i (by omega)).2.2, ⟨by omega, by omega, by omega⟩, fin _ ?_⟩⟩, fun q' => ⟨s1, _, f5, u1, _, u2, ⟨by omega, by omega, by omega⟩, a + 7 + i, ?_, (u3 i (by omega)).2.1, _, (u3 i (by omega)).2.2, ⟨by omega, by omega, by omega⟩, fin 0 ?_⟩⟩⟩⟩
    · rw [e3]; exact (u3 i (by omega)).1
    · rw [lc_end1 (by omega)]; rfl
    · rw [e3]; exact hcb'.2.2 i (by omega)
    · rw [ev]; exact hcc'.2.2 j (by omega)
    · rw [e3]; exact (u3 i (by omega)).1
    · rw [e3']; exact (u3 (i + 1) (by omega)).1
    · rw [ev]; exact t1 (i + 1) (by omega) (by omega) j (by omega)
    · rw [ev']; exact t2 (j + 1) (by omega) (by omega)
    · rw [lc_eq (i := i) (j := j) (by omega) (by omega), if_neg q3]
      split <;> omega
    · rw [e3]; exact (u3 i (by omega)).1
    · rw [e3']; exact (u3 (i + 1) (by omega)).1
    · rw [ev']; exact t1 (i + 1) (by omega) (by omega) (j + 1) (by omega)
    · rw [lc_eq (i := i) (j := j) (by omega) (by omega), if_pos q3]; omega
    · rw [e3]; exact (u3 i (by omega)).1
    · rw [lc_end2 (by omega)]; rfl
theorem s90_out {d a b c : Nat} {h0 : jm_H} {Q : jm_Q} {A B : List Int} (hs : shD h0 a) (hb : shT h0 b) (hcb : cx h0 b A) (hc : shT h0 c) (hcc : cx h0 c B) (rA : rng A) (rB : rng B) (nb : b ∉ rg a 20) (nb' : b + 1 ∉ rg a 20) (nc : c ∉ rg a 20) (nc' : c + 1 ∉ rg a 20)
    (K : ∀ h, jf (rg (a + 7) 13) h0 h → (∀ i, i ≤ A.length → ∀ j, j ≤ B.length → tb h a A B i j) → Q (.inl none) h) :
    ∀ (m : Nat) (h : jm_H) (v3 : Int) (l4 : Option jm_V), m ≤ A.length + 1 → v3 = (m : Int) - 1 → jf (rg (a + 7) 13) h0 h → (∀ i, m ≤ i → i ≤ A.length → ∀ j, j ≤ B.length → tb h a A B i j) → jm_W dh_pr d 90 (5, [some (.inr (.inl a)), some (.inr (.inl b)), some (.inr (.inl c)), some (.inl (jz v3)), l4], [], h) Q := by
  have lA := hcb.2.1
  have sub : ∀ x, x ∈ rg (a + 7) 13 → x ∈ rg a 20 := fun x hx => by rw [mem_rg] at hx ⊢; omega
  intro m
  induction m with
  | zero =>
    intro h v3 l4 _ e3 hf t1
    exact r90_5 ⟨⟨by omega, by omega⟩, fun _ => K h hf (fun i hi j hj => t1 i (Nat.zero_le _) hi j hj), fun q => absurd q (by omega)⟩
  | succ i ih =>
    intro h v3 l4 hm e3 hf t1
    have hc' := hc.js hf.1
    have hcc' := hcc.jf hf (fun q => nc (sub _ q)) (fun q => nc' (sub _ q))
    refine r90_5 ⟨⟨by omega, by omega⟩, fun q => absurd q (by omega), fun _ => ⟨hc'.1, _, hcc'.1, ?_⟩⟩
    exact s90_in hs hb hcb hc hcc rA rB nb nb' nc nc' (i := i) (by omega) (by omega) (fun h2 l4 hf2 t2 => ih h2 _ l4 (by omega) (by omega) hf2 t2) (B.length + 1) h _ (Nat.le_refl _) (by omega) hf (fun i' h1 h2 j hj => t1 i' h1 h2 j hj) (fun j h1 h2 => absurd h2 (by omega))
theorem s90 {d a b c : Nat} {h : jm_H} {A B : List Int} (hs : shD h a) (hb : shT h b) (hcb : cx h b A) (hc : shT h c) (hcc : cx h c B) (rA : rng A) (rB : rng B) (nb : b ∉ rg a 20) (nb' : b + 1 ∉ rg a 20) (nc : c ∉ rg a 20) (nc' : c + 1 ∉ rg a 20) :
    jm_E dh_pr (d + 1) 90 [.inr (.inl a), .inr (.inl b), .inr (.inl c)] h (fun o h' => o = .inl none ∧ jf (rg (a + 7) 13) h h' ∧ ∀ i, i ≤ A.length → ∀ j, j ≤ B.length → tb h' a A B i j) := by
  refine e90 (r90_0 ⟨hb.1, _, hcb.1, ?_⟩)
  exact s90_out hs hb hcb hc hcc rA rB nb nb' nc nc' (fun h' g1 g2 => ⟨rfl, g1, g2⟩) (A.length + 1) h _ none (Nat.le_refl _) (by omega) (jf.refl _ _) (fun i h1 h2 => absurd h2 (by omega))
