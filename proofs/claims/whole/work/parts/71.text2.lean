/-! The class's texts: parts and words of bytes. -/
def lnv (xs : List Int) : Prop := ∀ v ∈ xs, 1 ≤ v ∧ v ≤ 99
theorem lnv.at {xs : List Int} (h : lnv xs) {i : Nat} (hi : i < xs.length) : 1 ≤ xs.getD i 0 ∧ xs.getD i 0 ≤ 99 := by
  rw [List.getD_eq_getElem?_getD, List.getElem?_eq_getElem hi]
  exact h _ (List.getElem_mem hi)
theorem take_snoc {xs : List Int} {j : Nat} (hj : j < xs.length) : xs.take (j + 1) = xs.take j ++ [xs.getD j 0] := by
  rw [List.take_succ, List.getD_eq_getElem?_getD, List.getElem?_eq_getElem hj]; rfl
theorem s126_l {d a b : Nat} {h0 : jm_H} {Q : jm_Q} {xs ys : List Int} {f t : Nat} {l2 : Option jm_V} (hs : shT h0 a) (hb : shT h0 b) (hc : cx h0 b ys) (n1 : b ∉ [a, a + 1]) (n2 : b + 1 ∉ [a, a + 1]) (lv : lnv ys) (ht : t ≤ ys.length)
    (Qok : ∀ h', jf [a, a + 1] h0 h' → cx h' a (xs ++ (ys.drop f).take (t - f)) → xs.length + (t - f) ≤ 12 → Q (.inl (some (.inl (jz 1)))) h') (Qno : ∀ h', jf [a, a + 1] h0 h' → ¬ xs.length + (t - f) ≤ 12 → Q (.inl (some (.inl (jz 0)))) h') :
    ∀ (n j : Nat) (h : jm_H) (v4 : Int), f + j + n = t → v4 = (f + j : Nat) → jf [a, a + 1] h0 h → cx h a (xs ++ (ys.drop f).take j) → jm_W dh_pr (d + 1) 126 (22, [some (.inr (.inl a)), some (.inr (.inl b)), l2, some (.inl (jz t)), some (.inl (jz v4))], [], h) Q := by
  intro n
  induction n with
  | zero =>
    intro j h v4 e1 e2 hf hcx
    have l12 : t ≤ 12 := Nat.le_trans ht hc.2.1
    have ej : t - f = j := by omega
    have el : (xs ++ (ys.drop f).take j).length = xs.length + j := by
      rw [List.length_append, List.length_take, List.length_drop]; omega
    refine r126_22 ⟨⟨by omega, by omega⟩, ⟨by omega, by omega⟩, fun q => Qok h hf (by rw [ej]; exact hcx) ?_, fun q => absurd q (by omega)⟩
    have := hcx.2.1
    omega
  | succ n ih =>
    intro j h v4 e1 e2 hf hcx
    have l12 : t ≤ 12 := Nat.le_trans ht hc.2.1
    have el : (xs ++ (ys.drop f).take j).length = xs.length + j := by
      rw [List.length_append, List.length_take, List.length_drop]; omega
    have hs' := hs.js hf.1
    have hb' := hb.js hf.1
    have hc' := hc.jf hf n1 n2
    have hi : f + j < ys.length := by omega
    have hv := lv.at hi
    refine r126_22 ⟨⟨by omega, by omega⟩, ⟨by omega, by omega⟩, fun q => absurd q (by omega), fun q => ⟨hb'.1, _, hb'.2.1, hb'.2.2.1, _, hb'.2.2.2, ⟨by omega, by omega, by omega⟩, ys.getD (f + j) 0, ?_, hs'.1, jm_callI (s122 hs' hcx ⟨by omega, by omega⟩) ?_⟩⟩
    · rw [show v4.toNat = f + j by omega]; exact hc'.2.2 _ hi
    · rintro z h' (⟨rfl, ho, hf', hcx'⟩ | ⟨rfl, ho, rfl⟩)
      · refine r126_39 ⟨⟨by omega, by omega⟩, fun _ => ih (j + 1) h' (v4 + 1) (by omega) (by omega) (hf.trans hf') ?_, fun p => absurd p (by omega)⟩
        rw [take_snoc (by rw [List.length_drop]; omega), ← List.append_assoc, getD_drop]
        exact hcx'
      · refine r126_39 ⟨⟨by omega, by omega⟩, fun p => absurd rfl p, fun _ => Qno _ hf ?_⟩
        intro p
        exact ho ⟨hv.1, hv.2, by omega⟩
theorem s126 {d a b : Nat} {h : jm_H} {xs ys : List Int} {f t : Int} (hs : shT h a) (hc : cx h a xs) (hb : shT h b) (hcb : cx h b ys) (n1 : b ∉ [a, a + 1]) (n2 : b + 1 ∉ [a, a + 1]) (lv : lnv ys) (hf : jR f) (ht : jR t) :
    jm_E dh_pr (d + 2) 126 [.inr (.inl a), .inr (.inl b), .inl (jz f), .inl (jz t)] h (fun o h' => ∃ z : Int, o = .inl (some (.inl (jz z))) ∧ jf [a, a + 1] h h' ∧ ((z = 1 ∧ (0 ≤ f ∧ f ≤ t ∧ t ≤ ys.length ∧ xs.length + (t - f) ≤ 12) ∧ cx h' a (xs ++ (ys.drop f.toNat).take (t - f).toNat)) ∨ (z = 0 ∧ ¬ (0 ≤ f ∧ f ≤ t ∧ t ≤ ys.length ∧ xs.length + (t - f) ≤ 12)))) := by
  have l1 := hcb.2.1
  refine e126 (r126_0 ⟨hf, fun q => ⟨0, rfl, jf.refl _ _, Or.inr ⟨rfl, by omega⟩⟩, fun q => ⟨ht, fun q' => ⟨0, rfl, jf.refl _ _, Or.inr ⟨rfl, by omega⟩⟩, fun q' => ⟨hb.1, _, hcb.1, jR_len l1, fun q3 => ?_, fun q3 => ⟨0, rfl, jf.refl _ _, Or.inr ⟨rfl, by omega⟩⟩⟩⟩⟩)
  obtain ⟨f, rfl⟩ : ∃ m : Nat, f = m := ⟨f.toNat, by omega⟩
  obtain ⟨t, rfl⟩ : ∃ m : Nat, t = m := ⟨t.toNat, by omega⟩
  have et : ((t : Int) - f).toNat = t - f := by omega
  refine s126_l (xs := xs) hs hb hcb n1 n2 lv (t := t) (f := f) (by omega) (fun h' g1 g2 g3 => ⟨1, rfl, g1, Or.inl ⟨rfl, ⟨q, q', q3, by omega⟩, ?_⟩⟩) (fun h' g1 g2 => ⟨0, rfl, g1, Or.inr ⟨rfl, fun p => by omega⟩⟩) (t - f) 0 h _ (by omega) (by omega) (jf.refl _ _) (by simpa using hc)
  rw [et, show (f : Int).toNat = f by omega]
  exact g2
/-- a byte of a word -/
def jby (w s : Int) : Int := (((jz w >>> (jz s &&& 31)) &&& 255 : Int32)).toInt
/-- lines appended, zeros left out; none where one is no line or finds no room -/
def apB : List Int → List Int → Option (List Int)
  | xs, [] => some xs
  | xs, b :: r => if b = 0 then apB xs r else if 1 ≤ b ∧ b ≤ 99 ∧ xs.length < 12 then apB (xs ++ [b]) r else none
theorem s125_l {d a : Nat} {h0 : jm_H} {Q : jm_Q} {w : Int} {R : Option (List Int)} (hs : shT h0 a)
    (Qok : ∀ h' ys, jf [a, a + 1] h0 h' → R = some ys → cx h' a ys → Q (.inl (some (.inl (jz 1)))) h') (Qno : ∀ h', jf [a, a + 1] h0 h' → R = none → Q (.inl (some (.inl (jz 0)))) h') :
    ∀ (ss : List Int) (h : jm_H) (xs : List Int) (s : Int) (l3 : Option jm_V), ss = (if s = 24 then [24, 16, 8, 0] else if s = 16 then [16, 8, 0] else if s = 8 then [8, 0] else if s = 0 then [0] else []) → (s = 24 ∨ s = 16 ∨ s = 8 ∨ s = 0 ∨ s = -8) → apB xs (ss.map (jby w)) = R → jf [a, a + 1] h0 h → cx h a xs →
    jm_W dh_pr (d + 1) 125 (3, [some (.inr (.inl a)), some (.inl (jz w)), some (.inl (jz s)), l3], [], h) Q := by
  intro ss
  induction ss with
  | nil =>
    intro h xs s l3 e1 e2 e3 hf hc
    have : s = -8 := by
      rcases e2 with rfl | rfl | rfl | rfl | rfl
      · simp at e1
      · simp at e1
      · simp at e1
      · simp at e1
      · rfl
    subst this
    refine r125_3 ⟨⟨by omega, by omega⟩, fun _ => Qok h xs hf e3.symm hc, fun q => absurd q (by omega)⟩
  | cons s0 ss ih =>
    intro h xs s l3 e1 e2 e3 hf hc
    have e4 : s0 = s ∧ 0 ≤ s ∧ s ≤ 24 ∧ ss = (if s + -8 = 24 then [24, 16, 8, 0] else if s + -8 = 16 then [16, 8, 0] else if s + -8 = 8 then [8, 0] else if s + -8 = 0 then [0] else []) ∧ (s + -8 = 24 ∨ s + -8 = 16 ∨ s + -8 = 8 ∨ s + -8 = 0 ∨ s + -8 = -8) := by
      rcases e2 with rfl | rfl | rfl | rfl | rfl
      · simp at e1; simp [e1]
      · simp at e1; simp [e1]
      · simp at e1; simp [e1]
      · simp at e1; simp [e1]
      · simp at e1
    obtain ⟨rfl, s1, s2, e5, e6⟩ := e4
    rw [List.map_cons] at e3
    have hs' := hs.js hf.1
    refine r125_3 ⟨⟨by omega, by omega⟩, fun q => absurd q (by omega), fun q => ⟨_, (jz_self _).symm, jby w s0, ?_, jR_toInt _, fun q' => ?_, fun q' => ⟨hs'.1, jm_callI (s122 hs' hc (jR_toInt _)) ?_⟩⟩⟩
    · show jz _ &&& jz 255 = jz (Int32.toInt _)
      rw [jz_self, jz_self]; rfl
    · refine ih h xs _ _ e5 e6 ?_ hf hc
      rw [← e3, apB, if_pos q']
    · rintro z h' (⟨rfl, ho, hf', hc'⟩ | ⟨rfl, ho, rfl⟩)
      · refine r125_24 ⟨⟨by omega, by omega⟩, fun _ => ih h' _ _ _ e5 e6 ?_ (hf.trans hf') hc', fun p => absurd p (by omega)⟩
        unfold okl at ho
        rw [← e3, apB, if_neg q', if_pos ho]
      · refine r125_24 ⟨⟨by omega, by omega⟩, fun p => absurd rfl p, fun _ => Qno _ hf ?_⟩
        unfold okl at ho
        rw [← e3, apB, if_neg q', if_neg ho]
/-- a word's four bytes -/
def jb4 (w : Int) : List Int := [jby w 24, jby w 16, jby w 8, jby w 0]
theorem s125 {d a : Nat} {h : jm_H} {xs : List Int} {w : Int} (hs : shT h a) (hc : cx h a xs) : jm_E dh_pr (d + 2) 125 [.inr (.inl a), .inl (jz w)] h (fun o h' => ∃ z : Int, o = .inl (some (.inl (jz z))) ∧ jf [a, a + 1] h h' ∧ ((z = 1 ∧ ∃ ys, apB xs (jb4 w) = some ys ∧ cx h' a ys) ∨ (z = 0 ∧ apB xs (jb4 w) = none))) := by
  refine e125 (r125_0 (s125_l hs (R := apB xs (jb4 w)) (fun h' ys g1 g2 g3 => ⟨1, rfl, g1, Or.inl ⟨rfl, ys, g2, g3⟩⟩) (fun h' g1 g2 => ⟨0, rfl, g1, Or.inr ⟨rfl, g2⟩⟩) [24, 16, 8, 0] h xs 24 none (by simp) (Or.inl rfl) rfl (jf.refl _ _) hc))
