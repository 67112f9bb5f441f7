/-! The class's Delta: the loop of make. -/
theorem s89_l {d a b c : Nat} {h0 : jm_H} {Q : jm_Q} {A B : List Int} {R : List S5 × List Int} (hs : shD h0 a) (hb : shT h0 b) (hcb : cx h0 b A) (hc : shT h0 c) (hcc : cx h0 c B) (rA : rng A) (rB : rng B) (nb : b ∉ rg a 20) (nb' : b + 1 ∉ rg a 20) (nc : c ∉ rg a 20) (nc' : c + 1 ∉ rg a 20)
    (tt : ∀ h, jf (rg a 6) h0 h → ∀ i, i ≤ A.length → ∀ j, j ≤ B.length → tb h a A B i j)
    (Qok : ∀ h op, jf (rg a 6) h0 h → dD h a R.1 R.2 op → R.1.length ≤ 24 → okS R.1 24 → R.2.length ≤ B.length → Q (.inl none) h) :
    ∀ (n i j : Nat) (h : jm_H) (v3 v4 v5 : Int) (acc : List S5) (ad : List Int) (op : Bool), v3 = i → v4 = j → i ≤ A.length → j ≤ B.length → A.length + B.length ≤ n + i + j → 0 ≤ v5 → v5 ≤ i + j → acc.length ≤ i + j → ad.length ≤ j → (op = true → acc ≠ []) → okS acc (i + j) → jf (rg a 6) h0 h → dD h a acc ad op → walk A B n i j acc ad op = R →
    jm_W dh_pr (d + 1) 89 (29, [some (.inr (.inl a)), some (.inr (.inl b)), some (.inr (.inl c)), some (.inl (jz v3)), some (.inl (jz v4)), some (.inl (jz v5))], [], h) Q := by
  have lA := hcb.2.1
  have lB := hcc.2.1
  have sub : ∀ x, x ∈ rg a 6 → x ∈ rg a 20 := fun x hx => by rw [mem_rg] at hx ⊢; omega
  have stop : ∀ (n i j : Nat) (h : jm_H) (acc : List S5) (ad : List Int) (op : Bool), A.length ≤ i → i ≤ A.length → B.length ≤ j → j ≤ B.length → acc.length ≤ i + j → ad.length ≤ j → okS acc (i + j) → jf (rg a 6) h0 h → dD h a acc ad op → walk A B n i j acc ad op = R → Q (.inl none) h := by
    intro n i j h acc ad op g1 g2 g3 g4 g5 g6 g7 g8 g9 g10
    rw [walk_end A B n i j acc ad op g1 g3] at g10
    subst g10
    exact Qok h op g8 g9 (by show acc.length ≤ 24; omega) (g7.mono (by omega)) (by show ad.length ≤ _; omega)
  intro n
  induction n with
  | zero =>
    intro i j h v3 v4 v5 acc ad op e3 e4 hi hj hn p1 p2 ha hd hop ok hf hdd hw
    have hb' := hb.js hf.1
    have hc' := hc.js hf.1
    have hcb' := hcb.jf hf (fun q => nb (sub _ q)) (fun q => nb' (sub _ q))
    have hcc' := hcc.jf hf (fun q => nc (sub _ q)) (fun q => nc' (sub _ q))
    have fin := stop 0 i j h acc ad op (by omega) hi (by omega) hj ha hd ok hf hdd hw
    exact rr89_29 ⟨⟨by omega, by omega⟩, fun _ => fin, fun _ => ⟨hb'.1, _, hcb'.1, ⟨by omega, by omega⟩, jR_len lA, fun q => absurd q (by omega), fun _ => ⟨hc'.1, _, hcc'.1, ⟨by omega, by omega⟩, jR_len lB, fun _ => fin, fun q => absurd q (by omega)⟩⟩⟩
  | succ n ih =>
    intro i j h v3 v4 v5 acc ad op e3 e4 hi hj hn p1 p2 ha hd hop ok hf hdd hw
    have hs' := hs.js hf.1
    have hb' := hb.js hf.1
    have hc' := hc.js hf.1
    have hcb' := hcb.jf hf (fun q => nb (sub _ q)) (fun q => nb' (sub _ q))
    have hcc' := hcc.jf hf (fun q => nc (sub _ q)) (fun q => nc' (sub _ q))
    have t := tt h hf
    have iv : v3.toNat = i := by omega
    have iv' : (v3 + 1).toNat = i + 1 := by omega
    have jv : v4.toNat = j := by omega
    have jv' : (v4 + 1).toNat = j + 1 := by omega
    have hw' : (if i < A.length then
      if j < B.length ∧ A.getD i 0 = B.getD j 0 then walk A B n (i + 1) (j + 1) acc ad false
      else if j = B.length ∨ lc A B i (j + 1) ≤ lc A B (i + 1) j then walk A B n (i + 1) j (note acc op 0 i ad.length j) ad true
      else walk A B n i (j + 1) (note acc op 1 i ad.length j) (ad ++ [B.getD j 0]) true
    else if j < B.length then walk A B n i (j + 1) (note acc op 1 i ad.length j) (ad ++ [B.getD j 0]) true
    else (acc, ad)) = R := hw
    have L : i < A.length → walk A B n (i + 1) j (note acc op 0 i ad.length j) ad true = R → jm_E dh_pr (d + 1) 91 [.inr (.inl a), .inl (jz 0), .inl (jz v3)] h (jm_k dh_pr (d + 1) 89 Q 148 [some (.inr (.inl a)), some (.inr (.inl b)), some (.inr (.inl c)), some (.inl (jz v3)), some (.inl (jz v4)), some (.inl (jz v5))] [] 145) := by
      intro q hw2
      refine jm_callV (s91 hs' hdd (by omega) hop ok (Or.inl rfl) j) ?_
      rintro h' ⟨hf', hd'⟩
      rw [e3] at hd'
      exact r89_148 (ih (i + 1) j h' _ _ _ _ _ _ (by omega) e4 (by omega) hj (by omega) (by omega) (by omega) (by have := note_len acc op 0 i ad.length j; omega) hd (fun _ => note_ne _ _ _ _ _ _) ((okS_note ok (Or.inl rfl) ⟨by omega, by omega⟩).mono (by omega)) (hf.trans hf') hd' hw2)
    have AD : j < B.length → walk A B n i (j + 1) (note acc op 1 i ad.length j) (ad ++ [B.getD j 0]) true = R → jm_E dh_pr (d + 1) 91 [.inr (.inl a), .inl (jz 1), .inl (jz v3)] h (jm_k dh_pr (d + 1) 89 Q 160 [some (.inr (.inl a)), some (.inr (.inl b)), some (.inr (.inl c)), some (.inl (jz v3)), some (.inl (jz v4)), some (.inl (jz v5))] [] 157) := by
      intro q hw2
      refine jm_callV (s91 hs' hdd (by omega) hop ok (Or.inr rfl) j) ?_
      rintro h' ⟨hf', hd'⟩
      rw [e3] at hd'
      have hf2 := hf.trans hf'
      have hs2 := hs.js hf2.1
      have hc2 := hc.js hf2.1
      have hcc2 := hcc.jf hf2 (fun q => nc (sub _ q)) (fun q => nc' (sub _ q))
      obtain ⟨⟨c1, c2, c3⟩, c4, c5, c6, c7, c8⟩ := hd'
      have el : (ad ++ [B.getD j 0]).length = ad.length + 1 := by rw [List.length_append, List.length_singleton]
      refine r89_160 ⟨hs2.1, _, hs2.2.1.2.2.2.2.1, _, c2, hc2.1, _, hc2.2.1, hc2.2.2.1, _, hc2.2.2.2, ⟨by omega, by omega, by omega⟩, B.getD j 0, by rw [jv]; exact hcc2.2.2 j q, hs2.2.2.1.2.2.2.2.1, _, hs2.2.2.1.2.2.2.2.2, ⟨by omega, by omega, by omega⟩, ?_⟩
      refine ih i (j + 1) _ _ _ _ _ _ _ e3 (by omega) hi (by omega) (by omega) (by omega) (by omega) (by have := note_len acc op 1 i ad.length j; omega) (by omega) (fun _ => note_ne _ _ _ _ _ _) ((okS_note ok (Or.inr rfl) ⟨by omega, by omega⟩).mono (by omega)) ((hf2.sI (mem_rg.mpr (by omega))).sI (mem_rg.mpr (by omega))) ⟨⟨?_, ?_, ?_⟩, (c4.off (by omega)).off (by omega), (c5.off (by omega)).off (by omega), (c6.off (by omega)).off (by omega), (c7.off (by omega)).off (by omega), (c8.push' (by omega) rfl).off (by omega)⟩ hw2
      · rw [jr_I_fld (by decide), jr_I_sI, if_neg (by omega)]; exact c1
      · rw [jr_I_self, el]; rfl
      · rw [jr_I_fld (by decide), jr_I_sI, if_neg (by omega)]; exact c3
    refine rr89_29 ⟨⟨by omega, by omega⟩, fun _ => ?_, fun _ => ⟨hb'.1, _, hcb'.1, ⟨by omega, by omega⟩, jR_len lA, fun q => ⟨hc'.1, _, hcc'.1, ⟨by omega, by omega⟩, jR_len lB, fun q' => ⟨fun _ => ⟨hs'.1, L (by omega) ?_⟩, fun q3 => absurd q3 (by omega)⟩, fun q' => ⟨_, hb'.2.1, hb'.2.2.1, _, hb'.2.2.2, ⟨by omega, by omega, by omega⟩, A.getD i 0, by rw [iv]; exact hcb'.2.2 i (by omega), _, hc'.2.1, hc'.2.2.1, _, hc'.2.2.2, ⟨by omega, by omega, by omega⟩, B.getD j 0, by rw [jv]; exact hcc'.2.2 j (by omega), rA.at _, rB.at _, fun q3 => ?_, fun q3 => ⟨hs'.1, ?_⟩⟩⟩, fun q => ⟨hc'.1, _, hcc'.1, ⟨by omega, by omega⟩, jR_len lB, fun q' => ?_, fun q' => ⟨hs'.1, AD (by omega) ?_⟩⟩⟩⟩
    · exact stop (n + 1) i j h acc ad op (by omega) hi (by omega) hj ha hd ok hf hdd hw
    · rw [← hw', if_pos (by omega), if_neg (by omega), if_pos (by omega)]
    · obtain ⟨s1, ⟨-, -, -, -, -, f5⟩, -, u1, u2, u3⟩ := hs'
      refine ⟨s1, _, f5, u1, _, u2, ⟨by omega, by omega, by omega⟩, a + 7 + (i + 1), by rw [iv']; exact (u3 (i + 1) (by omega)).1, (u3 (i + 1) (by omega)).2.1, _, (u3 (i + 1) (by omega)).2.2, ⟨by omega, by omega, by omega⟩, (lc A B (i + 1) j : Int), by rw [jv]; exact t (i + 1) (by omega) j (by omega), ⟨by omega, by omega, by omega⟩, a + 7 + i, by rw [iv]; exact (u3 i (by omega)).1, (u3 i (by omega)).2.1, _, (u3 i (by omega)).2.2, ⟨by omega, by omega, by omega⟩, (lc A B i (j + 1) : Int), by rw [jv']; exact t i (by omega) (j + 1) (by omega), jR_lc _ _ _ _ lA, jR_lc _ _ _ _ lA, fun q4 => AD (by omega) ?_, fun q4 => L (by omega) ?_⟩
      · rw [← hw', if_pos (by omega), if_neg (fun p => q3 p.2), if_neg (by omega)]
      · rw [← hw', if_pos (by omega), if_neg (fun p => q3 p.2), if_pos (by omega)]
    · refine ih (i + 1) (j + 1) _ _ _ _ acc ad false (by omega) (by omega) (by omega) (by omega) (by omega) (by omega) (by omega) (by omega) (by omega) (fun p => by cases p) (ok.mono (by omega)) (hf.sI (mem_rg.mpr (by omega))) ?_ ?_
      · obtain ⟨⟨c1, c2, c3⟩, c4, c5, c6, c7, c8⟩ := hdd
        exact ⟨⟨by rw [jr_I_fld (by decide)]; exact c1, by rw [jr_I_fld (by decide)]; exact c2, jr_I_self⟩, c4.off (by omega), c5.off (by omega), c6.off (by omega), c7.off (by omega), c8.off (by omega)⟩
      · rw [← hw', if_pos (by omega), if_pos ⟨by omega, q3⟩]
    · exact stop (n + 1) i j h acc ad op (by omega) hi (by omega) hj ha hd ok hf hdd hw
    · rw [← hw', if_neg (by omega), if_pos (by omega)]
theorem s89 {d a b c : Nat} {h : jm_H} {A B : List Int} (hs : shD h a) (hb : shT h b) (hcb : cx h b A) (hc : shT h c) (hcc : cx h c B) (rA : rng A) (rB : rng B) (nb : b ∉ rg a 20) (nb' : b + 1 ∉ rg a 20) (nc : c ∉ rg a 20) (nc' : c + 1 ∉ rg a 20) :
    jm_E dh_pr (d + 2) 89 [.inr (.inl a), .inr (.inl b), .inr (.inl c)] h (fun o h' => o = .inl none ∧ jf (rg a 20) h h' ∧ (∃ op, dD h' a (delta A B).1 (delta A B).2 op) ∧ (delta A B).1.length ≤ 24 ∧ okS (delta A B).1 24 ∧ (delta A B).2.length ≤ 12) := by
  have lB := hcc.2.1
  have s7 : ∀ x, x ∈ rg (a + 7) 13 → x ∈ rg a 20 := fun x hx => by rw [mem_rg] at hx ⊢; omega
  have s6 : ∀ x, x ∈ rg a 6 → x ∈ rg a 20 := fun x hx => by rw [mem_rg] at hx ⊢; omega
  refine e89 (r89_0 ⟨hs.1, jm_callV (s90 hs hb hcb hc hcc rA rB nb nb' nc nc') ?_⟩)
  rintro h1 ⟨hf1, t1⟩
  have hs1 := hs.js hf1.1
  have hcb1 := hcb.jf hf1 (fun q => nb (s7 _ q)) (fun q => nb' (s7 _ q))
  have hcc1 := hcc.jf hf1 (fun q => nc (s7 _ q)) (fun q => nc' (s7 _ q))
  refine r89_6 ⟨hs1.1, ?_⟩
  have m0 : a ∈ rg a 6 := mem_rg.mpr (by omega)
  refine s89_l (h0 := h1) (R := delta A B) hs1 (hb.js hf1.1) hcb1 (hc.js hf1.1) hcc1 rA rB nb nb' nc nc' (fun h2 hf2 i hi j hj => ?_) (fun h2 op g1 g2 g3 g4 g5 => ⟨rfl, (hf1.mono s7).trans (g1.mono s6), ⟨op, g2⟩, g3, g4, by omega⟩) (A.length + B.length) 0 0 _ 0 0 0 [] [] false (by omega) (by omega) (Nat.zero_le _) (Nat.zero_le _) (by omega) (by omega) (by omega) (by simp) (by simp) (fun p => by cases p) (fun s hs => by cases hs) ((((jf.refl _ h1).sI m0).sI m0).sI m0) ⟨⟨?_, ?_, jr_I_self⟩, row.nil _ _, row.nil _ _, row.nil _ _, row.nil _ _, row.nil _ _⟩ rfl
  · exact (hf2.2 _ (fun q => by rw [mem_rg] at q; omega) j).trans (t1 i hi j hj)
  · rw [jr_I_fld (by decide), jr_I_fld (by decide), jr_I_self]; rfl
  · rw [jr_I_fld (by decide), jr_I_self]; rfl
