/-! The reference: telling steps. -/
theorem cdr.app {h : jm_H} {M : Nat} {bs cs : List Int} (c : cdr h M bs) (e : bs = cs) : cdr h M cs := e ▸ c
theorem fm_take {α : Type} (f : α → List Int) (l : List α) (k : Nat) : ((l.take k).flatMap f).length ≤ (l.flatMap f).length := by
  have h : (l.take k ++ l.drop k).flatMap f = l.flatMap f := by rw [List.take_append_drop]
  rw [← h, List.flatMap_append, List.length_append]
  omega
theorem s47_in {d M : Nat} {h0 : jm_H} {Q : jm_Q} {acc : List S5} {ad B : List Int} {k : Nat} {X : List Int} {v1 : Int} (hs : shM h0 M) (hd : dM h0 M acc) (hB : cB h0 M B) (ok : okS acc 24) (oa : okA acc ad B B.length) (h24 : acc.length ≤ 24) (hk : k < acc.length) (e1 : v1 = k) (hl : (acc.getD k s50).1 = 1 → X.length + (acc.getD k s50).2.2.1.toNat ≤ 2400)
    (K : ∀ h v2, jq M [32] [M + 23] h0 h → cdr h M (X ++ (if (acc.getD k s50).1 = 1 then (List.range (acc.getD k s50).2.2.1.toNat).map (fun n : Nat => addL (acc.getD k s50) ad n) else [])) → jm_W dh_pr (d + 1) 47 (10, [some (.inr (.inl M)), some (.inl (jz (v1 + 1))), some (.inl (jz v2))], [], h) Q) :
    ∀ (m j : Nat) (h : jm_H) (v2 : Int), (j = 0 ∨ (acc.getD k s50).1 = 1) → j + m = (acc.getD k s50).2.2.1.toNat → v2 = j → jq M [32] [M + 23] h0 h → cdr h M (X ++ (List.range j).map (fun n : Nat => addL (acc.getD k s50) ad n)) → jm_W dh_pr (d + 1) 47 (50, [some (.inr (.inl M)), some (.inl (jz v1)), some (.inl (jz v2))], [], h) Q := by
  have o := ok _ (mem_gD hk)
  have t := oa _ (mem_gD hk)
  have rd : ∀ (f : S5 → Int), (acc.map f).getD k 0 = f (acc.getD k s50) := fun f => gD_map hk
  have ll : ∀ (f : S5 → Int), k < (acc.map f).length := fun f => by rw [List.length_map]; exact hk
  have lB := hB.2.1
  generalize acc.getD k s50 = s at *
  have ev : v1.toNat = k := by omega
  have ki : jzi v1 24 := ⟨by omega, by omega, by omega⟩
  intro m
  induction m with
  | zero =>
    intro j h v2 hj e e2 hf hc
    have hs' := hs.js hf.1
    have hd' := hd.jq hf (by simp) (by simp) (fun i hi => by simp; omega)
    obtain ⟨f2, g2, n2⟩ := hs'.f 24 16 24 (by decide)
    refine r47_50 ⟨hs'.1, _, f2, g2, _, n2, ki, s.2.2.1, by rw [ev, hd'.2.2.2.1 _ (ll _), rd], ⟨by omega, by omega⟩, ⟨by omega, by omega⟩, fun _ => K h _ hf ?_, fun q => absurd q (by omega)⟩
    have : s.1 = 1 := by omega
    rw [if_pos this, show s.2.2.1.toNat = j by omega]; exact hc
  | succ m ih =>
    intro j h v2 hj e e2 hf hc
    have hs' := hs.js hf.1
    have hd' := hd.jq hf (by simp) (by simp) (fun i hi => by simp; omega)
    have hB' := hB.jq hf (by simp) (by simp) (by simp)
    obtain ⟨f0, g0, n0⟩ := hs'.f 22 14 24 (by decide)
    obtain ⟨f2, g2, n2⟩ := hs'.f 24 16 24 (by decide)
    obtain ⟨f3, g3, n3⟩ := hs'.f 25 17 24 (by decide)
    obtain ⟨k1, k2, k3⟩ := hs'.f 19 12 12 (by decide)
    refine r47_50 ⟨hs'.1, _, f2, g2, _, n2, ki, s.2.2.1, by rw [ev, hd'.2.2.2.1 _ (ll _), rd], ⟨by omega, by omega⟩, ⟨by omega, by omega⟩, fun q => absurd q (by omega), fun _ => ⟨_, f0, g0, _, n0, ki, s.1, by rw [ev, hd'.2.1 _ (ll _), rd], ⟨by omega, by omega⟩, fun q => K h _ hf ?_, fun q => ?_⟩⟩
    · have : j = 0 := hj.resolve_right q
      rw [this] at hc
      rw [if_neg q]; exact hc
    · obtain ⟨t1, t2, t3, t4, t5⟩ := t q
      have tl := t5 j (by omega)
      refine ⟨_, k1, _, f3, g3, _, n3, ki, s.2.2.2.2, by rw [ev, hd'.2.2.2.2 _ (ll _), rd], k2, _, k3, ⟨by omega, by omega, by omega⟩, B.getD (s.2.2.2.2 + v2).toNat 0, hB'.2.2 _ (by omega), jm_callV (s46 hs' hc (by have := hl q; rw [List.length_append, List.length_map, List.length_range]; omega)) ?_⟩
      rintro h2 ⟨hf2, hc2⟩
      refine r47_87 (ih (j + 1) h2 _ (Or.inr q) (by omega) (by omega) (hf.trans hf2) (hc2.app ?_))
      rw [List.range_succ, List.map_append, ← List.append_assoc, List.map_cons, List.map_nil]
      have : addL s ad (j : Nat) = B.getD (s.2.2.2.2 + v2).toNat 0 := by
        rw [addL, if_pos ⟨q, by omega, by omega⟩, tl, e2]
      rw [this]
theorem s47_l {d M : Nat} {h0 : jm_H} {Q : jm_Q} {acc : List S5} {ad B bs : List Int} (hs : shM h0 M) (hd : dM h0 M acc) (hB : cB h0 M B) (ok : okS acc 24) (oa : okA acc ad B B.length) (h24 : acc.length ≤ 24) (hl : (bs ++ acc.flatMap (encS ad)).length ≤ 2400)
    (Qok : ∀ h, jq M [32] [M + 23] h0 h → cdr h M (bs ++ acc.flatMap (encS ad)) → Q (.inl none) h) :
    ∀ (m k : Nat) (h : jm_H) (v1 : Int) (l2 : Option jm_V), k + m = acc.length → v1 = k → jq M [32] [M + 23] h0 h → cdr h M (bs ++ (acc.take k).flatMap (encS ad)) → jm_W dh_pr (d + 1) 47 (10, [some (.inr (.inl M)), some (.inl (jz v1)), l2], [], h) Q := by
  intro m
  induction m with
  | zero =>
    intro k h v1 l2 e1 e2 hf hc
    have hs' := hs.js hf.1
    have hd' := hd.jq hf (by simp) (by simp) (fun i hi => by simp; omega)
    refine r47_10 ⟨hs'.1, _, hd'.1, ⟨by omega, by omega⟩, ⟨by omega, by omega⟩, fun _ => Qok h hf ?_, fun q => absurd q (by omega)⟩
    rw [List.take_of_length_le (by omega)] at hc
    exact hc
  | succ m ih =>
    intro k h v1 l2 e1 e2 hf hc
    have kk : k < acc.length := by omega
    have o := ok _ (mem_gD kk)
    have rd : ∀ (f : S5 → Int), (acc.map f).getD k 0 = f (acc.getD k s50) := fun f => gD_map kk
    have ll : ∀ (f : S5 → Int), k < (acc.map f).length := fun f => by rw [List.length_map]; exact kk
    have ev : v1.toNat = k := by omega
    have ki : jzi v1 24 := ⟨by omega, by omega, by omega⟩
    have step : bs ++ (acc.take (k + 1)).flatMap (encS ad) = bs ++ (acc.take k).flatMap (encS ad) ++ [(acc.getD k s50).1] ++ [(acc.getD k s50).2.1] ++ [(acc.getD k s50).2.2.1] ++ (if (acc.getD k s50).1 = 1 then (List.range (acc.getD k s50).2.2.1.toNat).map (fun n : Nat => addL (acc.getD k s50) ad n) else []) := by
      rw [take_snoc' (d := s50) kk, fm_snoc, encS]
      simp only [List.append_assoc, List.cons_append, List.nil_append]
    have tot : (bs ++ (acc.take (k + 1)).flatMap (encS ad)).length ≤ 2400 := by
      rw [List.length_append] at hl ⊢
      have := fm_take (encS ad) acc (k + 1)
      omega
    rw [step] at tot
    simp only [List.length_append, List.length_singleton] at tot
    have D : ∀ {h1 : jm_H}, jq M [32] [M + 23] h0 h1 → dM h1 M acc := fun hf1 => hd.jq hf1 (by simp) (by simp) (fun i hi => by simp; omega)
    have hs1 := hs.js hf.1
    obtain ⟨f0, g0, n0⟩ := hs1.f 22 14 24 (by decide)
    refine r47_10 ⟨hs1.1, _, (D hf).1, ⟨by omega, by omega⟩, ⟨by omega, by omega⟩, fun q => absurd q (by omega), fun _ => ⟨_, f0, g0, _, n0, ki, _, by rw [ev, (D hf).2.1 _ (ll _), rd], jm_callV (s46 hs1 hc (by rw [List.length_append]; omega)) ?_⟩⟩
    rintro h2 ⟨hf2, hc2⟩
    have F2 := hf.trans hf2
    have hs2 := hs.js F2.1
    obtain ⟨f1, g1, n1⟩ := hs2.f 23 15 24 (by decide)
    refine r47_28 ⟨hs2.1, _, f1, g1, _, n1, ki, _, by rw [ev, (D F2).2.2.1 _ (ll _), rd], jm_callV (s46 hs2 hc2 (by simp only [List.length_append, List.length_singleton]; omega)) ?_⟩
    rintro h3 ⟨hf3, hc3⟩
    have F3 := F2.trans hf3
    have hs3 := hs.js F3.1
    obtain ⟨f2, g2, n2⟩ := hs3.f 24 16 24 (by decide)
    refine r47_38 ⟨hs3.1, _, f2, g2, _, n2, ki, _, by rw [ev, (D F3).2.2.2.1 _ (ll _), rd], jm_callV (s46 hs3 hc3 (by simp only [List.length_append, List.length_singleton]; omega)) ?_⟩
    rintro h4 ⟨hf4, hc4⟩
    have F4 := F3.trans hf4
    refine r47_48 (s47_in (hs.js F4.1) (D F4) (hB.jq F4 (by simp) (by simp) (by simp)) ok oa h24 kk e2 (fun e => by rw [if_pos e, List.length_map, List.length_range] at tot; simp only [List.length_append, List.length_singleton]; omega) (fun h5 v2 hf5 hc5 => ih (k + 1) h5 _ _ (by omega) (by omega) (F4.trans hf5) (hc5.app step.symm)) (acc.getD k s50).2.2.1.toNat 0 h4 0 (Or.inl rfl) (by omega) (by simp) (jq.refl _ _ _ _) (by simpa using hc4))
theorem s47 {d M : Nat} {h : jm_H} {acc : List S5} {ad B bs : List Int} (hs : shM h M) (hd : dM h M acc) (hB : cB h M B) (hc : cdr h M bs) (ok : okS acc 24) (oa : okA acc ad B B.length) (h24 : acc.length ≤ 24) (hl : (bs ++ encD (acc, ad)).length ≤ 2400) :
    jm_E dh_pr (d + 2) 47 [.inr (.inl M)] h (fun o h' => o = .inl none ∧ jq M [32] [M + 23] h h' ∧ cdr h' M (bs ++ encD (acc, ad))) := by
  have hl' : bs.length + ((acc.flatMap (encS ad)).length + 1) ≤ 2400 := by rw [List.length_append] at hl; exact hl
  refine e47 (r47_0 ⟨hs.1, _, hd.1, jm_callV (s46 hs hc (by omega)) ?_⟩)
  rintro h1 ⟨hf1, hc1⟩
  refine r47_8 (s47_l (bs := bs ++ [(acc.length : Int)]) (hs.js hf1.1) (hd.jq hf1 (by simp) (by simp) (fun i hi => by simp; omega)) (hB.jq hf1 (by simp) (by simp) (by simp)) ok oa h24 (by simp only [List.length_append, List.length_singleton]; omega) (fun h2 g1 g2 => ⟨rfl, hf1.trans g1, g2.app ?_⟩) acc.length 0 h1 0 none (by omega) (by omega) (jq.refl _ _ _ _) (by simpa using hc1))
  rw [encD, ← List.append_cons]
/-- lines that the steps add, counted -/
def cnt1 (acc : List S5) : Int := (acc.map (fun s => if s.1 = 1 then s.2.2.1 else 0)).sum
theorem cnt1_app (a b : List S5) : cnt1 (a ++ b) = cnt1 a + cnt1 b := by
  unfold cnt1; rw [List.map_append, List.sum_append]
theorem cnt1_one (s : S5) : cnt1 [s] = if s.1 = 1 then s.2.2.1 else 0 := by
  unfold cnt1; simp
theorem cnt1_note (acc : List S5) (op : Bool) (k i f j : Int) : cnt1 (note acc op k i f j) = cnt1 acc + (if k = 1 then 1 else 0) := by
  unfold note
  split
  · rename_i s hs
    split
    · rename_i c
      have e : acc = acc.dropLast ++ [s] := by
        have hne : acc ≠ [] := by intro q; rw [q] at hs; cases hs
        have : acc.getLast hne = s := by
          rw [List.getLast?_eq_getLast hne] at hs; exact Option.some.inj hs
        rw [← this, List.dropLast_concat_getLast hne]
      have e2 : cnt1 acc = cnt1 acc.dropLast + cnt1 [s] := by
        rw [← cnt1_app, ← e]
      rw [e2, cnt1_app, cnt1_one, cnt1_one]
      show _ + (if s.1 = 1 then s.2.2.1 + 1 else 0) = _
      rw [c.2]
      split <;> omega
    · rw [cnt1_app, cnt1_one]
  · rw [cnt1_app, cnt1_one]
theorem walk_cnt (A B : List Int) : ∀ (n i j : Nat) (acc : List S5) (ad : List Int) (op : Bool), i ≤ A.length → j ≤ B.length → cnt1 acc = ad.length → acc.length ≤ i + j → ad.length ≤ j → okS acc (i + j) → A.length ≤ 12 → cnt1 (walk A B n i j acc ad op).1 = (walk A B n i j acc ad op).2.length ∧ (walk A B n i j acc ad op).1.length ≤ A.length + B.length ∧ (walk A B n i j acc ad op).2.length ≤ B.length ∧ okS (walk A B n i j acc ad op).1 (A.length + B.length) := by
  intro n
  induction n with
  | zero => exact fun i j acc ad op hi hj h1 h2 h3 h4 _ => ⟨h1, by show acc.length ≤ _; omega, by show ad.length ≤ _; omega, h4.mono (by omega)⟩
  | succ n ih =>
    intro i j acc ad op hi hj h1 h2 h3 h4 h5
    have n0 := cnt1_note acc op 0 i ad.length j
    have n1 := cnt1_note acc op 1 i ad.length j
    have l0 := note_len acc op 0 i ad.length j
    have l1 := note_len acc op 1 i ad.length j
    have el : (ad ++ [B.getD j 0]).length = ad.length + 1 := by rw [List.length_append, List.length_singleton]
    rw [if_neg (by omega)] at n0
    rw [if_pos rfl] at n1
    unfold walk
    split
    · split
      · rename_i c
        exact ih _ _ _ _ _ (by omega) (by omega) h1 (by omega) (by omega) (h4.mono (by omega)) h5
      · split
        · exact ih _ _ _ _ _ (by omega) hj (by omega) (by omega) h3 ((okS_note h4 (Or.inl rfl) ⟨by omega, by omega⟩).mono (by omega)) h5
        · exact ih _ _ _ _ _ hi (by omega) (by rw [el]; omega) (by omega) (by omega) ((okS_note h4 (Or.inr rfl) ⟨by omega, by omega⟩).mono (by omega)) h5
    · split
      · exact ih _ _ _ _ _ hi (by omega) (by rw [el]; omega) (by omega) (by omega) ((okS_note h4 (Or.inr rfl) ⟨by omega, by omega⟩).mono (by omega)) h5
      · exact ⟨h1, by show acc.length ≤ _; omega, by show ad.length ≤ _; omega, h4.mono (by omega)⟩
theorem delta_cnt {A B : List Int} (hA : A.length ≤ 12) : cnt1 (delta A B).1 = (delta A B).2.length ∧ (delta A B).1.length ≤ A.length + B.length ∧ (delta A B).2.length ≤ B.length ∧ okS (delta A B).1 (A.length + B.length) := walk_cnt A B _ 0 0 [] [] false (Nat.zero_le _) (Nat.zero_le _) rfl (by simp) (by simp) (fun s hs => by cases hs) hA
theorem encS_sum {ad : List Int} : ∀ (acc : List S5), (∀ s ∈ acc, 0 ≤ s.2.2.1) → ((acc.flatMap (encS ad)).length : Int) = 3 * acc.length + cnt1 acc
  | [], _ => rfl
  | s :: acc, h => by
    have ih := encS_sum (ad := ad) acc (fun x hx => h x (List.mem_cons_of_mem _ hx))
    have h0 := h s List.mem_cons_self
    have e1 : cnt1 (s :: acc) = (if s.1 = 1 then s.2.2.1 else 0) + cnt1 acc := by
      rw [← cnt1_one, ← cnt1_app]; rfl
    have e2 : ((encS ad s).length : Int) = 3 + (if s.1 = 1 then s.2.2.1 else 0) := by
      unfold encS
      rw [List.length_append]
      split
      · rw [List.length_map, List.length_range]; simp; omega
      · simp
    rw [List.flatMap_cons, List.length_append, List.length_cons, e1]
    omega
/-- a text's steps take at most 85 bytes -/
theorem encD_85 {A B : List Int} (hA : A.length ≤ 12) (hB : B.length ≤ 12) : (encD (delta A B)).length ≤ 85 := by
  obtain ⟨h1, h2, h3, h4⟩ := delta_cnt (A := A) (B := B) hA
  have := encS_sum (ad := (delta A B).2) (delta A B).1 (fun s hs => by have := (h4 s hs).2.2.1; omega)
  show ((delta A B).1.flatMap (encS (delta A B).2)).length + 1 ≤ 85
  omega
