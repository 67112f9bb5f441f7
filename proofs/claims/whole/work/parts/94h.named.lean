/-! Names, on both sides. -/
theorem s99 {d H : Nat} {h : jm_H} {rs : List Rv} {x : Nat} {k : Int} (hs : shH h H) (hc : cH h H rs (sf (pS rs))) (hv : vp (pS rs)) (hx : x < rs.length) (hk : jR k) : jm_E dh_pr (d + 2) 99 [.inr (.inl H), .inl (jz (x : Int)), .inl (jz k)] h (fun o h' => o = .inl (some (.inl (jz (nmN (pS rs) x k)))) ∧ h' = h) := by
  have l20 := hc.2.1
  have el := pS_len rs
  have hg := gfP_all _ _ rfl hv
  have hb := nl_bd hv hg
  have CK : ∀ f, f < rs.length → cR h (H + 2 + 3 * f) (rs.getD f rv0) (fsK (pS rs) f) := fun f hf => hc.2.2.2 f hf
  have L : ∀ (f : Nat) (v4 : Int), f < rs.length → 0 ≤ v4 → v4 + f ≤ 19 → 0 ≤ k → k < (fsK (pS rs) f).2.2.2.2.2 → nmN (pS rs) x k = nmN (pS rs) f k → jm_W dh_pr (d + 1) 99 (24, [some (.inr (.inl H)), some (.inl (jz (x : Int))), some (.inl (jz k)), some (.inr (.inl (H + 2 + 3 * f))), some (.inl (jz v4))], [], h) (fun o h' => o = .inl (some (.inl (jz (nmN (pS rs) x k)))) ∧ h' = h) := by
    intro f
    induction f using Nat.strongRecOn with
    | _ f ih =>
      intro v4 hf h4 h5 h0 hkl he
      have sk := hs.2.2.2 f (by omega)
      obtain ⟨⟨c1, c2, c3, c4, c5, c6, c7, c8, c9⟩, -⟩ := CK f hf
      have bd := hb f (by omega)
      refine r99_24 ⟨⟨by omega, by omega⟩, fun q => absurd q (by omega), fun _ => ⟨sk.2.1, _, c9, hk, ⟨by omega, by omega⟩, fun q => ⟨⟨by omega, by omega⟩, fun q' => ⟨_, c7, ?_, rfl⟩, fun q' => ⟨_, c8, ?_, rfl⟩⟩, fun q => ?_⟩⟩
      · rw [he, nmN_end hv hg (by omega) h0 hkl q, if_neg q']
      · rw [he, nmN_end hv hg (by omega) h0 hkl q, if_pos q']
      · obtain ⟨g1, g2, g3⟩ := nmN_fork hv hg (by omega) h0 q
        refine ⟨_, c6, hs.1, jm_callI (s96 hs.1 hc.1 l20 ⟨by omega, by omega⟩) ?_⟩
        rintro z h' ⟨rfl, ⟨rfl, q3⟩ | ⟨rfl, q3⟩⟩
        · have sk2 := hs.2.2.2 (fsK (pS rs) f).2.2.1.toNat (by omega)
          exact r99_49 ⟨⟨by omega, by omega⟩, fun e => absurd e (by omega), fun _ => ⟨hs.1, _, hs.2.1, sk.2.1, _, c6, hs.2.2.1.1, _, hs.2.2.1.2, ⟨by omega, by omega, by omega⟩, H + 2 + 3 * (fsK (pS rs) f).2.2.1.toNat, sk2.1, ih _ (by omega) _ (by omega) (by omega) (by omega) h0 g3 (he.trans g2)⟩⟩
        · exact absurd ⟨g1.1, by omega⟩ q3
  have sk := hs.2.2.2 x (by omega)
  obtain ⟨⟨c1, c2, c3, c4, c5, c6, c7, c8, c9⟩, -⟩ := CK x hx
  have bd := hb x (by omega)
  have nl := nm_len hv hg x (by omega)
  refine e99 (r99_0 ⟨hs.1, _, hs.2.1, hs.2.2.1.1, _, hs.2.2.1.2, ⟨by omega, by omega, by omega⟩, H + 2 + 3 * x, sk.1, hk, fun q => ⟨?_, rfl⟩, fun q => ⟨sk.2.1, _, c9, ⟨by omega, by omega⟩, fun q' => L x 0 hx (by omega) (by omega) q q' rfl, fun q' => ⟨?_, rfl⟩⟩⟩)
  · rw [nmN, if_neg (by omega)]
  · rw [nmN, if_neg (by omega)]
theorem cnt_low {ps : List Int} (hv : vp ps) {p : Nat} (hp : p < ps.length) : cntE (p : Int) (ps.take (p + 1)) = 0 := by
  refine cntE_zero (fun x hx => ?_)
  obtain ⟨i, hi, rfl⟩ := List.getElem_of_mem hx
  rw [List.length_take] at hi
  rw [List.getElem_take]
  have := hv i (by omega)
  rw [List.getD_eq_getElem?_getD, List.getElem?_eq_getElem (show i < ps.length by omega)] at this
  simp only [Option.getD_some] at this
  by_cases e : i = 0
  · have := this.1 e
    omega
  · have := this.2 (by omega)
    omega
theorem s39 {d M : Nat} {h : jm_H} {ps : List Int} {r : Nat} (hs : shM h M) (hp : row h (M + 1) ps) (l20 : ps.length ≤ 20) (hv : vp ps) (hr : r < ps.length) (h0 : 0 < r) : jm_E dh_pr (d + 1) 39 [.inr (.inl M), .inl (jz (r : Int))] h (fun o h' => ∃ z : Int, o = .inl (some (.inl (jz z))) ∧ z = (cntE (ps.getD r 0) (ps.take r) : Int) ∧ h' = h) := by
  obtain ⟨f1, g1, n1⟩ := hs.f 2 1 20 (by decide)
  have rp := hv.rng l20
  have pv := (hv r hr).2 h0
  have L : ∀ (n k : Nat) (v2 v3 : Int), k + n = r → v3 = k → v2 = (cntE (ps.getD r 0) (ps.take k) : Int) → jm_W dh_pr d 39 (11, [some (.inr (.inl M)), some (.inl (jz (r : Int))), some (.inl (jz v2)), some (.inl (jz v3))], [], h) (fun o h' => ∃ z : Int, o = .inl (some (.inl (jz z))) ∧ z = (cntE (ps.getD r 0) (ps.take r) : Int) ∧ h' = h) := by
    intro n
    induction n with
    | zero =>
      intro k v2 v3 e e3 e2
      exact r39_11 ⟨⟨by omega, by omega⟩, ⟨by omega, by omega⟩, fun _ => ⟨_, rfl, by rw [e2, show k = r by omega], rfl⟩, fun q => absurd q (by omega)⟩
    | succ n ih =>
      intro k v2 v3 e e3 e2
      have kk : k < ps.length := by omega
      have st : cntE (ps.getD r 0) (ps.take (k + 1)) = cntE (ps.getD r 0) (ps.take k) + (if ps.getD k 0 = ps.getD r 0 then 1 else 0) := by
        rw [take_snoc kk, cntE_app, cntE_one]
      refine r39_11 ⟨⟨by omega, by omega⟩, ⟨by omega, by omega⟩, fun q => absurd q (by omega), fun _ => ⟨hs.1, _, f1, g1, _, n1, ⟨by omega, by omega, by omega⟩, ps.getD k 0, by rw [show v3.toNat = k by omega]; exact hp k kk, ⟨by omega, by omega, by omega⟩, ps.getD r 0, by rw [show (r : Int).toNat = r by omega]; exact hp r hr, rp.at _, rp.at _, fun q => ?_, fun q => ?_⟩⟩
      · refine ih (k + 1) _ _ (by omega) (by omega) ?_
        rw [st, if_neg q, e2]; omega
      · refine ih (k + 1) _ _ (by omega) (by omega) ?_
        rw [st, if_pos q, e2]; omega
  refine e39 (r39_0 ⟨hs.1, _, f1, g1, _, n1, ⟨by omega, by omega, by omega⟩, ps.getD r 0, by rw [show (r : Int).toNat = r by omega]; exact hp r hr, ?_⟩)
  refine L (r - ((ps.getD r 0).toNat + 1)) ((ps.getD r 0).toNat + 1) _ _ (by omega) (by omega) ?_
  have := cnt_low hv (show (ps.getD r 0).toNat < ps.length by omega)
  rw [show (((ps.getD r 0).toNat : Nat) : Int) = ps.getD r 0 by omega] at this
  rw [this]; rfl
/-- the names of the first r revisions, in the reference -/
def nmr (h : jm_H) (M : Nat) (ps : List Int) (r : Nat) : Prop := ∀ k, k < r → jm_I h (M + 6) k = jz ((nm ps k).length : Int) ∧ ∀ i, i < (nm ps k).length → jm_I h (M + 7) (42 * k + i) = jz ((nm ps k).getD i 0)
theorem nmr.same {h h' : jm_H} {M r : Nat} {ps : List Int} (n : nmr h M ps r) (e1 : ∀ k, jm_I h' (M + 6) k = jm_I h (M + 6) k) (e2 : ∀ k, jm_I h' (M + 7) k = jm_I h (M + 7) k) : nmr h' M ps r := fun k hk => ⟨(e1 _).trans (n k hk).1, fun i hi => (e2 _).trans ((n k hk).2 i hi)⟩
theorem nmr_jq {h h' : jm_H} {M r : Nat} {ps : List Int} {ks S : List Nat} (n : nmr h M ps r) (p : jq M ks S h h') (h6 : M + 6 ∉ S) (h7 : M + 7 ∉ S) : nmr h' M ps r := n.same (fun k => p.2 _ k h6 (by omega)) (fun k => p.2 _ k h7 (by omega))
theorem nmr_push {h h' : jm_H} {M r : Nat} {ps : List Int} (n : nmr h M ps r) (hb : ∀ k, k < r → (nm ps k).length ≤ 42) (e1 : ∀ k, k < r → jm_I h' (M + 6) k = jm_I h (M + 6) k) (e2 : ∀ k i, k < r → i < 42 → jm_I h' (M + 7) (42 * k + i) = jm_I h (M + 7) (42 * k + i)) (e3 : jm_I h' (M + 6) r = jz ((nm ps r).length : Int)) (e4 : ∀ i, i < (nm ps r).length → jm_I h' (M + 7) (42 * r + i) = jz ((nm ps r).getD i 0)) : nmr h' M ps (r + 1) := by
  intro k hk
  by_cases e : k = r
  · subst e; exact ⟨e3, e4⟩
  · have := hb k (by omega)
    exact ⟨(e1 k (by omega)).trans (n k (by omega)).1, fun i hi => (e2 k i (by omega) (by omega)).trans ((n k (by omega)).2 i hi)⟩
theorem s40 {d M : Nat} {h : jm_H} {ps : List Int} {r : Nat} (hs : shM h M) (hp : row h (M + 1) ps) (l20 : ps.length ≤ 20) (hv : vp ps) (hr : r < ps.length) (hn : nmr h M ps r) : jm_E dh_pr (d + 2) 40 [.inr (.inl M), .inl (jz (r : Int))] h (fun o h' => o = .inl none ∧ jq M [] [M + 6, M + 7] h h' ∧ nmr h' M ps (r + 1)) := by
  have hg := gfP_all _ _ rfl hv
  have nl : ∀ k, k < ps.length → 2 ≤ (nm ps k).length ∧ (nm ps k).length ≤ 2 + 2 * k := fun k hk => by
    have a := nm_len hv hg k hk
    have b := nl_bd hv hg k hk
    omega
  have hb : ∀ k, k < r → (nm ps k).length ≤ 42 := fun k hk => by have := nl k (by omega); omega
  obtain ⟨f1, g1, n1⟩ := hs.f 2 1 20 (by decide)
  obtain ⟨f6, g6, n6⟩ := hs.f 7 6 20 (by decide)
  obtain ⟨f7, g7, n7⟩ := hs.f 8 7 840 (by decide)
  have er : (r : Int).toNat = r := by omega
  have rd : jm_I h (M + 1) (r : Int).toNat = jz (ps.getD r 0) := by rw [er]; exact hp r hr
  have ri : jzi (r : Int) 20 := ⟨by omega, by omega, by omega⟩
  by_cases e0 : r = 0
  · subst e0
    have p1 : ps.getD 0 0 = -1 := (hv 0 hr).1 rfl
    have m7 : M + 7 ∈ [M + 6, M + 7] := by simp
    have m6 : M + 6 ∈ [M + 6, M + 7] := by simp
    have F1 : jq M [] [M + 6, M + 7] h (jm_sI h (M + 7) (42 * ((0 : Nat) : Int) + 0).toNat (jz 1)) := (jq.refl _ _ _ h).sI m7
    have F2 := F1.sI (k := (42 * ((0 : Nat) : Int) + (0 + 1)).toNat) (x := jz 1) m7
    have s1 := hs.js F1.1
    have s2 := hs.js F2.1
    obtain ⟨f71, g71, n71⟩ := s1.f 8 7 840 (by decide)
    obtain ⟨f62, g62, n62⟩ := s2.f 7 6 20 (by decide)
    refine e40 (r40_0 ⟨hs.1, _, f1, g1, _, n1, ri, ps.getD 0 0, rd, ⟨by omega, by omega⟩, fun q => absurd q (by omega), fun _ => ?_⟩)
    refine r40_25 ⟨⟨by omega, by omega⟩, ⟨by omega, by omega⟩, fun q => absurd q (by omega), fun _ => ⟨hs.1, _, f7, ⟨by omega, by omega⟩, fun q => absurd q (by omega), fun _ => ⟨g7, _, n7, ⟨by omega, by omega, by omega⟩, ?_⟩⟩⟩
    refine r40_25 ⟨⟨by omega, by omega⟩, ⟨by omega, by omega⟩, fun q => absurd q (by omega), fun _ => ⟨s1.1, _, f71, ⟨by omega, by omega⟩, fun q => absurd q (by omega), fun _ => ⟨g71, _, n71, ⟨by omega, by omega, by omega⟩, ?_⟩⟩⟩
    refine r40_25 ⟨⟨by omega, by omega⟩, ⟨by omega, by omega⟩, fun _ => ⟨⟨by omega, by omega⟩, fun q => absurd q (by omega), fun _ => ⟨fun _ => ⟨fun _ => ⟨s2.1, _, f62, g62, _, n62, ri, rfl, F2.sI m6, ?_⟩, fun q => absurd q (by omega)⟩, fun q => absurd q (by omega)⟩⟩, fun q => absurd q (by omega)⟩
    intro k hk
    have : k = 0 := by omega
    subst this
    rw [nm_0 hv hg hr]
    refine ⟨?_, fun i hi => ?_⟩
    · rw [er]; exact jr_I_self
    · have hi' : i < 2 := hi
      rw [off1 (by omega), jr_I_sI]
      by_cases e : i = 1
      · subst e; rw [if_pos ⟨rfl, by omega⟩]; rfl
      · have : i = 0 := by omega
        subst this
        rw [if_neg (by omega), jr_I_sI, if_pos ⟨rfl, by omega⟩]; rfl
  · have h0 : 0 < r := by omega
    have pv := (hv r hr).2 h0
    have hP := hn (ps.getD r 0).toNat (by omega)
    have lP := nl (ps.getD r 0).toNat (by omega)
    have lP2 : (nm ps (ps.getD r 0).toNat).length ≤ 38 := by omega
    obtain ⟨p, ep⟩ : ∃ p : Nat, ps.getD r 0 = (p : Int) := ⟨(ps.getD r 0).toNat, by omega⟩
    have nf := fun c => nm_first hv hg hr h0 c
    have nb := fun c => nm_branch hv hg hr h0 c
    have cz := s39 (d := d) (h := h) hs hp l20 hv hr h0
    rw [ep] at rd pv hP lP lP2 nf nb
    have e39' : cntE (ps.getD r 0) (ps.take r) = cntE (p : Int) (ps.take r) := by rw [ep]
    rw [show ((p : Int)).toNat = p by omega] at hP lP lP2 nf nb
    generalize nm ps p = P at *
    have L : ∀ (n j : Nat) (v4 : Int) (h1 : jm_H), j + n = P.length → v4 = j → jq M [] [M + 6, M + 7] h h1 → nmr h1 M ps r → (∀ i, i < P.length → jm_I h1 (M + 7) (42 * p + i) = jz (P.getD i 0)) → (∀ i, i < j → jm_I h1 (M + 7) (42 * r + i) = jz (P.getD i 0)) → jm_W dh_pr (d + 1) 40 (25, [some (.inr (.inl M)), some (.inl (jz (r : Int))), some (.inl (jz (p : Int))), some (.inl (jz (P.length : Int))), some (.inl (jz v4))], [], h1) (fun o h' => o = .inl none ∧ jq M [] [M + 6, M + 7] h h' ∧ nmr h' M ps (r + 1)) := by
      intro n
      induction n with
      | zero =>
        intro j v4 h1 e e4 hf a1 a2 a3
        have hs1 := hs.js hf.1
        obtain ⟨f6, g6, n6⟩ := hs1.f 7 6 20 (by decide)
        obtain ⟨f7, g7, n7⟩ := hs1.f 8 7 840 (by decide)
        refine r40_25 ⟨⟨by omega, by omega⟩, ⟨by omega, by omega⟩, fun _ => ⟨⟨by omega, by omega⟩, fun _ => ⟨hs1.1, jm_callI (s39 hs1 (hp.jq hf (by simp) (by omega)) l20 hv hr h0) ?_⟩, fun q => absurd q (by omega)⟩, fun q => absurd q (by omega)⟩
        rintro z h2 ⟨rfl, rfl⟩
        rw [e39']
        have cl : cntE (p : Int) (ps.take r) ≤ 20 := by
          have : ∀ l : List Int, cntE (p : Int) l ≤ l.length := by
            intro l
            induction l with
            | nil => exact Nat.le_refl 0
            | cons x l ih =>
              show (if x = (p : Int) then 1 else 0) + cntE (p : Int) l ≤ l.length + 1
              split <;> omega
          have := this (ps.take r)
          rw [List.length_take] at this
          omega
        by_cases c : cntE (p : Int) (ps.take r) = 0
        · obtain ⟨q1, q2⟩ := nf c
          refine r40_82 ⟨⟨by omega, by omega⟩, fun q => absurd q (by omega), fun _ => ⟨⟨by omega, by omega⟩, fun q => absurd q (by omega), fun _ => ⟨hs1.1, _, f7, g7, _, n7, ⟨by omega, by omega, by omega⟩, P.getD (P.length - 1) 0, ?_, fun _ => ⟨_, f6, g6, _, n6, ri, rfl, (hf.sI (by simp)).sI (by simp), ?_⟩, fun q => absurd q (by omega)⟩⟩⟩
          · rw [show (42 * (r : Int) + (P.length : Int) - 1).toNat = 42 * r + (P.length - 1) by omega]
            exact a3 _ (by omega)
          · refine nmr_push a1 hb (fun k hk => ?_) (fun k i hk hi => ?_) ?_ (fun i hi => ?_)
            · rw [jr_I_sI, if_neg (by omega), off1 (by omega)]
            · rw [off1 (by omega), jr_I_sI, if_neg (by omega)]
            · rw [er, jr_I_self, q1]
            · rw [q1] at hi
              rw [off1 (by omega), jr_I_sI, q2 i (by omega), q1]
              by_cases e2 : i = P.length - 1
              · rw [if_pos ⟨rfl, by omega⟩, if_pos e2, e2]
              · rw [if_neg (by omega), if_neg e2]; exact a3 i (by omega)
        · have q1 := nb c
          refine r40_82 ⟨⟨by omega, by omega⟩, fun q => absurd q (by omega), fun _ => ⟨⟨by omega, by omega⟩, fun _ => ⟨fun q => absurd q (by omega), fun _ => ⟨hs1.1, _, f7, g7, _, n7, ⟨by omega, by omega, by omega⟩, ⟨by omega, by omega, by omega⟩, _, f6, g6, _, n6, ri, rfl, ((hf.sI (by simp)).sI (by simp)).sI (by simp), ?_⟩⟩, fun q => absurd q (by omega)⟩⟩
          have q2 : (nm ps r).length = P.length + 2 := by rw [q1, List.length_append]; rfl
          refine nmr_push a1 hb (fun k hk => ?_) (fun k i hk hi => ?_) ?_ (fun i hi => ?_)
          · rw [jr_I_sI, if_neg (by omega), off1 (by omega), off1 (by omega)]
          · rw [off1 (by omega), jr_I_sI, if_neg (by omega), jr_I_sI, if_neg (by omega)]
          · rw [er, jr_I_self, q2]; rfl
          · rw [q2] at hi
            rw [off1 (by omega), jr_I_sI, q1]
            by_cases e2 : i = P.length + 1
            · rw [if_pos ⟨rfl, by omega⟩, getD_app_r (by omega), show i - P.length = 1 by omega]; rfl
            · rw [if_neg (by omega), jr_I_sI]
              by_cases e3 : i = P.length
              · rw [if_pos ⟨rfl, by omega⟩, getD_app_r (by omega), show i - P.length = 0 by omega]; rfl
              · rw [if_neg (by omega), getD_app_l (by omega)]; exact a3 i (by omega)
      | succ n ih =>
        intro j v4 h1 e e4 hf a1 a2 a3
        have hs1 := hs.js hf.1
        obtain ⟨f7, g7, n7⟩ := hs1.f 8 7 840 (by decide)
        have m7 : M + 7 ∈ [M + 6, M + 7] := by simp
        refine r40_25 ⟨⟨by omega, by omega⟩, ⟨by omega, by omega⟩, fun q => absurd q (by omega), fun _ => ⟨hs1.1, _, f7, ⟨by omega, by omega⟩, fun _ => ⟨g7, _, n7, ⟨by omega, by omega, by omega⟩, P.getD j 0, ?_, ⟨by omega, by omega, by omega⟩, ih (j + 1) _ _ (by omega) (by omega) (hf.sI m7) ?_ (fun i hi => ?_) (fun i hi => ?_)⟩, fun q => absurd q (by omega)⟩⟩
        · rw [show (42 * (p : Int) + v4).toNat = 42 * p + j by omega]; exact a2 j (by omega)
        · refine fun k hk => ⟨?_, fun i hi => ?_⟩
          · rw [off1 (by omega)]; exact (a1 k hk).1
          · have := hb k hk
            rw [jr_I_sI, if_neg (by omega)]; exact (a1 k hk).2 i hi
        · rw [jr_I_sI, if_neg (by omega)]; exact a2 i hi
        · rw [jr_I_sI]
          by_cases e2 : i = j
          · rw [if_pos ⟨rfl, by omega⟩, e2]
          · rw [if_neg (by omega)]; exact a3 i (by omega)
    refine e40 (r40_0 ⟨hs.1, _, f1, g1, _, n1, ri, (p : Int), rd, ⟨by omega, by omega⟩, fun _ => ⟨_, f6, g6, _, n6, ⟨by omega, by omega, by omega⟩, (P.length : Int), ?_, L P.length 0 0 h (by omega) (by omega) (jq.refl _ _ _ h) hn hP.2 (fun i hi => absurd hi (Nat.not_lt_zero i))⟩, fun q => absurd q (by omega)⟩)
    rw [show (p : Int).toNat = p by omega]; exact hP.1
