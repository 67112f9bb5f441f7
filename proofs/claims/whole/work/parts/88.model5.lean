/-! The reference: a history told as bytes. -/
def pS (rs : List Rv) : List Int := rs.map (fun r => r.1)
def tS (rs : List Rv) : List (List Int) := rs.map (fun r => r.2.2.2)
theorem gD_mp {α β : Type} {f : α → β} {l : List α} {k : Nat} {a : α} {b : β} (hk : k < l.length) : (l.map f).getD k b = f (l.getD k a) := by
  rw [List.getD_eq_getElem?_getD, List.getD_eq_getElem?_getD, List.getElem?_map, List.getElem?_eq_getElem hk]; rfl
theorem pS_len (rs : List Rv) : (pS rs).length = rs.length := List.length_map _
theorem tS_len (rs : List Rv) : (tS rs).length = rs.length := List.length_map _
theorem tS_at {rs : List Rv} {k : Nat} (hk : k < rs.length) : (tS rs).getD k [] = (rs.getD k rv0).2.2.2 := gD_mp hk
theorem pS_at {rs : List Rv} {k : Nat} (hk : k < rs.length) : (pS rs).getD k 0 = (rs.getD k rv0).1 := gD_mp hk
/-- the revisions, in the reference -/
def cV (h : jm_H) (M : Nat) (rs : List Rv) : Prop := cP h M (pS rs) ∧ row h (M + 2) (rs.map (fun r => r.2.1)) ∧ row h (M + 3) (rs.map (fun r => r.2.2.1)) ∧ row h (M + 4) ((tS rs).map (fun t => (t.length : Int))) ∧ txs h (M + 5) (tS rs)
theorem cV.jq {h h' : jm_H} {M : Nat} {rs : List Rv} {ks S : List Nat} (c : cV h M rs) (p : jq M ks S h h') (h1 : 1 ∉ ks) (h2 : ∀ i, i < 6 → M + i ∉ S) : cV h' M rs := by
  obtain ⟨⟨c1, c2⟩, c3, c4, c5, c6⟩ := c
  exact ⟨⟨(p.2 M 1 (h2 0 (by omega)) (fun q => h1 q.2)).trans c1, c2.jq p (h2 1 (by omega)) (by omega)⟩, c3.jq p (h2 2 (by omega)) (by omega), c4.jq p (h2 3 (by omega)) (by omega), c5.jq p (h2 4 (by omega)) (by omega), c6.same (fun k => p.2 (M + 5) k (h2 5 (by omega)) (by omega))⟩
def mS (M : Nat) : List Nat := [M + 11, M + 12, M + 13, M + 14, M + 15, M + 16, M + 17, M + 23]
def mK : List Nat := [16, 18, 21, 32]
theorem cV_w {h h' : jm_H} {M : Nat} {rs : List Rv} (c : cV h M rs) (p : jq M mK (mS M) h h') : cV h' M rs := c.jq p (by decide) (fun i hi => by simp [mS]; omega)
theorem cdr.jq {h h' : jm_H} {M : Nat} {bs : List Int} {ks S : List Nat} (c : cdr h M bs) (p : jq M ks S h h') (h0 : M ∉ S) (h1 : 32 ∉ ks) (h2 : M + 23 ∉ S) : cdr h' M bs := ⟨(p.2 M 32 h0 (fun q => h1 q.2)).trans c.1, c.2.jq p h2 (by omega)⟩
theorem s48_1 {d M : Nat} {h0 : jm_H} {Q : jm_Q} {rs : List Rv} (hs : shM h0 M) (hc : cV h0 M rs) (l20 : rs.length ≤ 20) {bs : List Int} (hl : bs.length ≤ 10)
    (K : ∀ h l2, jq M mK (mS M) h0 h → cdr h M (bs ++ rs.flatMap hd3) → jm_W dh_pr (d + 1) 48 (65, [some (.inr (.inl M)), some (.inl (jz 0)), l2], [], h) Q) :
    ∀ (m k : Nat) (h : jm_H) (v1 : Int) (l2 : Option jm_V), k + m = rs.length → v1 = k → jq M mK (mS M) h0 h → cdr h M (bs ++ (rs.take k).flatMap hd3) → jm_W dh_pr (d + 1) 48 (15, [some (.inr (.inl M)), some (.inl (jz v1)), l2], [], h) Q := by
  have el := pS_len rs
  intro m
  induction m with
  | zero =>
    intro k h v1 l2 e1 e2 hf hcb
    have hs' := hs.js hf.1
    have hc' := cV_w hc hf
    refine r48_15 ⟨hs'.1, _, hc'.1.1, ⟨by omega, by omega⟩, ⟨by omega, by omega⟩, fun _ => K h _ hf ?_, fun q => absurd q (by omega)⟩
    rw [List.take_of_length_le (by omega)] at hcb
    exact hcb
  | succ m ih =>
    intro k h v1 l2 e1 e2 hf hcb
    have kk : k < rs.length := by omega
    have ev : v1.toNat = k := by omega
    have ki : jzi v1 20 := ⟨by omega, by omega, by omega⟩
    have lens : (bs ++ (rs.take k).flatMap hd3).length ≤ 70 := by
      have := fm_len hd3 3 (rs.take k) (fun s hs => Nat.le_refl 3)
      rw [List.length_take] at this
      rw [List.length_append]
      omega
    have up : ∀ {h1 h2 : jm_H}, jq M [32] [M + 23] h1 h2 → jq M mK (mS M) h1 h2 := fun p => p.mono (by decide) (by simp [mS])
    have hs1 := hs.js hf.1
    have hc1 := cV_w hc hf
    obtain ⟨f0, g0, n0⟩ := hs1.f 2 1 20 (by decide)
    refine r48_15 ⟨hs1.1, _, hc1.1.1, ⟨by omega, by omega⟩, ⟨by omega, by omega⟩, fun q => absurd q (by omega), fun _ => ⟨_, f0, g0, _, n0, ki, (rs.getD k rv0).1, by rw [ev, hc1.1.2 k (by omega), pS_at kk], jm_callV (s46 hs1 hcb (by omega)) ?_⟩⟩
    rintro h2 ⟨hf2, hcb2⟩
    have F2 := hf.trans (up hf2)
    have hs2 := hs.js F2.1
    have hc2 := cV_w hc F2
    obtain ⟨f1, g1, n1⟩ := hs2.f 3 2 20 (by decide)
    refine r48_35 ⟨hs2.1, _, f1, g1, _, n1, ki, (rs.getD k rv0).2.1, by rw [ev, hc2.2.1 k (by rw [List.length_map]; exact kk), gD_mp kk], jm_callV (s46 hs2 hcb2 (by simp only [List.length_append, List.length_singleton] at lens ⊢; omega)) ?_⟩
    rintro h3 ⟨hf3, hcb3⟩
    have F3 := F2.trans (up hf3)
    have hs3 := hs.js F3.1
    have hc3 := cV_w hc F3
    obtain ⟨f2, g2, n2⟩ := hs3.f 4 3 20 (by decide)
    refine r48_45 ⟨hs3.1, _, f2, g2, _, n2, ki, (rs.getD k rv0).2.2.1, by rw [ev, hc3.2.2.1 k (by rw [List.length_map]; exact kk), gD_mp kk], jm_callV (s46 hs3 hcb3 (by simp only [List.length_append, List.length_singleton] at lens ⊢; omega)) ?_⟩
    rintro h4 ⟨hf4, hcb4⟩
    refine r48_57 (ih (k + 1) h4 _ _ (by omega) (by omega) (F3.trans (up hf4)) (hcb4.app ?_))
    rw [take_snoc' (d := rv0) kk, fm_snoc, hd3]
    simp only [List.append_assoc, List.cons_append, List.nil_append]
theorem s48_t {d M : Nat} {h0 : jm_H} {Q : jm_Q} {rs : List Rv} (hs : shM h0 M) (hc : cV h0 M rs) (l20 : rs.length ≤ 20) {k : Nat} (kk : k < rs.length) {v1 : Int} (e1 : v1 = k) {X : List Int} (hl : X.length + 20 < 2400)
    (K : ∀ h v2, jq M mK (mS M) h0 h → cdr h M (X ++ (rs.getD k rv0).2.2.2) → jm_W dh_pr (d + 1) 48 (65, [some (.inr (.inl M)), some (.inl (jz (v1 + 1))), some (.inl (jz v2))], [], h) Q) :
    ∀ (m j : Nat) (h : jm_H) (v2 : Int), j + m = (rs.getD k rv0).2.2.2.length → v2 = j → jq M mK (mS M) h0 h → cdr h M (X ++ (rs.getD k rv0).2.2.2.take j) → jm_W dh_pr (d + 1) 48 (93, [some (.inr (.inl M)), some (.inl (jz v1)), some (.inl (jz v2))], [], h) Q := by
  have t12 : (rs.getD k rv0).2.2.2.length ≤ 12 := by
    have := (hc.2.2.2.2 k (by rw [tS_len]; exact kk)).1
    rwa [tS_at kk] at this
  have ev : v1.toNat = k := by omega
  have ki : jzi v1 20 := ⟨by omega, by omega, by omega⟩
  have len : ∀ {h : jm_H}, cV h M rs → jm_I h (M + 4) v1.toNat = jz (rs.getD k rv0).2.2.2.length := fun c => by
    rw [ev, c.2.2.2.1 k (by rw [List.length_map, tS_len]; exact kk), gD_mp (a := []) (by rw [tS_len]; exact kk), tS_at kk]
  intro m
  induction m with
  | zero =>
    intro j h v2 e e2 hf hcb
    have hs' := hs.js hf.1
    have hc' := cV_w hc hf
    obtain ⟨f1, g1, n1⟩ := hs'.f 5 4 20 (by decide)
    refine r48_93 ⟨hs'.1, _, f1, g1, _, n1, ki, _, len hc', ⟨by omega, by omega⟩, ⟨by omega, by omega⟩, fun _ => K h _ hf ?_, fun q => absurd q (by omega)⟩
    rw [List.take_of_length_le (by omega)] at hcb
    exact hcb
  | succ m ih =>
    intro j h v2 e e2 hf hcb
    have hs' := hs.js hf.1
    have hc' := cV_w hc hf
    obtain ⟨f1, g1, n1⟩ := hs'.f 5 4 20 (by decide)
    obtain ⟨f2, g2, n2⟩ := hs'.f 6 5 240 (by decide)
    refine r48_93 ⟨hs'.1, _, f1, g1, _, n1, ki, _, len hc', ⟨by omega, by omega⟩, ⟨by omega, by omega⟩, fun q => absurd q (by omega), fun _ => ⟨_, f2, g2, _, n2, ⟨by omega, by omega, by omega⟩, (rs.getD k rv0).2.2.2.getD j 0, ?_, jm_callV (s46 hs' hcb (by rw [List.length_append, List.length_take]; omega)) ?_⟩⟩
    · have := (hc'.2.2.2.2 k (by rw [tS_len]; exact kk)).2 j (by rw [tS_at kk]; omega)
      rw [show (12 * v1 + v2).toNat = 12 * k + j by omega, this, tS_at kk]
    · rintro h2 ⟨hf2, hcb2⟩
      refine r48_118 (ih (j + 1) h2 _ (by omega) (by omega) (hf.trans (hf2.mono (by decide) (by simp [mS]))) (hcb2.app ?_))
      rw [take_snoc (by omega), ← List.append_assoc]
