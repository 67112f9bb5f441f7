/-! The common origin, on both sides. -/
def cmn (ps : List Int) : Nat → Nat → Nat → Nat
  | 0, a, _ => a
  | n + 1, a, b => if a = b then a else if b < a then cmn ps n (ps.getD a 0).toNat b else cmn ps n a (ps.getD b 0).toNat
theorem s100 {d H : Nat} {h : jm_H} {rs : List Rv} {fs : List FS} {x y : Nat} (hs : shH h H) (hc : cH h H rs fs) (hv : vp (pS rs)) (hx : x < rs.length) (hy : y < rs.length) : jm_E dh_pr (d + 1) 100 [.inr (.inl H), .inl (jz (x : Int)), .inl (jz (y : Int))] h (fun o h' => o = .inl (some (.inl (jz (cmn (pS rs) (x + y) x y : Nat)))) ∧ h' = h) := by
  have l20 := hc.2.1
  have el := pS_len rs
  have L : ∀ (n a b : Nat) (v3 v4 v5 : Int), v3 = a → v4 = b → a < rs.length → b < rs.length → a + b ≤ n → 0 ≤ v5 → v5 + (a + b) ≤ 39 → jm_W dh_pr d 100 (8, [some (.inr (.inl H)), some (.inl (jz (x : Int))), some (.inl (jz (y : Int))), some (.inl (jz v3)), some (.inl (jz v4)), some (.inl (jz v5))], [], h) (fun o h' => o = .inl (some (.inl (jz (cmn (pS rs) n a b : Nat)))) ∧ h' = h) := by
    intro n
    induction n with
    | zero =>
      intro a b v3 v4 v5 e3 e4 ha hb hn h0 h5
      refine r100_8 ⟨⟨by omega, by omega⟩, fun q => absurd q (by omega), fun _ => ⟨⟨by omega, by omega⟩, ⟨by omega, by omega⟩, fun _ => ⟨by rw [e3]; rfl, rfl⟩, fun q => absurd q (by omega)⟩⟩
    | succ n ih =>
      intro a b v3 v4 v5 e3 e4 ha hb hn h0 h5
      refine r100_8 ⟨⟨by omega, by omega⟩, fun q => absurd q (by omega), fun _ => ⟨⟨by omega, by omega⟩, ⟨by omega, by omega⟩, fun q => ⟨?_, rfl⟩, fun q => ⟨fun q' => ?_, fun q' => ?_⟩⟩⟩
      · rw [cmn, if_pos (by omega), e3]
      · have sk := hs.2.2.2 b (by omega)
        have ck := hc.2.2.2 b hb
        have pv := (hv b (by omega)).2 (by omega)
        rw [pS_at hb] at pv
        refine ⟨hs.1, _, hs.2.1, hs.2.2.1.1, _, hs.2.2.1.2, ⟨by omega, by omega, by omega⟩, H + 2 + 3 * b, by rw [show v4.toNat = b by omega]; exact sk.1, sk.2.1, _, ck.1.1, ?_⟩
        rw [cmn, if_neg (by omega), if_neg (by omega), pS_at hb]
        exact ih a _ _ _ _ e3 (by omega) ha (by omega) (by omega) (by omega) (by omega)
      · have sk := hs.2.2.2 a (by omega)
        have ck := hc.2.2.2 a ha
        have pv := (hv a (by omega)).2 (by omega)
        rw [pS_at ha] at pv
        refine ⟨hs.1, _, hs.2.1, hs.2.2.1.1, _, hs.2.2.1.2, ⟨by omega, by omega, by omega⟩, H + 2 + 3 * a, by rw [show v3.toNat = a by omega]; exact sk.1, sk.2.1, _, ck.1.1, ?_⟩
        rw [cmn, if_neg (by omega), if_pos (by omega), pS_at ha]
        exact ih _ b _ _ _ (by omega) e4 (by omega) hb (by omega) (by omega) (by omega)
  exact e100 (r100_0 (L (x + y) x y _ _ _ rfl rfl hx hy (Nat.le_refl _) (by omega) (by omega)))
theorem s74_l {d M : Nat} {h : jm_H} {ps : List Int} {l1 l2 : Option jm_V} (hs : shM h M) (hp : row h (M + 1) ps) (l20 : ps.length ≤ 20) (hv : vp ps) : ∀ (n a b : Nat) (v3 v4 : Int), v3 = a → v4 = b → a < ps.length → b < ps.length → a + b ≤ n → jm_W dh_pr d 74 (39, [some (.inr (.inl M)), l1, l2, some (.inl (jz v3)), some (.inl (jz v4))], [], h) (fun o h' => o = .inl (some (.inl (jz (cmn ps n a b : Nat)))) ∧ h' = h) := by
  obtain ⟨f1, g1, n1⟩ := hs.f 2 1 20 (by decide)
  intro n
  induction n with
  | zero =>
    intro a b v3 v4 e3 e4 ha hb hn
    exact r74_39 ⟨⟨by omega, by omega⟩, ⟨by omega, by omega⟩, fun _ => ⟨by rw [e3]; rfl, rfl⟩, fun q => absurd q (by omega)⟩
  | succ n ih =>
    intro a b v3 v4 e3 e4 ha hb hn
    refine r74_39 ⟨⟨by omega, by omega⟩, ⟨by omega, by omega⟩, fun q => ⟨?_, rfl⟩, fun q => ⟨fun q' => ?_, fun q' => ?_⟩⟩
    · rw [cmn, if_pos (by omega), e3]
    · have pv := (hv b hb).2 (by omega)
      refine ⟨hs.1, _, f1, g1, _, n1, ⟨by omega, by omega, by omega⟩, ps.getD b 0, by rw [show v4.toNat = b by omega]; exact hp b hb, ?_⟩
      rw [cmn, if_neg (by omega), if_neg (by omega)]
      exact ih a _ _ _ e3 (by omega) ha (by omega) (by omega)
    · have pv := (hv a ha).2 (by omega)
      refine ⟨hs.1, _, f1, g1, _, n1, ⟨by omega, by omega, by omega⟩, ps.getD a 0, by rw [show v3.toNat = a by omega]; exact hp a ha, ?_⟩
      rw [cmn, if_neg (by omega), if_pos (by omega)]
      exact ih _ b _ _ (by omega) e4 (by omega) hb (by omega)
