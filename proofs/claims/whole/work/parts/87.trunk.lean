/-! The reference: the trunk and its head. -/
theorem trunk_le {ps : List Int} (hv : vp ps) (hP : sfP ps) : ∀ r k, k < r → r < ps.length → (fsK ps k).2.2.1 = -1 → (fsK ps r).2.2.1 = -1 → (fsK ps k).1 ≠ -1 ∧ (fsK ps k).1 ≤ r := by
  intro r
  induction r using Nat.strongRecOn with
  | _ r ih =>
    intro k hk hr f1 f2
    obtain ⟨g1, g2⟩ := hP.2.2.2.1 r (by omega) hr f2
    obtain ⟨p1, p2⟩ := (hv r hr).2 (by omega)
    by_cases e : (ps.getD r 0).toNat = k
    · rw [e] at g2
      rw [g2]; omega
    · by_cases e2 : k < (ps.getD r 0).toNat
      · have := ih _ (by omega) k e2 (by omega) f1 g1
        omega
      · have := ih k hk (ps.getD r 0).toNat (by omega) (by omega) g1 f1
        rw [g2] at this
        omega
/-- the parents, in the reference -/
def cP (h : jm_H) (M : Nat) (ps : List Int) : Prop := jm_I h M 1 = jz ps.length ∧ row h (M + 1) ps
theorem vp.rng {ps : List Int} (hv : vp ps) (l20 : ps.length ≤ 20) : rng ps := by
  intro v hm
  obtain ⟨k, hk, rfl⟩ := List.getElem_of_mem hm
  have := hv k hk
  rw [List.getD_eq_getElem?_getD, List.getElem?_eq_getElem hk] at this
  simp only [Option.getD_some] at this
  by_cases e : k = 0
  · have := this.1 e
    constructor <;> omega
  · have := this.2 (by omega)
    constructor <;> omega
theorem s37 {d M : Nat} {h : jm_H} {ps : List Int} {r : Nat} (hs : shM h M) (hc : cP h M ps) (l20 : ps.length ≤ 20) (hv : vp ps) (hr : r < ps.length) : jm_E dh_pr (d + 2) 37 [.inr (.inl M), .inl (jz r)] h (fun o h' => ∃ z : Int, o = .inl (some (.inl (jz z))) ∧ h' = h ∧ ((z = 1 ∧ (fsK ps r).2.2.1 = -1) ∨ (z = 0 ∧ ¬ (fsK ps r).2.2.1 = -1))) := by
  have hP := sfP_all _ ps rfl hv
  have L : ∀ (n k : Nat), ps.length - k ≤ n → k < ps.length → (fsK ps k).2.2.1 = -1 → ((fsK ps r).2.2.1 = -1 → k ≤ r) → jm_W dh_pr (d + 1) 37 (2, [some (.inr (.inl M)), some (.inl (jz (r : Int))), some (.inl (jz (k : Int)))], [], h) (fun o h' => ∃ z : Int, o = .inl (some (.inl (jz z))) ∧ h' = h ∧ ((z = 1 ∧ (fsK ps r).2.2.1 = -1) ∨ (z = 0 ∧ ¬ (fsK ps r).2.2.1 = -1))) := by
    intro n
    induction n with
    | zero => intro k h1 h2; omega
    | succ n ih =>
      intro k h1 h2 h3 h4
      refine r37_2 ⟨⟨by omega, by omega⟩, fun q => absurd q (by omega), fun _ => ⟨⟨by omega, by omega⟩, fun q => ⟨fun q' => absurd q q', fun _ => ⟨1, rfl, rfl, Or.inl ⟨rfl, ?_⟩⟩⟩, fun q => ⟨hs.1, jm_callI (s36 hs hc.1 hc.2 l20 (hv.rng l20) h2) ?_⟩⟩⟩
      · rw [show r = k by omega]; exact h3
      · rintro z h' ⟨rfl, rfl⟩
        refine r37_16 ?_
        rw [← hP.1 k h2]
        by_cases e : (fsK ps k).1 = -1
        · rw [e]
          refine r37_2 ⟨⟨by omega, by omega⟩, fun _ => ⟨⟨by omega, by omega⟩, fun _ => ⟨0, rfl, rfl, Or.inr ⟨rfl, fun f => ?_⟩⟩, fun q2 => absurd q2 (by omega)⟩, fun q2 => absurd q2 (by omega)⟩
          have := h4 f
          exact (trunk_le hv hP r k (by omega) hr h3 f).1 e
        · obtain ⟨g1, g2, g3⟩ := hP.2.2.1 k h2 h3 e
          have := ih (fsK ps k).1.toNat (by omega) (by omega) g3 (fun f => by
            have a1 := h4 f
            have := (trunk_le hv hP r k (by omega) hr h3 f).2
            omega)
          rw [show (((fsK ps k).1.toNat : Nat) : Int) = (fsK ps k).1 by omega] at this
          exact this
  exact e37 (r37_0 (L ps.length 0 (by omega) (by omega) (hP.2.1 (by omega)) (fun _ => Nat.zero_le _)))
theorem s38 {d M : Nat} {h : jm_H} {ps : List Int} (hs : shM h M) (hc : cP h M ps) (l20 : ps.length ≤ 20) (hv : vp ps) (h0 : 0 < ps.length) : jm_E dh_pr (d + 2) 38 [.inr (.inl M)] h (fun o h' => ∃ z : Int, o = .inl (some (.inl (jz z))) ∧ h' = h ∧ ∃ m : Nat, z = m ∧ m < ps.length ∧ (fsK ps m).2.2.1 = -1 ∧ (fsK ps m).1 = -1) := by
  have hP := sfP_all _ ps rfl hv
  have L : ∀ (n k : Nat), ps.length - k ≤ n → k < ps.length → (fsK ps k).2.2.1 = -1 → jm_W dh_pr (d + 1) 38 (2, [some (.inr (.inl M)), some (.inl (jz (k : Int)))], [], h) (fun o h' => ∃ z : Int, o = .inl (some (.inl (jz z))) ∧ h' = h ∧ ∃ m : Nat, z = m ∧ m < ps.length ∧ (fsK ps m).2.2.1 = -1 ∧ (fsK ps m).1 = -1) := by
    intro n
    induction n with
    | zero => intro k h1 h2; omega
    | succ n ih =>
      intro k h1 h2 h3
      have b := hP.2.2.2.2 k h2
      refine r38_2 ⟨hs.1, jm_callI (s36 hs hc.1 hc.2 l20 (hv.rng l20) h2) ?_⟩
      rintro z h' ⟨rfl, rfl⟩
      rw [← hP.1 k h2]
      refine r38_7 ⟨⟨by omega, by omega⟩, fun q => ⟨_, rfl, rfl, k, rfl, h2, h3, by omega⟩, fun q => ⟨hs.1, jm_callI (s36 hs hc.1 hc.2 l20 (hv.rng l20) h2) ?_⟩⟩
      rintro z h' ⟨rfl, rfl⟩
      rw [← hP.1 k h2]
      obtain ⟨g1, g2, g3⟩ := hP.2.2.1 k h2 h3 (by omega)
      have := ih (fsK ps k).1.toNat (by omega) (by omega) g3
      rw [show (((fsK ps k).1.toNat : Nat) : Int) = (fsK ps k).1 by omega] at this
      exact r38_15 this
  exact e38 (r38_0 (L ps.length 0 (by omega) h0 (hP.2.1 h0)))
