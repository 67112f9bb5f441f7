/-! The reference: small methods. -/
theorem s52 {d : Nat} {h : jm_H} {u : Int} (hu : jR u) : jm_E dh_pr (d + 1) 52 [.inl (jz u)] h (fun o h' => ∃ z : Int, o = .inl (some (.inl (jz z))) ∧ h' = h ∧ ((z = 0 ∧ (0 ≤ u ∧ u < 4)) ∨ (z = 1 ∧ ¬ (0 ≤ u ∧ u < 4)))) :=
  e52 (r52_0 ⟨hu, fun q => ⟨1, rfl, rfl, Or.inr ⟨rfl, by omega⟩⟩, fun q => ⟨fun q' => ⟨0, rfl, rfl, Or.inl ⟨rfl, by omega⟩⟩, fun q' => ⟨1, rfl, rfl, Or.inr ⟨rfl, by omega⟩⟩⟩⟩)
theorem s53 {d M n : Nat} {h : jm_H} {r : Int} (hs : shM h M) (hc : jm_I h M 1 = jz n) (l20 : n ≤ 20) (hr : jR r) : jm_E dh_pr (d + 1) 53 [.inr (.inl M), .inl (jz r)] h (fun o h' => ∃ z : Int, o = .inl (some (.inl (jz z))) ∧ h' = h ∧ ((z = 0 ∧ (0 ≤ r ∧ r < n)) ∨ (z = 1 ∧ ¬ (0 ≤ r ∧ r < n)))) :=
  e53 (r53_0 ⟨hr, fun q => ⟨1, rfl, rfl, Or.inr ⟨rfl, by omega⟩⟩, fun q => ⟨hs.1, _, hc, ⟨by omega, by omega⟩, fun q' => ⟨0, rfl, rfl, Or.inl ⟨rfl, by omega⟩⟩, fun q' => ⟨1, rfl, rfl, Or.inr ⟨rfl, by omega⟩⟩⟩⟩)
theorem s59 {d M : Nat} {h : jm_H} {n : Int} (hs : shM h M) (hn : jR n) : jm_E dh_pr (d + 1) 59 [.inr (.inl M), .inl (jz n)] h (fun o h' => ∃ z : Int, o = .inl (some (.inl (jz z))) ∧ ((z = 1 ∧ -1 ≤ n ∧ h' = jm_sI (jm_sI h M 0 (jz 0)) M 15 (jz n)) ∨ (z = 0 ∧ n < -1 ∧ h' = jm_sI h M 0 (jz 0)))) :=
  e59 (r59_0 ⟨hs.1, hn, fun q => ⟨1, rfl, Or.inl ⟨rfl, q, rfl⟩⟩, fun q => ⟨0, rfl, Or.inr ⟨rfl, q, rfl⟩⟩⟩)
theorem s71 {d M n : Nat} {h : jm_H} (hs : shM h M) (hc : jm_I h M 1 = jz n) : jm_E dh_pr (d + 1) 71 [.inr (.inl M)] h (fun o h' => o = .inl (some (.inl (jz n))) ∧ h' = jm_sI h M 0 (jz 0)) := e71 (r71_0 ⟨hs.1, _, hc, rfl, rfl⟩)
/-- the file, and the file aside -/
def cF (h : jm_H) (M : Nat) (fl : List Int) : Prop := jm_I h M 11 = jz fl.length ∧ fl.length ≤ 400 ∧ row h (M + 9) fl
def cE (h : jm_H) (M : Nat) (as : List Int) : Prop := jm_I h M 13 = jz as.length ∧ as.length ≤ 400 ∧ row h (M + 10) as
theorem s77 {d M : Nat} {h : jm_H} {fl as : List Int} {v : Int} (hs : shM h M) (hf : cF h M fl) (ha : cE h M as) (hv : jR v) : jm_E dh_pr (d + 1) 77 [.inr (.inl M), .inl (jz v)] h (fun o h' => o = .inl (some (.inl (jz (if v = 0 then fl.length else as.length : Nat)))) ∧ h' = jm_sI h M 0 (jz 0)) := by
  refine e77 (r77_0 ⟨hs.1, hv, fun q => ⟨_, hf.1, ?_, rfl⟩, fun q => ⟨_, ha.1, ?_, rfl⟩⟩)
  · rw [if_pos q]
  · rw [if_neg q]
theorem s78 {d M : Nat} {h : jm_H} {fl as : List Int} {k v : Int} (hs : shM h M) (hf : cF h M fl) (ha : cE h M as) (hk : jR k) (hv : jR v) : jm_E dh_pr (d + 1) 78 [.inr (.inl M), .inl (jz k), .inl (jz v)] h (fun o h' => o = .inl (some (.inl (jz (if 0 ≤ k ∧ k < ((if v = 0 then fl else as).length : Int) then (if v = 0 then fl else as).getD k.toNat 0 else -1)))) ∧ h' = jm_sI h M 0 (jz 0)) := by
  obtain ⟨f1, g1, n1⟩ := hs.f 12 9 400 (by decide)
  obtain ⟨f2, g2, n2⟩ := hs.f 14 10 400 (by decide)
  have lf := hf.2.1
  have la := ha.2.1
  refine e78 (r78_0 ⟨hs.1, hk, fun q => ⟨?_, rfl⟩, fun q => ⟨hv, fun q' => ⟨_, hf.1, ⟨by omega, by omega⟩, fun q3 => ⟨fun _ => ⟨_, f1, g1, _, n1, ⟨q, by omega, by omega⟩, _, hf.2.2 k.toNat (by omega), ?_, rfl⟩, fun e => absurd q' e⟩, fun q3 => ⟨?_, rfl⟩⟩, fun q' => ⟨_, ha.1, ⟨by omega, by omega⟩, fun q3 => ⟨fun e => absurd e q', fun _ => ⟨_, f2, g2, _, n2, ⟨q, by omega, by omega⟩, _, ha.2.2 k.toNat (by omega), ?_, rfl⟩⟩, fun q3 => ⟨?_, rfl⟩⟩⟩⟩)
  · rw [if_neg (by omega)]
  · rw [if_pos q', if_pos ⟨q, q3⟩]
  · rw [if_pos q', if_neg (by omega)]
  · rw [if_neg q', if_pos ⟨q, q3⟩]
  · rw [if_neg q', if_neg (by omega)]
