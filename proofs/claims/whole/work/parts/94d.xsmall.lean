/-! The class: small methods. -/
theorem s10 {d X c p : Nat} {h : jm_H} {n : Int} (hs : shX h X c p) (hn : jR n) : jm_E dh_pr (d + 1) 10 [.inr (.inl X), .inl (jz n)] h (fun o h' => ∃ z : Int, o = .inl (some (.inl (jz z))) ∧ ((z = 1 ∧ -1 ≤ n ∧ h' = jm_sI h X 11 (jz n)) ∨ (z = 0 ∧ n < -1 ∧ h' = h))) :=
  e10 (r10_0 ⟨hn, fun q => ⟨hs.1, 1, rfl, Or.inl ⟨rfl, q, rfl⟩⟩, fun q => ⟨0, rfl, Or.inr ⟨rfl, q, rfl⟩⟩⟩)
theorem shX.cur {h : jm_H} {X c p : Nat} (hs : shX h X c p) : jm_F h X 9 = c ∧ jm_F h X 10 = p := ⟨hs.2.1.2.2.2.2.2.2.2.2.2.1, hs.2.1.2.2.2.2.2.2.2.2.2.2⟩
theorem shX.his {h : jm_H} {X c p : Nat} (hs : shX h X c p) : shH h c ∧ shH h p := hs.2.2.2.2.2.2.2.1
theorem s13 {d X c p n : Nat} {h : jm_H} (hs : shX h X c p) (hc : jm_I h c 1 = jz n) : jm_E dh_pr (d + 1) 13 [.inr (.inl X)] h (fun o h' => o = .inl (some (.inl (jz n))) ∧ h' = h) := e13 (r13_0 ⟨hs.1, _, hs.cur.1, hs.his.1.1, _, hc, rfl, rfl⟩)
theorem s19 {d X c p : Nat} {h : jm_H} {fl as : List Int} {v : Int} (hs : shX h X c p) (hf : cb h (X + 27) fl) (ha : cb h (X + 29) as) (hv : jR v) : jm_E dh_pr (d + 1) 19 [.inr (.inl X), .inl (jz v)] h (fun o h' => o = .inl (some (.inl (jz (if v = 0 then fl.length else as.length : Nat)))) ∧ h' = h) := by
  refine e19 (r19_0 ⟨hv, fun q => ⟨hs.1, _, hs.2.1.2.2.2.2.1, hs.2.2.2.2.1.1.1, _, hf.1, ?_, rfl⟩, fun q => ⟨hs.1, _, hs.2.1.2.2.2.2.2.1, hs.2.2.2.2.1.2.1.1, _, ha.1, ?_, rfl⟩⟩)
  · rw [if_pos q]
  · rw [if_neg q]
theorem s20 {d X c p : Nat} {h : jm_H} {fl as : List Int} {k v : Int} (hs : shX h X c p) (hf : cb h (X + 27) fl) (ha : cb h (X + 29) as) (l4 : fl.length ≤ 400 ∧ as.length ≤ 400) (hk : jR k) (hv : jR v) : jm_E dh_pr (d + 3) 20 [.inr (.inl X), .inl (jz k), .inl (jz v)] h (fun o h' => o = .inl (some (.inl (jz (if 0 ≤ k ∧ k < ((if v = 0 then fl else as).length : Int) then (if v = 0 then fl else as).getD k.toNat 0 else -1)))) ∧ h' = h) := by
  refine e20 (r20_0 ⟨hv, fun q => ⟨hs.1, _, hs.2.1.2.2.2.2.1, hs.2.2.2.2.1.1.1, jm_callI (s84 hs.2.2.2.2.1.1 hf hk) ?_⟩, fun q => ⟨hs.1, _, hs.2.1.2.2.2.2.2.1, hs.2.2.2.2.1.2.1.1, jm_callI (s84 hs.2.2.2.2.1.2.1 ha hk) ?_⟩⟩)
  · rintro z h' ⟨rfl, ⟨o, rfl⟩ | ⟨o, rfl⟩⟩
    · exact r20_23 ⟨by rw [if_pos q, if_pos ⟨o.1, o.2.1⟩], rfl⟩
    · exact r20_23 ⟨by rw [if_pos q, if_neg (fun e => o ⟨e.1, e.2, by omega⟩)], rfl⟩
  · rintro z h' ⟨rfl, ⟨o, rfl⟩ | ⟨o, rfl⟩⟩
    · exact r20_12 ⟨by rw [if_neg q, if_pos ⟨o.1, o.2.1⟩], rfl⟩
    · exact r20_12 ⟨by rw [if_neg q, if_neg (fun e => o ⟨e.1, e.2, by omega⟩)], rfl⟩
/-- the two histories change places -/
theorem s26 {d X c p : Nat} {h : jm_H} (hs : shX h X c p) : jm_E dh_pr (d + 1) 26 [.inr (.inl X)] h (fun o h' => o = .inl none ∧ h' = jm_sF (jm_sF h X 9 p) X 10 c) := e26 (r26_0 ⟨hs.1, _, hs.cur.1, _, hs.cur.2, rfl, rfl⟩)
