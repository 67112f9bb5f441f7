/-! The class: numbers of the steps that were shown. -/
theorem jz_wrap (z : Int) : jz (z + 4294967296) = jz z := by
  rw [← jz_add, show jz 4294967296 = jz 0 from rfl, jz_add, Int.add_zero]
def stepN (acc : List S5) (ad : List Int) (k what : Int) : Int := if 0 ≤ k ∧ k < acc.length then (if what = 0 then (acc.getD k.toNat s50).1 else if what = 1 then (acc.getD k.toNat s50).2.1 else if what = 2 then (acc.getD k.toNat s50).2.2.1 else addL (acc.getD k.toNat s50) ad (what - 3)) else -1
theorem s92 {d a : Nat} {h : jm_H} {acc : List S5} {ad B : List Int} {op : Bool} {k what : Int} (hs : shD h a) (hd : dD h a acc ad op) (ok : okS acc 24) (oa : okA acc ad B B.length) (l12 : ad.length ≤ 12) (h24 : acc.length ≤ 24) (hk : jR k) (hw : jR what) :
    jm_E dh_pr (d + 2) 92 [.inr (.inl a), .inl (jz k), .inl (jz what)] h (fun o h' => o = .inl (some (.inl (jz (stepN acc ad k what)))) ∧ h' = h) := by
  have hd0 := hd
  have hs0 := hs
  obtain ⟨⟨c1, c2, c3⟩, c4, c5, c6, c7, c8⟩ := hd
  obtain ⟨s1, ⟨f0, f1, f2, f3, f4, f5⟩, ⟨g1, g2, g3, g4, g5⟩, -⟩ := hs
  refine e92 (r92_0 ⟨hk, fun q => ⟨by rw [stepN, if_neg (by omega)], rfl⟩, fun q => ⟨s1, _, c1, ⟨by omega, by omega⟩, fun q' => ?_, fun q' => ⟨by rw [stepN, if_neg (by omega)], rfl⟩⟩⟩)
  have kk : k.toNat < acc.length := by omega
  have rd : ∀ (f : S5 → Int), (acc.map f).getD k.toNat 0 = f (acc.getD k.toNat s50) := fun f => gD_map kk
  have ll : ∀ (f : S5 → Int), k.toNat < (acc.map f).length := fun f => by rw [List.length_map]; exact kk
  have ki : jzi k 24 := ⟨q, by omega, by omega⟩
  have st : stepN acc ad k what = (if what = 0 then (acc.getD k.toNat s50).1 else if what = 1 then (acc.getD k.toNat s50).2.1 else if what = 2 then (acc.getD k.toNat s50).2.2.1 else addL (acc.getD k.toNat s50) ad (what - 3)) := by rw [stepN, if_pos ⟨q, q'⟩]
  rw [st]
  refine ⟨hw, fun e => ⟨_, f0, g1.1, _, g1.2, ki, (acc.getD k.toNat s50).1, by rw [c4 _ (ll _), rd], by rw [if_pos e], rfl⟩, fun e => ⟨_, f1, g2.1, _, g2.2, ki, (acc.getD k.toNat s50).2.1, by rw [c5 _ (ll _), rd], by rw [if_neg (by omega), if_pos e], rfl⟩, fun e => ⟨_, f2, g3.1, _, g3.2, ki, (acc.getD k.toNat s50).2.2.1, by rw [c6 _ (ll _), rd], by rw [if_neg (by omega), if_neg (by omega), if_pos e], rfl⟩, fun e1 e2 e3 => ?_⟩
  rw [if_neg e1, if_neg e2, if_neg e3]
  have o := ok _ (mem_gD kk)
  by_cases w : -2147483648 ≤ what - 3
  · refine jm_callI (s93 hs0 hd0 ok oa l12 h24 ⟨q, q'⟩ ⟨w, by have := hw.2; omega⟩) ?_
    rintro z h' ⟨rfl, rfl⟩
    exact r92_69 ⟨rfl, rfl⟩
  · rw [← jz_wrap (what - 3)]
    refine jm_callI (s93 hs0 hd0 ok oa l12 h24 ⟨q, q'⟩ ⟨by have := hw.1; omega, by omega⟩) ?_
    rintro z h' ⟨rfl, rfl⟩
    refine r92_69 ⟨?_, rfl⟩
    have := hw.1
    rw [addL, addL, if_neg (by omega), if_neg (by omega)]
