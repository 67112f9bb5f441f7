/-! Numbers: the 32-bit numbers as images of whole numbers; calls and switches of the abstract machine. -/
def jz (z : Int) : Int32 := Int32.ofInt z
def jR (z : Int) : Prop := -2147483648 ≤ z ∧ z < 2147483648
theorem jz_add (a b : Int) : jz a + jz b = jz (a + b) := (Int32.ofInt_add a b).symm
theorem jz_sub (a b : Int) : jz a - jz b = jz (a - b) := (Int32.ofInt_sub a b).symm
theorem jz_mul (a b : Int) : jz a * jz b = jz (a * b) := (Int32.ofInt_mul a b).symm
theorem jz_toInt {z : Int} (h : jR z) : (jz z).toInt = z := Int32.toInt_ofInt_of_le h.1 h.2
theorem jz_self (x : Int32) : jz x.toInt = x := Int32.ofInt_toInt x
theorem jR_toInt (x : Int32) : jR x.toInt := ⟨Int32.le_toInt x, Int32.toInt_lt x⟩
theorem jz_lt {a b : Int} (ha : jR a) (hb : jR b) : jz a < jz b ↔ a < b := by
  rw [Int32.lt_iff_toInt_lt, jz_toInt ha, jz_toInt hb]
theorem jz_le {a b : Int} (ha : jR a) (hb : jR b) : jz a ≤ jz b ↔ a ≤ b := by
  rw [Int32.le_iff_toInt_le, jz_toInt ha, jz_toInt hb]
theorem jz_eq {a b : Int} (ha : jR a) (hb : jR b) : jz a = jz b ↔ a = b := by
  refine ⟨fun h => ?_, fun h => by rw [h]⟩
  rw [← jz_toInt ha, ← jz_toInt hb, h]
theorem jz_ofNat (n : Nat) : Int32.ofNat n = jz n := by
  show Int32.ofNat n = Int32.ofInt (n : Int)
  exact (Int32.ofInt_eq_ofNat).symm
theorem jz_lit (n : Nat) : (OfNat.ofNat n : Int32) = jz (n : Int) := jz_ofNat n
/-- an index into an array of n -/
def jzi (z : Int) (n : Nat) : Prop := 0 ≤ z ∧ z < (n : Int) ∧ n ≤ 100000
theorem jzi.r {z : Int} {n : Nat} (h : jzi z n) : jR z := by
  obtain ⟨h1, h2, h3⟩ := h
  constructor <;> omega
theorem jz_in {z : Int} {n : Nat} (h : jzi z n) : jm_in (jz z) n := by
  show 0 ≤ (jz z).toInt ∧ (jz z).toInt < (n : Int)
  rw [jz_toInt h.r]
  exact ⟨h.1, h.2.1⟩
theorem jz_ix {z : Int} (h : jR z) : jm_ix (jz z) = z.toNat := by
  show (jz z).toInt.toNat = z.toNat
  rw [jz_toInt h]
theorem jz_max {a b : Int} (ha : jR a) (hb : jR b) : (if jz a < jz b then jz b else jz a) = jz (if a < b then b else a) := by
  by_cases h : a < b
  · rw [if_pos ((jz_lt ha hb).mpr h), if_pos h]
  · rw [if_neg (fun q => h ((jz_lt ha hb).mp q)), if_neg h]
theorem jz_b {z : Int} (h : z = 0 ∨ z = 1) : jz z = 0 ∨ jz z = 1 := by
  rcases h with rfl | rfl
  · exact Or.inl rfl
  · exact Or.inr rfl
/-- what follows a call -/
def jm_k (pr : jm_Pr) (d mi : Nat) (Q : jm_Q) (q : Nat) (ls : jm_Ls) (rest : List jm_V) (pc : Nat) : jm_Q := fun o h' => match o with
  | .inl none => jm_W pr d mi (q, ls, rest, h') Q
  | .inl (some v) => jm_W pr d mi (q, ls, v :: rest, h') Q
  | .inr a => jo_thr (fun c => jm_W pr d mi c Q) Q ls h' (pr.2.1 mi) pc a
def jm_nl (l : List jm_V) : Bool := l.all (fun v => match v with
  | .inr (.inr _) => false
  | _ => true)
theorem jm_nl_spec {l : List jm_V} (h : jm_nl l = true) : ∀ v ∈ l, ∀ z, v ≠ .inr (.inr z) := by
  intro v hv z hz
  subst hz
  have := List.all_eq_true.mp h _ hv
  cases this
theorem jm_callB {pr : jm_Pr} {d mi : Nat} {Q : jm_Q} {q : Nat} {ls : jm_Ls} {st : List jm_V} {h : jm_H} {pc x y t nx : Nat} {wx w : Nat × Nat} (h1 : Nat.ble y st.length = true) (h2 : Nat.ble (wx.1 + 1) w.1 = true) (h2' : Nat.ble (jm_cs (st.drop y) + (nx + 11) + wx.2) w.2 = true) (h3 : jm_nl (st.take y) = true)
    (h4 : match t with
    | 0 => True
    | t + 1 => ∃ a, (st.take y).getLast? = some (.inr (.inl a)) ∧ jm_T h a = t + 1)
    (h5 : jm_E pr d x (st.take y).reverse h (jm_k pr d mi Q q ls (st.drop y) pc)) : jo_call (jm_B pr d mi Q 0) Q q ls st h (jm_E pr d) (pr.2.1 mi) pc x y t nx wx w := by
  refine ⟨Nat.le_of_ble_eq_true h1, ⟨Nat.le_of_ble_eq_true h2, Nat.le_of_ble_eq_true h2'⟩, jm_nl_spec h3, h4, jm_E_mono _ _ _ _ _ _ ?_ h5⟩
  intro o h' z
  rcases o with o | a
  · cases o with
    | none => exact z
    | some v => exact z
  · exact z
theorem jm_callO {pr : jm_Pr} {d mi : Nat} {Q : jm_Q} {q : Nat} {ls : jm_Ls} {st : List jm_V} {h : jm_H} {pc x y t nx a : Nat} {wx w : Nat × Nat} (h1 : Nat.ble y st.length = true) (h2 : Nat.ble (wx.1 + 1) w.1 = true) (h2' : Nat.ble (jm_cs (st.drop y) + (nx + 11) + wx.2) w.2 = true) (h3 : jm_nl (st.take y) = true)
    (h4 : (st.take y).getLast? = some (.inr (.inl a))) (h4' : jm_T h a = t + 1)
    (h5 : jm_E pr d x (st.take y).reverse h (jm_k pr d mi Q q ls (st.drop y) pc)) : jo_call (jm_B pr d mi Q 0) Q q ls st h (jm_E pr d) (pr.2.1 mi) pc x y (t + 1) nx wx w := jm_callB h1 h2 h2' h3 ⟨a, h4, h4'⟩ h5
theorem jm_callS {pr : jm_Pr} {d mi : Nat} {Q : jm_Q} {q : Nat} {ls : jm_Ls} {st : List jm_V} {h : jm_H} {pc x y nx : Nat} {wx w : Nat × Nat} (h1 : Nat.ble y st.length = true) (h2 : Nat.ble (wx.1 + 1) w.1 = true) (h2' : Nat.ble (jm_cs (st.drop y) + (nx + 11) + wx.2) w.2 = true) (h3 : jm_nl (st.take y) = true)
    (h5 : jm_E pr d x (st.take y).reverse h (jm_k pr d mi Q q ls (st.drop y) pc)) : jo_call (jm_B pr d mi Q 0) Q q ls st h (jm_E pr d) (pr.2.1 mi) pc x y 0 nx wx w := jm_callB h1 h2 h2' h3 trivial h5
theorem jm_sw0 {P : Nat → Prop} {d : Nat} {a : Int32} (k : P d) : P (jm_sl [] d a) := k
theorem jm_sw1 {P : Nat → Prop} {q : Int32 × Nat} {r : List (Int32 × Nat)} {d : Nat} {a : Int32} (k1 : a = q.1 → P q.2) (k2 : ¬ a = q.1 → P (jm_sl r d a)) : P (jm_sl (q :: r) d a) := by
  show P (if a = q.1 then q.2 else jm_sl r d a)
  by_cases h : a = q.1
  · rw [if_pos h]; exact k1 h
  · rw [if_neg h]; exact k2 h
/-- after a call that returns no value, or a number -/
theorem jm_callV {pr : jm_Pr} {d mi x : Nat} {as : List jm_V} {h : jm_H} {R : jm_H → Prop} {Q : jm_Q} {q : Nat} {ls : jm_Ls} {rest : List jm_V} {pc : Nat} (s : jm_E pr d x as h (fun o h' => o = .inl none ∧ R h')) (k : ∀ h', R h' → jm_W pr d mi (q, ls, rest, h') Q) : jm_E pr d x as h (jm_k pr d mi Q q ls rest pc) := by
  refine jm_E_mono _ _ _ _ _ _ ?_ s
  rintro o h' ⟨rfl, hr⟩
  exact k h' hr
theorem jm_callI {pr : jm_Pr} {d mi x : Nat} {as : List jm_V} {h : jm_H} {R : Int → jm_H → Prop} {Q : jm_Q} {q : Nat} {ls : jm_Ls} {rest : List jm_V} {pc : Nat} (s : jm_E pr d x as h (fun o h' => ∃ z, o = .inl (some (.inl (jz z))) ∧ R z h')) (k : ∀ z h', R z h' → jm_W pr d mi (q, ls, .inl (jz z) :: rest, h') Q) : jm_E pr d x as h (jm_k pr d mi Q q ls rest pc) := by
  refine jm_E_mono _ _ _ _ _ _ ?_ s
  rintro o h' ⟨z, rfl, hr⟩
  exact k z h' hr
/-- a read of another kind of object -/
theorem jr_I_ne {h : jm_H} {a k b j s t : Nat} {x : Int32} (hb : jm_T h b = s) (ha : jm_T h a = t) (hst : s ≠ t) : jm_I (jm_sI h a k x) b j = jm_I h b j := by
  rw [jr_I_sI, if_neg]
  rintro ⟨rfl, -⟩
  exact hst (hb.symm.trans ha)
theorem jr_I_neA {h : jm_H} {a b j s t : Nat} {f : Nat → Int32} (hb : jm_T h b = s) (ha : jm_T h a = t) (hst : s ≠ t) : jm_I (jm_sA h a f) b j = jm_I h b j := by
  rw [jr_I_sA, if_neg]
  rintro rfl
  exact hst (hb.symm.trans ha)
theorem jr_I_self {h : jm_H} {a k : Nat} {x : Int32} : jm_I (jm_sI h a k x) a k = x := by
  rw [jr_I_sI, if_pos ⟨rfl, rfl⟩]
theorem jr_I_fld {h : jm_H} {a k j : Nat} {x : Int32} (hk : j ≠ k) : jm_I (jm_sI h a k x) a j = jm_I h a j := by
  rw [jr_I_sI, if_neg (fun q => hk q.2)]
theorem jr_F_self {h : jm_H} {a k x : Nat} : jm_F (jm_sF h a k x) a k = x := by
  rw [jr_F_sF, if_pos ⟨rfl, rfl⟩]
theorem jr_F_fld {h : jm_H} {a k j x : Nat} (hk : j ≠ k) : jm_F (jm_sF h a k x) a j = jm_F h a j := by
  rw [jr_F_sF, if_neg (fun q => hk q.2)]
section JZC
variable {a b : Int}
theorem jz_c0 (ha : jR a) (hb : jR b) (p : jz a = jz b) : a = b := (jz_eq ha hb).mp p
theorem jz_n0 (_ : jR a) (_ : jR b) (p : ¬ jz a = jz b) : ¬ a = b := fun q => p (by rw [q])
theorem jz_c1 (_ : jR a) (_ : jR b) (p : ¬ jz a = jz b) : ¬ a = b := fun q => p (by rw [q])
theorem jz_n1 (ha : jR a) (hb : jR b) (p : ¬ ¬ jz a = jz b) : a = b := (jz_eq ha hb).mp (Classical.byContradiction p)
theorem jz_c2 (ha : jR a) (hb : jR b) (p : jz a < jz b) : a < b := (jz_lt ha hb).mp p
theorem jz_n2 (ha : jR a) (hb : jR b) (p : ¬ jz a < jz b) : b ≤ a := Int.not_lt.mp (fun q => p ((jz_lt ha hb).mpr q))
theorem jz_c3 (ha : jR a) (hb : jR b) (p : jz b ≤ jz a) : b ≤ a := (jz_le hb ha).mp p
theorem jz_n3 (ha : jR a) (hb : jR b) (p : ¬ jz b ≤ jz a) : a < b := Int.not_le.mp (fun q => p ((jz_le hb ha).mpr q))
theorem jz_c4 (ha : jR a) (hb : jR b) (p : jz b < jz a) : b < a := (jz_lt hb ha).mp p
theorem jz_n4 (ha : jR a) (hb : jR b) (p : ¬ jz b < jz a) : a ≤ b := Int.not_lt.mp (fun q => p ((jz_lt hb ha).mpr q))
theorem jz_c5 (ha : jR a) (hb : jR b) (p : jz a ≤ jz b) : a ≤ b := (jz_le ha hb).mp p
theorem jz_n5 (ha : jR a) (hb : jR b) (p : ¬ jz a ≤ jz b) : b < a := Int.not_le.mp (fun q => p ((jz_le ha hb).mpr q))
end JZC
