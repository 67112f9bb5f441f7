section
/-! An abstract machine: values of three kinds, a heap of numbered objects, code whose links are already resolved.
A run is told by the least predicate that the steps close: no fuel, no inductive type. -/
abbrev jm_V : Type := Int32 ⊕ (Nat ⊕ Int64)
/-- kind, length, numbers, references, longs -/
abbrev jm_O : Type := Nat × Nat × (Nat → Int32) × (Nat → Nat) × (Nat → Int64)
/-- the next address, the slots that are used, the objects -/
abbrev jm_H : Type := Nat × Nat × (Nat → jm_O)
abbrev jm_Ls : Type := List (Option jm_V)
/-- place in the code, locals, stack, heap -/
abbrev jm_C : Type := Nat × jm_Ls × List jm_V × jm_H
/-- returned, or threw the object at that address -/
abbrev jm_R : Type := Option jm_V ⊕ Nat
/-- operation, length, two small numbers, a constant -/
abbrev jm_In : Type := Nat × Nat × Nat × Nat × Int32
abbrev jm_Q : Type := jm_R → jm_H → Prop
/-- code of the methods, handlers (method, place, kind of the thrown object), locals, kind of the receiver (0: static), switches, most addresses, most slots, frames and words that a method needs above it -/
abbrev jm_Pr : Type := (Nat → List (Nat × jm_In)) × (Nat → Nat → Nat → Option Nat) × (Nat → Nat) × (Nat → Nat) × (Nat → List (Int32 × Nat) × Nat) × Nat × Nat × (Nat → Nat × Nat)
def jm_T (h : jm_H) (a : Nat) : Nat := (h.2.2 a).1
def jm_N (h : jm_H) (a : Nat) : Nat := (h.2.2 a).2.1
def jm_I (h : jm_H) (a k : Nat) : Int32 := (h.2.2 a).2.2.1 k
def jm_F (h : jm_H) (a k : Nat) : Nat := (h.2.2 a).2.2.2.1 k
def jm_L (h : jm_H) (a k : Nat) : Int64 := (h.2.2 a).2.2.2.2 k
def jm_up {α : Type} (f : Nat → α) (k : Nat) (x : α) : Nat → α := fun j => if j = k then x else f j
theorem jm_up_at {α : Type} (f : Nat → α) (k : Nat) (x : α) (j : Nat) : jm_up f k x j = if j = k then x else f j := rfl
theorem jm_up_self {α : Type} (f : Nat → α) (k : Nat) (x : α) : jm_up f k x k = x := if_pos rfl
theorem jm_up_ne {α : Type} (f : Nat → α) {k j : Nat} (x : α) (h : j ≠ k) : jm_up f k x j = f j := if_neg h
def jm_sI (h : jm_H) (a k : Nat) (x : Int32) : jm_H := (h.1, h.2.1, jm_up h.2.2 a ((h.2.2 a).1, (h.2.2 a).2.1, jm_up (h.2.2 a).2.2.1 k x, (h.2.2 a).2.2.2))
def jm_sF (h : jm_H) (a k x : Nat) : jm_H := (h.1, h.2.1, jm_up h.2.2 a ((h.2.2 a).1, (h.2.2 a).2.1, (h.2.2 a).2.2.1, jm_up (h.2.2 a).2.2.2.1 k x, (h.2.2 a).2.2.2.2))
def jm_sL (h : jm_H) (a k : Nat) (x : Int64) : jm_H := (h.1, h.2.1, jm_up h.2.2 a ((h.2.2 a).1, (h.2.2 a).2.1, (h.2.2 a).2.2.1, (h.2.2 a).2.2.2.1, jm_up (h.2.2 a).2.2.2.2 k x))
def jm_sT (h : jm_H) (a t : Nat) : jm_H := (h.1, h.2.1, jm_up h.2.2 a (t, (h.2.2 a).2))
/-- all numbers of an object anew -/
def jm_sA (h : jm_H) (a : Nat) (f : Nat → Int32) : jm_H := (h.1, h.2.1, jm_up h.2.2 a ((h.2.2 a).1, (h.2.2 a).2.1, f, (h.2.2 a).2.2.2))
def jm_new (h : jm_H) (t n z : Nat) : jm_H := (h.1 + 1, h.2.1 + z, jm_up h.2.2 h.1 (t, n, fun _ => 0, fun _ => 0, fun _ => 0))
/-- an array of n arrays of k numbers -/
def jm_mul (h : jm_H) (t n k : Nat) : jm_H := (h.1 + 1 + n, h.2.1 + n + n * k, fun a => if a = h.1 then (t, n, fun _ => 0, fun j => if j < n then h.1 + 1 + j else 0, fun _ => 0) else if h.1 < a ∧ a < h.1 + 1 + n then (100, k, fun _ => 0, fun _ => 0, fun _ => 0) else h.2.2 a)
def jm_cpy (f g : Nat → Int32) (a b n : Nat) : Nat → Int32 := fun j => if b ≤ j ∧ j < b + n then f (a + (j - b)) else g j
def jm_ix (j : Int32) : Nat := j.toInt.toNat
/-- an index within an array -/
def jm_in (j : Int32) (n : Nat) : Prop := 0 ≤ j.toInt ∧ j.toInt < (n : Int)
def jm_bin (x : Nat) (a b : Int32) : Int32 := match x with
  | 0 => a + b
  | 1 => a - b
  | 2 => a * b
  | 3 => a &&& b
  | 4 => a ||| b
  | 5 => a ^^^ b
  | 6 => a <<< (b &&& 31)
  | 7 => a >>> (b &&& 31)
  | _ => 0
def jm_cmp (x : Nat) (a b : Int32) : Prop := match x with
  | 0 => a = b
  | 1 => ¬ a = b
  | 2 => a < b
  | 3 => b ≤ a
  | 4 => b < a
  | 5 => a ≤ b
  | _ => False
def jm_sl : List (Int32 × Nat) → Nat → Int32 → Nat
  | [], d, _ => d
  | q :: r, d, x => if x = q.1 then q.2 else jm_sl r d x
def jm_sel (t : List (Int32 × Nat) × Nat) (x : Int32) : Nat := jm_sl t.1 t.2 x
/-- words of an operand stack -/
def jm_cs : List jm_V → Nat
  | [] => 0
  | .inl _ :: r => 1 + jm_cs r
  | .inr (.inl _) :: r => 1 + jm_cs r
  | .inr (.inr _) :: r => 2 + jm_cs r
section JO
variable (P : jm_C → Prop) (Q : jm_Q) (q : Nat) (ls : jm_Ls) (st : List jm_V) (h : jm_H)
def jo_iload (x : Nat) : Prop := match ls[x]? with
  | some (some (.inl v)) => P (q, ls, .inl v :: st, h)
  | _ => False
def jo_aload (x : Nat) : Prop := match ls[x]? with
  | some (some (.inr (.inl v))) => P (q, ls, .inr (.inl v) :: st, h)
  | _ => False
def jo_istore (x : Nat) : Prop := match st with
  | .inl v :: st => P (q, ls.set x (some (.inl v)), st, h)
  | _ => False
def jo_astore (x : Nat) : Prop := match st with
  | .inr (.inl v) :: st => P (q, ls.set x (some (.inr (.inl v))), st, h)
  | _ => False
def jo_iinc (x : Nat) (k : Int32) : Prop := match ls[x]? with
  | some (some (.inl v)) => P (q, ls.set x (some (.inl (v + k))), st, h)
  | _ => False
def jo_bin (x : Nat) : Prop := match st with
  | .inl b :: .inl a :: st => P (q, ls, .inl (jm_bin x a b) :: st, h)
  | _ => False
def jo_if (x y : Nat) : Prop := match st with
  | .inl a :: st => (jm_cmp x a 0 → P (y, ls, st, h)) ∧ (¬ jm_cmp x a 0 → P (q, ls, st, h))
  | _ => False
def jo_icmp (x y : Nat) : Prop := match st with
  | .inl b :: .inl a :: st => (jm_cmp x a b → P (y, ls, st, h)) ∧ (¬ jm_cmp x a b → P (q, ls, st, h))
  | _ => False
def jo_switch (t : List (Int32 × Nat) × Nat) : Prop := match st with
  | .inl a :: st => P (jm_sel t a, ls, st, h)
  | _ => False
def jo_geti (x y : Nat) : Prop := match st with
  | .inr (.inl a) :: st => jm_T h a = x ∧ P (q, ls, .inl (jm_I h a y) :: st, h)
  | _ => False
def jo_getr (x y : Nat) : Prop := match st with
  | .inr (.inl a) :: st => jm_T h a = x ∧ P (q, ls, .inr (.inl (jm_F h a y)) :: st, h)
  | _ => False
def jo_puti (x y : Nat) : Prop := match st with
  | .inl v :: .inr (.inl a) :: st => jm_T h a = x ∧ P (q, ls, st, jm_sI h a y v)
  | _ => False
def jo_putz (x y : Nat) : Prop := match st with
  | .inl v :: .inr (.inl a) :: st => jm_T h a = x ∧ (v = 0 ∨ v = 1) ∧ P (q, ls, st, jm_sI h a y v)
  | _ => False
def jo_putr (x y : Nat) : Prop := match st with
  | .inr (.inl v) :: .inr (.inl a) :: st => jm_T h a = x ∧ P (q, ls, st, jm_sF h a y v)
  | _ => False
def jo_iald (t : Nat) : Prop := match st with
  | .inl j :: .inr (.inl a) :: st => jm_T h a = t ∧ jm_in j (jm_N h a) ∧ P (q, ls, .inl (jm_I h a (jm_ix j)) :: st, h)
  | _ => False
def jo_iast : Prop := match st with
  | .inl v :: .inl j :: .inr (.inl a) :: st => jm_T h a = 100 ∧ jm_in j (jm_N h a) ∧ P (q, ls, st, jm_sI h a (jm_ix j) v)
  | _ => False
def jo_aald (t : Nat) : Prop := match st with
  | .inl j :: .inr (.inl a) :: st => jm_T h a = t ∧ jm_in j (jm_N h a) ∧ P (q, ls, .inr (.inl (jm_F h a (jm_ix j))) :: st, h)
  | _ => False
def jo_aast (t y : Nat) : Prop := match st with
  | .inr (.inl v) :: .inl j :: .inr (.inl a) :: st => jm_T h a = t ∧ jm_in j (jm_N h a) ∧ jm_T h v = y ∧ P (q, ls, st, jm_sF h a (jm_ix j) v)
  | _ => False
def jo_alen (t : Nat) : Prop := match st with
  | .inr (.inl a) :: st => jm_T h a = t ∧ P (q, ls, .inl (Int32.ofNat (jm_N h a)) :: st, h)
  | _ => False
/-- an array of the kind t -/
def jo_newa (t c z : Nat) : Prop := match st with
  | .inl k :: st => 0 ≤ k.toInt ∧ k.toInt ≤ 100000 ∧ h.1 + 1 ≤ c ∧ h.2.1 + jm_ix k ≤ z ∧ P (q, ls, .inr (.inl h.1) :: st, jm_new h t (jm_ix k) (jm_ix k))
  | _ => False
def jo_multi (t c z : Nat) : Prop := match st with
  | .inl k :: .inl n :: st => n = 13 ∧ k = 13 ∧ h.1 + 14 ≤ c ∧ h.2.1 + 182 ≤ z ∧ P (q, ls, .inr (.inl h.1) :: st, jm_mul h t 13 13)
  | _ => False
def jo_new (t n c z : Nat) : Prop := h.1 + 1 ≤ c ∧ h.2.1 + n ≤ z ∧ P (q, ls, .inr (.inl h.1) :: st, jm_new h t 0 n)
def jo_dup : Prop := match st with
  | .inl v :: st => P (q, ls, .inl v :: .inl v :: st, h)
  | .inr (.inl v) :: st => P (q, ls, .inr (.inl v) :: .inr (.inl v) :: st, h)
  | _ => False
def jo_dup2 : Prop := match st with
  | .inl j :: .inr (.inl a) :: st => P (q, ls, .inl j :: .inr (.inl a) :: .inl j :: .inr (.inl a) :: st, h)
  | _ => False
def jo_dupx1 : Prop := match st with
  | .inl j :: .inr (.inl a) :: st => P (q, ls, .inl j :: .inr (.inl a) :: .inl j :: st, h)
  | _ => False
def jo_pop : Prop := match st with
  | .inl _ :: st => P (q, ls, st, h)
  | .inr (.inl _) :: st => P (q, ls, st, h)
  | _ => False
/-- what becomes of a throw at the place pc -/
def jo_thr (hd : Nat → Nat → Option Nat) (pc a : Nat) : Prop := match hd pc (jm_T h a) with
  | some y => y ≠ 999999 ∧ P (y, ls, [.inr (.inl a)], h)
  | none => Q (.inr a) h
def jo_call (E : Nat → List jm_V → jm_H → jm_Q → Prop) (hd : Nat → Nat → Option Nat) (pc x y t nx : Nat) (wx w : Nat × Nat) : Prop :=
  y ≤ st.length ∧ (wx.1 + 1 ≤ w.1 ∧ jm_cs (st.drop y) + (nx + 11) + wx.2 ≤ w.2) ∧ (∀ v ∈ st.take y, ∀ z, v ≠ .inr (.inr z)) ∧ (match t with
    | 0 => True
    | t + 1 => ∃ a, (st.take y).getLast? = some (.inr (.inl a)) ∧ jm_T h a = t + 1) ∧
  E x (st.take y).reverse h (fun o h' => match o with
    | .inl none => P (q, ls, st.drop y, h')
    | .inl (some v) => P (q, ls, v :: st.drop y, h')
    | .inr a => jo_thr P Q ls h' hd pc a)
def jo_oinit (w : Nat × Nat) : Prop := match st with
  | .inr (.inl a) :: st => ¬ jm_T h a = 0 ∧ (1 ≤ w.1 ∧ jm_cs st + 12 ≤ w.2) ∧ P (q, ls, st, h)
  | _ => False
def jo_xinit (t : Nat) (w : Nat × Nat) : Prop := match st with
  | .inr (.inl a) :: st => jm_T h a = t ∧ (6 ≤ w.1 ∧ jm_cs st + 80 ≤ w.2) ∧ P (q, ls, st, jm_sT h a (t + 1))
  | _ => False
def jo_athrow (hd : Nat → Nat → Option Nat) (pc : Nat) : Prop := match st with
  | .inr (.inl a) :: _ => 200 ≤ jm_T h a ∧ jm_T h a % 2 = 1 ∧ jo_thr P Q ls h hd pc a
  | _ => False
def jo_iret : Prop := match st with
  | [.inl v] => Q (.inl (some (.inl v))) h
  | _ => False
def jo_zret : Prop := match st with
  | [.inl v] => (v = 0 ∨ v = 1) ∧ Q (.inl (some (.inl v))) h
  | _ => False
def jo_vret : Prop := match st with
  | [] => Q (.inl none) h
  | _ => False
def jo_aret : Prop := match st with
  | [.inr (.inl a)] => Q (.inl (some (.inr (.inl a)))) h
  | _ => False
def jo_i2l : Prop := match st with
  | .inl v :: st => P (q, ls, .inr (.inr v.toInt64) :: st, h)
  | _ => False
def jo_lald : Prop := match st with
  | .inl j :: .inr (.inl a) :: st => jm_T h a = 101 ∧ jm_in j (jm_N h a) ∧ P (q, ls, .inr (.inr (jm_L h a (jm_ix j))) :: st, h)
  | _ => False
def jo_last : Prop := match st with
  | .inr (.inr v) :: .inl j :: .inr (.inl a) :: st => jm_T h a = 101 ∧ jm_in j (jm_N h a) ∧ P (q, ls, st, jm_sL h a (jm_ix j) v)
  | _ => False
def jo_lcmp : Prop := match st with
  | .inr (.inr b) :: .inr (.inr a) :: st => P (q, ls, .inl (lg_cmp a b) :: st, h)
  | _ => False
def jo_max (w : Nat × Nat) : Prop := match st with
  | .inl b :: .inl a :: st => (1 ≤ w.1 ∧ jm_cs st + 13 ≤ w.2) ∧ P (q, ls, .inl (if a < b then b else a) :: st, h)
  | _ => False
def jo_min (w : Nat × Nat) : Prop := match st with
  | .inl b :: .inl a :: st => (1 ≤ w.1 ∧ jm_cs st + 13 ≤ w.2) ∧ P (q, ls, .inl (if b < a then b else a) :: st, h)
  | _ => False
def jo_irem : Prop := match st with
  | .inl b :: .inl a :: st => ¬ b = 0 ∧ P (q, ls, .inl (a - a / b * b) :: st, h)
  | _ => False
def jo_copy (w : Nat × Nat) : Prop := match st with
  | .inl n :: .inl dp :: .inr (.inl b) :: .inl sp :: .inr (.inl a) :: st => jm_T h a = 100 ∧ jm_T h b = 100 ∧ 0 ≤ n.toInt ∧ 0 ≤ sp.toInt ∧ 0 ≤ dp.toInt ∧ sp.toInt + n.toInt ≤ (jm_N h a : Int) ∧ dp.toInt + n.toInt ≤ (jm_N h b : Int) ∧ (1 ≤ w.1 ∧ jm_cs st + 18 ≤ w.2) ∧ P (q, ls, st, jm_sA h b (jm_cpy (jm_I h a) (jm_I h b) (jm_ix sp) (jm_ix dp) (jm_ix n)))
  | _ => False
end JO
def jm_step (pr : jm_Pr) (E : Nat → List jm_V → jm_H → jm_Q → Prop) (mi : Nat) (P : jm_C → Prop) (Q : jm_Q) (i : jm_In) (pc : Nat) (ls : jm_Ls) (st : List jm_V) (h : jm_H) : Prop :=
  match i.1 with
  | 1 => P (pc + i.2.1, ls, .inl i.2.2.2.2 :: st, h)
  | 2 => jo_iload P (pc + i.2.1) ls st h i.2.2.1
  | 3 => jo_aload P (pc + i.2.1) ls st h i.2.2.1
  | 4 => jo_istore P (pc + i.2.1) ls st h i.2.2.1
  | 5 => jo_astore P (pc + i.2.1) ls st h i.2.2.1
  | 6 => jo_iinc P (pc + i.2.1) ls st h i.2.2.1 i.2.2.2.2
  | 7 => jo_bin P (pc + i.2.1) ls st h i.2.2.1
  | 8 => jo_if P (pc + i.2.1) ls st h i.2.2.1 i.2.2.2.1
  | 9 => jo_icmp P (pc + i.2.1) ls st h i.2.2.1 i.2.2.2.1
  | 10 => P (i.2.2.2.1, ls, st, h)
  | 11 => jo_switch P ls st h (pr.2.2.2.2.1 i.2.2.2.1)
  | 12 => jo_geti P (pc + i.2.1) ls st h i.2.2.1 i.2.2.2.1
  | 13 => jo_getr P (pc + i.2.1) ls st h i.2.2.1 i.2.2.2.1
  | 14 => jo_puti P (pc + i.2.1) ls st h i.2.2.1 i.2.2.2.1
  | 15 => jo_putz P (pc + i.2.1) ls st h i.2.2.1 i.2.2.2.1
  | 16 => jo_putr P (pc + i.2.1) ls st h i.2.2.1 i.2.2.2.1
  | 17 => jo_iald P (pc + i.2.1) ls st h 100
  | 18 => jo_iald P (pc + i.2.1) ls st h 99
  | 19 => jo_iast P (pc + i.2.1) ls st h
  | 20 => jo_aald P (pc + i.2.1) ls st h i.2.2.1
  | 21 => jo_aast P (pc + i.2.1) ls st h i.2.2.1 i.2.2.2.1
  | 22 => jo_alen P (pc + i.2.1) ls st h i.2.2.1
  | 23 => jo_alen P (pc + i.2.1) ls st h 99
  | 24 => jo_newa P (pc + i.2.1) ls st h i.2.2.1 pr.2.2.2.2.2.1 pr.2.2.2.2.2.2.1
  | 25 => jo_newa P (pc + i.2.1) ls st h i.2.2.1 pr.2.2.2.2.2.1 pr.2.2.2.2.2.2.1
  | 27 => jo_multi P (pc + i.2.1) ls st h i.2.2.1 pr.2.2.2.2.2.1 pr.2.2.2.2.2.2.1
  | 28 => jo_new P (pc + i.2.1) ls st h i.2.2.1 i.2.2.2.1 pr.2.2.2.2.2.1 pr.2.2.2.2.2.2.1
  | 29 => jo_dup P (pc + i.2.1) ls st h
  | 30 => jo_dup2 P (pc + i.2.1) ls st h
  | 31 => jo_pop P (pc + i.2.1) ls st h
  | 32 => jo_call P Q (pc + i.2.1) ls st h E (pr.2.1 mi) pc i.2.2.1 i.2.2.2.1 (pr.2.2.2.1 i.2.2.1) (pr.2.2.1 i.2.2.1) (pr.2.2.2.2.2.2.2 i.2.2.1) (pr.2.2.2.2.2.2.2 mi)
  | 33 => jo_oinit P (pc + i.2.1) ls st h (pr.2.2.2.2.2.2.2 mi)
  | 34 => jo_new P (pc + i.2.1) ls st h i.2.2.1 6 pr.2.2.2.2.2.1 pr.2.2.2.2.2.2.1
  | 35 => jo_xinit P (pc + i.2.1) ls st h i.2.2.1 (pr.2.2.2.2.2.2.2 mi)
  | 36 => jo_athrow P Q ls st h (pr.2.1 mi) pc
  | 37 => jo_iret Q st h
  | 38 => jo_zret Q st h
  | 39 => jo_vret Q st h
  | 40 => jo_aret Q st h
  | 41 => jo_i2l P (pc + i.2.1) ls st h
  | 42 => jo_lald P (pc + i.2.1) ls st h
  | 43 => jo_last P (pc + i.2.1) ls st h
  | 44 => jo_lcmp P (pc + i.2.1) ls st h
  | 45 => jo_max P (pc + i.2.1) ls st h (pr.2.2.2.2.2.2.2 mi)
  | 46 => jo_min P (pc + i.2.1) ls st h (pr.2.2.2.2.2.2.2 mi)
  | 47 => jo_copy P (pc + i.2.1) ls st h (pr.2.2.2.2.2.2.2 mi)
  | 50 => jo_irem P (pc + i.2.1) ls st h
  | 48 => jo_dupx1 P (pc + i.2.1) ls st h
  | _ => False
def jm_S (pr : jm_Pr) (E : Nat → List jm_V → jm_H → jm_Q → Prop) (mi : Nat) (P : jm_C → Prop) (Q : jm_Q) (c : jm_C) : Prop := match (pr.1 mi).lookup c.1 with
  | some i => jm_step pr E mi P Q i c.1 c.2.1 c.2.2.1 c.2.2.2
  | none => False
def jm_en (pr : jm_Pr) (mi : Nat) (as : List jm_V) : jm_Ls := as.map some ++ List.replicate (pr.2.2.1 mi - as.length) none
/-- method mi, called at depth d, ends so that Q holds -/
def jm_E (pr : jm_Pr) : Nat → Nat → List jm_V → jm_H → jm_Q → Prop
  | 0, _, _, _, _ => False
  | d + 1, mi, as, h, Q => as.length ≤ pr.2.2.1 mi ∧ ∀ P : jm_C → Prop, (∀ c, jm_S pr (jm_E pr d) mi P Q c → P c) → P (0, jm_en pr mi as, [], h)
/-- from c on -/
def jm_W (pr : jm_Pr) (d mi : Nat) (c : jm_C) (Q : jm_Q) : Prop := ∀ P : jm_C → Prop, (∀ c, jm_S pr (jm_E pr d) mi P Q c → P c) → P c
theorem jm_E_in {pr : jm_Pr} {d mi : Nat} {as : List jm_V} {h : jm_H} {Q : jm_Q} (hl : as.length ≤ pr.2.2.1 mi) (w : jm_W pr d mi (0, jm_en pr mi as, [], h) Q) : jm_E pr (d + 1) mi as h Q := ⟨hl, w⟩
section JMono
variable {P P' : jm_C → Prop} {Q Q' : jm_Q}
theorem jo_thr_mono (hP : ∀ c, P c → P' c) (hQ : ∀ o h, Q o h → Q' o h) {ls : jm_Ls} {h : jm_H} {hd : Nat → Nat → Option Nat} {pc a : Nat} : jo_thr P Q ls h hd pc a → jo_thr P' Q' ls h hd pc a := by
  unfold jo_thr
  split
  · exact fun z => ⟨z.1, hP _ z.2⟩
  · exact hQ _ _
theorem jm_step_mono (hP : ∀ c, P c → P' c) (hQ : ∀ o h, Q o h → Q' o h) {pr : jm_Pr} {E E' : Nat → List jm_V → jm_H → jm_Q → Prop} {mi : Nat} (hE : ∀ mi as h (Q Q' : jm_Q), (∀ o h', Q o h' → Q' o h') → E mi as h Q → E' mi as h Q') {i : jm_In} {pc : Nat} {ls : jm_Ls} {st : List jm_V} {h : jm_H} :
    jm_step pr E mi P Q i pc ls st h → jm_step pr E' mi P' Q' i pc ls st h := by
  obtain ⟨op, n, x, y, k⟩ := i
  intro z
  unfold jm_step at z ⊢
  dsimp only at z ⊢
  split at z
  all_goals first
    | exact hP _ z
    | exact z.elim
    | (unfold jo_call at z ⊢
       obtain ⟨h1, h0, h2, h3, h4⟩ := z
       refine ⟨h1, h0, h2, h3, hE _ _ _ _ _ ?_ h4⟩
       intro o h'
       split <;> first | exact hP _ | exact jo_thr_mono hP hQ)
    | (revert z
       (first | unfold jo_iload | unfold jo_aload | unfold jo_istore | unfold jo_astore | unfold jo_iinc | unfold jo_bin | unfold jo_if | unfold jo_icmp | unfold jo_switch | unfold jo_geti | unfold jo_getr | unfold jo_puti | unfold jo_putz | unfold jo_putr | unfold jo_iald | unfold jo_iast | unfold jo_aald | unfold jo_aast | unfold jo_alen | unfold jo_newa | unfold jo_multi | unfold jo_new | unfold jo_dup | unfold jo_dup2 | unfold jo_dupx1 | unfold jo_pop | unfold jo_oinit | unfold jo_xinit | unfold jo_athrow | unfold jo_iret | unfold jo_zret | unfold jo_vret | unfold jo_aret | unfold jo_i2l | unfold jo_lald | unfold jo_last | unfold jo_lcmp | unfold jo_max | unfold jo_min | unfold jo_copy | unfold jo_irem)
       first
         | exact fun z => ⟨z.1, z.2.1, hP _ z.2.2⟩
         | (split <;> first
             | exact id
             | exact hP _
             | exact hQ _ _
             | exact fun z => ⟨fun y => hP _ (z.1 y), fun y => hP _ (z.2 y)⟩
             | exact fun z => ⟨z.1, hP _ z.2⟩
             | exact fun z => ⟨z.1, hQ _ _ z.2⟩
             | exact fun z => ⟨z.1, z.2.1, hP _ z.2.2⟩
             | exact fun z => ⟨z.1, z.2.1, jo_thr_mono hP hQ z.2.2⟩
             | exact fun z => ⟨z.1, z.2.1, z.2.2.1, hP _ z.2.2.2⟩
             | exact fun z => ⟨z.1, z.2.1, z.2.2.1, z.2.2.2.1, hP _ z.2.2.2.2⟩
             | exact fun z => ⟨z.1, z.2.1, z.2.2.1, z.2.2.2.1, z.2.2.2.2.1, z.2.2.2.2.2.1, z.2.2.2.2.2.2.1, z.2.2.2.2.2.2.2.1, hP _ z.2.2.2.2.2.2.2.2⟩))
theorem jm_S_mono (hP : ∀ c, P c → P' c) (hQ : ∀ o h, Q o h → Q' o h) {pr : jm_Pr} {E E' : Nat → List jm_V → jm_H → jm_Q → Prop} {mi : Nat} (hE : ∀ mi as h (Q Q' : jm_Q), (∀ o h', Q o h' → Q' o h') → E mi as h Q → E' mi as h Q') {c : jm_C} : jm_S pr E mi P Q c → jm_S pr E' mi P' Q' c := by
  unfold jm_S
  split
  · exact jm_step_mono hP hQ hE
  · exact id
end JMono
theorem jm_E_mono {pr : jm_Pr} : ∀ (d mi : Nat) (as : List jm_V) (h : jm_H) (Q Q' : jm_Q), (∀ o h', Q o h' → Q' o h') → jm_E pr d mi as h Q → jm_E pr d mi as h Q'
  | 0, _, _, _, _, _, _, z => z
  | d + 1, _, _, _, _, _, hQ, z => ⟨z.1, fun P hP => z.2 P fun c hc => hP c (jm_S_mono (fun _ y => y) hQ (jm_E_mono d) hc)⟩
theorem jm_E_up {pr : jm_Pr} : ∀ (d mi : Nat) (as : List jm_V) (h : jm_H) (Q Q' : jm_Q), (∀ o h', Q o h' → Q' o h') → jm_E pr d mi as h Q → jm_E pr (d + 1) mi as h Q'
  | 0, _, _, _, _, _, _, z => z.elim
  | d + 1, _, _, _, _, _, hQ, z => ⟨z.1, fun P hP => z.2 P fun c hc => hP c (jm_S_mono (fun _ y => y) hQ (jm_E_up d) hc)⟩
theorem jm_E_le {pr : jm_Pr} {d d' mi : Nat} {as : List jm_V} {h : jm_H} {Q : jm_Q} (hd : d ≤ d') (z : jm_E pr d mi as h Q) : jm_E pr d' mi as h Q := by
  induction hd with
  | refl => exact z
  | step _ ih => exact jm_E_up _ _ _ _ _ _ (fun _ _ y => y) ih
theorem jm_W_mono {pr : jm_Pr} {d mi : Nat} {c : jm_C} {Q Q' : jm_Q} (hQ : ∀ o h, Q o h → Q' o h) (z : jm_W pr d mi c Q) : jm_W pr d mi c Q' := fun P hP => z P fun c hc => hP c (jm_S_mono (fun _ y => y) hQ (jm_E_mono d) hc)
theorem jm_W_fold {pr : jm_Pr} {d mi : Nat} {c : jm_C} {Q : jm_Q} (z : jm_S pr (jm_E pr d) mi (fun c => jm_W pr d mi c Q) Q c) : jm_W pr d mi c Q := fun P hP => hP c (jm_S_mono (fun _ y => y P hP) (fun _ _ y => y) (jm_E_mono d) z)
/-- k steps at once -/
def jm_B (pr : jm_Pr) (d mi : Nat) (Q : jm_Q) : Nat → jm_C → Prop
  | 0, c => jm_W pr d mi c Q
  | k + 1, c => jm_S pr (jm_E pr d) mi (jm_B pr d mi Q k) Q c
theorem jm_blk {pr : jm_Pr} {d mi : Nat} {Q : jm_Q} : ∀ (k : Nat) {c : jm_C}, jm_B pr d mi Q k c → jm_W pr d mi c Q
  | 0, _, z => z
  | k + 1, _, z => jm_W_fold (jm_S_mono (fun _ y => jm_blk k y) (fun _ _ y => y) (jm_E_mono d) z)
end
section
/-! Reading behind writing, of the abstract heap. -/
theorem jr_n_sI (h : jm_H) (a k : Nat) (x : Int32) : (jm_sI h a k x).1 = h.1 := rfl
theorem jr_z_sI (h : jm_H) (a k : Nat) (x : Int32) : (jm_sI h a k x).2.1 = h.2.1 := rfl
theorem jr_n_sF (h : jm_H) (a k x : Nat) : (jm_sF h a k x).1 = h.1 := rfl
theorem jr_z_sF (h : jm_H) (a k x : Nat) : (jm_sF h a k x).2.1 = h.2.1 := rfl
theorem jr_n_sL (h : jm_H) (a k : Nat) (x : Int64) : (jm_sL h a k x).1 = h.1 := rfl
theorem jr_z_sL (h : jm_H) (a k : Nat) (x : Int64) : (jm_sL h a k x).2.1 = h.2.1 := rfl
theorem jr_n_sT (h : jm_H) (a t : Nat) : (jm_sT h a t).1 = h.1 := rfl
theorem jr_z_sT (h : jm_H) (a t : Nat) : (jm_sT h a t).2.1 = h.2.1 := rfl
theorem jr_n_sA (h : jm_H) (a : Nat) (f : Nat → Int32) : (jm_sA h a f).1 = h.1 := rfl
theorem jr_z_sA (h : jm_H) (a : Nat) (f : Nat → Int32) : (jm_sA h a f).2.1 = h.2.1 := rfl
theorem jr_n_new (h : jm_H) (t n z : Nat) : (jm_new h t n z).1 = h.1 + 1 := rfl
theorem jr_z_new (h : jm_H) (t n z : Nat) : (jm_new h t n z).2.1 = h.2.1 + z := rfl
theorem jr_T_sI (h : jm_H) (a k : Nat) (x : Int32) (b : Nat) : jm_T (jm_sI h a k x) b = jm_T h b := by
  unfold jm_T jm_sI
  by_cases hb : b = a
  · subst hb
    simp only [jm_up_self]
  · simp only [jm_up_ne _ _ hb]
theorem jr_T_sF (h : jm_H) (a k x : Nat) (b : Nat) : jm_T (jm_sF h a k x) b = jm_T h b := by
  unfold jm_T jm_sF
  by_cases hb : b = a
  · subst hb
    simp only [jm_up_self]
  · simp only [jm_up_ne _ _ hb]
theorem jr_T_sL (h : jm_H) (a k : Nat) (x : Int64) (b : Nat) : jm_T (jm_sL h a k x) b = jm_T h b := by
  unfold jm_T jm_sL
  by_cases hb : b = a
  · subst hb
    simp only [jm_up_self]
  · simp only [jm_up_ne _ _ hb]
theorem jr_T_sT (h : jm_H) (a t : Nat) (b : Nat) : jm_T (jm_sT h a t) b = if b = a then t else jm_T h b := by
  unfold jm_T jm_sT
  by_cases hb : b = a
  · subst hb
    simp only [jm_up_self]
    simp
  · simp only [jm_up_ne _ _ hb]
    simp [hb]
theorem jr_T_sA (h : jm_H) (a : Nat) (f : Nat → Int32) (b : Nat) : jm_T (jm_sA h a f) b = jm_T h b := by
  unfold jm_T jm_sA
  by_cases hb : b = a
  · subst hb
    simp only [jm_up_self]
  · simp only [jm_up_ne _ _ hb]
theorem jr_T_new (h : jm_H) (t n z : Nat) (b : Nat) : jm_T (jm_new h t n z) b = if b = h.1 then t else jm_T h b := by
  unfold jm_T jm_new
  by_cases hb : b = h.1
  · subst hb
    simp only [jm_up_self]
    simp
  · simp only [jm_up_ne _ _ hb]
    simp [hb]
theorem jr_N_sI (h : jm_H) (a k : Nat) (x : Int32) (b : Nat) : jm_N (jm_sI h a k x) b = jm_N h b := by
  unfold jm_N jm_sI
  by_cases hb : b = a
  · subst hb
    simp only [jm_up_self]
  · simp only [jm_up_ne _ _ hb]
theorem jr_N_sF (h : jm_H) (a k x : Nat) (b : Nat) : jm_N (jm_sF h a k x) b = jm_N h b := by
  unfold jm_N jm_sF
  by_cases hb : b = a
  · subst hb
    simp only [jm_up_self]
  · simp only [jm_up_ne _ _ hb]
theorem jr_N_sL (h : jm_H) (a k : Nat) (x : Int64) (b : Nat) : jm_N (jm_sL h a k x) b = jm_N h b := by
  unfold jm_N jm_sL
  by_cases hb : b = a
  · subst hb
    simp only [jm_up_self]
  · simp only [jm_up_ne _ _ hb]
theorem jr_N_sT (h : jm_H) (a t : Nat) (b : Nat) : jm_N (jm_sT h a t) b = jm_N h b := by
  unfold jm_N jm_sT
  by_cases hb : b = a
  · subst hb
    simp only [jm_up_self]
  · simp only [jm_up_ne _ _ hb]
theorem jr_N_sA (h : jm_H) (a : Nat) (f : Nat → Int32) (b : Nat) : jm_N (jm_sA h a f) b = jm_N h b := by
  unfold jm_N jm_sA
  by_cases hb : b = a
  · subst hb
    simp only [jm_up_self]
  · simp only [jm_up_ne _ _ hb]
theorem jr_N_new (h : jm_H) (t n z : Nat) (b : Nat) : jm_N (jm_new h t n z) b = if b = h.1 then n else jm_N h b := by
  unfold jm_N jm_new
  by_cases hb : b = h.1
  · subst hb
    simp only [jm_up_self]
    simp
  · simp only [jm_up_ne _ _ hb]
    simp [hb]
theorem jr_I_sI (h : jm_H) (a k : Nat) (x : Int32) (b j : Nat) : jm_I (jm_sI h a k x) b j = if b = a ∧ j = k then x else jm_I h b j := by
  unfold jm_I jm_sI
  by_cases hb : b = a
  · subst hb
    simp only [jm_up_self]
    by_cases hj : j = k
    · subst hj; simp [jm_up_self]
    · simp [jm_up_ne _ _ hj, hj]
  · simp only [jm_up_ne _ _ hb]
    simp [hb]
theorem jr_I_sF (h : jm_H) (a k x : Nat) (b j : Nat) : jm_I (jm_sF h a k x) b j = jm_I h b j := by
  unfold jm_I jm_sF
  by_cases hb : b = a
  · subst hb
    simp only [jm_up_self]
  · simp only [jm_up_ne _ _ hb]
theorem jr_I_sL (h : jm_H) (a k : Nat) (x : Int64) (b j : Nat) : jm_I (jm_sL h a k x) b j = jm_I h b j := by
  unfold jm_I jm_sL
  by_cases hb : b = a
  · subst hb
    simp only [jm_up_self]
  · simp only [jm_up_ne _ _ hb]
theorem jr_I_sT (h : jm_H) (a t : Nat) (b j : Nat) : jm_I (jm_sT h a t) b j = jm_I h b j := by
  unfold jm_I jm_sT
  by_cases hb : b = a
  · subst hb
    simp only [jm_up_self]
  · simp only [jm_up_ne _ _ hb]
theorem jr_I_sA (h : jm_H) (a : Nat) (f : Nat → Int32) (b j : Nat) : jm_I (jm_sA h a f) b j = if b = a then f j else jm_I h b j := by
  unfold jm_I jm_sA
  by_cases hb : b = a
  · subst hb
    simp only [jm_up_self]
    simp
  · simp only [jm_up_ne _ _ hb]
    simp [hb]
theorem jr_I_new (h : jm_H) (t n z : Nat) (b j : Nat) : jm_I (jm_new h t n z) b j = if b = h.1 then 0 else jm_I h b j := by
  unfold jm_I jm_new
  by_cases hb : b = h.1
  · subst hb
    simp only [jm_up_self]
    simp
  · simp only [jm_up_ne _ _ hb]
    simp [hb]
theorem jr_F_sI (h : jm_H) (a k : Nat) (x : Int32) (b j : Nat) : jm_F (jm_sI h a k x) b j = jm_F h b j := by
  unfold jm_F jm_sI
  by_cases hb : b = a
  · subst hb
    simp only [jm_up_self]
  · simp only [jm_up_ne _ _ hb]
theorem jr_F_sF (h : jm_H) (a k x : Nat) (b j : Nat) : jm_F (jm_sF h a k x) b j = if b = a ∧ j = k then x else jm_F h b j := by
  unfold jm_F jm_sF
  by_cases hb : b = a
  · subst hb
    simp only [jm_up_self]
    by_cases hj : j = k
    · subst hj; simp [jm_up_self]
    · simp [jm_up_ne _ _ hj, hj]
  · simp only [jm_up_ne _ _ hb]
    simp [hb]
theorem jr_F_sL (h : jm_H) (a k : Nat) (x : Int64) (b j : Nat) : jm_F (jm_sL h a k x) b j = jm_F h b j := by
  unfold jm_F jm_sL
  by_cases hb : b = a
  · subst hb
    simp only [jm_up_self]
  · simp only [jm_up_ne _ _ hb]
theorem jr_F_sT (h : jm_H) (a t : Nat) (b j : Nat) : jm_F (jm_sT h a t) b j = jm_F h b j := by
  unfold jm_F jm_sT
  by_cases hb : b = a
  · subst hb
    simp only [jm_up_self]
  · simp only [jm_up_ne _ _ hb]
theorem jr_F_sA (h : jm_H) (a : Nat) (f : Nat → Int32) (b j : Nat) : jm_F (jm_sA h a f) b j = jm_F h b j := by
  unfold jm_F jm_sA
  by_cases hb : b = a
  · subst hb
    simp only [jm_up_self]
  · simp only [jm_up_ne _ _ hb]
theorem jr_F_new (h : jm_H) (t n z : Nat) (b j : Nat) : jm_F (jm_new h t n z) b j = if b = h.1 then 0 else jm_F h b j := by
  unfold jm_F jm_new
  by_cases hb : b = h.1
  · subst hb
    simp only [jm_up_self]
    simp
  · simp only [jm_up_ne _ _ hb]
    simp [hb]
theorem jr_L_sI (h : jm_H) (a k : Nat) (x : Int32) (b j : Nat) : jm_L (jm_sI h a k x) b j = jm_L h b j := by
  unfold jm_L jm_sI
  by_cases hb : b = a
  · subst hb
    simp only [jm_up_self]
  · simp only [jm_up_ne _ _ hb]
theorem jr_L_sF (h : jm_H) (a k x : Nat) (b j : Nat) : jm_L (jm_sF h a k x) b j = jm_L h b j := by
  unfold jm_L jm_sF
  by_cases hb : b = a
  · subst hb
    simp only [jm_up_self]
  · simp only [jm_up_ne _ _ hb]
theorem jr_L_sL (h : jm_H) (a k : Nat) (x : Int64) (b j : Nat) : jm_L (jm_sL h a k x) b j = if b = a ∧ j = k then x else jm_L h b j := by
  unfold jm_L jm_sL
  by_cases hb : b = a
  · subst hb
    simp only [jm_up_self]
    by_cases hj : j = k
    · subst hj; simp [jm_up_self]
    · simp [jm_up_ne _ _ hj, hj]
  · simp only [jm_up_ne _ _ hb]
    simp [hb]
theorem jr_L_sT (h : jm_H) (a t : Nat) (b j : Nat) : jm_L (jm_sT h a t) b j = jm_L h b j := by
  unfold jm_L jm_sT
  by_cases hb : b = a
  · subst hb
    simp only [jm_up_self]
  · simp only [jm_up_ne _ _ hb]
theorem jr_L_sA (h : jm_H) (a : Nat) (f : Nat → Int32) (b j : Nat) : jm_L (jm_sA h a f) b j = jm_L h b j := by
  unfold jm_L jm_sA
  by_cases hb : b = a
  · subst hb
    simp only [jm_up_self]
  · simp only [jm_up_ne _ _ hb]
theorem jr_L_new (h : jm_H) (t n z : Nat) (b j : Nat) : jm_L (jm_new h t n z) b j = if b = h.1 then 0 else jm_L h b j := by
  unfold jm_L jm_new
  by_cases hb : b = h.1
  · subst hb
    simp only [jm_up_self]
    simp
  · simp only [jm_up_ne _ _ hb]
    simp [hb]
end
section
/-! How the abstract machine's heap and frames stand to the machine's own. -/
/-- b: the script's cell; the first new cell; the script; class numbers and slots; int[]; long[]; arrays of references, by kind; exceptions, by kind; the state at the law's start -/
abbrev jm_G : Type := Nat × Nat × Cell × va_G × ClassId × ClassId × (Nat → ClassId) × (Nat → ClassId × Array FieldType) × State
/-- classes by kind; types of their fields; component types of the arrays of references, by kind; names of the exceptions by kind -/
abbrev jm_J : Type := List vw_C × (Nat → Nat → FieldType) × (Nat → Option FieldType) × (Nat → Option String)
def jg_ad (G : jm_G) (r : Nat) : Nat := if r = 1 then G.1 else G.2.1 + (r - 2)
def jg_mv (G : jm_G) : jm_V → Value
  | .inl x => .int x
  | .inr (.inl 0) => .null
  | .inr (.inl (r + 1)) => .ref (jg_ad G (r + 1))
  | .inr (.inr z) => .long z
theorem jg_mv_ref (G : jm_G) {r : Nat} (h : r ≠ 0) : jg_mv G (.inr (.inl r)) = .ref (jg_ad G r) := by
  cases r with
  | zero => exact absurd rfl h
  | succ r => rfl
theorem jg_mv_obj (G : jm_G) {r : Nat} (h : 2 ≤ r) : jg_mv G (.inr (.inl r)) = .ref (G.2.1 + (r - 2)) := by
  rw [jg_mv_ref G (by omega)]
  simp [jg_ad, show r ≠ 1 by omega]
theorem jg_mv_c1 (G : jm_G) {v : jm_V} (h : ∀ z, v ≠ .inr (.inr z)) : (jg_mv G v).category = 1 := by
  rcases v with v | v | v
  · rfl
  · cases v <;> rfl
  · exact absurd rfl (h v)
def jm_isI : FieldType → Bool
  | .int => true
  | .boolean => true
  | _ => false
def jg_fv (G : jm_G) (ty : Nat → FieldType) (o : jm_O) (k : Nat) : Value := if jm_isI (ty k) = true then .int (o.2.2.1 k) else jg_mv G (.inr (.inl (o.2.2.2.1 k)))
/-- the object o stands at the cell a -/
def jg_at (G : jm_G) (J : jm_J) (o : jm_O) (a : Nat) (H : Heap) : Prop :=
  if o.1 = 100 then H[a]? = some (arrV G.2.2.2.2.1 o.2.1 (fun j => .int (o.2.2.1 j)))
  else if o.1 = 101 then H[a]? = some (arrV G.2.2.2.2.2.1 o.2.1 (fun j => .long (o.2.2.2.2 j)))
  else if o.1 < 60 then ∃ q, J.1[o.1]? = some q ∧ t_OB a (G.2.2.2.1.1 o.1) q.2.2 (G.2.2.2.1.2 o.1) H (jg_fv G (J.2.1 o.1) o)
  else if o.1 < 99 then H[a]? = some (arrV (G.2.2.2.2.2.2.1 o.1) o.2.1 (fun j => jg_mv G (.inr (.inl (o.2.2.2.1 j)))))
  else if o.1 < 200 then False
  else if o.1 % 2 = 0 then (∃ nm, J.2.2.2 o.1 = some nm) ∧ H[a]? = some { cls := (G.2.2.2.2.2.2.2.1 o.1).1, slots := (G.2.2.2.2.2.2.2.1 o.1).2.map defaultValue, vm := .none }
  else (∃ nm, J.2.2.2 (o.1 - 1) = some nm) ∧ ∃ cell, H[a]? = some cell ∧ cell.cls = (G.2.2.2.2.2.2.2.1 (o.1 - 1)).1 ∧ cell.vm = .none
theorem jg_at.kept {G : jm_G} {J : jm_J} {o : jm_O} {a : Nat} {H H' : Heap} (h : jg_at G J o a H) (hq : H'[a]? = H[a]?) : jg_at G J o a H' := by
  unfold jg_at at h ⊢
  split
  · rename_i c; rw [if_pos c] at h; rw [hq]; exact h
  · rename_i c; rw [if_neg c] at h
    split
    · rename_i c; rw [if_pos c] at h; rw [hq]; exact h
    · rename_i c; rw [if_neg c] at h
      split
      · rename_i c; rw [if_pos c] at h
        obtain ⟨q, h1, h2⟩ := h
        exact ⟨q, h1, h2.kept hq⟩
      · rename_i c; rw [if_neg c] at h
        split
        · rename_i c; rw [if_pos c] at h; rw [hq]; exact h
        · rename_i c; rw [if_neg c] at h
          split
          · rename_i c; rw [if_pos c] at h; exact h
          · rename_i c; rw [if_neg c] at h
            split
            · rename_i c; rw [if_pos c] at h; rw [hq]; exact h
            · rename_i c; rw [if_neg c] at h; rw [hq]; exact h
/-- an object's cell is a plain one -/
theorem jg_at.plain {G : jm_G} {J : jm_J} {o : jm_O} {a : Nat} {H : Heap} (h : jg_at G J o a H) {cell : Cell} (hc : H[a]? = some cell) : cell.vm = .none := by
  unfold jg_at at h
  split at h
  · rw [hc] at h; cases h; rfl
  · split at h
    · rw [hc] at h; cases h; rfl
    · split at h
      · obtain ⟨q, -, c', h1, -, h2, -⟩ := h
        rw [hc] at h1; cases h1; exact h2
      · split at h
        · rw [hc] at h; cases h; rfl
        · split at h
          · exact h.elim
          · split at h
            · have h1 := h.2
              rw [hc] at h1; cases h1; rfl
            · obtain ⟨-, c', h1, -, h2⟩ := h
              rw [hc] at h1; cases h1; exact h2
theorem jg_at.arrI {G : jm_G} {J : jm_J} {o : jm_O} {a : Nat} {H : Heap} (h : jg_at G J o a H) (ht : o.1 = 100) : H[a]? = some (arrV G.2.2.2.2.1 o.2.1 (fun j => .int (o.2.2.1 j))) := by
  unfold jg_at at h; rw [if_pos ht] at h; exact h
theorem jg_at.arrL {G : jm_G} {J : jm_J} {o : jm_O} {a : Nat} {H : Heap} (h : jg_at G J o a H) (ht : o.1 = 101) : H[a]? = some (arrV G.2.2.2.2.2.1 o.2.1 (fun j => .long (o.2.2.2.2 j))) := by
  unfold jg_at at h; rw [if_neg (by omega), if_pos ht] at h; exact h
theorem jg_at.obj {G : jm_G} {J : jm_J} {o : jm_O} {a : Nat} {H : Heap} (h : jg_at G J o a H) (ht : o.1 < 60) : ∃ q, J.1[o.1]? = some q ∧ t_OB a (G.2.2.2.1.1 o.1) q.2.2 (G.2.2.2.1.2 o.1) H (jg_fv G (J.2.1 o.1) o) := by
  unfold jg_at at h; rw [if_neg (by omega), if_neg (by omega), if_pos ht] at h; exact h
theorem jg_at.arrR {G : jm_G} {J : jm_J} {o : jm_O} {a : Nat} {H : Heap} (h : jg_at G J o a H) (h1 : 60 ≤ o.1) (h2 : o.1 < 99) : H[a]? = some (arrV (G.2.2.2.2.2.2.1 o.1) o.2.1 (fun j => jg_mv G (.inr (.inl (o.2.2.2.1 j))))) := by
  unfold jg_at at h; rw [if_neg (by omega), if_neg (by omega), if_neg (by omega), if_pos h2] at h; exact h
theorem jg_at.ex0 {G : jm_G} {J : jm_J} {o : jm_O} {a : Nat} {H : Heap} (h : jg_at G J o a H) (h1 : 200 ≤ o.1) (h2 : o.1 % 2 = 0) : (∃ nm, J.2.2.2 o.1 = some nm) ∧ H[a]? = some { cls := (G.2.2.2.2.2.2.2.1 o.1).1, slots := (G.2.2.2.2.2.2.2.1 o.1).2.map defaultValue, vm := .none } := by
  unfold jg_at at h; rw [if_neg (by omega), if_neg (by omega), if_neg (by omega), if_neg (by omega), if_neg (by omega), if_pos h2] at h; exact h
theorem jg_at.ex1 {G : jm_G} {J : jm_J} {o : jm_O} {a : Nat} {H : Heap} (h : jg_at G J o a H) (h1 : 200 ≤ o.1) (h2 : ¬ o.1 % 2 = 0) : (∃ nm, J.2.2.2 (o.1 - 1) = some nm) ∧ ∃ cell, H[a]? = some cell ∧ cell.cls = (G.2.2.2.2.2.2.2.1 (o.1 - 1)).1 ∧ cell.vm = .none := by
  unfold jg_at at h; rw [if_neg (by omega), if_neg (by omega), if_neg (by omega), if_neg (by omega), if_neg (by omega), if_neg h2] at h; exact h
theorem jg_at.mkI {G : jm_G} {J : jm_J} {o : jm_O} {a : Nat} {H : Heap} (ht : o.1 = 100) (h : H[a]? = some (arrV G.2.2.2.2.1 o.2.1 (fun j => .int (o.2.2.1 j)))) : jg_at G J o a H := by
  unfold jg_at; rw [if_pos ht]; exact h
theorem jg_at.mkL {G : jm_G} {J : jm_J} {o : jm_O} {a : Nat} {H : Heap} (ht : o.1 = 101) (h : H[a]? = some (arrV G.2.2.2.2.2.1 o.2.1 (fun j => .long (o.2.2.2.2 j)))) : jg_at G J o a H := by
  unfold jg_at; rw [if_neg (by omega), if_pos ht]; exact h
theorem jg_at.mkO {G : jm_G} {J : jm_J} {o : jm_O} {a : Nat} {H : Heap} (ht : o.1 < 60) (h : ∃ q, J.1[o.1]? = some q ∧ t_OB a (G.2.2.2.1.1 o.1) q.2.2 (G.2.2.2.1.2 o.1) H (jg_fv G (J.2.1 o.1) o)) : jg_at G J o a H := by
  unfold jg_at; rw [if_neg (by omega), if_neg (by omega), if_pos ht]; exact h
theorem jg_at.mkR {G : jm_G} {J : jm_J} {o : jm_O} {a : Nat} {H : Heap} (h1 : 60 ≤ o.1) (h2 : o.1 < 99) (h : H[a]? = some (arrV (G.2.2.2.2.2.2.1 o.1) o.2.1 (fun j => jg_mv G (.inr (.inl (o.2.2.2.1 j)))))) : jg_at G J o a H := by
  unfold jg_at; rw [if_neg (by omega), if_neg (by omega), if_neg (by omega), if_pos h2]; exact h
theorem jg_at.mk0 {G : jm_G} {J : jm_J} {o : jm_O} {a : Nat} {H : Heap} (h1 : 200 ≤ o.1) (h2 : o.1 % 2 = 0) (h : (∃ nm, J.2.2.2 o.1 = some nm) ∧ H[a]? = some { cls := (G.2.2.2.2.2.2.2.1 o.1).1, slots := (G.2.2.2.2.2.2.2.1 o.1).2.map defaultValue, vm := .none }) : jg_at G J o a H := by
  unfold jg_at; rw [if_neg (by omega), if_neg (by omega), if_neg (by omega), if_neg (by omega), if_neg (by omega), if_pos h2]; exact h
theorem jg_at.mk1 {G : jm_G} {J : jm_J} {o : jm_O} {a : Nat} {H : Heap} (h1 : 200 ≤ o.1) (h2 : ¬ o.1 % 2 = 0) (h : (∃ nm, J.2.2.2 (o.1 - 1) = some nm) ∧ ∃ cell, H[a]? = some cell ∧ cell.cls = (G.2.2.2.2.2.2.2.1 (o.1 - 1)).1 ∧ cell.vm = .none) : jg_at G J o a H := by
  unfold jg_at; rw [if_neg (by omega), if_neg (by omega), if_neg (by omega), if_neg (by omega), if_neg (by omega), if_neg h2]; exact h
/-- the heaps agree -/
def jg_R (G : jm_G) (J : jm_J) (h : jm_H) (H : Heap) : Prop :=
  (2 ≤ h.1 ∧ H.size = G.2.1 + (h.1 - 2) ∧ G.1 < G.2.1 ∧ ∀ q, q < G.2.1 → H[q]? = G.2.2.2.2.2.2.2.2.heap[q]?) ∧ (∀ r, r = 0 ∨ h.1 ≤ r → jm_T h r = 0) ∧ (∀ r, 2 ≤ r → r < h.1 → jg_at G J (h.2.2 r) (G.2.1 + (r - 2)) H) ∧
  (jm_T h 1 = 99 ∧ H[G.1]? = some G.2.2.1 ∧ G.2.2.1.vm ≠ .unknown ∧ G.2.2.1.slots.size = jm_N h 1 ∧ ∀ j, j < jm_N h 1 → G.2.2.1.slots[j]? = some (.int (jm_I h 1 j)))
theorem jg_R.pos {G : jm_G} {J : jm_J} {h : jm_H} {H : Heap} (hR : jg_R G J h H) {a t : Nat} (ht : jm_T h a = t) (h0 : t ≠ 0) (h9 : t ≠ 99) : 2 ≤ a ∧ a < h.1 := by
  obtain ⟨-, hz, -, hs⟩ := hR
  have e0 : ¬ (a = 0 ∨ h.1 ≤ a) := fun q => h0 (by rw [← ht]; exact hz a q)
  have e1 : a ≠ 1 := fun q => h9 (by rw [← ht, q]; exact hs.1)
  omega
theorem jg_R.at {G : jm_G} {J : jm_J} {h : jm_H} {H : Heap} (hR : jg_R G J h H) {a t : Nat} (ht : jm_T h a = t) (h0 : t ≠ 0) (h9 : t ≠ 99) : jg_at G J (h.2.2 a) (G.2.1 + (a - 2)) H :=
  hR.2.2.1 a (hR.pos ht h0 h9).1 (hR.pos ht h0 h9).2
theorem jg_R.upd {G : jm_G} {J : jm_J} {h h' : jm_H} {H H' : Heap} (hR : jg_R G J h H) {r : Nat} (h2 : 2 ≤ r) (hr : r < h.1) (e1 : h'.1 = h.1) (e3 : ∀ x, x ≠ r → h'.2.2 x = h.2.2 x)
    (hs : H'.size = H.size) (hq : ∀ q, q ≠ G.2.1 + (r - 2) → H'[q]? = H[q]?) (ha : jg_at G J (h'.2.2 r) (G.2.1 + (r - 2)) H') : jg_R G J h' H' := by
  obtain ⟨⟨p1, p2, p3, p4⟩, hz, hA, s1, s2, s3, s4, s5⟩ := hR
  have ex : h'.2.2 1 = h.2.2 1 := e3 1 (by omega)
  refine ⟨⟨by omega, by rw [hs, e1]; exact p2, p3, fun q hq' => (hq q (by omega)).trans (p4 q hq')⟩, fun x hx => ?_, fun x h1 h3 => ?_, ?_, ?_, s3, ?_, ?_⟩
  · have hne : x ≠ r := by rw [e1] at hx; omega
    show (h'.2.2 x).1 = 0
    rw [e3 x hne]
    exact hz x (by rw [e1] at hx; exact hx)
  · by_cases hx : x = r
    · subst hx; exact ha
    · rw [e3 x hx]
      exact (hA x h1 (by omega)).kept (hq _ (by omega))
  · show (h'.2.2 1).1 = 99
    rw [ex]; exact s1
  · rw [hq _ (by omega)]; exact s2
  · show _ = (h'.2.2 1).2.1
    rw [ex]; exact s4
  · show ∀ j, j < (h'.2.2 1).2.1 → G.2.2.1.slots[j]? = some (Value.int ((h'.2.2 1).2.2.1 j))
    rw [ex]; exact s5
theorem jg_R.push {G : jm_G} {J : jm_J} {h : jm_H} {H H' : Heap} (hR : jg_R G J h H) {t n z : Nat} (hs : H'.size = H.size + 1) (hq : ∀ q, q < H.size → H'[q]? = H[q]?)
    (ha : jg_at G J (t, n, fun _ => 0, fun _ => 0, fun _ => 0) H.size H') : jg_R G J (jm_new h t n z) H' := by
  obtain ⟨⟨p1, p2, p3, p4⟩, hz, hA, s1, s2, s3, s4, s5⟩ := hR
  have ex : (jm_new h t n z).2.2 1 = h.2.2 1 := jm_up_ne _ _ (by omega)
  refine ⟨⟨by show 2 ≤ h.1 + 1; omega, by show H'.size = _ + (h.1 + 1 - 2); omega, p3, fun q hq' => (hq q (by omega)).trans (p4 q hq')⟩, fun x hx => ?_, fun x h1 h3 => ?_, ?_, ?_, s3, ?_, ?_⟩
  · have hx' : x = 0 ∨ h.1 + 1 ≤ x := hx
    show (jm_up h.2.2 h.1 _ x).1 = 0
    rw [jm_up_ne _ _ (by omega)]
    exact hz x (by omega)
  · have h3' : x < h.1 + 1 := h3
    show jg_at G J (jm_up h.2.2 h.1 _ x) _ H'
    by_cases hx : x = h.1
    · subst hx
      rw [jm_up_self, show G.2.1 + (h.1 - 2) = H.size by omega]
      exact ha
    · rw [jm_up_ne _ _ hx]
      exact (hA x h1 (by omega)).kept (hq _ (by omega))
  · show ((jm_new h t n z).2.2 1).1 = 99
    rw [ex]; exact s1
  · rw [hq _ (by omega)]; exact s2
  · show _ = ((jm_new h t n z).2.2 1).2.1
    rw [ex]; exact s4
  · show ∀ j, j < ((jm_new h t n z).2.2 1).2.1 → G.2.2.1.slots[j]? = some (Value.int (((jm_new h t n z).2.2 1).2.2.1 j))
    rw [ex]; exact s5
theorem jg_R.plain {G : jm_G} {J : jm_J} {h : jm_H} {H : Heap} (hR : jg_R G J h H) {q : Nat} {cell : Cell} (hq : G.2.1 ≤ q) (hc : H[q]? = some cell) : cell.vm = .none := by
  obtain ⟨⟨p1, p2, p3, p4⟩, hz, hA, -⟩ := hR
  have hlt : q < H.size := (Array.getElem?_eq_some_iff.mp hc).1
  have hat := hA (q - G.2.1 + 2) (by omega) (by omega)
  rw [show G.2.1 + (q - G.2.1 + 2 - 2) = q by omega] at hat
  exact hat.plain hc
/-- the locals agree -/
def jg_Ls (G : jm_G) (arr : Array Slot) (n : Nat) (ls : jm_Ls) : Prop :=
  arr.size = n ∧ lv_wf arr ∧ ls.length = n ∧ ∀ (i : Nat) (v : jm_V), ls[i]? = some (some v) → arr[i]? = some (Slot.val (jg_mv G v)) ∧ ∀ z, v ≠ .inr (.inr z)
theorem jg_Ls.store {G : jm_G} {arr : Array Slot} {n : Nat} {ls : jm_Ls} (h : jg_Ls G arr n ls) {i : Nat} (hi : i < n) (v : jm_V) (hv : ∀ z, v ≠ .inr (.inr z)) :
    ∃ arr', storeLocals arr i (jg_mv G v) = some arr' ∧ jg_Ls G arr' n (ls.set i (some v)) := by
  obtain ⟨h1, h2, h3, h4⟩ := h
  have hh : lv_has arr n ((List.range n).filterMap (fun j => match ls[j]? with | some (some w) => some (j, jg_mv G w) | _ => none)) := by
    refine ⟨h1, h2, fun q hq => ?_⟩
    obtain ⟨j, -, hj⟩ := List.mem_filterMap.mp hq
    split at hj
    · rename_i w hw
      cases hj
      exact (h4 j w hw).1
    · cases hj
  obtain ⟨arr', e1, e2, e3, e4⟩ := lv_store1 (v := jg_mv G v) hh hi (jg_mv_c1 G hv)
  refine ⟨arr', e1, e2, e3, by rw [List.length_set]; exact h3, fun j w hw => ?_⟩
  by_cases hj : j = i
  · subst hj
    rw [List.getElem?_set_self (by omega)] at hw
    cases hw
    exact ⟨e4 (j, jg_mv G v) List.mem_cons_self, hv⟩
  · rw [List.getElem?_set_ne (Ne.symm hj)] at hw
    obtain ⟨g1, g2⟩ := h4 j w hw
    refine ⟨e4 (j, jg_mv G w) (List.mem_cons_of_mem _ (List.mem_filter.mpr ⟨List.mem_filterMap.mpr ⟨j, List.mem_range.mpr ?_, by rw [hw]⟩, ?_⟩)), g2⟩
    · have := (List.getElem?_eq_some_iff.mp hw).1
      omega
    · have := jg_mv_c1 G g2
      simp [this, hj]
theorem jg_Ls.entry {G : jm_G} {as : List jm_V} {n : Nat} (hl : as.length ≤ n) (hc : ∀ v ∈ as, ∀ z, v ≠ .inr (.inr z)) (m : MethodId) :
    ∃ arr, entryFrame m (as.map (jg_mv G)).toArray n = F0 m 0 arr [] ∧ jg_Ls G arr n (as.map some ++ List.replicate (n - as.length) none) := by
  have hc' : ∀ v ∈ as.map (jg_mv G), v.category = 1 := fun v hv => by
    obtain ⟨w, hw, rfl⟩ := List.mem_map.mp hv
    exact jg_mv_c1 G (hc w hw)
  refine ⟨_, entry_eq m _ hc' n, ?_, ?_, ?_, ?_⟩
  · simp; omega
  · have key : ∀ (i : Nat) (x : Slot), ((as.map (jg_mv G)).map Slot.val ++ List.replicate (n - (as.map (jg_mv G)).length) Slot.unset).toArray[i]? = some x → x = .unset ∨ ∃ v, x = .val v ∧ v.category = 1 := by
      intro i x hx
      have hm : x ∈ (as.map (jg_mv G)).map Slot.val ++ List.replicate (n - (as.map (jg_mv G)).length) Slot.unset := List.mem_of_getElem? (by rw [← List.getElem?_toArray]; exact hx)
      rcases List.mem_append.mp hm with h | h
      · obtain ⟨v, hv, rfl⟩ := List.mem_map.mp h
        exact Or.inr ⟨v, rfl, hc' v hv⟩
      · exact Or.inl (List.eq_of_mem_replicate h)
    refine ⟨fun i v h1 h2 => ?_, fun i h1 => ?_⟩
    · rcases key i _ h1 with h | ⟨w, h, hw⟩
      · cases h
      · cases h
        rw [hw] at h2
        cases h2
    · rcases key i _ h1 with h | ⟨w, h, -⟩ <;> cases h
  · simp; omega
  · intro i v hv
    by_cases hi : i < as.length
    · rw [List.getElem?_append_left (by simpa using hi), List.getElem?_map] at hv
      cases ha : as[i]? with
      | none => rw [ha] at hv; cases hv
      | some w =>
        rw [ha] at hv
        cases hv
        refine ⟨?_, hc _ (List.mem_of_getElem? ha)⟩
        rw [List.getElem?_toArray, List.getElem?_append_left (by simpa using hi)]
        simp [ha]
    · rw [List.getElem?_append_right (by simpa using hi)] at hv
      exact absurd (List.eq_of_mem_replicate (List.mem_of_getElem? hv)) (by simp)
theorem jm_ix_eq (j : Int32) : jm_ix j = j.toNatClampNeg := rfl
theorem jm_in_spec {j : Int32} {n : Nat} (h : jm_in j n) : ¬ (j < 0 ∨ n ≤ j.toNatClampNeg) ∧ j.toNatClampNeg < n := by
  obtain ⟨h1, h2⟩ := h
  have e : (j.toNatClampNeg : Int) = j.toInt := Int.toNat_of_nonneg h1
  have hlt : j.toNatClampNeg < n := by omega
  refine ⟨?_, hlt⟩
  rintro (h | h)
  · have := Int32.lt_iff_toInt_lt.mp h
    rw [Int32.toInt_zero] at this
    omega
  · omega
theorem jm_nn {k : Int32} (h : 0 ≤ k.toInt) : ¬ k < 0 := fun q => by
  have := Int32.lt_iff_toInt_lt.mp q
  rw [Int32.toInt_zero] at this
  omega
/-- what holds of the tables at a frame's start: the words; classes; arrays; the script; exceptions -/
def jg_K (G : jm_G) (J : jm_J) (Wg : List Cond) (s : State) : Prop :=
  (∀ w ∈ Wg, ∀ a, w.before a s = true) ∧ (∀ t q, 0 < t → J.1[t]? = some q → u_Kn s q.1 q.2.1 q.2.2 (G.2.2.2.1.1 t) (G.2.2.2.1.2 t)) ∧
  (ArrOfT s G.2.2.2.2.1 .int ∧ s.vm.findClass "[I" = some G.2.2.2.2.1) ∧ (ArrOfT s G.2.2.2.2.2.1 .long ∧ s.vm.findClass "[J" = some G.2.2.2.2.2.1) ∧ s.isArrayOf G.2.2.1 .int ∧
  (∀ t ty, J.2.2.1 t = some ty → ArrOfT s (G.2.2.2.2.2.2.1 t) ty ∧ va_RA s (G.2.2.2.2.2.2.1 t) ty ∧ (∀ C, ty = .object C → va_AO C s) ∧ ∀ C, ty = .array C → (Cond.arrayOver (.array C)).before #[] s = true) ∧
  (∀ t x, J.2.2.2 t = some x → ∃ k, s.vm.findClass x = some (G.2.2.2.2.2.2.2.1 t).1 ∧ s.vm.classes[(G.2.2.2.2.2.2.2.1 t).1]? = some k ∧ k.instanceTypes = (G.2.2.2.2.2.2.2.1 t).2) ∧
  G.2.2.2.2.2.2.2.2.WarmedH s.vm ∧ (∀ q, q < G.2.1 → s.heap[q]? = G.2.2.2.2.2.2.2.2.heap[q]?) ∧ ∀ (q : Nat) (cell : Cell), G.2.1 ≤ q → s.heap[q]? = some cell → cell.vm = .none
def jm_goodW (w : Cond) : Bool := (w.onTables && w.keeps) || (match w with | .arrayClass _ => true | _ => false)
theorem jm_goodW_spec {w : Cond} (h : jm_goodW w = true) : (w.onTables && w.keeps) = true ∨ ∃ ty, w = .arrayClass ty := by
  unfold jm_goodW at h
  rcases Bool.or_eq_true_iff.mp h with h | h
  · exact Or.inl h
  · right
    split at h
    · exact ⟨_, rfl⟩
    · cases h
theorem jg_K.moved {G : jm_G} {J : jm_J} {Wg : List Cond} {s U : State} (hg : ∀ w ∈ Wg, jm_goodW w = true) (hW : s.WarmedH U.vm) (hU : (∀ q, q < G.2.1 → U.heap[q]? = G.2.2.2.2.2.2.2.2.heap[q]?) ∧ ∀ (q : Nat) (cell : Cell), G.2.1 ≤ q → U.heap[q]? = some cell → cell.vm = .none) (h : jg_K G J Wg s) : jg_K G J Wg U := by
  obtain ⟨h1, h2, h3, h4, h5, h6, h7, h8, h9⟩ := h
  have hal := hW.alike
  refine ⟨fun w hw a => word_at hW (jm_goodW_spec (hg w hw)) (h1 w hw #[]), fun t q h0 hq => u_Kn_moved hal (h2 t q h0 hq), ⟨arrOfT_moved hal h3.1, by rw [hal.findClass]; exact h3.2⟩, ⟨arrOfT_moved hal h4.1, by rw [hal.findClass]; exact h4.2⟩, State.isArrayOf_alike hal h5, fun t ty ht => ⟨arrOfT_moved hal (h6 t ty ht).1, (h6 t ty ht).2.1.moved hal, fun C hC => ((h6 t ty ht).2.2.1 C hC).moved hal, fun C hC => over_moved hal ((h6 t ty ht).2.2.2 C hC)⟩, fun t x hx => ?_, State.WarmedH.trans h8 hW, hU⟩
  obtain ⟨k, g1, g2, g3⟩ := h7 t x hx
  obtain ⟨k', hk', he⟩ := hal.2.2 _ _ g2
  exact ⟨k', by rw [hal.findClass]; exact g1, hk', by rw [he]; exact g3⟩
end
section
/-! One step of the abstract machine is one step of the machine: all but calls and throws. -/
def jg_out (G : jm_G) : jm_R → Outcome
  | .inl none => .returned none
  | .inl (some v) => .returned (some (jg_mv G v))
  | .inr a => .threw (jg_ad G a)
/-- a frame's end -/
def jg_Z (G : jm_G) (J : jm_J) (R : Room) (s : State) (below : List Frame) (ns zs : Nat) (Q : jm_Q) : State → Prop := fun t => ∃ (o : jm_R) (h : jm_H) (L : List Loc),
  t.status = .running ∧ Ended t below (jg_out G o) ∧ s.WarmedH t.vm ∧ s.sameButNew ({ t with vm := s.vm } : State) L (h.1 - ns) (h.2.1 - zs) ∧ (∀ q ∈ L, G.2.1 ≤ q.base) ∧ (ns ≤ h.1 ∧ zs ≤ h.2.1 ∧ h.1 ≤ R.cells + ns ∧ h.2.1 ≤ R.slots + zs) ∧ jg_R G J h t.heap ∧ Q o h ∧
  ∀ a, o = .inr a → 200 ≤ jm_T h a ∧ jm_T h a % 2 = 1
/-- from the abstract point c on the machine comes to the frame's end -/
def jg_P (p : Program) (l : Launch) (e : Env) (R : Room) (s : State) (m : MethodId) (args : Array Value) (below : List Frame) (meth : Method) (cd : Code) (G : jm_G) (J : jm_J) (nL ns zs : Nat) (Q : jm_Q) (c : jm_C) : Prop :=
  ∀ (H : Heap) (locs : List Loc) (arr : Array Slot), jg_R G J c.2.2.2 H → (ns ≤ c.2.2.2.1 ∧ zs ≤ c.2.2.2.2.1 ∧ c.2.2.2.1 ≤ R.cells + ns ∧ c.2.2.2.2.1 ≤ R.slots + zs) → (∀ q ∈ locs, G.2.1 ≤ q.base) → jg_Ls G arr nL c.2.1 →
    W p l e R s m args below meth cd H locs (c.2.2.2.1 - ns) (c.2.2.2.2.1 - zs) (jg_Z G J R s below ns zs Q) (F0 m c.1 arr (c.2.2.1.map (jg_mv G)))
def jc_const (ins : Instr) (n : Nat) (k : Int32) : Bool := match ins with
  | .iconst v => n == 1 && Int32.ofInt v == k
  | .bipush v => n == 2 && (Int8.ofInt v).toInt32 == k
  | .sipush v => n == 3 && (Int16.ofInt v).toInt32 == k
  | _ => false
def jc_iload (ins : Instr) (n x : Nat) : Bool := match ins with
  | .iload_n k => n == 1 && k.val == x
  | .iload i => n == 2 && i == x
  | _ => false
def jc_aload (ins : Instr) (n x : Nat) : Bool := match ins with
  | .aload_n k => n == 1 && k.val == x
  | .aload i => n == 2 && i == x
  | _ => false
def jc_istore (ins : Instr) (n x : Nat) : Bool := match ins with
  | .istore_n k => n == 1 && k.val == x
  | .istore i => n == 2 && i == x
  | _ => false
def jc_astore (ins : Instr) (n x : Nat) : Bool := match ins with
  | .astore_n k => n == 1 && k.val == x
  | .astore i => n == 2 && i == x
  | _ => false
def jc_iinc (ins : Instr) (n x : Nat) (k : Int32) : Bool := match ins with
  | .iinc i v => n == 3 && i == x && Int32.ofInt v == k
  | _ => false
def jc_bin (ins : Instr) (n x : Nat) : Bool := match ins with
  | .iadd => n == 1 && x == 0
  | .isub => n == 1 && x == 1
  | .imul => n == 1 && x == 2
  | .iand => n == 1 && x == 3
  | .ior => n == 1 && x == 4
  | .ixor => n == 1 && x == 5
  | .ishl => n == 1 && x == 6
  | .ishr => n == 1 && x == 7
  | _ => false
def jc_if (ins : Instr) (n pc x y : Nat) : Bool := match ins with
  | .ifCond .eq o => n == 3 && x == 0 && decide ((pc : Int) + o = (y : Int))
  | .ifCond .ne o => n == 3 && x == 1 && decide ((pc : Int) + o = (y : Int))
  | .ifCond .lt o => n == 3 && x == 2 && decide ((pc : Int) + o = (y : Int))
  | .ifCond .ge o => n == 3 && x == 3 && decide ((pc : Int) + o = (y : Int))
  | .ifCond .gt o => n == 3 && x == 4 && decide ((pc : Int) + o = (y : Int))
  | .ifCond .le o => n == 3 && x == 5 && decide ((pc : Int) + o = (y : Int))
  | _ => false
def jc_icmp (ins : Instr) (n pc x y : Nat) : Bool := match ins with
  | .if_icmp .eq o => n == 3 && x == 0 && decide ((pc : Int) + o = (y : Int))
  | .if_icmp .ne o => n == 3 && x == 1 && decide ((pc : Int) + o = (y : Int))
  | .if_icmp .lt o => n == 3 && x == 2 && decide ((pc : Int) + o = (y : Int))
  | .if_icmp .ge o => n == 3 && x == 3 && decide ((pc : Int) + o = (y : Int))
  | .if_icmp .gt o => n == 3 && x == 4 && decide ((pc : Int) + o = (y : Int))
  | .if_icmp .le o => n == 3 && x == 5 && decide ((pc : Int) + o = (y : Int))
  | _ => false
def jc_goto (ins : Instr) (pc y : Nat) : Bool := match ins with
  | .goto o => decide ((pc : Int) + o = (y : Int))
  | _ => false
/-- the table of a switch: a key, a place -/
def jc_tab (pc : Nat) (lo : Int) : List (Int32 × Nat) → List Int → Bool
  | [], [] => true
  | q :: r, o :: os => decide (q.1.toInt = lo) && decide ((pc : Int) + o = (q.2 : Int)) && jc_tab pc (lo + 1) r os
  | _, _ => false
def jc_switch (ins : Instr) (pc : Nat) (t : List (Int32 × Nat) × Nat) : Bool := match ins with
  | .tableswitch d lo hi os => decide ((pc : Int) + d = (t.2 : Int)) && jc_tab pc lo t.1 os.toList && decide (lo + (os.size : Int) = hi + 1)
  | _ => false
theorem jm_sl_out {pc d : Nat} {x : Int32} : ∀ (t : List (Int32 × Nat)) (os : List Int) (lo : Int), jc_tab pc lo t os = true → (x.toInt < lo ∨ lo + (os.length : Int) ≤ x.toInt) → jm_sl t d x = d
  | [], _, _, _, _ => rfl
  | q :: r, [], _, h, _ => by simp [jc_tab] at h
  | q :: r, o :: os, lo, h, hx => by
    simp only [jc_tab, Bool.and_eq_true, decide_eq_true_eq] at h
    simp only [List.length_cons, Int.natCast_add, Int.natCast_one] at hx
    have hne : ¬ x = q.1 := fun e => by rw [e] at hx; omega
    show (if x = q.1 then q.2 else jm_sl r d x) = d
    rw [if_neg hne]
    exact jm_sl_out r os (lo + 1) h.2 (by omega)
theorem jm_sl_in {pc d : Nat} {x : Int32} : ∀ (t : List (Int32 × Nat)) (os : List Int) (lo : Int), jc_tab pc lo t os = true → lo ≤ x.toInt → x.toInt < lo + (os.length : Int) → ∃ o, os[(x.toInt - lo).toNat]? = some o ∧ (pc : Int) + o = (jm_sl t d x : Int)
  | [], [], lo, _, h1, h2 => by simp at h2; omega
  | [], _ :: _, _, h, _, _ => by simp [jc_tab] at h
  | q :: r, [], _, h, _, _ => by simp [jc_tab] at h
  | q :: r, o :: os, lo, h, h1, h2 => by
    simp only [jc_tab, Bool.and_eq_true, decide_eq_true_eq] at h
    simp only [List.length_cons, Int.natCast_add, Int.natCast_one] at h2
    by_cases e : x = q.1
    · refine ⟨o, ?_, ?_⟩
      · rw [show (x.toInt - lo).toNat = 0 by rw [e]; omega]; rfl
      · show _ = (((if x = q.1 then q.2 else jm_sl r d x : Nat)) : Int)
        rw [if_pos e]; exact h.1.2
    · have hne : x.toInt ≠ lo := fun z => e (Int32.toInt_inj.mp (by omega))
      obtain ⟨o', g1, g2⟩ := jm_sl_in (d := d) (x := x) r os (lo + 1) h.2 (by omega) (by omega)
      refine ⟨o', ?_, ?_⟩
      · rw [show (x.toInt - lo).toNat = (x.toInt - (lo + 1)).toNat + 1 by omega]; exact g1
      · show _ = (((if x = q.1 then q.2 else jm_sl r d x : Nat)) : Int)
        rw [if_neg e]; exact g2
section JW
variable {p : Program} {l : Launch} {e : Env} {R : Room} {s : State} {m : MethodId} {args : Array Value} {below : List Frame} {meth : Method} {cd : Code} {G : jm_G} {J : jm_J} {nL ns zs : Nat} {Q : jm_Q} {bs : ByteArray} {pc n : Nat} {ins : Instr} {ls : jm_Ls} {st : List jm_V} {h : jm_H}
theorem jw_const (hx : p.tables.exec = Jvm.exec) (hb : cd.code = bs) (hd : decode bs pc = .ok (ins, n)) {k : Int32} (hc : jc_const ins n k = true) (z : jg_P p l e R s m args below meth cd G J nL ns zs Q (pc + n, ls, .inl k :: st, h)) : jg_P p l e R s m args below meth cd G J nL ns zs Q (pc, ls, st, h) := by
  intro H locs arr hR hn hl hL
  have w := z H locs arr hR hn hl hL
  unfold jc_const at hc
  split at hc
  · simp only [Bool.and_eq_true, beq_iff_eq] at hc; obtain ⟨rfl, hk⟩ := hc; exact lv_iconst hx hb hd hk w
  · simp only [Bool.and_eq_true, beq_iff_eq] at hc; obtain ⟨rfl, hk⟩ := hc; exact lv_bipush hx hb hd hk w
  · simp only [Bool.and_eq_true, beq_iff_eq] at hc; obtain ⟨rfl, hk⟩ := hc; exact lv_sipush hx hb hd hk w
  · cases hc
theorem jw_iload (hx : p.tables.exec = Jvm.exec) (hb : cd.code = bs) (hd : decode bs pc = .ok (ins, n)) {x : Nat} (hc : jc_iload ins n x = true) (z : jo_iload (jg_P p l e R s m args below meth cd G J nL ns zs Q) (pc + n) ls st h x) : jg_P p l e R s m args below meth cd G J nL ns zs Q (pc, ls, st, h) := by
  intro H locs arr hR hn hl hL
  unfold jo_iload at z
  split at z
  · rename_i v hv
    have w := z H locs arr hR hn hl hL
    have ha : arr[x]? = some (.val (.int v)) := (hL.2.2.2 x _ hv).1
    unfold jc_iload at hc
    split at hc
    · simp only [Bool.and_eq_true, beq_iff_eq] at hc; obtain ⟨rfl, hk⟩ := hc; exact lv_iload_n hx hb hd hk ha w
    · simp only [Bool.and_eq_true, beq_iff_eq] at hc; obtain ⟨rfl, rfl⟩ := hc; exact lv_iload hx hb hd ha w
    · cases hc
  · exact z.elim
theorem jw_aload (hx : p.tables.exec = Jvm.exec) (hb : cd.code = bs) (hd : decode bs pc = .ok (ins, n)) {x : Nat} (hc : jc_aload ins n x = true) (z : jo_aload (jg_P p l e R s m args below meth cd G J nL ns zs Q) (pc + n) ls st h x) : jg_P p l e R s m args below meth cd G J nL ns zs Q (pc, ls, st, h) := by
  intro H locs arr hR hn hl hL
  unfold jo_aload at z
  split at z
  · rename_i v hv
    have w := z H locs arr hR hn hl hL
    have ha : arr[x]? = some (.val (jg_mv G (.inr (.inl v)))) := (hL.2.2.2 x _ hv).1
    unfold jc_aload at hc
    split at hc
    · simp only [Bool.and_eq_true, beq_iff_eq] at hc; obtain ⟨rfl, hk⟩ := hc
      cases v with
      | zero => exact lv_aload_nN hx hb hd hk ha w
      | succ v => exact lv_aload_n hx hb hd hk ha w
    · simp only [Bool.and_eq_true, beq_iff_eq] at hc; obtain ⟨rfl, rfl⟩ := hc
      cases v with
      | zero => exact lv_aloadN hx hb hd ha w
      | succ v => exact lv_aload hx hb hd ha w
    · cases hc
  · exact z.elim
theorem jw_istore (hx : p.tables.exec = Jvm.exec) (hb : cd.code = bs) (hd : decode bs pc = .ok (ins, n)) {x : Nat} (hc : jc_istore ins n x = true) (hxn : x < nL) (z : jo_istore (jg_P p l e R s m args below meth cd G J nL ns zs Q) (pc + n) ls st h x) : jg_P p l e R s m args below meth cd G J nL ns zs Q (pc, ls, st, h) := by
  intro H locs arr hR hn hl hL
  unfold jo_istore at z
  split at z
  · rename_i v st
    obtain ⟨arr', e1, hL'⟩ := hL.store hxn (.inl v) (fun z => by simp)
    have w := z H locs arr' hR hn hl hL'
    intro T hT X
    obtain ⟨t, a, b⟩ := w T hT X
    refine ⟨t, ?_, b⟩
    unfold jc_istore at hc
    have e1' : storeLocals arr x (.int v) = some arr' := e1
    split at hc
    · simp only [Bool.and_eq_true, beq_iff_eq] at hc; obtain ⟨rfl, rfl⟩ := hc
      show Steps p.tables e below (T.setTop (F0 m pc arr (.int v :: st.map (jg_mv G)))) t
      jvm_step X.here [X.here.top, ↓top_set X.here.top, hx, hb, hd, e1']
      exact a
    · simp only [Bool.and_eq_true, beq_iff_eq] at hc; obtain ⟨rfl, rfl⟩ := hc
      show Steps p.tables e below (T.setTop (F0 m pc arr (.int v :: st.map (jg_mv G)))) t
      jvm_step X.here [X.here.top, ↓top_set X.here.top, hx, hb, hd, e1']
      exact a
    · cases hc
  · exact z.elim
theorem jw_astore (hx : p.tables.exec = Jvm.exec) (hb : cd.code = bs) (hd : decode bs pc = .ok (ins, n)) {x : Nat} (hc : jc_astore ins n x = true) (hxn : x < nL) (z : jo_astore (jg_P p l e R s m args below meth cd G J nL ns zs Q) (pc + n) ls st h x) : jg_P p l e R s m args below meth cd G J nL ns zs Q (pc, ls, st, h) := by
  intro H locs arr hR hn hl hL
  unfold jo_astore at z
  split at z
  · rename_i v st
    obtain ⟨arr', e1, hL'⟩ := hL.store hxn (.inr (.inl v)) (fun z => by simp)
    have w := z H locs arr' hR hn hl hL'
    intro T hT X
    obtain ⟨t, a, b⟩ := w T hT X
    refine ⟨t, ?_, b⟩
    unfold jc_astore at hc
    cases v with
    | zero =>
      have e1' : storeLocals arr x .null = some arr' := e1
      split at hc
      · simp only [Bool.and_eq_true, beq_iff_eq] at hc; obtain ⟨rfl, rfl⟩ := hc
        show Steps p.tables e below (T.setTop (F0 m pc arr (.null :: st.map (jg_mv G)))) t
        jvm_step X.here [X.here.top, ↓top_set X.here.top, hx, hb, hd, e1', Value.isRef]
        exact a
      · simp only [Bool.and_eq_true, beq_iff_eq] at hc; obtain ⟨rfl, rfl⟩ := hc
        show Steps p.tables e below (T.setTop (F0 m pc arr (.null :: st.map (jg_mv G)))) t
        jvm_step X.here [X.here.top, ↓top_set X.here.top, hx, hb, hd, e1', Value.isRef]
        exact a
      · cases hc
    | succ v =>
      have e1' : storeLocals arr x (.ref (jg_ad G (v + 1))) = some arr' := e1
      split at hc
      · simp only [Bool.and_eq_true, beq_iff_eq] at hc; obtain ⟨rfl, rfl⟩ := hc
        show Steps p.tables e below (T.setTop (F0 m pc arr (.ref (jg_ad G (v + 1)) :: st.map (jg_mv G)))) t
        jvm_step X.here [X.here.top, ↓top_set X.here.top, hx, hb, hd, e1', Value.isRef]
        exact a
      · simp only [Bool.and_eq_true, beq_iff_eq] at hc; obtain ⟨rfl, rfl⟩ := hc
        show Steps p.tables e below (T.setTop (F0 m pc arr (.ref (jg_ad G (v + 1)) :: st.map (jg_mv G)))) t
        jvm_step X.here [X.here.top, ↓top_set X.here.top, hx, hb, hd, e1', Value.isRef]
        exact a
      · cases hc
  · exact z.elim
theorem jw_iinc (hx : p.tables.exec = Jvm.exec) (hb : cd.code = bs) (hd : decode bs pc = .ok (ins, n)) {x : Nat} {k : Int32} (hc : jc_iinc ins n x k = true) (hxn : x < nL) (z : jo_iinc (jg_P p l e R s m args below meth cd G J nL ns zs Q) (pc + n) ls st h x k) : jg_P p l e R s m args below meth cd G J nL ns zs Q (pc, ls, st, h) := by
  intro H locs arr hR hn hl hL
  unfold jo_iinc at z
  split at z
  · rename_i v hv
    have ha : arr[x]? = some (.val (.int v)) := (hL.2.2.2 x _ hv).1
    obtain ⟨arr', e1, hL'⟩ := hL.store hxn (.inl (v + k)) (fun z => by simp)
    have w := z H locs arr' hR hn hl hL'
    intro T hT X
    obtain ⟨t, a, b⟩ := w T hT X
    refine ⟨t, ?_, b⟩
    unfold jc_iinc at hc
    split at hc
    · rename_i i0 w0
      simp only [Bool.and_eq_true, beq_iff_eq] at hc
      obtain ⟨⟨h1, h2⟩, h3⟩ := hc
      subst h1; subst h2; subst h3
      have e1' : storeLocals arr i0 (.int (v + Int32.ofInt w0)) = some arr' := e1
      show Steps p.tables e below (T.setTop (F0 m pc arr (st.map (jg_mv G)))) t
      jvm_step X.here [X.here.top, ↓top_set X.here.top, hx, hb, hd, ha, e1']
      exact a
    · cases hc
  · exact z.elim
theorem jw_bin (hx : p.tables.exec = Jvm.exec) (hb : cd.code = bs) (hd : decode bs pc = .ok (ins, n)) {x : Nat} (hc : jc_bin ins n x = true) (z : jo_bin (jg_P p l e R s m args below meth cd G J nL ns zs Q) (pc + n) ls st h x) : jg_P p l e R s m args below meth cd G J nL ns zs Q (pc, ls, st, h) := by
  intro H locs arr hR hn hl hL
  unfold jo_bin at z
  split at z
  · rename_i b a st
    have w := z H locs arr hR hn hl hL
    unfold jc_bin at hc
    split at hc
    · simp only [Bool.and_eq_true, beq_iff_eq] at hc; obtain ⟨rfl, rfl⟩ := hc; exact lv_iadd hx hb hd w
    · simp only [Bool.and_eq_true, beq_iff_eq] at hc; obtain ⟨rfl, rfl⟩ := hc; exact lv_isub hx hb hd w
    · simp only [Bool.and_eq_true, beq_iff_eq] at hc; obtain ⟨rfl, rfl⟩ := hc; exact lv_imul hx hb hd w
    · simp only [Bool.and_eq_true, beq_iff_eq] at hc; obtain ⟨rfl, rfl⟩ := hc; exact lv_iand hx hb hd w
    · simp only [Bool.and_eq_true, beq_iff_eq] at hc; obtain ⟨rfl, rfl⟩ := hc; exact lv_ior hx hb hd w
    · simp only [Bool.and_eq_true, beq_iff_eq] at hc; obtain ⟨rfl, rfl⟩ := hc; exact lv_ixor hx hb hd w
    · simp only [Bool.and_eq_true, beq_iff_eq] at hc; obtain ⟨rfl, rfl⟩ := hc; exact lv_ishl hx hb hd w
    · simp only [Bool.and_eq_true, beq_iff_eq] at hc; obtain ⟨rfl, rfl⟩ := hc; exact lv_ishr hx hb hd w
    · cases hc
  · exact z.elim
theorem jw_if (hx : p.tables.exec = Jvm.exec) (hb : cd.code = bs) (hd : decode bs pc = .ok (ins, n)) {x y : Nat} (hc : jc_if ins n pc x y = true) (z : jo_if (jg_P p l e R s m args below meth cd G J nL ns zs Q) (pc + n) ls st h x y) : jg_P p l e R s m args below meth cd G J nL ns zs Q (pc, ls, st, h) := by
  intro H locs arr hR hn hl hL
  unfold jo_if at z
  split at z
  · rename_i a st
    obtain ⟨z1, z2⟩ := z
    unfold jc_if at hc
    split at hc
    · simp only [Bool.and_eq_true, beq_iff_eq, decide_eq_true_eq] at hc; obtain ⟨⟨rfl, rfl⟩, ho⟩ := hc; exact lv_if_eq hx hb hd ho (fun q => z1 q H locs arr hR hn hl hL) (fun q => z2 q H locs arr hR hn hl hL)
    · simp only [Bool.and_eq_true, beq_iff_eq, decide_eq_true_eq] at hc; obtain ⟨⟨rfl, rfl⟩, ho⟩ := hc; exact lv_if_ne hx hb hd ho (fun q => z1 q H locs arr hR hn hl hL) (fun q => z2 (fun g => g q) H locs arr hR hn hl hL)
    · simp only [Bool.and_eq_true, beq_iff_eq, decide_eq_true_eq] at hc; obtain ⟨⟨rfl, rfl⟩, ho⟩ := hc; exact lv_if_lt hx hb hd ho (fun q => z1 q H locs arr hR hn hl hL) (fun q => z2 q H locs arr hR hn hl hL)
    · simp only [Bool.and_eq_true, beq_iff_eq, decide_eq_true_eq] at hc; obtain ⟨⟨rfl, rfl⟩, ho⟩ := hc; exact lv_if_ge hx hb hd ho (fun q => z1 q H locs arr hR hn hl hL) (fun q => z2 q H locs arr hR hn hl hL)
    · simp only [Bool.and_eq_true, beq_iff_eq, decide_eq_true_eq] at hc; obtain ⟨⟨rfl, rfl⟩, ho⟩ := hc; exact lv_if_gt hx hb hd ho (fun q => z1 q H locs arr hR hn hl hL) (fun q => z2 q H locs arr hR hn hl hL)
    · simp only [Bool.and_eq_true, beq_iff_eq, decide_eq_true_eq] at hc; obtain ⟨⟨rfl, rfl⟩, ho⟩ := hc; exact lv_if_le hx hb hd ho (fun q => z1 q H locs arr hR hn hl hL) (fun q => z2 q H locs arr hR hn hl hL)
    · cases hc
  · exact z.elim
theorem jw_icmp (hx : p.tables.exec = Jvm.exec) (hb : cd.code = bs) (hd : decode bs pc = .ok (ins, n)) {x y : Nat} (hc : jc_icmp ins n pc x y = true) (z : jo_icmp (jg_P p l e R s m args below meth cd G J nL ns zs Q) (pc + n) ls st h x y) : jg_P p l e R s m args below meth cd G J nL ns zs Q (pc, ls, st, h) := by
  intro H locs arr hR hn hl hL
  unfold jo_icmp at z
  split at z
  · rename_i b a st
    obtain ⟨z1, z2⟩ := z
    unfold jc_icmp at hc
    split at hc
    · simp only [Bool.and_eq_true, beq_iff_eq, decide_eq_true_eq] at hc; obtain ⟨⟨rfl, rfl⟩, ho⟩ := hc; exact lv_icmp_eq hx hb hd ho (fun q => z1 q H locs arr hR hn hl hL) (fun q => z2 q H locs arr hR hn hl hL)
    · simp only [Bool.and_eq_true, beq_iff_eq, decide_eq_true_eq] at hc; obtain ⟨⟨rfl, rfl⟩, ho⟩ := hc; exact lv_icmp_ne hx hb hd ho (fun q => z1 q H locs arr hR hn hl hL) (fun q => z2 (fun g => g q) H locs arr hR hn hl hL)
    · simp only [Bool.and_eq_true, beq_iff_eq, decide_eq_true_eq] at hc; obtain ⟨⟨rfl, rfl⟩, ho⟩ := hc; exact lv_icmp_lt hx hb hd ho (fun q => z1 q H locs arr hR hn hl hL) (fun q => z2 q H locs arr hR hn hl hL)
    · simp only [Bool.and_eq_true, beq_iff_eq, decide_eq_true_eq] at hc; obtain ⟨⟨rfl, rfl⟩, ho⟩ := hc; exact lv_icmp_ge hx hb hd ho (fun q => z1 q H locs arr hR hn hl hL) (fun q => z2 q H locs arr hR hn hl hL)
    · simp only [Bool.and_eq_true, beq_iff_eq, decide_eq_true_eq] at hc; obtain ⟨⟨rfl, rfl⟩, ho⟩ := hc; exact lv_icmp_gt hx hb hd ho (fun q => z1 q H locs arr hR hn hl hL) (fun q => z2 q H locs arr hR hn hl hL)
    · simp only [Bool.and_eq_true, beq_iff_eq, decide_eq_true_eq] at hc; obtain ⟨⟨rfl, rfl⟩, ho⟩ := hc; exact lv_icmp_le hx hb hd ho (fun q => z1 q H locs arr hR hn hl hL) (fun q => z2 q H locs arr hR hn hl hL)
    · cases hc
  · exact z.elim
theorem jw_goto (hx : p.tables.exec = Jvm.exec) (hb : cd.code = bs) (hd : decode bs pc = .ok (ins, 3)) {y : Nat} (hc : jc_goto ins pc y = true) (z : jg_P p l e R s m args below meth cd G J nL ns zs Q (y, ls, st, h)) : jg_P p l e R s m args below meth cd G J nL ns zs Q (pc, ls, st, h) := by
  intro H locs arr hR hn hl hL
  have w := z H locs arr hR hn hl hL
  unfold jc_goto at hc
  split at hc
  · simp only [decide_eq_true_eq] at hc; exact lv_goto hx hb hd hc w
  · cases hc
theorem jw_switch (hx : p.tables.exec = Jvm.exec) (hb : cd.code = bs) (hd : decode bs pc = .ok (ins, n)) {t : List (Int32 × Nat) × Nat} (hc : jc_switch ins pc t = true) (z : jo_switch (jg_P p l e R s m args below meth cd G J nL ns zs Q) ls st h t) : jg_P p l e R s m args below meth cd G J nL ns zs Q (pc, ls, st, h) := by
  intro H locs arr hR hn hl hL
  unfold jo_switch at z
  split at z
  · rename_i a st
    have w := z H locs arr hR hn hl hL
    unfold jc_switch at hc
    split at hc
    · rename_i d lo hi os
      simp only [Bool.and_eq_true, decide_eq_true_eq] at hc
      obtain ⟨⟨h1, h2⟩, h3⟩ := hc
      by_cases hin : a.toInt < lo ∨ hi < a.toInt
      · have e1 : jm_sel t a = t.2 := jm_sl_out t.1 os.toList lo h2 (by rw [Array.length_toList]; omega)
        exact lv_tableOut hx hb hd hin h1 (by rw [← e1]; exact w)
      · obtain ⟨o, g1, g2⟩ := jm_sl_in (d := t.2) (x := a) t.1 os.toList lo h2 (by omega) (by rw [Array.length_toList]; omega)
        exact lv_tableIn hx hb hd (fun q => hin (Or.inl q)) (fun q => hin (Or.inr q)) (by rw [← Array.getElem?_toList]; exact g1) g2 w
    · cases hc
  · exact z.elim
theorem jw_dup (hx : p.tables.exec = Jvm.exec) (hb : cd.code = bs) (hd : decode bs pc = .ok (.dup, 1)) (z : jo_dup (jg_P p l e R s m args below meth cd G J nL ns zs Q) (pc + 1) ls st h) : jg_P p l e R s m args below meth cd G J nL ns zs Q (pc, ls, st, h) := by
  intro H locs arr hR hn hl hL
  unfold jo_dup at z
  split at z
  · exact lv_dup hx hb hd rfl (z H locs arr hR hn hl hL)
  · exact lv_dup hx hb hd (jg_mv_c1 G (fun z => by simp)) (z H locs arr hR hn hl hL)
  · exact z.elim
theorem jw_dup2 (hx : p.tables.exec = Jvm.exec) (hb : cd.code = bs) (hd : decode bs pc = .ok (.dup2, 1)) (z : jo_dup2 (jg_P p l e R s m args below meth cd G J nL ns zs Q) (pc + 1) ls st h) : jg_P p l e R s m args below meth cd G J nL ns zs Q (pc, ls, st, h) := by
  intro H locs arr hR hn hl hL
  unfold jo_dup2 at z
  split at z
  · exact lv_dup2_11 hx hb hd rfl (jg_mv_c1 G (fun z => by simp)) (z H locs arr hR hn hl hL)
  · exact z.elim
theorem jw_dupx1 (hx : p.tables.exec = Jvm.exec) (hb : cd.code = bs) (hd : decode bs pc = .ok (.dup_x1, 1)) (z : jo_dupx1 (jg_P p l e R s m args below meth cd G J nL ns zs Q) (pc + 1) ls st h) : jg_P p l e R s m args below meth cd G J nL ns zs Q (pc, ls, st, h) := by
  intro H locs arr hR hn hl hL
  unfold jo_dupx1 at z
  split at z
  · exact lv_dup_x1 hx hb hd rfl (jg_mv_c1 G (fun z => by simp)) (z H locs arr hR hn hl hL)
  · exact z.elim
theorem jw_pop (hx : p.tables.exec = Jvm.exec) (hb : cd.code = bs) (hd : decode bs pc = .ok (.pop, 1)) (z : jo_pop (jg_P p l e R s m args below meth cd G J nL ns zs Q) (pc + 1) ls st h) : jg_P p l e R s m args below meth cd G J nL ns zs Q (pc, ls, st, h) := by
  intro H locs arr hR hn hl hL
  unfold jo_pop at z
  split at z
  · exact lv_pop hx hb hd rfl (z H locs arr hR hn hl hL)
  · exact lv_pop hx hb hd (jg_mv_c1 G (fun z => by simp)) (z H locs arr hR hn hl hL)
  · exact z.elim
theorem jw_i2l (hx : p.tables.exec = Jvm.exec) (hb : cd.code = bs) (hd : decode bs pc = .ok (.i2l, 1)) (z : jo_i2l (jg_P p l e R s m args below meth cd G J nL ns zs Q) (pc + 1) ls st h) : jg_P p l e R s m args below meth cd G J nL ns zs Q (pc, ls, st, h) := by
  intro H locs arr hR hn hl hL
  unfold jo_i2l at z
  split at z
  · exact lv_i2l hx hb hd rfl (z H locs arr hR hn hl hL)
  · exact z.elim
theorem jw_lcmp (hx : p.tables.exec = Jvm.exec) (hb : cd.code = bs) (hd : decode bs pc = .ok (.lcmp, 1)) (z : jo_lcmp (jg_P p l e R s m args below meth cd G J nL ns zs Q) (pc + 1) ls st h) : jg_P p l e R s m args below meth cd G J nL ns zs Q (pc, ls, st, h) := by
  intro H locs arr hR hn hl hL
  unfold jo_lcmp at z
  split at z
  · exact W.lcmp hx hb hd (z H locs arr hR hn hl hL)
  · exact z.elim
theorem jw_iret (hx : p.tables.exec = Jvm.exec) (hb : cd.code = bs) (hr : meth.sig.returnType = some .int) (hlk : meth.locks = false) (hd : decode bs pc = .ok (.ireturn, 1)) (z : jo_iret Q st h) : jg_P p l e R s m args below meth cd G J nL ns zs Q (pc, ls, st, h) := by
  intro H locs arr hR hn hl hL
  unfold jo_iret at z
  split at z
  · rename_i v
    intro T hT X
    obtain ⟨fs, hret, hrun, hended, hW, hframe⟩ := X.leave (v := some (.int v)) (fun q => by rw [hr] at q; cases q)
    have hmeth' : T.vm.method? m = some meth := X.method'
    refine ⟨T.setFrames fs, ?_, .inl (some (.inl v)), h, locs, hrun, hended, hW, hframe, hl, hn, by rw [← hT] at hR; exact hR, z, fun a q => by cases q⟩
    show Steps p.tables e below (T.setTop (F0 m pc arr [.int v])) _
    jvm_step X.here [X.here.top, hx, hb, hd, hmeth', hr, narrow]
    (try refine ⟨rfl, ?_⟩); (try refine ⟨rfl, ?_⟩)
    first | (intro acts; rw [hret _ acts rfl rfl rfl]) | rw [hret _ _ rfl rfl rfl]
    exact Steps.refl _
  · exact z.elim
theorem jw_zret (hx : p.tables.exec = Jvm.exec) (hb : cd.code = bs) (hr : meth.sig.returnType = some .boolean) (hlk : meth.locks = false) (hd : decode bs pc = .ok (.ireturn, 1)) (z : jo_zret Q st h) : jg_P p l e R s m args below meth cd G J nL ns zs Q (pc, ls, st, h) := by
  intro H locs arr hR hn hl hL
  unfold jo_zret at z
  split at z
  · rename_i v
    obtain ⟨hv, z⟩ := z
    have hnw : narrow .boolean (.int v) = .int v := by rcases hv with rfl | rfl <;> rfl
    intro T hT X
    obtain ⟨fs, hret, hrun, hended, hW, hframe⟩ := X.leave (v := some (.int v)) (fun q => by rw [hr] at q; cases q)
    have hmeth' : T.vm.method? m = some meth := X.method'
    refine ⟨T.setFrames fs, ?_, .inl (some (.inl v)), h, locs, hrun, hended, hW, hframe, hl, hn, by rw [← hT] at hR; exact hR, z, fun a q => by cases q⟩
    show Steps p.tables e below (T.setTop (F0 m pc arr [.int v])) _
    jvm_step X.here [X.here.top, hx, hb, hd, hmeth', hr, hnw]
    (try refine ⟨rfl, ?_⟩); (try refine ⟨rfl, ?_⟩)
    first | (intro acts; rw [hret _ acts rfl rfl rfl]) | rw [hret _ _ rfl rfl rfl]
    exact Steps.refl _
  · exact z.elim
theorem jw_vret (hx : p.tables.exec = Jvm.exec) (hb : cd.code = bs) (hr : meth.sig.returnType = none) (hlk : meth.locks = false) (hd : decode bs pc = .ok (.return_, 1)) (z : jo_vret Q st h) : jg_P p l e R s m args below meth cd G J nL ns zs Q (pc, ls, st, h) := by
  intro H locs arr hR hn hl hL
  unfold jo_vret at z
  split at z
  · intro T hT X
    obtain ⟨fs, hret, hrun, hended, hW, hframe⟩ := X.leave (v := none) (fun _ => rfl)
    have hmeth' : T.vm.method? m = some meth := X.method'
    refine ⟨T.setFrames fs, ?_, .inl none, h, locs, hrun, hended, hW, hframe, hl, hn, by rw [← hT] at hR; exact hR, z, fun a q => by cases q⟩
    show Steps p.tables e below (T.setTop (F0 m pc arr [])) _
    jvm_step X.here [X.here.top, hx, hb, hd, hmeth', hr]
    (try refine ⟨rfl, ?_⟩); (try refine ⟨rfl, ?_⟩)
    first | (intro acts; rw [hret _ acts rfl rfl rfl]) | rw [hret _ _ rfl rfl rfl]
    exact Steps.refl _
  · exact z.elim
end JW
end
section
/-! Fields, arrays, new objects. -/
/-- what the tables of classes say, beside the words -/
def jg_J (J : jm_J) (Wg : List Cond) : Prop := ∀ t q, 0 < t → J.1[t]? = some q → t < 60 ∧ (∀ w ∈ u_ws q.1 q.2.1 q.2.2, w ∈ Wg) ∧ (∀ k, k < q.2.2 → parseFieldDescriptor (q.2.1 k).2.2.1 = some (J.2.1 t k)) ∧ (∀ a, a < q.2.2 → ∀ b, b < q.2.2 → a ≠ b → (q.2.1 a).2.1 ≠ (q.2.1 b).2.1)
theorem jg_catsum (G : jm_G) (st : List jm_V) : ((st.map (jg_mv G)).map fun v => v.category).sum = jm_cs st := by
  induction st with
  | nil => rfl
  | cons v t ih =>
    simp only [List.map_cons, List.sum_cons, ih]
    rcases v with v | v | v
    · rfl
    · cases v <;> rfl
    · rfl
section JA
variable {p : Program} {l : Launch} {e : Env} {R : Room} {s : State} {m : MethodId} {args : Array Value} {below : List Frame} {meth : Method} {cd : Code} {G : jm_G} {J : jm_J} {nL ns zs : Nat} {Q : jm_Q} {bs : ByteArray} {pc n : Nat} {ins : Instr} {ls : jm_Ls} {st : List jm_V} {h : jm_H} {Wg : List Cond}
theorem jw_get0 (hx : p.tables.exec = Jvm.exec) (hb : cd.code = bs) (hK : jg_K G J Wg s) (hJ : jg_J J Wg) {own : String} {idx : Nat} (hown : s.vm.findClass own = some m.cls) {x y : Nat} {q : vw_C} (hx0 : 0 < x) (hq : J.1[x]? = some q) (hy : y < q.2.2) (hdecl : (q.2.1 y).1 = q.1) (hlink : Cond.fieldLink own idx q.1 (q.2.1 y).2.1 (q.2.1 y).2.2.1 ∈ Wg)
    (hd : decode bs pc = .ok (.getfield idx, 3)) {a : Nat} (ht : jm_T h a = x) {H : Heap} (hR : jg_R G J h H) {locs : List Loc} {cells slots : Nat} {QQ : State → Prop} {arr : Array Slot} {rest : List Value}
    (w : W p l e R s m args below meth cd H locs cells slots QQ (F0 m (pc + 3) arr (jg_fv G (J.2.1 x) (h.2.2 a) y :: rest))) : W p l e R s m args below meth cd H locs cells slots QQ (F0 m pc arr (jg_mv G (.inr (.inl a)) :: rest)) := by
  obtain ⟨hx60, hin, hpt, hnm⟩ := hJ x q hx0 hq
  obtain ⟨hp1, hp2⟩ := hR.pos ht (by omega) (by omega)
  have hat := hR.at ht (by omega) (by omega)
  have ht' : (h.2.2 a).1 = x := ht
  obtain ⟨q', hq', cell, q1, q2, q3, q4⟩ := hat.obj (by omega)
  rw [ht'] at hq' q4
  have hqq : q' = q := Option.some.inj (hq'.symm.trans hq)
  subst hqq
  obtain ⟨hS, hfc, kC, hkC, hkind⟩ := hK.2.1 x q' hx0 hq
  obtain ⟨cf, kf, fi, f, hi, hsl⟩ := hS y hy
  have hst := (u_facts hfc hkC (u_lays (fun w hw => hK.1 w hw args) hin hy) hi).1
  rw [hdecl] at hi
  rw [jg_mv_obj G hp1]
  refine W.getf hx hb hown (hK.1 _ hlink args) hi hst q1 (by rw [q3]; exact fun h => by cases h) (v := jg_fv G (J.2.1 x) (h.2.2 a) y) ?_ rfl rfl hd w
  rw [hsl, q4 y hy]
theorem jw_geti (hx : p.tables.exec = Jvm.exec) (hb : cd.code = bs) (hK : jg_K G J Wg s) (hJ : jg_J J Wg) {own : String} {idx : Nat} (hown : s.vm.findClass own = some m.cls) {x y : Nat} {q : vw_C} (hx0 : 0 < x) (hq : J.1[x]? = some q) (hy : y < q.2.2) (hdecl : (q.2.1 y).1 = q.1) (hlink : Cond.fieldLink own idx q.1 (q.2.1 y).2.1 (q.2.1 y).2.2.1 ∈ Wg)
    (hty : jm_isI (J.2.1 x y) = true) (hd : decode bs pc = .ok (.getfield idx, 3)) (z : jo_geti (jg_P p l e R s m args below meth cd G J nL ns zs Q) (pc + 3) ls st h x y) : jg_P p l e R s m args below meth cd G J nL ns zs Q (pc, ls, st, h) := by
  intro H locs arr hR hn hl hL
  replace hR : jg_R G J h H := hR
  replace hn : ns ≤ h.1 ∧ zs ≤ h.2.1 ∧ h.1 ≤ R.cells + ns ∧ h.2.1 ≤ R.slots + zs := hn
  replace hL : jg_Ls G arr nL ls := hL
  unfold jo_geti at z
  split at z
  · rename_i a st
    obtain ⟨ht, z⟩ := z
    have w := z H locs arr hR hn hl hL
    refine jw_get0 hx hb hK hJ hown hx0 hq hy hdecl hlink hd ht hR ?_
    have ev : jg_fv G (J.2.1 x) (h.2.2 a) y = .int (jm_I h a y) := by unfold jg_fv; rw [if_pos hty]; rfl
    rw [ev]
    exact w
  · exact z.elim
theorem jw_getr (hx : p.tables.exec = Jvm.exec) (hb : cd.code = bs) (hK : jg_K G J Wg s) (hJ : jg_J J Wg) {own : String} {idx : Nat} (hown : s.vm.findClass own = some m.cls) {x y : Nat} {q : vw_C} (hx0 : 0 < x) (hq : J.1[x]? = some q) (hy : y < q.2.2) (hdecl : (q.2.1 y).1 = q.1) (hlink : Cond.fieldLink own idx q.1 (q.2.1 y).2.1 (q.2.1 y).2.2.1 ∈ Wg)
    (hty : jm_isI (J.2.1 x y) = false) (hd : decode bs pc = .ok (.getfield idx, 3)) (z : jo_getr (jg_P p l e R s m args below meth cd G J nL ns zs Q) (pc + 3) ls st h x y) : jg_P p l e R s m args below meth cd G J nL ns zs Q (pc, ls, st, h) := by
  intro H locs arr hR hn hl hL
  replace hR : jg_R G J h H := hR
  replace hn : ns ≤ h.1 ∧ zs ≤ h.2.1 ∧ h.1 ≤ R.cells + ns ∧ h.2.1 ≤ R.slots + zs := hn
  replace hL : jg_Ls G arr nL ls := hL
  unfold jo_getr at z
  split at z
  · rename_i a st
    obtain ⟨ht, z⟩ := z
    have w := z H locs arr hR hn hl hL
    refine jw_get0 hx hb hK hJ hown hx0 hq hy hdecl hlink hd ht hR ?_
    have ev : jg_fv G (J.2.1 x) (h.2.2 a) y = jg_mv G (.inr (.inl (jm_F h a y))) := by unfold jg_fv; rw [if_neg (by rw [hty]; decide)]; rfl
    rw [ev]
    exact w
  · exact z.elim
theorem jw_put0 (hx : p.tables.exec = Jvm.exec) (hb : cd.code = bs) (hK : jg_K G J Wg s) (hJ : jg_J J Wg) {own : String} {idx : Nat} (hown : s.vm.findClass own = some m.cls) {x y : Nat} {q : vw_C} (hx0 : 0 < x) (hq : J.1[x]? = some q) (hy : y < q.2.2) (hdecl : (q.2.1 y).1 = q.1) (hlink : Cond.fieldLink own idx q.1 (q.2.1 y).2.1 (q.2.1 y).2.2.1 ∈ Wg)
    (hfin : (q.2.1 y).2.2.2 = false ∨ (q.1 = own ∧ meth.name = "<init>")) (hd : decode bs pc = .ok (.putfield idx, 3)) {a : Nat} (ht : jm_T h a = x) {H : Heap} (hR : jg_R G J h H) {v : Value} (hnw : narrow (J.2.1 x y) v = v) (hfit : fits (J.2.1 x y) v = true)
    {h' : jm_H} (e1 : h'.1 = h.1) (e3 : ∀ r, r ≠ a → h'.2.2 r = h.2.2 r) (e4 : (h'.2.2 a).1 = x) (e5 : ∀ k, k < q.2.2 → updV (jg_fv G (J.2.1 x) (h.2.2 a)) y v k = jg_fv G (J.2.1 x) (h'.2.2 a) k)
    {locs : List Loc} (hl : ∀ q ∈ locs, G.2.1 ≤ q.base) {cells slots : Nat} {QQ : State → Prop} {arr : Array Slot} {rest : List Value}
    (kk : ∀ (H' : Heap) (locs' : List Loc), jg_R G J h' H' → (∀ q ∈ locs', G.2.1 ≤ q.base) → W p l e R s m args below meth cd H' locs' cells slots QQ (F0 m (pc + 3) arr rest)) : W p l e R s m args below meth cd H locs cells slots QQ (F0 m pc arr (v :: jg_mv G (.inr (.inl a)) :: rest)) := by
  obtain ⟨hx60, hin, hpt, hnm⟩ := hJ x q hx0 hq
  obtain ⟨hp1, hp2⟩ := hR.pos ht (by omega) (by omega)
  have hat := hR.at ht (by omega) (by omega)
  have ht' : (h.2.2 a).1 = x := ht
  obtain ⟨q', hq', cell, q1, q2, q3, q4⟩ := hat.obj (by omega)
  rw [ht'] at hq' q4 q2
  have hqq : q' = q := Option.some.inj (hq'.symm.trans hq)
  subst hqq
  have hts : ∀ w ∈ Wg, w.before args s = true := fun w hw => hK.1 w hw args
  obtain ⟨hS, hfc, kC, hkC, hkind⟩ := hK.2.1 x q' hx0 hq
  have hap : ∀ i j, i < q'.2.2 → j < q'.2.2 → i ≠ j → (G.2.2.2.1.2 x) i ≠ (G.2.2.2.1.2 x) j := by
    intro i j hi hj hne
    obtain ⟨_, _, _, fa, hia, ea⟩ := hS i hi
    obtain ⟨_, _, _, fb, hib, eb⟩ := hS j hj
    rw [← ea, ← eb]
    refine u_apart (u_lays hts hin hi) (u_lays hts hin hj) hia hib ?_
    rw [(State.fieldFound?_type hia (hpt i hi)).1, (State.fieldFound?_type hib (hpt j hj)).1]
    exact hnm i hi j hj hne
  obtain ⟨cf, kf, fi, f, hi, hsl⟩ := hS y hy
  have hst := (u_facts hfc hkC (u_lays hts hin hy) hi).1
  have hlay := hts _ (hin _ (u_in_lay hy))
  unfold u_lay at hlay
  rw [jg_mv_obj G hp1]
  have hend : ∀ H' : Heap, H'[G.2.1 + (a - 2)]? = some (cell.setSlot f.slot v) → H'.size = H.size → (∀ q, q ≠ G.2.1 + (a - 2) → H'[q]? = H[q]?) → W p l e R s m args below meth cd H' (locs ++ [⟨G.2.1 + (a - 2), f.slot⟩]) cells slots QQ (F0 m (pc + 3) arr rest) := by
    intro H' g1 g2 g3
    refine kk H' _ (hR.upd hp1 hp2 e1 e3 g2 g3 (jg_at.mkO (by omega) ?_)) (fun z hz => ?_)
    · rw [e4]
      refine ⟨q', hq, t_OB.to (V := updV (jg_fv G (J.2.1 x) (h.2.2 a)) y v) ⟨_, g1, q2, q3, ?_⟩ e5⟩
      rw [hsl]
      exact t_set q4 hap hy v
    · rcases List.mem_append.mp hz with hz | hz
      · exact hl z hz
      · rw [List.mem_singleton.mp hz]
        exact Nat.le_add_right _ _
  have hlt : f.slot < cell.slots.size := by rw [hsl]; exact k2_hasslot (q4 y hy)
  by_cases hf : (q'.2.1 y).2.2.2 = true
  · rw [if_pos hf] at hlay
    rcases hfin with hfin | ⟨ho, hini⟩
    · rw [hf] at hfin; cases hfin
    · have hcf : m.cls = cf := by
        obtain ⟨_, _, c', _, _, _, -, -, hf', -, -, -, hown2, -⟩ := Cond.laysFinal_spec hlay
        have e1 : c' = cf := by have := hi.symm.trans hf'; simp at this; exact this.1.symm
        rw [hdecl, ho] at hown2
        rw [← e1]; exact Option.some.inj (hown.symm.trans hown2)
      have h6 := u_fits hfc hkC hkind (Or.inr hlay) hi (hpt y hy) hnw hfit
      rw [hdecl] at hi
      exact W.putFinK hx hb hown (hts _ hlink) hi hst hcf hini (by rw [q2]; exact h6) q1 q3 hlt rfl rfl hd hend
  · rw [if_neg hf] at hlay
    have h6 := u_store hfc hkC hkind hlay hi (hpt y hy) hnw hfit
    rw [hdecl] at hi
    exact W.putK hx hb (f := f) ⟨hown, hts _ hlink, ⟨_, _, _, hi⟩, hst⟩ (by rw [q2]; exact h6) q1 q3 hlt rfl rfl hd hend
theorem jw_puti (hx : p.tables.exec = Jvm.exec) (hb : cd.code = bs) (hK : jg_K G J Wg s) (hJ : jg_J J Wg) {own : String} {idx : Nat} (hown : s.vm.findClass own = some m.cls) {x y : Nat} {q : vw_C} (hx0 : 0 < x) (hq : J.1[x]? = some q) (hy : y < q.2.2) (hdecl : (q.2.1 y).1 = q.1) (hlink : Cond.fieldLink own idx q.1 (q.2.1 y).2.1 (q.2.1 y).2.2.1 ∈ Wg)
    (hfin : (q.2.1 y).2.2.2 = false ∨ (q.1 = own ∧ meth.name = "<init>")) (hty : J.2.1 x y = .int) (hd : decode bs pc = .ok (.putfield idx, 3)) (z : jo_puti (jg_P p l e R s m args below meth cd G J nL ns zs Q) (pc + 3) ls st h x y) : jg_P p l e R s m args below meth cd G J nL ns zs Q (pc, ls, st, h) := by
  intro H locs arr hR hn hl hL
  replace hR : jg_R G J h H := hR
  replace hn : ns ≤ h.1 ∧ zs ≤ h.2.1 ∧ h.1 ≤ R.cells + ns ∧ h.2.1 ≤ R.slots + zs := hn
  replace hL : jg_Ls G arr nL ls := hL
  unfold jo_puti at z
  split at z
  · rename_i v a st
    obtain ⟨ht, z⟩ := z
    have ea : (jm_sI h a y v).2.2 a = ((h.2.2 a).1, (h.2.2 a).2.1, jm_up (h.2.2 a).2.2.1 y v, (h.2.2 a).2.2.2) := jm_up_self _ _ _
    refine jw_put0 hx hb hK hJ hown hx0 hq hy hdecl hlink hfin hd ht hR (v := .int v) (by rw [hty]; rfl) (by rw [hty]; rfl) (h' := jm_sI h a y v) rfl (fun r hr => jm_up_ne _ _ hr) (by rw [ea]; exact ht) (fun k _ => ?_) hl (fun H' locs' hR' hl' => z H' locs' arr hR' hn hl' hL)
    rw [ea]
    unfold updV jg_fv
    by_cases hk : k = y
    · subst hk
      rw [if_pos rfl, if_pos (by rw [hty]; rfl)]
      show _ = Value.int (jm_up _ k v k)
      rw [jm_up_self]
    · rw [if_neg hk]
      show _ = if jm_isI (J.2.1 x k) = true then Value.int (jm_up (h.2.2 a).2.2.1 y v k) else _
      rw [jm_up_ne _ _ hk]
  · exact z.elim
theorem jw_putz (hx : p.tables.exec = Jvm.exec) (hb : cd.code = bs) (hK : jg_K G J Wg s) (hJ : jg_J J Wg) {own : String} {idx : Nat} (hown : s.vm.findClass own = some m.cls) {x y : Nat} {q : vw_C} (hx0 : 0 < x) (hq : J.1[x]? = some q) (hy : y < q.2.2) (hdecl : (q.2.1 y).1 = q.1) (hlink : Cond.fieldLink own idx q.1 (q.2.1 y).2.1 (q.2.1 y).2.2.1 ∈ Wg)
    (hfin : (q.2.1 y).2.2.2 = false ∨ (q.1 = own ∧ meth.name = "<init>")) (hty : J.2.1 x y = .boolean) (hd : decode bs pc = .ok (.putfield idx, 3)) (z : jo_putz (jg_P p l e R s m args below meth cd G J nL ns zs Q) (pc + 3) ls st h x y) : jg_P p l e R s m args below meth cd G J nL ns zs Q (pc, ls, st, h) := by
  intro H locs arr hR hn hl hL
  replace hR : jg_R G J h H := hR
  replace hn : ns ≤ h.1 ∧ zs ≤ h.2.1 ∧ h.1 ≤ R.cells + ns ∧ h.2.1 ≤ R.slots + zs := hn
  replace hL : jg_Ls G arr nL ls := hL
  unfold jo_putz at z
  split at z
  · rename_i v a st
    obtain ⟨ht, hv, z⟩ := z
    have ea : (jm_sI h a y v).2.2 a = ((h.2.2 a).1, (h.2.2 a).2.1, jm_up (h.2.2 a).2.2.1 y v, (h.2.2 a).2.2.2) := jm_up_self _ _ _
    refine jw_put0 hx hb hK hJ hown hx0 hq hy hdecl hlink hfin hd ht hR (v := .int v) (by rw [hty]; rcases hv with rfl | rfl <;> rfl) (by rw [hty]; rcases hv with rfl | rfl <;> rfl) (h' := jm_sI h a y v) rfl (fun r hr => jm_up_ne _ _ hr) (by rw [ea]; exact ht) (fun k _ => ?_) hl (fun H' locs' hR' hl' => z H' locs' arr hR' hn hl' hL)
    rw [ea]
    unfold updV jg_fv
    by_cases hk : k = y
    · subst hk
      rw [if_pos rfl, if_pos (by rw [hty]; rfl)]
      show _ = Value.int (jm_up _ k v k)
      rw [jm_up_self]
    · rw [if_neg hk]
      show _ = if jm_isI (J.2.1 x k) = true then Value.int (jm_up (h.2.2 a).2.2.1 y v k) else _
      rw [jm_up_ne _ _ hk]
  · exact z.elim
theorem jw_putr (hx : p.tables.exec = Jvm.exec) (hb : cd.code = bs) (hK : jg_K G J Wg s) (hJ : jg_J J Wg) {own : String} {idx : Nat} (hown : s.vm.findClass own = some m.cls) {x y : Nat} {q : vw_C} (hx0 : 0 < x) (hq : J.1[x]? = some q) (hy : y < q.2.2) (hdecl : (q.2.1 y).1 = q.1) (hlink : Cond.fieldLink own idx q.1 (q.2.1 y).2.1 (q.2.1 y).2.2.1 ∈ Wg)
    (hfin : (q.2.1 y).2.2.2 = false ∨ (q.1 = own ∧ meth.name = "<init>")) (hty : (∃ c, J.2.1 x y = .object c) ∨ ∃ t, J.2.1 x y = .array t) (hd : decode bs pc = .ok (.putfield idx, 3)) (z : jo_putr (jg_P p l e R s m args below meth cd G J nL ns zs Q) (pc + 3) ls st h x y) : jg_P p l e R s m args below meth cd G J nL ns zs Q (pc, ls, st, h) := by
  intro H locs arr hR hn hl hL
  replace hR : jg_R G J h H := hR
  replace hn : ns ≤ h.1 ∧ zs ≤ h.2.1 ∧ h.1 ≤ R.cells + ns ∧ h.2.1 ≤ R.slots + zs := hn
  replace hL : jg_Ls G arr nL ls := hL
  unfold jo_putr at z
  split at z
  · rename_i v a st
    obtain ⟨ht, z⟩ := z
    have ea : (jm_sF h a y v).2.2 a = ((h.2.2 a).1, (h.2.2 a).2.1, (h.2.2 a).2.2.1, jm_up (h.2.2 a).2.2.2.1 y v, (h.2.2 a).2.2.2.2) := jm_up_self _ _ _
    have hni : ¬ jm_isI (J.2.1 x y) = true := by rcases hty with ⟨c, hc⟩ | ⟨c, hc⟩ <;> rw [hc] <;> exact fun q => by cases q
    refine jw_put0 hx hb hK hJ hown hx0 hq hy hdecl hlink hfin hd ht hR (v := jg_mv G (.inr (.inl v))) (by rcases hty with ⟨c, hc⟩ | ⟨c, hc⟩ <;> rw [hc] <;> cases v <;> rfl) (by rcases hty with ⟨c, hc⟩ | ⟨c, hc⟩ <;> rw [hc] <;> cases v <;> rfl) (h' := jm_sF h a y v) rfl (fun r hr => jm_up_ne _ _ hr) (by rw [ea]; exact ht) (fun k _ => ?_) hl (fun H' locs' hR' hl' => z H' locs' arr hR' hn hl' hL)
    rw [ea]
    unfold updV jg_fv
    by_cases hk : k = y
    · subst hk
      rw [if_pos rfl, if_neg hni]
      show _ = jg_mv G (.inr (.inl (jm_up _ k v k)))
      rw [jm_up_self]
    · rw [if_neg hk]
      show _ = if jm_isI (J.2.1 x k) = true then _ else jg_mv G (.inr (.inl (jm_up (h.2.2 a).2.2.2.1 y v k)))
      rw [jm_up_ne _ _ hk]
  · exact z.elim
theorem jw_iald (hx : p.tables.exec = Jvm.exec) (hb : cd.code = bs) (hK : jg_K G J Wg s) (hd : decode bs pc = .ok (.iaload, 1)) (z : jo_iald (jg_P p l e R s m args below meth cd G J nL ns zs Q) (pc + 1) ls st h 100) : jg_P p l e R s m args below meth cd G J nL ns zs Q (pc, ls, st, h) := by
  intro H locs arr hR hn hl hL
  replace hR : jg_R G J h H := hR
  replace hn : ns ≤ h.1 ∧ zs ≤ h.2.1 ∧ h.1 ≤ R.cells + ns ∧ h.2.1 ≤ R.slots + zs := hn
  replace hL : jg_Ls G arr nL ls := hL
  unfold jo_iald at z
  split at z
  · rename_i j a st
    obtain ⟨ht, hj, z⟩ := z
    obtain ⟨hp1, hp2⟩ := hR.pos ht (by omega) (by omega)
    have hc : H[G.2.1 + (a - 2)]? = some (arrV G.2.2.2.2.1 (jm_N h a) (fun j => .int (jm_I h a j))) := (hR.at ht (by omega) (by omega)).arrI ht
    obtain ⟨hj1, hj2⟩ := jm_in_spec hj
    show W p l e R s m args below meth cd H locs _ _ _ (F0 m pc arr (.int j :: jg_mv G (.inr (.inl a)) :: st.map (jg_mv G)))
    rw [jg_mv_obj G hp1]
    exact W.iald (v := .int (jm_I h a (jm_ix j))) hx hb hc (hK.2.2.1.1 _ _) (fun q => by cases q) (by rw [arrV_size]; exact hj1) (by rw [arrV_read _ _ hj2]; rfl) rfl rfl hd (z H locs arr hR hn hl hL)
  · exact z.elim
theorem jw_sald (hx : p.tables.exec = Jvm.exec) (hb : cd.code = bs) (hK : jg_K G J Wg s) (hd : decode bs pc = .ok (.iaload, 1)) (h1 : ∀ a, jm_T h a = 99 → a = 1) (z : jo_iald (jg_P p l e R s m args below meth cd G J nL ns zs Q) (pc + 1) ls st h 99) : jg_P p l e R s m args below meth cd G J nL ns zs Q (pc, ls, st, h) := by
  intro H locs arr hR hn hl hL
  replace hR : jg_R G J h H := hR
  replace hn : ns ≤ h.1 ∧ zs ≤ h.2.1 ∧ h.1 ≤ R.cells + ns ∧ h.2.1 ≤ R.slots + zs := hn
  replace hL : jg_Ls G arr nL ls := hL
  unfold jo_iald at z
  split at z
  · rename_i j a st
    obtain ⟨ht, hj, z⟩ := z
    obtain rfl := h1 a ht
    obtain ⟨-, -, -, s1, s2, s3, s4, s5⟩ := id hR
    obtain ⟨hj1, hj2⟩ := jm_in_spec hj
    exact W.iald (v := .int (jm_I h 1 (jm_ix j))) hx hb s2 hK.2.2.2.2.1 s3 (by rw [s4]; exact hj1) (s5 _ hj2) rfl rfl hd (z H locs arr hR hn hl hL)
  · exact z.elim
theorem jg_R.one {H : Heap} (hR : jg_R G J h H) {a : Nat} (ht : jm_T h a = 99) : a = 1 := by
  obtain ⟨hp, hz, hA, -⟩ := hR
  by_cases h0 : a = 0 ∨ h.1 ≤ a
  · have := hz a h0
    rw [ht] at this; cases this
  · by_cases h1 : a = 1
    · exact h1
    · have hat := hA a (by omega) (by omega)
      have ht' : (h.2.2 a).1 = 99 := ht
      unfold jg_at at hat
      rw [if_neg (by omega), if_neg (by omega), if_neg (by omega), if_neg (by omega), if_pos (by omega)] at hat
      exact hat.elim
theorem jw_sald' (hx : p.tables.exec = Jvm.exec) (hb : cd.code = bs) (hK : jg_K G J Wg s) (hd : decode bs pc = .ok (.iaload, 1)) (z : jo_iald (jg_P p l e R s m args below meth cd G J nL ns zs Q) (pc + 1) ls st h 99) : jg_P p l e R s m args below meth cd G J nL ns zs Q (pc, ls, st, h) :=
  fun H locs arr hR hn hl hL => jw_sald hx hb hK hd (fun _ ht => hR.one ht) z H locs arr hR hn hl hL
theorem jw_alen (hx : p.tables.exec = Jvm.exec) (hb : cd.code = bs) (hK : jg_K G J Wg s) (hd : decode bs pc = .ok (.arraylength, 1)) {t : Nat} (htt : t = 100 ∨ (60 ≤ t ∧ t < 99 ∧ ∃ ty, J.2.2.1 t = some ty)) (z : jo_alen (jg_P p l e R s m args below meth cd G J nL ns zs Q) (pc + 1) ls st h t) : jg_P p l e R s m args below meth cd G J nL ns zs Q (pc, ls, st, h) := by
  intro H locs arr hR hn hl hL
  replace hR : jg_R G J h H := hR
  replace hn : ns ≤ h.1 ∧ zs ≤ h.2.1 ∧ h.1 ≤ R.cells + ns ∧ h.2.1 ≤ R.slots + zs := hn
  replace hL : jg_Ls G arr nL ls := hL
  unfold jo_alen at z
  split at z
  · rename_i a st
    obtain ⟨ht, z⟩ := z
    have ht' : (h.2.2 a).1 = t := ht
    obtain ⟨hp1, hp2⟩ := hR.pos ht (by omega) (by omega)
    have hat := hR.at ht (by omega) (by omega)
    show W p l e R s m args below meth cd H locs _ _ _ (F0 m pc arr (jg_mv G (.inr (.inl a)) :: st.map (jg_mv G)))
    rw [jg_mv_obj G hp1]
    rcases htt with rfl | ⟨h1, h2, ty, hty⟩
    · exact W.alen (n := Int32.ofNat (jm_N h a)) hx hb (hat.arrI ht) (hK.2.2.1.1 _ _) (by rw [arrV_size]; rfl) rfl rfl hd (z H locs arr hR hn hl hL)
    · have hc := hat.arrR (by omega) (by omega)
      rw [ht'] at hc
      exact W.alen (n := Int32.ofNat (jm_N h a)) hx hb hc ((hK.2.2.2.2.2.1 t ty hty).1 _ _) (by rw [arrV_size]; rfl) rfl rfl hd (z H locs arr hR hn hl hL)
  · exact z.elim
theorem jw_slen (hx : p.tables.exec = Jvm.exec) (hb : cd.code = bs) (hK : jg_K G J Wg s) (hd : decode bs pc = .ok (.arraylength, 1)) (z : jo_alen (jg_P p l e R s m args below meth cd G J nL ns zs Q) (pc + 1) ls st h 99) : jg_P p l e R s m args below meth cd G J nL ns zs Q (pc, ls, st, h) := by
  intro H locs arr hR hn hl hL
  replace hR : jg_R G J h H := hR
  replace hn : ns ≤ h.1 ∧ zs ≤ h.2.1 ∧ h.1 ≤ R.cells + ns ∧ h.2.1 ≤ R.slots + zs := hn
  replace hL : jg_Ls G arr nL ls := hL
  unfold jo_alen at z
  split at z
  · rename_i a st
    obtain ⟨ht, z⟩ := z
    obtain rfl := hR.one ht
    obtain ⟨-, -, -, s1, s2, s3, s4, s5⟩ := id hR
    exact W.alen (n := Int32.ofNat (jm_N h 1)) hx hb s2 hK.2.2.2.2.1 (by rw [s4]) rfl rfl hd (z H locs arr hR hn hl hL)
  · exact z.elim
theorem jl_app {a i : Nat} {locs : List Loc} (hl : ∀ q ∈ locs, G.2.1 ≤ q.base) (ha : G.2.1 ≤ a) : ∀ q ∈ locs ++ [(⟨a, i⟩ : Loc)], G.2.1 ≤ q.base := fun z hz => by
  rcases List.mem_append.mp hz with hz | hz
  · exact hl z hz
  · rw [List.mem_singleton.mp hz]; exact ha
theorem jw_iast (hx : p.tables.exec = Jvm.exec) (hb : cd.code = bs) (hK : jg_K G J Wg s) (hd : decode bs pc = .ok (.iastore, 1)) (z : jo_iast (jg_P p l e R s m args below meth cd G J nL ns zs Q) (pc + 1) ls st h) : jg_P p l e R s m args below meth cd G J nL ns zs Q (pc, ls, st, h) := by
  intro H locs arr hR hn hl hL
  replace hR : jg_R G J h H := hR
  replace hn : ns ≤ h.1 ∧ zs ≤ h.2.1 ∧ h.1 ≤ R.cells + ns ∧ h.2.1 ≤ R.slots + zs := hn
  replace hL : jg_Ls G arr nL ls := hL
  unfold jo_iast at z
  split at z
  · rename_i v j a st
    obtain ⟨ht, hj, z⟩ := z
    obtain ⟨hp1, hp2⟩ := hR.pos ht (by omega) (by omega)
    have hc : H[G.2.1 + (a - 2)]? = some (arrV G.2.2.2.2.1 (jm_N h a) (fun j => .int (jm_I h a j))) := (hR.at ht (by omega) (by omega)).arrI ht
    obtain ⟨hj1, hj2⟩ := jm_in_spec hj
    show W p l e R s m args below meth cd H locs _ _ _ (F0 m pc arr (.int v :: .int j :: jg_mv G (.inr (.inl a)) :: st.map (jg_mv G)))
    rw [jg_mv_obj G hp1]
    refine W.iast hx hb hc (hK.2.2.1.1 _ _) (fun q => by cases q) (by rw [arrV_size]; exact hj1) rfl rfl hd fun H' g1 g2 g3 => ?_
    have ea : (jm_sI h a (jm_ix j) v).2.2 a = ((h.2.2 a).1, (h.2.2 a).2.1, jm_up (h.2.2 a).2.2.1 (jm_ix j) v, (h.2.2 a).2.2.2) := jm_up_self _ _ _
    refine z H' _ arr (hR.upd hp1 hp2 rfl (fun r hr => jm_up_ne _ _ hr) g2 g3 (jg_at.mkI (by rw [ea]; exact ht) ?_)) hn (jl_app hl (Nat.le_add_right _ _)) hL
    rw [ea, g1, arrV_store]
    congr 2
    funext k
    unfold updV
    show (if k = jm_ix j then Value.int v else Value.int (jm_I h a k)) = Value.int (jm_up _ _ v k)
    unfold jm_up
    by_cases hk : k = jm_ix j
    · rw [if_pos hk, if_pos hk]
    · rw [if_neg hk, if_neg hk]; rfl
  · exact z.elim
theorem jw_lald (hx : p.tables.exec = Jvm.exec) (hb : cd.code = bs) (hK : jg_K G J Wg s) (hd : decode bs pc = .ok (.laload, 1)) (z : jo_lald (jg_P p l e R s m args below meth cd G J nL ns zs Q) (pc + 1) ls st h) : jg_P p l e R s m args below meth cd G J nL ns zs Q (pc, ls, st, h) := by
  intro H locs arr hR hn hl hL
  replace hR : jg_R G J h H := hR
  replace hn : ns ≤ h.1 ∧ zs ≤ h.2.1 ∧ h.1 ≤ R.cells + ns ∧ h.2.1 ≤ R.slots + zs := hn
  replace hL : jg_Ls G arr nL ls := hL
  unfold jo_lald at z
  split at z
  · rename_i j a st
    obtain ⟨ht, hj, z⟩ := z
    obtain ⟨hp1, hp2⟩ := hR.pos ht (by omega) (by omega)
    have hc : H[G.2.1 + (a - 2)]? = some (arrV G.2.2.2.2.2.1 (jm_N h a) (fun j => .long (jm_L h a j))) := (hR.at ht (by omega) (by omega)).arrL ht
    obtain ⟨hj1, hj2⟩ := jm_in_spec hj
    show W p l e R s m args below meth cd H locs _ _ _ (F0 m pc arr (.int j :: jg_mv G (.inr (.inl a)) :: st.map (jg_mv G)))
    rw [jg_mv_obj G hp1]
    exact W.lald (v := .long (jm_L h a (jm_ix j))) hx hb hc (hK.2.2.2.1.1 _ _) (fun q => by cases q) (by rw [arrV_size]; exact hj1) (by rw [arrV_read _ _ hj2]; rfl) rfl rfl hd (z H locs arr hR hn hl hL)
  · exact z.elim
theorem jw_last (hx : p.tables.exec = Jvm.exec) (hb : cd.code = bs) (hK : jg_K G J Wg s) (hd : decode bs pc = .ok (.lastore, 1)) (z : jo_last (jg_P p l e R s m args below meth cd G J nL ns zs Q) (pc + 1) ls st h) : jg_P p l e R s m args below meth cd G J nL ns zs Q (pc, ls, st, h) := by
  intro H locs arr hR hn hl hL
  replace hR : jg_R G J h H := hR
  replace hn : ns ≤ h.1 ∧ zs ≤ h.2.1 ∧ h.1 ≤ R.cells + ns ∧ h.2.1 ≤ R.slots + zs := hn
  replace hL : jg_Ls G arr nL ls := hL
  unfold jo_last at z
  split at z
  · rename_i v j a st
    obtain ⟨ht, hj, z⟩ := z
    obtain ⟨hp1, hp2⟩ := hR.pos ht (by omega) (by omega)
    have hc : H[G.2.1 + (a - 2)]? = some (arrV G.2.2.2.2.2.1 (jm_N h a) (fun j => .long (jm_L h a j))) := (hR.at ht (by omega) (by omega)).arrL ht
    obtain ⟨hj1, hj2⟩ := jm_in_spec hj
    show W p l e R s m args below meth cd H locs _ _ _ (F0 m pc arr (.long v :: .int j :: jg_mv G (.inr (.inl a)) :: st.map (jg_mv G)))
    rw [jg_mv_obj G hp1]
    refine W.last hx hb hc (hK.2.2.2.1.1 _ _) (fun q => by cases q) (by rw [arrV_size]; exact hj1) rfl rfl hd fun H' g1 g2 g3 => ?_
    have ea : (jm_sL h a (jm_ix j) v).2.2 a = ((h.2.2 a).1, (h.2.2 a).2.1, (h.2.2 a).2.2.1, (h.2.2 a).2.2.2.1, jm_up (h.2.2 a).2.2.2.2 (jm_ix j) v) := jm_up_self _ _ _
    refine z H' _ arr (hR.upd hp1 hp2 rfl (fun r hr => jm_up_ne _ _ hr) g2 g3 (jg_at.mkL (by rw [ea]; exact ht) ?_)) hn (jl_app hl (Nat.le_add_right _ _)) hL
    rw [ea, g1, arrV_store]
    congr 2
    funext k
    unfold updV
    show (if k = jm_ix j then Value.long v else Value.long (jm_L h a k)) = Value.long (jm_up _ _ v k)
    unfold jm_up
    by_cases hk : k = jm_ix j
    · rw [if_pos hk, if_pos hk]
    · rw [if_neg hk, if_neg hk]; rfl
  · exact z.elim
theorem jw_aald (hx : p.tables.exec = Jvm.exec) (hb : cd.code = bs) (hK : jg_K G J Wg s) (hd : decode bs pc = .ok (.aaload, 1)) {t : Nat} (h1 : 60 ≤ t) (h2 : t < 99) {ty : FieldType} (hty : J.2.2.1 t = some ty) (hr : ty.isReference = true) (z : jo_aald (jg_P p l e R s m args below meth cd G J nL ns zs Q) (pc + 1) ls st h t) : jg_P p l e R s m args below meth cd G J nL ns zs Q (pc, ls, st, h) := by
  intro H locs arr hR hn hl hL
  replace hR : jg_R G J h H := hR
  replace hn : ns ≤ h.1 ∧ zs ≤ h.2.1 ∧ h.1 ≤ R.cells + ns ∧ h.2.1 ≤ R.slots + zs := hn
  replace hL : jg_Ls G arr nL ls := hL
  unfold jo_aald at z
  split at z
  · rename_i j a st
    obtain ⟨ht, hj, z⟩ := z
    have ht' : (h.2.2 a).1 = t := ht
    obtain ⟨hp1, hp2⟩ := hR.pos ht (by omega) (by omega)
    have hc0 := (hR.at ht (by omega) (by omega)).arrR (by omega) (by omega)
    rw [ht'] at hc0
    have hc : H[G.2.1 + (a - 2)]? = some (arrV (G.2.2.2.2.2.2.1 t) (jm_N h a) (fun j => jg_mv G (.inr (.inl (jm_F h a j))))) := hc0
    obtain ⟨hj1, hj2⟩ := jm_in_spec hj
    show W p l e R s m args below meth cd H locs _ _ _ (F0 m pc arr (.int j :: jg_mv G (.inr (.inl a)) :: st.map (jg_mv G)))
    rw [jg_mv_obj G hp1]
    exact W.aald (v := jg_mv G (.inr (.inl (jm_F h a (jm_ix j))))) (ty := ty) hx hb hc ((hK.2.2.2.2.2.1 t ty hty).1 _ _) hr (fun q => by cases q) (by rw [arrV_size]; exact hj1) (by rw [arrV_read _ _ hj2]; rfl) rfl rfl hd (z H locs arr hR hn hl hL)
  · exact z.elim
theorem jw_aast (hx : p.tables.exec = Jvm.exec) (hb : cd.code = bs) (hK : jg_K G J Wg s) (hd : decode bs pc = .ok (.aastore, 1)) {t y : Nat} (h1 : 60 ≤ t) (h2 : t < 99) (hy0 : 0 < y) (hy6 : y < 60) {q : vw_C} (hq : J.1[y]? = some q) (hty : J.2.2.1 t = some (.object q.1)) (z : jo_aast (jg_P p l e R s m args below meth cd G J nL ns zs Q) (pc + 1) ls st h t y) : jg_P p l e R s m args below meth cd G J nL ns zs Q (pc, ls, st, h) := by
  intro H locs arr hR hn hl hL
  replace hR : jg_R G J h H := hR
  replace hn : ns ≤ h.1 ∧ zs ≤ h.2.1 ∧ h.1 ≤ R.cells + ns ∧ h.2.1 ≤ R.slots + zs := hn
  replace hL : jg_Ls G arr nL ls := hL
  unfold jo_aast at z
  split at z
  · rename_i v j a st
    obtain ⟨ht, hj, hv, z⟩ := z
    have ht' : (h.2.2 a).1 = t := ht
    have hv' : (h.2.2 v).1 = y := hv
    obtain ⟨hp1, hp2⟩ := hR.pos ht (by omega) (by omega)
    obtain ⟨hv1, hv2⟩ := hR.pos hv (by omega) (by omega)
    have hc0 := (hR.at ht (by omega) (by omega)).arrR (by omega) (by omega)
    rw [ht'] at hc0
    have hc : H[G.2.1 + (a - 2)]? = some (arrV (G.2.2.2.2.2.2.1 t) (jm_N h a) (fun j => jg_mv G (.inr (.inl (jm_F h a j))))) := hc0
    obtain ⟨q', hq', cellV, g1, g2, g3, -⟩ := (hR.at hv (by omega) (by omega)).obj (by omega)
    rw [hv'] at g2
    obtain ⟨hj1, hj2⟩ := jm_in_spec hj
    have hcls := (hK.2.1 y q hy0 hq).2
    obtain ⟨kA, comp, k1, k2, k3, -⟩ := (hK.2.2.2.2.2.1 t _ hty).2.1
    have hcomp : comp = G.2.2.2.1.1 y := Option.some.inj (k3.symm.trans hcls.1)
    subst hcomp
    obtain ⟨kC, hkC, -⟩ := hcls.2
    show W p l e R s m args below meth cd H locs _ _ _ (F0 m pc arr (jg_mv G (.inr (.inl v)) :: .int j :: jg_mv G (.inr (.inl a)) :: st.map (jg_mv G)))
    rw [jg_mv_obj G hp1, jg_mv_obj G hv1]
    refine W.aast hx hb hc (fun q h => by cases h) (fun h => by cases h) k1 k2 rfl hkC ⟨fun q => hj1 (Or.inl q), by rw [arrV_size]; exact hj2⟩ g1 (fun q h => by rw [g3] at h; cases h) (by rw [g2]; exact hkC) (by rw [g2]; exact va_assign hcls) rfl rfl hd fun H' e1 e2 e3 => ?_
    have ea : (jm_sF h a (jm_ix j) v).2.2 a = ((h.2.2 a).1, (h.2.2 a).2.1, (h.2.2 a).2.2.1, jm_up (h.2.2 a).2.2.2.1 (jm_ix j) v, (h.2.2 a).2.2.2.2) := jm_up_self _ _ _
    refine z H' _ arr (hR.upd hp1 hp2 rfl (fun r hr => jm_up_ne _ _ hr) e2 e3 (jg_at.mkR (by rw [ea]; show 60 ≤ (h.2.2 a).1; omega) (by rw [ea]; show (h.2.2 a).1 < 99; omega) ?_)) hn (jl_app hl (Nat.le_add_right _ _)) hL
    rw [ea, e1, arrV_store]
    show some (arrV (G.2.2.2.2.2.2.1 t) _ _) = some (arrV (G.2.2.2.2.2.2.1 (h.2.2 a).1) _ _)
    rw [ht']
    congr 2
    funext k
    unfold updV
    show (if k = jm_ix j then Value.ref (G.2.1 + (v - 2)) else jg_mv G (.inr (.inl (jm_F h a k)))) = jg_mv G (.inr (.inl (jm_up _ _ v k)))
    unfold jm_up
    by_cases hk : k = jm_ix j
    · rw [if_pos hk, if_pos hk, jg_mv_obj G hv1]
    · rw [if_neg hk, if_neg hk]; rfl
  · exact z.elim
theorem jw_new (hx : p.tables.exec = Jvm.exec) (hb : cd.code = bs) (hK : jg_K G J Wg s) (hJ : jg_J J Wg) {own : String} {idx : Nat} (hown : s.vm.findClass own = some m.cls) {x c z0 : Nat} {q : vw_C} (hx0 : 0 < x) (hq : J.1[x]? = some q) (hcl : Cond.classLink own idx q.1 ∈ Wg) (hins : Cond.instantiable q.1 q.2.2 ∈ Wg) (hini : Cond.initialized q.1 ∈ Wg)
    (hdf : ∀ k, k < q.2.2 → defaultValue (J.2.1 x k) = jg_fv G (J.2.1 x) (x, 0, fun _ => 0, fun _ => 0, fun _ => 0) k)
    (hRc : c ≤ R.cells + ns) (hRz : z0 ≤ R.slots + zs) (hd : decode bs pc = .ok (.new idx, 3)) (z : jo_new (jg_P p l e R s m args below meth cd G J nL ns zs Q) (pc + 3) ls st h x q.2.2 c z0) : jg_P p l e R s m args below meth cd G J nL ns zs Q (pc, ls, st, h) := by
  intro H locs arr hR hn hl hL
  replace hR : jg_R G J h H := hR
  replace hn : ns ≤ h.1 ∧ zs ≤ h.2.1 ∧ h.1 ≤ R.cells + ns ∧ h.2.1 ≤ R.slots + zs := hn
  replace hL : jg_Ls G arr nL ls := hL
  obtain ⟨z1, z2, z⟩ := z
  obtain ⟨hx60, hin, hpt, hnm⟩ := hJ x q hx0 hq
  have hts : ∀ w ∈ Wg, w.before args s = true := fun w hw => hK.1 w hw args
  have hKn := hK.2.1 x q hx0 hq
  obtain ⟨hn1, hn2, hn3, hn4⟩ : ns ≤ h.1 ∧ zs ≤ h.2.1 ∧ h.1 ≤ R.cells + ns ∧ h.2.1 ≤ R.slots + zs := hn
  have hsz : H.size = G.2.1 + (h.1 - 2) := hR.1.2.1
  refine W.newcK hx hb hown (hts _ hcl) (hts _ hins) (hts _ hini) rfl hd (by show h.1 - ns + 1 ≤ _; omega) (by show h.2.1 - zs + _ ≤ _; omega) hKn.2.1 rfl fun H' kC hkC g1 g2 g3 => ?_
  have hR' : jg_R G J (jm_new h x 0 q.2.2) H' := hR.push g2 g3 (jg_at.mkO (by show x < 60; omega) ⟨q, hq, (u_born (J.2.1 x) hts hin hKn hkC g1 hpt).to hdf⟩)
  have w := z H' locs arr hR' ⟨by show ns ≤ h.1 + 1; omega, by show zs ≤ h.2.1 + _; omega, by show h.1 + 1 ≤ _; omega, by show h.2.1 + _ ≤ _; omega⟩ hl hL
  have em : jg_mv G (.inr (.inl h.1)) = .ref H.size := by rw [jg_mv_obj G hR.1.1, hsz]
  have w' : W p l e R s m args below meth cd H' locs (h.1 + 1 - ns) (h.2.1 + q.2.2 - zs) (jg_Z G J R s below ns zs Q) (F0 m (pc + 3) arr (jg_mv G (.inr (.inl h.1)) :: st.map (jg_mv G))) := w
  rw [em] at w'
  exact W.cs (by show h.1 - ns + 1 = h.1 + 1 - ns; omega) (by show h.2.1 - zs + _ = _; omega) w'
theorem jw_newa (hx : p.tables.exec = Jvm.exec) (hb : cd.code = bs) (hK : jg_K G J Wg s) {c z0 : Nat} {ty : ArrayType} {t : Nat} (hty : (ty = .int ∧ t = 100 ∧ Cond.arrayClass .int ∈ Wg) ∨ (ty = .long ∧ t = 101 ∧ Cond.arrayClass .long ∈ Wg))
    (hRc : c ≤ R.cells + ns) (hRz : z0 ≤ R.slots + zs) (hd : decode bs pc = .ok (.newarray ty, 2)) (z : jo_newa (jg_P p l e R s m args below meth cd G J nL ns zs Q) (pc + 2) ls st h t c z0) : jg_P p l e R s m args below meth cd G J nL ns zs Q (pc, ls, st, h) := by
  intro H locs arr hR hn hl hL
  replace hR : jg_R G J h H := hR
  replace hn : ns ≤ h.1 ∧ zs ≤ h.2.1 ∧ h.1 ≤ R.cells + ns ∧ h.2.1 ≤ R.slots + zs := hn
  replace hL : jg_Ls G arr nL ls := hL
  unfold jo_newa at z
  split at z
  · rename_i k st
    obtain ⟨z0', z3, z1, z2, z⟩ := z
    obtain ⟨hn1, hn2, hn3, hn4⟩ : ns ≤ h.1 ∧ zs ≤ h.2.1 ∧ h.1 ≤ R.cells + ns ∧ h.2.1 ≤ R.slots + zs := hn
    have hsz : H.size = G.2.1 + (h.1 - 2) := hR.1.2.1
    have hk : k.toNatClampNeg ≤ 100000 := by
      have : k.toInt.toNat ≤ 100000 := by omega
      exact this
    have em : jg_mv G (.inr (.inl h.1)) = .ref H.size := by rw [jg_mv_obj G hR.1.1, hsz]
    have hts : ∀ w ∈ Wg, w.before args s = true := fun w hw => hK.1 w hw args
    have fin : ∀ (H' : Heap), H'.size = H.size + 1 → (∀ q, q < H.size → H'[q]? = H[q]?) → jg_at G J (t, jm_ix k, fun _ => 0, fun _ => 0, fun _ => 0) H.size H' → W p l e R s m args below meth cd H' locs (h.1 - ns + 1) (h.2.1 - zs + k.toNatClampNeg) (jg_Z G J R s below ns zs Q) (F0 m (pc + 2) arr (.ref H.size :: st.map (jg_mv G))) := by
      intro H' g2 g3 ga
      have w := z H' locs arr (hR.push (z := jm_ix k) g2 g3 ga) ⟨by show ns ≤ h.1 + 1; omega, by show zs ≤ h.2.1 + _; omega, by show h.1 + 1 ≤ _; omega, by show h.2.1 + _ ≤ _; omega⟩ hl hL
      have w' : W p l e R s m args below meth cd H' locs (h.1 + 1 - ns) (h.2.1 + jm_ix k - zs) (jg_Z G J R s below ns zs Q) (F0 m (pc + 2) arr (jg_mv G (.inr (.inl h.1)) :: st.map (jg_mv G))) := w
      rw [em] at w'
      exact W.cs (by omega) (by show h.2.1 - zs + jm_ix k = _; omega) w'
    have hz2 : h.2.1 + k.toNatClampNeg ≤ z0 := z2
    rcases hty with ⟨rfl, rfl, hw⟩ | ⟨rfl, rfl, hw⟩
    · refine W.newa (atype := .int) hx hb (hts _ hw) rfl hd rfl (jm_nn z0') (by show _ * 4 ≤ _; omega) (by show h.1 - ns + 1 ≤ _; omega) (by show h.2.1 - zs + _ ≤ _; omega) fun cA kA comp h1 h2 h3 => ?_
      rw [show "[" ++ (newarray.typeOf ArrayType.int).toString = "[I" from by decide +kernel] at h1
      obtain rfl := Option.some.inj (h1.symm.trans hK.2.2.1.2)
      refine fin _ (by simp) (fun q hq => by rw [Array.getElem?_push, if_neg (Nat.ne_of_lt hq)]) (jg_at.mkI rfl ?_)
      rw [Array.getElem?_push_size, arrV_new]
      rfl
    · refine W.newa (atype := .long) hx hb (hts _ hw) rfl hd rfl (jm_nn z0') (by show _ * 8 ≤ _; omega) (by show h.1 - ns + 1 ≤ _; omega) (by show h.2.1 - zs + _ ≤ _; omega) fun cA kA comp h1 h2 h3 => ?_
      rw [show "[" ++ (newarray.typeOf ArrayType.long).toString = "[J" from by decide +kernel] at h1
      obtain rfl := Option.some.inj (h1.symm.trans hK.2.2.2.1.2)
      refine fin _ (by simp) (fun q hq => by rw [Array.getElem?_push, if_neg (Nat.ne_of_lt hq)]) (jg_at.mkL rfl ?_)
      rw [Array.getElem?_push_size, arrV_new]
      rfl
  · exact z.elim
theorem jw_newq (hx : p.tables.exec = Jvm.exec) (hb : cd.code = bs) (hK : jg_K G J Wg s) {own C : String} {idx : Nat} (hown : s.vm.findClass own = some m.cls) {c z0 t : Nat} (h60 : 60 ≤ t) (h99 : t < 99) (hty : J.2.2.1 t = some (.object C)) (hcl : Cond.classLink own idx C ∈ Wg)
    (hRc : c ≤ R.cells + ns) (hRz : z0 ≤ R.slots + zs) (hd : decode bs pc = .ok (.anewarray idx, 3)) (z : jo_newa (jg_P p l e R s m args below meth cd G J nL ns zs Q) (pc + 3) ls st h t c z0) : jg_P p l e R s m args below meth cd G J nL ns zs Q (pc, ls, st, h) := by
  intro H locs arr hR hn hl hL
  replace hR : jg_R G J h H := hR
  replace hn : ns ≤ h.1 ∧ zs ≤ h.2.1 ∧ h.1 ≤ R.cells + ns ∧ h.2.1 ≤ R.slots + zs := hn
  replace hL : jg_Ls G arr nL ls := hL
  unfold jo_newa at z
  split at z
  · rename_i k st
    obtain ⟨z0', z3, z1, z2, z⟩ := z
    obtain ⟨hn1, hn2, hn3, hn4⟩ : ns ≤ h.1 ∧ zs ≤ h.2.1 ∧ h.1 ≤ R.cells + ns ∧ h.2.1 ≤ R.slots + zs := hn
    have hsz : H.size = G.2.1 + (h.1 - 2) := hR.1.2.1
    have hk : k.toNatClampNeg ≤ 100000 := by
      have : k.toInt.toNat ≤ 100000 := by omega
      exact this
    have em : jg_mv G (.inr (.inl h.1)) = .ref H.size := by rw [jg_mv_obj G hR.1.1, hsz]
    have hts : ∀ w ∈ Wg, w.before args s = true := fun w hw => hK.1 w hw args
    obtain ⟨-, hRA, hAO, -⟩ := hK.2.2.2.2.2.1 t _ hty
    obtain ⟨kA', comp', -, -, -, hnA⟩ := hRA
    have hz2 : h.2.1 + k.toNatClampNeg ≤ z0 := z2
    refine W.anew hx hb hown (hts _ hcl) (va_AO.use (hAO C rfl)) rfl hd rfl (jm_nn z0') (by omega) (by show h.1 - ns + 1 ≤ _; omega) (by show h.2.1 - zs + _ ≤ _; omega) fun cA kA comp f1 f2 f3 f4 => ?_
    obtain rfl := Option.some.inj (f1.symm.trans hnA)
    have hat : jg_at G J (t, jm_ix k, fun _ => 0, fun _ => 0, fun _ => 0) H.size (H.push ({ cls := G.2.2.2.2.2.2.1 t, slots := Array.replicate k.toNatClampNeg .null, vm := .none } : Cell)) := by
      refine jg_at.mkR h60 h99 ?_
      rw [Array.getElem?_push_size, arrV_new]
      rfl
    have w := z (H.push ({ cls := G.2.2.2.2.2.2.1 t, slots := Array.replicate k.toNatClampNeg .null, vm := .none } : Cell)) locs arr (hR.push (z := jm_ix k) (by simp) (fun q hq => by rw [Array.getElem?_push, if_neg (Nat.ne_of_lt hq)]) hat) ⟨by show ns ≤ h.1 + 1; omega, by show zs ≤ h.2.1 + _; omega, by show h.1 + 1 ≤ _; omega, by show h.2.1 + _ ≤ _; omega⟩ hl hL
    have w' : W p l e R s m args below meth cd (H.push ({ cls := G.2.2.2.2.2.2.1 t, slots := Array.replicate k.toNatClampNeg .null, vm := .none } : Cell)) locs (h.1 + 1 - ns) (h.2.1 + jm_ix k - zs) (jg_Z G J R s below ns zs Q) (F0 m (pc + 3) arr (jg_mv G (.inr (.inl h.1)) :: st.map (jg_mv G))) := w
    rw [em] at w'
    exact W.cs (by show h.1 - ns + 1 = h.1 + 1 - ns; omega) (by show h.2.1 - zs + jm_ix k = _; omega) w'
  · exact z.elim
theorem jw_oinit (hx : p.tables.exec = Jvm.exec) (hb : cd.code = bs) (hml : cd.maxLocals = nL) (hK : jg_K G J Wg s) {own : String} {idx : Nat} (hown : s.vm.findClass own = some m.cls) (hl1 : Cond.methodLink own idx objectInit ∈ Wg) (hl2 : Cond.instanceMethod objectInit ∈ Wg) (hl3 : Cond.code objectInit ⟨#[0xb1]⟩ 1 none ∈ Wg)
    {w0 : Nat × Nat} (hRf : w0.1 ≤ R.frames) (hRl : w0.2 ≤ R.locals) (hd : decode bs pc = .ok (.invokespecial idx, 3)) (z : jo_oinit (jg_P p l e R s m args below meth cd G J nL ns zs Q) (pc + 3) ls st h w0) : jg_P p l e R s m args below meth cd G J nL ns zs Q (pc, ls, st, h) := by
  intro H locs arr hR hn hl hL
  replace hR : jg_R G J h H := hR
  replace hn : ns ≤ h.1 ∧ zs ≤ h.2.1 ∧ h.1 ≤ R.cells + ns ∧ h.2.1 ≤ R.slots + zs := hn
  replace hL : jg_Ls G arr nL ls := hL
  unfold jo_oinit at z
  split at z
  · rename_i a st
    obtain ⟨ht, hst, z⟩ := z
    have w := z H locs arr hR hn hl hL
    have ha : a ≠ 0 := fun q => ht (by rw [q]; exact hR.2.1 0 (Or.inl rfl))
    show W p l e R s m args below meth cd H locs _ _ _ (F0 m pc arr (jg_mv G (.inr (.inl a)) :: st.map (jg_mv G)))
    rw [jg_mv_ref G ha]
    refine W.objInit hx hb hown (hK.1 _ hl1 args) (hK.1 _ hl2 args) (hK.1 _ hl3 args) rfl (by rw [hml]; exact hL.1) rfl hd (by omega) ?_ w
    have hsum := jg_catsum G st
    show 2 * 0 + _ + 12 ≤ _
    omega
  · exact z.elim
theorem jw_max (hx : p.tables.exec = Jvm.exec) (hb : cd.code = bs) (hml : cd.maxLocals = nL) (hK : jg_K G J Wg s) {own : String} {idx : Nat} (hown : s.vm.findClass own = some m.cls) (hl1 : Cond.methodLink own idx Lib.Math.max.name ∈ Wg) (hl2 : Cond.static Lib.Math.max.name ∈ Wg) (hl3 : Cond.initialized "java/lang/Math" ∈ Wg) (hl4 : Cond.code Lib.Math.max.name Lib.Math.max.code 2 (some .int) ∈ Wg)
    {w0 : Nat × Nat} (hRf : w0.1 ≤ R.frames) (hRl : w0.2 ≤ R.locals) (hd : decode bs pc = .ok (.invokestatic idx, 3)) (z : jo_max (jg_P p l e R s m args below meth cd G J nL ns zs Q) (pc + 3) ls st h w0) : jg_P p l e R s m args below meth cd G J nL ns zs Q (pc, ls, st, h) := by
  intro H locs arr hR hn hl hL
  replace hR : jg_R G J h H := hR
  replace hn : ns ≤ h.1 ∧ zs ≤ h.2.1 ∧ h.1 ≤ R.cells + ns ∧ h.2.1 ≤ R.slots + zs := hn
  replace hL : jg_Ls G arr nL ls := hL
  unfold jo_max at z
  split at z
  · rename_i b a st
    obtain ⟨hst, z⟩ := z
    have w := z H locs arr hR hn hl hL
    have hsum := jg_catsum G st
    obtain ⟨hn1, hn2, hn3, hn4⟩ : ns ≤ h.1 ∧ zs ≤ h.2.1 ∧ h.1 ≤ R.cells + ns ∧ h.2.1 ≤ R.slots + zs := hn
    exact va_mmax hx hb (by rw [hml]; exact hL.1.symm) hown (hK.1 _ hl1 args) (hK.1 _ hl2 args) (hK.1 _ hl3 args) (hK.1 _ hl4 args) (by omega) (by omega) (by show h.1 - ns ≤ _; omega) (by show h.2.1 - zs ≤ _; omega) hd w
  · exact z.elim
theorem jw_copy (hx : p.tables.exec = Jvm.exec) (hb : cd.code = bs) (hml : cd.maxLocals = nL) (hK : jg_K G J Wg s) {own : String} {idx : Nat} (hown : s.vm.findClass own = some m.cls) (hl1 : Cond.methodLink own idx arraycopyName ∈ Wg) (hl2 : Cond.native arraycopyName ∈ Wg) (hl3 : Cond.static arraycopyName ∈ Wg) (hl4 : Cond.initialized "java/lang/System" ∈ Wg)
    {w0 : Nat × Nat} (hRf : w0.1 ≤ R.frames) (hRl : w0.2 ≤ R.locals) (hd : decode bs pc = .ok (.invokestatic idx, 3)) (z : jo_copy (jg_P p l e R s m args below meth cd G J nL ns zs Q) (pc + 3) ls st h w0) : jg_P p l e R s m args below meth cd G J nL ns zs Q (pc, ls, st, h) := by
  intro H locs arr hR hn hl hL
  replace hR : jg_R G J h H := hR
  replace hn : ns ≤ h.1 ∧ zs ≤ h.2.1 ∧ h.1 ≤ R.cells + ns ∧ h.2.1 ≤ R.slots + zs := hn
  replace hL : jg_Ls G arr nL ls := hL
  unfold jo_copy at z
  split at z
  · rename_i k dp b sp a st
    obtain ⟨ta, tb, k1, k2, k3, k4, k5, hst, z⟩ := z
    have ta' : (h.2.2 a).1 = 100 := ta
    have tb' : (h.2.2 b).1 = 100 := tb
    obtain ⟨pa1, pa2⟩ := hR.pos ta (by omega) (by omega)
    obtain ⟨pb1, pb2⟩ := hR.pos tb (by omega) (by omega)
    have ca : H[G.2.1 + (a - 2)]? = some (arrV G.2.2.2.2.1 (jm_N h a) (fun j => .int (jm_I h a j))) := (hR.at ta (by omega) (by omega)).arrI ta
    have cb : H[G.2.1 + (b - 2)]? = some (arrV G.2.2.2.2.1 (jm_N h b) (fun j => .int (jm_I h b j))) := (hR.at tb (by omega) (by omega)).arrI tb
    have hsum := jg_catsum G st
    show W p l e R s m args below meth cd H locs _ _ _ (F0 m pc arr (.int k :: .int dp :: jg_mv G (.inr (.inl b)) :: .int sp :: jg_mv G (.inr (.inl a)) :: st.map (jg_mv G)))
    rw [jg_mv_obj G pa1, jg_mv_obj G pb1]
    intro T hT X
    obtain ⟨-, q0, hk0, cm0, hkk0⟩ := hK.2.2.1.1 (jm_N h a) (fun j => .int (jm_I h a j))
    have e4 : sp.toNatClampNeg + k.toNatClampNeg ≤ jm_N h a := by
      show sp.toInt.toNat + k.toInt.toNat ≤ _
      omega
    have e5 : dp.toNatClampNeg + k.toNatClampNeg ≤ jm_N h b := by
      show dp.toInt.toNat + k.toInt.toNat ≤ _
      omega
    obtain ⟨vm', X', step⟩ := X.arraycopy hx hown (hK.1 _ hl1 args) (hK.1 _ hl2 args) (hK.1 _ hl3 args) (hK.1 _ hl4 args) (src := G.2.1 + (a - 2)) (dst := G.2.1 + (b - 2)) (cs := arrV G.2.2.2.2.1 (jm_N h a) (fun j => .int (jm_I h a j))) (cd := arrV G.2.2.2.2.1 (jm_N h b) (fun j => .int (jm_I h b j))) (srcPos := sp) (destPos := dp) (n := k) (by rw [hT]; exact ca) (by rw [hT]; exact cb)
      (fun _ h => by cases h) (fun _ h => by cases h) (fun h => by cases h) (fun h => by cases h) hk0 hk0 hkk0 hkk0 (by simp [refKind]) (jm_nn k2) (jm_nn k3) (jm_nn k1)
      (by rw [arrV_size]; omega) (by rw [arrV_size]; omega)
      (fun vm₁ _ i hi => by
        have e0 : (arrV G.2.2.2.2.1 (jm_N h a) (fun j => .int (jm_I h a j))).slots.getD (sp.toNatClampNeg + i) .null = .int (jm_I h a (sp.toNatClampNeg + i)) := by
          rw [Array.getD_eq_getD_getElem?, arrV_read _ _ (by omega)]
          rfl
        refine ⟨?_, ?_⟩
        · rw [e0]; rfl
        · rw [e0]; exact trivial)
      (g := F0 m pc arr (.int k :: .int dp :: .ref (G.2.1 + (b - 2)) :: .int sp :: .ref (G.2.1 + (a - 2)) :: st.map (jg_mv G))) rfl (by rw [hml]; exact hL.1) (rest := st.map (jg_mv G)) rfl (by rw [hb]; exact hd) (by omega) (by
        have hfw : nativeFrameWords "java/lang/System" "arraycopy" 5 = 7 := by decide +kernel
        show 2 * 0 + _ + _ ≤ _
        omega)
    have ec : copied (arrV G.2.2.2.2.1 (jm_N h a) (fun j => .int (jm_I h a j))) (arrV G.2.2.2.2.1 (jm_N h b) (fun j => .int (jm_I h b j))) sp dp k = arrV G.2.2.2.2.1 (jm_N h b) (fun j => .int (va_cpy (jm_I h a) (jm_I h b) sp.toNatClampNeg dp.toNatClampNeg k.toNatClampNeg j)) := va_copied (fun z => .int z) G.2.2.2.2.1 G.2.2.2.2.1 (jm_I h a) (jm_I h b) e4
    rw [ec] at X' step
    generalize hY : arrV G.2.2.2.2.1 (jm_N h b) (fun j => .int (va_cpy (jm_I h a) (jm_I h b) sp.toNatClampNeg dp.toNatClampNeg k.toNatClampNeg j)) = Y at X' step
    have hlb : G.2.1 + (b - 2) < H.size := (Array.getElem?_eq_some_iff.mp cb).1
    have hheap : ((T.setVm vm').setCell (G.2.1 + (b - 2)) Y).heap = H.setIfInBounds (G.2.1 + (b - 2)) Y := by rw [← hT]; rfl
    have ea : (jm_sA h b (jm_cpy (jm_I h a) (jm_I h b) (jm_ix sp) (jm_ix dp) (jm_ix k))).2.2 b = ((h.2.2 b).1, (h.2.2 b).2.1, jm_cpy (jm_I h a) (jm_I h b) (jm_ix sp) (jm_ix dp) (jm_ix k), (h.2.2 b).2.2.2) := jm_up_self _ _ _
    obtain ⟨t, a1, b1⟩ := z (H.setIfInBounds (G.2.1 + (b - 2)) Y) _ arr (hR.upd pb1 pb2 rfl (fun r hr => jm_up_ne _ _ hr) (by simp) (fun q hq => by simp [Array.getElem?_setIfInBounds, Ne.symm hq]) (jg_at.mkI (by rw [ea]; exact tb) (by
      rw [ea, ← hY]
      simp [Array.getElem?_setIfInBounds, hlb]
      rfl))) hn (fun q hq => by
        rcases List.mem_append.mp hq with h1 | h1
        · exact hl q h1
        · obtain ⟨z1, -, hz1⟩ := List.mem_map.mp h1
          rw [← hz1]
          exact Nat.le_add_right _ _) hL _ hheap X'
    exact ⟨t, step t a1, b1⟩
  · exact z.elim
end JA
end
section
/-! Calls: into the callee's frame and back. -/
/-- methods by number: name, code, what is returned, handlers -/
abbrev jm_M : Type := Nat → MethodName × ByteArray × Option FieldType × List (Nat × Nat × Nat × Nat)
/-- a frame of the method mi -/
def jg_Fr (M : jm_M) (nl : Nat → Nat) (mi : Nat) (p : Program) (s : State) (m : MethodId) (meth : Method) (cd : Code) : Prop :=
  p.tables.exec = Jvm.exec ∧ cd.code = (M mi).2.1 ∧ cd.maxLocals = nl mi ∧ s.vm.findClass (M mi).1.cls = some m.cls ∧ meth.sig.returnType = (M mi).2.2.1 ∧ meth.locks = false ∧ meth.name = (M mi).1.name ∧
  cd.exceptionTable.toList.map (fun h => (h.startPc, h.endPc, h.handlerPc, h.catchType)) = (M mi).2.2.2
/-- room for the frames above -/
def jg_Rm (w : Nat × Nat) (R : Room) : Prop := w.1 ≤ R.frames ∧ w.2 ≤ R.locals
/-- the abstract run of a method (by E, at depth d) is a run of the machine -/
def jg_Snd (G : jm_G) (J : jm_J) (Wg : List Cond) (M : jm_M) (nl : Nat → Nat) (rm : Nat → Nat × Nat) (cap zcap : Nat) (p : Program) (l : Launch) (e : Env) (E : Nat → List jm_V → jm_H → jm_Q → Prop) : Prop :=
  ∀ (mi : Nat) (as : List jm_V) (h : jm_H) (Q : jm_Q), E mi as h Q → (∀ v ∈ as, ∀ z, v ≠ .inr (.inr z)) →
  ∀ (R : Room) (s : State) (m : MethodId) (below : List Frame) (meth : Method) (cd : Code), jg_Fr M nl mi p s m meth cd → jg_K G J Wg s → jg_Rm (rm mi) R → (cap ≤ R.cells + h.1 ∧ zcap ≤ R.slots + h.2.1) →
  ∀ H, jg_R G J h H → s.heap = H → W p l e R s m (as.map (jg_mv G)).toArray below meth cd H [] 0 0 (jg_Z G J R s below h.1 h.2.1 Q) (entryFrame m (as.map (jg_mv G)).toArray (nl mi))
/-- the word that says a method's code -/
def jg_cw (M : jm_M) (nl : Nat → Nat) (Wg : List Cond) (x : Nat) : Prop := ((M x).2.2.2 = [] ∧ Cond.code (M x).1 (M x).2.1 (nl x) (M x).2.2.1 ∈ Wg) ∨ Cond.codeWith (M x).1 (M x).2.1 (nl x) (M x).2.2.1 (M x).2.2.2 ∈ Wg
theorem jg_callee {G : jm_G} {J : jm_J} {Wg : List Cond} {M : jm_M} {nl : Nat → Nat} {s : State} (hK : jg_K G J Wg s) {x : Nat} (h : jg_cw M nl Wg x) : ∃ mk methk ck, s.methodNamed? (M x).1 = some mk ∧ s.vm.method? mk = some methk ∧ methk.code = some ck ∧ ck.code = (M x).2.1 ∧ ck.maxLocals = nl x ∧ methk.sig.returnType = (M x).2.2.1 ∧ methk.locks = false ∧
    ck.exceptionTable.toList.map (fun h => (h.startPc, h.endPc, h.handlerPc, h.catchType)) = (M x).2.2.2 ∧ parseMethodDescriptor (M x).1.desc = some methk.sig := by
  rcases h with ⟨h0, h⟩ | h
  · have hw := hK.1 _ h #[]
    obtain ⟨mk, hn⟩ := Cond.code_named hw
    obtain ⟨methk, ck, g1, g2, g3, g4, g5, g6, g7, g8⟩ := Cond.code_spec hn hw
    refine ⟨mk, methk, ck, hn, g1, g2, g3, g4, g5, g6, ?_, g8⟩
    rw [h0]
    have : ck.exceptionTable = #[] := by simpa using g7
    rw [this]
    rfl
  · obtain ⟨mk, methk, ck, g0, g1, g2, g3, g4, g5, g6, g7, g8⟩ := Cond.codeWith_spec (hK.1 _ h #[])
    exact ⟨mk, methk, ck, g0, g1, g2, g3, g4, g6, g7, g5, g8⟩
section JC
variable {p : Program} {l : Launch} {e : Env} {R : Room} {s : State} {m : MethodId} {args : Array Value} {below : List Frame} {meth : Method} {cd : Code} {G : jm_G} {J : jm_J} {nL ns zs : Nat} {Q : jm_Q} {bs : ByteArray} {pc n : Nat} {ins : Instr} {ls : jm_Ls} {st : List jm_V} {h : jm_H} {Wg : List Cond}
theorem jw_into {H : Heap} {U : State} {locs : List Loc} (X : Stand p l e R s m args below meth cd U locs (h.1 - ns) (h.2.1 - zs)) (hU : U.heap = H) (hn : ns ≤ h.1 ∧ zs ≤ h.2.1 ∧ h.1 ≤ R.cells + ns ∧ h.2.1 ≤ R.slots + zs) (hl : ∀ q ∈ locs, G.2.1 ≤ q.base)
    {arr : Array Slot} {rest : List Value} {ig : Instr} (hsize : arr.size = cd.maxLocals) (hdg : decode cd.code pc = .ok (ig, 3)) {mk : MethodId} {methk : Method} {ck : Code} (hmk : U.vm.method? mk = some methk) (hck : methk.code = some ck) (hlk : methk.locks = false) (hpk : U.plainMethod mk)
    {R' : Room} (hRf : R'.frames + 1 ≤ R.frames) (hRl : (rest.map fun v => v.category).sum + (ck.maxLocals + 11) + R'.locals ≤ R.locals) (hRc : R'.cells + h.1 = R.cells + ns) (hRz : R'.slots + h.2.1 = R.slots + zs) (a : Array Value) {Qk : jm_Q}
    (w : W p l e R' (U.calling (F0 m pc arr rest) mk a) mk a (.java (F0 m pc arr rest) :: below) methk ck H [] 0 0 (jg_Z G J R' (U.calling (F0 m pc arr rest) mk a) (.java (F0 m pc arr rest) :: below) h.1 h.2.1 Qk) (entryFrame mk a ck.maxLocals)) {QQ : State → Prop}
    (k1 : ∀ (v : Option jm_V) (h' : jm_H) (T' : State) (locs' : List Loc), Qk (.inl v) h' → Stand p l e R s m args below meth cd T' locs' (h'.1 - ns) (h'.2.1 - zs) → jg_R G J h' T'.heap → (ns ≤ h'.1 ∧ zs ≤ h'.2.1 ∧ h'.1 ≤ R.cells + ns ∧ h'.2.1 ≤ R.slots + zs) → (∀ q ∈ locs', G.2.1 ≤ q.base) → ∃ t, Steps p.tables e below (T'.setTop (F0 m (pc + 3) arr ((v.map (jg_mv G)).toList ++ rest))) t ∧ QQ t)
    (k2 : ∀ (x : Nat) (h' : jm_H) (T' : State) (locs' : List Loc), Qk (.inr x) h' → Stand p l e R s m args below meth cd T' locs' (h'.1 - ns) (h'.2.1 - zs) → jg_R G J h' T'.heap → (ns ≤ h'.1 ∧ zs ≤ h'.2.1 ∧ h'.1 ≤ R.cells + ns ∧ h'.2.1 ≤ R.slots + zs) → (∀ q ∈ locs', G.2.1 ≤ q.base) → (200 ≤ jm_T h' x ∧ jm_T h' x % 2 = 1) → ∃ t, Steps p.tables e below ((T'.setTop (F0 m pc arr rest)).pushFrame (.throwing (jg_ad G x))) t ∧ QQ t) :
    ∃ t, Steps p.tables e below (doInvoke e (U.setTop (F0 m pc arr rest)) [] mk a).1 t ∧ QQ t := by
  obtain ⟨hn1, hn2, hn3, hn4⟩ := hn
  obtain ⟨Y₀, hin⟩ := X.into (g := F0 m pc arr rest) rfl hsize hdg a (R' := R') hmk hck hlk hpk hRf (by show 2 * 0 + (rest.map fun v => v.category).sum + _ + _ ≤ _; omega) (by omega) (by omega)
  have hheap : ((U.setTop (F0 m pc arr rest)).pushFrame (.java (entryFrame mk a ck.maxLocals))).heap = H := by
    rw [← hU]
    simp [State.pushFrame, State.setFrames, State.setTop, State.modifyTopJava]
  obtain ⟨t, stp, o, h', L, hrun, hended, hWe, hsame, hL, ⟨m1, m2, m3, m4⟩, hR', hQ, hxx⟩ := w _ hheap Y₀
  have hl' : ∀ q ∈ locs ++ L, G.2.1 ≤ q.base := fun q hq => by
    rcases List.mem_append.mp hq with h1 | h1
    · exact hl q h1
    · exact hL q h1
  have hc1 : h.1 - ns + (h'.1 - h.1) = h'.1 - ns := by omega
  have hc2 : h.2.1 - zs + (h'.2.1 - h.2.1) = h'.2.1 - zs := by omega
  rw [hin []]
  rcases o with v | x
  · have hended' : Ended t (.java (F0 m pc arr rest) :: below) (.returned (v.map (jg_mv G))) := by cases v <;> exact hended
    obtain ⟨T', X', hW', -, ht⟩ := X.outOf (g := F0 m pc arr rest) rfl hdg hended' hWe hsame
    rw [hc1, hc2] at X'
    have hh : t.heap = T'.heap := by rw [ht]; simp [State.setTop, State.modifyTopJava]
    obtain ⟨t2, st2, q2⟩ := k1 v h' T' (locs ++ L) hQ X' (by rw [← hh]; exact hR') ⟨by omega, by omega, by omega, by omega⟩ hl'
    refine ⟨t2, Steps.trans (Steps.weaken (mid := [.java (F0 m pc arr rest)]) stp) ?_, q2⟩
    rw [ht]
    exact st2
  · obtain ⟨T', X', hW', -, ht⟩ := X.outOfThrown (g := F0 m pc arr rest) rfl hended hWe hsame
    rw [hc1, hc2] at X'
    have hh : t.heap = T'.heap := by rw [ht]; exact Stand.throwing_heap _ _ _
    obtain ⟨t2, st2, q2⟩ := k2 x h' T' (locs ++ L) hQ X' (by rw [← hh]; exact hR') ⟨by omega, by omega, by omega, by omega⟩ hl' (hxx x rfl)
    refine ⟨t2, Steps.trans (Steps.weaken (mid := [.java (F0 m pc arr rest)]) stp) ?_, q2⟩
    rw [ht]
    exact st2
/-- the callee's frame, by the soundness at the next depth -/
theorem jw_enter {M : jm_M} {nl : Nat → Nat} {rm : Nat → Nat × Nat} {w0 : Nat × Nat} {cap zcap x : Nat} {E : Nat → List jm_V → jm_H → jm_Q → Prop} (hS : jg_Snd G J Wg M nl rm cap zcap p l e E) (hg : ∀ w ∈ Wg, jm_goodW w = true) (hx : p.tables.exec = Jvm.exec) (hK : jg_K G J Wg s) {H : Heap} {U : State} {locs : List Loc} (X : Stand p l e R s m args below meth cd U locs (h.1 - ns) (h.2.1 - zs)) (hU : U.heap = H) (hR : jg_R G J h H) (hn : ns ≤ h.1 ∧ zs ≤ h.2.1 ∧ h.1 ≤ R.cells + ns ∧ h.2.1 ≤ R.slots + zs) (hl : ∀ q ∈ locs, G.2.1 ≤ q.base)
    (hRm : jg_Rm w0 R) (hcap : cap ≤ R.cells + ns ∧ zcap ≤ R.slots + zs) {arr : Array Slot} {st : List jm_V} {ig : Instr} (hst : (rm x).1 + 1 ≤ w0.1 ∧ jm_cs st + (nl x + 11) + (rm x).2 ≤ w0.2) (hsize : arr.size = cd.maxLocals) (hdg : decode cd.code pc = .ok (ig, 3)) (hpl : plainFor (M x).1 = true)
    {mk : MethodId} {methk : Method} {ck : Code} (g0 : s.methodNamed? (M x).1 = some mk) (g1 : s.vm.method? mk = some methk) (g2 : methk.code = some ck) (g3 : ck.code = (M x).2.1) (g4 : ck.maxLocals = nl x) (g5 : methk.sig.returnType = (M x).2.2.1) (g6 : methk.locks = false) (g7 : ck.exceptionTable.toList.map (fun h => (h.startPc, h.endPc, h.handlerPc, h.catchType)) = (M x).2.2.2)
    {as : List jm_V} (hc1 : ∀ v ∈ as, ∀ z, v ≠ .inr (.inr z)) {Qk : jm_Q} (hE : E x as h Qk) {QQ : State → Prop}
    (k1 : ∀ (v : Option jm_V) (h' : jm_H) (T' : State) (locs' : List Loc), Qk (.inl v) h' → Stand p l e R s m args below meth cd T' locs' (h'.1 - ns) (h'.2.1 - zs) → jg_R G J h' T'.heap → (ns ≤ h'.1 ∧ zs ≤ h'.2.1 ∧ h'.1 ≤ R.cells + ns ∧ h'.2.1 ≤ R.slots + zs) → (∀ q ∈ locs', G.2.1 ≤ q.base) → ∃ t, Steps p.tables e below (T'.setTop (F0 m (pc + 3) arr ((v.map (jg_mv G)).toList ++ st.map (jg_mv G)))) t ∧ QQ t)
    (k2 : ∀ (x : Nat) (h' : jm_H) (T' : State) (locs' : List Loc), Qk (.inr x) h' → Stand p l e R s m args below meth cd T' locs' (h'.1 - ns) (h'.2.1 - zs) → jg_R G J h' T'.heap → (ns ≤ h'.1 ∧ zs ≤ h'.2.1 ∧ h'.1 ≤ R.cells + ns ∧ h'.2.1 ≤ R.slots + zs) → (∀ q ∈ locs', G.2.1 ≤ q.base) → (200 ≤ jm_T h' x ∧ jm_T h' x % 2 = 1) → ∃ t, Steps p.tables e below ((T'.setTop (F0 m pc arr (st.map (jg_mv G)))).pushFrame (.throwing (jg_ad G x))) t ∧ QQ t) :
    ∃ t, Steps p.tables e below (doInvoke e (U.setTop (F0 m pc arr (st.map (jg_mv G)))) [] mk (as.map (jg_mv G)).toArray).1 t ∧ QQ t := by
  obtain ⟨hf1, hf2⟩ := hRm
  obtain ⟨hn1, hn2, hn3, hn4⟩ := id hn
  have hsum := jg_catsum G st
  have hal := X.warmed.alike
  have hmk : U.vm.method? mk = some methk := by rw [hal.method?]; exact g1
  have hnU : U.methodNamed? (M x).1 = some mk := X.named g0
  refine jw_into (R' := { frames := R.frames - 1, cells := R.cells + ns - h.1, slots := R.slots + zs - h.2.1, locals := R.locals - (jm_cs st + (nl x + 11)) }) X hU hn hl hsize hdg hmk g2 g6 (State.plainMethod.of_named hpl hnU hmk) (by show R.frames - 1 + 1 ≤ _; omega) (by show _ + _ + (R.locals - (jm_cs st + (nl x + 11))) ≤ _; rw [g4]; omega) (by show R.cells + ns - h.1 + h.1 = _; omega) (by show R.slots + zs - h.2.1 + h.2.1 = _; omega) _ ?_ k1 k2
  rw [g4]
  refine hS x as h Qk hE hc1 _ _ mk _ methk ck ⟨hx, g3, g4, ?_, g5, g6, (name_of_methodNamed g0 g1).1, g7⟩ ?_ ⟨by show (rm x).1 ≤ R.frames - 1; omega, by show (rm x).2 ≤ R.locals - (jm_cs st + (nl x + 11)); omega⟩ ⟨by show cap ≤ R.cells + ns - h.1 + h.1; omega, by show zcap ≤ R.slots + zs - h.2.1 + h.2.1; omega⟩ H hR ?_
  · show U.vm.findClass _ = _
    rw [hal.findClass]
    exact findClass_of_methodNamed g0
  · have e1 : (U.calling (F0 m pc arr (st.map (jg_mv G))) mk (as.map (jg_mv G)).toArray).heap = H := by
      rw [← hU]
      simp [State.calling, State.pushFrame, State.setFrames, State.setTop, State.modifyTopJava]
    refine jg_K.moved hg (show s.WarmedH U.vm from X.warmed) ⟨fun q hq => ?_, fun q cell hq hc => ?_⟩ hK
    · rw [e1]
      exact hR.1.2.2.2 q hq
    · rw [e1] at hc
      exact hR.plain hq hc
  · rw [← hU]
    simp [State.calling, State.pushFrame, State.setFrames, State.setTop, State.modifyTopJava]
/-- what is asked of a throw in a frame that stands at pc -/
def jg_T (p : Program) (l : Launch) (e : Env) (R : Room) (s : State) (m : MethodId) (args : Array Value) (below : List Frame) (meth : Method) (cd : Code) (G : jm_G) (J : jm_J) (nL ns zs : Nat) (Q : jm_Q) (hd : Nat → Nat → Option Nat) (pc : Nat) : Prop :=
  ∀ (x : Nat) (ls : jm_Ls) (h : jm_H) (T : State) (locs : List Loc) (arr : Array Slot) (rest : List Value), jo_thr (jg_P p l e R s m args below meth cd G J nL ns zs Q) Q ls h hd pc x → Stand p l e R s m args below meth cd T locs (h.1 - ns) (h.2.1 - zs) → jg_R G J h T.heap → (ns ≤ h.1 ∧ zs ≤ h.2.1 ∧ h.1 ≤ R.cells + ns ∧ h.2.1 ≤ R.slots + zs) → (∀ q ∈ locs, G.2.1 ≤ q.base) → jg_Ls G arr nL ls → (200 ≤ jm_T h x ∧ jm_T h x % 2 = 1) →
    ∃ t, Steps p.tables e below ((T.setTop (F0 m pc arr rest)).pushFrame (.throwing (jg_ad G x))) t ∧ jg_Z G J R s below ns zs Q t
theorem jw_callS {M : jm_M} {nl : Nat → Nat} {rm : Nat → Nat × Nat} {w0 : Nat × Nat} {cap zcap x y : Nat} {E : Nat → List jm_V → jm_H → jm_Q → Prop} {hd : Nat → Nat → Option Nat} (hS : jg_Snd G J Wg M nl rm cap zcap p l e E) (hg : ∀ w ∈ Wg, jm_goodW w = true) (hx : p.tables.exec = Jvm.exec) (hb : cd.code = bs) (hml : cd.maxLocals = nL) (hK : jg_K G J Wg s) (hRm : jg_Rm w0 R) (hcap : cap ≤ R.cells + ns ∧ zcap ≤ R.slots + zs)
    {own : String} {idx : Nat} (hown : s.vm.findClass own = some m.cls) (hcw : jg_cw M nl Wg x) (hlink : Cond.methodLink own idx (M x).1 ∈ Wg) (hstat : Cond.static (M x).1 ∈ Wg) (hini : Cond.initialized (M x).1.cls ∈ Wg) (hy : (M x).1.cls ≠ "java/lang/invoke/MethodHandle" ∧ (M x).1.cls ≠ "java/lang/invoke/VarHandle") (hpl : plainFor (M x).1 = true) (hpar : (parseMethodDescriptor (M x).1.desc).map (fun d => d.parameters.length) = some y)
    (hdc : decode bs pc = .ok (.invokestatic idx, 3)) (hT : jg_T p l e R s m args below meth cd G J nL ns zs Q hd pc) (z : jo_call (jg_P p l e R s m args below meth cd G J nL ns zs Q) Q (pc + 3) ls st h E hd pc x y 0 (nl x) (rm x) w0) : jg_P p l e R s m args below meth cd G J nL ns zs Q (pc, ls, st, h) := by
  intro H locs arr hR hn hl hL
  replace hR : jg_R G J h H := hR
  replace hn : ns ≤ h.1 ∧ zs ≤ h.2.1 ∧ h.1 ≤ R.cells + ns ∧ h.2.1 ≤ R.slots + zs := hn
  replace hL : jg_Ls G arr nL ls := hL
  obtain ⟨hy1, hst, hc1, -, hE⟩ := z
  intro T hTH X
  obtain ⟨mk, methk, ck, g0, g1, g2, g3, g4, g5, g6, g7, g8⟩ := jg_callee hK hcw
  have hlen : (((st.take y).reverse).map (jg_mv G)).length = methk.sig.parameters.length := by
    rw [g8] at hpar
    have h9 : methk.sig.parameters.length = y := Option.some.inj hpar
    simp only [List.length_map, List.length_reverse, List.length_take]
    omega
  have hstk : st.map (jg_mv G) = (((st.take y).reverse).map (jg_mv G)).reverse ++ (st.drop y).map (jg_mv G) := by
    rw [← List.map_reverse, List.reverse_reverse, ← List.map_append, List.take_append_drop]
  obtain ⟨kP, hkP, -⟩ := className_of_methodNamed g0
  obtain ⟨vm₁, X₁, hstep⟩ := X.invokestatic hx hown (hK.1 _ hlink args) g0 g1 (Cond.static_spec g0 g1 (hK.1 _ hstat args)) hkP (Cond.initialized_spec (findClass_of_methodNamed g0) hkP (hK.1 _ hini args)) hy (g := F0 m pc arr (st.map (jg_mv G))) rfl (argsL := ((st.take y).reverse).map (jg_mv G)) (rest := (st.drop y).map (jg_mv G)) hlen hstk (by rw [hb]; exact hdc)
  obtain ⟨t, s1, q1⟩ := jw_enter hS hg hx hK X₁ (show (T.setVm vm₁).heap = H from hTH) hR hn hl hRm hcap (st := st.drop y) hst (by rw [hml]; exact hL.1) (by rw [hb]; exact hdc) hpl g0 g1 g2 g3 g4 g5 g6 g7 (as := (st.take y).reverse) (fun v hv => hc1 v (List.mem_reverse.mp hv)) hE (QQ := jg_Z G J R s below ns zs Q)
    (fun v h' T' locs' hq X' hR' hn' hl' => by
      cases v with
      | none => exact hq T'.heap locs' arr hR' hn' hl' hL T' rfl X'
      | some v => exact hq T'.heap locs' arr hR' hn' hl' hL T' rfl X')
    (fun x h' T' locs' hq X' hR' hn' hl' hxx => hT x ls h' T' locs' arr _ hq X' hR' hn' hl' hL hxx)
  exact ⟨t, hstep t (fun acts => by rw [doInvoke_state]; exact s1), q1⟩
theorem jm_recv {st : List jm_V} {y a : Nat} (h : (st.take y).getLast? = some (.inr (.inl a))) : ∃ tl, (st.take y).reverse = .inr (.inl a) :: tl ∧ st.take y = tl.reverse ++ [.inr (.inl a)] := by
  have e : (st.take y).reverse.head? = some (.inr (.inl a)) := by rw [List.head?_reverse]; exact h
  cases hr : (st.take y).reverse with
  | nil => rw [hr] at e; cases e
  | cons v tl =>
    rw [hr] at e
    cases e
    refine ⟨tl, rfl, ?_⟩
    have := congrArg List.reverse hr
    rw [List.reverse_reverse] at this
    rw [this]
    simp
theorem jw_callV {M : jm_M} {nl : Nat → Nat} {rm : Nat → Nat × Nat} {w0 : Nat × Nat} {cap zcap x y t : Nat} {E : Nat → List jm_V → jm_H → jm_Q → Prop} {hd : Nat → Nat → Option Nat} (hS : jg_Snd G J Wg M nl rm cap zcap p l e E) (hg : ∀ w ∈ Wg, jm_goodW w = true) (hx : p.tables.exec = Jvm.exec) (hb : cd.code = bs) (hml : cd.maxLocals = nL) (hK : jg_K G J Wg s) (hJ : jg_J J Wg) (hRm : jg_Rm w0 R) (hcap : cap ≤ R.cells + ns ∧ zcap ≤ R.slots + zs)
    {own : String} {idx : Nat} (hown : s.vm.findClass own = some m.cls) {q : vw_C} (ht0 : 0 < t) (hq : J.1[t]? = some q) (hqc : q.1 = (M x).1.cls) (hcw : jg_cw M nl Wg x) (hlink : Cond.methodLink own idx (M x).1 ∈ Wg) (hinst : Cond.instanceMethod (M x).1 ∈ Wg) (hsel : Cond.selects q.1 (M x).1 (M x).1 ∈ Wg) (hy : (M x).1.cls ≠ "java/lang/invoke/MethodHandle" ∧ (M x).1.cls ≠ "java/lang/invoke/VarHandle") (hpl : plainFor (M x).1 = true) (hpar : (parseMethodDescriptor (M x).1.desc).map (fun d => d.parameters.length + 1) = some y)
    (hdc : decode bs pc = .ok (.invokevirtual idx, 3)) (hT : jg_T p l e R s m args below meth cd G J nL ns zs Q hd pc) (z : jo_call (jg_P p l e R s m args below meth cd G J nL ns zs Q) Q (pc + 3) ls st h E hd pc x y t (nl x) (rm x) w0) : jg_P p l e R s m args below meth cd G J nL ns zs Q (pc, ls, st, h) := by
  intro H locs arr hR hn hl hL
  replace hR : jg_R G J h H := hR
  replace hn : ns ≤ h.1 ∧ zs ≤ h.2.1 ∧ h.1 ≤ R.cells + ns ∧ h.2.1 ≤ R.slots + zs := hn
  replace hL : jg_Ls G arr nL ls := hL
  obtain ⟨hy1, hst, hc1, hrc, hE⟩ := z
  obtain ⟨t, rfl⟩ : ∃ t', t = t' + 1 := ⟨t - 1, by omega⟩
  obtain ⟨b, hb1, hb2⟩ := hrc
  obtain ⟨tl, htl, htk⟩ := jm_recv hb1
  intro T hTH X
  obtain ⟨mk, methk, ck, g0, g1, g2, g3, g4, g5, g6, g7, g8⟩ := jg_callee hK hcw
  have hy2 : tl.length + 1 = y := by
    have := congrArg List.length htk
    simp only [List.length_take, List.length_append, List.length_reverse, List.length_cons, List.length_nil] at this
    omega
  have hlen : (tl.map (jg_mv G)).length = methk.sig.parameters.length := by
    rw [g8] at hpar
    have h9 : methk.sig.parameters.length + 1 = y := Option.some.inj hpar
    simp only [List.length_map]
    omega
  obtain ⟨ht60, -⟩ := hJ (t + 1) q ht0 hq
  obtain ⟨hp1, hp2⟩ := hR.pos hb2 (by omega) (by omega)
  have hb2' : (h.2.2 b).1 = t + 1 := hb2
  obtain ⟨q', hq', cellB, c1, c2, c3, -⟩ := (hR.at hb2 (by omega) (by omega)).obj (by omega)
  rw [hb2'] at c2
  have hcls := (hK.2.1 (t + 1) q ht0 hq).2.1
  have hstk : st.map (jg_mv G) = (tl.map (jg_mv G)).reverse ++ .ref (G.2.1 + (b - 2)) :: (st.drop y).map (jg_mv G) := by
    rw [← jg_mv_obj G hp1, ← List.map_reverse]
    conv => lhs; rw [← List.take_append_drop y st, htk]
    simp
  have hinst' := hK.1 _ hinst args
  obtain ⟨mk', methM, hnamed, hmethM, hstM, habM⟩ := Cond.instanceMethod_spec hinst'
  cases g0.symm.trans hnamed
  cases g1.symm.trans hmethM
  obtain ⟨c2', r2, m2, q1, q2, q3, q4, kP, hkP, hkPi⟩ := Cond.selects_spec (hK.1 _ hsel args)
  have e1 : c2' = G.2.2.2.1.1 (t + 1) := Option.some.inj (q1.symm.trans hcls)
  subst e1
  cases (State.methodFound?_of_named g0 hy).symm.trans q2
  cases g0.symm.trans q3
  have hselP : selectMethod e.platform s.vm cellB.cls mk = .method mk := by rw [c2, Launch.admits_selectMethod X.admits]; exact q4
  obtain ⟨vm₁, X₁, hstep⟩ := X.invokevirtual hx hown (hK.1 _ hlink args) g0 g1 hstM hkP hkPi hy (a := G.2.1 + (b - 2)) (cell := cellB) (by rw [hTH]; exact c1) (fun z h => by rw [c3] at h; cases h) hselP g1 habM hkP hkPi (g := F0 m pc arr (st.map (jg_mv G))) rfl (argsL := tl.map (jg_mv G)) (rest := (st.drop y).map (jg_mv G)) hlen hstk (by rw [hb]; exact hdc)
  have hargs : (Value.ref (G.2.1 + (b - 2)) :: tl.map (jg_mv G)).toArray = (((st.take y).reverse).map (jg_mv G)).toArray := by
    rw [htl, List.map_cons, jg_mv_obj G hp1]
  rw [hargs] at hstep
  obtain ⟨t', s1, q1⟩ := jw_enter hS hg hx hK X₁ (show (T.setVm vm₁).heap = H from hTH) hR hn hl hRm hcap (st := st.drop y) hst (by rw [hml]; exact hL.1) (by rw [hb]; exact hdc) hpl g0 g1 g2 g3 g4 g5 g6 g7 (as := (st.take y).reverse) (fun v hv => hc1 v (List.mem_reverse.mp hv)) hE (QQ := jg_Z G J R s below ns zs Q)
    (fun v h' T' locs' hq X' hR' hn' hl' => by
      cases v with
      | none => exact hq T'.heap locs' arr hR' hn' hl' hL T' rfl X'
      | some v => exact hq T'.heap locs' arr hR' hn' hl' hL T' rfl X')
    (fun x h' T' locs' hq X' hR' hn' hl' hxx => hT x ls h' T' locs' arr _ hq X' hR' hn' hl' hL hxx)
  exact ⟨t', hstep t' (fun acts => by rw [doInvoke_state]; exact s1), q1⟩
theorem jw_callI {M : jm_M} {nl : Nat → Nat} {rm : Nat → Nat × Nat} {w0 : Nat × Nat} {cap zcap x y t : Nat} {E : Nat → List jm_V → jm_H → jm_Q → Prop} {hd : Nat → Nat → Option Nat} (hS : jg_Snd G J Wg M nl rm cap zcap p l e E) (hg : ∀ w ∈ Wg, jm_goodW w = true) (hx : p.tables.exec = Jvm.exec) (hb : cd.code = bs) (hml : cd.maxLocals = nL) (hK : jg_K G J Wg s) (hRm : jg_Rm w0 R) (hcap : cap ≤ R.cells + ns ∧ zcap ≤ R.slots + zs)
    {own : String} {idx : Nat} (hown : s.vm.findClass own = some m.cls) (ht0 : 0 < t) (ht6 : t < 60) (hnm : (M x).1.name = "<init>") (hcode : Cond.code (M x).1 (M x).2.1 (nl x) none ∈ Wg) (hcw : jg_cw M nl Wg x) (hlink : Cond.methodLink own idx (M x).1 ∈ Wg) (hinst : Cond.instanceMethod (M x).1 ∈ Wg) (hy : (M x).1.cls ≠ "java/lang/invoke/MethodHandle" ∧ (M x).1.cls ≠ "java/lang/invoke/VarHandle") (hpl : plainFor (M x).1 = true) (hpar : (parseMethodDescriptor (M x).1.desc).map (fun d => d.parameters.length + 1) = some y)
    (hdc : decode bs pc = .ok (.invokespecial idx, 3)) (hT : jg_T p l e R s m args below meth cd G J nL ns zs Q hd pc) (z : jo_call (jg_P p l e R s m args below meth cd G J nL ns zs Q) Q (pc + 3) ls st h E hd pc x y t (nl x) (rm x) w0) : jg_P p l e R s m args below meth cd G J nL ns zs Q (pc, ls, st, h) := by
  intro H locs arr hR hn hl hL
  replace hR : jg_R G J h H := hR
  replace hn : ns ≤ h.1 ∧ zs ≤ h.2.1 ∧ h.1 ≤ R.cells + ns ∧ h.2.1 ≤ R.slots + zs := hn
  replace hL : jg_Ls G arr nL ls := hL
  obtain ⟨hy1, hst, hc1, hrc, hE⟩ := z
  obtain ⟨t, rfl⟩ : ∃ t', t = t' + 1 := ⟨t - 1, by omega⟩
  obtain ⟨b, hb1, hb2⟩ := hrc
  obtain ⟨tl, htl, htk⟩ := jm_recv hb1
  intro T hTH X
  have hpl0 : e.platform.magicAccessors = ({} : Platform).magicAccessors := by rw [X.admits.platform]
  obtain ⟨mk, methk, ck, g0, g1, g2, g3, g4, g5, g6, g7, g8⟩ := jg_callee hK hcw
  obtain ⟨hp1, hp2⟩ := hR.pos hb2 (by omega) (by omega)
  have hy2 : tl.length + 1 = y := by
    have := congrArg List.length htk
    simp only [List.length_take, List.length_append, List.length_reverse, List.length_cons, List.length_nil] at this
    omega
  have hstk : st.map (jg_mv G) = (tl.map (jg_mv G)).reverse ++ .ref (G.2.1 + (b - 2)) :: (st.drop y).map (jg_mv G) := by
    rw [← jg_mv_obj G hp1, ← List.map_reverse]
    conv => lhs; rw [← List.take_append_drop y st, htk]
    simp
  obtain ⟨mk', methM, cM, kP, vm₁, hnamed, hmethM, -, -, -, -, -, -, hW₁, hstep⟩ := Steps.initColdArgs (e := e) X.here hx X.warmed hpl0 hown hnm hy (hK.1 _ hlink args) (hK.1 _ hinst args) (hK.1 _ hcode args) (f := F0 m pc arr (st.map (jg_mv G))) rfl (argsL := tl.map (jg_mv G)) (rest := (st.drop y).map (jg_mv G))
    (fun sig hs => by
      rw [hs] at hpar
      have h9 : sig.parameters.length + 1 = y := Option.some.inj hpar
      simp only [List.length_map]
      omega) hstk (by rw [hb]; exact hdc)
  cases g0.symm.trans hnamed
  have X₁ := X.noted hW₁
  have hargs : (Value.ref (G.2.1 + (b - 2)) :: tl.map (jg_mv G)).toArray = (((st.take y).reverse).map (jg_mv G)).toArray := by
    rw [htl, List.map_cons, jg_mv_obj G hp1]
  rw [hargs] at hstep
  obtain ⟨t', s1, q1⟩ := jw_enter hS hg hx hK X₁ (show (T.setVm vm₁).heap = H from hTH) hR hn hl hRm hcap (st := st.drop y) hst (by rw [hml]; exact hL.1) (by rw [hb]; exact hdc) hpl g0 g1 g2 g3 g4 g5 g6 g7 (as := (st.take y).reverse) (fun v hv => hc1 v (List.mem_reverse.mp hv)) hE (QQ := jg_Z G J R s below ns zs Q)
    (fun v h' T' locs' hq X' hR' hn' hl' => by
      cases v with
      | none => exact hq T'.heap locs' arr hR' hn' hl' hL T' rfl X'
      | some v => exact hq T'.heap locs' arr hR' hn' hl' hL T' rfl X')
    (fun x h' T' locs' hq X' hR' hn' hl' hxx => hT x ls h' T' locs' arr _ hq X' hR' hn' hl' hL hxx)
  exact ⟨t', hstep t' (fun acts => by rw [doInvoke_state]; exact s1), q1⟩
end JC
end
section
/-! Throws: into a handler of the frame, or out of it. -/
/-- which handler takes an object of the kind t at pc; 999999: one covers pc and none takes it -/
def jm_hf (ct : Nat → Nat → Bool) : List (Nat × Nat × Nat × Nat) → Nat → Nat → Option Nat
  | [], _, _ => none
  | q :: r, pc, t => if q.1 ≤ pc ∧ pc < q.2.1 then (if ct q.2.2.2 t = true then some q.2.2.1 else some ((jm_hf ct r pc t).getD 999999)) else jm_hf ct r pc t
section JT
variable {p : Program} {l : Launch} {e : Env} {R : Room} {s : State} {m : MethodId} {args : Array Value} {below : List Frame} {meth : Method} {cd : Code} {G : jm_G} {J : jm_J} {nL ns zs : Nat} {Q : jm_Q} {bs : ByteArray} {pc n : Nat} {ins : Instr} {ls : jm_Ls} {st : List jm_V} {h : jm_H} {Wg : List Cond}
theorem jt_class {S : State} {f : JFrame} {a : Addr} {x : ExceptionTableEntry} {t : List ExceptionTableEntry} {c : ClassId} {vm' : Vm} {cell : Cell} (hx : covers x f.pc = true) (h0 : x.catchType ≠ 0)
    (hg : (Jvm.resolveClass f.method.cls x.catchType).Gives e.toSetting S.vm (.ok c) vm') (hsz : vm'.classes.size ≤ S.vm.classes.size) (hcell : S.heap[a]? = some cell) (hobj : ∀ k, cell.vm ≠ .statics k)
    (hk : ∃ k, vm'.classes[cell.cls]? = some k) (hc : ∃ k, vm'.classes[c]? = some k) {QQ : Handler → Pre} {E : CtlPost} {d : Bool} {acts : List Action} :
    wp (findHandler.go f a (x :: t)) QQ E e d acts S ↔ if vm'.assignable cell.cls c = true then QQ (.found x.handlerPc) d acts (S.setVm vm') else wp (findHandler.go f a t) QQ E e d acts (S.setVm vm') := by
  obtain ⟨ha, ht⟩ := hg.op (op := VmOp.resolveClass f.method.cls x.catchType) rfl
  simp only [covers] at hx
  cases hfit : vm'.assignable cell.cls c <;> simp [findHandler.go, hx, h0, ha, ht, hsz, hcell, hobj, hk, hc, hfit, VmOp.dirties, VmOp.acts]
theorem jt_search {S : State} {f : JFrame} {a : Addr} {cell : Cell} {own : String} (hfm : f.method = m) (hown : s.vm.findClass own = some m.cls) (hpl : e.platform.magicAccessors = ({} : Platform).magicAccessors) (hcell : S.heap[a]? = some cell) (hobj : ∀ k, cell.vm ≠ .statics k) (hkc : ∃ k, s.vm.classes[cell.cls]? = some k) {ct : Nat → Nat → Bool} {t y : Nat} (hy : y ≠ 999999) :
    ∀ (hs : List ExceptionTableEntry), (∀ x ∈ hs, x.catchType ≠ 0 ∧ ∃ C, (Cond.classLink own x.catchType C).before args s = true ∧ ∀ c, s.vm.findClass C = some c → s.vm.assignable cell.cls c = ct x.catchType t) →
      jm_hf ct (hs.map (fun h => (h.startPc, h.endPc, h.handlerPc, h.catchType))) f.pc t = some y → ∀ vm0, s.WarmedH vm0 →
      ∃ vm', s.WarmedH vm' ∧ ∀ (QQ : Handler → Pre) (E : CtlPost) (d : Bool) (acts : List Action), wp (findHandler.go f a hs) QQ E e d acts (S.setVm vm0) ↔ QQ (.found y) d acts (S.setVm vm')
  | [], _, h, _, _ => by cases h
  | x :: r, hx, h, vm0, hW => by
    obtain ⟨h0, C, hlink, has⟩ := hx x List.mem_cons_self
    have hr : ∀ z ∈ r, _ := fun z hz => hx z (List.mem_cons_of_mem _ hz)
    simp only [List.map_cons, jm_hf] at h
    by_cases hc : x.startPc ≤ f.pc ∧ f.pc < x.endPc
    · rw [if_pos hc] at h
      have hcov : covers x f.pc = true := by simp [covers, hc.1, hc.2]
      obtain ⟨cc, hfcc, hcl⟩ := Cond.classLink_spec hown hlink e.platform hpl
      obtain ⟨hg1, hw1, -⟩ := State.classEntry (e := e) hW hcl
      generalize vm0.noted m.cls x.catchType (.cls cc) = vm1 at hg1 hw1
      have hal := hw1.alike
      obtain ⟨k, hk, -⟩ := Vm.findClass_spec hfcc
      obtain ⟨k1, hk1, -⟩ := hal.2.2 _ _ hk
      obtain ⟨k2, hk2⟩ := hkc
      obtain ⟨k3, hk3, -⟩ := hal.2.2 _ _ hk2
      have hszz : vm1.classes.size ≤ (S.setVm vm0).vm.classes.size := by
        have e1 := hw1.alike.2.1
        have e2 := hW.alike.2.1
        show vm1.classes.size ≤ vm0.classes.size
        omega
      have hgo := fun (QQ : Handler → Pre) (E : CtlPost) (d : Bool) (acts : List Action) => jt_class (e := e) (S := S.setVm vm0) (f := f) (a := a) (x := x) (t := r) (c := cc) (vm' := vm1) (cell := cell) hcov h0 (by rw [hfm]; exact hg1) hszz hcell hobj ⟨k3, hk3⟩ ⟨k1, hk1⟩ (QQ := QQ) (E := E) (d := d) (acts := acts)
      have hass : vm1.assignable cell.cls cc = ct x.catchType t := (hal.assignable cell.cls cc).trans (has cc hfcc)
      by_cases hct : ct x.catchType t = true
      · rw [if_pos hct] at h
        cases h
        refine ⟨vm1, hw1, fun QQ E d acts => ?_⟩
        rw [hgo, if_pos (by rw [hass]; exact hct), State.setVm_twice]
      · rw [if_neg hct] at h
        have h' : (jm_hf ct (r.map (fun h => (h.startPc, h.endPc, h.handlerPc, h.catchType))) f.pc t).getD 999999 = y := Option.some.inj h
        have h2 : jm_hf ct (r.map (fun h => (h.startPc, h.endPc, h.handlerPc, h.catchType))) f.pc t = some y := by
          cases hj : jm_hf ct (r.map (fun h => (h.startPc, h.endPc, h.handlerPc, h.catchType))) f.pc t with
          | none => rw [hj] at h'; exact absurd h'.symm hy
          | some z => rw [hj] at h'; exact congrArg some h'
        obtain ⟨vm', hw', hi⟩ := jt_search hfm hown hpl hcell hobj ⟨k2, hk2⟩ hy r hr h2 vm1 hw1
        refine ⟨vm', hw', fun QQ E d acts => ?_⟩
        rw [hgo, if_neg (by rw [hass]; exact hct), State.setVm_twice]
        exact hi QQ E d acts
    · rw [if_neg hc] at h
      have hcov : covers x f.pc = false := by
        simp only [covers, Bool.and_eq_false_iff, decide_eq_false_iff_not]
        omega
      obtain ⟨vm', hw', hi⟩ := jt_search hfm hown hpl hcell hobj hkc hy r hr h vm0 hW
      refine ⟨vm', hw', fun QQ E d acts => ?_⟩
      rw [W.findHandler_go_skip hcov]
      exact hi QQ E d acts
theorem jt_none {ct : Nat → Nat → Bool} {t pc : Nat} : ∀ (hs : List ExceptionTableEntry), jm_hf ct (hs.map (fun h => (h.startPc, h.endPc, h.handlerPc, h.catchType))) pc t = none → ∀ x ∈ hs, covers x pc = false
  | [], _, x, hx => by cases hx
  | x :: r, h, z, hz => by
    simp only [List.map_cons, jm_hf] at h
    by_cases hc : x.startPc ≤ pc ∧ pc < x.endPc
    · rw [if_pos hc] at h
      split at h <;> cases h
    · rw [if_neg hc] at h
      rcases List.mem_cons.mp hz with rfl | hz
      · simp only [covers, Bool.and_eq_false_iff, decide_eq_false_iff_not]
        omega
      · exact jt_none r h z hz
/-- a cold search that ends in a handler: one step of the machine -/
theorem jt_caught {T : State} {g : JFrame} {a : Addr} {y : Nat} {vm' : Vm} {target : State} (hat : At T g.method cd below) (hal : T.vm.Alike vm')
    (hf : ∀ (QQ : Handler → Pre) (E : CtlPost) (d : Bool) (acts : List Action), wp (findHandler g a) QQ E e d acts ((T.setTop g).pushFrame (.throwing a)) ↔ QQ (.found y) d acts (((T.setTop g).pushFrame (.throwing a)).setVm vm'))
    (hrest : Steps p.tables e below ((T.setVm vm').setTop { g with pc := y, stack := [.ref a] }) target) : Steps p.tables e below ((T.setTop g).pushFrame (.throwing a)) target := by
  obtain ⟨hgo, hw⟩ := hat.throwing a
  refine Steps.head hgo hw ?_
  have hst : ((stepThrowing e ((T.setTop g).pushFrame (.throwing a)) a (.java g :: T.frames.tail)).1) = (((T.setTop g).pushFrame (.throwing a)).setVm vm').setFrames (.java { g with pc := y, stack := [.ref a] } :: T.frames.tail) := by
    simp only [stepThrowing, searchFrame, vmDo]
    generalize hr : Sem.go _ e false [] ((T.setTop g).pushFrame (.throwing a)) = res
    obtain ⟨as, rfl, ha⟩ := Sem.eq_ok_of hr (a := Handler.found y) (s' := ((T.setTop g).pushFrame (.throwing a)).setVm vm') (acts' := []) (by simp [hf _ _ _ _])
    rfl
  rw [stepThread_throwing (frames_entered hat.top _), hst]
  obtain ⟨g₀, hg⟩ := Option.isSome_iff_exists.mp hat.top
  obtain ⟨r, hr⟩ := State.topJava?_eq_some.mp hg
  have hr' : (T.setVm vm').frames = .java g₀ :: r := hr
  rw [State.setTop_of_frames _ hr'] at hrest
  rw [hr]
  have e1 : (((T.setTop g).pushFrame (.throwing a)).setVm vm').setFrames (.java { g with pc := y, stack := [.ref a] } :: (Frame.java g₀ :: r).tail) = (T.setVm vm').setFrames (.java { g with pc := y, stack := [.ref a] } :: r) := by
    rw [State.pushFrame, State.setTop_of_frames _ hr, State.setFrames_setFrames]
    show ((T.setVm vm').setFrames _).setFrames _ = _
    rw [State.setFrames_setFrames]
    rfl
  rw [e1]
  exact hrest
end JT
end
section
/-! Exceptions: new, constructor, throw, catch. -/
theorem jx_lays {s0 s : State} {args a' : Array Value} (hW : s0.WarmedH s.vm) (hh : ∀ q, q < s0.heap.size → s.heap[q]? = s0.heap[q]?) {O f d : String} (h : (Cond.laysStatic O f d).before args s0 = true) : (Cond.laysStatic O f d).before a' s = true := by
  obtain ⟨c, k, i, fd, a, cell, hc, hi, hst, ha, hcell, hs, hcls, hlt, hty⟩ := Cond.laysStatic_spec h
  have hal := hW.alike
  obtain ⟨k', hi', hek⟩ := State.fieldFound?_setVm (s := s0) hal hi
  have hi2 : s.fieldFound? O f d = some (c, k', i, fd) := by simpa only [State.fieldFound?, State.vm_setVm] using hi'
  exact Cond.laysStatic_of (s := s) (by rw [hal.findClass]; exact hc) hi2 hst (by rw [hek]; exact ha) (by rw [hh a (Array.getElem?_eq_some_iff.mp hcell).1]; exact hcell) hs hcls hlt (by rw [hek]; exact hty)
theorem jx_isRef {s0 s : State} {args a' : Array Value} (hW : s0.WarmedH s.vm) (hh : ∀ q, q < s0.heap.size → s.heap[q]? = s0.heap[q]?) {O f d : String} (hl : (Cond.laysStatic O f d).before args s0 = true) (h : (Cond.isRef (.static O f d)).before args s0 = true) : (Cond.isRef (.static O f d)).before a' s = true := by
  obtain ⟨c, k, i, fd, a, cell, hc, hi, hst, ha, hcell, hs, hcls, hlt, hty⟩ := Cond.laysStatic_spec hl
  have hal := hW.alike
  obtain ⟨k', hi', hek⟩ := State.fieldFound?_setVm (s := s0) hal hi
  have hi2 : s.fieldFound? O f d = some (c, k', i, fd) := by simpa only [State.fieldFound?, State.vm_setVm] using hi'
  have hcell2 : s.heap[a]? = some cell := by rw [hh a (Array.getElem?_eq_some_iff.mp hcell).1]; exact hcell
  have ha2 : k'.statics = some a := by rw [hek]; exact ha
  have e0 : (Term.static O f d).eval args s0 none [] s0 = cell.slots[fd.slot]? := by simp [Term.eval, State.fieldNamed?, hi, hst, ha, hcell, hs]
  have e1 : (Term.static O f d).eval a' s none [] s = cell.slots[fd.slot]? := by simp [Term.eval, State.fieldNamed?, hi2, hst, ha2, hcell2, hs]
  simp only [Cond.before, Cond.holds, Cond.value] at h ⊢
  rw [e0] at h
  rw [e1]
  exact h
/-- the words on Throwable's two statics -/
def jx_st : List Cond := [.laysStatic "java/lang/Throwable" "UNASSIGNED_STACK" "[Ljava/lang/StackTraceElement;", .laysStatic "java/lang/Throwable" "SUPPRESSED_SENTINEL" "Ljava/util/List;", .isRef (.static "java/lang/Throwable" "UNASSIGNED_STACK" "[Ljava/lang/StackTraceElement;"), .isRef (.static "java/lang/Throwable" "SUPPRESSED_SENTINEL" "Ljava/util/List;")]
/-- what is known of the start: the new cells begin behind its heap; the words on the statics -/
def jg_0 (G : jm_G) : Prop := G.2.1 = G.2.2.2.2.2.2.2.2.heap.size ∧ ∃ a, ∀ w ∈ jx_st, w.before a G.2.2.2.2.2.2.2.2 = true
theorem jx_words {G : jm_G} {J : jm_J} {Wg : List Cond} {s : State} (h0 : jg_0 G) (hK : jg_K G J Wg s) {a' : Array Value} : ∀ w ∈ jx_st, w.before a' s = true := by
  obtain ⟨hsz, a, hw⟩ := h0
  obtain ⟨-, -, -, -, -, -, -, hW, hh, -⟩ := hK
  rw [hsz] at hh
  have l1 := hw (.laysStatic "java/lang/Throwable" "UNASSIGNED_STACK" "[Ljava/lang/StackTraceElement;") (by simp [jx_st])
  have l2 := hw (.laysStatic "java/lang/Throwable" "SUPPRESSED_SENTINEL" "Ljava/util/List;") (by simp [jx_st])
  have r1 := hw (.isRef (.static "java/lang/Throwable" "UNASSIGNED_STACK" "[Ljava/lang/StackTraceElement;")) (by simp [jx_st])
  have r2 := hw (.isRef (.static "java/lang/Throwable" "SUPPRESSED_SENTINEL" "Ljava/util/List;")) (by simp [jx_st])
  intro w hm
  simp only [jx_st, List.mem_cons, List.not_mem_nil, or_false] at hm
  rcases hm with rfl | rfl | rfl | rfl
  · exact jx_lays hW hh l1
  · exact jx_lays hW hh l2
  · exact jx_isRef hW hh l1 r1
  · exact jx_isRef hW hh l2 r2
section JX
variable {p : Program} {l : Launch} {e : Env} {R : Room} {s : State} {m : MethodId} {args : Array Value} {below : List Frame} {meth : Method} {cd : Code} {G : jm_G} {J : jm_J} {nL ns zs : Nat} {Q : jm_Q} {bs : ByteArray} {pc n : Nat} {ins : Instr} {ls : jm_Ls} {st : List jm_V} {h : jm_H} {Wg : List Cond} {T : State} {locs : List Loc} {cells slots : Nat}
set_option maxHeartbeats 1000000 in
/-- the constructor of an exception without a text, up to its return -/
theorem jx_ctor (X : Stand p l e R s m args below meth cd T locs cells slots) (hexec : p.tables.exec = Jvm.exec) (htr : e.platform.stackTraces = false) {own cls : String} {names : List String} {ic : Nat}
    (hown : s.vm.findClass own = some m.cls) (hcls : Bundle.fit cls = true) (hnames : ∀ n ∈ names, Bundle.fit n = true) (ha : ∀ a ∈ Bundle.ownAtoms0 own ic cls names, a.before args s = true)
    (hlocs : ∀ x ∈ locs, ∀ cell, s.heap[x.base]? = some cell → cell.vm.isStatics = false)
    {a : Addr} {cX : ClassId} {kX : Class} (hfoundX : s.vm.findClass cls = some cX) (hkX : s.vm.classes[cX]? = some kX) (hcell : T.heap[a]? = some (freshCell cX kX)) (hnew : ∀ cell, s.heap[a]? = some cell → cell.vm = .none)
    {g : JFrame} (hg : g.method = m) (hsize : g.locals.size = cd.maxLocals) {rest : List Value} (hstack : g.stack = .ref a :: rest)
    (hd6 : decode cd.code g.pc = .ok (.invokespecial ic, 3)) (hRframes : names.length + 3 < R.frames) (hRlocals : 2 * g.monitorRoom + (rest.map fun v => v.category).sum + (13 * (names.length + 1) + 41) ≤ R.locals) :
    ∃ (vm' : Vm) (ce : Cell) (L : List Loc), ce.cls = cX ∧ ce.vm = .none ∧ (∀ q ∈ L, q.base = a) ∧ Stand p l e R s m args below meth cd ((T.setVm vm').setCell a ce) (locs ++ L) cells slots ∧
      ∀ target, Steps p.tables e below (((T.setVm vm').setCell a ce).setTop { g with pc := g.pc + 3, stack := rest }) target → Steps p.tables e below (T.setTop g) target := by
  have howns : e.platform.frameOwnsMonitors = true := by rw [X.admits.platform]
  have hfin : e.platform.finalization = false := by rw [X.admits.platform]
  have hpl : e.platform.magicAccessors = ({} : Platform).magicAccessors := by rw [X.admits.platform]
  have a' : ∀ x, x ∈ Bundle.ownAtoms0 own ic cls names → x.holds args s none s [] = true := fun x hx => ha x hx
  obtain ⟨Tt, Z, L, LZ, Y⟩ := ThrowableC.of_atoms (args := args) howns hfin hpl (fun x hx => ha x (by simp [Bundle.ownAtoms0, hx]))
  obtain ⟨P1, Ps, hlen, L1, hL, hP1m, hlink1, hlink⟩ := Bundle.chain0 (args := args) hpl Y.init0 names cls hcls hnames (fun x hx => ha x (by simp [Bundle.ownAtoms0, hx]))
  have hfound : s.vm.findClass cls = some P1.m.cls := findClass_of_methodNamed hP1m
  cases Option.some.inj (hfoundX.symm.trans hfound)
  obtain ⟨c1, kX', hc1, hk, hord, -, -, hn6⟩ := Cond.instantiable_spec (a' (.instantiable cls 6) (by simp [Bundle.ownAtoms0]))
  cases Option.some.inj (hc1.symm.trans hfound)
  cases Option.some.inj (hkX.symm.trans hk)
  have hsel0 : selectMethod e.platform s.vm P1.m.cls Tt.fill0 = .method Tt.fill0 := by
    obtain ⟨c2, r2, m2, q1, q2, q3, q4, -⟩ := Cond.selects_spec (a' (.selects cls Bundle.tFill0 Bundle.tFill0) (by simp [Bundle.ownAtoms0]))
    cases Option.some.inj (q1.symm.trans hfound)
    cases Option.some.inj (q2.symm.trans (State.methodFound?_of_named Y.fill0 (by decide)))
    cases Option.some.inj (q3.symm.trans Y.fill0)
    rw [Launch.admits_selectMethod X.admits]; exact q4
  have hselF : selectMethod e.platform s.vm P1.m.cls Tt.fill = .method Tt.fill := by
    obtain ⟨c2, r2, m2, q1, q2, q3, q4, -⟩ := Cond.selects_spec (a' (.selects cls Bundle.tFill Bundle.tFill) (by simp [Bundle.ownAtoms0]))
    cases Option.some.inj (q1.symm.trans hfound)
    cases Option.some.inj (q2.symm.trans (State.methodFound?_of_named Y.fill (by decide)))
    cases Option.some.inj (q3.symm.trans Y.fill)
    rw [Launch.admits_selectMethod X.admits]; exact q4
  obtain ⟨cellS0, hcS0, hiss⟩ := Y.statics
  obtain ⟨u0, hu0⟩ := Cond.staticRefV Y.unassigned L.unassignedStatic L.statics hcS0 hiss (a' (.isRef (.static Bundle.tN "UNASSIGNED_STACK" Bundle.steD)) (by simp [Bundle.ownAtoms0]))
  obtain ⟨sen, hsen⟩ := Cond.staticRefV Y.sentinel L.sentinelStatic L.statics hcS0 hiss (a' (.isRef (.static Bundle.tN "SUPPRESSED_SENTINEL" Bundle.listD)) (by simp [Bundle.ownAtoms0]))
  obtain ⟨ci198, i198, fB, hk198, hg198, ha198, hsB, -, hnB, htB, hffB⟩ := Cond.ownField (t := .object "java/lang/Object") Y.found L.cls (by decide +kernel) (a' (.fieldLink Bundle.tN 198 Bundle.tN "backtrace" "Ljava/lang/Object;") (by simp [Bundle.ownAtoms0])) (a' (.lays Bundle.tN Bundle.tN "backtrace" "Ljava/lang/Object;") (by simp [Bundle.ownAtoms0])) e.platform hpl
  obtain ⟨cellS, hcS', heS, -, hkeep⟩ := X.same.2.2.2.2.2 Tt.aS cellS0 hcS0
  have hcellS : T.heap[Tt.aS]? = some cellS := hcS'
  have hout' : ∀ i, (⟨Tt.aS, i⟩ : Loc) ∉ locs := fun i hmem => by
    have := hlocs _ hmem cellS0 hcS0
    rw [hiss] at this; cases this
  have hknownS : cellS.vm ≠ .unknown := by
    rw [heS]; intro hu
    rw [show cellS0.vm = .unknown from hu] at hiss
    cases hiss
  have hneS : Tt.aS ≠ a := fun q => by
    rw [q] at hcS0
    have := hnew _ hcS0
    rw [this] at hiss
    cases hiss
  obtain ⟨tyC, dC, hdC, hdnC⟩ := Cond.laysAt hfound hk Y.cause (a' (.lays cls Bundle.tN "cause" "Ljava/lang/Throwable;") (by simp [Bundle.ownAtoms0]))
  obtain ⟨tyS, dS, hdS, hdnS⟩ := Cond.laysAt hfound hk Y.stack (a' (.lays cls Bundle.tN "stackTrace" Bundle.steD) (by simp [Bundle.ownAtoms0]))
  obtain ⟨tyP, dP, hdP, hdnP⟩ := Cond.laysAt hfound hk Y.supp (a' (.lays cls Bundle.tN "suppressedExceptions" Bundle.listD) (by simp [Bundle.ownAtoms0]))
  obtain ⟨tyB, dB, hdB, hdnB⟩ := Cond.laysAt hfound hk hffB (a' (.lays cls Bundle.tN "backtrace" "Ljava/lang/Object;") (by simp [Bundle.ownAtoms0]))
  have bC := Cond.laysApart hdB hdC hdnB hdnC (by rw [hnB, Y.causeName]; decide)
  have bS := Cond.laysApart hdB hdS hdnB hdnS (by rw [hnB, Y.stackName]; decide)
  have bP := Cond.laysApart hdB hdP hdnB hdnP (by rw [hnB, Y.suppName]; decide)
  have hskip : SkipFacts Tt e.platform s (fun u => u) u0 ((preparedCellV Tt.toThrowableT (freshCell P1.m.cls kX) a u0 sen).withEntry T.cur) :=
    ⟨{ ci198 := ci198, i198 := i198, fBack := fB }, ⟨hk198, hg198, ha198, hsB⟩, by
      have := fresh_default (c := P1.m.cls) tyB
      rw [htB] at this
      simpa [preparedCellV, Cell.setSlot, Cell.withEntry, Array.getElem?_setIfInBounds, bC, bS, bP, bC.symm, bS.symm, bP.symm, defaultValue] using this, fun _ _ => rfl⟩
  obtain ⟨tm, methC, cdC, kC, vm₁, hnC, -, -, -, -, -, -, -, hW₁, st1⟩ := Steps.initCold (tb := p.tables) (e := e) (below := below) (s := s) (U := T) X.here hexec X.warmed hpl hown (t := Bundle.init0 cls) rfl rfl (Bundle.fit_spec hcls).2
    (a' (.methodLink own ic (Bundle.init0 cls)) (by simp [Bundle.ownAtoms0])) (ha (.instanceMethod (Bundle.init0 cls)) (by cases names <;> simp [Bundle.ownAtoms0, Bundle.chain0Atoms, Bundle.passAtoms])) (bytes := Bundle.five) (maxL := 1) (ha (.code (Bundle.init0 cls) Bundle.five 1 none) (by cases names <;> simp [Bundle.ownAtoms0, Bundle.chain0Atoms, Bundle.passAtoms]))
    (f := g) hg (a := a) (rest := rest) hstack hd6
  cases Option.some.inj (hnC.symm.trans hP1m)
  have X₁ := X.noted hW₁
  obtain ⟨vm₂, X₂, st2⟩ := X₁.ctorPlainOffV hexec (g := { g with stack := rest }) hg hsize Tt L Z LZ (P1 :: Ps)
    (fun P hP => by rcases List.mem_cons.mp hP with rfl | hP; exact L1; exact hL P hP) ⟨hlink1, hlink⟩ (u0 := u0) (sen := sen) (self := a) (cell := freshCell P1.m.cls kX) (cellS := cellS)
    hcell (fun _ => by simp) (by simp) rfl rfl hsel0 hselF hcellS hneS hknownS (by rw [hkeep _ (hout' _)]; exact hu0) (by rw [hkeep _ (hout' _)]; exact hsen)
    (Takes.of_laid hk hord tyC (by rw [Y.causeType]; rfl)) (Takes.of_laid hk hord tyS (by rw [Y.stackType]; exact fits_refV_array _ u0)) (Takes.of_laid hk hord tyP (by rw [Y.suppType]; exact fits_refV_object _ sen)) Y.objLocals hskip htr [] hd6
    (by simp only [List.length_cons, hlen]; omega) (by simp only [List.length_cons, hlen]; exact hRlocals)
  rw [State.setVm_twice] at X₂ st2
  refine ⟨vm₂, _, _, rfl, rfl, fun q hq => ?_, X₂, fun target hrest => st1 _ (fun acts => ?_)⟩
  · simp only [List.mem_cons, List.not_mem_nil, or_false] at hq
    rcases hq with rfl | rfl | rfl | rfl <;> rfl
  · rw [doInvoke_state]
    exact st2 _ hrest
end JX
end
section
/-! Exceptions in the abstract machine's words. -/
section JX
variable {p : Program} {l : Launch} {e : Env} {R : Room} {s : State} {m : MethodId} {args : Array Value} {below : List Frame} {meth : Method} {cd : Code} {G : jm_G} {J : jm_J} {nL ns zs : Nat} {Q : jm_Q} {bs : ByteArray} {pc n : Nat} {ins : Instr} {ls : jm_Ls} {st : List jm_V} {h : jm_H} {Wg : List Cond}
theorem jw_irem (hx : p.tables.exec = Jvm.exec) (hb : cd.code = bs) (hd : decode bs pc = .ok (.irem, 1)) (z : jo_irem (jg_P p l e R s m args below meth cd G J nL ns zs Q) (pc + 1) ls st h) : jg_P p l e R s m args below meth cd G J nL ns zs Q (pc, ls, st, h) := by
  intro H locs arr hR hn hl hL
  unfold jo_irem at z
  split at z
  · obtain ⟨h0, z⟩ := z
    exact lv_irem hx hb hd h0 (z H locs arr hR hn hl hL)
  · exact z.elim
theorem jw_xnew (hx : p.tables.exec = Jvm.exec) (hb : cd.code = bs) (hK : jg_K G J Wg s) {own nm : String} {idx t c z0 : Nat} (hown : s.vm.findClass own = some m.cls) (ht : 200 ≤ t) (ht2 : t % 2 = 0) (hnm : J.2.2.2 t = some nm) (hcl : Cond.classLink own idx nm ∈ Wg) (hins : Cond.instantiable nm 6 ∈ Wg) (hini : Cond.initialized nm ∈ Wg)
    (hRc : c ≤ R.cells + ns) (hRz : z0 ≤ R.slots + zs) (hd : decode bs pc = .ok (.new idx, 3)) (z : jo_new (jg_P p l e R s m args below meth cd G J nL ns zs Q) (pc + 3) ls st h t 6 c z0) : jg_P p l e R s m args below meth cd G J nL ns zs Q (pc, ls, st, h) := by
  intro H locs arr hR hn hl hL
  replace hR : jg_R G J h H := hR
  replace hL : jg_Ls G arr nL ls := hL
  obtain ⟨z1, z2, z⟩ := z
  have hts : ∀ w ∈ Wg, w.before args s = true := fun w hw => hK.1 w hw args
  obtain ⟨hn1, hn2, hn3, hn4⟩ : ns ≤ h.1 ∧ zs ≤ h.2.1 ∧ h.1 ≤ R.cells + ns ∧ h.2.1 ≤ R.slots + zs := hn
  have hsz : H.size = G.2.1 + (h.1 - 2) := hR.1.2.1
  obtain ⟨k, f1, f2, f3⟩ := hK.2.2.2.2.2.2.1 t nm hnm
  refine W.newcK hx hb hown (hts _ hcl) (hts _ hins) (hts _ hini) rfl hd (by show h.1 - ns + 1 ≤ _; omega) (by show h.2.1 - zs + 6 ≤ _; omega) f1 rfl fun H' kC hkC g1 g2 g3 => ?_
  have hkk : kC = k := Option.some.inj (hkC.symm.trans f2)
  subst hkk
  have hR' : jg_R G J (jm_new h t 0 6) H' := hR.push g2 g3 (jg_at.mk0 ht ht2 ⟨⟨nm, hnm⟩, by rw [g1]; show some ({ cls := _, slots := kC.instanceTypes.map defaultValue, vm := .none } : Cell) = _; rw [f3]⟩)
  have w := z H' locs arr hR' ⟨by show ns ≤ h.1 + 1; omega, by show zs ≤ h.2.1 + 6; omega, by show h.1 + 1 ≤ _; omega, by show h.2.1 + 6 ≤ _; omega⟩ hl hL
  have em : jg_mv G (.inr (.inl h.1)) = .ref H.size := by rw [jg_mv_obj G hR.1.1, hsz]
  have w' : W p l e R s m args below meth cd H' locs (h.1 + 1 - ns) (h.2.1 + 6 - zs) (jg_Z G J R s below ns zs Q) (F0 m (pc + 3) arr (jg_mv G (.inr (.inl h.1)) :: st.map (jg_mv G))) := w
  rw [em] at w'
  exact W.cs (by show h.1 - ns + 1 = h.1 + 1 - ns; omega) (by show h.2.1 - zs + 6 = h.2.1 + 6 - zs; omega) w'
theorem jw_xinit (hx : p.tables.exec = Jvm.exec) (hb : cd.code = bs) (hml : cd.maxLocals = nL) (h0 : jg_0 G) (hl0 : l.stackTraces = false) (hK : jg_K G J Wg s) {own cls : String} {names : List String} {ic t : Nat} {w0 : Nat × Nat} (hown : s.vm.findClass own = some m.cls) (ht : 200 ≤ t) (ht2 : t % 2 = 0) (hnm : J.2.2.2 t = some cls)
    (hcls : Bundle.fit cls = true) (hnames : ∀ n ∈ names, Bundle.fit n = true) (hnl : names.length = 2) (hat : ∀ a ∈ Bundle.ownAtoms0 own ic cls names, a ∈ Wg ∨ a ∈ jx_st) (hRf : w0.1 ≤ R.frames) (hRl : w0.2 ≤ R.locals) (hd : decode bs pc = .ok (.invokespecial ic, 3))
    (z : jo_xinit (jg_P p l e R s m args below meth cd G J nL ns zs Q) (pc + 3) ls st h t w0) : jg_P p l e R s m args below meth cd G J nL ns zs Q (pc, ls, st, h) := by
  intro H locs arr hR hn hl hL
  replace hR : jg_R G J h H := hR
  replace hL : jg_Ls G arr nL ls := hL
  unfold jo_xinit at z
  split at z
  · rename_i a st
    obtain ⟨hta, ⟨hw1, hw2⟩, z⟩ := z
    have hta' : (h.2.2 a).1 = t := hta
    obtain ⟨hp1, hp2⟩ := hR.pos hta (by omega) (by omega)
    obtain ⟨-, hc0⟩ := (hR.at hta (by omega) (by omega)).ex0 (by omega) (by omega)
    rw [hta'] at hc0
    have hsum := jg_catsum G st
    intro T hTH X
    have htr : e.platform.stackTraces = false := by rw [X.admits.platform]; exact hl0
    obtain ⟨k, f1, f2, f3⟩ := hK.2.2.2.2.2.2.1 t cls hnm
    have hplain := hK.2.2.2.2.2.2.2.2.2
    obtain ⟨vm', ce, L, e1, e2, e3, X', stp⟩ := jx_ctor X hx htr hown hcls hnames (fun a ha => by
        rcases hat a ha with hw | hw
        · exact hK.1 a hw args
        · exact jx_words h0 hK a hw) (fun x hx cell hc => by rw [hplain x.base cell (hl x hx) hc]; rfl) f1 f2 (a := G.2.1 + (a - 2)) (by rw [hTH, hc0, ← f3]) (fun cell hc => hplain _ cell (Nat.le_add_right _ _) hc)
        (g := F0 m pc arr (.ref (G.2.1 + (a - 2)) :: st.map (jg_mv G))) rfl (by rw [hml]; exact hL.1) (rest := st.map (jg_mv G)) rfl (by rw [hb]; exact hd) (by omega) (by show 2 * 0 + _ + _ ≤ _; omega)
    have hlt : G.2.1 + (a - 2) < H.size := (Array.getElem?_eq_some_iff.mp hc0).1
    have hheap : ((T.setVm vm').setCell (G.2.1 + (a - 2)) ce).heap = H.setIfInBounds (G.2.1 + (a - 2)) ce := by rw [← hTH]; rfl
    have ea : (jm_sT h a (t + 1)).2.2 a = (t + 1, (h.2.2 a).2) := jm_up_self _ _ _
    obtain ⟨t', s1, q1⟩ := z (H.setIfInBounds (G.2.1 + (a - 2)) ce) (locs ++ L) arr (hR.upd hp1 hp2 rfl (fun r hr => jm_up_ne _ _ hr) (by simp) (fun q hq => by simp [Array.getElem?_setIfInBounds, Ne.symm hq]) (jg_at.mk1 (by rw [ea]; show 200 ≤ t + 1; omega) (by rw [ea]; show ¬ (t + 1) % 2 = 0; omega) (by
        rw [ea]
        show (∃ nm, J.2.2.2 (t + 1 - 1) = some nm) ∧ ∃ cell, (H.setIfInBounds (G.2.1 + (a - 2)) ce)[G.2.1 + (a - 2)]? = some cell ∧ cell.cls = (G.2.2.2.2.2.2.2.1 (t + 1 - 1)).1 ∧ cell.vm = .none
        rw [Nat.add_sub_cancel]
        exact ⟨⟨cls, hnm⟩, ce, by simp [Array.getElem?_setIfInBounds, hlt], e1, e2⟩))) hn (fun q hq => by
        rcases List.mem_append.mp hq with h1 | h1
        · exact hl q h1
        · rw [e3 q h1]; exact Nat.le_add_right _ _) hL _ hheap X'
    refine ⟨t', ?_, q1⟩
    show Steps p.tables e below (T.setTop (F0 m pc arr (jg_mv G (.inr (.inl a)) :: st.map (jg_mv G)))) t'
    rw [jg_mv_obj G hp1]
    exact stp t' s1
  · exact z.elim
theorem jw_athrow (hx : p.tables.exec = Jvm.exec) (hb : cd.code = bs) {hd : Nat → Nat → Option Nat} (hdc : decode bs pc = .ok (.athrow, 1)) (hT : jg_T p l e R s m args below meth cd G J nL ns zs Q hd pc) (z : jo_athrow (jg_P p l e R s m args below meth cd G J nL ns zs Q) Q ls st h hd pc) : jg_P p l e R s m args below meth cd G J nL ns zs Q (pc, ls, st, h) := by
  intro H locs arr hR hn hl hL
  replace hR : jg_R G J h H := hR
  replace hn : ns ≤ h.1 ∧ zs ≤ h.2.1 ∧ h.1 ≤ R.cells + ns ∧ h.2.1 ≤ R.slots + zs := hn
  replace hL : jg_Ls G arr nL ls := hL
  unfold jo_athrow at z
  split at z
  · rename_i a st
    obtain ⟨t1, t2, z⟩ := z
    obtain ⟨hp1, hp2⟩ := hR.pos (rfl : jm_T h a = jm_T h a) (by omega) (by omega)
    intro T hTH X
    obtain ⟨t, s1, q1⟩ := hT a ls h T locs arr (st.map (jg_mv G)) z X (by rw [hTH]; exact hR) hn hl hL ⟨t1, t2⟩
    refine ⟨t, ?_, q1⟩
    have ead : jg_ad G a = G.2.1 + (a - 2) := by simp [jg_ad, show a ≠ 1 by omega]
    rw [ead] at s1
    show Steps p.tables e below (T.setTop (F0 m pc arr (jg_mv G (.inr (.inl a)) :: st.map (jg_mv G)))) t
    rw [jg_mv_obj G hp1]
    jvm_step X.here [hx, hb, hdc, athrow.wp_sem]
    exact s1
  · exact z.elim
theorem jw_T {M : jm_M} {nl : Nat → Nat} {mi : Nat} (hF : jg_Fr M nl mi p s m meth cd) (hK : jg_K G J Wg s) {ct : Nat → Nat → Bool}
    (hC : ∀ q ∈ (M mi).2.2.2, q.2.2.2 ≠ 0 ∧ ∃ C, Cond.classLink (M mi).1.cls q.2.2.2 C ∈ Wg ∧ ∀ t nm, J.2.2.2 t = some nm → ∃ c c', G.2.2.2.2.2.2.2.2.vm.findClass nm = some c ∧ G.2.2.2.2.2.2.2.2.vm.findClass C = some c' ∧ G.2.2.2.2.2.2.2.2.vm.assignable c c' = ct q.2.2.2 (t + 1)) :
    jg_T p l e R s m args below meth cd G J (nl mi) ns zs Q (jm_hf ct (M mi).2.2.2) pc := by
  obtain ⟨hx, hb, hml, hown, hr, hlk, hnm, htab⟩ := hF
  intro x ls h T locs arr rest z X hR hn hl hL hxx
  obtain ⟨hp1, hp2⟩ := hR.pos (rfl : jm_T h x = jm_T h x) (by omega) (by omega)
  have ead : jg_ad G x = G.2.1 + (x - 2) := by simp [jg_ad, show x ≠ 1 by omega]
  rw [ead]
  unfold jo_thr at z
  split at z
  · rename_i y hy
    obtain ⟨hy9, z⟩ := z
    obtain ⟨⟨nm, hnm'⟩, cell, hc, hcls, hvm⟩ := (hR.at (rfl : jm_T h x = jm_T h x) (by omega) (by omega)).ex1 hxx.1 (by show ¬ jm_T h x % 2 = 0; omega)
    have htx : (h.2.2 x).1 = jm_T h x := rfl
    rw [htx] at hnm' hcls
    obtain ⟨k, f1, f2, -⟩ := hK.2.2.2.2.2.2.1 _ nm hnm'
    have hal0 := hK.2.2.2.2.2.2.2.1.alike
    have hpl : e.platform.magicAccessors = ({} : Platform).magicAccessors := by rw [X.admits.platform]
    rw [← htab] at hy
    obtain ⟨vm', hw', hgo⟩ := jt_search (e := e) (args := args) (S := (T.setTop (F0 m pc arr rest)).pushFrame (.throwing (G.2.1 + (x - 2)))) (f := F0 m pc arr rest) (a := G.2.1 + (x - 2)) (cell := cell) (own := (M mi).1.cls) (ct := ct) (t := jm_T h x) (y := y) rfl hown hpl (by rw [Stand.throwing_heap]; exact hc) (fun k q => by rw [hvm] at q; cases q) ⟨k, by rw [hcls]; exact f2⟩ hy9 cd.exceptionTable.toList
      (fun z hz => by
        obtain ⟨g1, C, g2, g3⟩ := hC (z.startPc, z.endPc, z.handlerPc, z.catchType) (by rw [← htab]; exact List.mem_map.mpr ⟨z, hz, rfl⟩)
        refine ⟨g1, C, hK.1 _ g2 args, fun c hfc => ?_⟩
        obtain ⟨c1, c2, i1, i2, i3⟩ := g3 _ nm hnm'
        have j1 : c1 = cell.cls := by
          have : s.vm.findClass nm = some c1 := by rw [hal0.findClass]; exact i1
          rw [hcls]
          exact Option.some.inj (this.symm.trans f1)
        have j2 : c2 = c := by
          have : s.vm.findClass C = some c2 := by rw [hal0.findClass]; exact i2
          exact Option.some.inj (this.symm.trans hfc)
        rw [hal0.assignable, ← j1, ← j2, i3]
        show ct z.catchType (jm_T h x - 1 + 1) = _
        rw [show jm_T h x - 1 + 1 = jm_T h x by omega]) hy T.vm X.warmed
    have eS : ((T.setTop (F0 m pc arr rest)).pushFrame (.throwing (G.2.1 + (x - 2)))).setVm T.vm = (T.setTop (F0 m pc arr rest)).pushFrame (.throwing (G.2.1 + (x - 2))) := by
      conv => lhs; rw [← Stand.throwing_vm T (F0 m pc arr rest) (G.2.1 + (x - 2))]
      exact State.setVm_self _
    rw [eS] at hgo
    have X' := X.noted hw'
    obtain ⟨t, s1, q1⟩ := z T.heap locs arr hR hn hl hL (T.setVm vm') rfl X'
    refine ⟨t, jt_caught (cd := cd) (y := y) (vm' := vm') X.here (alike_of X.warmed hw') (fun QQ E d acts => ?_) ?_, q1⟩
    · rw [W.findHandler_eq (meth := meth) (code := cd) (by rw [Stand.throwing_vm]; exact X.method') X.code]
      exact hgo QQ E d acts
    · have e2 : List.map (jg_mv G) [.inr (.inl x)] = [Value.ref (G.2.1 + (x - 2))] := by rw [List.map_cons, jg_mv_obj G hp1]; rfl
      have s1' : Steps p.tables e below ((T.setVm vm').setTop (F0 m y arr (List.map (jg_mv G) [.inr (.inl x)]))) t := s1
      rw [e2] at s1'
      exact s1'
  · rename_i hy
    rw [← htab] at hy
    obtain ⟨hwalk, hrun, hend, hWe, hsame⟩ := X.leaveThrown (G.2.1 + (x - 2)) (g := F0 m pc arr rest) rfl rfl rfl (jt_none cd.exceptionTable.toList hy) hlk
    refine ⟨_, hwalk, .inr x, h, locs, hrun, ?_, hWe, hsame, hl, hn, hR, z, fun a q => by cases q; exact hxx⟩
    show Ended _ below (.threw (jg_ad G x))
    rw [ead]
    exact hend
end JX
end
section
/-! An array of thirteen arrays of thirteen numbers, in one instruction. -/
def jy_o (c : ClassId) (h0 i : Nat) : Cell := arrV c 13 (fun j => if j < i then .ref (h0 + 1 + j) else .null)
def jy_i (comp : ClassId) : Cell := arrV comp 13 (fun _ => .int 0)
def jy_f (S : State) (c comp : ClassId) : Nat → State
  | 0 => S.pushCell (jy_o c S.heap.size 0)
  | i + 1 => ((jy_f S c comp i).pushCell (jy_i comp)).setCell S.heap.size (jy_o c S.heap.size (i + 1))
theorem jy_o_set (c : ClassId) (h0 i : Nat) : (jy_o c h0 i).setSlot i (.ref (h0 + 1 + i)) = jy_o c h0 (i + 1) := by
  unfold jy_o
  rw [arrV_store]
  congr 1
  funext j
  unfold updV
  by_cases h : j = i
  · subst h; simp
  · rw [if_neg h]
    show (if j < i then Value.ref (h0 + 1 + j) else Value.null) = _
    by_cases h2 : j < i
    · rw [if_pos h2, if_pos (by omega)]
    · rw [if_neg h2, if_neg (by omega)]
theorem jy_o_zero (c : ClassId) (h0 : Nat) : ({ cls := c, slots := Array.replicate 13 .null, vm := .none } : Cell) = jy_o c h0 0 := by
  rw [arrV_new]
  unfold jy_o
  congr 1
theorem jy_facts (S : State) (c comp : ClassId) : ∀ i, (jy_f S c comp i).heap.size = S.heap.size + 1 + i ∧ (jy_f S c comp i).heap[S.heap.size]? = some (jy_o c S.heap.size i) ∧ (jy_f S c comp i).vm = S.vm ∧ (jy_f S c comp i).slotsUsed = S.slotsUsed + 13 + i * 13
  | 0 => ⟨by simp [jy_f], by simp [jy_f], rfl, by simp [jy_f, jy_o, arrV]⟩
  | i + 1 => by
    obtain ⟨a, b, d, u⟩ := jy_facts S c comp i
    have hlt : S.heap.size < (jy_f S c comp i).heap.size := by omega
    have hb' : ((jy_f S c comp i).pushCell (jy_i comp)).heap[S.heap.size]? = some (jy_o c S.heap.size i) := by rw [State.heap_pushCell_of_lt (h := hlt)]; exact b
    refine ⟨?_, State.heap_setCell_self hb', by simp [jy_f, d], ?_⟩
    · simp [jy_f, State.setCell, a]; omega
    · simp [jy_f, u, jy_i, arrV]; omega
theorem jy_old (S : State) (c comp : ClassId) {a : Addr} (ha : a < S.heap.size) : ∀ i, (jy_f S c comp i).heap[a]? = S.heap[a]?
  | 0 => State.heap_pushCell_of_lt _ _ ha
  | i + 1 => by
    have f1 := (jy_facts S c comp i).1
    show (((jy_f S c comp i).pushCell (jy_i comp)).setCell S.heap.size _).heap[a]? = _
    have hlt : a < (jy_f S c comp i).heap.size := Nat.lt_of_lt_of_le ha (by rw [f1]; omega)
    rw [State.heap_setCell_other (Nat.ne_of_gt ha), State.heap_pushCell_of_lt (h := hlt)]
    exact jy_old S c comp ha i
theorem jy_inner (S : State) (c comp : ClassId) : ∀ i j, j < i → (jy_f S c comp i).heap[S.heap.size + 1 + j]? = some (jy_i comp)
  | 0, _, h => absurd h (Nat.not_lt_zero _)
  | i + 1, j, h => by
    have f1 := (jy_facts S c comp i).1
    show (((jy_f S c comp i).pushCell (jy_i comp)).setCell S.heap.size _).heap[S.heap.size + 1 + j]? = _
    rw [State.heap_setCell_other (show S.heap.size ≠ S.heap.size + 1 + j by omega)]
    by_cases hj : j < i
    · have hlt : S.heap.size + 1 + j < (jy_f S c comp i).heap.size := by omega
      rw [State.heap_pushCell_of_lt (h := hlt)]
      exact jy_inner S c comp i j hj
    · rw [show S.heap.size + 1 + j = (jy_f S c comp i).heap.size by omega]
      exact State.heap_pushCell_size _ _
theorem jy_top (S : State) (f : JFrame) (c comp : ClassId) : ∀ i, jy_f (S.setTop f) c comp i = (jy_f S c comp i).setTop f
  | 0 => rfl
  | i + 1 => by
    show ((jy_f (S.setTop f) c comp i).pushCell _).setCell _ _ = _
    rw [jy_top S f c comp i]
    rfl
section JY
variable {E : CtlPost} {e : Env} {d : Bool} {acts : List Action} {s : State}
theorem jy_newA {c comp : ClassId} {k : Class} {ty : FieldType} {v : Value} (hk : s.vm.classes[c]? = some k) (hkind : k.kind = .array comp ty) (hlim : ¬ 13 > e.platform.arrayLengthLimit) (hheap : ¬ 13 * componentBytes ty > e.platform.maxHeapBytes) (hfit : fits ty v = true) (hdef : v.isDefault = true)
    (h1 : s.heap.size < e.platform.maxCells) (h2 : s.slotsUsed + 13 ≤ e.platform.maxSlots) {QQ : Addr → Pre} (hq : QQ s.heap.size d acts (s.pushCell { cls := c, slots := Array.replicate 13 v, vm := .none })) : wp (Jvm.newArray c 13 v) QQ E e d acts s := by
  have hfits : ∀ i w, (Array.replicate 13 v)[i]? = some w → s.fitsSlot c .none i w = true := by
    intro i w hw
    rw [Array.getElem?_replicate] at hw
    split at hw
    · cases hw; simp [State.fitsSlot, State.slotType?, hk, hkind, hfit]
    · cases hw
  have hda : allocActs (Array.replicate 13 v) s.heap.size acts = acts := by
    have hall : ((Array.replicate 13 v).all (·.isDefault)) = true := by
      rw [Array.all_replicate]; split <;> simp [hdef]
    unfold allocActs
    rw [if_pos hall]
  simp only [Jvm.newArray, Jvm.arrayFits, wp_bind', W.ask, W.ite, hlim, if_false, wp_pure', W.theClass, hk, hkind, hheap, W.alloc, W.stop, Option.some.injEq, exists_eq_left', Array.size_replicate, hda]
  rw [if_neg (by omega)]
  exact ⟨h1, h2, hfits, hq⟩
theorem jy_make {c comp cc : ClassId} {k kc : Class} (hk : s.vm.classes[c]? = some k) (hkind : k.kind = .array comp (.array .int)) (hkc : s.vm.classes[comp]? = some kc) (hkindc : kc.kind = .array cc .int)
    (hlim : ¬ 13 > e.platform.arrayLengthLimit) (hheap : ¬ 13 * 4 > e.platform.maxHeapBytes) (hc : s.heap.size + 14 ≤ e.platform.maxCells) (hs : s.slotsUsed + 182 ≤ e.platform.maxSlots)
    {QQ : Addr → Pre} (hq : ∀ d' acts', QQ s.heap.size d' acts' (jy_f s c comp 13)) : wp (multianewarray.make c [13, 13]) QQ E e d acts s := by
  have h13 : ¬ (13 : Int32) < 0 := by decide
  have hn13 : (13 : Int32).toNatClampNeg = 13 := by decide
  have hfind : ([(13 : Int32)].find? (· < 0)) = none := by decide
  rw [multianewarray.make]
  simp only [wp_bind', W.ite, h13, if_false, wp_pure', W.theClass, hk, hkind, Option.some.injEq, exists_eq_left', hn13]
  refine jy_newA hk hkind hlim hheap rfl rfl (by omega) (by omega) ?_
  simp only [hfind]
  rw [ite_self, wp_bind', Std.Legacy.Range.forIn_eq_forIn_range']
  have hsz : ([:13] : Std.Legacy.Range).size = 13 := by simp [Std.Legacy.Range.size]
  rw [hsz]
  show wp (forIn (List.range' 0 13 1) PUnit.unit _) _ E e d acts _
  refine wp_forIn_inv (fun rest s' => ∃ i, i ≤ 13 ∧ rest = List.range' i (13 - i) ∧ s' = jy_f s c comp i) _ _ ⟨0, Nat.zero_le _, rfl, by rw [jy_o_zero c s.heap.size]; rfl⟩ ?_ ?_
  · rintro x rest s' d' acts' Q' ⟨i, hi, hl, rfl⟩ hnext
    have hlt : i < 13 := by
      rcases Nat.lt_or_ge i 13 with h | h
      · exact h
      · rw [show 13 - i = 0 from by omega] at hl; simp at hl
    obtain ⟨rfl, hrest⟩ : x = i ∧ rest = List.range' (i + 1) (13 - (i + 1)) := by
      rw [show 13 - i = (13 - (i + 1)) + 1 from by omega, List.range'_succ] at hl
      exact ⟨(List.cons.inj hl).1, (List.cons.inj hl).2⟩
    obtain ⟨f1, f2, f3, f4⟩ := jy_facts s c comp x
    simp only [wp_bind']
    rw [multianewarray.make]
    simp only [wp_bind', W.ite, h13, if_false, wp_pure', W.theClass, f3, hkc, hkindc, Option.some.injEq, exists_eq_left', hn13]
    refine jy_newA (by rw [f3]; exact hkc) hkindc hlim hheap rfl rfl (by rw [f1]; omega) (by rw [f4]; omega) ?_
    have hlt0 : s.heap.size < (jy_f s c comp x).heap.size := by omega
    simp only [wp_bind', W.writeLoc, wp_pure']
    refine ⟨jy_o c s.heap.size x, by rw [State.heap_pushCell_of_lt (h := hlt0)]; exact f2, (fun q => by cases q), (by unfold jy_o; rw [arrV_size]; exact hlt), ?_, hnext _ _ _ ⟨x + 1, hlt, hrest, ?_⟩⟩
    · show State.fitsSlot _ c .none x _ = true
      simp [State.fitsSlot, State.slotType?, f3, hk, hkind, fits]
    · rw [f1, jy_o_set]
      show _ = ((jy_f s c comp x).pushCell (jy_i comp)).setCell s.heap.size _
      unfold jy_i
      rw [← arrV_new]
      rfl
  · rintro s' d' acts' ⟨i, hi, hl, rfl⟩
    have hiN : i = 13 := by
      rcases Nat.lt_or_ge i 13 with h | h
      · rw [show 13 - i = (13 - (i + 1)) + 1 from by omega, List.range'_succ] at hl; cases hl
      · omega
    subst hiN
    simp only [wp_pure']
    exact hq _ _
theorem jy_cold {f : JFrame} {index c : Nat} {vm' : Vm} {QQ : Unit → Pre} (hs : s.topJava?.isSome) (hg : (Jvm.resolveClass f.method.cls index).Gives e.toSetting s.vm (.ok c) vm') (hr : vm'.classReady f.method.cls index c) (hsz : vm'.classes.size ≤ s.vm.classes.size) :
    wp (multianewarray.sem index 2) QQ E e d acts (s.setTop f) ↔ wp (multianewarray.sem index 2) QQ E e d acts ((s.setVm vm').setTop f) := by
  simp only [multianewarray.sem, wp_bind']
  exact W.resolveClassAt_transfer (s := s.setTop f) (State.method?_setTop f hs) hg hr hsz
theorem jy_sem {f : JFrame} {index : Nat} {c comp cc : ClassId} {k kc : Class} {rest : List Value} (hs : s.topJava?.isSome) (hr : s.vm.classReady f.method.cls index c) (hk : s.vm.classes[c]? = some k) (hkind : k.kind = .array comp (.array .int)) (hkc : s.vm.classes[comp]? = some kc) (hkindc : kc.kind = .array cc .int)
    (hstack : f.stack = .int 13 :: .int 13 :: rest) (hlim : ¬ 13 > e.platform.arrayLengthLimit) (hheap : ¬ 13 * 4 > e.platform.maxHeapBytes) (hc : s.heap.size + 14 ≤ e.platform.maxCells) (hsl : s.slotsUsed + 182 ≤ e.platform.maxSlots)
    {QQ : Unit → Pre} (hq : ∀ d' acts', QQ () d' acts' ((jy_f s c comp 13).setTop { f with stack := .ref s.heap.size :: rest })) : wp (multianewarray.sem index 2) QQ E e d acts (s.setTop f) := by
  simp only [multianewarray.sem, wp_bind', W.resolveClassAt_ready (State.method?_setTop f hs) hr]
  refine (popN_top hs (args := [.int 13, .int 13]) (rest := rest) (by rw [hstack]; rfl)).mpr ?_
  simp only [List.mapM_cons, List.mapM_nil, wp_bind', wp_pure', W.mark]
  refine jy_make (s := s.setTop { f with stack := rest }) hk hkind hkc hkindc hlim hheap hc hsl (fun d' acts' => ?_)
  rw [jy_top]
  have ht : (jy_f s c comp 13).topJava?.isSome := by
    have key : ∀ i, (jy_f s c comp i).topJava?.isSome := fun i => by
      induction i with
      | zero => exact hs
      | succ i ih => exact ih
    exact key 13
  simp only [wp_bind', W.mark, W.pushRef, State.topJava?_setTop' _ ht, Option.some.injEq, exists_eq_left', State.setTop_setTop]
  exact hq _ _
end JY
section JZ
variable {p : Program} {l : Launch} {e : Env} {R : Room} {s : State} {m : MethodId} {args : Array Value} {below : List Frame} {meth : Method} {cd : Code} {G : jm_G} {J : jm_J} {nL ns zs : Nat} {Q : jm_Q} {bs : ByteArray} {pc n : Nat} {ins : Instr} {ls : jm_Ls} {st : List jm_V} {h : jm_H} {Wg : List Cond} {T : State} {locs : List Loc} {cells slots : Nat}
theorem jy_stand (X : Stand p l e R s m args below meth cd T locs cells slots) (c comp : ClassId) (hsz : s.heap.size ≤ T.heap.size) : ∀ i, Stand p l e R s m args below meth cd (jy_f T c comp i) locs (cells + 1 + i) (slots + 13 + i * 13)
  | 0 => by
    have e1 : (jy_o c T.heap.size 0).slots.size = 13 := by unfold jy_o; exact arrV_size _ _ _
    have X1 := X.pushed (jy_o c T.heap.size 0)
    rw [e1] at X1
    exact X1
  | i + 1 => by
    have X1 := (jy_stand X c comp hsz i).pushed (jy_i comp)
    obtain ⟨f1, f2, f3, f4⟩ := jy_facts T c comp i
    have hc : ((jy_f T c comp i).pushCell (jy_i comp)).heap[T.heap.size]? = some (jy_o c T.heap.size i) := by
      have hlt : T.heap.size < (jy_f T c comp i).heap.size := by omega
      rw [State.heap_pushCell_of_lt (h := hlt)]
      exact f2
    have X2 := X1.stored hc i (.ref (T.heap.size + 1 + i))
    rw [jy_o_set] at X2
    have X3 := Stand.forget X2 (fun q hq => by rw [List.mem_singleton.mp hq]; exact hsz)
    have e1 : (jy_i comp).slots.size = 13 := by unfold jy_i; exact arrV_size _ _ _
    rw [e1] at X3
    have e2 : cells + 1 + i + 1 = cells + 1 + (i + 1) := by omega
    have e3 : slots + 13 + i * 13 + 13 = slots + 13 + (i + 1) * 13 := by omega
    rw [e2, e3] at X3
    exact X3
theorem jw_multi (hx : p.tables.exec = Jvm.exec) (hb : cd.code = bs) (hK : jg_K G J Wg s) {own : String} {idx t c z0 : Nat} (hown : s.vm.findClass own = some m.cls) (h60 : 60 ≤ t) (h99 : t < 99) (hty : J.2.2.1 t = some (.array .int)) (hcl : Cond.classLink own idx "[[I" ∈ Wg)
    (hRc : c ≤ R.cells + ns) (hRz : z0 ≤ R.slots + zs) (hd : decode bs pc = .ok (.multianewarray idx 2, 4)) (z : jo_multi (jg_P p l e R s m args below meth cd G J nL ns zs Q) (pc + 4) ls st h t c z0) : jg_P p l e R s m args below meth cd G J nL ns zs Q (pc, ls, st, h) := by
  intro H locs arr hR hn hl hL
  replace hR : jg_R G J h H := hR
  replace hn : ns ≤ h.1 ∧ zs ≤ h.2.1 ∧ h.1 ≤ R.cells + ns ∧ h.2.1 ≤ R.slots + zs := hn
  replace hL : jg_Ls G arr nL ls := hL
  unfold jo_multi at z
  split at z
  · rename_i k1 k0 st
    obtain ⟨rfl, rfl, z1, z2, z⟩ := z
    obtain ⟨hn1, hn2, hn3, hn4⟩ := hn
    have hsz : H.size = G.2.1 + (h.1 - 2) := hR.1.2.1
    have em : jg_mv G (.inr (.inl h.1)) = .ref H.size := by rw [jg_mv_obj G hR.1.1, hsz]
    obtain ⟨-, hRA, -, hOv⟩ := hK.2.2.2.2.2.1 t _ hty
    obtain ⟨comp, cA, kA, hcomp, -, hkA, hkindA, hnA⟩ := arrayOverA_spec (hOv .int rfl)
    have e2 : (FieldType.array FieldType.int).toString = "[I" := by decide +kernel
    have e3 : "[" ++ (FieldType.array FieldType.int).toString = "[[I" := by decide +kernel
    rw [e2] at hcomp
    rw [e3] at hnA
    have ecomp : comp = G.2.2.2.2.1 := Option.some.inj (hcomp.symm.trans hK.2.2.1.2)
    have eA : cA = G.2.2.2.2.2.2.1 t := by
      have h1 : s.vm.findClass ("[" ++ (FieldType.array FieldType.int).toString) = some (G.2.2.2.2.2.2.1 t) := hRA
      rw [e3] at h1
      exact Option.some.inj (hnA.symm.trans h1)
    subst ecomp; subst eA
    obtain ⟨-, kc, hkc, cc, hkindc⟩ := hK.2.2.1.1 0 (fun _ => .null)
    replace hkc : s.vm.classes[G.2.2.2.2.1]? = some kc := hkc
    intro T hTH X
    subst hTH
    replace X : Stand p l e R s m args below meth cd T locs (h.1 - ns) (h.2.1 - zs) := X
    have hpl : e.platform.magicAccessors = ({} : Platform).magicAccessors := by rw [X.admits.platform]
    obtain ⟨c2, hfcc, hcl2⟩ := Cond.classLink_spec hown (hK.1 _ hcl args) e.platform hpl
    cases hnA.symm.trans hfcc
    obtain ⟨hg₁, hwarm₁, hready₁⟩ := State.classEntry (e := e) X.warmed hcl2
    generalize T.vm.noted m.cls idx (.cls (G.2.2.2.2.2.2.1 t)) = vm₁ at hg₁ hwarm₁ hready₁
    have hal : s.vm.Alike vm₁ := hwarm₁.alike
    obtain ⟨kA₁, hkA₁, heA⟩ := hal.2.2 _ _ hkA
    obtain ⟨kc₁, hkc₁, hec⟩ := hal.2.2 _ _ hkc
    have hszv : vm₁.classes.size ≤ T.vm.classes.size := by
      have i1 := hal.2.1
      have i2 := X.warmed.alike.2.1
      omega
    have X₁ := X.noted hwarm₁
    obtain ⟨hr1, hr2⟩ := X.roomAbove (a := 14) (b := 182) (by omega) (by omega)
    have hge : s.heap.size ≤ T.heap.size := X.same.2.1
    have X₂ := jy_stand X₁ (G.2.2.2.2.2.2.1 t) G.2.2.2.2.1 (show s.heap.size ≤ (T.setVm vm₁).heap.size from hge) 13
    obtain ⟨f1, f2, f3, f4⟩ := jy_facts (T.setVm vm₁) (G.2.2.2.2.2.2.1 t) G.2.2.2.2.1 13
    have f5 := fun {a : Addr} (ha : a < T.heap.size) => jy_old (T.setVm vm₁) (G.2.2.2.2.2.2.1 t) G.2.2.2.2.1 (show a < (T.setVm vm₁).heap.size from ha) 13
    have f6 := jy_inner (T.setVm vm₁) (G.2.2.2.2.2.2.1 t) G.2.2.2.2.1 13
    replace f1 : (jy_f (T.setVm vm₁) (G.2.2.2.2.2.2.1 t) G.2.2.2.2.1 13).heap.size = T.heap.size + 1 + 13 := f1
    replace f2 : (jy_f (T.setVm vm₁) (G.2.2.2.2.2.2.1 t) G.2.2.2.2.1 13).heap[T.heap.size]? = some (jy_o (G.2.2.2.2.2.2.1 t) T.heap.size 13) := f2
    replace f5 : ∀ a, a < T.heap.size → (jy_f (T.setVm vm₁) (G.2.2.2.2.2.2.1 t) G.2.2.2.2.1 13).heap[a]? = T.heap[a]? := fun a ha => f5 ha
    replace f6 : ∀ j, j < 13 → (jy_f (T.setVm vm₁) (G.2.2.2.2.2.2.1 t) G.2.2.2.2.1 13).heap[T.heap.size + 1 + j]? = some (jy_i G.2.2.2.2.1) := fun j hj => f6 j hj
    generalize hS3 : jy_f (T.setVm vm₁) (G.2.2.2.2.2.2.1 t) G.2.2.2.2.1 13 = S3 at X₂ f1 f2 f5 f6
    have hR' : jg_R G J (jm_mul h t 13 13) S3.heap := by
      obtain ⟨⟨p1, p2, p3, p4⟩, hz, hA, s1, s2, s3, s4, s5⟩ := id hR
      have ob : ∀ r, r ≠ h.1 → ¬ (h.1 < r ∧ r < h.1 + 1 + 13) → (jm_mul h t 13 13).2.2 r = h.2.2 r := fun r q1 q2 => by
        show (if r = h.1 then _ else if h.1 < r ∧ r < h.1 + 1 + 13 then _ else h.2.2 r) = _
        rw [if_neg q1, if_neg q2]
      have ex : (jm_mul h t 13 13).2.2 1 = h.2.2 1 := ob 1 (by omega) (by omega)
      refine ⟨⟨by show 2 ≤ h.1 + 1 + 13; omega, by show _ = G.2.1 + (h.1 + 1 + 13 - 2); omega, p3, fun q hq => (f5 q (by omega)).trans (p4 q hq)⟩, fun r hr => ?_, fun r h1 h3 => ?_, ?_, ?_, s3, ?_, ?_⟩
      · have hr' : r = 0 ∨ h.1 + 1 + 13 ≤ r := hr
        show ((jm_mul h t 13 13).2.2 r).1 = 0
        rw [ob r (by omega) (by omega)]
        exact hz r (by omega)
      · have h3' : r < h.1 + 1 + 13 := h3
        by_cases hr : r = h.1
        · subst hr
          have eo : (jm_mul h t 13 13).2.2 h.1 = (t, 13, fun _ => 0, fun j => if j < 13 then h.1 + 1 + j else 0, fun _ => 0) := if_pos rfl
          rw [eo, show G.2.1 + (h.1 - 2) = T.heap.size by omega]
          refine jg_at.mkR h60 h99 ?_
          rw [f2]
          unfold jy_o
          refine congrArg (fun f => some (arrV (G.2.2.2.2.2.2.1 t) 13 f)) (funext fun j => ?_)
          show _ = jg_mv G (.inr (.inl (if j < 13 then h.1 + 1 + j else 0)))
          by_cases hj : j < 13
          · rw [if_pos hj, if_pos hj, jg_mv_obj G (by omega), show T.heap.size + 1 + j = G.2.1 + (h.1 + 1 + j - 2) by omega]
          · rw [if_neg hj, if_neg hj]; rfl
        · by_cases hr2 : h.1 < r
          · have eo : (jm_mul h t 13 13).2.2 r = (100, 13, fun _ => 0, fun _ => 0, fun _ => 0) := by
              show (if r = h.1 then _ else if h.1 < r ∧ r < h.1 + 1 + 13 then _ else h.2.2 r) = _
              rw [if_neg hr, if_pos ⟨hr2, h3'⟩]
            rw [eo]
            refine jg_at.mkI rfl ?_
            rw [show G.2.1 + (r - 2) = T.heap.size + 1 + (r - h.1 - 1) by omega, f6 _ (by omega)]
            rfl
          · rw [ob r hr (by omega)]
            exact (hA r h1 (by omega)).kept (f5 _ (by omega))
      · show ((jm_mul h t 13 13).2.2 1).1 = 99
        rw [ex]; exact s1
      · rw [f5 _ (by omega)]; exact s2
      · show _ = ((jm_mul h t 13 13).2.2 1).2.1
        rw [ex]; exact s4
      · show ∀ j, j < ((jm_mul h t 13 13).2.2 1).2.1 → G.2.2.1.slots[j]? = some (Value.int (((jm_mul h t 13 13).2.2 1).2.2.1 j))
        rw [ex]; exact s5
    rw [show h.1 - ns + 1 + 13 = h.1 + 1 + 13 - ns by omega, show h.2.1 - zs + 13 + 13 * 13 = h.2.1 + 13 + 13 * 13 - zs by omega] at X₂
    obtain ⟨t', s1, q1⟩ := z _ locs arr hR' ⟨by show ns ≤ h.1 + 1 + 13; omega, by show zs ≤ h.2.1 + 13 + 13 * 13; omega, by show h.1 + 1 + 13 ≤ _; omega, by show h.2.1 + 13 + 13 * 13 ≤ _; omega⟩ hl hL _ rfl X₂
    refine ⟨t', ?_, q1⟩
    have s2 : Steps p.tables e below (S3.setTop (F0 m (pc + 4) arr (jg_mv G (.inr (.inl h.1)) :: st.map (jg_mv G)))) t' := s1
    rw [em, ← hS3] at s2
    have hlim : ¬ 13 > e.platform.arrayLengthLimit := by rw [Launch.admits_arrayLengthLimit X.admits]; omega
    have hhp : ¬ 13 * 4 > e.platform.maxHeapBytes := by rw [Launch.admits_maxHeapBytes X.admits]; omega
    show Steps p.tables e below (T.setTop (F0 m pc arr (.int 13 :: .int 13 :: st.map (jg_mv G)))) t'
    jvm_step X.here [hx, hb, hd, jy_cold (e := e) (s := T) (f := F0 m pc arr (.int 13 :: .int 13 :: st.map (jg_mv G))) X.here.top hg₁ hready₁ hszv]
    refine jy_sem (s := T.setVm vm₁) (f := F0 m pc arr (.int 13 :: .int 13 :: st.map (jg_mv G))) X.here.top hready₁ hkA₁ (by rw [heA]; exact hkindA) hkc₁ (by rw [hec]; exact hkindc) rfl hlim hhp hr1 hr2 (fun d' acts' => ?_)
    intro acts
    rw [afterInstr_ok]
    exact s2
  · exact z.elim
end JZ
end
section
/-! The abstract machine is sound, for code whose instructions pass a check. -/
/-- entries: owner, index, what it is (1 field, 2 virtual call, 3 static call, 4 constructor, 5 new, 6 array of references, 7 new exception, 8 its constructor, 9 Object's constructor, 10 max, 11 min, 12 arraycopy, 13 array of arrays), two numbers -/
abbrev jm_K5 : Type := List (Nat × Nat × Nat × Nat × Nat)
def jm_fin (J : jm_J) (x y : Nat) : Bool := match J.1[x]? with
  | some q => (q.2.1 y).2.2.2
  | none => true
def jm_isR : FieldType → Bool
  | .object _ => true
  | .array _ => true
  | _ => false
def jc_gf : Instr → Option Nat
  | .getfield i => some i
  | _ => none
theorem jc_gf_spec {ins : Instr} {f : Nat → Bool} (h : (jc_gf ins).any f = true) : ∃ i, ins = .getfield i ∧ f i = true := by
  unfold jc_gf at h
  split at h
  · exact ⟨_, rfl, h⟩
  · cases h
def jc_pf : Instr → Option Nat
  | .putfield i => some i
  | _ => none
theorem jc_pf_spec {ins : Instr} {f : Nat → Bool} (h : (jc_pf ins).any f = true) : ∃ i, ins = .putfield i ∧ f i = true := by
  unfold jc_pf at h
  split at h
  · exact ⟨_, rfl, h⟩
  · cases h
def jc_nw : Instr → Option Nat
  | .new i => some i
  | _ => none
theorem jc_nw_spec {ins : Instr} {f : Nat → Bool} (h : (jc_nw ins).any f = true) : ∃ i, ins = .new i ∧ f i = true := by
  unfold jc_nw at h
  split at h
  · exact ⟨_, rfl, h⟩
  · cases h
def jc_an : Instr → Option Nat
  | .anewarray i => some i
  | _ => none
theorem jc_an_spec {ins : Instr} {f : Nat → Bool} (h : (jc_an ins).any f = true) : ∃ i, ins = .anewarray i ∧ f i = true := by
  unfold jc_an at h
  split at h
  · exact ⟨_, rfl, h⟩
  · cases h
def jc_is : Instr → Option Nat
  | .invokestatic i => some i
  | _ => none
theorem jc_is_spec {ins : Instr} {f : Nat → Bool} (h : (jc_is ins).any f = true) : ∃ i, ins = .invokestatic i ∧ f i = true := by
  unfold jc_is at h
  split at h
  · exact ⟨_, rfl, h⟩
  · cases h
def jc_iv : Instr → Option Nat
  | .invokevirtual i => some i
  | _ => none
theorem jc_iv_spec {ins : Instr} {f : Nat → Bool} (h : (jc_iv ins).any f = true) : ∃ i, ins = .invokevirtual i ∧ f i = true := by
  unfold jc_iv at h
  split at h
  · exact ⟨_, rfl, h⟩
  · cases h
def jc_ip : Instr → Option Nat
  | .invokespecial i => some i
  | _ => none
theorem jc_ip_spec {ins : Instr} {f : Nat → Bool} (h : (jc_ip ins).any f = true) : ∃ i, ins = .invokespecial i ∧ f i = true := by
  unfold jc_ip at h
  split at h
  · exact ⟨_, rfl, h⟩
  · cases h
def jc_ma : Instr → Option Nat
  | .multianewarray i 2 => some i
  | _ => none
theorem jc_ma_spec {ins : Instr} {f : Nat → Bool} (h : (jc_ma ins).any f = true) : ∃ i, ins = .multianewarray i 2 ∧ f i = true := by
  unfold jc_ma at h
  split at h
  · exact ⟨_, rfl, h⟩
  · cases h
/-- K: the entries; oc: the owner; ini: is it a constructor -/
def jm_chk (K : jm_K5) (J : jm_J) (sw : Nat → List (Int32 × Nat) × Nat) (oc nL : Nat) (ini : Bool) (ret : Option FieldType) (pc : Nat) (ins : Instr) (i : jm_In) : Bool := match i.1 with
  | 1 => jc_const ins i.2.1 i.2.2.2.2
  | 2 => jc_iload ins i.2.1 i.2.2.1
  | 3 => jc_aload ins i.2.1 i.2.2.1
  | 4 => jc_istore ins i.2.1 i.2.2.1 && decide (i.2.2.1 < nL)
  | 5 => jc_astore ins i.2.1 i.2.2.1 && decide (i.2.2.1 < nL)
  | 6 => jc_iinc ins i.2.1 i.2.2.1 i.2.2.2.2 && decide (i.2.2.1 < nL)
  | 7 => jc_bin ins i.2.1 i.2.2.1
  | 8 => jc_if ins i.2.1 pc i.2.2.1 i.2.2.2.1
  | 9 => jc_icmp ins i.2.1 pc i.2.2.1 i.2.2.2.1
  | 10 => i.2.1 == 3 && jc_goto ins pc i.2.2.2.1
  | 11 => jc_switch ins pc (sw i.2.2.2.1)
  | 12 => i.2.1 == 3 && (jc_gf ins).any (fun idx => K.contains (oc, idx, 1, i.2.2.1, i.2.2.2.1)) && jm_isI (J.2.1 i.2.2.1 i.2.2.2.1)
  | 13 => i.2.1 == 3 && (jc_gf ins).any (fun idx => K.contains (oc, idx, 1, i.2.2.1, i.2.2.2.1)) && !jm_isI (J.2.1 i.2.2.1 i.2.2.2.1)
  | 14 => i.2.1 == 3 && (jc_pf ins).any (fun idx => K.contains (oc, idx, 1, i.2.2.1, i.2.2.2.1)) && decide (J.2.1 i.2.2.1 i.2.2.2.1 = .int) && (!jm_fin J i.2.2.1 i.2.2.2.1 || (ini && oc == i.2.2.1))
  | 15 => i.2.1 == 3 && (jc_pf ins).any (fun idx => K.contains (oc, idx, 1, i.2.2.1, i.2.2.2.1)) && decide (J.2.1 i.2.2.1 i.2.2.2.1 = .boolean) && (!jm_fin J i.2.2.1 i.2.2.2.1 || (ini && oc == i.2.2.1))
  | 16 => i.2.1 == 3 && (jc_pf ins).any (fun idx => K.contains (oc, idx, 1, i.2.2.1, i.2.2.2.1)) && jm_isR (J.2.1 i.2.2.1 i.2.2.2.1) && (!jm_fin J i.2.2.1 i.2.2.2.1 || (ini && oc == i.2.2.1))
  | 17 => decide (ins = .iaload) && i.2.1 == 1
  | 18 => decide (ins = .iaload) && i.2.1 == 1
  | 19 => decide (ins = .iastore) && i.2.1 == 1
  | 20 => decide (ins = .aaload) && i.2.1 == 1 && decide (60 ≤ i.2.2.1) && decide (i.2.2.1 < 99) && (J.2.2.1 i.2.2.1).any (fun t => t.isReference)
  | 21 => decide (ins = .aastore) && i.2.1 == 1 && decide (60 ≤ i.2.2.1) && decide (i.2.2.1 < 99) && decide (0 < i.2.2.2.1) && decide (i.2.2.2.1 < 60) && (J.1[i.2.2.2.1]?).any (fun q => decide (J.2.2.1 i.2.2.1 = some (.object q.1)))
  | 22 => decide (ins = .arraylength) && i.2.1 == 1 && (i.2.2.1 == 100 || (decide (60 ≤ i.2.2.1) && decide (i.2.2.1 < 99) && (J.2.2.1 i.2.2.1).isSome))
  | 23 => decide (ins = .arraylength) && i.2.1 == 1
  | 24 => i.2.1 == 2 && ((decide (ins = .newarray .int) && i.2.2.1 == 100) || (decide (ins = .newarray .long) && i.2.2.1 == 101))
  | 25 => i.2.1 == 3 && (jc_an ins).any (fun idx => K.contains (oc, idx, 6, i.2.2.1, 0))
  | 27 => i.2.1 == 4 && (jc_ma ins).any (fun idx => K.contains (oc, idx, 13, i.2.2.1, 0))
  | 28 => i.2.1 == 3 && (jc_nw ins).any (fun idx => K.contains (oc, idx, 5, i.2.2.1, i.2.2.2.1))
  | 29 => decide (ins = .dup) && i.2.1 == 1
  | 30 => decide (ins = .dup2) && i.2.1 == 1
  | 31 => decide (ins = .pop) && i.2.1 == 1
  | 32 => i.2.1 == 3 && ((jc_iv ins).any (fun idx => K.contains (oc, idx, 2, i.2.2.1, i.2.2.2.1)) || (jc_is ins).any (fun idx => K.contains (oc, idx, 3, i.2.2.1, i.2.2.2.1)) || (jc_ip ins).any (fun idx => K.contains (oc, idx, 4, i.2.2.1, i.2.2.2.1)))
  | 33 => i.2.1 == 3 && (jc_ip ins).any (fun idx => K.contains (oc, idx, 9, 0, 0))
  | 34 => i.2.1 == 3 && (jc_nw ins).any (fun idx => K.contains (oc, idx, 7, i.2.2.1, 0))
  | 35 => i.2.1 == 3 && (jc_ip ins).any (fun idx => K.contains (oc, idx, 8, i.2.2.1, 0))
  | 36 => decide (ins = .athrow) && i.2.1 == 1
  | 37 => decide (ins = .ireturn) && i.2.1 == 1 && decide (ret = some .int)
  | 38 => decide (ins = .ireturn) && i.2.1 == 1 && decide (ret = some .boolean)
  | 39 => decide (ins = .return_) && i.2.1 == 1 && decide (ret = none)
  | 41 => decide (ins = .i2l) && i.2.1 == 1
  | 42 => decide (ins = .laload) && i.2.1 == 1
  | 43 => decide (ins = .lastore) && i.2.1 == 1
  | 44 => decide (ins = .lcmp) && i.2.1 == 1
  | 45 => i.2.1 == 3 && (jc_is ins).any (fun idx => K.contains (oc, idx, 10, 0, 0))
  | 47 => i.2.1 == 3 && (jc_is ins).any (fun idx => K.contains (oc, idx, 12, 0, 0))
  | 48 => decide (ins = .dup_x1) && i.2.1 == 1
  | 50 => decide (ins = .irem) && i.2.1 == 1
  | _ => false
/-- the entries are what they say -/
def jm_kok (cn : Nat → String) (J : jm_J) (Wg : List Cond) (M : jm_M) (nl rc : Nat → Nat) (q : Nat × Nat × Nat × Nat × Nat) : Prop := match q.2.2.1 with
  | 1 => 0 < q.2.2.2.1 ∧ ∃ w, J.1[q.2.2.2.1]? = some w ∧ q.2.2.2.2 < w.2.2 ∧ (w.2.1 q.2.2.2.2).1 = w.1 ∧ Cond.fieldLink (cn q.1) q.2.1 w.1 (w.2.1 q.2.2.2.2).2.1 (w.2.1 q.2.2.2.2).2.2.1 ∈ Wg
  | 2 => 0 < rc q.2.2.2.1 ∧ (∃ w, J.1[rc q.2.2.2.1]? = some w ∧ w.1 = (M q.2.2.2.1).1.cls ∧ Cond.selects w.1 (M q.2.2.2.1).1 (M q.2.2.2.1).1 ∈ Wg) ∧ jg_cw M nl Wg q.2.2.2.1 ∧ Cond.methodLink (cn q.1) q.2.1 (M q.2.2.2.1).1 ∈ Wg ∧ Cond.instanceMethod (M q.2.2.2.1).1 ∈ Wg ∧ ((M q.2.2.2.1).1.cls ≠ "java/lang/invoke/MethodHandle" ∧ (M q.2.2.2.1).1.cls ≠ "java/lang/invoke/VarHandle") ∧ plainFor (M q.2.2.2.1).1 = true ∧ (parseMethodDescriptor (M q.2.2.2.1).1.desc).map (fun d => d.parameters.length + 1) = some q.2.2.2.2
  | 3 => rc q.2.2.2.1 = 0 ∧ jg_cw M nl Wg q.2.2.2.1 ∧ Cond.methodLink (cn q.1) q.2.1 (M q.2.2.2.1).1 ∈ Wg ∧ Cond.static (M q.2.2.2.1).1 ∈ Wg ∧ Cond.initialized (M q.2.2.2.1).1.cls ∈ Wg ∧ ((M q.2.2.2.1).1.cls ≠ "java/lang/invoke/MethodHandle" ∧ (M q.2.2.2.1).1.cls ≠ "java/lang/invoke/VarHandle") ∧ plainFor (M q.2.2.2.1).1 = true ∧ (parseMethodDescriptor (M q.2.2.2.1).1.desc).map (fun d => d.parameters.length) = some q.2.2.2.2
  | 4 => (0 < rc q.2.2.2.1 ∧ rc q.2.2.2.1 < 60) ∧ (M q.2.2.2.1).1.name = "<init>" ∧ Cond.code (M q.2.2.2.1).1 (M q.2.2.2.1).2.1 (nl q.2.2.2.1) none ∈ Wg ∧ jg_cw M nl Wg q.2.2.2.1 ∧ Cond.methodLink (cn q.1) q.2.1 (M q.2.2.2.1).1 ∈ Wg ∧ Cond.instanceMethod (M q.2.2.2.1).1 ∈ Wg ∧ ((M q.2.2.2.1).1.cls ≠ "java/lang/invoke/MethodHandle" ∧ (M q.2.2.2.1).1.cls ≠ "java/lang/invoke/VarHandle") ∧ plainFor (M q.2.2.2.1).1 = true ∧ (parseMethodDescriptor (M q.2.2.2.1).1.desc).map (fun d => d.parameters.length + 1) = some q.2.2.2.2
  | 5 => 0 < q.2.2.2.1 ∧ ∃ w, J.1[q.2.2.2.1]? = some w ∧ q.2.2.2.2 = w.2.2 ∧ Cond.classLink (cn q.1) q.2.1 w.1 ∈ Wg ∧ Cond.instantiable w.1 w.2.2 ∈ Wg ∧ Cond.initialized w.1 ∈ Wg ∧ ∀ k, k < w.2.2 → jm_isI (J.2.1 q.2.2.2.1 k) = true ∨ jm_isR (J.2.1 q.2.2.2.1 k) = true
  | 6 => (60 ≤ q.2.2.2.1 ∧ q.2.2.2.1 < 99) ∧ ∃ C, J.2.2.1 q.2.2.2.1 = some (.object C) ∧ Cond.classLink (cn q.1) q.2.1 C ∈ Wg
  | 7 => ∃ nm, J.2.2.2 q.2.2.2.1 = some nm ∧ 200 ≤ q.2.2.2.1 ∧ q.2.2.2.1 % 2 = 0 ∧ Cond.classLink (cn q.1) q.2.1 nm ∈ Wg ∧ Cond.instantiable nm 6 ∈ Wg ∧ Cond.initialized nm ∈ Wg
  | 8 => ∃ cls names, J.2.2.2 q.2.2.2.1 = some cls ∧ 200 ≤ q.2.2.2.1 ∧ q.2.2.2.1 % 2 = 0 ∧ Bundle.fit cls = true ∧ (∀ n ∈ names, Bundle.fit n = true) ∧ names.length = 2 ∧ ∀ a ∈ Bundle.ownAtoms0 (cn q.1) q.2.1 cls names, a ∈ Wg ∨ a ∈ jx_st
  | 9 => Cond.methodLink (cn q.1) q.2.1 objectInit ∈ Wg ∧ Cond.instanceMethod objectInit ∈ Wg ∧ Cond.code objectInit ⟨#[0xb1]⟩ 1 none ∈ Wg
  | 10 => Cond.methodLink (cn q.1) q.2.1 Lib.Math.max.name ∈ Wg ∧ Cond.static Lib.Math.max.name ∈ Wg ∧ Cond.initialized "java/lang/Math" ∈ Wg ∧ Cond.code Lib.Math.max.name Lib.Math.max.code 2 (some .int) ∈ Wg
  | 12 => Cond.methodLink (cn q.1) q.2.1 arraycopyName ∈ Wg ∧ Cond.native arraycopyName ∈ Wg ∧ Cond.static arraycopyName ∈ Wg ∧ Cond.initialized "java/lang/System" ∈ Wg
  | 13 => (60 ≤ q.2.2.2.1 ∧ q.2.2.2.1 < 99) ∧ J.2.2.1 q.2.2.2.1 = some (.array .int) ∧ Cond.classLink (cn q.1) q.2.1 "[[I" ∈ Wg
  | _ => True
theorem jm_dflt (G : jm_G) {J : jm_J} {x k : Nat} (h : jm_isI (J.2.1 x k) = true ∨ jm_isR (J.2.1 x k) = true) : defaultValue (J.2.1 x k) = jg_fv G (J.2.1 x) (x, 0, fun _ => 0, fun _ => 0, fun _ => 0) k := by
  unfold jg_fv
  generalize J.2.1 x k = ty at h ⊢
  cases ty <;> first | rfl | (rcases h with h | h <;> cases h)
theorem jm_isR_spec {ty : FieldType} (h : jm_isR ty = true) : (∃ c, ty = .object c) ∨ ∃ t, ty = .array t := by
  cases ty <;> first | exact Or.inl ⟨_, rfl⟩ | exact Or.inr ⟨_, rfl⟩ | cases h
theorem jm_lookup_mem {α : Type} {a : Nat} {b : α} : ∀ (l : List (Nat × α)), l.lookup a = some b → (a, b) ∈ l
  | [], h => by cases h
  | (c, d) :: r, h => by
    simp only [List.lookup] at h
    split at h
    · rename_i hc
      cases h
      rw [eq_of_beq hc]
      exact List.mem_cons_self
    · exact List.mem_cons_of_mem _ (jm_lookup_mem r h)
set_option maxHeartbeats 4000000 in
/-- one instruction that passes the check -/
theorem jm_close {p : Program} {l : Launch} {e : Env} {R : Room} {s : State} {m : MethodId} {args : Array Value} {below : List Frame} {meth : Method} {cd : Code} {G : jm_G} {J : jm_J} {Wg : List Cond} {M : jm_M} {pr : jm_Pr} {cn : Nat → String} {K : jm_K5} {oc mi ns zs : Nat} {ini : Bool} {Q : jm_Q} {E : Nat → List jm_V → jm_H → jm_Q → Prop}
    (hS : jg_Snd G J Wg M pr.2.2.1 pr.2.2.2.2.2.2.2 pr.2.2.2.2.2.1 pr.2.2.2.2.2.2.1 p l e E) (hg : ∀ w ∈ Wg, jm_goodW w = true) (hJ : jg_J J Wg) (h0 : jg_0 G) (hl0 : l.stackTraces = false) (hKok : ∀ q ∈ K, jm_kok cn J Wg M pr.2.2.1 pr.2.2.2.1 q) (hcn : cn oc = (M mi).1.cls) (hci : ini = true → (M mi).1.name = "<init>")
    (hcj : ∀ t q, 0 < t → J.1[t]? = some q → cn t = q.1) (hwI : Cond.arrayClass .int ∈ Wg) (hwL : Cond.arrayClass .long ∈ Wg)
    (hF : jg_Fr M pr.2.2.1 mi p s m meth cd) (hK : jg_K G J Wg s) (hRm : jg_Rm (pr.2.2.2.2.2.2.2 mi) R) (hcap : pr.2.2.2.2.2.1 ≤ R.cells + ns ∧ pr.2.2.2.2.2.2.1 ≤ R.slots + zs)
    (hT : ∀ pc, jg_T p l e R s m args below meth cd G J (pr.2.2.1 mi) ns zs Q (pr.2.1 mi) pc)
    {i : jm_In} {pc : Nat} {ls : jm_Ls} {st : List jm_V} {h : jm_H} {ins : Instr} (hd : decode (M mi).2.1 pc = .ok (ins, i.2.1)) (hc : jm_chk K J pr.2.2.2.2.1 oc (pr.2.2.1 mi) ini (M mi).2.2.1 pc ins i = true)
    (z : jm_step pr E mi (jg_P p l e R s m args below meth cd G J (pr.2.2.1 mi) ns zs Q) Q i pc ls st h) : jg_P p l e R s m args below meth cd G J (pr.2.2.1 mi) ns zs Q (pc, ls, st, h) := by
  obtain ⟨hx, hb, hml, hown, hr, hlk, hnm, htab⟩ := hF
  obtain ⟨op, n, x, y, k⟩ := i
  unfold jm_step at z
  unfold jm_chk at hc
  dsimp only at z hc hd
  split at z
  · exact jw_const hx hb hd hc z
  · exact jw_iload hx hb hd hc z
  · exact jw_aload hx hb hd hc z
  · simp only [Bool.and_eq_true, decide_eq_true_eq] at hc
    exact jw_istore hx hb hd hc.1 hc.2 z
  · simp only [Bool.and_eq_true, decide_eq_true_eq] at hc
    exact jw_astore hx hb hd hc.1 hc.2 z
  · simp only [Bool.and_eq_true, decide_eq_true_eq] at hc
    exact jw_iinc hx hb hd hc.1 hc.2 z
  · exact jw_bin hx hb hd hc z
  · exact jw_if hx hb hd hc z
  · exact jw_icmp hx hb hd hc z
  · simp only [Bool.and_eq_true, beq_iff_eq] at hc
    obtain ⟨rfl, hc⟩ := hc
    exact jw_goto hx hb hd hc z
  · exact jw_switch hx hb hd hc z
  · simp only [Bool.and_eq_true, beq_iff_eq, decide_eq_true_eq, Bool.or_eq_true, Bool.not_eq_true'] at hc
    obtain ⟨⟨rfl, hk0⟩, hty⟩ := hc
    obtain ⟨idx, rfl, hk⟩ := jc_gf_spec hk0
    rw [List.contains_iff_mem] at hk
    obtain ⟨q0, w, q1, q2, q3, q4⟩ := hKok _ hk
    rw [hcn] at q4
    exact jw_geti hx hb hK hJ hown q0 q1 q2 q3 q4 hty hd z
  · simp only [Bool.and_eq_true, beq_iff_eq, decide_eq_true_eq, Bool.or_eq_true, Bool.not_eq_true'] at hc
    obtain ⟨⟨rfl, hk0⟩, hty⟩ := hc
    obtain ⟨idx, rfl, hk⟩ := jc_gf_spec hk0
    rw [List.contains_iff_mem] at hk
    obtain ⟨q0, w, q1, q2, q3, q4⟩ := hKok _ hk
    rw [hcn] at q4
    exact jw_getr hx hb hK hJ hown q0 q1 q2 q3 q4 hty hd z
  · simp only [Bool.and_eq_true, beq_iff_eq, decide_eq_true_eq, Bool.or_eq_true, Bool.not_eq_true'] at hc
    obtain ⟨⟨⟨rfl, hk0⟩, hty⟩, hf⟩ := hc
    obtain ⟨idx, rfl, hk⟩ := jc_pf_spec hk0
    rw [List.contains_iff_mem] at hk
    obtain ⟨q0, w, q1, q2, q3, q4⟩ := hKok _ hk
    rw [hcn] at q4
    have hfin : (w.2.1 y).2.2.2 = false ∨ (w.1 = (M mi).1.cls ∧ meth.name = "<init>") := by
      rcases hf with hf | ⟨hf1, hf2⟩
      · left
        unfold jm_fin at hf
        rw [show J.1[x]? = some w from q1] at hf
        exact hf
      · right
        exact ⟨by rw [← hcj x w q0 q1, ← hf2]; exact hcn, by rw [hnm]; exact hci hf1⟩
    exact jw_puti hx hb hK hJ hown q0 q1 q2 q3 q4 hfin hty hd z
  · simp only [Bool.and_eq_true, beq_iff_eq, decide_eq_true_eq, Bool.or_eq_true, Bool.not_eq_true'] at hc
    obtain ⟨⟨⟨rfl, hk0⟩, hty⟩, hf⟩ := hc
    obtain ⟨idx, rfl, hk⟩ := jc_pf_spec hk0
    rw [List.contains_iff_mem] at hk
    obtain ⟨q0, w, q1, q2, q3, q4⟩ := hKok _ hk
    rw [hcn] at q4
    have hfin : (w.2.1 y).2.2.2 = false ∨ (w.1 = (M mi).1.cls ∧ meth.name = "<init>") := by
      rcases hf with hf | ⟨hf1, hf2⟩
      · left
        unfold jm_fin at hf
        rw [show J.1[x]? = some w from q1] at hf
        exact hf
      · right
        exact ⟨by rw [← hcj x w q0 q1, ← hf2]; exact hcn, by rw [hnm]; exact hci hf1⟩
    exact jw_putz hx hb hK hJ hown q0 q1 q2 q3 q4 hfin hty hd z
  · simp only [Bool.and_eq_true, beq_iff_eq, decide_eq_true_eq, Bool.or_eq_true, Bool.not_eq_true'] at hc
    obtain ⟨⟨⟨rfl, hk0⟩, hty⟩, hf⟩ := hc
    obtain ⟨idx, rfl, hk⟩ := jc_pf_spec hk0
    rw [List.contains_iff_mem] at hk
    obtain ⟨q0, w, q1, q2, q3, q4⟩ := hKok _ hk
    rw [hcn] at q4
    have hfin : (w.2.1 y).2.2.2 = false ∨ (w.1 = (M mi).1.cls ∧ meth.name = "<init>") := by
      rcases hf with hf | ⟨hf1, hf2⟩
      · left
        unfold jm_fin at hf
        rw [show J.1[x]? = some w from q1] at hf
        exact hf
      · right
        exact ⟨by rw [← hcj x w q0 q1, ← hf2]; exact hcn, by rw [hnm]; exact hci hf1⟩
    exact jw_putr hx hb hK hJ hown q0 q1 q2 q3 q4 hfin (jm_isR_spec hty) hd z
  · simp only [Bool.and_eq_true, beq_iff_eq, decide_eq_true_eq] at hc
    obtain ⟨rfl, rfl⟩ := hc
    exact jw_iald hx hb hK hd z
  · simp only [Bool.and_eq_true, beq_iff_eq, decide_eq_true_eq] at hc
    obtain ⟨rfl, rfl⟩ := hc
    exact jw_sald' hx hb hK hd z
  · simp only [Bool.and_eq_true, beq_iff_eq, decide_eq_true_eq] at hc
    obtain ⟨rfl, rfl⟩ := hc
    exact jw_iast hx hb hK hd z
  · simp only [Bool.and_eq_true, beq_iff_eq, decide_eq_true_eq] at hc
    obtain ⟨⟨⟨⟨rfl, rfl⟩, h1⟩, h2⟩, h3⟩ := hc
    cases hty : J.2.2.1 x with
    | none => rw [hty] at h3; cases h3
    | some ty => rw [hty] at h3; exact jw_aald hx hb hK hd h1 h2 hty h3 z
  · simp only [Bool.and_eq_true, beq_iff_eq, decide_eq_true_eq] at hc
    obtain ⟨⟨⟨⟨⟨⟨rfl, rfl⟩, h1⟩, h2⟩, h3⟩, h4⟩, h5⟩ := hc
    cases hq : J.1[y]? with
    | none => rw [hq] at h5; cases h5
    | some w =>
      rw [hq] at h5
      simp only [Option.any_some, decide_eq_true_eq] at h5
      exact jw_aast hx hb hK hd h1 h2 h3 h4 hq h5 z
  · simp only [Bool.and_eq_true, beq_iff_eq, decide_eq_true_eq, Bool.or_eq_true] at hc
    obtain ⟨⟨rfl, rfl⟩, h1⟩ := hc
    refine jw_alen hx hb hK hd ?_ z
    rcases h1 with h1 | ⟨⟨h1, h2⟩, h3⟩
    · exact Or.inl h1
    · exact Or.inr ⟨h1, h2, Option.isSome_iff_exists.mp h3⟩
  · simp only [Bool.and_eq_true, beq_iff_eq, decide_eq_true_eq] at hc
    obtain ⟨rfl, rfl⟩ := hc
    exact jw_slen hx hb hK hd z
  · simp only [Bool.and_eq_true, beq_iff_eq, decide_eq_true_eq, Bool.or_eq_true] at hc
    obtain ⟨rfl, hc⟩ := hc
    rcases hc with ⟨rfl, rfl⟩ | ⟨rfl, rfl⟩
    · exact jw_newa hx hb hK (ty := .int) (Or.inl ⟨rfl, rfl, hwI⟩) hcap.1 hcap.2 hd z
    · exact jw_newa hx hb hK (ty := .long) (Or.inr ⟨rfl, rfl, hwL⟩) hcap.1 hcap.2 hd z
  · simp only [Bool.and_eq_true, beq_iff_eq, decide_eq_true_eq, Bool.or_eq_true, Bool.not_eq_true'] at hc
    obtain ⟨rfl, hk0⟩ := hc
    obtain ⟨idx, rfl, hk⟩ := jc_an_spec hk0
    rw [List.contains_iff_mem] at hk
    obtain ⟨⟨q1, q2⟩, C, q3, q4⟩ := hKok _ hk
    rw [hcn] at q4
    exact jw_newq hx hb hK hown q1 q2 q3 q4 hcap.1 hcap.2 hd z
  · simp only [Bool.and_eq_true, beq_iff_eq, decide_eq_true_eq, Bool.or_eq_true, Bool.not_eq_true'] at hc
    obtain ⟨rfl, hk0⟩ := hc
    obtain ⟨idx, rfl, hk⟩ := jc_ma_spec hk0
    rw [List.contains_iff_mem] at hk
    obtain ⟨⟨q1, q2⟩, q3, q4⟩ := hKok _ hk
    rw [hcn] at q4
    exact jw_multi hx hb hK hown q1 q2 q3 q4 hcap.1 hcap.2 hd z
  · simp only [Bool.and_eq_true, beq_iff_eq, decide_eq_true_eq, Bool.or_eq_true, Bool.not_eq_true'] at hc
    obtain ⟨rfl, hk0⟩ := hc
    obtain ⟨idx, rfl, hk⟩ := jc_nw_spec hk0
    rw [List.contains_iff_mem] at hk
    obtain ⟨q0, w, q1, q2, q3, q4, q5, q6⟩ := hKok _ hk
    rw [hcn] at q3
    dsimp only at q2
    subst q2
    exact jw_new hx hb hK hJ hown q0 q1 q3 q4 q5 (fun k hk => jm_dflt G (q6 k hk)) hcap.1 hcap.2 hd z
  · simp only [Bool.and_eq_true, beq_iff_eq, decide_eq_true_eq] at hc
    obtain ⟨rfl, rfl⟩ := hc
    exact jw_dup hx hb hd z
  · simp only [Bool.and_eq_true, beq_iff_eq, decide_eq_true_eq] at hc
    obtain ⟨rfl, rfl⟩ := hc
    exact jw_dup2 hx hb hd z
  · simp only [Bool.and_eq_true, beq_iff_eq, decide_eq_true_eq] at hc
    obtain ⟨rfl, rfl⟩ := hc
    exact jw_pop hx hb hd z
  · simp only [Bool.and_eq_true, beq_iff_eq] at hc
    obtain ⟨rfl, hc⟩ := hc
    simp only [Bool.or_eq_true] at hc
    rcases hc with (hc | hc) | hc
    · obtain ⟨idx, rfl, hk⟩ := jc_iv_spec hc
      rw [List.contains_iff_mem] at hk
      obtain ⟨q0, ⟨w, q1, q2, q3⟩, q4, q5, q6, q7, q8, q9⟩ := hKok _ hk
      rw [hcn] at q5
      exact jw_callV hS hg hx hb hml hK hJ hRm hcap hown q0 q1 q2 q4 q5 q6 q3 q7 q8 q9 hd (hT pc) z
    · obtain ⟨idx, rfl, hk⟩ := jc_is_spec hc
      rw [List.contains_iff_mem] at hk
      obtain ⟨q0, q4, q5, q6, q6', q7, q8, q9⟩ := hKok _ hk
      rw [hcn] at q5
      have z' := z
      rw [show pr.2.2.2.1 x = 0 from q0] at z'
      exact jw_callS hS hg hx hb hml hK hRm hcap hown q4 q5 q6 q6' q7 q8 q9 hd (hT pc) z'
    · obtain ⟨idx, rfl, hk⟩ := jc_ip_spec hc
      rw [List.contains_iff_mem] at hk
      obtain ⟨⟨q0, q1⟩, q2, q3, q4, q5, q6, q7, q8, q9⟩ := hKok _ hk
      rw [hcn] at q5
      exact jw_callI hS hg hx hb hml hK hRm hcap hown q0 q1 q2 q3 q4 q5 q6 q7 q8 q9 hd (hT pc) z
  · simp only [Bool.and_eq_true, beq_iff_eq, decide_eq_true_eq, Bool.or_eq_true, Bool.not_eq_true'] at hc
    obtain ⟨rfl, hk0⟩ := hc
    obtain ⟨idx, rfl, hk⟩ := jc_ip_spec hk0
    rw [List.contains_iff_mem] at hk
    obtain ⟨q1, q2, q3⟩ := hKok _ hk
    rw [hcn] at q1
    exact jw_oinit hx hb hml hK hown q1 q2 q3 hRm.1 hRm.2 hd z
  · simp only [Bool.and_eq_true, beq_iff_eq, decide_eq_true_eq, Bool.or_eq_true, Bool.not_eq_true'] at hc
    obtain ⟨rfl, hk0⟩ := hc
    obtain ⟨idx, rfl, hk⟩ := jc_nw_spec hk0
    rw [List.contains_iff_mem] at hk
    obtain ⟨nm, q1, q2, q3, q4, q5, q6⟩ := hKok _ hk
    rw [hcn] at q4
    exact jw_xnew hx hb hK hown q2 q3 q1 q4 q5 q6 hcap.1 hcap.2 hd z
  · simp only [Bool.and_eq_true, beq_iff_eq, decide_eq_true_eq, Bool.or_eq_true, Bool.not_eq_true'] at hc
    obtain ⟨rfl, hk0⟩ := hc
    obtain ⟨idx, rfl, hk⟩ := jc_ip_spec hk0
    rw [List.contains_iff_mem] at hk
    obtain ⟨cls, names, q1, q2, q3, q4, q5, q6, q7⟩ := hKok _ hk
    rw [hcn] at q7
    exact jw_xinit hx hb hml h0 hl0 hK hown q2 q3 q1 q4 q5 q6 q7 hRm.1 hRm.2 hd z
  · simp only [Bool.and_eq_true, beq_iff_eq, decide_eq_true_eq] at hc
    obtain ⟨rfl, rfl⟩ := hc
    exact jw_athrow hx hb hd (hT pc) z
  · simp only [Bool.and_eq_true, beq_iff_eq, decide_eq_true_eq] at hc
    obtain ⟨⟨rfl, rfl⟩, h1⟩ := hc
    exact jw_iret hx hb (hr.trans h1) hlk hd z
  · simp only [Bool.and_eq_true, beq_iff_eq, decide_eq_true_eq] at hc
    obtain ⟨⟨rfl, rfl⟩, h1⟩ := hc
    exact jw_zret hx hb (hr.trans h1) hlk hd z
  · simp only [Bool.and_eq_true, beq_iff_eq, decide_eq_true_eq] at hc
    obtain ⟨⟨rfl, rfl⟩, h1⟩ := hc
    exact jw_vret hx hb (hr.trans h1) hlk hd z
  · cases hc
  · simp only [Bool.and_eq_true, beq_iff_eq, decide_eq_true_eq] at hc
    obtain ⟨rfl, rfl⟩ := hc
    exact jw_i2l hx hb hd z
  · simp only [Bool.and_eq_true, beq_iff_eq, decide_eq_true_eq] at hc
    obtain ⟨rfl, rfl⟩ := hc
    exact jw_lald hx hb hK hd z
  · simp only [Bool.and_eq_true, beq_iff_eq, decide_eq_true_eq] at hc
    obtain ⟨rfl, rfl⟩ := hc
    exact jw_last hx hb hK hd z
  · simp only [Bool.and_eq_true, beq_iff_eq, decide_eq_true_eq] at hc
    obtain ⟨rfl, rfl⟩ := hc
    exact jw_lcmp hx hb hd z
  · simp only [Bool.and_eq_true, beq_iff_eq, decide_eq_true_eq, Bool.or_eq_true, Bool.not_eq_true'] at hc
    obtain ⟨rfl, hk0⟩ := hc
    obtain ⟨idx, rfl, hk⟩ := jc_is_spec hk0
    rw [List.contains_iff_mem] at hk
    obtain ⟨q1, q2, q3, q4⟩ := hKok _ hk
    rw [hcn] at q1
    exact jw_max hx hb hml hK hown q1 q2 q3 q4 hRm.1 hRm.2 hd z
  · cases hc
  · simp only [Bool.and_eq_true, beq_iff_eq, decide_eq_true_eq, Bool.or_eq_true, Bool.not_eq_true'] at hc
    obtain ⟨rfl, hk0⟩ := hc
    obtain ⟨idx, rfl, hk⟩ := jc_is_spec hk0
    rw [List.contains_iff_mem] at hk
    obtain ⟨q1, q2, q3, q4⟩ := hKok _ hk
    rw [hcn] at q1
    exact jw_copy hx hb hml hK hown q1 q2 q3 q4 hRm.1 hRm.2 hd z
  · simp only [Bool.and_eq_true, beq_iff_eq, decide_eq_true_eq] at hc
    obtain ⟨rfl, rfl⟩ := hc
    exact jw_irem hx hb hd z
  · simp only [Bool.and_eq_true, beq_iff_eq, decide_eq_true_eq] at hc
    obtain ⟨rfl, rfl⟩ := hc
    exact jw_dupx1 hx hb hd z
  · exact z.elim
/-- **the abstract machine is sound** -/
theorem jm_sound {p : Program} {l : Launch} {e : Env} {G : jm_G} {J : jm_J} {Wg : List Cond} {M : jm_M} {pr : jm_Pr} {cn : Nat → String} {K : jm_K5} {oc : Nat → Nat} {ini : Nat → Bool} {ct : Nat → Nat → Nat → Bool}
    (hg : ∀ w ∈ Wg, jm_goodW w = true) (hJ : jg_J J Wg) (h0 : jg_0 G) (hl0 : l.stackTraces = false) (hKok : ∀ q ∈ K, jm_kok cn J Wg M pr.2.2.1 pr.2.2.2.1 q) (hcn : ∀ mi, cn (oc mi) = (M mi).1.cls) (hci : ∀ mi, ini mi = true → (M mi).1.name = "<init>")
    (hcj : ∀ t q, 0 < t → J.1[t]? = some q → cn t = q.1) (hwI : Cond.arrayClass .int ∈ Wg) (hwL : Cond.arrayClass .long ∈ Wg)
    (hcode : ∀ mi q, q ∈ pr.1 mi → ∃ ins, decode (M mi).2.1 q.1 = .ok (ins, q.2.2.1) ∧ jm_chk K J pr.2.2.2.2.1 (oc mi) (pr.2.2.1 mi) (ini mi) (M mi).2.2.1 q.1 ins q.2 = true)
    (hhd : ∀ mi, pr.2.1 mi = jm_hf (ct mi) (M mi).2.2.2)
    (hC : ∀ mi, ∀ q ∈ (M mi).2.2.2, q.2.2.2 ≠ 0 ∧ ∃ C, Cond.classLink (M mi).1.cls q.2.2.2 C ∈ Wg ∧ ∀ t nm, J.2.2.2 t = some nm → ∃ c c', G.2.2.2.2.2.2.2.2.vm.findClass nm = some c ∧ G.2.2.2.2.2.2.2.2.vm.findClass C = some c' ∧ G.2.2.2.2.2.2.2.2.vm.assignable c c' = ct mi q.2.2.2 (t + 1)) :
    ∀ d, jg_Snd G J Wg M pr.2.2.1 pr.2.2.2.2.2.2.2 pr.2.2.2.2.2.1 pr.2.2.2.2.2.2.1 p l e (jm_E pr d)
  | 0 => fun _ _ _ _ hE => hE.elim
  | d + 1 => by
    have hS := jm_sound (p := p) (l := l) (e := e) (pr := pr) (cn := cn) (K := K) (oc := oc) (ini := ini) (ct := ct) hg hJ h0 hl0 hKok hcn hci hcj hwI hwL hcode hhd hC d
    intro mi as h Q hE hc1 R s m below meth cd hF hK hRm hcap H hR hsH
    obtain ⟨hlen, hP⟩ := hE
    obtain ⟨arr, he, hLs⟩ := jg_Ls.entry (G := G) (n := pr.2.2.1 mi) hlen hc1 m
    rw [he]
    have key := hP (jg_P p l e R s m (as.map (jg_mv G)).toArray below meth cd G J (pr.2.2.1 mi) h.1 h.2.1 Q) (by
      rintro ⟨pc, ls, st, h'⟩ hc
      unfold jm_S at hc
      split at hc
      · rename_i i hi
        obtain ⟨ins, hd, hchk⟩ := hcode mi _ (jm_lookup_mem _ hi)
        exact jm_close (cn := cn) (oc := oc mi) (ini := ini mi) hS hg hJ h0 hl0 hKok (hcn mi) (hci mi) hcj hwI hwL hF hK hRm hcap (fun pc => by rw [hhd mi]; exact jw_T hF hK (hC mi)) hd hchk hc
      · exact hc.elim)
    have w := key H [] arr hR ⟨Nat.le_refl _, Nat.le_refl _, by show h.1 ≤ R.cells + h.1; omega, by show h.2.1 ≤ R.slots + h.2.1; omega⟩ (fun q hq => by cases hq) hLs
    have w' : W p l e R s m (as.map (jg_mv G)).toArray below meth cd H [] (h.1 - h.1) (h.2.1 - h.2.1) (jg_Z G J R s below h.1 h.2.1 Q) (F0 m 0 arr []) := w
    rw [Nat.sub_self, Nat.sub_self] at w'
    exact w'
end
section
/-! The checks as programs. -/
def jm_cb (K : jm_K5) (J : jm_J) (sw : Nat → List (Int32 × Nat) × Nat) (bs : ByteArray) (oc nL : Nat) (ini : Bool) (ret : Option FieldType) (q : Nat × jm_In) : Bool := match decode bs q.1 with
  | .ok r => r.2 == q.2.2.1 && jm_chk K J sw oc nL ini ret q.1 r.1 q.2
  | .error _ => false
theorem jm_cb_spec {K : jm_K5} {J : jm_J} {sw : Nat → List (Int32 × Nat) × Nat} {bs : ByteArray} {oc nL : Nat} {ini : Bool} {ret : Option FieldType} {q : Nat × jm_In} (h : jm_cb K J sw bs oc nL ini ret q = true) : ∃ ins, decode bs q.1 = .ok (ins, q.2.2.1) ∧ jm_chk K J sw oc nL ini ret q.1 ins q.2 = true := by
  unfold jm_cb at h
  split at h
  · rename_i r hr
    simp only [Bool.and_eq_true, beq_iff_eq] at h
    refine ⟨r.1, ?_, h.2⟩
    rw [hr, ← h.1]
  · cases h
def jg_cwb (M : jm_M) (nl : Nat → Nat) (inW : Cond → Bool) (x : Nat) : Bool := ((M x).2.2.2.isEmpty && inW (.code (M x).1 (M x).2.1 (nl x) (M x).2.2.1)) || inW (.codeWith (M x).1 (M x).2.1 (nl x) (M x).2.2.1 (M x).2.2.2)
theorem jg_cwb_spec {M : jm_M} {nl : Nat → Nat} {inW : Cond → Bool} {Wg : List Cond} (hW : ∀ w, inW w = true → w ∈ Wg) {x : Nat} (h : jg_cwb M nl inW x = true) : jg_cw M nl Wg x := by
  unfold jg_cwb at h
  simp only [Bool.or_eq_true, Bool.and_eq_true, List.isEmpty_iff] at h
  rcases h with ⟨h1, h2⟩ | h
  · exact Or.inl ⟨h1, hW _ h2⟩
  · exact Or.inr (hW _ h)
def jm_okc (y : MethodName) : Bool := decide (y.cls ≠ "java/lang/invoke/MethodHandle") && decide (y.cls ≠ "java/lang/invoke/VarHandle") && plainFor y
/-- names above an exception, up to Throwable's -/
def jm_up2 : List String := ["java/lang/RuntimeException", "java/lang/Exception"]
def jm_kb (cn : Nat → String) (J : jm_J) (inW inS : Cond → Bool) (M : jm_M) (nl rc : Nat → Nat) (q : Nat × Nat × Nat × Nat × Nat) : Bool := match q.2.2.1 with
  | 1 => decide (0 < q.2.2.2.1) && (J.1[q.2.2.2.1]?).any (fun w => decide (q.2.2.2.2 < w.2.2) && decide ((w.2.1 q.2.2.2.2).1 = w.1) && inW (.fieldLink (cn q.1) q.2.1 w.1 (w.2.1 q.2.2.2.2).2.1 (w.2.1 q.2.2.2.2).2.2.1))
  | 2 => decide (0 < rc q.2.2.2.1) && (J.1[rc q.2.2.2.1]?).any (fun w => decide (w.1 = (M q.2.2.2.1).1.cls) && inW (.selects w.1 (M q.2.2.2.1).1 (M q.2.2.2.1).1)) && jg_cwb M nl inW q.2.2.2.1 && inW (.methodLink (cn q.1) q.2.1 (M q.2.2.2.1).1) && inW (.instanceMethod (M q.2.2.2.1).1) && jm_okc (M q.2.2.2.1).1 && decide ((parseMethodDescriptor (M q.2.2.2.1).1.desc).map (fun d => d.parameters.length + 1) = some q.2.2.2.2)
  | 3 => decide (rc q.2.2.2.1 = 0) && jg_cwb M nl inW q.2.2.2.1 && inW (.methodLink (cn q.1) q.2.1 (M q.2.2.2.1).1) && inW (.static (M q.2.2.2.1).1) && inW (.initialized (M q.2.2.2.1).1.cls) && jm_okc (M q.2.2.2.1).1 && decide ((parseMethodDescriptor (M q.2.2.2.1).1.desc).map (fun d => d.parameters.length) = some q.2.2.2.2)
  | 4 => decide (0 < rc q.2.2.2.1) && decide (rc q.2.2.2.1 < 60) && decide ((M q.2.2.2.1).1.name = "<init>") && inW (.code (M q.2.2.2.1).1 (M q.2.2.2.1).2.1 (nl q.2.2.2.1) none) && jg_cwb M nl inW q.2.2.2.1 && inW (.methodLink (cn q.1) q.2.1 (M q.2.2.2.1).1) && inW (.instanceMethod (M q.2.2.2.1).1) && jm_okc (M q.2.2.2.1).1 && decide ((parseMethodDescriptor (M q.2.2.2.1).1.desc).map (fun d => d.parameters.length + 1) = some q.2.2.2.2)
  | 5 => decide (0 < q.2.2.2.1) && (J.1[q.2.2.2.1]?).any (fun w => decide (q.2.2.2.2 = w.2.2) && inW (.classLink (cn q.1) q.2.1 w.1) && inW (.instantiable w.1 w.2.2) && inW (.initialized w.1) && (List.range w.2.2).all (fun k => jm_isI (J.2.1 q.2.2.2.1 k) || jm_isR (J.2.1 q.2.2.2.1 k)))
  | 6 => decide (60 ≤ q.2.2.2.1) && decide (q.2.2.2.1 < 99) && (match J.2.2.1 q.2.2.2.1 with | some (.object C) => inW (.classLink (cn q.1) q.2.1 C) | _ => false)
  | 7 => (J.2.2.2 q.2.2.2.1).any (fun nm => decide (200 ≤ q.2.2.2.1) && decide (q.2.2.2.1 % 2 = 0) && inW (.classLink (cn q.1) q.2.1 nm) && inW (.instantiable nm 6) && inW (.initialized nm))
  | 8 => (J.2.2.2 q.2.2.2.1).any (fun nm => decide (200 ≤ q.2.2.2.1) && decide (q.2.2.2.1 % 2 = 0) && Bundle.fit nm && (Bundle.ownAtoms0 (cn q.1) q.2.1 nm jm_up2).all (fun a => inW a || inS a))
  | 9 => inW (.methodLink (cn q.1) q.2.1 objectInit) && inW (.instanceMethod objectInit) && inW (.code objectInit ⟨#[0xb1]⟩ 1 none)
  | 10 => inW (.methodLink (cn q.1) q.2.1 Lib.Math.max.name) && inW (.static Lib.Math.max.name) && inW (.initialized "java/lang/Math") && inW (.code Lib.Math.max.name Lib.Math.max.code 2 (some .int))
  | 12 => inW (.methodLink (cn q.1) q.2.1 arraycopyName) && inW (.native arraycopyName) && inW (.static arraycopyName) && inW (.initialized "java/lang/System")
  | 13 => decide (60 ≤ q.2.2.2.1) && decide (q.2.2.2.1 < 99) && decide (J.2.2.1 q.2.2.2.1 = some (.array .int)) && inW (.classLink (cn q.1) q.2.1 "[[I")
  | _ => true
theorem jm_up2_fit : ∀ n ∈ jm_up2, Bundle.fit n = true := by decide +kernel
theorem jm_okc_spec {y : MethodName} (h : jm_okc y = true) : (y.cls ≠ "java/lang/invoke/MethodHandle" ∧ y.cls ≠ "java/lang/invoke/VarHandle") ∧ plainFor y = true := by
  unfold jm_okc at h
  simp only [Bool.and_eq_true, decide_eq_true_eq] at h
  exact h
theorem jm_kb_spec {cn : Nat → String} {J : jm_J} {inW inS : Cond → Bool} {M : jm_M} {nl rc : Nat → Nat} {Wg : List Cond} (hW : ∀ w, inW w = true → w ∈ Wg) (hS : ∀ w, inS w = true → w ∈ jx_st) {q : Nat × Nat × Nat × Nat × Nat} (h : jm_kb cn J inW inS M nl rc q = true) : jm_kok cn J Wg M nl rc q := by
  obtain ⟨o, idx, code, x, y⟩ := q
  unfold jm_kb at h
  unfold jm_kok
  dsimp only at h ⊢
  split at h
  · simp only [Bool.and_eq_true, decide_eq_true_eq, Option.any_eq_true] at h
    obtain ⟨h0, w, h1, ⟨h2, h3⟩, h4⟩ := h
    exact ⟨h0, w, h1, h2, h3, hW _ h4⟩
  · simp only [Bool.and_eq_true, decide_eq_true_eq, Option.any_eq_true] at h
    obtain ⟨⟨⟨⟨⟨⟨h0, w, h1, h2, h3⟩, h4⟩, h5⟩, h6⟩, h7⟩, h8⟩ := h
    exact ⟨h0, ⟨w, h1, h2, hW _ h3⟩, jg_cwb_spec hW h4, hW _ h5, hW _ h6, (jm_okc_spec h7).1, (jm_okc_spec h7).2, h8⟩
  · simp only [Bool.and_eq_true, decide_eq_true_eq] at h
    obtain ⟨⟨⟨⟨⟨⟨h0, h4⟩, h5⟩, h6⟩, h6'⟩, h7⟩, h8⟩ := h
    exact ⟨h0, jg_cwb_spec hW h4, hW _ h5, hW _ h6, hW _ h6', (jm_okc_spec h7).1, (jm_okc_spec h7).2, h8⟩
  · simp only [Bool.and_eq_true, decide_eq_true_eq] at h
    obtain ⟨⟨⟨⟨⟨⟨⟨⟨h0, h0'⟩, h1⟩, h2⟩, h4⟩, h5⟩, h6⟩, h7⟩, h8⟩ := h
    exact ⟨⟨h0, h0'⟩, h1, hW _ h2, jg_cwb_spec hW h4, hW _ h5, hW _ h6, (jm_okc_spec h7).1, (jm_okc_spec h7).2, h8⟩
  · simp only [Bool.and_eq_true, decide_eq_true_eq, Option.any_eq_true, List.all_eq_true, Bool.or_eq_true, List.mem_range] at h
    obtain ⟨h0, w, h1, ⟨⟨⟨h2, h3⟩, h4⟩, h5⟩, h6⟩ := h
    exact ⟨h0, w, h1, h2, hW _ h3, hW _ h4, hW _ h5, h6⟩
  · simp only [Bool.and_eq_true, decide_eq_true_eq] at h
    obtain ⟨⟨h0, h1⟩, h2⟩ := h
    refine ⟨⟨h0, h1⟩, ?_⟩
    split at h2
    · rename_i C hC
      exact ⟨C, hC, hW _ h2⟩
    · cases h2
  · simp only [Bool.and_eq_true, decide_eq_true_eq, Option.any_eq_true] at h
    obtain ⟨nm, h1, ⟨⟨⟨h2, h3⟩, h4⟩, h5⟩, h6⟩ := h
    exact ⟨nm, h1, h2, h3, hW _ h4, hW _ h5, hW _ h6⟩
  · simp only [Bool.and_eq_true, decide_eq_true_eq, Option.any_eq_true, List.all_eq_true, Bool.or_eq_true] at h
    obtain ⟨nm, h1, ⟨⟨h2, h3⟩, h4⟩, h5⟩ := h
    exact ⟨nm, jm_up2, h1, h2, h3, h4, jm_up2_fit, rfl, fun a ha => (h5 a ha).imp (hW a) (hS a)⟩
  · simp only [Bool.and_eq_true] at h
    exact ⟨hW _ h.1.1, hW _ h.1.2, hW _ h.2⟩
  · simp only [Bool.and_eq_true] at h
    exact ⟨hW _ h.1.1.1, hW _ h.1.1.2, hW _ h.1.2, hW _ h.2⟩
  · simp only [Bool.and_eq_true] at h
    exact ⟨hW _ h.1.1.1, hW _ h.1.1.2, hW _ h.1.2, hW _ h.2⟩
  · simp only [Bool.and_eq_true, decide_eq_true_eq] at h
    exact ⟨⟨h.1.1.1, h.1.1.2⟩, h.1.2, hW _ h.2⟩
  · rename_i n1 n2 n3 n4 n5 n6 n7 n8 n9 n10 n11 n12
    split
    all_goals first | exact absurd rfl (by assumption) | trivial
/-- all methods' codes pass -/
def jm_allc (f : Nat → (Nat × jm_In) → Bool) : Nat → List (List (Nat × jm_In)) → Prop
  | _, [] => True
  | a, l :: r => l.all (f a) = true ∧ jm_allc f (a + 1) r
theorem jm_allc_spec {f : Nat → (Nat × jm_In) → Bool} : ∀ (L : List (List (Nat × jm_In))) (a : Nat), jm_allc f a L → ∀ i, ∀ q ∈ L.getD i [], f (a + i) q = true
  | [], _, _, i, q, hq => by simp at hq
  | l :: r, a, h, 0, q, hq => by
    have := List.all_eq_true.mp h.1 q (by simpa using hq)
    simpa using this
  | l :: r, a, h, i + 1, q, hq => by
    have := jm_allc_spec r (a + 1) h.2 i q (by simpa using hq)
    rwa [show a + (i + 1) = a + 1 + i by omega]
end
section
theorem jm_end : True := trivial
end
