/-! An abstract machine: values of three kinds, a heap of numbered objects, code whose links are already resolved.
A run is told by the least predicate that the steps close: no fuel, no inductive type. -/
abbrev jm_V : Type := Int32 ⊕ (Nat ⊕ Int64)
/-- kind, length, numbers, references, longs -/
abbrev jm_O : Type := Nat × Nat × (Nat → Int32) × (Nat → Nat) × (Nat → Int64)
/-- the next address, the slots that are used, the objects -/
abbrev jm_H : Type := Nat × Nat × (Nat → jm_O)
abbrev jm_Ls : Type := List (Option jm_V)
/-- place in the code, locals, stack, heap -/
abbrev jm_C : Type := Nat × jm_Ls × List jm_V × jm_H
/-- returned, or threw the object at that address -/
abbrev jm_R : Type := Option jm_V ⊕ Nat
/-- operation, length, two small numbers, a constant -/
abbrev jm_In : Type := Nat × Nat × Nat × Nat × Int32
abbrev jm_Q : Type := jm_R → jm_H → Prop
/-- code of the methods, handlers (method, place, kind of the thrown object), locals, kind of the receiver (0: static), switches, most addresses, most slots, frames and words that a method needs above it -/
abbrev jm_Pr : Type := (Nat → List (Nat × jm_In)) × (Nat → Nat → Nat → Option Nat) × (Nat → Nat) × (Nat → Nat) × (Nat → List (Int32 × Nat) × Nat) × Nat × Nat × (Nat → Nat × Nat)
def jm_T (h : jm_H) (a : Nat) : Nat := (h.2.2 a).1
def jm_N (h : jm_H) (a : Nat) : Nat := (h.2.2 a).2.1
def jm_I (h : jm_H) (a k : Nat) : Int32 := (h.2.2 a).2.2.1 k
def jm_F (h : jm_H) (a k : Nat) : Nat := (h.2.2 a).2.2.2.1 k
def jm_L (h : jm_H) (a k : Nat) : Int64 := (h.2.2 a).2.2.2.2 k
def jm_up {α : Type} (f : Nat → α) (k : Nat) (x : α) : Nat → α := fun j => if j = k then x else f j
theorem jm_up_at {α : Type} (f : Nat → α) (k : Nat) (x : α) (j : Nat) : jm_up f k x j = if j = k then x else f j := rfl
theorem jm_up_self {α : Type} (f : Nat → α) (k : Nat) (x : α) : jm_up f k x k = x := if_pos rfl
theorem jm_up_ne {α : Type} (f : Nat → α) {k j : Nat} (x : α) (h : j ≠ k) : jm_up f k x j = f j := if_neg h
def jm_sI (h : jm_H) (a k : Nat) (x : Int32) : jm_H := (h.1, h.2.1, jm_up h.2.2 a ((h.2.2 a).1, (h.2.2 a).2.1, jm_up (h.2.2 a).2.2.1 k x, (h.2.2 a).2.2.2))
def jm_sF (h : jm_H) (a k x : Nat) : jm_H := (h.1, h.2.1, jm_up h.2.2 a ((h.2.2 a).1, (h.2.2 a).2.1, (h.2.2 a).2.2.1, jm_up (h.2.2 a).2.2.2.1 k x, (h.2.2 a).2.2.2.2))
def jm_sL (h : jm_H) (a k : Nat) (x : Int64) : jm_H := (h.1, h.2.1, jm_up h.2.2 a ((h.2.2 a).1, (h.2.2 a).2.1, (h.2.2 a).2.2.1, (h.2.2 a).2.2.2.1, jm_up (h.2.2 a).2.2.2.2 k x))
def jm_sT (h : jm_H) (a t : Nat) : jm_H := (h.1, h.2.1, jm_up h.2.2 a (t, (h.2.2 a).2))
/-- all numbers of an object anew -/
def jm_sA (h : jm_H) (a : Nat) (f : Nat → Int32) : jm_H := (h.1, h.2.1, jm_up h.2.2 a ((h.2.2 a).1, (h.2.2 a).2.1, f, (h.2.2 a).2.2.2))
def jm_new (h : jm_H) (t n z : Nat) : jm_H := (h.1 + 1, h.2.1 + z, jm_up h.2.2 h.1 (t, n, fun _ => 0, fun _ => 0, fun _ => 0))
/-- an array of n arrays of k numbers -/
def jm_mul (h : jm_H) (t n k : Nat) : jm_H := (h.1 + 1 + n, h.2.1 + n + n * k, fun a => if a = h.1 then (t, n, fun _ => 0, fun j => if j < n then h.1 + 1 + j else 0, fun _ => 0) else if h.1 < a ∧ a < h.1 + 1 + n then (100, k, fun _ => 0, fun _ => 0, fun _ => 0) else h.2.2 a)
def jm_cpy (f g : Nat → Int32) (a b n : Nat) : Nat → Int32 := fun j => if b ≤ j ∧ j < b + n then f (a + (j - b)) else g j
def jm_ix (j : Int32) : Nat := j.toInt.toNat
/-- an index within an array -/
def jm_in (j : Int32) (n : Nat) : Prop := 0 ≤ j.toInt ∧ j.toInt < (n : Int)
def jm_bin (x : Nat) (a b : Int32) : Int32 := match x with
  | 0 => a + b
  | 1 => a - b
  | 2 => a * b
  | 3 => a &&& b
  | 4 => a ||| b
  | 5 => a ^^^ b
  | 6 => a <<< (b &&& 31)
  | 7 => a >>> (b &&& 31)
  | _ => 0
def jm_cmp (x : Nat) (a b : Int32) : Prop := match x with
  | 0 => a = b
  | 1 => ¬ a = b
  | 2 => a < b
  | 3 => b ≤ a
  | 4 => b < a
  | 5 => a ≤ b
  | _ => False
def jm_sl : List (Int32 × Nat) → Nat → Int32 → Nat
  | [], d, _ => d
  | q :: r, d, x => if x = q.1 then q.2 else jm_sl r d x
def jm_sel (t : List (Int32 × Nat) × Nat) (x : Int32) : Nat := jm_sl t.1 t.2 x
/-- words of an operand stack -/
def jm_cs : List jm_V → Nat
  | [] => 0
  | .inl _ :: r => 1 + jm_cs r
  | .inr (.inl _) :: r => 1 + jm_cs r
  | .inr (.inr _) :: r => 2 + jm_cs r
section JO
variable (P : jm_C → Prop) (Q : jm_Q) (q : Nat) (ls : jm_Ls) (st : List jm_V) (h : jm_H)
def jo_iload (x : Nat) : Prop := match ls[x]? with
  | some (some (.inl v)) => P (q, ls, .inl v :: st, h)
  | _ => False
def jo_aload (x : Nat) : Prop := match ls[x]? with
  | some (some (.inr (.inl v))) => P (q, ls, .inr (.inl v) :: st, h)
  | _ => False
def jo_istore (x : Nat) : Prop := match st with
  | .inl v :: st => P (q, ls.set x (some (.inl v)), st, h)
  | _ => False
def jo_astore (x : Nat) : Prop := match st with
  | .inr (.inl v) :: st => P (q, ls.set x (some (.inr (.inl v))), st, h)
  | _ => False
def jo_iinc (x : Nat) (k : Int32) : Prop := match ls[x]? with
  | some (some (.inl v)) => P (q, ls.set x (some (.inl (v + k))), st, h)
  | _ => False
def jo_bin (x : Nat) : Prop := match st with
  | .inl b :: .inl a :: st => P (q, ls, .inl (jm_bin x a b) :: st, h)
  | _ => False
def jo_if (x y : Nat) : Prop := match st with
  | .inl a :: st => (jm_cmp x a 0 → P (y, ls, st, h)) ∧ (¬ jm_cmp x a 0 → P (q, ls, st, h))
  | _ => False
def jo_icmp (x y : Nat) : Prop := match st with
  | .inl b :: .inl a :: st => (jm_cmp x a b → P (y, ls, st, h)) ∧ (¬ jm_cmp x a b → P (q, ls, st, h))
  | _ => False
def jo_switch (t : List (Int32 × Nat) × Nat) : Prop := match st with
  | .inl a :: st => P (jm_sel t a, ls, st, h)
  | _ => False
def jo_geti (x y : Nat) : Prop := match st with
  | .inr (.inl a) :: st => jm_T h a = x ∧ P (q, ls, .inl (jm_I h a y) :: st, h)
  | _ => False
def jo_getr (x y : Nat) : Prop := match st with
  | .inr (.inl a) :: st => jm_T h a = x ∧ P (q, ls, .inr (.inl (jm_F h a y)) :: st, h)
  | _ => False
def jo_puti (x y : Nat) : Prop := match st with
  | .inl v :: .inr (.inl a) :: st => jm_T h a = x ∧ P (q, ls, st, jm_sI h a y v)
  | _ => False
def jo_putz (x y : Nat) : Prop := match st with
  | .inl v :: .inr (.inl a) :: st => jm_T h a = x ∧ (v = 0 ∨ v = 1) ∧ P (q, ls, st, jm_sI h a y v)
  | _ => False
def jo_putr (x y : Nat) : Prop := match st with
  | .inr (.inl v) :: .inr (.inl a) :: st => jm_T h a = x ∧ P (q, ls, st, jm_sF h a y v)
  | _ => False
def jo_iald (t : Nat) : Prop := match st with
  | .inl j :: .inr (.inl a) :: st => jm_T h a = t ∧ jm_in j (jm_N h a) ∧ P (q, ls, .inl (jm_I h a (jm_ix j)) :: st, h)
  | _ => False
def jo_iast : Prop := match st with
  | .inl v :: .inl j :: .inr (.inl a) :: st => jm_T h a = 100 ∧ jm_in j (jm_N h a) ∧ P (q, ls, st, jm_sI h a (jm_ix j) v)
  | _ => False
def jo_aald (t : Nat) : Prop := match st with
  | .inl j :: .inr (.inl a) :: st => jm_T h a = t ∧ jm_in j (jm_N h a) ∧ P (q, ls, .inr (.inl (jm_F h a (jm_ix j))) :: st, h)
  | _ => False
def jo_aast (t y : Nat) : Prop := match st with
  | .inr (.inl v) :: .inl j :: .inr (.inl a) :: st => jm_T h a = t ∧ jm_in j (jm_N h a) ∧ jm_T h v = y ∧ P (q, ls, st, jm_sF h a (jm_ix j) v)
  | _ => False
def jo_alen (t : Nat) : Prop := match st with
  | .inr (.inl a) :: st => jm_T h a = t ∧ P (q, ls, .inl (Int32.ofNat (jm_N h a)) :: st, h)
  | _ => False
/-- an array of the kind t -/
def jo_newa (t c z : Nat) : Prop := match st with
  | .inl k :: st => 0 ≤ k.toInt ∧ k.toInt ≤ 100000 ∧ h.1 + 1 ≤ c ∧ h.2.1 + jm_ix k ≤ z ∧ P (q, ls, .inr (.inl h.1) :: st, jm_new h t (jm_ix k) (jm_ix k))
  | _ => False
def jo_multi (t c z : Nat) : Prop := match st with
  | .inl k :: .inl n :: st => n = 13 ∧ k = 13 ∧ h.1 + 14 ≤ c ∧ h.2.1 + 182 ≤ z ∧ P (q, ls, .inr (.inl h.1) :: st, jm_mul h t 13 13)
  | _ => False
def jo_new (t n c z : Nat) : Prop := h.1 + 1 ≤ c ∧ h.2.1 + n ≤ z ∧ P (q, ls, .inr (.inl h.1) :: st, jm_new h t 0 n)
def jo_dup : Prop := match st with
  | .inl v :: st => P (q, ls, .inl v :: .inl v :: st, h)
  | .inr (.inl v) :: st => P (q, ls, .inr (.inl v) :: .inr (.inl v) :: st, h)
  | _ => False
def jo_dup2 : Prop := match st with
  | .inl j :: .inr (.inl a) :: st => P (q, ls, .inl j :: .inr (.inl a) :: .inl j :: .inr (.inl a) :: st, h)
  | _ => False
def jo_dupx1 : Prop := match st with
  | .inl j :: .inr (.inl a) :: st => P (q, ls, .inl j :: .inr (.inl a) :: .inl j :: st, h)
  | _ => False
def jo_pop : Prop := match st with
  | .inl _ :: st => P (q, ls, st, h)
  | .inr (.inl _) :: st => P (q, ls, st, h)
  | _ => False
/-- what becomes of a throw at the place pc -/
def jo_thr (hd : Nat → Nat → Option Nat) (pc a : Nat) : Prop := match hd pc (jm_T h a) with
  | some y => y ≠ 999999 ∧ P (y, ls, [.inr (.inl a)], h)
  | none => Q (.inr a) h
def jo_call (E : Nat → List jm_V → jm_H → jm_Q → Prop) (hd : Nat → Nat → Option Nat) (pc x y t nx : Nat) (wx w : Nat × Nat) : Prop :=
  y ≤ st.length ∧ (wx.1 + 1 ≤ w.1 ∧ jm_cs (st.drop y) + (nx + 11) + wx.2 ≤ w.2) ∧ (∀ v ∈ st.take y, ∀ z, v ≠ .inr (.inr z)) ∧ (match t with
    | 0 => True
    | t + 1 => ∃ a, (st.take y).getLast? = some (.inr (.inl a)) ∧ jm_T h a = t + 1) ∧
  E x (st.take y).reverse h (fun o h' => match o with
    | .inl none => P (q, ls, st.drop y, h')
    | .inl (some v) => P (q, ls, v :: st.drop y, h')
    | .inr a => jo_thr P Q ls h' hd pc a)
def jo_oinit (w : Nat × Nat) : Prop := match st with
  | .inr (.inl a) :: st => ¬ jm_T h a = 0 ∧ (1 ≤ w.1 ∧ jm_cs st + 12 ≤ w.2) ∧ P (q, ls, st, h)
  | _ => False
def jo_xinit (t : Nat) (w : Nat × Nat) : Prop := match st with
  | .inr (.inl a) :: st => jm_T h a = t ∧ (6 ≤ w.1 ∧ jm_cs st + 80 ≤ w.2) ∧ P (q, ls, st, jm_sT h a (t + 1))
  | _ => False
def jo_athrow (hd : Nat → Nat → Option Nat) (pc : Nat) : Prop := match st with
  | .inr (.inl a) :: _ => 200 ≤ jm_T h a ∧ jm_T h a % 2 = 1 ∧ jo_thr P Q ls h hd pc a
  | _ => False
def jo_iret : Prop := match st with
  | [.inl v] => Q (.inl (some (.inl v))) h
  | _ => False
def jo_zret : Prop := match st with
  | [.inl v] => (v = 0 ∨ v = 1) ∧ Q (.inl (some (.inl v))) h
  | _ => False
def jo_vret : Prop := match st with
  | [] => Q (.inl none) h
  | _ => False
def jo_aret : Prop := match st with
  | [.inr (.inl a)] => Q (.inl (some (.inr (.inl a)))) h
  | _ => False
def jo_i2l : Prop := match st with
  | .inl v :: st => P (q, ls, .inr (.inr v.toInt64) :: st, h)
  | _ => False
def jo_lald : Prop := match st with
  | .inl j :: .inr (.inl a) :: st => jm_T h a = 101 ∧ jm_in j (jm_N h a) ∧ P (q, ls, .inr (.inr (jm_L h a (jm_ix j))) :: st, h)
  | _ => False
def jo_last : Prop := match st with
  | .inr (.inr v) :: .inl j :: .inr (.inl a) :: st => jm_T h a = 101 ∧ jm_in j (jm_N h a) ∧ P (q, ls, st, jm_sL h a (jm_ix j) v)
  | _ => False
def jo_lcmp : Prop := match st with
  | .inr (.inr b) :: .inr (.inr a) :: st => P (q, ls, .inl (lg_cmp a b) :: st, h)
  | _ => False
def jo_max (w : Nat × Nat) : Prop := match st with
  | .inl b :: .inl a :: st => (1 ≤ w.1 ∧ jm_cs st + 13 ≤ w.2) ∧ P (q, ls, .inl (if a < b then b else a) :: st, h)
  | _ => False
def jo_min (w : Nat × Nat) : Prop := match st with
  | .inl b :: .inl a :: st => (1 ≤ w.1 ∧ jm_cs st + 13 ≤ w.2) ∧ P (q, ls, .inl (if b < a then b else a) :: st, h)
  | _ => False
def jo_irem : Prop := match st with
  | .inl b :: .inl a :: st => ¬ b = 0 ∧ P (q, ls, .inl (a - a / b * b) :: st, h)
  | _ => False
def jo_copy (w : Nat × Nat) : Prop := match st with
  | .inl n :: .inl dp :: .inr (.inl b) :: .inl sp :: .inr (.inl a) :: st => jm_T h a = 100 ∧ jm_T h b = 100 ∧ 0 ≤ n.toInt ∧ 0 ≤ sp.toInt ∧ 0 ≤ dp.toInt ∧ sp.toInt + n.toInt ≤ (jm_N h a : Int) ∧ dp.toInt + n.toInt ≤ (jm_N h b : Int) ∧ (1 ≤ w.1 ∧ jm_cs st + 18 ≤ w.2) ∧ P (q, ls, st, jm_sA h b (jm_cpy (jm_I h a) (jm_I h b) (jm_ix sp) (jm_ix dp) (jm_ix n)))
  | _ => False
end JO
def jm_step (pr : jm_Pr) (E : Nat → List jm_V → jm_H → jm_Q → Prop) (mi : Nat) (P : jm_C → Prop) (Q : jm_Q) (i : jm_In) (pc : Nat) (ls : jm_Ls) (st : List jm_V) (h : jm_H) : Prop :=
  match i.1 with
  | 1 => P (pc + i.2.1, ls, .inl i.2.2.2.2 :: st, h)
  | 2 => jo_iload P (pc + i.2.1) ls st h i.2.2.1
  | 3 => jo_aload P (pc + i.2.1) ls st h i.2.2.1
  | 4 => jo_istore P (pc + i.2.1) ls st h i.2.2.1
  | 5 => jo_astore P (pc + i.2.1) ls st h i.2.2.1
  | 6 => jo_iinc P (pc + i.2.1) ls st h i.2.2.1 i.2.2.2.2
  | 7 => jo_bin P (pc + i.2.1) ls st h i.2.2.1
  | 8 => jo_if P (pc + i.2.1) ls st h i.2.2.1 i.2.2.2.1
  | 9 => jo_icmp P (pc + i.2.1) ls st h i.2.2.1 i.2.2.2.1
  | 10 => P (i.2.2.2.1, ls, st, h)
  | 11 => jo_switch P ls st h (pr.2.2.2.2.1 i.2.2.2.1)
  | 12 => jo_geti P (pc + i.2.1) ls st h i.2.2.1 i.2.2.2.1
  | 13 => jo_getr P (pc + i.2.1) ls st h i.2.2.1 i.2.2.2.1
  | 14 => jo_puti P (pc + i.2.1) ls st h i.2.2.1 i.2.2.2.1
  | 15 => jo_putz P (pc + i.2.1) ls st h i.2.2.1 i.2.2.2.1
  | 16 => jo_putr P (pc + i.2.1) ls st h i.2.2.1 i.2.2.2.1
  | 17 => jo_iald P (pc + i.2.1) ls st h 100
  | 18 => jo_iald P (pc + i.2.1) ls st h 99
  | 19 => jo_iast P (pc + i.2.1) ls st h
  | 20 => jo_aald P (pc + i.2.1) ls st h i.2.2.1
  | 21 => jo_aast P (pc + i.2.1) ls st h i.2.2.1 i.2.2.2.1
  | 22 => jo_alen P (pc + i.2.1) ls st h i.2.2.1
  | 23 => jo_alen P (pc + i.2.1) ls st h 99
  | 24 => jo_newa P (pc + i.2.1) ls st h i.2.2.1 pr.2.2.2.2.2.1 pr.2.2.2.2.2.2.1
  | 25 => jo_newa P (pc + i.2.1) ls st h i.2.2.1 pr.2.2.2.2.2.1 pr.2.2.2.2.2.2.1
  | 27 => jo_multi P (pc + i.2.1) ls st h i.2.2.1 pr.2.2.2.2.2.1 pr.2.2.2.2.2.2.1
  | 28 => jo_new P (pc + i.2.1) ls st h i.2.2.1 i.2.2.2.1 pr.2.2.2.2.2.1 pr.2.2.2.2.2.2.1
  | 29 => jo_dup P (pc + i.2.1) ls st h
  | 30 => jo_dup2 P (pc + i.2.1) ls st h
  | 31 => jo_pop P (pc + i.2.1) ls st h
  | 32 => jo_call P Q (pc + i.2.1) ls st h E (pr.2.1 mi) pc i.2.2.1 i.2.2.2.1 (pr.2.2.2.1 i.2.2.1) (pr.2.2.1 i.2.2.1) (pr.2.2.2.2.2.2.2 i.2.2.1) (pr.2.2.2.2.2.2.2 mi)
  | 33 => jo_oinit P (pc + i.2.1) ls st h (pr.2.2.2.2.2.2.2 mi)
  | 34 => jo_new P (pc + i.2.1) ls st h i.2.2.1 6 pr.2.2.2.2.2.1 pr.2.2.2.2.2.2.1
  | 35 => jo_xinit P (pc + i.2.1) ls st h i.2.2.1 (pr.2.2.2.2.2.2.2 mi)
  | 36 => jo_athrow P Q ls st h (pr.2.1 mi) pc
  | 37 => jo_iret Q st h
  | 38 => jo_zret Q st h
  | 39 => jo_vret Q st h
  | 40 => jo_aret Q st h
  | 41 => jo_i2l P (pc + i.2.1) ls st h
  | 42 => jo_lald P (pc + i.2.1) ls st h
  | 43 => jo_last P (pc + i.2.1) ls st h
  | 44 => jo_lcmp P (pc + i.2.1) ls st h
  | 45 => jo_max P (pc + i.2.1) ls st h (pr.2.2.2.2.2.2.2 mi)
  | 46 => jo_min P (pc + i.2.1) ls st h (pr.2.2.2.2.2.2.2 mi)
  | 47 => jo_copy P (pc + i.2.1) ls st h (pr.2.2.2.2.2.2.2 mi)
  | 50 => jo_irem P (pc + i.2.1) ls st h
  | 48 => jo_dupx1 P (pc + i.2.1) ls st h
  | _ => False
def jm_S (pr : jm_Pr) (E : Nat → List jm_V → jm_H → jm_Q → Prop) (mi : Nat) (P : jm_C → Prop) (Q : jm_Q) (c : jm_C) : Prop := match (pr.1 mi).lookup c.1 with
  | some i => jm_step pr E mi P Q i c.1 c.2.1 c.2.2.1 c.2.2.2
  | none => False
def jm_en (pr : jm_Pr) (mi : Nat) (as : List jm_V) : jm_Ls := as.map some ++ List.replicate (pr.2.2.1 mi - as.length) none
/-- method mi, called at depth d, ends so that Q holds -/
def jm_E (pr : jm_Pr) : Nat → Nat → List jm_V → jm_H → jm_Q → Prop
  | 0, _, _, _, _ => False
  | d + 1, mi, as, h, Q => as.length ≤ pr.2.2.1 mi ∧ ∀ P : jm_C → Prop, (∀ c, jm_S pr (jm_E pr d) mi P Q c → P c) → P (0, jm_en pr mi as, [], h)
/-- from c on -/
def jm_W (pr : jm_Pr) (d mi : Nat) (c : jm_C) (Q : jm_Q) : Prop := ∀ P : jm_C → Prop, (∀ c, jm_S pr (jm_E pr d) mi P Q c → P c) → P c
theorem jm_E_in {pr : jm_Pr} {d mi : Nat} {as : List jm_V} {h : jm_H} {Q : jm_Q} (hl : as.length ≤ pr.2.2.1 mi) (w : jm_W pr d mi (0, jm_en pr mi as, [], h) Q) : jm_E pr (d + 1) mi as h Q := ⟨hl, w⟩
section JMono
variable {P P' : jm_C → Prop} {Q Q' : jm_Q}
theorem jo_thr_mono (hP : ∀ c, P c → P' c) (hQ : ∀ o h, Q o h → Q' o h) {ls : jm_Ls} {h : jm_H} {hd : Nat → Nat → Option Nat} {pc a : Nat} : jo_thr P Q ls h hd pc a → jo_thr P' Q' ls h hd pc a := by
  unfold jo_thr
  split
  · exact fun z => ⟨z.1, hP _ z.2⟩
  · exact hQ _ _
theorem jm_step_mono (hP : ∀ c, P c → P' c) (hQ : ∀ o h, Q o h → Q' o h) {pr : jm_Pr} {E E' : Nat → List jm_V → jm_H → jm_Q → Prop} {mi : Nat} (hE : ∀ mi as h (Q Q' : jm_Q), (∀ o h', Q o h' → Q' o h') → E mi as h Q → E' mi as h Q') {i : jm_In} {pc : Nat} {ls : jm_Ls} {st : List jm_V} {h : jm_H} :
    jm_step pr E mi P Q i pc ls st h → jm_step pr E' mi P' Q' i pc ls st h := by
  obtain ⟨op, n, x, y, k⟩ := i
  intro z
  unfold jm_step at z ⊢
  dsimp only at z ⊢
  split at z
  all_goals first
    | exact hP _ z
    | exact z.elim
    | (unfold jo_call at z ⊢
       obtain ⟨h1, h0, h2, h3, h4⟩ := z
       refine ⟨h1, h0, h2, h3, hE _ _ _ _ _ ?_ h4⟩
       intro o h'
       split <;> first | exact hP _ | exact jo_thr_mono hP hQ)
    | (revert z
       (first | unfold jo_iload | unfold jo_aload | unfold jo_istore | unfold jo_astore | unfold jo_iinc | unfold jo_bin | unfold jo_if | unfold jo_icmp | unfold jo_switch | unfold jo_geti | unfold jo_getr | unfold jo_puti | unfold jo_putz | unfold jo_putr | unfold jo_iald | unfold jo_iast | unfold jo_aald | unfold jo_aast | unfold jo_alen | unfold jo_newa | unfold jo_multi | unfold jo_new | unfold jo_dup | unfold jo_dup2 | unfold jo_dupx1 | unfold jo_pop | unfold jo_oinit | unfold jo_xinit | unfold jo_athrow | unfold jo_iret | unfold jo_zret | unfold jo_vret | unfold jo_aret | unfold jo_i2l | unfold jo_lald | unfold jo_last | unfold jo_lcmp | unfold jo_max | unfold jo_min | unfold jo_copy | unfold jo_irem)
       first
         | exact fun z => ⟨z.1, z.2.1, hP _ z.2.2⟩
         | (split <;> first
             | exact id
             | exact hP _
             | exact hQ _ _
             | exact fun z => ⟨fun y => hP _ (z.1 y), fun y => hP _ (z.2 y)⟩
             | exact fun z => ⟨z.1, hP _ z.2⟩
             | exact fun z => ⟨z.1, hQ _ _ z.2⟩
             | exact fun z => ⟨z.1, z.2.1, hP _ z.2.2⟩
             | exact fun z => ⟨z.1, z.2.1, jo_thr_mono hP hQ z.2.2⟩
             | exact fun z => ⟨z.1, z.2.1, z.2.2.1, hP _ z.2.2.2⟩
             | exact fun z => ⟨z.1, z.2.1, z.2.2.1, z.2.2.2.1, hP _ z.2.2.2.2⟩
             | exact fun z => ⟨z.1, z.2.1, z.2.2.1, z.2.2.2.1, z.2.2.2.2.1, z.2.2.2.2.2.1, z.2.2.2.2.2.2.1, z.2.2.2.2.2.2.2.1, hP _ z.2.2.2.2.2.2.2.2⟩))
theorem jm_S_mono (hP : ∀ c, P c → P' c) (hQ : ∀ o h, Q o h → Q' o h) {pr : jm_Pr} {E E' : Nat → List jm_V → jm_H → jm_Q → Prop} {mi : Nat} (hE : ∀ mi as h (Q Q' : jm_Q), (∀ o h', Q o h' → Q' o h') → E mi as h Q → E' mi as h Q') {c : jm_C} : jm_S pr E mi P Q c → jm_S pr E' mi P' Q' c := by
  unfold jm_S
  split
  · exact jm_step_mono hP hQ hE
  · exact id
end JMono
theorem jm_E_mono {pr : jm_Pr} : ∀ (d mi : Nat) (as : List jm_V) (h : jm_H) (Q Q' : jm_Q), (∀ o h', Q o h' → Q' o h') → jm_E pr d mi as h Q → jm_E pr d mi as h Q'
  | 0, _, _, _, _, _, _, z => z
  | d + 1, _, _, _, _, _, hQ, z => ⟨z.1, fun P hP => z.2 P fun c hc => hP c (jm_S_mono (fun _ y => y) hQ (jm_E_mono d) hc)⟩
theorem jm_E_up {pr : jm_Pr} : ∀ (d mi : Nat) (as : List jm_V) (h : jm_H) (Q Q' : jm_Q), (∀ o h', Q o h' → Q' o h') → jm_E pr d mi as h Q → jm_E pr (d + 1) mi as h Q'
  | 0, _, _, _, _, _, _, z => z.elim
  | d + 1, _, _, _, _, _, hQ, z => ⟨z.1, fun P hP => z.2 P fun c hc => hP c (jm_S_mono (fun _ y => y) hQ (jm_E_up d) hc)⟩
theorem jm_E_le {pr : jm_Pr} {d d' mi : Nat} {as : List jm_V} {h : jm_H} {Q : jm_Q} (hd : d ≤ d') (z : jm_E pr d mi as h Q) : jm_E pr d' mi as h Q := by
  induction hd with
  | refl => exact z
  | step _ ih => exact jm_E_up _ _ _ _ _ _ (fun _ _ y => y) ih
theorem jm_W_mono {pr : jm_Pr} {d mi : Nat} {c : jm_C} {Q Q' : jm_Q} (hQ : ∀ o h, Q o h → Q' o h) (z : jm_W pr d mi c Q) : jm_W pr d mi c Q' := fun P hP => z P fun c hc => hP c (jm_S_mono (fun _ y => y) hQ (jm_E_mono d) hc)
theorem jm_W_fold {pr : jm_Pr} {d mi : Nat} {c : jm_C} {Q : jm_Q} (z : jm_S pr (jm_E pr d) mi (fun c => jm_W pr d mi c Q) Q c) : jm_W pr d mi c Q := fun P hP => hP c (jm_S_mono (fun _ y => y P hP) (fun _ _ y => y) (jm_E_mono d) z)
/-- k steps at once -/
def jm_B (pr : jm_Pr) (d mi : Nat) (Q : jm_Q) : Nat → jm_C → Prop
  | 0, c => jm_W pr d mi c Q
  | k + 1, c => jm_S pr (jm_E pr d) mi (jm_B pr d mi Q k) Q c
theorem jm_blk {pr : jm_Pr} {d mi : Nat} {Q : jm_Q} : ∀ (k : Nat) {c : jm_C}, jm_B pr d mi Q k c → jm_W pr d mi c Q
  | 0, _, z => z
  | k + 1, _, z => jm_W_fold (jm_S_mono (fun _ y => jm_blk k y) (fun _ _ y => y) (jm_E_mono d) z)
