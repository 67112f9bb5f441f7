/-! Frames of methods; the class's texts. -/
/-- same shape: nothing made, no reference changed -/
def js (h h' : jm_H) : Prop := h'.1 = h.1 ∧ h'.2.1 = h.2.1 ∧ (∀ b, jm_T h' b = jm_T h b) ∧ (∀ b, jm_N h' b = jm_N h b) ∧ (∀ b k, jm_F h' b k = jm_F h b k) ∧ ∀ b k, jm_L h' b k = jm_L h b k
/-- same but for the numbers of the objects in S -/
def jf (S : List Nat) (h h' : jm_H) : Prop := js h h' ∧ ∀ b, b ∉ S → ∀ k, jm_I h' b k = jm_I h b k
theorem js.refl (h : jm_H) : js h h := ⟨rfl, rfl, fun _ => rfl, fun _ => rfl, fun _ _ => rfl, fun _ _ => rfl⟩
theorem js.trans {h h1 h2 : jm_H} (p : js h h1) (q : js h1 h2) : js h h2 := ⟨q.1.trans p.1, q.2.1.trans p.2.1, fun b => (q.2.2.1 b).trans (p.2.2.1 b), fun b => (q.2.2.2.1 b).trans (p.2.2.2.1 b), fun b k => (q.2.2.2.2.1 b k).trans (p.2.2.2.2.1 b k), fun b k => (q.2.2.2.2.2 b k).trans (p.2.2.2.2.2 b k)⟩
theorem js.sI (h : jm_H) (a k : Nat) (x : Int32) : js h (jm_sI h a k x) := ⟨rfl, rfl, fun b => jr_T_sI h a k x b, fun b => jr_N_sI h a k x b, fun b j => jr_F_sI h a k x b j, fun b j => jr_L_sI h a k x b j⟩
theorem js.sA (h : jm_H) (a : Nat) (f : Nat → Int32) : js h (jm_sA h a f) := ⟨rfl, rfl, fun b => jr_T_sA h a f b, fun b => jr_N_sA h a f b, fun b j => jr_F_sA h a f b j, fun b j => jr_L_sA h a f b j⟩
theorem jf.refl (S : List Nat) (h : jm_H) : jf S h h := ⟨js.refl h, fun _ _ _ => rfl⟩
theorem jf.trans {S : List Nat} {h h1 h2 : jm_H} (p : jf S h h1) (q : jf S h1 h2) : jf S h h2 := ⟨p.1.trans q.1, fun b hb k => (q.2 b hb k).trans (p.2 b hb k)⟩
theorem jf.mono {S S' : List Nat} {h h' : jm_H} (p : jf S h h') (hs : ∀ b ∈ S, b ∈ S') : jf S' h h' := ⟨p.1, fun b hb k => p.2 b (fun q => hb (hs b q)) k⟩
theorem jf.sI {S : List Nat} {h h1 : jm_H} (p : jf S h h1) {a k : Nat} {x : Int32} (ha : a ∈ S) : jf S h (jm_sI h1 a k x) := ⟨p.1.trans (js.sI h1 a k x), fun b hb j => by
  rw [jr_I_sI, if_neg (fun q => hb (by rw [q.1]; exact ha))]; exact p.2 b hb j⟩
theorem jf.sA {S : List Nat} {h h1 : jm_H} (p : jf S h h1) {a : Nat} {f : Nat → Int32} (ha : a ∈ S) : jf S h (jm_sA h1 a f) := ⟨p.1.trans (js.sA h1 a f), fun b hb j => by
  rw [jr_I_sA, if_neg (fun q => hb (by rw [q]; exact ha))]; exact p.2 b hb j⟩
/-- an array of n numbers -/
def sha (h : jm_H) (a n : Nat) : Prop := jm_T h a = 100 ∧ jm_N h a = n
theorem sha.js {h h' : jm_H} {a n : Nat} (s : sha h a n) (p : js h h') : sha h' a n := ⟨(p.2.2.1 a).trans s.1, (p.2.2.2.1 a).trans s.2⟩
/-- the numbers at an array's beginning -/
def row (h : jm_H) (a : Nat) (xs : List Int) : Prop := ∀ i, i < xs.length → jm_I h a i = jz (xs.getD i 0)
theorem row.same {h h' : jm_H} {a : Nat} {xs : List Int} (r : row h a xs) (e : ∀ k, jm_I h' a k = jm_I h a k) : row h' a xs := fun i hi => (e i).trans (r i hi)
theorem row.jf {h h' : jm_H} {a : Nat} {xs : List Int} {S : List Nat} (r : row h a xs) (p : jf S h h') (ha : a ∉ S) : row h' a xs := r.same (p.2 a ha)
theorem row.nil (h : jm_H) (a : Nat) : row h a [] := fun i hi => absurd hi (Nat.not_lt_zero i)
theorem getD_app_l {xs ys : List Int} {i : Nat} (hi : i < xs.length) : (xs ++ ys).getD i 0 = xs.getD i 0 := by
  rw [List.getD_eq_getElem?_getD, List.getD_eq_getElem?_getD, List.getElem?_append_left hi]
theorem getD_app_r {xs ys : List Int} {i : Nat} (hi : xs.length ≤ i) : (xs ++ ys).getD i 0 = ys.getD (i - xs.length) 0 := by
  rw [List.getD_eq_getElem?_getD, List.getD_eq_getElem?_getD, List.getElem?_append_right hi]
theorem getD_take {xs : List Int} {i k : Nat} (hi : i < k) : (xs.take k).getD i 0 = xs.getD i 0 := by
  rw [List.getD_eq_getElem?_getD, List.getD_eq_getElem?_getD, List.getElem?_take_of_lt hi]
theorem getD_drop {xs : List Int} {i k : Nat} : (xs.drop k).getD i 0 = xs.getD (k + i) 0 := by
  rw [List.getD_eq_getElem?_getD, List.getD_eq_getElem?_getD, List.getElem?_drop]
theorem row.push {h : jm_H} {a : Nat} {xs : List Int} (r : row h a xs) (v : Int) : row (jm_sI h a xs.length (jz v)) a (xs ++ [v]) := by
  intro i hi
  rw [List.length_append, List.length_singleton] at hi
  rw [jr_I_sI]
  by_cases e : i = xs.length
  · subst e
    rw [if_pos ⟨rfl, rfl⟩, getD_app_r (Nat.le_refl _), Nat.sub_self]; rfl
  · rw [if_neg (fun q => e q.2), getD_app_l (by omega)]
    exact r i (by omega)
/-- a text object with its row right behind it -/
def shT (h : jm_H) (a : Nat) : Prop := jm_T h a = 8 ∧ jm_F h a 0 = a + 1 ∧ sha h (a + 1) 12
theorem shT.js {h h' : jm_H} {a : Nat} (s : shT h a) (p : js h h') : shT h' a := ⟨(p.2.2.1 a).trans s.1, (p.2.2.2.2.1 a 0).trans s.2.1, s.2.2.js p⟩
/-- its lines -/
def cx (h : jm_H) (a : Nat) (xs : List Int) : Prop := jm_I h a 1 = jz xs.length ∧ xs.length ≤ 12 ∧ row h (a + 1) xs
theorem cx.jf {h h' : jm_H} {a : Nat} {xs : List Int} {S : List Nat} (c : cx h a xs) (p : jf S h h') (h1 : a ∉ S) (h2 : a + 1 ∉ S) : cx h' a xs := ⟨(p.2 a h1 1).trans c.1, c.2.1, c.2.2.jf p h2⟩
theorem jR_len {xs : List Int} (h : xs.length ≤ 12) : jR (xs.length : Int) := by constructor <;> omega
theorem s119 {d a : Nat} {h : jm_H} (hs : shT h a) : jm_E dh_pr (d + 1) 119 [.inr (.inl a)] h (fun o h' => o = .inl none ∧ jf [a] h h' ∧ cx h' a []) := by
  refine e119 (r119_0 ⟨hs.1, rfl, (jf.refl _ h).sI (by simp), jr_I_self, by simp, row.nil _ _⟩)
theorem s120 {d a b : Nat} {h : jm_H} {ys : List Int} (hs : shT h a) (ht : shT h b) (hc : cx h b ys) : jm_E dh_pr (d + 1) 120 [.inr (.inl a), .inr (.inl b)] h (fun o h' => o = .inl none ∧ jf [a, a + 1] h h' ∧ cx h' a ys) := by
  obtain ⟨c1, c2, c3⟩ := hc
  refine e120 (r120_0 ⟨ht.1, _, ht.2.1, hs.1, _, hs.2.1, _, c1, ht.2.2.1, hs.2.2.1, jR_len c2, by omega, _, ht.2.2.2, _, hs.2.2.2, by omega, by omega, rfl, ?_, ?_⟩)
  · exact ((jf.refl _ h).sA (by simp)).sI (by simp)
  · refine ⟨jr_I_self, c2, fun i hi => ?_⟩
    rw [jr_I_sI, if_neg (by omega), jr_I_sA, if_pos rfl]
    show (if 0 ≤ i ∧ i < 0 + (ys.length : Int).toNat then jm_I h (b + 1) (0 + (i - 0)) else _) = _
    rw [if_pos (by omega), show 0 + (i - 0) = i by omega]
    exact c3 i hi
theorem s121 {d a : Nat} {h : jm_H} {xs : List Int} {k : Int} (hs : shT h a) (hc : cx h a xs) (hk : jR k) : jm_E dh_pr (d + 1) 121 [.inr (.inl a), .inl (jz k)] h (fun o h' => o = .inl (some (.inl (jz (if 0 ≤ k ∧ k < xs.length then xs.getD k.toNat 0 else -1)))) ∧ h' = h) := by
  obtain ⟨c1, c2, c3⟩ := hc
  refine e121 (r121_0 ⟨hk, fun q => ⟨?_, rfl⟩, fun q => ⟨hs.1, _, c1, jR_len c2, fun q' => ⟨?_, rfl⟩, fun q' => ⟨_, hs.2.1, hs.2.2.1, _, hs.2.2.2, ⟨q, by omega, by omega⟩, _, c3 k.toNat (by omega), ?_, rfl⟩⟩⟩)
  · rw [if_neg (by omega)]
  · rw [if_neg (by omega)]
  · rw [if_pos (by omega)]
/-- a line that a text of that many takes -/
def okl (v : Int) (n : Nat) : Prop := 1 ≤ v ∧ v ≤ 99 ∧ n < 12
theorem s122 {d a : Nat} {h : jm_H} {xs : List Int} {v : Int} (hs : shT h a) (hc : cx h a xs) (hv : jR v) : jm_E dh_pr (d + 1) 122 [.inr (.inl a), .inl (jz v)] h (fun o h' => ∃ z : Int, o = .inl (some (.inl (jz z))) ∧ ((z = 1 ∧ okl v xs.length ∧ jf [a, a + 1] h h' ∧ cx h' a (xs ++ [v])) ∨ (z = 0 ∧ ¬ okl v xs.length ∧ h' = h))) := by
  obtain ⟨c1, c2, c3⟩ := hc
  refine e122 (r122_0 ⟨hv, fun q => ⟨0, rfl, Or.inr ⟨rfl, fun k => by have := k.1; omega, rfl⟩⟩, fun q => ⟨fun q' => ⟨0, rfl, Or.inr ⟨rfl, fun k => by have := k.2.1; omega, rfl⟩⟩, fun q' => ⟨hs.1, _, c1, jR_len c2, fun q3 => ⟨_, hs.2.1, hs.2.2.1, _, hs.2.2.2, ⟨by omega, by omega, by omega⟩, 1, rfl, Or.inl ⟨rfl, ⟨q, q', by omega⟩, ?_, ?_⟩⟩, fun q3 => ⟨0, rfl, Or.inr ⟨rfl, fun k => by have := k.2.2; omega, rfl⟩⟩⟩⟩⟩)
  · exact ((jf.refl _ h).sI (by simp)).sI (by simp)
  · refine ⟨?_, by rw [List.length_append, List.length_singleton]; omega, ?_⟩
    · rw [jr_I_self, List.length_append, List.length_singleton]; rfl
    · have e : ((xs.length : Int)).toNat = xs.length := by omega
      rw [e]
      refine (c3.push v).same (fun k => ?_)
      rw [jr_I_sI _ a, if_neg (by omega)]
theorem s123 {d a : Nat} {h : jm_H} {xs : List Int} {k v : Int} (hs : shT h a) (hc : cx h a xs) (hk : jR k) (hv : jR v) : jm_E dh_pr (d + 2) 123 [.inr (.inl a), .inl (jz k), .inl (jz v)] h (fun o h' => ∃ z : Int, o = .inl (some (.inl (jz z))) ∧ ((z = 1 ∧ (okl v xs.length ∧ 0 ≤ k ∧ k ≤ xs.length) ∧ jf [a, a + 1] h h' ∧ cx h' a (xs.take k.toNat ++ v :: xs.drop k.toNat)) ∨ (z = 0 ∧ ¬ (okl v xs.length ∧ 0 ≤ k ∧ k ≤ xs.length) ∧ h' = h))) := by
  have hc0 := hc
  obtain ⟨c1, c2, c3⟩ := hc
  refine e123 (r123_0 ⟨hk, fun q => ⟨0, rfl, Or.inr ⟨rfl, fun p => by omega, rfl⟩⟩, fun q => ⟨hs.1, _, c1, jR_len c2, fun q' => ⟨0, rfl, Or.inr ⟨rfl, fun p => by omega, rfl⟩⟩, fun q' => jm_callI (s122 hs hc0 hv) ?_⟩⟩)
  rintro z h' (⟨rfl, ho, hf, hc'⟩ | ⟨rfl, ho, rfl⟩)
  · obtain ⟨g1, g2, g3⟩ := hc'
    have el : (xs ++ [v]).length = xs.length + 1 := by rw [List.length_append, List.length_singleton]
    have hs' := hs.js hf.1
    rw [el] at g1 g2
    have kr : k.toNat ≤ xs.length := by omega
    refine r123_17 ⟨⟨by omega, by omega⟩, fun _ => ⟨hs'.1, _, hs'.2.1, _, g1, hs'.2.2.1, ⟨by omega, by omega⟩, by omega, hk, q, ⟨by omega, by omega⟩, by omega, _, hs'.2.2.2, by omega, by omega, ⟨q, by omega, by omega⟩, 1, rfl, Or.inl ⟨rfl, ⟨ho, q, q'⟩, ?_, ?_⟩⟩, fun p => absurd p (by omega)⟩
    · exact (hf.sA (by simp)).sI (by simp)
    · have e1 : (xs.take k.toNat ++ v :: xs.drop k.toNat).length = xs.length + 1 := by simp; omega
      have e2 : (xs.take k.toNat).length = k.toNat := by rw [List.length_take]; omega
      refine ⟨?_, by rw [e1]; omega, fun i hi => ?_⟩
      · rw [jr_I_sI, if_neg (by omega), jr_I_sA, if_neg (by omega), e1]; exact g1
      · rw [e1] at hi
        rw [jr_I_sI]
        by_cases i1 : i = k.toNat
        · rw [if_pos ⟨rfl, i1⟩, i1, getD_app_r (by omega), e2, Nat.sub_self]; rfl
        · rw [if_neg (fun p => i1 p.2), jr_I_sA, if_pos rfl]
          show (if (k + 1).toNat ≤ i ∧ i < (k + 1).toNat + _ then jm_I h' (a + 1) (k.toNat + (i - (k + 1).toNat)) else jm_I h' (a + 1) i) = _
          by_cases i2 : i < k.toNat
          · rw [if_neg (by omega), g3 i (by rw [el]; omega), getD_app_l (by omega), getD_app_l (by omega), getD_take i2]
          · rw [if_pos (by omega), g3 _ (by rw [el]; omega), getD_app_l (by omega), getD_app_r (by omega), e2]
            obtain ⟨j, rfl⟩ : ∃ j, i = k.toNat + 1 + j := ⟨i - (k.toNat + 1), by omega⟩
            rw [show k.toNat + 1 + j - k.toNat = j + 1 by omega, List.getD_cons_succ, getD_drop, show k.toNat + (k.toNat + 1 + j - (k + 1).toNat) = k.toNat + j by omega]
  · refine r123_17 ⟨⟨by omega, by omega⟩, fun p => absurd rfl p, fun _ => ⟨0, rfl, Or.inr ⟨rfl, fun p => ho p.1, rfl⟩⟩⟩
theorem s124 {d a : Nat} {h : jm_H} {xs : List Int} {k : Int} (hs : shT h a) (hc : cx h a xs) (hk : jR k) : jm_E dh_pr (d + 1) 124 [.inr (.inl a), .inl (jz k)] h (fun o h' => ((0 ≤ k ∧ k < xs.length) ∧ o = .inl (some (.inl (jz (xs.getD k.toNat 0)))) ∧ jf [a, a + 1] h h' ∧ cx h' a (xs.take k.toNat ++ xs.drop (k.toNat + 1))) ∨ (¬ (0 ≤ k ∧ k < xs.length) ∧ o = .inl (some (.inl (jz (-1)))) ∧ h' = h)) := by
  obtain ⟨c1, c2, c3⟩ := hc
  refine e124 (r124_0 ⟨hk, fun q => Or.inr ⟨by omega, rfl, rfl⟩, fun q => ⟨hs.1, _, c1, jR_len c2, fun q' => ⟨_, hs.2.1, hs.2.2.1, _, hs.2.2.2, ⟨q, by omega, by omega⟩, _, c3 k.toNat (by omega), ⟨by omega, by omega⟩, by omega, ⟨by omega, by omega⟩, by omega, q, by omega, by omega, Or.inl ⟨⟨q, q'⟩, rfl, ?_, ?_⟩⟩, fun q' => Or.inr ⟨by omega, rfl, rfl⟩⟩⟩)
  · exact ((jf.refl _ h).sA (by simp)).sI (by simp)
  · have e2 : (xs.take k.toNat).length = k.toNat := by rw [List.length_take]; omega
    have e1 : (xs.take k.toNat ++ xs.drop (k.toNat + 1)).length = xs.length - 1 := by rw [List.length_append, e2, List.length_drop]; omega
    refine ⟨?_, by rw [e1]; omega, fun i hi => ?_⟩
    · rw [jr_I_self, e1]; congr 1; omega
    · rw [e1] at hi
      rw [jr_I_sI, if_neg (by omega), jr_I_sA, if_pos rfl]
      show (if k.toNat ≤ i ∧ i < k.toNat + _ then jm_I h (a + 1) ((k + 1).toNat + (i - k.toNat)) else jm_I h (a + 1) i) = _
      by_cases i2 : i < k.toNat
      · rw [if_neg (by omega), c3 i (by omega), getD_app_l (by omega), getD_take i2]
      · rw [if_pos (by omega), c3 _ (by omega), getD_app_r (by omega), e2, getD_drop, show (k + 1).toNat + (i - k.toNat) = k.toNat + 1 + (i - k.toNat) by omega]
