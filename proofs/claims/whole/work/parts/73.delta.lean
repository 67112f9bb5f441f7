/-! Steps from one text to another: the mathematics; pruned regions of Delta. -/
def lcsA (f : List Int → Nat) (a : Int) : List Int → Nat
  | [] => 0
  | b :: B => if a = b then f B + 1 else max (f (b :: B)) (lcsA f a B)
/-- most lines in common -/
def lcs : List Int → List Int → Nat
  | [] => fun _ => 0
  | a :: A => lcsA (lcs A) a
theorem lcs_nil (B : List Int) : lcs [] B = 0 := rfl
theorem lcs_nil' (A : List Int) : lcs A [] = 0 := by cases A <;> rfl
theorem lcs_cons (a b : Int) (A B : List Int) : lcs (a :: A) (b :: B) = if a = b then lcs A B + 1 else max (lcs A (b :: B)) (lcs (a :: A) B) := rfl
theorem lcs_le : ∀ (A B : List Int), lcs A B ≤ A.length
  | [], _ => Nat.le_refl 0
  | a :: A, [] => Nat.zero_le _
  | a :: A, b :: B => by
    have h1 := lcs_le A B
    have h2 := lcs_le A (b :: B)
    have h3 := lcs_le (a :: A) B
    rw [lcs_cons, List.length_cons]
    rw [List.length_cons] at h3
    split <;> omega
/-- one line more on either side gives at most one more in common -/
theorem lcs_up : ∀ (A B : List Int), (∀ b, lcs A (b :: B) ≤ lcs A B + 1) ∧ (∀ a, lcs (a :: A) B ≤ lcs A B + 1) ∧ (∀ b, lcs A B ≤ lcs A (b :: B)) ∧ (∀ a, lcs A B ≤ lcs (a :: A) B)
  | [], B => by
    refine ⟨fun b => by rw [lcs_nil]; omega, fun a => ?_, fun b => by rw [lcs_nil]; omega, fun a => by rw [lcs_nil]; omega⟩
    have := lcs_le [a] B
    simp at this
    omega
  | x :: A, [] => by
    refine ⟨fun b => ?_, fun a => by rw [lcs_nil']; omega, fun b => by rw [lcs_nil']; omega, fun a => by rw [lcs_nil']; omega⟩
    have h1 := (lcs_up A []).1 b
    rw [lcs_cons, lcs_nil', lcs_nil'] 
    rw [lcs_nil'] at h1
    split <;> omega
  | x :: A, y :: B => by
    have h1 := lcs_up A B
    have h2 := lcs_up A (y :: B)
    have h3 := lcs_up (x :: A) B
    have c0 := lcs_cons x y A B
    refine ⟨fun b => ?_, fun a => ?_, fun b => ?_, fun a => ?_⟩
    · have c1 := lcs_cons x b A (y :: B)
      have e1 := h2.1 b
      have e2 := h2.2.2.2 x
      have e3 := h2.2.1 x
      rw [c1]
      split
      · omega
      · omega
    · have c1 := lcs_cons a y (x :: A) B
      have e1 := h3.2.1 a
      have e2 := h3.2.2.1 y
      have e3 := h3.1 y
      rw [c1]
      split
      · omega
      · omega
    · have c1 := lcs_cons x b A (y :: B)
      have e3 := h2.2.1 x
      rw [c1]
      split
      · omega
      · omega
    · have c1 := lcs_cons a y (x :: A) B
      have e3 := h3.1 y
      rw [c1]
      split
      · omega
      · omega
/-- lines in common from the places i, j on -/
def lc (A B : List Int) (i j : Nat) : Nat := lcs (A.drop i) (B.drop j)
theorem drop_cons {xs : List Int} {i : Nat} (hi : i < xs.length) : xs.drop i = xs.getD i 0 :: xs.drop (i + 1) := by
  rw [List.drop_eq_getElem_cons hi, List.getD_eq_getElem?_getD, List.getElem?_eq_getElem hi]; rfl
theorem lc_end1 {A B : List Int} {i j : Nat} (h : A.length ≤ i) : lc A B i j = 0 := by
  unfold lc; rw [List.drop_eq_nil_of_le h]; rfl
theorem lc_end2 {A B : List Int} {i j : Nat} (h : B.length ≤ j) : lc A B i j = 0 := by
  unfold lc; rw [List.drop_eq_nil_of_le h, lcs_nil']
theorem lc_eq {A B : List Int} {i j : Nat} (hi : i < A.length) (hj : j < B.length) : lc A B i j = if A.getD i 0 = B.getD j 0 then lc A B (i + 1) (j + 1) + 1 else max (lc A B (i + 1) j) (lc A B i (j + 1)) := by
  unfold lc
  rw [drop_cons hi, drop_cons hj, lcs_cons]
theorem lc_le (A B : List Int) (i j : Nat) : lc A B i j ≤ A.length := by
  have := lcs_le (A.drop i) (B.drop j)
  rw [List.length_drop] at this
  unfold lc
  omega
/-- the other way to count -/
theorem lc_ref {A B : List Int} {i j : Nat} (hi : i < A.length) (hj : j < B.length) (e : A.getD i 0 = B.getD j 0) : lc A B (i + 1) j ≤ lc A B (i + 1) (j + 1) + 1 ∧ lc A B i (j + 1) ≤ lc A B (i + 1) (j + 1) + 1 := by
  unfold lc
  have h := lcs_up (A.drop (i + 1)) (B.drop (j + 1))
  rw [drop_cons hi, drop_cons hj]
  exact ⟨h.1 _, h.2.1 _⟩
/-- a step: kind, place, how many lines, place of the first one among the added ones, and in the new text -/
abbrev S5 : Type := Int × Int × Int × Int × Int
def note (acc : List S5) (op : Bool) (k i f j : Int) : List S5 := match acc.getLast? with
  | some s => if op = true ∧ s.1 = k then acc.dropLast ++ [(s.1, s.2.1, s.2.2.1 + 1, s.2.2.2)] else acc ++ [(k, i, 1, f, j)]
  | none => acc ++ [(k, i, 1, f, j)]
def walk (A B : List Int) : Nat → Nat → Nat → List S5 → List Int → Bool → List S5 × List Int
  | 0, _, _, acc, ad, _ => (acc, ad)
  | n + 1, i, j, acc, ad, op =>
    if i < A.length then
      if j < B.length ∧ A.getD i 0 = B.getD j 0 then walk A B n (i + 1) (j + 1) acc ad false
      else if j = B.length ∨ lc A B i (j + 1) ≤ lc A B (i + 1) j then walk A B n (i + 1) j (note acc op 0 i ad.length j) ad true
      else walk A B n i (j + 1) (note acc op 1 i ad.length j) (ad ++ [B.getD j 0]) true
    else if j < B.length then walk A B n i (j + 1) (note acc op 1 i ad.length j) (ad ++ [B.getD j 0]) true
    else (acc, ad)
/-- the steps from A to B, and the lines that they add -/
def delta (A B : List Int) : List S5 × List Int := walk A B (A.length + B.length) 0 0 [] [] false
theorem note_len (acc : List S5) (op : Bool) (k i f j : Int) : (note acc op k i f j).length ≤ acc.length + 1 := by
  unfold note
  split
  · split
    · rename_i s hs _
      have : acc ≠ [] := by intro e; rw [e] at hs; cases hs
      rw [List.length_append, List.length_dropLast, List.length_singleton]
      omega
    · rw [List.length_append, List.length_singleton]; omega
  · rw [List.length_append, List.length_singleton]; omega
theorem note_ne (acc : List S5) (op : Bool) (k i f j : Int) : note acc op k i f j ≠ [] := by
  unfold note
  split
  · split <;> simp
  · simp
theorem rr89_29 {d : Nat} {Q : jm_Q} {h : jm_H} {a0 : Nat} {a1 : Nat} {a2 : Nat} {v3 : Int} {v4 : Int} {v5 : Int} (w : (jR v5 ∧ (24 ≤ v5 → (Q (.inl none) h)) ∧ (v5 < 24 → (jm_T h a1 = 8 ∧ ∃ z2 : Int, jm_I h a1 1 = jz z2 ∧ jR v3 ∧ jR z2 ∧ (v3 < z2 → ((jm_T h a2 = 8 ∧ ∃ z5 : Int, jm_I h a2 1 = jz z5 ∧ jR v4 ∧ jR z5 ∧ (z5 ≤ v4 → (((v4 = z5 → (jm_T h a0 = 4 ∧ jm_E dh_pr d 91 [.inr (.inl a0), .inl (jz 0), .inl (jz v3)] h (jm_k dh_pr d 89 Q 148 [some (.inr (.inl a0)), some (.inr (.inl a1)), some (.inr (.inl a2)), some (.inl (jz v3)), some (.inl (jz v4)), some (.inl (jz v5))] [] 145))) ∧ (¬ v4 = z5 → (jm_T h a0 = 4 ∧ ∃ f9 : Nat, jm_F h a0 5 = f9 ∧ jm_T h f9 = 61 ∧ ∃ n10 : Nat, jm_N h f9 = n10 ∧ jzi (v3 + 1) n10 ∧ ∃ f11 : Nat, jm_F h f9 ((v3 + 1).toNat) = f11 ∧ jm_T h f11 = 100 ∧ ∃ n12 : Nat, jm_N h f11 = n12 ∧ jzi v4 n12 ∧ ∃ z13 : Int, jm_I h f11 v4.toNat = jz z13 ∧ jzi v3 n10 ∧ ∃ f14 : Nat, jm_F h f9 v3.toNat = f14 ∧ jm_T h f14 = 100 ∧ ∃ n15 : Nat, jm_N h f14 = n15 ∧ jzi (v4 + 1) n15 ∧ ∃ z16 : Int, jm_I h f14 ((v4 + 1).toNat) = jz z16 ∧ jR z13 ∧ jR z16 ∧ (z13 < z16 → (jm_E dh_pr d 91 [.inr (.inl a0), .inl (jz 1), .inl (jz v3)] h (jm_k dh_pr d 89 Q 160 [some (.inr (.inl a0)), some (.inr (.inl a1)), some (.inr (.inl a2)), some (.inl (jz v3)), some (.inl (jz v4)), some (.inl (jz v5))] [] 157))) ∧ (z16 ≤ z13 → (jm_E dh_pr d 91 [.inr (.inl a0), .inl (jz 0), .inl (jz v3)] h (jm_k dh_pr d 89 Q 148 [some (.inr (.inl a0)), some (.inr (.inl a1)), some (.inr (.inl a2)), some (.inl (jz v3)), some (.inl (jz v4)), some (.inl (jz v5))] [] 145)))))))) ∧ (v4 < z5 → (∃ f18 : Nat, jm_F h a1 0 = f18 ∧ jm_T h f18 = 100 ∧ ∃ n19 : Nat, jm_N h f18 = n19 ∧ jzi v3 n19 ∧ ∃ z20 : Int, jm_I h f18 v3.toNat = jz z20 ∧ ∃ f21 : Nat, jm_F h a2 0 = f21 ∧ jm_T h f21 = 100 ∧ ∃ n22 : Nat, jm_N h f21 = n22 ∧ jzi v4 n22 ∧ ∃ z23 : Int, jm_I h f21 v4.toNat = jz z23 ∧ jR z20 ∧ jR z23 ∧ (¬ z20 = z23 → (((jm_T h a0 = 4 ∧ ∃ f27 : Nat, jm_F h a0 5 = f27 ∧ jm_T h f27 = 61 ∧ ∃ n28 : Nat, jm_N h f27 = n28 ∧ jzi (v3 + 1) n28 ∧ ∃ f29 : Nat, jm_F h f27 ((v3 + 1).toNat) = f29 ∧ jm_T h f29 = 100 ∧ ∃ n30 : Nat, jm_N h f29 = n30 ∧ jzi v4 n30 ∧ ∃ z31 : Int, jm_I h f29 v4.toNat = jz z31 ∧ jzi v3 n28 ∧ ∃ f32 : Nat, jm_F h f27 v3.toNat = f32 ∧ jm_T h f32 = 100 ∧ ∃ n33 : Nat, jm_N h f32 = n33 ∧ jzi (v4 + 1) n33 ∧ ∃ z34 : Int, jm_I h f32 ((v4 + 1).toNat) = jz z34 ∧ jR z31 ∧ jR z34 ∧ (z31 < z34 → (jm_E dh_pr d 91 [.inr (.inl a0), .inl (jz 1), .inl (jz v3)] h (jm_k dh_pr d 89 Q 160 [some (.inr (.inl a0)), some (.inr (.inl a1)), some (.inr (.inl a2)), some (.inl (jz v3)), some (.inl (jz v4)), some (.inl (jz v5))] [] 157))) ∧ (z34 ≤ z31 → (jm_E dh_pr d 91 [.inr (.inl a0), .inl (jz 0), .inl (jz v3)] h (jm_k dh_pr d 89 Q 148 [some (.inr (.inl a0)), some (.inr (.inl a1)), some (.inr (.inl a2)), some (.inl (jz v3)), some (.inl (jz v4)), some (.inl (jz v5))] [] 145))))))) ∧ (z20 = z23 → (jm_T h a0 = 4 ∧ ((jm_W dh_pr d 89 (29, [some (.inr (.inl a0)), some (.inr (.inl a1)), some (.inr (.inl a2)), some (.inl (jz (v3 + 1))), some (.inl (jz (v4 + 1))), some (.inl (jz (v5 + 1)))], [], jm_sI h a0 8 (jz 0)) Q))))))))) ∧ (z2 ≤ v3 → (jm_T h a2 = 8 ∧ ∃ z36 : Int, jm_I h a2 1 = jz z36 ∧ jR v4 ∧ jR z36 ∧ (z36 ≤ v4 → (Q (.inl none) h)) ∧ (v4 < z36 → (((jm_T h a0 = 4 ∧ jm_E dh_pr d 91 [.inr (.inl a0), .inl (jz 1), .inl (jz v3)] h (jm_k dh_pr d 89 Q 160 [some (.inr (.inl a0)), some (.inr (.inl a1)), some (.inr (.inl a2)), some (.inl (jz v3)), some (.inl (jz v4)), some (.inl (jz v5))] [] 157))))))))))) : jm_W dh_pr d 89 (29, [some (.inr (.inl a0)), some (.inr (.inl a1)), some (.inr (.inl a2)), some (.inl (jz v3)), some (.inl (jz v4)), some (.inl (jz v5))], [], h) Q :=
  (b89_29 (show (24 : Int32) = jz 24 from rfl) (fun p1 => (b89_195 (w.2.1 (jz_c3 w.1 ⟨by decide, by decide⟩ p1)))) (fun p1 => ((w.2.2 (jz_n3 w.1 ⟨by decide, by decide⟩ p1)).2.elim fun z2 w2 => (b89_36 (w.2.2 (jz_n3 w.1 ⟨by decide, by decide⟩ p1)).1 w2.1 (fun p3 => (b89_53 (w.2.2 (jz_n3 w.1 ⟨by decide, by decide⟩ p1)).1 w2.1 (fun p4 => (False.elim (by
  have g0 := (jz_c2 w2.2.1 w2.2.2.1 p3)
  have g1 := (jz_c3 w2.2.1 w2.2.2.1 p4)
  omega))) (fun p4 => ((w2.2.2.2.1 (jz_c2 w2.2.1 w2.2.2.1 p3)).2.elim fun z5 w5 => (b89_61 (w2.2.2.2.1 (jz_c2 w2.2.1 w2.2.2.1 p3)).1 w5.1 (fun p6 => (b89_100 (w.2.2 (jz_n3 w.1 ⟨by decide, by decide⟩ p1)).1 w2.1 (fun p7 => (False.elim (by
  have g0 := (jz_c2 w2.2.1 w2.2.2.1 p3)
  have g1 := (jz_c3 w2.2.1 w2.2.2.1 p7)
  omega))) (fun p7 => (b89_108 (w2.2.2.2.1 (jz_c2 w2.2.1 w2.2.2.1 p3)).1 w5.1 (fun p8 => (b89_142 (show (0 : Int32) = jz 0 from rfl) ((w5.2.2.2.1 (jz_c3 w5.2.1 w5.2.2.1 p6)).1 (jz_c0 w5.2.1 w5.2.2.1 p8)).1 ((w5.2.2.2.1 (jz_c3 w5.2.1 w5.2.2.1 p6)).1 (jz_c0 w5.2.1 w5.2.2.1 p8)).2)) (fun p8 => (((w5.2.2.2.1 (jz_c3 w5.2.1 w5.2.2.1 p6)).2 (jz_n0 w5.2.1 w5.2.2.1 p8)).2.elim fun f9 w9 => (w9.2.2.elim fun n10 w10 => (w10.2.2.elim fun f11 w11 => (w11.2.2.elim fun n12 w12 => (w12.2.2.elim fun z13 w13 => (w13.2.2.elim fun f14 w14 => (w14.2.2.elim fun n15 w15 => (w15.2.2.elim fun z16 w16 => (b89_117 ((w5.2.2.2.1 (jz_c3 w5.2.1 w5.2.2.1 p6)).2 (jz_n0 w5.2.1 w5.2.2.1 p8)).1 w9.1 (show (1 : Int32) = jz 1 from rfl) (jz_add _ _) w9.2.1 w10.1 (jz_in w10.2.1) (jz_ix w10.2.1.r) w11.1 w11.2.1 w12.1 (jz_in w12.2.1) (jz_ix w12.2.1.r) w13.1 ((w5.2.2.2.1 (jz_c3 w5.2.1 w5.2.2.1 p6)).2 (jz_n0 w5.2.1 w5.2.2.1 p8)).1 w9.1 w9.2.1 w10.1 (jz_in w13.2.1) (jz_ix w13.2.1.r) w14.1 (show (1 : Int32) = jz 1 from rfl) (jz_add _ _) w14.2.1 w15.1 (jz_in w15.2.1) (jz_ix w15.2.1.r) w16.1 (fun p17 => (b89_154 (show (1 : Int32) = jz 1 from rfl) ((w5.2.2.2.1 (jz_c3 w5.2.1 w5.2.2.1 p6)).2 (jz_n0 w5.2.1 w5.2.2.1 p8)).1 (w16.2.2.2.1 (jz_c2 w16.2.1 w16.2.2.1 p17)))) (fun p17 => (b89_142 (show (0 : Int32) = jz 0 from rfl) ((w5.2.2.2.1 (jz_c3 w5.2.1 w5.2.2.1 p6)).2 (jz_n0 w5.2.1 w5.2.2.1 p8)).1 (w16.2.2.2.2 (jz_n2 w16.2.1 w16.2.2.1 p17)))))))))))))))))) (fun p6 => ((w5.2.2.2.2 (jz_n3 w5.2.1 w5.2.2.1 p6)).elim fun f18 w18 => (w18.2.2.elim fun n19 w19 => (w19.2.2.elim fun z20 w20 => (w20.2.elim fun f21 w21 => (w21.2.2.elim fun n22 w22 => (w22.2.2.elim fun z23 w23 => (b89_70 (w.2.2 (jz_n3 w.1 ⟨by decide, by decide⟩ p1)).1 w18.1 w18.2.1 w19.1 (jz_in w19.2.1) (jz_ix w19.2.1.r) w20.1 (w2.2.2.2.1 (jz_c2 w2.2.1 w2.2.2.1 p3)).1 w21.1 w21.2.1 w22.1 (jz_in w22.2.1) (jz_ix w22.2.1.r) w23.1 (fun p24 => (b89_100 (w.2.2 (jz_n3 w.1 ⟨by decide, by decide⟩ p1)).1 w2.1 (fun p25 => (False.elim (by
  have g0 := (jz_c2 w2.2.1 w2.2.2.1 p3)
  have g1 := (jz_c3 w19.2.1.r w2.2.2.1 p25)
  omega))) (fun p25 => (b89_108 (w2.2.2.2.1 (jz_c2 w2.2.1 w2.2.2.1 p3)).1 w5.1 (fun p26 => (False.elim (by
  have g0 := (jz_n3 w5.2.1 w5.2.2.1 p6)
  have g1 := (jz_c0 w22.2.1.r w5.2.2.1 p26)
  omega))) (fun p26 => ((w23.2.2.2.1 (jz_c1 w23.2.1 w23.2.2.1 p24)).2.elim fun f27 w27 => (w27.2.2.elim fun n28 w28 => (w28.2.2.elim fun f29 w29 => (w29.2.2.elim fun n30 w30 => (w30.2.2.elim fun z31 w31 => (w31.2.2.elim fun f32 w32 => (w32.2.2.elim fun n33 w33 => (w33.2.2.elim fun z34 w34 => (b89_117 (w23.2.2.2.1 (jz_c1 w23.2.1 w23.2.2.1 p24)).1 w27.1 (show (1 : Int32) = jz 1 from rfl) (jz_add _ _) w27.2.1 w28.1 (jz_in w28.2.1) (jz_ix w28.2.1.r) w29.1 w29.2.1 w30.1 (jz_in w30.2.1) (jz_ix w22.2.1.r) w31.1 (w23.2.2.2.1 (jz_c1 w23.2.1 w23.2.2.1 p24)).1 w27.1 w27.2.1 w28.1 (jz_in w31.2.1) (jz_ix w19.2.1.r) w32.1 (show (1 : Int32) = jz 1 from rfl) (jz_add _ _) w32.2.1 w33.1 (jz_in w33.2.1) (jz_ix w33.2.1.r) w34.1 (fun p35 => (b89_154 (show (1 : Int32) = jz 1 from rfl) (w23.2.2.2.1 (jz_c1 w23.2.1 w23.2.2.1 p24)).1 (w34.2.2.2.1 (jz_c2 w34.2.1 w34.2.2.1 p35)))) (fun p35 => (b89_142 (show (0 : Int32) = jz 0 from rfl) (w23.2.2.2.1 (jz_c1 w23.2.1 w23.2.2.1 p24)).1 (w34.2.2.2.2 (jz_n2 w34.2.1 w34.2.2.1 p35)))))))))))))))))) (fun p24 => (b89_86 (show (0 : Int32) = jz 0 from rfl) (w23.2.2.2.2 (jz_n1 w23.2.1 w23.2.2.1 p24)).1 (Or.inl rfl) (b89_91 (show (1 : Int32) = jz 1 from rfl) (jz_add _ _) (show (1 : Int32) = jz 1 from rfl) (jz_add _ _) (b89_189 (show (1 : Int32) = jz 1 from rfl) (jz_add _ _) (w23.2.2.2.2 (jz_n1 w23.2.1 w23.2.2.1 p24)).2))))))))))))))))) (fun p3 => ((w2.2.2.2.2 (jz_n2 w2.2.1 w2.2.2.1 p3)).2.elim fun z36 w36 => (b89_44 (w2.2.2.2.2 (jz_n2 w2.2.1 w2.2.2.1 p3)).1 w36.1 (fun p37 => (b89_195 (w36.2.2.2.1 (jz_c3 w36.2.1 w36.2.2.1 p37)))) (fun p37 => (b89_53 (w.2.2 (jz_n3 w.1 ⟨by decide, by decide⟩ p1)).1 w2.1 (fun p38 => (b89_100 (w.2.2 (jz_n3 w.1 ⟨by decide, by decide⟩ p1)).1 w2.1 (fun p39 => (b89_154 (show (1 : Int32) = jz 1 from rfl) (w36.2.2.2.2 (jz_n3 w36.2.1 w36.2.2.1 p37)).1 (w36.2.2.2.2 (jz_n3 w36.2.1 w36.2.2.1 p37)).2)) (fun p39 => (False.elim (by
  have g0 := (jz_n2 w2.2.1 w2.2.2.1 p3)
  have g1 := (jz_n3 w2.2.1 w2.2.2.1 p39)
  omega))))) (fun p38 => (False.elim (by
  have g0 := (jz_n2 w2.2.1 w2.2.2.1 p3)
  have g1 := (jz_n3 w2.2.1 w2.2.2.1 p38)
  omega))))))))))))
theorem rr90_15 {d : Nat} {Q : jm_Q} {h : jm_H} {a0 : Nat} {a1 : Nat} {a2 : Nat} {v3 : Int} {v4 : Int} (w : (jR v4 ∧ (v4 < 0 → (jm_W dh_pr d 90 (5, [some (.inr (.inl a0)), some (.inr (.inl a1)), some (.inr (.inl a2)), some (.inl (jz (v3 + (-1)))), some (.inl (jz v4))], [], h) Q)) ∧ (0 ≤ v4 → (jm_T h a1 = 8 ∧ ∃ z41 : Int, jm_I h a1 1 = jz z41 ∧ jR v3 ∧ jR z41 ∧ (v3 = z41 → (jm_T h a0 = 4 ∧ ∃ f43 : Nat, jm_F h a0 5 = f43 ∧ jm_T h f43 = 61 ∧ ∃ n44 : Nat, jm_N h f43 = n44 ∧ jzi v3 n44 ∧ ∃ f45 : Nat, jm_F h f43 v3.toNat = f45 ∧ jm_T h f45 = 100 ∧ ∃ n46 : Nat, jm_N h f45 = n46 ∧ jzi v4 n46 ∧ ((jm_W dh_pr d 90 (15, [some (.inr (.inl a0)), some (.inr (.inl a1)), some (.inr (.inl a2)), some (.inl (jz v3)), some (.inl (jz (v4 + (-1))))], [], jm_sI h f45 v4.toNat (jz 0)) Q)))) ∧ (¬ v3 = z41 → (jm_T h a2 = 8 ∧ ∃ z47 : Int, jm_I h a2 1 = jz z47 ∧ jR z47 ∧ (¬ v4 = z47 → (∃ f49 : Nat, jm_F h a1 0 = f49 ∧ jm_T h f49 = 100 ∧ ∃ n50 : Nat, jm_N h f49 = n50 ∧ jzi v3 n50 ∧ ∃ z51 : Int, jm_I h f49 v3.toNat = jz z51 ∧ ∃ f52 : Nat, jm_F h a2 0 = f52 ∧ jm_T h f52 = 100 ∧ ∃ n53 : Nat, jm_N h f52 = n53 ∧ jzi v4 n53 ∧ ∃ z54 : Int, jm_I h f52 v4.toNat = jz z54 ∧ jR z51 ∧ jR z54 ∧ (¬ z51 = z54 → (jm_T h a0 = 4 ∧ ∃ f56 : Nat, jm_F h a0 5 = f56 ∧ jm_T h f56 = 61 ∧ ∃ n57 : Nat, jm_N h f56 = n57 ∧ jzi v3 n57 ∧ ∃ f58 : Nat, jm_F h f56 v3.toNat = f58 ∧ jzi (v3 + 1) n57 ∧ ∃ f59 : Nat, jm_F h f56 ((v3 + 1).toNat) = f59 ∧ jm_T h f59 = 100 ∧ ∃ n60 : Nat, jm_N h f59 = n60 ∧ jzi v4 n60 ∧ ∃ z61 : Int, jm_I h f59 v4.toNat = jz z61 ∧ jm_T h f58 = 100 ∧ ∃ n62 : Nat, jm_N h f58 = n62 ∧ jzi (v4 + 1) n62 ∧ ∃ z63 : Int, jm_I h f58 ((v4 + 1).toNat) = jz z63 ∧ jR z61 ∧ jR z63 ∧ jzi v4 n62 ∧ (jm_W dh_pr d 90 (15, [some (.inr (.inl a0)), some (.inr (.inl a1)), some (.inr (.inl a2)), some (.inl (jz v3)), some (.inl (jz (v4 + (-1))))], [], jm_sI h f58 v4.toNat (jz (if z61 < z63 then z63 else z61))) Q))) ∧ (z51 = z54 → (jm_T h a0 = 4 ∧ ∃ f64 : Nat, jm_F h a0 5 = f64 ∧ jm_T h f64 = 61 ∧ ∃ n65 : Nat, jm_N h f64 = n65 ∧ jzi v3 n65 ∧ ∃ f66 : Nat, jm_F h f64 v3.toNat = f66 ∧ jzi (v3 + 1) n65 ∧ ∃ f67 : Nat, jm_F h f64 ((v3 + 1).toNat) = f67 ∧ jm_T h f67 = 100 ∧ ∃ n68 : Nat, jm_N h f67 = n68 ∧ jzi (v4 + 1) n68 ∧ ∃ z69 : Int, jm_I h f67 ((v4 + 1).toNat) = jz z69 ∧ jm_T h f66 = 100 ∧ ∃ n70 : Nat, jm_N h f66 = n70 ∧ jzi v4 n70 ∧ ((jm_W dh_pr d 90 (15, [some (.inr (.inl a0)), some (.inr (.inl a1)), some (.inr (.inl a2)), some (.inl (jz v3)), some (.inl (jz (v4 + (-1))))], [], jm_sI h f66 v4.toNat (jz (z69 + 1))) Q)))))) ∧ (v4 = z47 → (jm_T h a0 = 4 ∧ ∃ f71 : Nat, jm_F h a0 5 = f71 ∧ jm_T h f71 = 61 ∧ ∃ n72 : Nat, jm_N h f71 = n72 ∧ jzi v3 n72 ∧ ∃ f73 : Nat, jm_F h f71 v3.toNat = f73 ∧ jm_T h f73 = 100 ∧ ∃ n74 : Nat, jm_N h f73 = n74 ∧ jzi v4 n74 ∧ ((jm_W dh_pr d 90 (15, [some (.inr (.inl a0)), some (.inr (.inl a1)), some (.inr (.inl a2)), some (.inl (jz v3)), some (.inl (jz (v4 + (-1))))], [], jm_sI h f73 v4.toNat (jz 0)) Q)))))))))) : jm_W dh_pr d 90 (15, [some (.inr (.inl a0)), some (.inr (.inl a1)), some (.inr (.inl a2)), some (.inl (jz v3)), some (.inl (jz v4))], [], h) Q :=
  (b90_15 (show (0 : Int32) = jz 0 from rfl) (fun p40 => (b90_133 (show ((-1) : Int32) = jz (-1) from rfl) (jz_add _ _) (w.2.1 (jz_c2 w.1 ⟨by decide, by decide⟩ p40)))) (fun p40 => ((w.2.2 (jz_n2 w.1 ⟨by decide, by decide⟩ p40)).2.elim fun z41 w41 => (b90_20 (w.2.2 (jz_n2 w.1 ⟨by decide, by decide⟩ p40)).1 w41.1 (fun p42 => ((w41.2.2.2.1 (jz_c0 w41.2.1 w41.2.2.1 p42)).2.elim fun f43 w43 => (w43.2.2.elim fun n44 w44 => (w44.2.2.elim fun f45 w45 => (w45.2.2.elim fun n46 w46 => (b90_37 (w41.2.2.2.1 (jz_c0 w41.2.1 w41.2.2.1 p42)).1 w43.1 w43.2.1 w44.1 (jz_in w44.2.1) (jz_ix w44.2.1.r) w45.1 (show (0 : Int32) = jz 0 from rfl) w45.2.1 w46.1 (jz_in w46.2.1) (jz_ix w46.2.1.r) (b90_47 (b90_127 (show ((-1) : Int32) = jz (-1) from rfl) (jz_add _ _) w46.2.2)))))))) (fun p42 => ((w41.2.2.2.2 (jz_n0 w41.2.1 w41.2.2.1 p42)).2.elim fun z47 w47 => (b90_28 (w41.2.2.2.2 (jz_n0 w41.2.1 w41.2.2.1 p42)).1 w47.1 (fun p48 => ((w47.2.2.1 (jz_c1 w.1 w47.2.1 p48)).elim fun f49 w49 => (w49.2.2.elim fun n50 w50 => (w50.2.2.elim fun z51 w51 => (w51.2.elim fun f52 w52 => (w52.2.2.elim fun n53 w53 => (w53.2.2.elim fun z54 w54 => (b90_50 (w.2.2 (jz_n2 w.1 ⟨by decide, by decide⟩ p40)).1 w49.1 w49.2.1 w50.1 (jz_in w50.2.1) (jz_ix w50.2.1.r) w51.1 (w41.2.2.2.2 (jz_n0 w41.2.1 w41.2.2.1 p42)).1 w52.1 w52.2.1 w53.1 (jz_in w53.2.1) (jz_ix w53.2.1.r) w54.1 (fun p55 => ((w54.2.2.2.1 (jz_c1 w54.2.1 w54.2.2.1 p55)).2.elim fun f56 w56 => (w56.2.2.elim fun n57 w57 => (w57.2.2.elim fun f58 w58 => (w58.2.2.elim fun f59 w59 => (w59.2.2.elim fun n60 w60 => (w60.2.2.elim fun z61 w61 => (w61.2.2.elim fun n62 w62 => (w62.2.2.elim fun z63 w63 => (b90_93 (w54.2.2.2.1 (jz_c1 w54.2.1 w54.2.2.1 p55)).1 w56.1 w56.2.1 w57.1 (jz_in w57.2.1) (jz_ix w50.2.1.r) w58.1 (w54.2.2.2.1 (jz_c1 w54.2.1 w54.2.2.1 p55)).1 w56.1 (show (1 : Int32) = jz 1 from rfl) (jz_add _ _) w56.2.1 w57.1 (jz_in w58.2.1) (jz_ix w58.2.1.r) w59.1 w59.2.1 w60.1 (jz_in w60.2.1) (jz_ix w53.2.1.r) w61.1 (w54.2.2.2.1 (jz_c1 w54.2.1 w54.2.2.1 p55)).1 w56.1 w56.2.1 w57.1 (jz_in w57.2.1) (jz_ix w50.2.1.r) w58.1 (show (1 : Int32) = jz 1 from rfl) (jz_add _ _) w61.2.1 w62.1 (jz_in w62.2.1) (jz_ix w62.2.1.r) w63.1 (jz_max w63.2.1 w63.2.2.1) w61.2.1 w62.1 (jz_in w63.2.2.2.1) (jz_ix w53.2.1.r) (b90_127 (show ((-1) : Int32) = jz (-1) from rfl) (jz_add _ _) w63.2.2.2.2))))))))))) (fun p55 => ((w54.2.2.2.2 (jz_n1 w54.2.1 w54.2.2.1 p55)).2.elim fun f64 w64 => (w64.2.2.elim fun n65 w65 => (w65.2.2.elim fun f66 w66 => (w66.2.2.elim fun f67 w67 => (w67.2.2.elim fun n68 w68 => (w68.2.2.elim fun z69 w69 => (w69.2.2.elim fun n70 w70 => (b90_66 (w54.2.2.2.2 (jz_n1 w54.2.1 w54.2.2.1 p55)).1 w64.1 w64.2.1 w65.1 (jz_in w65.2.1) (jz_ix w50.2.1.r) w66.1 (w54.2.2.2.2 (jz_n1 w54.2.1 w54.2.2.1 p55)).1 w64.1 (show (1 : Int32) = jz 1 from rfl) (jz_add _ _) w64.2.1 w65.1 (jz_in w66.2.1) (jz_ix w66.2.1.r) w67.1 (show (1 : Int32) = jz 1 from rfl) (jz_add _ _) w67.2.1 w68.1 (jz_in w68.2.1) (jz_ix w68.2.1.r) w69.1 (show (1 : Int32) = jz 1 from rfl) (jz_add _ _) w69.2.1 w70.1 (jz_in w70.2.1) (jz_ix w53.2.1.r) (b90_90 (b90_127 (show ((-1) : Int32) = jz (-1) from rfl) (jz_add _ _) w70.2.2))))))))))))))))))) (fun p48 => ((w47.2.2.2 (jz_n1 w.1 w47.2.1 p48)).2.elim fun f71 w71 => (w71.2.2.elim fun n72 w72 => (w72.2.2.elim fun f73 w73 => (w73.2.2.elim fun n74 w74 => (b90_37 (w47.2.2.2 (jz_n1 w.1 w47.2.1 p48)).1 w71.1 w71.2.1 w72.1 (jz_in w72.2.1) (jz_ix w72.2.1.r) w73.1 (show (0 : Int32) = jz 0 from rfl) w73.2.1 w74.1 (jz_in w74.2.1) (jz_ix w74.2.1.r) (b90_47 (b90_127 (show ((-1) : Int32) = jz (-1) from rfl) (jz_add _ _) w74.2.2)))))))))))))))

