/-! The fields of the classes are words of the tables. Written by program. -/
theorem dh_u1 : ∀ k, k < 12 → u_lay "DeltaHistory" dh_T1 k ∈ dh_W
  | 0, _ => dh_m1 (i := 225) rfl rfl
  | 1, _ => dh_m1 (i := 227) rfl rfl
  | 2, _ => dh_m1 (i := 229) rfl rfl
  | 3, _ => dh_m1 (i := 231) rfl rfl
  | 4, _ => dh_m1 (i := 233) rfl rfl
  | 5, _ => dh_m1 (i := 235) rfl rfl
  | 6, _ => dh_m1 (i := 237) rfl rfl
  | 7, _ => dh_m1 (i := 239) rfl rfl
  | 8, _ => dh_m2 (i := 1) rfl rfl
  | 9, _ => dh_m2 (i := 3) rfl rfl
  | 10, _ => dh_m2 (i := 5) rfl rfl
  | 11, _ => dh_m2 (i := 7) rfl rfl
  | k + 12, h => absurd h (by omega)
theorem dh_u1i : Cond.instantiable "DeltaHistory" 12 ∈ dh_W := dh_m1 (i := 20) rfl rfl
theorem dh_u2 : ∀ k, k < 43 → u_lay "DeltaHistoryModel" dh_T2 k ∈ dh_W
  | 0, _ => dh_m4 (i := 21) rfl rfl
  | 1, _ => dh_m4 (i := 23) rfl rfl
  | 2, _ => dh_m4 (i := 25) rfl rfl
  | 3, _ => dh_m4 (i := 27) rfl rfl
  | 4, _ => dh_m4 (i := 29) rfl rfl
  | 5, _ => dh_m4 (i := 31) rfl rfl
  | 6, _ => dh_m4 (i := 33) rfl rfl
  | 7, _ => dh_m4 (i := 35) rfl rfl
  | 8, _ => dh_m4 (i := 37) rfl rfl
  | 9, _ => dh_m4 (i := 39) rfl rfl
  | 10, _ => dh_m4 (i := 41) rfl rfl
  | 11, _ => dh_m4 (i := 43) rfl rfl
  | 12, _ => dh_m4 (i := 45) rfl rfl
  | 13, _ => dh_m4 (i := 47) rfl rfl
  | 14, _ => dh_m4 (i := 49) rfl rfl
  | 15, _ => dh_m4 (i := 51) rfl rfl
  | 16, _ => dh_m4 (i := 53) rfl rfl
  | 17, _ => dh_m4 (i := 55) rfl rfl
  | 18, _ => dh_m4 (i := 57) rfl rfl
  | 19, _ => dh_m4 (i := 59) rfl rfl
  | 20, _ => dh_m4 (i := 61) rfl rfl
  | 21, _ => dh_m4 (i := 63) rfl rfl
  | 22, _ => dh_m4 (i := 65) rfl rfl
  | 23, _ => dh_m4 (i := 67) rfl rfl
  | 24, _ => dh_m4 (i := 69) rfl rfl
  | 25, _ => dh_m4 (i := 71) rfl rfl
  | 26, _ => dh_m4 (i := 73) rfl rfl
  | 27, _ => dh_m4 (i := 75) rfl rfl
  | 28, _ => dh_m4 (i := 77) rfl rfl
  | 29, _ => dh_m4 (i := 79) rfl rfl
  | 30, _ => dh_m4 (i := 81) rfl rfl
  | 31, _ => dh_m4 (i := 83) rfl rfl
  | 32, _ => dh_m4 (i := 85) rfl rfl
  | 33, _ => dh_m4 (i := 87) rfl rfl
  | 34, _ => dh_m4 (i := 89) rfl rfl
  | 35, _ => dh_m4 (i := 91) rfl rfl
  | 36, _ => dh_m4 (i := 93) rfl rfl
  | 37, _ => dh_m4 (i := 95) rfl rfl
  | 38, _ => dh_m4 (i := 97) rfl rfl
  | 39, _ => dh_m4 (i := 99) rfl rfl
  | 40, _ => dh_m4 (i := 101) rfl rfl
  | 41, _ => dh_m4 (i := 103) rfl rfl
  | 42, _ => dh_m4 (i := 105) rfl rfl
  | k + 43, h => absurd h (by omega)
theorem dh_u2i : Cond.instantiable "DeltaHistoryModel" 43 ∈ dh_W := dh_m3 (i := 213) rfl rfl
theorem dh_u3 : ∀ k, k < 3 → u_lay "DeltaHistory$Bytes" dh_T3 k ∈ dh_W
  | 0, _ => dh_m1 (i := 101) rfl rfl
  | 1, _ => dh_m1 (i := 103) rfl rfl
  | 2, _ => dh_m1 (i := 105) rfl rfl
  | k + 3, h => absurd h (by omega)
theorem dh_u3i : Cond.instantiable "DeltaHistory$Bytes" 3 ∈ dh_W := dh_m1 (i := 89) rfl rfl
theorem dh_u4 : ∀ k, k < 9 → u_lay "DeltaHistory$Delta" dh_T4 k ∈ dh_W
  | 0, _ => dh_m1 (i := 69) rfl rfl
  | 1, _ => dh_m1 (i := 71) rfl rfl
  | 2, _ => dh_m1 (i := 73) rfl rfl
  | 3, _ => dh_m1 (i := 75) rfl rfl
  | 4, _ => dh_m1 (i := 77) rfl rfl
  | 5, _ => dh_m1 (i := 79) rfl rfl
  | 6, _ => dh_m1 (i := 81) rfl rfl
  | 7, _ => dh_m1 (i := 83) rfl rfl
  | 8, _ => dh_m1 (i := 85) rfl rfl
  | k + 9, h => absurd h (by omega)
theorem dh_u4i : Cond.instantiable "DeltaHistory$Delta" 9 ∈ dh_W := dh_m1 (i := 48) rfl rfl
theorem dh_u5 : ∀ k, k < 2 → u_lay "DeltaHistory$History" dh_T5 k ∈ dh_W
  | 0, _ => dh_m1 (i := 204) rfl rfl
  | 1, _ => dh_m1 (i := 206) rfl rfl
  | k + 2, h => absurd h (by omega)
theorem dh_u5i : Cond.instantiable "DeltaHistory$History" 2 ∈ dh_W := dh_m1 (i := 131) rfl rfl
theorem dh_u6 : ∀ k, k < 1 → u_lay "DeltaHistory$Reader" dh_T6 k ∈ dh_W
  | 0, _ => dh_m1 (i := 127) rfl rfl
  | k + 1, h => absurd h (by omega)
theorem dh_u6i : Cond.instantiable "DeltaHistory$Reader" 1 ∈ dh_W := dh_m1 (i := 121) rfl rfl
theorem dh_u7 : ∀ k, k < 10 → u_lay "DeltaHistory$Revision" dh_T7 k ∈ dh_W
  | 0, _ => dh_m1 (i := 175) rfl rfl
  | 1, _ => dh_m1 (i := 177) rfl rfl
  | 2, _ => dh_m1 (i := 179) rfl rfl
  | 3, _ => dh_m1 (i := 181) rfl rfl
  | 4, _ => dh_m1 (i := 183) rfl rfl
  | 5, _ => dh_m1 (i := 185) rfl rfl
  | 6, _ => dh_m1 (i := 187) rfl rfl
  | 7, _ => dh_m1 (i := 189) rfl rfl
  | 8, _ => dh_m1 (i := 191) rfl rfl
  | 9, _ => dh_m1 (i := 193) rfl rfl
  | k + 10, h => absurd h (by omega)
theorem dh_u7i : Cond.instantiable "DeltaHistory$Revision" 10 ∈ dh_W := dh_m1 (i := 138) rfl rfl
theorem dh_u8 : ∀ k, k < 2 → u_lay "DeltaHistory$Text" dh_T8 k ∈ dh_W
  | 0, _ => dh_m1 (i := 41) rfl rfl
  | 1, _ => dh_m1 (i := 43) rfl rfl
  | k + 2, h => absurd h (by omega)
theorem dh_u8i : Cond.instantiable "DeltaHistory$Text" 2 ∈ dh_W := dh_m1 (i := 28) rfl rfl
theorem dh_u9 : ∀ k, k < 1 → u_lay "DeltaHistory$Writer" dh_T9 k ∈ dh_W
  | 0, _ => dh_m1 (i := 117) rfl rfl
  | k + 1, h => absurd h (by omega)
theorem dh_u9i : Cond.instantiable "DeltaHistory$Writer" 1 ∈ dh_W := dh_m1 (i := 109) rfl rfl
/-- a class's fields: their types, their names apart -/
def dh_fok (t : Nat) (q : vw_C) : Bool := (List.range q.2.2).all (fun k => decide (parseFieldDescriptor (q.2.1 k).2.2.1 = some (dh_ty t k))) && (List.range q.2.2).all (fun a => (List.range q.2.2).all (fun b => decide (a = b) || decide ((q.2.1 a).2.1 ≠ (q.2.1 b).2.1)))
theorem dh_fok_spec {t : Nat} {q : vw_C} (h : dh_fok t q = true) : (∀ k, k < q.2.2 → parseFieldDescriptor (q.2.1 k).2.2.1 = some (dh_ty t k)) ∧ (∀ a, a < q.2.2 → ∀ b, b < q.2.2 → a ≠ b → (q.2.1 a).2.1 ≠ (q.2.1 b).2.1) := by
  unfold dh_fok at h
  simp only [Bool.and_eq_true, List.all_eq_true, List.mem_range, decide_eq_true_eq, Bool.or_eq_true] at h
  exact ⟨h.1, fun a ha b hb hne => (h.2 a ha b hb).resolve_left hne⟩
def dh_clsP (t : Nat) (q : vw_C) : Prop := t < 60 ∧ ((∀ w ∈ u_ws q.1 q.2.1 q.2.2, w ∈ dh_W) ∧ (∀ k, k < q.2.2 → parseFieldDescriptor (q.2.1 k).2.2.1 = some (dh_ty t k)) ∧ (∀ a, a < q.2.2 → ∀ b, b < q.2.2 → a ≠ b → (q.2.1 a).2.1 ≠ (q.2.1 b).2.1)) ∧ Cond.instantiable q.1 q.2.2 ∈ dh_W ∧ dh_cn t = q.1
theorem dh_clsP_of {t : Nat} {q : vw_C} (h1 : t < 60) (h2 : ∀ k, k < q.2.2 → u_lay q.1 q.2.1 k ∈ dh_W) (h3 : dh_fok t q = true) (h4 : Cond.instantiable q.1 q.2.2 ∈ dh_W) (h5 : dh_cn t = q.1) : dh_clsP t q := by
  refine ⟨h1, ⟨fun w hw => ?_, dh_fok_spec h3⟩, h4, h5⟩
  obtain ⟨k, hk, rfl⟩ := List.mem_map.mp hw
  exact h2 k (List.mem_range.mp hk)
theorem dh_k1 : dh_clsP 1 ("DeltaHistory", dh_T1, 12) := dh_clsP_of (by decide) dh_u1 (by decide +kernel) dh_u1i (by decide +kernel)
theorem dh_k2 : dh_clsP 2 ("DeltaHistoryModel", dh_T2, 43) := dh_clsP_of (by decide) dh_u2 (by decide +kernel) dh_u2i (by decide +kernel)
theorem dh_k3 : dh_clsP 3 ("DeltaHistory$Bytes", dh_T3, 3) := dh_clsP_of (by decide) dh_u3 (by decide +kernel) dh_u3i (by decide +kernel)
theorem dh_k4 : dh_clsP 4 ("DeltaHistory$Delta", dh_T4, 9) := dh_clsP_of (by decide) dh_u4 (by decide +kernel) dh_u4i (by decide +kernel)
theorem dh_k5 : dh_clsP 5 ("DeltaHistory$History", dh_T5, 2) := dh_clsP_of (by decide) dh_u5 (by decide +kernel) dh_u5i (by decide +kernel)
theorem dh_k6 : dh_clsP 6 ("DeltaHistory$Reader", dh_T6, 1) := dh_clsP_of (by decide) dh_u6 (by decide +kernel) dh_u6i (by decide +kernel)
theorem dh_k7 : dh_clsP 7 ("DeltaHistory$Revision", dh_T7, 10) := dh_clsP_of (by decide) dh_u7 (by decide +kernel) dh_u7i (by decide +kernel)
theorem dh_k8 : dh_clsP 8 ("DeltaHistory$Text", dh_T8, 2) := dh_clsP_of (by decide) dh_u8 (by decide +kernel) dh_u8i (by decide +kernel)
theorem dh_k9 : dh_clsP 9 ("DeltaHistory$Writer", dh_T9, 1) := dh_clsP_of (by decide) dh_u9 (by decide +kernel) dh_u9i (by decide +kernel)
theorem dh_cls : ∀ t q, 0 < t → dh_cl[t]? = some q → dh_clsP t q
  | 0, _, h, _ => absurd h (by decide)
  | 1, q, _, h => by cases h; exact dh_k1
  | 2, q, _, h => by cases h; exact dh_k2
  | 3, q, _, h => by cases h; exact dh_k3
  | 4, q, _, h => by cases h; exact dh_k4
  | 5, q, _, h => by cases h; exact dh_k5
  | 6, q, _, h => by cases h; exact dh_k6
  | 7, q, _, h => by cases h; exact dh_k7
  | 8, q, _, h => by cases h; exact dh_k8
  | 9, q, _, h => by cases h; exact dh_k9
  | t + 10, q, _, h => by cases h
