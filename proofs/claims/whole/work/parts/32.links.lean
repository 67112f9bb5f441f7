/-! Each link is a word of the tables: by its place. Written by program. -/
def dh_W : List Cond := lw_tbl.filter jm_goodW
theorem dh_m0 {i : Nat} {w : Cond} (h : (k2_sels lw_privs)[i]? = some w) (g : jm_goodW w = true) : w ∈ dh_W := List.mem_filter.mpr ⟨List.mem_append_left _ (List.mem_of_getElem? h), g⟩
theorem dh_m1 {i : Nat} {w : Cond} (h : tables_1_1[i]? = some w) (g : jm_goodW w = true) : w ∈ dh_W := by
  refine List.mem_filter.mpr ⟨List.mem_append_right _ ?_, g⟩
  show w ∈ tables_1_1 ++ (tables_1_2 ++ (tables_1_3 ++ (tables_1_4 ++ tables_1_5)))
  exact List.mem_append_left _ (List.mem_of_getElem? h)
theorem dh_m2 {i : Nat} {w : Cond} (h : tables_1_2[i]? = some w) (g : jm_goodW w = true) : w ∈ dh_W := by
  refine List.mem_filter.mpr ⟨List.mem_append_right _ ?_, g⟩
  show w ∈ tables_1_1 ++ (tables_1_2 ++ (tables_1_3 ++ (tables_1_4 ++ tables_1_5)))
  exact List.mem_append_right _ (List.mem_append_left _ (List.mem_of_getElem? h))
theorem dh_m3 {i : Nat} {w : Cond} (h : tables_1_3[i]? = some w) (g : jm_goodW w = true) : w ∈ dh_W := by
  refine List.mem_filter.mpr ⟨List.mem_append_right _ ?_, g⟩
  show w ∈ tables_1_1 ++ (tables_1_2 ++ (tables_1_3 ++ (tables_1_4 ++ tables_1_5)))
  exact List.mem_append_right _ (List.mem_append_right _ (List.mem_append_left _ (List.mem_of_getElem? h)))
theorem dh_m4 {i : Nat} {w : Cond} (h : tables_1_4[i]? = some w) (g : jm_goodW w = true) : w ∈ dh_W := by
  refine List.mem_filter.mpr ⟨List.mem_append_right _ ?_, g⟩
  show w ∈ tables_1_1 ++ (tables_1_2 ++ (tables_1_3 ++ (tables_1_4 ++ tables_1_5)))
  exact List.mem_append_right _ (List.mem_append_right _ (List.mem_append_right _ (List.mem_append_left _ (List.mem_of_getElem? h))))
theorem dh_m5 {i : Nat} {w : Cond} (h : tables_1_5[i]? = some w) (g : jm_goodW w = true) : w ∈ dh_W := by
  refine List.mem_filter.mpr ⟨List.mem_append_right _ ?_, g⟩
  show w ∈ tables_1_1 ++ (tables_1_2 ++ (tables_1_3 ++ (tables_1_4 ++ tables_1_5)))
  exact List.mem_append_right _ (List.mem_append_right _ (List.mem_append_right _ (List.mem_append_right _ (List.mem_of_getElem? h))))
section JK
variable {cn : Nat → String} {J : jm_J} {Wg : List Cond} {M : jm_M} {nl rc : Nat → Nat} {o idx x y : Nat}
theorem jk_1 (w : vw_C) (h0 : 0 < x) (h1 : J.1[x]? = some w) (h2 : y < w.2.2) (h3 : (w.2.1 y).1 = w.1) (h4 : Cond.fieldLink (cn o) idx w.1 (w.2.1 y).2.1 (w.2.1 y).2.2.1 ∈ Wg) : jm_kok cn J Wg M nl rc (o, idx, 1, x, y) := by
  unfold jm_kok; exact ⟨h0, w, h1, h2, h3, h4⟩
def jk_ok (M : jm_M) (x n : Nat) : Prop := ((M x).1.cls ≠ "java/lang/invoke/MethodHandle" ∧ (M x).1.cls ≠ "java/lang/invoke/VarHandle") ∧ plainFor (M x).1 = true ∧ (parseMethodDescriptor (M x).1.desc).map (fun d => d.parameters.length) = some n
theorem jk_2 (w : vw_C) (h0 : 0 < rc x) (h1 : J.1[rc x]? = some w) (h2 : w.1 = (M x).1.cls) (h3 : Cond.selects w.1 (M x).1 (M x).1 ∈ Wg) (h4 : jg_cw M nl Wg x) (h5 : Cond.methodLink (cn o) idx (M x).1 ∈ Wg) (h6 : Cond.instanceMethod (M x).1 ∈ Wg) (h7 : jk_ok M x y) : jm_kok cn J Wg M nl rc (o, idx, 2, x, y + 1) := by
  unfold jm_kok
  refine ⟨h0, ⟨w, h1, h2, h3⟩, h4, h5, h6, h7.1, h7.2.1, ?_⟩
  obtain ⟨-, -, h8⟩ := h7
  dsimp only
  cases hp : parseMethodDescriptor (M x).1.desc with
  | none => rw [hp] at h8; cases h8
  | some d => rw [hp] at h8; simp only [Option.map_some, Option.some.injEq] at h8 ⊢; rw [h8]
theorem jk_3 (h0 : rc x = 0) (h4 : jg_cw M nl Wg x) (h5 : Cond.methodLink (cn o) idx (M x).1 ∈ Wg) (h6 : Cond.static (M x).1 ∈ Wg) (h6' : Cond.initialized (M x).1.cls ∈ Wg) (h7 : jk_ok M x y) : jm_kok cn J Wg M nl rc (o, idx, 3, x, y) := by
  unfold jm_kok
  exact ⟨h0, h4, h5, h6, h6', h7.1, h7.2.1, h7.2.2⟩
theorem jk_4 (h0 : 0 < rc x ∧ rc x < 60) (h1 : (M x).1.name = "<init>") (h2 : Cond.code (M x).1 (M x).2.1 (nl x) none ∈ Wg) (h4 : jg_cw M nl Wg x) (h5 : Cond.methodLink (cn o) idx (M x).1 ∈ Wg) (h6 : Cond.instanceMethod (M x).1 ∈ Wg) (h7 : jk_ok M x y) : jm_kok cn J Wg M nl rc (o, idx, 4, x, y + 1) := by
  unfold jm_kok
  refine ⟨h0, h1, h2, h4, h5, h6, h7.1, h7.2.1, ?_⟩
  obtain ⟨-, -, h8⟩ := h7
  dsimp only
  cases hp : parseMethodDescriptor (M x).1.desc with
  | none => rw [hp] at h8; cases h8
  | some d => rw [hp] at h8; simp only [Option.map_some, Option.some.injEq] at h8 ⊢; rw [h8]
theorem jk_5 (w : vw_C) (h0 : 0 < x) (h1 : J.1[x]? = some w) (h2 : y = w.2.2) (h3 : Cond.classLink (cn o) idx w.1 ∈ Wg) (h4 : Cond.instantiable w.1 w.2.2 ∈ Wg) (h5 : Cond.initialized w.1 ∈ Wg) (h6 : (List.range w.2.2).all (fun k => jm_isI (J.2.1 x k) || jm_isR (J.2.1 x k)) = true) : jm_kok cn J Wg M nl rc (o, idx, 5, x, y) := by
  unfold jm_kok
  refine ⟨h0, w, h1, h2, h3, h4, h5, fun k hk => ?_⟩
  have := List.all_eq_true.mp h6 k (List.mem_range.mpr hk)
  simpa only [Bool.or_eq_true] using this
theorem jk_6 (C : String) (h0 : 60 ≤ x ∧ x < 99) (h1 : J.2.2.1 x = some (.object C)) (h2 : Cond.classLink (cn o) idx C ∈ Wg) : jm_kok cn J Wg M nl rc (o, idx, 6, x, 0) := by
  unfold jm_kok; exact ⟨h0, C, h1, h2⟩
theorem jk_7 (nm : String) (h0 : J.2.2.2 x = some nm) (h1 : 200 ≤ x) (h2 : x % 2 = 0) (h3 : Cond.classLink (cn o) idx nm ∈ Wg) (h4 : Cond.instantiable nm 6 ∈ Wg) (h5 : Cond.initialized nm ∈ Wg) : jm_kok cn J Wg M nl rc (o, idx, 7, x, 0) := by
  unfold jm_kok; exact ⟨nm, h0, h1, h2, h3, h4, h5⟩
theorem jk_8 (nm : String) (h0 : J.2.2.2 x = some nm) (h1 : 200 ≤ x) (h2 : x % 2 = 0) (h3 : Bundle.fit nm = true) (h4 : ∀ a ∈ Bundle.ownAtoms0 (cn o) idx nm jm_up2, a ∈ Wg ∨ a ∈ jx_st) : jm_kok cn J Wg M nl rc (o, idx, 8, x, 0) := by
  unfold jm_kok; exact ⟨nm, jm_up2, h0, h1, h2, h3, jm_up2_fit, rfl, h4⟩
theorem jk_9 (h1 : Cond.methodLink (cn o) idx objectInit ∈ Wg) (h2 : Cond.instanceMethod objectInit ∈ Wg) (h3 : Cond.code objectInit ⟨#[0xb1]⟩ 1 none ∈ Wg) : jm_kok cn J Wg M nl rc (o, idx, 9, 0, 0) := by
  unfold jm_kok; exact ⟨h1, h2, h3⟩
theorem jk_10 (h1 : Cond.methodLink (cn o) idx Lib.Math.max.name ∈ Wg) (h2 : Cond.static Lib.Math.max.name ∈ Wg) (h3 : Cond.initialized "java/lang/Math" ∈ Wg) (h4 : Cond.code Lib.Math.max.name Lib.Math.max.code 2 (some .int) ∈ Wg) : jm_kok cn J Wg M nl rc (o, idx, 10, 0, 0) := by
  unfold jm_kok; exact ⟨h1, h2, h3, h4⟩
theorem jk_12 (h1 : Cond.methodLink (cn o) idx arraycopyName ∈ Wg) (h2 : Cond.native arraycopyName ∈ Wg) (h3 : Cond.static arraycopyName ∈ Wg) (h4 : Cond.initialized "java/lang/System" ∈ Wg) : jm_kok cn J Wg M nl rc (o, idx, 12, 0, 0) := by
  unfold jm_kok; exact ⟨h1, h2, h3, h4⟩
theorem jk_13 (h0 : 60 ≤ x ∧ x < 99) (h1 : J.2.2.1 x = some (.array .int)) (h2 : Cond.classLink (cn o) idx "[[I" ∈ Wg) : jm_kok cn J Wg M nl rc (o, idx, 13, x, 0) := by
  unfold jm_kok; exact ⟨h0, h1, h2⟩
end JK
theorem dh_cw_0 : jg_cw dh_M dh_nl dh_W 0 := Or.inl ⟨rfl, dh_m1 (i := 23) rfl rfl⟩
theorem dh_ok_0 : jk_ok dh_M 0 0 := ⟨⟨by decide +kernel, by decide +kernel⟩, by decide +kernel, by decide +kernel⟩
theorem dh_cw_1 : jg_cw dh_M dh_nl dh_W 1 := Or.inl ⟨rfl, dh_m2 (i := 13) rfl rfl⟩
theorem dh_ok_1 : jk_ok dh_M 1 3 := ⟨⟨by decide +kernel, by decide +kernel⟩, by decide +kernel, by decide +kernel⟩
theorem dh_cw_2 : jg_cw dh_M dh_nl dh_W 2 := Or.inl ⟨rfl, dh_m2 (i := 36) rfl rfl⟩
theorem dh_ok_2 : jk_ok dh_M 2 2 := ⟨⟨by decide +kernel, by decide +kernel⟩, by decide +kernel, by decide +kernel⟩
theorem dh_cw_3 : jg_cw dh_M dh_nl dh_W 3 := Or.inl ⟨rfl, dh_m2 (i := 44) rfl rfl⟩
theorem dh_ok_3 : jk_ok dh_M 3 1 := ⟨⟨by decide +kernel, by decide +kernel⟩, by decide +kernel, by decide +kernel⟩
theorem dh_cw_4 : jg_cw dh_M dh_nl dh_W 4 := Or.inl ⟨rfl, dh_m2 (i := 52) rfl rfl⟩
theorem dh_ok_4 : jk_ok dh_M 4 0 := ⟨⟨by decide +kernel, by decide +kernel⟩, by decide +kernel, by decide +kernel⟩
theorem dh_cw_5 : jg_cw dh_M dh_nl dh_W 5 := Or.inl ⟨rfl, dh_m2 (i := 56) rfl rfl⟩
theorem dh_ok_5 : jk_ok dh_M 5 1 := ⟨⟨by decide +kernel, by decide +kernel⟩, by decide +kernel, by decide +kernel⟩
theorem dh_cw_6 : jg_cw dh_M dh_nl dh_W 6 := Or.inl ⟨rfl, dh_m2 (i := 233) rfl rfl⟩
theorem dh_ok_6 : jk_ok dh_M 6 2 := ⟨⟨by decide +kernel, by decide +kernel⟩, by decide +kernel, by decide +kernel⟩
theorem dh_cw_7 : jg_cw dh_M dh_nl dh_W 7 := Or.inl ⟨rfl, dh_m3 (i := 111) rfl rfl⟩
theorem dh_ok_7 : jk_ok dh_M 7 2 := ⟨⟨by decide +kernel, by decide +kernel⟩, by decide +kernel, by decide +kernel⟩
theorem dh_cw_8 : jg_cw dh_M dh_nl dh_W 8 := Or.inl ⟨rfl, dh_m3 (i := 123) rfl rfl⟩
theorem dh_ok_8 : jk_ok dh_M 8 2 := ⟨⟨by decide +kernel, by decide +kernel⟩, by decide +kernel, by decide +kernel⟩
theorem dh_cw_9 : jg_cw dh_M dh_nl dh_W 9 := Or.inl ⟨rfl, dh_m3 (i := 150) rfl rfl⟩
theorem dh_ok_9 : jk_ok dh_M 9 1 := ⟨⟨by decide +kernel, by decide +kernel⟩, by decide +kernel, by decide +kernel⟩
theorem dh_cw_10 : jg_cw dh_M dh_nl dh_W 10 := Or.inl ⟨rfl, dh_m2 (i := 64) rfl rfl⟩
theorem dh_ok_10 : jk_ok dh_M 10 1 := ⟨⟨by decide +kernel, by decide +kernel⟩, by decide +kernel, by decide +kernel⟩
theorem dh_cw_11 : jg_cw dh_M dh_nl dh_W 11 := Or.inl ⟨rfl, dh_m3 (i := 158) rfl rfl⟩
theorem dh_ok_11 : jk_ok dh_M 11 2 := ⟨⟨by decide +kernel, by decide +kernel⟩, by decide +kernel, by decide +kernel⟩
theorem dh_cw_12 : jg_cw dh_M dh_nl dh_W 12 := Or.inl ⟨rfl, dh_m2 (i := 68) rfl rfl⟩
theorem dh_ok_12 : jk_ok dh_M 12 0 := ⟨⟨by decide +kernel, by decide +kernel⟩, by decide +kernel, by decide +kernel⟩
theorem dh_cw_13 : jg_cw dh_M dh_nl dh_W 13 := Or.inl ⟨rfl, dh_m2 (i := 206) rfl rfl⟩
theorem dh_ok_13 : jk_ok dh_M 13 0 := ⟨⟨by decide +kernel, by decide +kernel⟩, by decide +kernel, by decide +kernel⟩
theorem dh_cw_14 : jg_cw dh_M dh_nl dh_W 14 := Or.inl ⟨rfl, dh_m3 (i := 181) rfl rfl⟩
theorem dh_ok_14 : jk_ok dh_M 14 2 := ⟨⟨by decide +kernel, by decide +kernel⟩, by decide +kernel, by decide +kernel⟩
theorem dh_cw_15 : jg_cw dh_M dh_nl dh_W 15 := Or.inl ⟨rfl, dh_m3 (i := 188) rfl rfl⟩
theorem dh_ok_15 : jk_ok dh_M 15 2 := ⟨⟨by decide +kernel, by decide +kernel⟩, by decide +kernel, by decide +kernel⟩
theorem dh_cw_16 : jg_cw dh_M dh_nl dh_W 16 := Or.inl ⟨rfl, dh_m3 (i := 199) rfl rfl⟩
theorem dh_ok_16 : jk_ok dh_M 16 2 := ⟨⟨by decide +kernel, by decide +kernel⟩, by decide +kernel, by decide +kernel⟩
theorem dh_cw_17 : jg_cw dh_M dh_nl dh_W 17 := Or.inl ⟨rfl, dh_m3 (i := 210) rfl rfl⟩
theorem dh_ok_17 : jk_ok dh_M 17 1 := ⟨⟨by decide +kernel, by decide +kernel⟩, by decide +kernel, by decide +kernel⟩
theorem dh_cw_18 : jg_cw dh_M dh_nl dh_W 18 := Or.inl ⟨rfl, dh_m2 (i := 210) rfl rfl⟩
theorem dh_ok_18 : jk_ok dh_M 18 2 := ⟨⟨by decide +kernel, by decide +kernel⟩, by decide +kernel, by decide +kernel⟩
theorem dh_cw_19 : jg_cw dh_M dh_nl dh_W 19 := Or.inl ⟨rfl, dh_m2 (i := 219) rfl rfl⟩
theorem dh_ok_19 : jk_ok dh_M 19 1 := ⟨⟨by decide +kernel, by decide +kernel⟩, by decide +kernel, by decide +kernel⟩
theorem dh_cw_20 : jg_cw dh_M dh_nl dh_W 20 := Or.inl ⟨rfl, dh_m2 (i := 223) rfl rfl⟩
theorem dh_ok_20 : jk_ok dh_M 20 2 := ⟨⟨by decide +kernel, by decide +kernel⟩, by decide +kernel, by decide +kernel⟩
theorem dh_cw_21 : jg_cw dh_M dh_nl dh_W 21 := Or.inl ⟨rfl, dh_m2 (i := 236) rfl rfl⟩
theorem dh_ok_21 : jk_ok dh_M 21 1 := ⟨⟨by decide +kernel, by decide +kernel⟩, by decide +kernel, by decide +kernel⟩
theorem dh_cw_22 : jg_cw dh_M dh_nl dh_W 22 := Or.inl ⟨rfl, dh_m3 (i := 64) rfl rfl⟩
theorem dh_ok_22 : jk_ok dh_M 22 1 := ⟨⟨by decide +kernel, by decide +kernel⟩, by decide +kernel, by decide +kernel⟩
theorem dh_cw_23 : jg_cw dh_M dh_nl dh_W 23 := Or.inl ⟨rfl, dh_m3 (i := 115) rfl rfl⟩
theorem dh_ok_23 : jk_ok dh_M 23 2 := ⟨⟨by decide +kernel, by decide +kernel⟩, by decide +kernel, by decide +kernel⟩
theorem dh_cw_24 : jg_cw dh_M dh_nl dh_W 24 := Or.inl ⟨rfl, dh_m3 (i := 84) rfl rfl⟩
theorem dh_ok_24 : jk_ok dh_M 24 2 := ⟨⟨by decide +kernel, by decide +kernel⟩, by decide +kernel, by decide +kernel⟩
theorem dh_cw_25 : jg_cw dh_M dh_nl dh_W 25 := Or.inl ⟨rfl, dh_m3 (i := 97) rfl rfl⟩
theorem dh_ok_25 : jk_ok dh_M 25 1 := ⟨⟨by decide +kernel, by decide +kernel⟩, by decide +kernel, by decide +kernel⟩
theorem dh_cw_26 : jg_cw dh_M dh_nl dh_W 26 := Or.inl ⟨rfl, dh_m2 (i := 202) rfl rfl⟩
theorem dh_ok_26 : jk_ok dh_M 26 0 := ⟨⟨by decide +kernel, by decide +kernel⟩, by decide +kernel, by decide +kernel⟩
theorem dh_cw_27 : jg_cw dh_M dh_nl dh_W 27 := Or.inl ⟨rfl, dh_m3 (i := 216) rfl rfl⟩
theorem dh_ok_27 : jk_ok dh_M 27 0 := ⟨⟨by decide +kernel, by decide +kernel⟩, by decide +kernel, by decide +kernel⟩
theorem dh_cw_28 : jg_cw dh_M dh_nl dh_W 28 := Or.inl ⟨rfl, dh_m4 (i := 111) rfl rfl⟩
theorem dh_ok_28 : jk_ok dh_M 28 0 := ⟨⟨by decide +kernel, by decide +kernel⟩, by decide +kernel, by decide +kernel⟩
theorem dh_cw_29 : jg_cw dh_M dh_nl dh_W 29 := Or.inl ⟨rfl, dh_m4 (i := 121) rfl rfl⟩
theorem dh_ok_29 : jk_ok dh_M 29 1 := ⟨⟨by decide +kernel, by decide +kernel⟩, by decide +kernel, by decide +kernel⟩
theorem dh_cw_30 : jg_cw dh_M dh_nl dh_W 30 := Or.inl ⟨rfl, dh_m4 (i := 118) rfl rfl⟩
theorem dh_ok_30 : jk_ok dh_M 30 4 := ⟨⟨by decide +kernel, by decide +kernel⟩, by decide +kernel, by decide +kernel⟩
theorem dh_cw_31 : jg_cw dh_M dh_nl dh_W 31 := Or.inl ⟨rfl, dh_m4 (i := 115) rfl rfl⟩
theorem dh_ok_31 : jk_ok dh_M 31 3 := ⟨⟨by decide +kernel, by decide +kernel⟩, by decide +kernel, by decide +kernel⟩
theorem dh_cw_32 : jg_cw dh_M dh_nl dh_W 32 := Or.inl ⟨rfl, dh_m4 (i := 125) rfl rfl⟩
theorem dh_ok_32 : jk_ok dh_M 32 2 := ⟨⟨by decide +kernel, by decide +kernel⟩, by decide +kernel, by decide +kernel⟩
theorem dh_cw_33 : jg_cw dh_M dh_nl dh_W 33 := Or.inl ⟨rfl, dh_m4 (i := 129) rfl rfl⟩
theorem dh_ok_33 : jk_ok dh_M 33 1 := ⟨⟨by decide +kernel, by decide +kernel⟩, by decide +kernel, by decide +kernel⟩
theorem dh_cw_34 : jg_cw dh_M dh_nl dh_W 34 := Or.inl ⟨rfl, dh_m4 (i := 133) rfl rfl⟩
theorem dh_ok_34 : jk_ok dh_M 34 0 := ⟨⟨by decide +kernel, by decide +kernel⟩, by decide +kernel, by decide +kernel⟩
theorem dh_cw_35 : jg_cw dh_M dh_nl dh_W 35 := Or.inl ⟨rfl, dh_m4 (i := 137) rfl rfl⟩
theorem dh_ok_35 : jk_ok dh_M 35 1 := ⟨⟨by decide +kernel, by decide +kernel⟩, by decide +kernel, by decide +kernel⟩
theorem dh_cw_36 : jg_cw dh_M dh_nl dh_W 36 := Or.inl ⟨rfl, dh_m4 (i := 168) rfl rfl⟩
theorem dh_ok_36 : jk_ok dh_M 36 1 := ⟨⟨by decide +kernel, by decide +kernel⟩, by decide +kernel, by decide +kernel⟩
theorem dh_cw_37 : jg_cw dh_M dh_nl dh_W 37 := Or.inl ⟨rfl, dh_m4 (i := 172) rfl rfl⟩
theorem dh_ok_37 : jk_ok dh_M 37 1 := ⟨⟨by decide +kernel, by decide +kernel⟩, by decide +kernel, by decide +kernel⟩
theorem dh_cw_38 : jg_cw dh_M dh_nl dh_W 38 := Or.inl ⟨rfl, dh_m4 (i := 164) rfl rfl⟩
theorem dh_ok_38 : jk_ok dh_M 38 0 := ⟨⟨by decide +kernel, by decide +kernel⟩, by decide +kernel, by decide +kernel⟩
theorem dh_cw_39 : jg_cw dh_M dh_nl dh_W 39 := Or.inl ⟨rfl, dh_m4 (i := 224) rfl rfl⟩
theorem dh_ok_39 : jk_ok dh_M 39 1 := ⟨⟨by decide +kernel, by decide +kernel⟩, by decide +kernel, by decide +kernel⟩
theorem dh_cw_40 : jg_cw dh_M dh_nl dh_W 40 := Or.inl ⟨rfl, dh_m4 (i := 220) rfl rfl⟩
theorem dh_ok_40 : jk_ok dh_M 40 1 := ⟨⟨by decide +kernel, by decide +kernel⟩, by decide +kernel, by decide +kernel⟩
theorem dh_cw_41 : jg_cw dh_M dh_nl dh_W 41 := Or.inl ⟨rfl, dh_m4 (i := 176) rfl rfl⟩
theorem dh_ok_41 : jk_ok dh_M 41 1 := ⟨⟨by decide +kernel, by decide +kernel⟩, by decide +kernel, by decide +kernel⟩
theorem dh_cw_42 : jg_cw dh_M dh_nl dh_W 42 := Or.inl ⟨rfl, dh_m4 (i := 180) rfl rfl⟩
theorem dh_ok_42 : jk_ok dh_M 42 1 := ⟨⟨by decide +kernel, by decide +kernel⟩, by decide +kernel, by decide +kernel⟩
theorem dh_cw_43 : jg_cw dh_M dh_nl dh_W 43 := Or.inl ⟨rfl, dh_m4 (i := 188) rfl rfl⟩
theorem dh_ok_43 : jk_ok dh_M 43 0 := ⟨⟨by decide +kernel, by decide +kernel⟩, by decide +kernel, by decide +kernel⟩
theorem dh_cw_44 : jg_cw dh_M dh_nl dh_W 44 := Or.inl ⟨rfl, dh_m4 (i := 192) rfl rfl⟩
theorem dh_ok_44 : jk_ok dh_M 44 4 := ⟨⟨by decide +kernel, by decide +kernel⟩, by decide +kernel, by decide +kernel⟩
theorem dh_cw_45 : jg_cw dh_M dh_nl dh_W 45 := Or.inl ⟨rfl, dh_m4 (i := 184) rfl rfl⟩
theorem dh_ok_45 : jk_ok dh_M 45 0 := ⟨⟨by decide +kernel, by decide +kernel⟩, by decide +kernel, by decide +kernel⟩
theorem dh_cw_46 : jg_cw dh_M dh_nl dh_W 46 := Or.inl ⟨rfl, dh_m4 (i := 160) rfl rfl⟩
theorem dh_ok_46 : jk_ok dh_M 46 1 := ⟨⟨by decide +kernel, by decide +kernel⟩, by decide +kernel, by decide +kernel⟩
theorem dh_cw_47 : jg_cw dh_M dh_nl dh_W 47 := Or.inl ⟨rfl, dh_m4 (i := 196) rfl rfl⟩
theorem dh_ok_47 : jk_ok dh_M 47 0 := ⟨⟨by decide +kernel, by decide +kernel⟩, by decide +kernel, by decide +kernel⟩
theorem dh_cw_48 : jg_cw dh_M dh_nl dh_W 48 := Or.inl ⟨rfl, dh_m4 (i := 156) rfl rfl⟩
theorem dh_ok_48 : jk_ok dh_M 48 0 := ⟨⟨by decide +kernel, by decide +kernel⟩, by decide +kernel, by decide +kernel⟩
theorem dh_cw_49 : jg_cw dh_M dh_nl dh_W 49 := Or.inl ⟨rfl, dh_m4 (i := 200) rfl rfl⟩
theorem dh_ok_49 : jk_ok dh_M 49 0 := ⟨⟨by decide +kernel, by decide +kernel⟩, by decide +kernel, by decide +kernel⟩
theorem dh_cw_50 : jg_cw dh_M dh_nl dh_W 50 := Or.inl ⟨rfl, dh_m4 (i := 204) rfl rfl⟩
theorem dh_ok_50 : jk_ok dh_M 50 0 := ⟨⟨by decide +kernel, by decide +kernel⟩, by decide +kernel, by decide +kernel⟩
theorem dh_cw_51 : jg_cw dh_M dh_nl dh_W 51 := Or.inl ⟨rfl, dh_m4 (i := 208) rfl rfl⟩
theorem dh_ok_51 : jk_ok dh_M 51 0 := ⟨⟨by decide +kernel, by decide +kernel⟩, by decide +kernel, by decide +kernel⟩
theorem dh_cw_52 : jg_cw dh_M dh_nl dh_W 52 := Or.inl ⟨rfl, dh_m4 (i := 144) rfl rfl⟩
theorem dh_ok_52 : jk_ok dh_M 52 1 := ⟨⟨by decide +kernel, by decide +kernel⟩, by decide +kernel, by decide +kernel⟩
theorem dh_cw_53 : jg_cw dh_M dh_nl dh_W 53 := Or.inl ⟨rfl, dh_m4 (i := 148) rfl rfl⟩
theorem dh_ok_53 : jk_ok dh_M 53 1 := ⟨⟨by decide +kernel, by decide +kernel⟩, by decide +kernel, by decide +kernel⟩
theorem dh_cw_54 : jg_cw dh_M dh_nl dh_W 54 := Or.inl ⟨rfl, dh_m4 (i := 152) rfl rfl⟩
theorem dh_ok_54 : jk_ok dh_M 54 2 := ⟨⟨by decide +kernel, by decide +kernel⟩, by decide +kernel, by decide +kernel⟩
theorem dh_cw_55 : jg_cw dh_M dh_nl dh_W 55 := Or.inl ⟨rfl, dh_m4 (i := 141) rfl rfl⟩
theorem dh_ok_55 : jk_ok dh_M 55 2 := ⟨⟨by decide +kernel, by decide +kernel⟩, by decide +kernel, by decide +kernel⟩
theorem dh_cw_56 : jg_cw dh_M dh_nl dh_W 56 := Or.inl ⟨rfl, dh_m4 (i := 212) rfl rfl⟩
theorem dh_ok_56 : jk_ok dh_M 56 2 := ⟨⟨by decide +kernel, by decide +kernel⟩, by decide +kernel, by decide +kernel⟩
theorem dh_cw_57 : jg_cw dh_M dh_nl dh_W 57 := Or.inl ⟨rfl, dh_m4 (i := 216) rfl rfl⟩
theorem dh_ok_57 : jk_ok dh_M 57 2 := ⟨⟨by decide +kernel, by decide +kernel⟩, by decide +kernel, by decide +kernel⟩
theorem dh_cw_58 : jg_cw dh_M dh_nl dh_W 58 := Or.inl ⟨rfl, dh_m4 (i := 228) rfl rfl⟩
theorem dh_ok_58 : jk_ok dh_M 58 1 := ⟨⟨by decide +kernel, by decide +kernel⟩, by decide +kernel, by decide +kernel⟩
theorem dh_cw_59 : jg_cw dh_M dh_nl dh_W 59 := Or.inl ⟨rfl, dh_m4 (i := 232) rfl rfl⟩
theorem dh_ok_59 : jk_ok dh_M 59 1 := ⟨⟨by decide +kernel, by decide +kernel⟩, by decide +kernel, by decide +kernel⟩
theorem dh_cw_60 : jg_cw dh_M dh_nl dh_W 60 := Or.inl ⟨rfl, dh_m4 (i := 236) rfl rfl⟩
theorem dh_ok_60 : jk_ok dh_M 60 2 := ⟨⟨by decide +kernel, by decide +kernel⟩, by decide +kernel, by decide +kernel⟩
theorem dh_cw_61 : jg_cw dh_M dh_nl dh_W 61 := Or.inl ⟨rfl, dh_m5 (i := 4) rfl rfl⟩
theorem dh_ok_61 : jk_ok dh_M 61 0 := ⟨⟨by decide +kernel, by decide +kernel⟩, by decide +kernel, by decide +kernel⟩
theorem dh_cw_62 : jg_cw dh_M dh_nl dh_W 62 := Or.inl ⟨rfl, dh_m5 (i := 36) rfl rfl⟩
theorem dh_ok_62 : jk_ok dh_M 62 0 := ⟨⟨by decide +kernel, by decide +kernel⟩, by decide +kernel, by decide +kernel⟩
theorem dh_cw_63 : jg_cw dh_M dh_nl dh_W 63 := Or.inl ⟨rfl, dh_m5 (i := 12) rfl rfl⟩
theorem dh_ok_63 : jk_ok dh_M 63 2 := ⟨⟨by decide +kernel, by decide +kernel⟩, by decide +kernel, by decide +kernel⟩
theorem dh_cw_64 : jg_cw dh_M dh_nl dh_W 64 := Or.inl ⟨rfl, dh_m5 (i := 8) rfl rfl⟩
theorem dh_ok_64 : jk_ok dh_M 64 0 := ⟨⟨by decide +kernel, by decide +kernel⟩, by decide +kernel, by decide +kernel⟩
theorem dh_cw_65 : jg_cw dh_M dh_nl dh_W 65 := Or.inl ⟨rfl, dh_m5 (i := 16) rfl rfl⟩
theorem dh_ok_65 : jk_ok dh_M 65 0 := ⟨⟨by decide +kernel, by decide +kernel⟩, by decide +kernel, by decide +kernel⟩
theorem dh_cw_66 : jg_cw dh_M dh_nl dh_W 66 := Or.inl ⟨rfl, dh_m5 (i := 24) rfl rfl⟩
theorem dh_ok_66 : jk_ok dh_M 66 2 := ⟨⟨by decide +kernel, by decide +kernel⟩, by decide +kernel, by decide +kernel⟩
theorem dh_cw_67 : jg_cw dh_M dh_nl dh_W 67 := Or.inl ⟨rfl, dh_m5 (i := 28) rfl rfl⟩
theorem dh_ok_67 : jk_ok dh_M 67 2 := ⟨⟨by decide +kernel, by decide +kernel⟩, by decide +kernel, by decide +kernel⟩
theorem dh_cw_68 : jg_cw dh_M dh_nl dh_W 68 := Or.inl ⟨rfl, dh_m5 (i := 20) rfl rfl⟩
theorem dh_ok_68 : jk_ok dh_M 68 0 := ⟨⟨by decide +kernel, by decide +kernel⟩, by decide +kernel, by decide +kernel⟩
theorem dh_cw_69 : jg_cw dh_M dh_nl dh_W 69 := Or.inl ⟨rfl, dh_m5 (i := 32) rfl rfl⟩
theorem dh_ok_69 : jk_ok dh_M 69 0 := ⟨⟨by decide +kernel, by decide +kernel⟩, by decide +kernel, by decide +kernel⟩
theorem dh_cw_70 : jg_cw dh_M dh_nl dh_W 70 := Or.inl ⟨rfl, dh_m5 (i := 0) rfl rfl⟩
theorem dh_ok_70 : jk_ok dh_M 70 0 := ⟨⟨by decide +kernel, by decide +kernel⟩, by decide +kernel, by decide +kernel⟩
theorem dh_cw_71 : jg_cw dh_M dh_nl dh_W 71 := Or.inl ⟨rfl, dh_m5 (i := 40) rfl rfl⟩
theorem dh_ok_71 : jk_ok dh_M 71 0 := ⟨⟨by decide +kernel, by decide +kernel⟩, by decide +kernel, by decide +kernel⟩
theorem dh_cw_72 : jg_cw dh_M dh_nl dh_W 72 := Or.inl ⟨rfl, dh_m5 (i := 44) rfl rfl⟩
theorem dh_ok_72 : jk_ok dh_M 72 2 := ⟨⟨by decide +kernel, by decide +kernel⟩, by decide +kernel, by decide +kernel⟩
theorem dh_cw_73 : jg_cw dh_M dh_nl dh_W 73 := Or.inl ⟨rfl, dh_m5 (i := 48) rfl rfl⟩
theorem dh_ok_73 : jk_ok dh_M 73 2 := ⟨⟨by decide +kernel, by decide +kernel⟩, by decide +kernel, by decide +kernel⟩
theorem dh_cw_74 : jg_cw dh_M dh_nl dh_W 74 := Or.inl ⟨rfl, dh_m5 (i := 52) rfl rfl⟩
theorem dh_ok_74 : jk_ok dh_M 74 2 := ⟨⟨by decide +kernel, by decide +kernel⟩, by decide +kernel, by decide +kernel⟩
theorem dh_cw_75 : jg_cw dh_M dh_nl dh_W 75 := Or.inl ⟨rfl, dh_m5 (i := 56) rfl rfl⟩
theorem dh_ok_75 : jk_ok dh_M 75 1 := ⟨⟨by decide +kernel, by decide +kernel⟩, by decide +kernel, by decide +kernel⟩
theorem dh_cw_76 : jg_cw dh_M dh_nl dh_W 76 := Or.inl ⟨rfl, dh_m5 (i := 60) rfl rfl⟩
theorem dh_ok_76 : jk_ok dh_M 76 2 := ⟨⟨by decide +kernel, by decide +kernel⟩, by decide +kernel, by decide +kernel⟩
theorem dh_cw_77 : jg_cw dh_M dh_nl dh_W 77 := Or.inl ⟨rfl, dh_m5 (i := 64) rfl rfl⟩
theorem dh_ok_77 : jk_ok dh_M 77 1 := ⟨⟨by decide +kernel, by decide +kernel⟩, by decide +kernel, by decide +kernel⟩
theorem dh_cw_78 : jg_cw dh_M dh_nl dh_W 78 := Or.inl ⟨rfl, dh_m5 (i := 68) rfl rfl⟩
theorem dh_ok_78 : jk_ok dh_M 78 2 := ⟨⟨by decide +kernel, by decide +kernel⟩, by decide +kernel, by decide +kernel⟩
theorem dh_cw_79 : jg_cw dh_M dh_nl dh_W 79 := Or.inl ⟨rfl, dh_m1 (i := 92) rfl rfl⟩
theorem dh_ok_79 : jk_ok dh_M 79 0 := ⟨⟨by decide +kernel, by decide +kernel⟩, by decide +kernel, by decide +kernel⟩
theorem dh_cw_80 : jg_cw dh_M dh_nl dh_W 80 := Or.inl ⟨rfl, dh_m2 (i := 160) rfl rfl⟩
theorem dh_ok_80 : jk_ok dh_M 80 0 := ⟨⟨by decide +kernel, by decide +kernel⟩, by decide +kernel, by decide +kernel⟩
theorem dh_cw_81 : jg_cw dh_M dh_nl dh_W 81 := Or.inl ⟨rfl, dh_m1 (i := 212) rfl rfl⟩
theorem dh_ok_81 : jk_ok dh_M 81 1 := ⟨⟨by decide +kernel, by decide +kernel⟩, by decide +kernel, by decide +kernel⟩
theorem dh_cw_82 : jg_cw dh_M dh_nl dh_W 82 := Or.inl ⟨rfl, dh_m3 (i := 143) rfl rfl⟩
theorem dh_ok_82 : jk_ok dh_M 82 0 := ⟨⟨by decide +kernel, by decide +kernel⟩, by decide +kernel, by decide +kernel⟩
theorem dh_cw_83 : jg_cw dh_M dh_nl dh_W 83 := Or.inl ⟨rfl, dh_m2 (i := 88) rfl rfl⟩
theorem dh_ok_83 : jk_ok dh_M 83 1 := ⟨⟨by decide +kernel, by decide +kernel⟩, by decide +kernel, by decide +kernel⟩
theorem dh_cw_84 : jg_cw dh_M dh_nl dh_W 84 := Or.inl ⟨rfl, dh_m2 (i := 198) rfl rfl⟩
theorem dh_ok_84 : jk_ok dh_M 84 1 := ⟨⟨by decide +kernel, by decide +kernel⟩, by decide +kernel, by decide +kernel⟩
theorem dh_cw_85 : jg_cw dh_M dh_nl dh_W 85 := Or.inl ⟨rfl, dh_m3 (i := 101) rfl rfl⟩
theorem dh_ok_85 : jk_ok dh_M 85 2 := ⟨⟨by decide +kernel, by decide +kernel⟩, by decide +kernel, by decide +kernel⟩
theorem dh_cw_86 : jg_cw dh_M dh_nl dh_W 86 := Or.inl ⟨rfl, dh_m2 (i := 194) rfl rfl⟩
theorem dh_ok_86 : jk_ok dh_M 86 1 := ⟨⟨by decide +kernel, by decide +kernel⟩, by decide +kernel, by decide +kernel⟩
theorem dh_cw_87 : jg_cw dh_M dh_nl dh_W 87 := Or.inl ⟨rfl, dh_m2 (i := 84) rfl rfl⟩
theorem dh_ok_87 : jk_ok dh_M 87 0 := ⟨⟨by decide +kernel, by decide +kernel⟩, by decide +kernel, by decide +kernel⟩
theorem dh_cw_88 : jg_cw dh_M dh_nl dh_W 88 := Or.inl ⟨rfl, dh_m1 (i := 51) rfl rfl⟩
theorem dh_ok_88 : jk_ok dh_M 88 0 := ⟨⟨by decide +kernel, by decide +kernel⟩, by decide +kernel, by decide +kernel⟩
theorem dh_cw_89 : jg_cw dh_M dh_nl dh_W 89 := Or.inl ⟨rfl, dh_m2 (i := 167) rfl rfl⟩
theorem dh_ok_89 : jk_ok dh_M 89 2 := ⟨⟨by decide +kernel, by decide +kernel⟩, by decide +kernel, by decide +kernel⟩
theorem dh_cw_90 : jg_cw dh_M dh_nl dh_W 90 := Or.inl ⟨rfl, dh_m2 (i := 171) rfl rfl⟩
theorem dh_ok_90 : jk_ok dh_M 90 2 := ⟨⟨by decide +kernel, by decide +kernel⟩, by decide +kernel, by decide +kernel⟩
theorem dh_cw_91 : jg_cw dh_M dh_nl dh_W 91 := Or.inl ⟨rfl, dh_m2 (i := 178) rfl rfl⟩
theorem dh_ok_91 : jk_ok dh_M 91 2 := ⟨⟨by decide +kernel, by decide +kernel⟩, by decide +kernel, by decide +kernel⟩
theorem dh_cw_92 : jg_cw dh_M dh_nl dh_W 92 := Or.inl ⟨rfl, dh_m2 (i := 214) rfl rfl⟩
theorem dh_ok_92 : jk_ok dh_M 92 2 := ⟨⟨by decide +kernel, by decide +kernel⟩, by decide +kernel, by decide +kernel⟩
theorem dh_cw_93 : jg_cw dh_M dh_nl dh_W 93 := Or.inl ⟨rfl, dh_m2 (i := 186) rfl rfl⟩
theorem dh_ok_93 : jk_ok dh_M 93 2 := ⟨⟨by decide +kernel, by decide +kernel⟩, by decide +kernel, by decide +kernel⟩
theorem dh_cw_94 : jg_cw dh_M dh_nl dh_W 94 := Or.inl ⟨rfl, dh_m1 (i := 134) rfl rfl⟩
theorem dh_ok_94 : jk_ok dh_M 94 0 := ⟨⟨by decide +kernel, by decide +kernel⟩, by decide +kernel, by decide +kernel⟩
theorem dh_cw_95 : jg_cw dh_M dh_nl dh_W 95 := Or.inl ⟨rfl, dh_m2 (i := 76) rfl rfl⟩
theorem dh_ok_95 : jk_ok dh_M 95 0 := ⟨⟨by decide +kernel, by decide +kernel⟩, by decide +kernel, by decide +kernel⟩
theorem dh_cw_96 : jg_cw dh_M dh_nl dh_W 96 := Or.inl ⟨rfl, dh_m2 (i := 92) rfl rfl⟩
theorem dh_ok_96 : jk_ok dh_M 96 1 := ⟨⟨by decide +kernel, by decide +kernel⟩, by decide +kernel, by decide +kernel⟩
theorem dh_cw_97 : jg_cw dh_M dh_nl dh_W 97 := Or.inl ⟨rfl, dh_m3 (i := 88) rfl rfl⟩
theorem dh_ok_97 : jk_ok dh_M 97 1 := ⟨⟨by decide +kernel, by decide +kernel⟩, by decide +kernel, by decide +kernel⟩
theorem dh_cw_98 : jg_cw dh_M dh_nl dh_W 98 := Or.inl ⟨rfl, dh_m2 (i := 96) rfl rfl⟩
theorem dh_ok_98 : jk_ok dh_M 98 2 := ⟨⟨by decide +kernel, by decide +kernel⟩, by decide +kernel, by decide +kernel⟩
theorem dh_cw_99 : jg_cw dh_M dh_nl dh_W 99 := Or.inl ⟨rfl, dh_m3 (i := 192) rfl rfl⟩
theorem dh_ok_99 : jk_ok dh_M 99 2 := ⟨⟨by decide +kernel, by decide +kernel⟩, by decide +kernel, by decide +kernel⟩
theorem dh_cw_100 : jg_cw dh_M dh_nl dh_W 100 := Or.inl ⟨rfl, dh_m3 (i := 203) rfl rfl⟩
theorem dh_ok_100 : jk_ok dh_M 100 2 := ⟨⟨by decide +kernel, by decide +kernel⟩, by decide +kernel, by decide +kernel⟩
theorem dh_cw_101 : jg_cw dh_M dh_nl dh_W 101 := Or.inl ⟨rfl, dh_m1 (i := 124) rfl rfl⟩
theorem dh_ok_101 : jk_ok dh_M 101 0 := ⟨⟨by decide +kernel, by decide +kernel⟩, by decide +kernel, by decide +kernel⟩
theorem dh_cw_102 : jg_cw dh_M dh_nl dh_W 102 := Or.inl ⟨rfl, dh_m2 (i := 72) rfl rfl⟩
theorem dh_ok_102 : jk_ok dh_M 102 2 := ⟨⟨by decide +kernel, by decide +kernel⟩, by decide +kernel, by decide +kernel⟩
theorem dh_cw_103 : jg_cw dh_M dh_nl dh_W 103 := Or.inl ⟨rfl, dh_m2 (i := 80) rfl rfl⟩
theorem dh_ok_103 : jk_ok dh_M 103 2 := ⟨⟨by decide +kernel, by decide +kernel⟩, by decide +kernel, by decide +kernel⟩
theorem dh_cw_104 : jg_cw dh_M dh_nl dh_W 104 := Or.inl ⟨rfl, dh_m2 (i := 114) rfl rfl⟩
theorem dh_ok_104 : jk_ok dh_M 104 2 := ⟨⟨by decide +kernel, by decide +kernel⟩, by decide +kernel, by decide +kernel⟩
theorem dh_cw_105 : jg_cw dh_M dh_nl dh_W 105 := Or.inl ⟨rfl, dh_m2 (i := 126) rfl rfl⟩
theorem dh_ok_105 : jk_ok dh_M 105 1 := ⟨⟨by decide +kernel, by decide +kernel⟩, by decide +kernel, by decide +kernel⟩
theorem dh_cw_106 : jg_cw dh_M dh_nl dh_W 106 := Or.inl ⟨rfl, dh_m2 (i := 130) rfl rfl⟩
theorem dh_ok_106 : jk_ok dh_M 106 1 := ⟨⟨by decide +kernel, by decide +kernel⟩, by decide +kernel, by decide +kernel⟩
theorem dh_cw_107 : jg_cw dh_M dh_nl dh_W 107 := Or.inl ⟨rfl, dh_m2 (i := 134) rfl rfl⟩
theorem dh_ok_107 : jk_ok dh_M 107 2 := ⟨⟨by decide +kernel, by decide +kernel⟩, by decide +kernel, by decide +kernel⟩
theorem dh_cw_108 : jg_cw dh_M dh_nl dh_W 108 := Or.inl ⟨rfl, dh_m2 (i := 139) rfl rfl⟩
theorem dh_ok_108 : jk_ok dh_M 108 3 := ⟨⟨by decide +kernel, by decide +kernel⟩, by decide +kernel, by decide +kernel⟩
theorem dh_cw_109 : jg_cw dh_M dh_nl dh_W 109 := Or.inl ⟨rfl, dh_m2 (i := 151) rfl rfl⟩
theorem dh_ok_109 : jk_ok dh_M 109 2 := ⟨⟨by decide +kernel, by decide +kernel⟩, by decide +kernel, by decide +kernel⟩
theorem dh_cw_110 : jg_cw dh_M dh_nl dh_W 110 := Or.inl ⟨rfl, dh_m2 (i := 143) rfl rfl⟩
theorem dh_ok_110 : jk_ok dh_M 110 3 := ⟨⟨by decide +kernel, by decide +kernel⟩, by decide +kernel, by decide +kernel⟩
theorem dh_cw_111 : jg_cw dh_M dh_nl dh_W 111 := Or.inl ⟨rfl, dh_m1 (i := 141) rfl rfl⟩
theorem dh_ok_111 : jk_ok dh_M 111 0 := ⟨⟨by decide +kernel, by decide +kernel⟩, by decide +kernel, by decide +kernel⟩
theorem dh_cw_112 : jg_cw dh_M dh_nl dh_W 112 := Or.inl ⟨rfl, dh_m3 (i := 92) rfl rfl⟩
theorem dh_ok_112 : jk_ok dh_M 112 1 := ⟨⟨by decide +kernel, by decide +kernel⟩, by decide +kernel, by decide +kernel⟩
theorem dh_cw_113 : jg_cw dh_M dh_nl dh_W 113 := Or.inl ⟨rfl, dh_m2 (i := 100) rfl rfl⟩
theorem dh_ok_113 : jk_ok dh_M 113 2 := ⟨⟨by decide +kernel, by decide +kernel⟩, by decide +kernel, by decide +kernel⟩
theorem dh_cw_114 : jg_cw dh_M dh_nl dh_W 114 := Or.inl ⟨rfl, dh_m2 (i := 106) rfl rfl⟩
theorem dh_ok_114 : jk_ok dh_M 114 1 := ⟨⟨by decide +kernel, by decide +kernel⟩, by decide +kernel, by decide +kernel⟩
theorem dh_cw_115 : jg_cw dh_M dh_nl dh_W 115 := Or.inl ⟨rfl, dh_m2 (i := 110) rfl rfl⟩
theorem dh_ok_115 : jk_ok dh_M 115 1 := ⟨⟨by decide +kernel, by decide +kernel⟩, by decide +kernel, by decide +kernel⟩
theorem dh_cw_116 : jg_cw dh_M dh_nl dh_W 116 := Or.inl ⟨rfl, dh_m2 (i := 122) rfl rfl⟩
theorem dh_ok_116 : jk_ok dh_M 116 0 := ⟨⟨by decide +kernel, by decide +kernel⟩, by decide +kernel, by decide +kernel⟩
theorem dh_cw_117 : jg_cw dh_M dh_nl dh_W 117 := Or.inl ⟨rfl, dh_m2 (i := 118) rfl rfl⟩
theorem dh_ok_117 : jk_ok dh_M 117 0 := ⟨⟨by decide +kernel, by decide +kernel⟩, by decide +kernel, by decide +kernel⟩
theorem dh_cw_118 : jg_cw dh_M dh_nl dh_W 118 := Or.inl ⟨rfl, dh_m1 (i := 31) rfl rfl⟩
theorem dh_ok_118 : jk_ok dh_M 118 0 := ⟨⟨by decide +kernel, by decide +kernel⟩, by decide +kernel, by decide +kernel⟩
theorem dh_cw_119 : jg_cw dh_M dh_nl dh_W 119 := Or.inl ⟨rfl, dh_m2 (i := 17) rfl rfl⟩
theorem dh_ok_119 : jk_ok dh_M 119 0 := ⟨⟨by decide +kernel, by decide +kernel⟩, by decide +kernel, by decide +kernel⟩
theorem dh_cw_120 : jg_cw dh_M dh_nl dh_W 120 := Or.inl ⟨rfl, dh_m2 (i := 29) rfl rfl⟩
theorem dh_ok_120 : jk_ok dh_M 120 1 := ⟨⟨by decide +kernel, by decide +kernel⟩, by decide +kernel, by decide +kernel⟩
theorem dh_cw_121 : jg_cw dh_M dh_nl dh_W 121 := Or.inl ⟨rfl, dh_m2 (i := 60) rfl rfl⟩
theorem dh_ok_121 : jk_ok dh_M 121 1 := ⟨⟨by decide +kernel, by decide +kernel⟩, by decide +kernel, by decide +kernel⟩
theorem dh_cw_122 : jg_cw dh_M dh_nl dh_W 122 := Or.inl ⟨rfl, dh_m2 (i := 25) rfl rfl⟩
theorem dh_ok_122 : jk_ok dh_M 122 1 := ⟨⟨by decide +kernel, by decide +kernel⟩, by decide +kernel, by decide +kernel⟩
theorem dh_cw_123 : jg_cw dh_M dh_nl dh_W 123 := Or.inl ⟨rfl, dh_m2 (i := 40) rfl rfl⟩
theorem dh_ok_123 : jk_ok dh_M 123 2 := ⟨⟨by decide +kernel, by decide +kernel⟩, by decide +kernel, by decide +kernel⟩
theorem dh_cw_124 : jg_cw dh_M dh_nl dh_W 124 := Or.inl ⟨rfl, dh_m2 (i := 48) rfl rfl⟩
theorem dh_ok_124 : jk_ok dh_M 124 1 := ⟨⟨by decide +kernel, by decide +kernel⟩, by decide +kernel, by decide +kernel⟩
theorem dh_cw_125 : jg_cw dh_M dh_nl dh_W 125 := Or.inl ⟨rfl, dh_m2 (i := 21) rfl rfl⟩
theorem dh_ok_125 : jk_ok dh_M 125 1 := ⟨⟨by decide +kernel, by decide +kernel⟩, by decide +kernel, by decide +kernel⟩
theorem dh_cw_126 : jg_cw dh_M dh_nl dh_W 126 := Or.inl ⟨rfl, dh_m2 (i := 147) rfl rfl⟩
theorem dh_ok_126 : jk_ok dh_M 126 3 := ⟨⟨by decide +kernel, by decide +kernel⟩, by decide +kernel, by decide +kernel⟩
theorem dh_cw_127 : jg_cw dh_M dh_nl dh_W 127 := Or.inl ⟨rfl, dh_m1 (i := 112) rfl rfl⟩
theorem dh_ok_127 : jk_ok dh_M 127 0 := ⟨⟨by decide +kernel, by decide +kernel⟩, by decide +kernel, by decide +kernel⟩
theorem dh_cw_128 : jg_cw dh_M dh_nl dh_W 128 := Or.inl ⟨rfl, dh_m2 (i := 156) rfl rfl⟩
theorem dh_ok_128 : jk_ok dh_M 128 2 := ⟨⟨by decide +kernel, by decide +kernel⟩, by decide +kernel, by decide +kernel⟩
theorem dh_cw_129 : jg_cw dh_M dh_nl dh_W 129 := Or.inl ⟨rfl, dh_m2 (i := 190) rfl rfl⟩
theorem dh_ok_129 : jk_ok dh_M 129 2 := ⟨⟨by decide +kernel, by decide +kernel⟩, by decide +kernel, by decide +kernel⟩
theorem dh_cw_130 : jg_cw dh_M dh_nl dh_W 130 := Or.inl ⟨rfl, dh_m2 (i := 182) rfl rfl⟩
theorem dh_ok_130 : jk_ok dh_M 130 1 := ⟨⟨by decide +kernel, by decide +kernel⟩, by decide +kernel, by decide +kernel⟩
theorem dh_cw_131 : jg_cw dh_M dh_nl dh_W 131 := Or.inr (dh_m2 (i := 227) rfl rfl)
theorem dh_ok_131 : jk_ok dh_M 131 4 := ⟨⟨by decide +kernel, by decide +kernel⟩, by decide +kernel, by decide +kernel⟩
theorem dh_cw_132 : jg_cw dh_M dh_nl dh_W 132 := Or.inr (dh_m3 (i := 107) rfl rfl)
theorem dh_ok_132 : jk_ok dh_M 132 4 := ⟨⟨by decide +kernel, by decide +kernel⟩, by decide +kernel, by decide +kernel⟩
theorem dh_cw_133 : jg_cw dh_M dh_nl dh_W 133 := Or.inr (dh_m3 (i := 118) rfl rfl)
theorem dh_ok_133 : jk_ok dh_M 133 4 := ⟨⟨by decide +kernel, by decide +kernel⟩, by decide +kernel, by decide +kernel⟩
theorem dh_cw_134 : jg_cw dh_M dh_nl dh_W 134 := Or.inr (dh_m3 (i := 146) rfl rfl)
theorem dh_ok_134 : jk_ok dh_M 134 3 := ⟨⟨by decide +kernel, by decide +kernel⟩, by decide +kernel, by decide +kernel⟩
theorem dh_cw_135 : jg_cw dh_M dh_nl dh_W 135 := Or.inr (dh_m3 (i := 153) rfl rfl)
theorem dh_ok_135 : jk_ok dh_M 135 3 := ⟨⟨by decide +kernel, by decide +kernel⟩, by decide +kernel, by decide +kernel⟩
theorem dh_cw_136 : jg_cw dh_M dh_nl dh_W 136 := Or.inr (dh_m3 (i := 177) rfl rfl)
theorem dh_ok_136 : jk_ok dh_M 136 4 := ⟨⟨by decide +kernel, by decide +kernel⟩, by decide +kernel, by decide +kernel⟩
theorem dh_cw_137 : jg_cw dh_M dh_nl dh_W 137 := Or.inr (dh_m3 (i := 184) rfl rfl)
theorem dh_ok_137 : jk_ok dh_M 137 4 := ⟨⟨by decide +kernel, by decide +kernel⟩, by decide +kernel, by decide +kernel⟩
theorem dh_cw_138 : jg_cw dh_M dh_nl dh_W 138 := Or.inr (dh_m3 (i := 195) rfl rfl)
theorem dh_ok_138 : jk_ok dh_M 138 4 := ⟨⟨by decide +kernel, by decide +kernel⟩, by decide +kernel, by decide +kernel⟩
theorem dh_cw_139 : jg_cw dh_M dh_nl dh_W 139 := Or.inr (dh_m3 (i := 206) rfl rfl)
theorem dh_ok_139 : jk_ok dh_M 139 3 := ⟨⟨by decide +kernel, by decide +kernel⟩, by decide +kernel, by decide +kernel⟩
theorem dh_xs {L : List Cond} (h : L.all (fun a => (decide (a ∈ lw_tbl) && jm_goodW a) || decide (a ∈ jx_st)) = true) : ∀ a ∈ L, a ∈ dh_W ∨ a ∈ jx_st := fun a ha => by
  have h1 := List.all_eq_true.mp h a ha
  simp only [Bool.or_eq_true, Bool.and_eq_true, decide_eq_true_eq] at h1
  exact h1.imp (fun z => List.mem_filter.mpr z) id
theorem dh_e_0 : jm_kok dh_cn dh_J dh_W dh_M dh_nl dh_rc (1, 1, 9, 0, 0) := jk_9 (dh_m1 (i := 24) rfl rfl) (dh_m1 (i := 25) rfl rfl) (dh_m1 (i := 26) rfl rfl)
theorem dh_e_1 : jm_kok dh_cn dh_J dh_W dh_M dh_nl dh_rc (1, 7, 5, 8, 2) := jk_5 ("DeltaHistory$Text", dh_T8, 2) (by decide) rfl rfl (dh_m1 (i := 27) rfl rfl) (dh_m1 (i := 28) rfl rfl) (dh_m1 (i := 2) rfl rfl) (by decide +kernel)
theorem dh_e_2 : jm_kok dh_cn dh_J dh_W dh_M dh_nl dh_rc (1, 9, 4, 118, 1) := jk_4 (y := 0) (by decide) rfl (dh_m1 (i := 31) rfl rfl) dh_cw_118 (dh_m1 (i := 29) rfl rfl) (dh_m1 (i := 30) rfl rfl) dh_ok_118
theorem dh_e_3 : jm_kok dh_cn dh_J dh_W dh_M dh_nl dh_rc (1, 10, 1, 1, 0) := jk_1 ("DeltaHistory", dh_T1, 12) (by decide) rfl (by decide) rfl (dh_m1 (i := 213) rfl rfl)
theorem dh_e_4 : jm_kok dh_cn dh_J dh_W dh_M dh_nl dh_rc (1, 16, 1, 1, 1) := jk_1 ("DeltaHistory", dh_T1, 12) (by decide) rfl (by decide) rfl (dh_m1 (i := 214) rfl rfl)
theorem dh_e_5 : jm_kok dh_cn dh_J dh_W dh_M dh_nl dh_rc (1, 19, 1, 1, 2) := jk_1 ("DeltaHistory", dh_T1, 12) (by decide) rfl (by decide) rfl (dh_m1 (i := 215) rfl rfl)
theorem dh_e_6 : jm_kok dh_cn dh_J dh_W dh_M dh_nl dh_rc (1, 22, 5, 4, 9) := jk_5 ("DeltaHistory$Delta", dh_T4, 9) (by decide) rfl rfl (dh_m1 (i := 47) rfl rfl) (dh_m1 (i := 48) rfl rfl) (dh_m1 (i := 3) rfl rfl) (by decide +kernel)
theorem dh_e_7 : jm_kok dh_cn dh_J dh_W dh_M dh_nl dh_rc (1, 24, 4, 88, 1) := jk_4 (y := 0) (by decide) rfl (dh_m1 (i := 51) rfl rfl) dh_cw_88 (dh_m1 (i := 49) rfl rfl) (dh_m1 (i := 50) rfl rfl) dh_ok_88
theorem dh_e_8 : jm_kok dh_cn dh_J dh_W dh_M dh_nl dh_rc (1, 25, 1, 1, 3) := jk_1 ("DeltaHistory", dh_T1, 12) (by decide) rfl (by decide) rfl (dh_m1 (i := 216) rfl rfl)
theorem dh_e_9 : jm_kok dh_cn dh_J dh_W dh_M dh_nl dh_rc (1, 29, 5, 3, 3) := jk_5 ("DeltaHistory$Bytes", dh_T3, 3) (by decide) rfl rfl (dh_m1 (i := 88) rfl rfl) (dh_m1 (i := 89) rfl rfl) (dh_m1 (i := 4) rfl rfl) (by decide +kernel)
theorem dh_e_10 : jm_kok dh_cn dh_J dh_W dh_M dh_nl dh_rc (1, 31, 4, 79, 1) := jk_4 (y := 0) (by decide) rfl (dh_m1 (i := 92) rfl rfl) dh_cw_79 (dh_m1 (i := 90) rfl rfl) (dh_m1 (i := 91) rfl rfl) dh_ok_79
theorem dh_e_11 : jm_kok dh_cn dh_J dh_W dh_M dh_nl dh_rc (1, 32, 1, 1, 4) := jk_1 ("DeltaHistory", dh_T1, 12) (by decide) rfl (by decide) rfl (dh_m1 (i := 217) rfl rfl)
theorem dh_e_12 : jm_kok dh_cn dh_J dh_W dh_M dh_nl dh_rc (1, 36, 1, 1, 5) := jk_1 ("DeltaHistory", dh_T1, 12) (by decide) rfl (by decide) rfl (dh_m1 (i := 218) rfl rfl)
theorem dh_e_13 : jm_kok dh_cn dh_J dh_W dh_M dh_nl dh_rc (1, 39, 1, 1, 6) := jk_1 ("DeltaHistory", dh_T1, 12) (by decide) rfl (by decide) rfl (dh_m1 (i := 219) rfl rfl)
theorem dh_e_14 : jm_kok dh_cn dh_J dh_W dh_M dh_nl dh_rc (1, 42, 5, 9, 1) := jk_5 ("DeltaHistory$Writer", dh_T9, 1) (by decide) rfl rfl (dh_m1 (i := 108) rfl rfl) (dh_m1 (i := 109) rfl rfl) (dh_m1 (i := 5) rfl rfl) (by decide +kernel)
theorem dh_e_15 : jm_kok dh_cn dh_J dh_W dh_M dh_nl dh_rc (1, 44, 4, 127, 1) := jk_4 (y := 0) (by decide) rfl (dh_m1 (i := 112) rfl rfl) dh_cw_127 (dh_m1 (i := 110) rfl rfl) (dh_m1 (i := 111) rfl rfl) dh_ok_127
theorem dh_e_16 : jm_kok dh_cn dh_J dh_W dh_M dh_nl dh_rc (1, 45, 1, 1, 7) := jk_1 ("DeltaHistory", dh_T1, 12) (by decide) rfl (by decide) rfl (dh_m1 (i := 220) rfl rfl)
theorem dh_e_17 : jm_kok dh_cn dh_J dh_W dh_M dh_nl dh_rc (1, 49, 5, 6, 1) := jk_5 ("DeltaHistory$Reader", dh_T6, 1) (by decide) rfl rfl (dh_m1 (i := 120) rfl rfl) (dh_m1 (i := 121) rfl rfl) (dh_m1 (i := 6) rfl rfl) (by decide +kernel)
theorem dh_e_18 : jm_kok dh_cn dh_J dh_W dh_M dh_nl dh_rc (1, 51, 4, 101, 1) := jk_4 (y := 0) (by decide) rfl (dh_m1 (i := 124) rfl rfl) dh_cw_101 (dh_m1 (i := 122) rfl rfl) (dh_m1 (i := 123) rfl rfl) dh_ok_101
theorem dh_e_19 : jm_kok dh_cn dh_J dh_W dh_M dh_nl dh_rc (1, 52, 1, 1, 8) := jk_1 ("DeltaHistory", dh_T1, 12) (by decide) rfl (by decide) rfl (dh_m1 (i := 221) rfl rfl)
theorem dh_e_20 : jm_kok dh_cn dh_J dh_W dh_M dh_nl dh_rc (1, 56, 5, 5, 2) := jk_5 ("DeltaHistory$History", dh_T5, 2) (by decide) rfl rfl (dh_m1 (i := 130) rfl rfl) (dh_m1 (i := 131) rfl rfl) (dh_m1 (i := 7) rfl rfl) (by decide +kernel)
theorem dh_e_21 : jm_kok dh_cn dh_J dh_W dh_M dh_nl dh_rc (1, 58, 4, 94, 1) := jk_4 (y := 0) (by decide) rfl (dh_m1 (i := 134) rfl rfl) dh_cw_94 (dh_m1 (i := 132) rfl rfl) (dh_m1 (i := 133) rfl rfl) dh_ok_94
theorem dh_e_22 : jm_kok dh_cn dh_J dh_W dh_M dh_nl dh_rc (1, 59, 1, 1, 9) := jk_1 ("DeltaHistory", dh_T1, 12) (by decide) rfl (by decide) rfl (dh_m1 (i := 222) rfl rfl)
theorem dh_e_23 : jm_kok dh_cn dh_J dh_W dh_M dh_nl dh_rc (1, 63, 1, 1, 10) := jk_1 ("DeltaHistory", dh_T1, 12) (by decide) rfl (by decide) rfl (dh_m1 (i := 223) rfl rfl)
theorem dh_e_24 : jm_kok dh_cn dh_J dh_W dh_M dh_nl dh_rc (1, 66, 2, 81, 2) := jk_2 (y := 1) ("DeltaHistory$Bytes", dh_T3, 3) (by decide) rfl rfl (dh_m1 (i := 211) rfl rfl) dh_cw_81 (dh_m1 (i := 209) rfl rfl) (dh_m1 (i := 210) rfl rfl) dh_ok_81
theorem dh_e_25 : jm_kok dh_cn dh_J dh_W dh_M dh_nl dh_rc (1, 70, 1, 1, 11) := jk_1 ("DeltaHistory", dh_T1, 12) (by decide) rfl (by decide) rfl (dh_m1 (i := 224) rfl rfl)
theorem dh_e_26 : jm_kok dh_cn dh_J dh_W dh_M dh_nl dh_rc (1, 74, 2, 119, 1) := jk_2 (y := 0) ("DeltaHistory$Text", dh_T8, 2) (by decide) rfl rfl (dh_m2 (i := 16) rfl rfl) dh_cw_119 (dh_m2 (i := 14) rfl rfl) (dh_m2 (i := 15) rfl rfl) dh_ok_119
theorem dh_e_27 : jm_kok dh_cn dh_J dh_W dh_M dh_nl dh_rc (1, 77, 2, 125, 2) := jk_2 (y := 1) ("DeltaHistory$Text", dh_T8, 2) (by decide) rfl rfl (dh_m2 (i := 20) rfl rfl) dh_cw_125 (dh_m2 (i := 18) rfl rfl) (dh_m2 (i := 19) rfl rfl) dh_ok_125
theorem dh_e_28 : jm_kok dh_cn dh_J dh_W dh_M dh_nl dh_rc (1, 81, 2, 120, 2) := jk_2 (y := 1) ("DeltaHistory$Text", dh_T8, 2) (by decide) rfl rfl (dh_m2 (i := 28) rfl rfl) dh_cw_120 (dh_m2 (i := 26) rfl rfl) (dh_m2 (i := 27) rfl rfl) dh_ok_120
theorem dh_e_29 : jm_kok dh_cn dh_J dh_W dh_M dh_nl dh_rc (1, 85, 2, 123, 3) := jk_2 (y := 2) ("DeltaHistory$Text", dh_T8, 2) (by decide) rfl rfl (dh_m2 (i := 39) rfl rfl) dh_cw_123 (dh_m2 (i := 37) rfl rfl) (dh_m2 (i := 38) rfl rfl) dh_ok_123
theorem dh_e_30 : jm_kok dh_cn dh_J dh_W dh_M dh_nl dh_rc (1, 89, 2, 124, 2) := jk_2 (y := 1) ("DeltaHistory$Text", dh_T8, 2) (by decide) rfl rfl (dh_m2 (i := 47) rfl rfl) dh_cw_124 (dh_m2 (i := 45) rfl rfl) (dh_m2 (i := 46) rfl rfl) dh_ok_124
theorem dh_e_31 : jm_kok dh_cn dh_J dh_W dh_M dh_nl dh_rc (1, 93, 1, 8, 1) := jk_1 ("DeltaHistory$Text", dh_T8, 2) (by decide) rfl (by decide) rfl (dh_m1 (i := 39) rfl rfl)
theorem dh_e_32 : jm_kok dh_cn dh_J dh_W dh_M dh_nl dh_rc (1, 96, 2, 121, 2) := jk_2 (y := 1) ("DeltaHistory$Text", dh_T8, 2) (by decide) rfl rfl (dh_m2 (i := 59) rfl rfl) dh_cw_121 (dh_m2 (i := 57) rfl rfl) (dh_m2 (i := 58) rfl rfl) dh_ok_121
theorem dh_e_33 : jm_kok dh_cn dh_J dh_W dh_M dh_nl dh_rc (1, 99, 3, 21, 1) := jk_3 rfl dh_cw_21 (dh_m2 (i := 234) rfl rfl) (dh_m2 (i := 235) rfl rfl) (dh_m1 (i := 1) rfl rfl) dh_ok_21
theorem dh_e_34 : jm_kok dh_cn dh_J dh_W dh_M dh_nl dh_rc (1, 102, 2, 22, 2) := jk_2 (y := 1) ("DeltaHistory", dh_T1, 12) (by decide) rfl rfl (dh_m0 (i := 14) rfl rfl) dh_cw_22 (dh_m3 (i := 61) rfl rfl) (dh_m3 (i := 63) rfl rfl) dh_ok_22
theorem dh_e_35 : jm_kok dh_cn dh_J dh_W dh_M dh_nl dh_rc (1, 105, 1, 5, 0) := jk_1 ("DeltaHistory$History", dh_T5, 2) (by decide) rfl (by decide) rfl (dh_m1 (i := 199) rfl rfl)
theorem dh_e_36 : jm_kok dh_cn dh_J dh_W dh_M dh_nl dh_rc (1, 109, 1, 7, 3) := jk_1 ("DeltaHistory$Revision", dh_T7, 10) (by decide) rfl (by decide) rfl (dh_m1 (i := 159) rfl rfl)
theorem dh_e_37 : jm_kok dh_cn dh_J dh_W dh_M dh_nl dh_rc (1, 114, 7, 202, 0) := jk_7 "java/lang/IllegalStateException" rfl (by decide) (by decide) (dh_m3 (i := 66) rfl rfl) (dh_m3 (i := 67) rfl rfl) (dh_m1 (i := 15) rfl rfl)
set_option maxRecDepth 100000 in
theorem dh_x_38 : (Bundle.ownAtoms0 "DeltaHistory" 116 "java/lang/IllegalStateException" jm_up2).all (fun a => (decide (a ∈ lw_tbl) && jm_goodW a) || decide (a ∈ jx_st)) = true := by decide +kernel
theorem dh_e_38 : jm_kok dh_cn dh_J dh_W dh_M dh_nl dh_rc (1, 116, 8, 202, 0) := jk_8 "java/lang/IllegalStateException" rfl (by decide) (by decide) (by decide +kernel) (dh_xs dh_x_38)
theorem dh_e_39 : jm_kok dh_cn dh_J dh_W dh_M dh_nl dh_rc (1, 117, 2, 24, 3) := jk_2 (y := 2) ("DeltaHistory", dh_T1, 12) (by decide) rfl rfl (dh_m0 (i := 15) rfl rfl) dh_cw_24 (dh_m3 (i := 81) rfl rfl) (dh_m3 (i := 83) rfl rfl) dh_ok_24
theorem dh_e_40 : jm_kok dh_cn dh_J dh_W dh_M dh_nl dh_rc (1, 121, 2, 23, 3) := jk_2 (y := 2) ("DeltaHistory", dh_T1, 12) (by decide) rfl rfl (dh_m0 (i := 17) rfl rfl) dh_cw_23 (dh_m3 (i := 112) rfl rfl) (dh_m3 (i := 114) rfl rfl) dh_ok_23
theorem dh_e_41 : jm_kok dh_cn dh_J dh_W dh_M dh_nl dh_rc (1, 125, 1, 5, 1) := jk_1 ("DeltaHistory$History", dh_T5, 2) (by decide) rfl (by decide) rfl (dh_m1 (i := 203) rfl rfl)
theorem dh_e_42 : jm_kok dh_cn dh_J dh_W dh_M dh_nl dh_rc (1, 126, 7, 204, 0) := jk_7 "java/lang/UnsupportedOperationException" rfl (by decide) (by decide) (dh_m3 (i := 124) rfl rfl) (dh_m3 (i := 125) rfl rfl) (dh_m1 (i := 17) rfl rfl)
set_option maxRecDepth 100000 in
theorem dh_x_43 : (Bundle.ownAtoms0 "DeltaHistory" 128 "java/lang/UnsupportedOperationException" jm_up2).all (fun a => (decide (a ∈ lw_tbl) && jm_goodW a) || decide (a ∈ jx_st)) = true := by decide +kernel
theorem dh_e_43 : jm_kok dh_cn dh_J dh_W dh_M dh_nl dh_rc (1, 128, 8, 204, 0) := jk_8 "java/lang/UnsupportedOperationException" rfl (by decide) (by decide) (by decide +kernel) (dh_xs dh_x_43)
theorem dh_e_44 : jm_kok dh_cn dh_J dh_W dh_M dh_nl dh_rc (1, 129, 2, 97, 2) := jk_2 (y := 1) ("DeltaHistory$History", dh_T5, 2) (by decide) rfl rfl (dh_m3 (i := 87) rfl rfl) dh_cw_97 (dh_m3 (i := 85) rfl rfl) (dh_m3 (i := 86) rfl rfl) dh_ok_97
theorem dh_e_45 : jm_kok dh_cn dh_J dh_W dh_M dh_nl dh_rc (1, 132, 2, 98, 3) := jk_2 (y := 2) ("DeltaHistory$History", dh_T5, 2) (by decide) rfl rfl (dh_m2 (i := 95) rfl rfl) dh_cw_98 (dh_m3 (i := 139) rfl rfl) (dh_m2 (i := 94) rfl rfl) dh_ok_98
theorem dh_e_46 : jm_kok dh_cn dh_J dh_W dh_M dh_nl dh_rc (1, 135, 1, 7, 0) := jk_1 ("DeltaHistory$Revision", dh_T7, 10) (by decide) rfl (by decide) rfl (dh_m1 (i := 148) rfl rfl)
theorem dh_e_47 : jm_kok dh_cn dh_J dh_W dh_M dh_nl dh_rc (1, 138, 2, 128, 3) := jk_2 (y := 2) ("DeltaHistory$Writer", dh_T9, 1) (by decide) rfl rfl (dh_m2 (i := 155) rfl rfl) dh_cw_128 (dh_m2 (i := 153) rfl rfl) (dh_m2 (i := 154) rfl rfl) dh_ok_128
theorem dh_e_48 : jm_kok dh_cn dh_J dh_W dh_M dh_nl dh_rc (1, 142, 2, 82, 1) := jk_2 (y := 0) ("DeltaHistory$Bytes", dh_T3, 3) (by decide) rfl rfl (dh_m3 (i := 142) rfl rfl) dh_cw_82 (dh_m3 (i := 140) rfl rfl) (dh_m3 (i := 141) rfl rfl) dh_ok_82
theorem dh_e_49 : jm_kok dh_cn dh_J dh_W dh_M dh_nl dh_rc (1, 146, 2, 25, 2) := jk_2 (y := 1) ("DeltaHistory", dh_T1, 12) (by decide) rfl rfl (dh_m0 (i := 16) rfl rfl) dh_cw_25 (dh_m3 (i := 94) rfl rfl) (dh_m3 (i := 96) rfl rfl) dh_ok_25
theorem dh_e_50 : jm_kok dh_cn dh_J dh_W dh_M dh_nl dh_rc (1, 149, 2, 83, 2) := jk_2 (y := 1) ("DeltaHistory$Bytes", dh_T3, 3) (by decide) rfl rfl (dh_m2 (i := 87) rfl rfl) dh_cw_83 (dh_m3 (i := 159) rfl rfl) (dh_m2 (i := 86) rfl rfl) dh_ok_83
theorem dh_e_51 : jm_kok dh_cn dh_J dh_W dh_M dh_nl dh_rc (1, 152, 7, 200, 0) := jk_7 "java/lang/IndexOutOfBoundsException" rfl (by decide) (by decide) (dh_m2 (i := 237) rfl rfl) (dh_m2 (i := 238) rfl rfl) (dh_m1 (i := 14) rfl rfl)
set_option maxRecDepth 100000 in
theorem dh_x_52 : (Bundle.ownAtoms0 "DeltaHistory" 154 "java/lang/IndexOutOfBoundsException" jm_up2).all (fun a => (decide (a ∈ lw_tbl) && jm_goodW a) || decide (a ∈ jx_st)) = true := by decide +kernel
theorem dh_e_52 : jm_kok dh_cn dh_J dh_W dh_M dh_nl dh_rc (1, 154, 8, 200, 0) := jk_8 "java/lang/IndexOutOfBoundsException" rfl (by decide) (by decide) (by decide +kernel) (dh_xs dh_x_52)
theorem dh_e_53 : jm_kok dh_cn dh_J dh_W dh_M dh_nl dh_rc (1, 155, 7, 206, 0) := jk_7 "java/lang/IllegalArgumentException" rfl (by decide) (by decide) (dh_m3 (i := 160) rfl rfl) (dh_m3 (i := 161) rfl rfl) (dh_m1 (i := 18) rfl rfl)
set_option maxRecDepth 100000 in
theorem dh_x_54 : (Bundle.ownAtoms0 "DeltaHistory" 157 "java/lang/IllegalArgumentException" jm_up2).all (fun a => (decide (a ∈ lw_tbl) && jm_goodW a) || decide (a ∈ jx_st)) = true := by decide +kernel
theorem dh_e_54 : jm_kok dh_cn dh_J dh_W dh_M dh_nl dh_rc (1, 157, 8, 206, 0) := jk_8 "java/lang/IllegalArgumentException" rfl (by decide) (by decide) (by decide +kernel) (dh_xs dh_x_54)
theorem dh_e_55 : jm_kok dh_cn dh_J dh_W dh_M dh_nl dh_rc (1, 158, 1, 3, 0) := jk_1 ("DeltaHistory$Bytes", dh_T3, 3) (by decide) rfl (by decide) rfl (dh_m1 (i := 95) rfl rfl)
theorem dh_e_56 : jm_kok dh_cn dh_J dh_W dh_M dh_nl dh_rc (1, 162, 2, 102, 3) := jk_2 (y := 2) ("DeltaHistory$Reader", dh_T6, 1) (by decide) rfl rfl (dh_m2 (i := 71) rfl rfl) dh_cw_102 (dh_m2 (i := 69) rfl rfl) (dh_m2 (i := 70) rfl rfl) dh_ok_102
theorem dh_e_57 : jm_kok dh_cn dh_J dh_W dh_M dh_nl dh_rc (1, 166, 2, 86, 2) := jk_2 (y := 1) ("DeltaHistory$Bytes", dh_T3, 3) (by decide) rfl rfl (dh_m2 (i := 193) rfl rfl) dh_cw_86 (dh_m2 (i := 191) rfl rfl) (dh_m2 (i := 192) rfl rfl) dh_ok_86
theorem dh_e_58 : jm_kok dh_cn dh_J dh_W dh_M dh_nl dh_rc (1, 170, 2, 26, 1) := jk_2 (y := 0) ("DeltaHistory", dh_T1, 12) (by decide) rfl rfl (dh_m0 (i := 12) rfl rfl) dh_cw_26 (dh_m2 (i := 199) rfl rfl) (dh_m2 (i := 201) rfl rfl) dh_ok_26
theorem dh_e_59 : jm_kok dh_cn dh_J dh_W dh_M dh_nl dh_rc (1, 173, 1, 7, 1) := jk_1 ("DeltaHistory$Revision", dh_T7, 10) (by decide) rfl (by decide) rfl (dh_m1 (i := 152) rfl rfl)
theorem dh_e_60 : jm_kok dh_cn dh_J dh_W dh_M dh_nl dh_rc (1, 176, 1, 7, 2) := jk_1 ("DeltaHistory$Revision", dh_T7, 10) (by decide) rfl (by decide) rfl (dh_m1 (i := 155) rfl rfl)
theorem dh_e_61 : jm_kok dh_cn dh_J dh_W dh_M dh_nl dh_rc (1, 179, 1, 7, 9) := jk_1 ("DeltaHistory$Revision", dh_T7, 10) (by decide) rfl (by decide) rfl (dh_m1 (i := 174) rfl rfl)
theorem dh_e_62 : jm_kok dh_cn dh_J dh_W dh_M dh_nl dh_rc (1, 182, 1, 7, 4) := jk_1 ("DeltaHistory$Revision", dh_T7, 10) (by decide) rfl (by decide) rfl (dh_m1 (i := 162) rfl rfl)
theorem dh_e_63 : jm_kok dh_cn dh_J dh_W dh_M dh_nl dh_rc (1, 185, 1, 7, 5) := jk_1 ("DeltaHistory$Revision", dh_T7, 10) (by decide) rfl (by decide) rfl (dh_m1 (i := 165) rfl rfl)
theorem dh_e_64 : jm_kok dh_cn dh_J dh_W dh_M dh_nl dh_rc (1, 188, 2, 99, 3) := jk_2 (y := 2) ("DeltaHistory$History", dh_T5, 2) (by decide) rfl rfl (dh_m3 (i := 191) rfl rfl) dh_cw_99 (dh_m3 (i := 189) rfl rfl) (dh_m3 (i := 190) rfl rfl) dh_ok_99
theorem dh_e_65 : jm_kok dh_cn dh_J dh_W dh_M dh_nl dh_rc (1, 191, 2, 100, 3) := jk_2 (y := 2) ("DeltaHistory$History", dh_T5, 2) (by decide) rfl rfl (dh_m3 (i := 202) rfl rfl) dh_cw_100 (dh_m3 (i := 200) rfl rfl) (dh_m3 (i := 201) rfl rfl) dh_ok_100
theorem dh_e_66 : jm_kok dh_cn dh_J dh_W dh_M dh_nl dh_rc (1, 194, 2, 89, 3) := jk_2 (y := 2) ("DeltaHistory$Delta", dh_T4, 9) (by decide) rfl rfl (dh_m2 (i := 166) rfl rfl) dh_cw_89 (dh_m3 (i := 211) rfl rfl) (dh_m2 (i := 165) rfl rfl) dh_ok_89
theorem dh_e_67 : jm_kok dh_cn dh_J dh_W dh_M dh_nl dh_rc (1, 198, 1, 4, 6) := jk_1 ("DeltaHistory$Delta", dh_T4, 9) (by decide) rfl (by decide) rfl (dh_m1 (i := 66) rfl rfl)
theorem dh_e_68 : jm_kok dh_cn dh_J dh_W dh_M dh_nl dh_rc (1, 201, 2, 92, 3) := jk_2 (y := 2) ("DeltaHistory$Delta", dh_T4, 9) (by decide) rfl rfl (dh_m2 (i := 213) rfl rfl) dh_cw_92 (dh_m2 (i := 211) rfl rfl) (dh_m2 (i := 212) rfl rfl) dh_ok_92
theorem dh_e_69 : jm_kok dh_cn dh_J dh_W dh_M dh_nl dh_rc (1, 204, 1, 3, 1) := jk_1 ("DeltaHistory$Bytes", dh_T3, 3) (by decide) rfl (by decide) rfl (dh_m1 (i := 98) rfl rfl)
theorem dh_e_70 : jm_kok dh_cn dh_J dh_W dh_M dh_nl dh_rc (1, 205, 2, 84, 2) := jk_2 (y := 1) ("DeltaHistory$Bytes", dh_T3, 3) (by decide) rfl rfl (dh_m2 (i := 197) rfl rfl) dh_cw_84 (dh_m2 (i := 224) rfl rfl) (dh_m2 (i := 196) rfl rfl) dh_ok_84
theorem dh_e_71 : jm_kok dh_cn dh_J dh_W dh_M dh_nl dh_rc (1, 208, 2, 96, 2) := jk_2 (y := 1) ("DeltaHistory$History", dh_T5, 2) (by decide) rfl rfl (dh_m2 (i := 91) rfl rfl) dh_cw_96 (dh_m3 (i := 65) rfl rfl) (dh_m2 (i := 90) rfl rfl) dh_ok_96
theorem dh_e_72 : jm_kok dh_cn dh_J dh_W dh_M dh_nl dh_rc (1, 209, 2, 85, 3) := jk_2 (y := 2) ("DeltaHistory$Bytes", dh_T3, 3) (by decide) rfl rfl (dh_m3 (i := 100) rfl rfl) dh_cw_85 (dh_m3 (i := 98) rfl rfl) (dh_m3 (i := 99) rfl rfl) dh_ok_85
theorem dh_e_73 : jm_kok dh_cn dh_J dh_W dh_M dh_nl dh_rc (1, 213, 2, 80, 1) := jk_2 (y := 0) ("DeltaHistory$Bytes", dh_T3, 3) (by decide) rfl rfl (dh_m2 (i := 159) rfl rfl) dh_cw_80 (dh_m3 (i := 104) rfl rfl) (dh_m2 (i := 158) rfl rfl) dh_ok_80
theorem dh_e_74 : jm_kok dh_cn dh_J dh_W dh_M dh_nl dh_rc (2, 1, 9, 0, 0) := jk_9 (dh_m3 (i := 217) rfl rfl) (dh_m1 (i := 25) rfl rfl) (dh_m1 (i := 26) rfl rfl)
theorem dh_e_75 : jm_kok dh_cn dh_J dh_W dh_M dh_nl dh_rc (2, 7, 1, 2, 2) := jk_1 ("DeltaHistoryModel", dh_T2, 43) (by decide) rfl (by decide) rfl (dh_m3 (i := 220) rfl rfl)
theorem dh_e_76 : jm_kok dh_cn dh_J dh_W dh_M dh_nl dh_rc (2, 13, 1, 2, 3) := jk_1 ("DeltaHistoryModel", dh_T2, 43) (by decide) rfl (by decide) rfl (dh_m3 (i := 221) rfl rfl)
theorem dh_e_77 : jm_kok dh_cn dh_J dh_W dh_M dh_nl dh_rc (2, 16, 1, 2, 4) := jk_1 ("DeltaHistoryModel", dh_T2, 43) (by decide) rfl (by decide) rfl (dh_m3 (i := 222) rfl rfl)
theorem dh_e_78 : jm_kok dh_cn dh_J dh_W dh_M dh_nl dh_rc (2, 19, 1, 2, 5) := jk_1 ("DeltaHistoryModel", dh_T2, 43) (by decide) rfl (by decide) rfl (dh_m3 (i := 223) rfl rfl)
theorem dh_e_79 : jm_kok dh_cn dh_J dh_W dh_M dh_nl dh_rc (2, 22, 1, 2, 6) := jk_1 ("DeltaHistoryModel", dh_T2, 43) (by decide) rfl (by decide) rfl (dh_m3 (i := 224) rfl rfl)
theorem dh_e_80 : jm_kok dh_cn dh_J dh_W dh_M dh_nl dh_rc (2, 25, 1, 2, 7) := jk_1 ("DeltaHistoryModel", dh_T2, 43) (by decide) rfl (by decide) rfl (dh_m3 (i := 225) rfl rfl)
theorem dh_e_81 : jm_kok dh_cn dh_J dh_W dh_M dh_nl dh_rc (2, 28, 1, 2, 8) := jk_1 ("DeltaHistoryModel", dh_T2, 43) (by decide) rfl (by decide) rfl (dh_m3 (i := 226) rfl rfl)
theorem dh_e_82 : jm_kok dh_cn dh_J dh_W dh_M dh_nl dh_rc (2, 31, 1, 2, 9) := jk_1 ("DeltaHistoryModel", dh_T2, 43) (by decide) rfl (by decide) rfl (dh_m3 (i := 227) rfl rfl)
theorem dh_e_83 : jm_kok dh_cn dh_J dh_W dh_M dh_nl dh_rc (2, 34, 1, 2, 11) := jk_1 ("DeltaHistoryModel", dh_T2, 43) (by decide) rfl (by decide) rfl (dh_m3 (i := 229) rfl rfl)
theorem dh_e_84 : jm_kok dh_cn dh_J dh_W dh_M dh_nl dh_rc (2, 38, 1, 2, 12) := jk_1 ("DeltaHistoryModel", dh_T2, 43) (by decide) rfl (by decide) rfl (dh_m3 (i := 230) rfl rfl)
theorem dh_e_85 : jm_kok dh_cn dh_J dh_W dh_M dh_nl dh_rc (2, 41, 1, 2, 14) := jk_1 ("DeltaHistoryModel", dh_T2, 43) (by decide) rfl (by decide) rfl (dh_m3 (i := 232) rfl rfl)
theorem dh_e_86 : jm_kok dh_cn dh_J dh_W dh_M dh_nl dh_rc (2, 44, 1, 2, 15) := jk_1 ("DeltaHistoryModel", dh_T2, 43) (by decide) rfl (by decide) rfl (dh_m3 (i := 233) rfl rfl)
theorem dh_e_87 : jm_kok dh_cn dh_J dh_W dh_M dh_nl dh_rc (2, 47, 1, 2, 17) := jk_1 ("DeltaHistoryModel", dh_T2, 43) (by decide) rfl (by decide) rfl (dh_m3 (i := 235) rfl rfl)
theorem dh_e_88 : jm_kok dh_cn dh_J dh_W dh_M dh_nl dh_rc (2, 50, 1, 2, 19) := jk_1 ("DeltaHistoryModel", dh_T2, 43) (by decide) rfl (by decide) rfl (dh_m3 (i := 237) rfl rfl)
theorem dh_e_89 : jm_kok dh_cn dh_J dh_W dh_M dh_nl dh_rc (2, 53, 1, 2, 20) := jk_1 ("DeltaHistoryModel", dh_T2, 43) (by decide) rfl (by decide) rfl (dh_m3 (i := 238) rfl rfl)
theorem dh_e_90 : jm_kok dh_cn dh_J dh_W dh_M dh_nl dh_rc (2, 56, 1, 2, 22) := jk_1 ("DeltaHistoryModel", dh_T2, 43) (by decide) rfl (by decide) rfl (dh_m4 (i := 0) rfl rfl)
theorem dh_e_91 : jm_kok dh_cn dh_J dh_W dh_M dh_nl dh_rc (2, 59, 1, 2, 23) := jk_1 ("DeltaHistoryModel", dh_T2, 43) (by decide) rfl (by decide) rfl (dh_m4 (i := 1) rfl rfl)
theorem dh_e_92 : jm_kok dh_cn dh_J dh_W dh_M dh_nl dh_rc (2, 62, 1, 2, 24) := jk_1 ("DeltaHistoryModel", dh_T2, 43) (by decide) rfl (by decide) rfl (dh_m4 (i := 2) rfl rfl)
theorem dh_e_93 : jm_kok dh_cn dh_J dh_W dh_M dh_nl dh_rc (2, 65, 1, 2, 25) := jk_1 ("DeltaHistoryModel", dh_T2, 43) (by decide) rfl (by decide) rfl (dh_m4 (i := 3) rfl rfl)
theorem dh_e_94 : jm_kok dh_cn dh_J dh_W dh_M dh_nl dh_rc (2, 68, 1, 2, 27) := jk_1 ("DeltaHistoryModel", dh_T2, 43) (by decide) rfl (by decide) rfl (dh_m4 (i := 5) rfl rfl)
theorem dh_e_95 : jm_kok dh_cn dh_J dh_W dh_M dh_nl dh_rc (2, 71, 1, 2, 28) := jk_1 ("DeltaHistoryModel", dh_T2, 43) (by decide) rfl (by decide) rfl (dh_m4 (i := 6) rfl rfl)
theorem dh_e_96 : jm_kok dh_cn dh_J dh_W dh_M dh_nl dh_rc (2, 74, 1, 2, 29) := jk_1 ("DeltaHistoryModel", dh_T2, 43) (by decide) rfl (by decide) rfl (dh_m4 (i := 7) rfl rfl)
theorem dh_e_97 : jm_kok dh_cn dh_J dh_W dh_M dh_nl dh_rc (2, 77, 1, 2, 30) := jk_1 ("DeltaHistoryModel", dh_T2, 43) (by decide) rfl (by decide) rfl (dh_m4 (i := 8) rfl rfl)
theorem dh_e_98 : jm_kok dh_cn dh_J dh_W dh_M dh_nl dh_rc (2, 80, 1, 2, 31) := jk_1 ("DeltaHistoryModel", dh_T2, 43) (by decide) rfl (by decide) rfl (dh_m4 (i := 9) rfl rfl)
theorem dh_e_99 : jm_kok dh_cn dh_J dh_W dh_M dh_nl dh_rc (2, 83, 1, 2, 33) := jk_1 ("DeltaHistoryModel", dh_T2, 43) (by decide) rfl (by decide) rfl (dh_m4 (i := 11) rfl rfl)
theorem dh_e_100 : jm_kok dh_cn dh_J dh_W dh_M dh_nl dh_rc (2, 86, 1, 2, 34) := jk_1 ("DeltaHistoryModel", dh_T2, 43) (by decide) rfl (by decide) rfl (dh_m4 (i := 12) rfl rfl)
theorem dh_e_101 : jm_kok dh_cn dh_J dh_W dh_M dh_nl dh_rc (2, 89, 1, 2, 38) := jk_1 ("DeltaHistoryModel", dh_T2, 43) (by decide) rfl (by decide) rfl (dh_m4 (i := 16) rfl rfl)
theorem dh_e_102 : jm_kok dh_cn dh_J dh_W dh_M dh_nl dh_rc (2, 92, 1, 2, 39) := jk_1 ("DeltaHistoryModel", dh_T2, 43) (by decide) rfl (by decide) rfl (dh_m4 (i := 17) rfl rfl)
theorem dh_e_103 : jm_kok dh_cn dh_J dh_W dh_M dh_nl dh_rc (2, 95, 1, 2, 40) := jk_1 ("DeltaHistoryModel", dh_T2, 43) (by decide) rfl (by decide) rfl (dh_m4 (i := 18) rfl rfl)
theorem dh_e_104 : jm_kok dh_cn dh_J dh_W dh_M dh_nl dh_rc (2, 98, 1, 2, 41) := jk_1 ("DeltaHistoryModel", dh_T2, 43) (by decide) rfl (by decide) rfl (dh_m4 (i := 19) rfl rfl)
theorem dh_e_105 : jm_kok dh_cn dh_J dh_W dh_M dh_nl dh_rc (2, 101, 1, 2, 42) := jk_1 ("DeltaHistoryModel", dh_T2, 43) (by decide) rfl (by decide) rfl (dh_m4 (i := 20) rfl rfl)
theorem dh_e_106 : jm_kok dh_cn dh_J dh_W dh_M dh_nl dh_rc (2, 104, 1, 2, 0) := jk_1 ("DeltaHistoryModel", dh_T2, 43) (by decide) rfl (by decide) rfl (dh_m3 (i := 218) rfl rfl)
theorem dh_e_107 : jm_kok dh_cn dh_J dh_W dh_M dh_nl dh_rc (2, 107, 3, 30, 4) := jk_3 rfl dh_cw_30 (dh_m4 (i := 116) rfl rfl) (dh_m4 (i := 117) rfl rfl) (dh_m1 (i := 9) rfl rfl) dh_ok_30
theorem dh_e_108 : jm_kok dh_cn dh_J dh_W dh_M dh_nl dh_rc (2, 111, 3, 29, 1) := jk_3 rfl dh_cw_29 (dh_m4 (i := 119) rfl rfl) (dh_m4 (i := 120) rfl rfl) (dh_m1 (i := 9) rfl rfl) dh_ok_29
theorem dh_e_109 : jm_kok dh_cn dh_J dh_W dh_M dh_nl dh_rc (2, 115, 1, 2, 10) := jk_1 ("DeltaHistoryModel", dh_T2, 43) (by decide) rfl (by decide) rfl (dh_m3 (i := 228) rfl rfl)
theorem dh_e_110 : jm_kok dh_cn dh_J dh_W dh_M dh_nl dh_rc (2, 118, 1, 2, 1) := jk_1 ("DeltaHistoryModel", dh_T2, 43) (by decide) rfl (by decide) rfl (dh_m3 (i := 219) rfl rfl)
theorem dh_e_111 : jm_kok dh_cn dh_J dh_W dh_M dh_nl dh_rc (2, 121, 2, 36, 2) := jk_2 (y := 1) ("DeltaHistoryModel", dh_T2, 43) (by decide) rfl rfl (dh_m0 (i := 23) rfl rfl) dh_cw_36 (dh_m4 (i := 165) rfl rfl) (dh_m4 (i := 167) rfl rfl) dh_ok_36
theorem dh_e_112 : jm_kok dh_cn dh_J dh_W dh_M dh_nl dh_rc (2, 125, 2, 39, 2) := jk_2 (y := 1) ("DeltaHistoryModel", dh_T2, 43) (by decide) rfl rfl (dh_m0 (i := 35) rfl rfl) dh_cw_39 (dh_m4 (i := 221) rfl rfl) (dh_m4 (i := 223) rfl rfl) dh_ok_39
theorem dh_e_113 : jm_kok dh_cn dh_J dh_W dh_M dh_nl dh_rc (2, 128, 1, 2, 16) := jk_1 ("DeltaHistoryModel", dh_T2, 43) (by decide) rfl (by decide) rfl (dh_m3 (i := 234) rfl rfl)
theorem dh_e_114 : jm_kok dh_cn dh_J dh_W dh_M dh_nl dh_rc (2, 131, 1, 2, 18) := jk_1 ("DeltaHistoryModel", dh_T2, 43) (by decide) rfl (by decide) rfl (dh_m3 (i := 236) rfl rfl)
theorem dh_e_115 : jm_kok dh_cn dh_J dh_W dh_M dh_nl dh_rc (2, 134, 1, 2, 21) := jk_1 ("DeltaHistoryModel", dh_T2, 43) (by decide) rfl (by decide) rfl (dh_m3 (i := 239) rfl rfl)
theorem dh_e_116 : jm_kok dh_cn dh_J dh_W dh_M dh_nl dh_rc (2, 137, 2, 43, 1) := jk_2 (y := 0) ("DeltaHistoryModel", dh_T2, 43) (by decide) rfl rfl (dh_m0 (i := 28) rfl rfl) dh_cw_43 (dh_m4 (i := 185) rfl rfl) (dh_m4 (i := 187) rfl rfl) dh_ok_43
theorem dh_e_117 : jm_kok dh_cn dh_J dh_W dh_M dh_nl dh_rc (2, 140, 2, 44, 5) := jk_2 (y := 4) ("DeltaHistoryModel", dh_T2, 43) (by decide) rfl rfl (dh_m0 (i := 29) rfl rfl) dh_cw_44 (dh_m4 (i := 189) rfl rfl) (dh_m4 (i := 191) rfl rfl) dh_ok_44
theorem dh_e_118 : jm_kok dh_cn dh_J dh_W dh_M dh_nl dh_rc (2, 144, 1, 2, 32) := jk_1 ("DeltaHistoryModel", dh_T2, 43) (by decide) rfl (by decide) rfl (dh_m4 (i := 10) rfl rfl)
theorem dh_e_119 : jm_kok dh_cn dh_J dh_W dh_M dh_nl dh_rc (2, 147, 2, 46, 2) := jk_2 (y := 1) ("DeltaHistoryModel", dh_T2, 43) (by decide) rfl rfl (dh_m0 (i := 21) rfl rfl) dh_cw_46 (dh_m4 (i := 157) rfl rfl) (dh_m4 (i := 159) rfl rfl) dh_ok_46
theorem dh_e_120 : jm_kok dh_cn dh_J dh_W dh_M dh_nl dh_rc (2, 151, 2, 38, 1) := jk_2 (y := 0) ("DeltaHistoryModel", dh_T2, 43) (by decide) rfl rfl (dh_m0 (i := 22) rfl rfl) dh_cw_38 (dh_m4 (i := 161) rfl rfl) (dh_m4 (i := 163) rfl rfl) dh_ok_38
theorem dh_e_121 : jm_kok dh_cn dh_J dh_W dh_M dh_nl dh_rc (2, 155, 2, 37, 2) := jk_2 (y := 1) ("DeltaHistoryModel", dh_T2, 43) (by decide) rfl rfl (dh_m0 (i := 24) rfl rfl) dh_cw_37 (dh_m4 (i := 169) rfl rfl) (dh_m4 (i := 171) rfl rfl) dh_ok_37
theorem dh_e_122 : jm_kok dh_cn dh_J dh_W dh_M dh_nl dh_rc (2, 158, 2, 41, 2) := jk_2 (y := 1) ("DeltaHistoryModel", dh_T2, 43) (by decide) rfl rfl (dh_m0 (i := 25) rfl rfl) dh_cw_41 (dh_m4 (i := 173) rfl rfl) (dh_m4 (i := 175) rfl rfl) dh_ok_41
theorem dh_e_123 : jm_kok dh_cn dh_J dh_W dh_M dh_nl dh_rc (2, 161, 2, 42, 2) := jk_2 (y := 1) ("DeltaHistoryModel", dh_T2, 43) (by decide) rfl rfl (dh_m0 (i := 26) rfl rfl) dh_cw_42 (dh_m4 (i := 177) rfl rfl) (dh_m4 (i := 179) rfl rfl) dh_ok_42
theorem dh_e_124 : jm_kok dh_cn dh_J dh_W dh_M dh_nl dh_rc (2, 164, 2, 45, 1) := jk_2 (y := 0) ("DeltaHistoryModel", dh_T2, 43) (by decide) rfl rfl (dh_m0 (i := 27) rfl rfl) dh_cw_45 (dh_m4 (i := 181) rfl rfl) (dh_m4 (i := 183) rfl rfl) dh_ok_45
theorem dh_e_125 : jm_kok dh_cn dh_J dh_W dh_M dh_nl dh_rc (2, 167, 2, 47, 1) := jk_2 (y := 0) ("DeltaHistoryModel", dh_T2, 43) (by decide) rfl rfl (dh_m0 (i := 30) rfl rfl) dh_cw_47 (dh_m4 (i := 193) rfl rfl) (dh_m4 (i := 195) rfl rfl) dh_ok_47
theorem dh_e_126 : jm_kok dh_cn dh_J dh_W dh_M dh_nl dh_rc (2, 170, 1, 2, 13) := jk_1 ("DeltaHistoryModel", dh_T2, 43) (by decide) rfl (by decide) rfl (dh_m3 (i := 231) rfl rfl)
theorem dh_e_127 : jm_kok dh_cn dh_J dh_W dh_M dh_nl dh_rc (2, 173, 2, 48, 1) := jk_2 (y := 0) ("DeltaHistoryModel", dh_T2, 43) (by decide) rfl rfl (dh_m0 (i := 20) rfl rfl) dh_cw_48 (dh_m4 (i := 153) rfl rfl) (dh_m4 (i := 155) rfl rfl) dh_ok_48
theorem dh_e_128 : jm_kok dh_cn dh_J dh_W dh_M dh_nl dh_rc (2, 176, 2, 49, 1) := jk_2 (y := 0) ("DeltaHistoryModel", dh_T2, 43) (by decide) rfl rfl (dh_m0 (i := 31) rfl rfl) dh_cw_49 (dh_m4 (i := 197) rfl rfl) (dh_m4 (i := 199) rfl rfl) dh_ok_49
theorem dh_e_129 : jm_kok dh_cn dh_J dh_W dh_M dh_nl dh_rc (2, 180, 2, 50, 1) := jk_2 (y := 0) ("DeltaHistoryModel", dh_T2, 43) (by decide) rfl rfl (dh_m0 (i := 32) rfl rfl) dh_cw_50 (dh_m4 (i := 201) rfl rfl) (dh_m4 (i := 203) rfl rfl) dh_ok_50
theorem dh_e_130 : jm_kok dh_cn dh_J dh_W dh_M dh_nl dh_rc (2, 183, 2, 51, 1) := jk_2 (y := 0) ("DeltaHistoryModel", dh_T2, 43) (by decide) rfl rfl (dh_m0 (i := 33) rfl rfl) dh_cw_51 (dh_m4 (i := 205) rfl rfl) (dh_m4 (i := 207) rfl rfl) dh_ok_51
theorem dh_e_131 : jm_kok dh_cn dh_J dh_W dh_M dh_nl dh_rc (2, 186, 3, 52, 1) := jk_3 rfl dh_cw_52 (dh_m4 (i := 142) rfl rfl) (dh_m4 (i := 143) rfl rfl) (dh_m1 (i := 9) rfl rfl) dh_ok_52
theorem dh_e_132 : jm_kok dh_cn dh_J dh_W dh_M dh_nl dh_rc (2, 189, 2, 53, 2) := jk_2 (y := 1) ("DeltaHistoryModel", dh_T2, 43) (by decide) rfl rfl (dh_m0 (i := 18) rfl rfl) dh_cw_53 (dh_m4 (i := 145) rfl rfl) (dh_m4 (i := 147) rfl rfl) dh_ok_53
theorem dh_e_133 : jm_kok dh_cn dh_J dh_W dh_M dh_nl dh_rc (2, 192, 2, 54, 3) := jk_2 (y := 2) ("DeltaHistoryModel", dh_T2, 43) (by decide) rfl rfl (dh_m0 (i := 19) rfl rfl) dh_cw_54 (dh_m4 (i := 149) rfl rfl) (dh_m4 (i := 151) rfl rfl) dh_ok_54
theorem dh_e_134 : jm_kok dh_cn dh_J dh_W dh_M dh_nl dh_rc (2, 196, 2, 40, 2) := jk_2 (y := 1) ("DeltaHistoryModel", dh_T2, 43) (by decide) rfl rfl (dh_m0 (i := 34) rfl rfl) dh_cw_40 (dh_m4 (i := 217) rfl rfl) (dh_m4 (i := 219) rfl rfl) dh_ok_40
theorem dh_e_135 : jm_kok dh_cn dh_J dh_W dh_M dh_nl dh_rc (2, 199, 1, 2, 37) := jk_1 ("DeltaHistoryModel", dh_T2, 43) (by decide) rfl (by decide) rfl (dh_m4 (i := 15) rfl rfl)
theorem dh_e_136 : jm_kok dh_cn dh_J dh_W dh_M dh_nl dh_rc (2, 202, 1, 2, 36) := jk_1 ("DeltaHistoryModel", dh_T2, 43) (by decide) rfl (by decide) rfl (dh_m4 (i := 14) rfl rfl)
theorem dh_e_137 : jm_kok dh_cn dh_J dh_W dh_M dh_nl dh_rc (2, 206, 1, 2, 35) := jk_1 ("DeltaHistoryModel", dh_T2, 43) (by decide) rfl (by decide) rfl (dh_m4 (i := 13) rfl rfl)
theorem dh_e_138 : jm_kok dh_cn dh_J dh_W dh_M dh_nl dh_rc (2, 209, 2, 63, 3) := jk_2 (y := 2) ("DeltaHistoryModel", dh_T2, 43) (by decide) rfl rfl (dh_m0 (i := 38) rfl rfl) dh_cw_63 (dh_m5 (i := 9) rfl rfl) (dh_m5 (i := 11) rfl rfl) dh_ok_63
theorem dh_e_139 : jm_kok dh_cn dh_J dh_W dh_M dh_nl dh_rc (2, 212, 2, 66, 3) := jk_2 (y := 2) ("DeltaHistoryModel", dh_T2, 43) (by decide) rfl rfl (dh_m0 (i := 41) rfl rfl) dh_cw_66 (dh_m5 (i := 21) rfl rfl) (dh_m5 (i := 23) rfl rfl) dh_ok_66
theorem dh_e_140 : jm_kok dh_cn dh_J dh_W dh_M dh_nl dh_rc (2, 216, 2, 67, 3) := jk_2 (y := 2) ("DeltaHistoryModel", dh_T2, 43) (by decide) rfl rfl (dh_m0 (i := 42) rfl rfl) dh_cw_67 (dh_m5 (i := 25) rfl rfl) (dh_m5 (i := 27) rfl rfl) dh_ok_67
theorem dh_e_141 : jm_kok dh_cn dh_J dh_W dh_M dh_nl dh_rc (2, 219, 2, 61, 1) := jk_2 (y := 0) ("DeltaHistoryModel", dh_T2, 43) (by decide) rfl rfl (dh_m0 (i := 36) rfl rfl) dh_cw_61 (dh_m5 (i := 1) rfl rfl) (dh_m5 (i := 3) rfl rfl) dh_ok_61
theorem dh_e_142 : jm_kok dh_cn dh_J dh_W dh_M dh_nl dh_rc (2, 222, 2, 64, 1) := jk_2 (y := 0) ("DeltaHistoryModel", dh_T2, 43) (by decide) rfl rfl (dh_m0 (i := 37) rfl rfl) dh_cw_64 (dh_m5 (i := 5) rfl rfl) (dh_m5 (i := 7) rfl rfl) dh_ok_64
theorem dh_e_143 : jm_kok dh_cn dh_J dh_W dh_M dh_nl dh_rc (2, 225, 2, 65, 1) := jk_2 (y := 0) ("DeltaHistoryModel", dh_T2, 43) (by decide) rfl rfl (dh_m0 (i := 39) rfl rfl) dh_cw_65 (dh_m5 (i := 13) rfl rfl) (dh_m5 (i := 15) rfl rfl) dh_ok_65
theorem dh_e_144 : jm_kok dh_cn dh_J dh_W dh_M dh_nl dh_rc (2, 228, 2, 68, 1) := jk_2 (y := 0) ("DeltaHistoryModel", dh_T2, 43) (by decide) rfl rfl (dh_m0 (i := 40) rfl rfl) dh_cw_68 (dh_m5 (i := 17) rfl rfl) (dh_m5 (i := 19) rfl rfl) dh_ok_68
theorem dh_e_145 : jm_kok dh_cn dh_J dh_W dh_M dh_nl dh_rc (2, 231, 2, 69, 1) := jk_2 (y := 0) ("DeltaHistoryModel", dh_T2, 43) (by decide) rfl rfl (dh_m0 (i := 43) rfl rfl) dh_cw_69 (dh_m5 (i := 29) rfl rfl) (dh_m5 (i := 31) rfl rfl) dh_ok_69
theorem dh_e_146 : jm_kok dh_cn dh_J dh_W dh_M dh_nl dh_rc (2, 234, 2, 62, 1) := jk_2 (y := 0) ("DeltaHistoryModel", dh_T2, 43) (by decide) rfl rfl (dh_m0 (i := 44) rfl rfl) dh_cw_62 (dh_m5 (i := 33) rfl rfl) (dh_m5 (i := 35) rfl rfl) dh_ok_62
theorem dh_e_147 : jm_kok dh_cn dh_J dh_W dh_M dh_nl dh_rc (2, 237, 1, 2, 26) := jk_1 ("DeltaHistoryModel", dh_T2, 43) (by decide) rfl (by decide) rfl (dh_m4 (i := 4) rfl rfl)
theorem dh_e_148 : jm_kok dh_cn dh_J dh_W dh_M dh_nl dh_rc (3, 3, 9, 0, 0) := jk_9 (dh_m1 (i := 93) rfl rfl) (dh_m1 (i := 25) rfl rfl) (dh_m1 (i := 26) rfl rfl)
theorem dh_e_149 : jm_kok dh_cn dh_J dh_W dh_M dh_nl dh_rc (3, 9, 1, 3, 0) := jk_1 ("DeltaHistory$Bytes", dh_T3, 3) (by decide) rfl (by decide) rfl (dh_m1 (i := 94) rfl rfl)
theorem dh_e_150 : jm_kok dh_cn dh_J dh_W dh_M dh_nl dh_rc (3, 15, 1, 3, 1) := jk_1 ("DeltaHistory$Bytes", dh_T3, 3) (by decide) rfl (by decide) rfl (dh_m1 (i := 96) rfl rfl)
theorem dh_e_151 : jm_kok dh_cn dh_J dh_W dh_M dh_nl dh_rc (3, 19, 2, 83, 2) := jk_2 (y := 1) ("DeltaHistory$Bytes", dh_T3, 3) (by decide) rfl rfl (dh_m2 (i := 87) rfl rfl) dh_cw_83 (dh_m2 (i := 85) rfl rfl) (dh_m2 (i := 86) rfl rfl) dh_ok_83
theorem dh_e_152 : jm_kok dh_cn dh_J dh_W dh_M dh_nl dh_rc (3, 23, 2, 80, 1) := jk_2 (y := 0) ("DeltaHistory$Bytes", dh_T3, 3) (by decide) rfl rfl (dh_m2 (i := 159) rfl rfl) dh_cw_80 (dh_m3 (i := 102) rfl rfl) (dh_m2 (i := 158) rfl rfl) dh_ok_80
theorem dh_e_153 : jm_kok dh_cn dh_J dh_W dh_M dh_nl dh_rc (3, 26, 2, 81, 2) := jk_2 (y := 1) ("DeltaHistory$Bytes", dh_T3, 3) (by decide) rfl rfl (dh_m1 (i := 211) rfl rfl) dh_cw_81 (dh_m3 (i := 103) rfl rfl) (dh_m1 (i := 210) rfl rfl) dh_ok_81
theorem dh_e_154 : jm_kok dh_cn dh_J dh_W dh_M dh_nl dh_rc (3, 30, 2, 84, 2) := jk_2 (y := 1) ("DeltaHistory$Bytes", dh_T3, 3) (by decide) rfl rfl (dh_m2 (i := 197) rfl rfl) dh_cw_84 (dh_m2 (i := 195) rfl rfl) (dh_m2 (i := 196) rfl rfl) dh_ok_84
theorem dh_e_155 : jm_kok dh_cn dh_J dh_W dh_M dh_nl dh_rc (3, 34, 1, 3, 2) := jk_1 ("DeltaHistory$Bytes", dh_T3, 3) (by decide) rfl (by decide) rfl (dh_m1 (i := 100) rfl rfl)
theorem dh_e_156 : jm_kok dh_cn dh_J dh_W dh_M dh_nl dh_rc (4, 3, 9, 0, 0) := jk_9 (dh_m1 (i := 52) rfl rfl) (dh_m1 (i := 25) rfl rfl) (dh_m1 (i := 26) rfl rfl)
theorem dh_e_157 : jm_kok dh_cn dh_J dh_W dh_M dh_nl dh_rc (4, 11, 1, 4, 0) := jk_1 ("DeltaHistory$Delta", dh_T4, 9) (by decide) rfl (by decide) rfl (dh_m1 (i := 55) rfl rfl)
theorem dh_e_158 : jm_kok dh_cn dh_J dh_W dh_M dh_nl dh_rc (4, 15, 1, 4, 1) := jk_1 ("DeltaHistory$Delta", dh_T4, 9) (by decide) rfl (by decide) rfl (dh_m1 (i := 57) rfl rfl)
theorem dh_e_159 : jm_kok dh_cn dh_J dh_W dh_M dh_nl dh_rc (4, 18, 1, 4, 2) := jk_1 ("DeltaHistory$Delta", dh_T4, 9) (by decide) rfl (by decide) rfl (dh_m1 (i := 59) rfl rfl)
theorem dh_e_160 : jm_kok dh_cn dh_J dh_W dh_M dh_nl dh_rc (4, 21, 1, 4, 3) := jk_1 ("DeltaHistory$Delta", dh_T4, 9) (by decide) rfl (by decide) rfl (dh_m1 (i := 61) rfl rfl)
theorem dh_e_161 : jm_kok dh_cn dh_J dh_W dh_M dh_nl dh_rc (4, 24, 1, 4, 4) := jk_1 ("DeltaHistory$Delta", dh_T4, 9) (by decide) rfl (by decide) rfl (dh_m1 (i := 62) rfl rfl)
theorem dh_e_162 : jm_kok dh_cn dh_J dh_W dh_M dh_nl dh_rc (4, 27, 13, 61, 0) := jk_13 (by decide) rfl (dh_m1 (i := 53) rfl rfl)
theorem dh_e_163 : jm_kok dh_cn dh_J dh_W dh_M dh_nl dh_rc (4, 29, 1, 4, 5) := jk_1 ("DeltaHistory$Delta", dh_T4, 9) (by decide) rfl (by decide) rfl (dh_m1 (i := 63) rfl rfl)
theorem dh_e_164 : jm_kok dh_cn dh_J dh_W dh_M dh_nl dh_rc (4, 32, 2, 90, 3) := jk_2 (y := 2) ("DeltaHistory$Delta", dh_T4, 9) (by decide) rfl rfl (dh_m0 (i := 8) rfl rfl) dh_cw_90 (dh_m2 (i := 168) rfl rfl) (dh_m2 (i := 170) rfl rfl) dh_ok_90
theorem dh_e_165 : jm_kok dh_cn dh_J dh_W dh_M dh_nl dh_rc (4, 36, 1, 4, 6) := jk_1 ("DeltaHistory$Delta", dh_T4, 9) (by decide) rfl (by decide) rfl (dh_m1 (i := 64) rfl rfl)
theorem dh_e_166 : jm_kok dh_cn dh_J dh_W dh_M dh_nl dh_rc (4, 40, 1, 4, 7) := jk_1 ("DeltaHistory$Delta", dh_T4, 9) (by decide) rfl (by decide) rfl (dh_m1 (i := 67) rfl rfl)
theorem dh_e_167 : jm_kok dh_cn dh_J dh_W dh_M dh_nl dh_rc (4, 43, 1, 4, 8) := jk_1 ("DeltaHistory$Delta", dh_T4, 9) (by decide) rfl (by decide) rfl (dh_m1 (i := 68) rfl rfl)
theorem dh_e_168 : jm_kok dh_cn dh_J dh_W dh_M dh_nl dh_rc (4, 47, 1, 8, 1) := jk_1 ("DeltaHistory$Text", dh_T8, 2) (by decide) rfl (by decide) rfl (dh_m1 (i := 37) rfl rfl)
theorem dh_e_169 : jm_kok dh_cn dh_J dh_W dh_M dh_nl dh_rc (4, 52, 1, 8, 0) := jk_1 ("DeltaHistory$Text", dh_T8, 2) (by decide) rfl (by decide) rfl (dh_m1 (i := 34) rfl rfl)
theorem dh_e_170 : jm_kok dh_cn dh_J dh_W dh_M dh_nl dh_rc (4, 55, 2, 91, 3) := jk_2 (y := 2) ("DeltaHistory$Delta", dh_T4, 9) (by decide) rfl rfl (dh_m0 (i := 9) rfl rfl) dh_cw_91 (dh_m2 (i := 175) rfl rfl) (dh_m2 (i := 177) rfl rfl) dh_ok_91
theorem dh_e_171 : jm_kok dh_cn dh_J dh_W dh_M dh_nl dh_rc (4, 59, 10, 0, 0) := jk_10 (dh_m2 (i := 172) rfl rfl) (dh_m2 (i := 173) rfl rfl) (dh_m1 (i := 16) rfl rfl) (dh_m2 (i := 174) rfl rfl)
theorem dh_e_172 : jm_kok dh_cn dh_J dh_W dh_M dh_nl dh_rc (4, 65, 2, 93, 3) := jk_2 (y := 2) ("DeltaHistory$Delta", dh_T4, 9) (by decide) rfl rfl (dh_m2 (i := 185) rfl rfl) dh_cw_93 (dh_m2 (i := 215) rfl rfl) (dh_m2 (i := 184) rfl rfl) dh_ok_93
theorem dh_e_173 : jm_kok dh_cn dh_J dh_W dh_M dh_nl dh_rc (5, 3, 9, 0, 0) := jk_9 (dh_m1 (i := 135) rfl rfl) (dh_m1 (i := 25) rfl rfl) (dh_m1 (i := 26) rfl rfl)
theorem dh_e_174 : jm_kok dh_cn dh_J dh_W dh_M dh_nl dh_rc (5, 9, 5, 7, 10) := jk_5 ("DeltaHistory$Revision", dh_T7, 10) (by decide) rfl rfl (dh_m1 (i := 136) rfl rfl) (dh_m1 (i := 138) rfl rfl) (dh_m1 (i := 8) rfl rfl) (by decide +kernel)
theorem dh_e_175 : jm_kok dh_cn dh_J dh_W dh_M dh_nl dh_rc (5, 9, 6, 69, 0) := jk_6 "DeltaHistory$Revision" (by decide) rfl (dh_m1 (i := 136) rfl rfl)
theorem dh_e_176 : jm_kok dh_cn dh_J dh_W dh_M dh_nl dh_rc (5, 11, 1, 5, 0) := jk_1 ("DeltaHistory$History", dh_T5, 2) (by decide) rfl (by decide) rfl (dh_m1 (i := 196) rfl rfl)
theorem dh_e_177 : jm_kok dh_cn dh_J dh_W dh_M dh_nl dh_rc (5, 17, 4, 111, 1) := jk_4 (y := 0) (by decide) rfl (dh_m1 (i := 141) rfl rfl) dh_cw_111 (dh_m1 (i := 139) rfl rfl) (dh_m1 (i := 140) rfl rfl) dh_ok_111
theorem dh_e_178 : jm_kok dh_cn dh_J dh_W dh_M dh_nl dh_rc (5, 18, 1, 5, 1) := jk_1 ("DeltaHistory$History", dh_T5, 2) (by decide) rfl (by decide) rfl (dh_m1 (i := 200) rfl rfl)
theorem dh_e_179 : jm_kok dh_cn dh_J dh_W dh_M dh_nl dh_rc (5, 22, 2, 112, 2) := jk_2 (y := 1) ("DeltaHistory$Revision", dh_T7, 10) (by decide) rfl rfl (dh_m3 (i := 91) rfl rfl) dh_cw_112 (dh_m3 (i := 89) rfl rfl) (dh_m3 (i := 90) rfl rfl) dh_ok_112
theorem dh_e_180 : jm_kok dh_cn dh_J dh_W dh_M dh_nl dh_rc (5, 26, 2, 113, 3) := jk_2 (y := 2) ("DeltaHistory$Revision", dh_T7, 10) (by decide) rfl rfl (dh_m2 (i := 99) rfl rfl) dh_cw_113 (dh_m2 (i := 97) rfl rfl) (dh_m2 (i := 98) rfl rfl) dh_ok_113
theorem dh_e_181 : jm_kok dh_cn dh_J dh_W dh_M dh_nl dh_rc (5, 30, 2, 96, 2) := jk_2 (y := 1) ("DeltaHistory$History", dh_T5, 2) (by decide) rfl rfl (dh_m2 (i := 91) rfl rfl) dh_cw_96 (dh_m2 (i := 102) rfl rfl) (dh_m2 (i := 90) rfl rfl) dh_ok_96
theorem dh_e_182 : jm_kok dh_cn dh_J dh_W dh_M dh_nl dh_rc (5, 34, 1, 7, 4) := jk_1 ("DeltaHistory$Revision", dh_T7, 10) (by decide) rfl (by decide) rfl (dh_m1 (i := 161) rfl rfl)
theorem dh_e_183 : jm_kok dh_cn dh_J dh_W dh_M dh_nl dh_rc (5, 37, 2, 114, 2) := jk_2 (y := 1) ("DeltaHistory$Revision", dh_T7, 10) (by decide) rfl rfl (dh_m2 (i := 105) rfl rfl) dh_cw_114 (dh_m2 (i := 103) rfl rfl) (dh_m2 (i := 104) rfl rfl) dh_ok_114
theorem dh_e_184 : jm_kok dh_cn dh_J dh_W dh_M dh_nl dh_rc (5, 40, 1, 7, 5) := jk_1 ("DeltaHistory$Revision", dh_T7, 10) (by decide) rfl (by decide) rfl (dh_m1 (i := 164) rfl rfl)
theorem dh_e_185 : jm_kok dh_cn dh_J dh_W dh_M dh_nl dh_rc (5, 43, 2, 115, 2) := jk_2 (y := 1) ("DeltaHistory$Revision", dh_T7, 10) (by decide) rfl rfl (dh_m2 (i := 109) rfl rfl) dh_cw_115 (dh_m2 (i := 107) rfl rfl) (dh_m2 (i := 108) rfl rfl) dh_ok_115
theorem dh_e_186 : jm_kok dh_cn dh_J dh_W dh_M dh_nl dh_rc (5, 46, 1, 7, 9) := jk_1 ("DeltaHistory$Revision", dh_T7, 10) (by decide) rfl (by decide) rfl (dh_m1 (i := 173) rfl rfl)
theorem dh_e_187 : jm_kok dh_cn dh_J dh_W dh_M dh_nl dh_rc (5, 49, 1, 7, 6) := jk_1 ("DeltaHistory$Revision", dh_T7, 10) (by decide) rfl (by decide) rfl (dh_m1 (i := 167) rfl rfl)
theorem dh_e_188 : jm_kok dh_cn dh_J dh_W dh_M dh_nl dh_rc (5, 52, 1, 7, 8) := jk_1 ("DeltaHistory$Revision", dh_T7, 10) (by decide) rfl (by decide) rfl (dh_m1 (i := 171) rfl rfl)
theorem dh_e_189 : jm_kok dh_cn dh_J dh_W dh_M dh_nl dh_rc (5, 55, 1, 7, 7) := jk_1 ("DeltaHistory$Revision", dh_T7, 10) (by decide) rfl (by decide) rfl (dh_m1 (i := 169) rfl rfl)
theorem dh_e_190 : jm_kok dh_cn dh_J dh_W dh_M dh_nl dh_rc (5, 58, 1, 7, 1) := jk_1 ("DeltaHistory$Revision", dh_T7, 10) (by decide) rfl (by decide) rfl (dh_m1 (i := 151) rfl rfl)
theorem dh_e_191 : jm_kok dh_cn dh_J dh_W dh_M dh_nl dh_rc (6, 3, 9, 0, 0) := jk_9 (dh_m1 (i := 125) rfl rfl) (dh_m1 (i := 25) rfl rfl) (dh_m1 (i := 26) rfl rfl)
theorem dh_e_192 : jm_kok dh_cn dh_J dh_W dh_M dh_nl dh_rc (6, 9, 1, 6, 0) := jk_1 ("DeltaHistory$Reader", dh_T6, 1) (by decide) rfl (by decide) rfl (dh_m1 (i := 126) rfl rfl)
theorem dh_e_193 : jm_kok dh_cn dh_J dh_W dh_M dh_nl dh_rc (6, 15, 1, 3, 2) := jk_1 ("DeltaHistory$Bytes", dh_T3, 3) (by decide) rfl (by decide) rfl (dh_m1 (i := 99) rfl rfl)
theorem dh_e_194 : jm_kok dh_cn dh_J dh_W dh_M dh_nl dh_rc (6, 21, 2, 95, 1) := jk_2 (y := 0) ("DeltaHistory$History", dh_T5, 2) (by decide) rfl rfl (dh_m2 (i := 75) rfl rfl) dh_cw_95 (dh_m2 (i := 73) rfl rfl) (dh_m2 (i := 74) rfl rfl) dh_ok_95
theorem dh_e_195 : jm_kok dh_cn dh_J dh_W dh_M dh_nl dh_rc (6, 26, 2, 103, 3) := jk_2 (y := 2) ("DeltaHistory$Reader", dh_T6, 1) (by decide) rfl rfl (dh_m0 (i := 0) rfl rfl) dh_cw_103 (dh_m2 (i := 77) rfl rfl) (dh_m2 (i := 79) rfl rfl) dh_ok_103
theorem dh_e_196 : jm_kok dh_cn dh_J dh_W dh_M dh_nl dh_rc (6, 30, 2, 104, 3) := jk_2 (y := 2) ("DeltaHistory$Reader", dh_T6, 1) (by decide) rfl rfl (dh_m0 (i := 1) rfl rfl) dh_cw_104 (dh_m2 (i := 111) rfl rfl) (dh_m2 (i := 113) rfl rfl) dh_ok_104
theorem dh_e_197 : jm_kok dh_cn dh_J dh_W dh_M dh_nl dh_rc (6, 33, 2, 107, 3) := jk_2 (y := 2) ("DeltaHistory$Reader", dh_T6, 1) (by decide) rfl rfl (dh_m0 (i := 4) rfl rfl) dh_cw_107 (dh_m2 (i := 131) rfl rfl) (dh_m2 (i := 133) rfl rfl) dh_ok_107
theorem dh_e_198 : jm_kok dh_cn dh_J dh_W dh_M dh_nl dh_rc (6, 36, 2, 87, 1) := jk_2 (y := 0) ("DeltaHistory$Bytes", dh_T3, 3) (by decide) rfl rfl (dh_m2 (i := 83) rfl rfl) dh_cw_87 (dh_m2 (i := 81) rfl rfl) (dh_m2 (i := 82) rfl rfl) dh_ok_87
theorem dh_e_199 : jm_kok dh_cn dh_J dh_W dh_M dh_nl dh_rc (6, 40, 2, 96, 2) := jk_2 (y := 1) ("DeltaHistory$History", dh_T5, 2) (by decide) rfl rfl (dh_m2 (i := 91) rfl rfl) dh_cw_96 (dh_m2 (i := 89) rfl rfl) (dh_m2 (i := 90) rfl rfl) dh_ok_96
theorem dh_e_200 : jm_kok dh_cn dh_J dh_W dh_M dh_nl dh_rc (6, 44, 2, 98, 3) := jk_2 (y := 2) ("DeltaHistory$History", dh_T5, 2) (by decide) rfl rfl (dh_m2 (i := 95) rfl rfl) dh_cw_98 (dh_m2 (i := 93) rfl rfl) (dh_m2 (i := 94) rfl rfl) dh_ok_98
theorem dh_e_201 : jm_kok dh_cn dh_J dh_W dh_M dh_nl dh_rc (6, 48, 1, 5, 0) := jk_1 ("DeltaHistory$History", dh_T5, 2) (by decide) rfl (by decide) rfl (dh_m1 (i := 198) rfl rfl)
theorem dh_e_202 : jm_kok dh_cn dh_J dh_W dh_M dh_nl dh_rc (6, 52, 1, 7, 3) := jk_1 ("DeltaHistory$Revision", dh_T7, 10) (by decide) rfl (by decide) rfl (dh_m1 (i := 158) rfl rfl)
theorem dh_e_203 : jm_kok dh_cn dh_J dh_W dh_M dh_nl dh_rc (6, 57, 1, 5, 1) := jk_1 ("DeltaHistory$History", dh_T5, 2) (by decide) rfl (by decide) rfl (dh_m1 (i := 202) rfl rfl)
theorem dh_e_204 : jm_kok dh_cn dh_J dh_W dh_M dh_nl dh_rc (6, 60, 2, 117, 1) := jk_2 (y := 0) ("DeltaHistory$Revision", dh_T7, 10) (by decide) rfl rfl (dh_m2 (i := 117) rfl rfl) dh_cw_117 (dh_m2 (i := 115) rfl rfl) (dh_m2 (i := 116) rfl rfl) dh_ok_117
theorem dh_e_205 : jm_kok dh_cn dh_J dh_W dh_M dh_nl dh_rc (6, 63, 2, 105, 2) := jk_2 (y := 1) ("DeltaHistory$Reader", dh_T6, 1) (by decide) rfl rfl (dh_m0 (i := 2) rfl rfl) dh_cw_105 (dh_m2 (i := 123) rfl rfl) (dh_m2 (i := 125) rfl rfl) dh_ok_105
theorem dh_e_206 : jm_kok dh_cn dh_J dh_W dh_M dh_nl dh_rc (6, 67, 2, 106, 2) := jk_2 (y := 1) ("DeltaHistory$Reader", dh_T6, 1) (by decide) rfl rfl (dh_m0 (i := 3) rfl rfl) dh_cw_106 (dh_m2 (i := 127) rfl rfl) (dh_m2 (i := 129) rfl rfl) dh_ok_106
theorem dh_e_207 : jm_kok dh_cn dh_J dh_W dh_M dh_nl dh_rc (6, 70, 1, 3, 1) := jk_1 ("DeltaHistory$Bytes", dh_T3, 3) (by decide) rfl (by decide) rfl (dh_m1 (i := 97) rfl rfl)
theorem dh_e_208 : jm_kok dh_cn dh_J dh_W dh_M dh_nl dh_rc (6, 71, 2, 116, 1) := jk_2 (y := 0) ("DeltaHistory$Revision", dh_T7, 10) (by decide) rfl rfl (dh_m2 (i := 121) rfl rfl) dh_cw_116 (dh_m2 (i := 135) rfl rfl) (dh_m2 (i := 120) rfl rfl) dh_ok_116
theorem dh_e_209 : jm_kok dh_cn dh_J dh_W dh_M dh_nl dh_rc (6, 75, 2, 108, 4) := jk_2 (y := 3) ("DeltaHistory$Reader", dh_T6, 1) (by decide) rfl rfl (dh_m0 (i := 5) rfl rfl) dh_cw_108 (dh_m2 (i := 136) rfl rfl) (dh_m2 (i := 138) rfl rfl) dh_ok_108
theorem dh_e_210 : jm_kok dh_cn dh_J dh_W dh_M dh_nl dh_rc (6, 79, 1, 7, 0) := jk_1 ("DeltaHistory$Revision", dh_T7, 10) (by decide) rfl (by decide) rfl (dh_m1 (i := 147) rfl rfl)
theorem dh_e_211 : jm_kok dh_cn dh_J dh_W dh_M dh_nl dh_rc (6, 83, 2, 110, 4) := jk_2 (y := 3) ("DeltaHistory$Reader", dh_T6, 1) (by decide) rfl rfl (dh_m0 (i := 6) rfl rfl) dh_cw_110 (dh_m2 (i := 140) rfl rfl) (dh_m2 (i := 142) rfl rfl) dh_ok_110
theorem dh_e_212 : jm_kok dh_cn dh_J dh_W dh_M dh_nl dh_rc (6, 87, 2, 109, 3) := jk_2 (y := 2) ("DeltaHistory$Reader", dh_T6, 1) (by decide) rfl rfl (dh_m0 (i := 7) rfl rfl) dh_cw_109 (dh_m2 (i := 148) rfl rfl) (dh_m2 (i := 150) rfl rfl) dh_ok_109
theorem dh_e_213 : jm_kok dh_cn dh_J dh_W dh_M dh_nl dh_rc (6, 91, 2, 122, 2) := jk_2 (y := 1) ("DeltaHistory$Text", dh_T8, 2) (by decide) rfl rfl (dh_m2 (i := 24) rfl rfl) dh_cw_122 (dh_m2 (i := 152) rfl rfl) (dh_m2 (i := 23) rfl rfl) dh_ok_122
theorem dh_e_214 : jm_kok dh_cn dh_J dh_W dh_M dh_nl dh_rc (6, 95, 2, 126, 4) := jk_2 (y := 3) ("DeltaHistory$Text", dh_T8, 2) (by decide) rfl rfl (dh_m2 (i := 146) rfl rfl) dh_cw_126 (dh_m2 (i := 144) rfl rfl) (dh_m2 (i := 145) rfl rfl) dh_ok_126
theorem dh_e_215 : jm_kok dh_cn dh_J dh_W dh_M dh_nl dh_rc (6, 99, 1, 8, 1) := jk_1 ("DeltaHistory$Text", dh_T8, 2) (by decide) rfl (by decide) rfl (dh_m1 (i := 40) rfl rfl)
theorem dh_e_216 : jm_kok dh_cn dh_J dh_W dh_M dh_nl dh_rc (7, 3, 9, 0, 0) := jk_9 (dh_m1 (i := 142) rfl rfl) (dh_m1 (i := 25) rfl rfl) (dh_m1 (i := 26) rfl rfl)
theorem dh_e_217 : jm_kok dh_cn dh_J dh_W dh_M dh_nl dh_rc (7, 9, 5, 8, 2) := jk_5 ("DeltaHistory$Text", dh_T8, 2) (by decide) rfl rfl (dh_m1 (i := 143) rfl rfl) (dh_m1 (i := 28) rfl rfl) (dh_m1 (i := 2) rfl rfl) (by decide +kernel)
theorem dh_e_218 : jm_kok dh_cn dh_J dh_W dh_M dh_nl dh_rc (7, 11, 4, 118, 1) := jk_4 (y := 0) (by decide) rfl (dh_m1 (i := 31) rfl rfl) dh_cw_118 (dh_m1 (i := 144) rfl rfl) (dh_m1 (i := 30) rfl rfl) dh_ok_118
theorem dh_e_219 : jm_kok dh_cn dh_J dh_W dh_M dh_nl dh_rc (7, 12, 1, 7, 0) := jk_1 ("DeltaHistory$Revision", dh_T7, 10) (by decide) rfl (by decide) rfl (dh_m1 (i := 145) rfl rfl)
theorem dh_e_220 : jm_kok dh_cn dh_J dh_W dh_M dh_nl dh_rc (7, 18, 2, 120, 2) := jk_2 (y := 1) ("DeltaHistory$Text", dh_T8, 2) (by decide) rfl rfl (dh_m2 (i := 28) rfl rfl) dh_cw_120 (dh_m3 (i := 93) rfl rfl) (dh_m2 (i := 27) rfl rfl) dh_ok_120
theorem dh_e_221 : jm_kok dh_cn dh_J dh_W dh_M dh_nl dh_rc (7, 22, 1, 7, 1) := jk_1 ("DeltaHistory$Revision", dh_T7, 10) (by decide) rfl (by decide) rfl (dh_m1 (i := 149) rfl rfl)
theorem dh_e_222 : jm_kok dh_cn dh_J dh_W dh_M dh_nl dh_rc (7, 26, 1, 7, 2) := jk_1 ("DeltaHistory$Revision", dh_T7, 10) (by decide) rfl (by decide) rfl (dh_m1 (i := 153) rfl rfl)
theorem dh_e_223 : jm_kok dh_cn dh_J dh_W dh_M dh_nl dh_rc (7, 29, 1, 7, 3) := jk_1 ("DeltaHistory$Revision", dh_T7, 10) (by decide) rfl (by decide) rfl (dh_m1 (i := 156) rfl rfl)
theorem dh_e_224 : jm_kok dh_cn dh_J dh_W dh_M dh_nl dh_rc (7, 32, 1, 7, 4) := jk_1 ("DeltaHistory$Revision", dh_T7, 10) (by decide) rfl (by decide) rfl (dh_m1 (i := 160) rfl rfl)
theorem dh_e_225 : jm_kok dh_cn dh_J dh_W dh_M dh_nl dh_rc (7, 35, 1, 7, 5) := jk_1 ("DeltaHistory$Revision", dh_T7, 10) (by decide) rfl (by decide) rfl (dh_m1 (i := 163) rfl rfl)
theorem dh_e_226 : jm_kok dh_cn dh_J dh_W dh_M dh_nl dh_rc (7, 38, 1, 7, 6) := jk_1 ("DeltaHistory$Revision", dh_T7, 10) (by decide) rfl (by decide) rfl (dh_m1 (i := 166) rfl rfl)
theorem dh_e_227 : jm_kok dh_cn dh_J dh_W dh_M dh_nl dh_rc (7, 41, 1, 7, 7) := jk_1 ("DeltaHistory$Revision", dh_T7, 10) (by decide) rfl (by decide) rfl (dh_m1 (i := 168) rfl rfl)
theorem dh_e_228 : jm_kok dh_cn dh_J dh_W dh_M dh_nl dh_rc (7, 44, 1, 7, 8) := jk_1 ("DeltaHistory$Revision", dh_T7, 10) (by decide) rfl (by decide) rfl (dh_m1 (i := 170) rfl rfl)
theorem dh_e_229 : jm_kok dh_cn dh_J dh_W dh_M dh_nl dh_rc (7, 47, 1, 7, 9) := jk_1 ("DeltaHistory$Revision", dh_T7, 10) (by decide) rfl (by decide) rfl (dh_m1 (i := 172) rfl rfl)
theorem dh_e_230 : jm_kok dh_cn dh_J dh_W dh_M dh_nl dh_rc (7, 50, 2, 119, 1) := jk_2 (y := 0) ("DeltaHistory$Text", dh_T8, 2) (by decide) rfl rfl (dh_m2 (i := 16) rfl rfl) dh_cw_119 (dh_m2 (i := 101) rfl rfl) (dh_m2 (i := 15) rfl rfl) dh_ok_119
theorem dh_e_231 : jm_kok dh_cn dh_J dh_W dh_M dh_nl dh_rc (7, 53, 2, 116, 1) := jk_2 (y := 0) ("DeltaHistory$Revision", dh_T7, 10) (by decide) rfl rfl (dh_m2 (i := 121) rfl rfl) dh_cw_116 (dh_m2 (i := 119) rfl rfl) (dh_m2 (i := 120) rfl rfl) dh_ok_116
theorem dh_e_232 : jm_kok dh_cn dh_J dh_W dh_M dh_nl dh_rc (8, 3, 9, 0, 0) := jk_9 (dh_m1 (i := 32) rfl rfl) (dh_m1 (i := 25) rfl rfl) (dh_m1 (i := 26) rfl rfl)
theorem dh_e_233 : jm_kok dh_cn dh_J dh_W dh_M dh_nl dh_rc (8, 9, 1, 8, 0) := jk_1 ("DeltaHistory$Text", dh_T8, 2) (by decide) rfl (by decide) rfl (dh_m1 (i := 33) rfl rfl)
theorem dh_e_234 : jm_kok dh_cn dh_J dh_W dh_M dh_nl dh_rc (8, 15, 1, 8, 1) := jk_1 ("DeltaHistory$Text", dh_T8, 2) (by decide) rfl (by decide) rfl (dh_m1 (i := 36) rfl rfl)
theorem dh_e_235 : jm_kok dh_cn dh_J dh_W dh_M dh_nl dh_rc (8, 19, 12, 0, 0) := jk_12 (dh_m2 (i := 30) rfl rfl) (dh_m2 (i := 32) rfl rfl) (dh_m2 (i := 31) rfl rfl) (dh_m1 (i := 10) rfl rfl)
theorem dh_e_236 : jm_kok dh_cn dh_J dh_W dh_M dh_nl dh_rc (8, 25, 2, 122, 2) := jk_2 (y := 1) ("DeltaHistory$Text", dh_T8, 2) (by decide) rfl rfl (dh_m2 (i := 24) rfl rfl) dh_cw_122 (dh_m2 (i := 22) rfl rfl) (dh_m2 (i := 23) rfl rfl) dh_ok_122
theorem dh_e_237 : jm_kok dh_cn dh_J dh_W dh_M dh_nl dh_rc (9, 3, 9, 0, 0) := jk_9 (dh_m1 (i := 113) rfl rfl) (dh_m1 (i := 25) rfl rfl) (dh_m1 (i := 26) rfl rfl)
theorem dh_e_238 : jm_kok dh_cn dh_J dh_W dh_M dh_nl dh_rc (9, 9, 5, 4, 9) := jk_5 ("DeltaHistory$Delta", dh_T4, 9) (by decide) rfl rfl (dh_m1 (i := 114) rfl rfl) (dh_m1 (i := 48) rfl rfl) (dh_m1 (i := 3) rfl rfl) (by decide +kernel)
theorem dh_e_239 : jm_kok dh_cn dh_J dh_W dh_M dh_nl dh_rc (9, 11, 4, 88, 1) := jk_4 (y := 0) (by decide) rfl (dh_m1 (i := 51) rfl rfl) dh_cw_88 (dh_m1 (i := 115) rfl rfl) (dh_m1 (i := 50) rfl rfl) dh_ok_88
theorem dh_e_240 : jm_kok dh_cn dh_J dh_W dh_M dh_nl dh_rc (9, 12, 1, 9, 0) := jk_1 ("DeltaHistory$Writer", dh_T9, 1) (by decide) rfl (by decide) rfl (dh_m1 (i := 116) rfl rfl)
theorem dh_e_241 : jm_kok dh_cn dh_J dh_W dh_M dh_nl dh_rc (9, 18, 2, 80, 1) := jk_2 (y := 0) ("DeltaHistory$Bytes", dh_T3, 3) (by decide) rfl rfl (dh_m2 (i := 159) rfl rfl) dh_cw_80 (dh_m2 (i := 157) rfl rfl) (dh_m2 (i := 158) rfl rfl) dh_ok_80
theorem dh_e_242 : jm_kok dh_cn dh_J dh_W dh_M dh_nl dh_rc (9, 23, 1, 5, 1) := jk_1 ("DeltaHistory$History", dh_T5, 2) (by decide) rfl (by decide) rfl (dh_m1 (i := 201) rfl rfl)
theorem dh_e_243 : jm_kok dh_cn dh_J dh_W dh_M dh_nl dh_rc (9, 29, 2, 81, 2) := jk_2 (y := 1) ("DeltaHistory$Bytes", dh_T3, 3) (by decide) rfl rfl (dh_m1 (i := 211) rfl rfl) dh_cw_81 (dh_m2 (i := 161) rfl rfl) (dh_m1 (i := 210) rfl rfl) dh_ok_81
theorem dh_e_244 : jm_kok dh_cn dh_J dh_W dh_M dh_nl dh_rc (9, 33, 1, 5, 0) := jk_1 ("DeltaHistory$History", dh_T5, 2) (by decide) rfl (by decide) rfl (dh_m1 (i := 197) rfl rfl)
theorem dh_e_245 : jm_kok dh_cn dh_J dh_W dh_M dh_nl dh_rc (9, 37, 1, 7, 1) := jk_1 ("DeltaHistory$Revision", dh_T7, 10) (by decide) rfl (by decide) rfl (dh_m1 (i := 150) rfl rfl)
theorem dh_e_246 : jm_kok dh_cn dh_J dh_W dh_M dh_nl dh_rc (9, 42, 1, 7, 2) := jk_1 ("DeltaHistory$Revision", dh_T7, 10) (by decide) rfl (by decide) rfl (dh_m1 (i := 154) rfl rfl)
theorem dh_e_247 : jm_kok dh_cn dh_J dh_W dh_M dh_nl dh_rc (9, 45, 1, 7, 3) := jk_1 ("DeltaHistory$Revision", dh_T7, 10) (by decide) rfl (by decide) rfl (dh_m1 (i := 157) rfl rfl)
theorem dh_e_248 : jm_kok dh_cn dh_J dh_W dh_M dh_nl dh_rc (9, 48, 1, 7, 0) := jk_1 ("DeltaHistory$Revision", dh_T7, 10) (by decide) rfl (by decide) rfl (dh_m1 (i := 146) rfl rfl)
theorem dh_e_249 : jm_kok dh_cn dh_J dh_W dh_M dh_nl dh_rc (9, 52, 2, 117, 1) := jk_2 (y := 0) ("DeltaHistory$Revision", dh_T7, 10) (by decide) rfl rfl (dh_m2 (i := 117) rfl rfl) dh_cw_117 (dh_m2 (i := 162) rfl rfl) (dh_m2 (i := 116) rfl rfl) dh_ok_117
theorem dh_e_250 : jm_kok dh_cn dh_J dh_W dh_M dh_nl dh_rc (9, 56, 2, 96, 2) := jk_2 (y := 1) ("DeltaHistory$History", dh_T5, 2) (by decide) rfl rfl (dh_m2 (i := 91) rfl rfl) dh_cw_96 (dh_m2 (i := 163) rfl rfl) (dh_m2 (i := 90) rfl rfl) dh_ok_96
theorem dh_e_251 : jm_kok dh_cn dh_J dh_W dh_M dh_nl dh_rc (9, 60, 2, 89, 3) := jk_2 (y := 2) ("DeltaHistory$Delta", dh_T4, 9) (by decide) rfl rfl (dh_m2 (i := 166) rfl rfl) dh_cw_89 (dh_m2 (i := 164) rfl rfl) (dh_m2 (i := 165) rfl rfl) dh_ok_89
theorem dh_e_252 : jm_kok dh_cn dh_J dh_W dh_M dh_nl dh_rc (9, 64, 2, 130, 2) := jk_2 (y := 1) ("DeltaHistory$Writer", dh_T9, 1) (by decide) rfl rfl (dh_m0 (i := 10) rfl rfl) dh_cw_130 (dh_m2 (i := 179) rfl rfl) (dh_m2 (i := 181) rfl rfl) dh_ok_130
theorem dh_e_253 : jm_kok dh_cn dh_J dh_W dh_M dh_nl dh_rc (9, 68, 2, 129, 3) := jk_2 (y := 2) ("DeltaHistory$Writer", dh_T9, 1) (by decide) rfl rfl (dh_m0 (i := 11) rfl rfl) dh_cw_129 (dh_m2 (i := 187) rfl rfl) (dh_m2 (i := 189) rfl rfl) dh_ok_129
theorem dh_e_254 : jm_kok dh_cn dh_J dh_W dh_M dh_nl dh_rc (9, 72, 1, 8, 1) := jk_1 ("DeltaHistory$Text", dh_T8, 2) (by decide) rfl (by decide) rfl (dh_m1 (i := 38) rfl rfl)
theorem dh_e_255 : jm_kok dh_cn dh_J dh_W dh_M dh_nl dh_rc (9, 75, 1, 8, 0) := jk_1 ("DeltaHistory$Text", dh_T8, 2) (by decide) rfl (by decide) rfl (dh_m1 (i := 35) rfl rfl)
theorem dh_e_256 : jm_kok dh_cn dh_J dh_W dh_M dh_nl dh_rc (9, 79, 1, 4, 6) := jk_1 ("DeltaHistory$Delta", dh_T4, 9) (by decide) rfl (by decide) rfl (dh_m1 (i := 65) rfl rfl)
theorem dh_e_257 : jm_kok dh_cn dh_J dh_W dh_M dh_nl dh_rc (9, 82, 1, 4, 0) := jk_1 ("DeltaHistory$Delta", dh_T4, 9) (by decide) rfl (by decide) rfl (dh_m1 (i := 56) rfl rfl)
theorem dh_e_258 : jm_kok dh_cn dh_J dh_W dh_M dh_nl dh_rc (9, 85, 1, 4, 1) := jk_1 ("DeltaHistory$Delta", dh_T4, 9) (by decide) rfl (by decide) rfl (dh_m1 (i := 58) rfl rfl)
theorem dh_e_259 : jm_kok dh_cn dh_J dh_W dh_M dh_nl dh_rc (9, 88, 1, 4, 2) := jk_1 ("DeltaHistory$Delta", dh_T4, 9) (by decide) rfl (by decide) rfl (dh_m1 (i := 60) rfl rfl)
theorem dh_e_260 : jm_kok dh_cn dh_J dh_W dh_M dh_nl dh_rc (9, 91, 2, 93, 3) := jk_2 (y := 2) ("DeltaHistory$Delta", dh_T4, 9) (by decide) rfl rfl (dh_m2 (i := 185) rfl rfl) dh_cw_93 (dh_m2 (i := 183) rfl rfl) (dh_m2 (i := 184) rfl rfl) dh_ok_93
theorem dh_e_261 : jm_kok dh_cn dh_J dh_W dh_M dh_nl dh_rc (59, 7, 2, 6, 3) := jk_2 (y := 2) ("DeltaHistory", dh_T1, 12) (by decide) rfl rfl (dh_m2 (i := 232) rfl rfl) dh_cw_6 (dh_m2 (i := 230) rfl rfl) (dh_m2 (i := 231) rfl rfl) dh_ok_6
theorem dh_e_262 : jm_kok dh_cn dh_J dh_W dh_M dh_nl dh_rc (59, 8, 5, 1, 12) := jk_5 ("DeltaHistory", dh_T1, 12) (by decide) rfl rfl (dh_m1 (i := 19) rfl rfl) (dh_m1 (i := 20) rfl rfl) (dh_m1 (i := 1) rfl rfl) (by decide +kernel)
theorem dh_e_263 : jm_kok dh_cn dh_J dh_W dh_M dh_nl dh_rc (59, 17, 2, 7, 3) := jk_2 (y := 2) ("DeltaHistory", dh_T1, 12) (by decide) rfl rfl (dh_m3 (i := 110) rfl rfl) dh_cw_7 (dh_m3 (i := 108) rfl rfl) (dh_m3 (i := 109) rfl rfl) dh_ok_7
theorem dh_e_264 : jm_kok dh_cn dh_J dh_W dh_M dh_nl dh_rc (59, 20, 2, 8, 3) := jk_2 (y := 2) ("DeltaHistory", dh_T1, 12) (by decide) rfl rfl (dh_m3 (i := 122) rfl rfl) dh_cw_8 (dh_m3 (i := 120) rfl rfl) (dh_m3 (i := 121) rfl rfl) dh_ok_8
theorem dh_e_265 : jm_kok dh_cn dh_J dh_W dh_M dh_nl dh_rc (59, 25, 2, 9, 2) := jk_2 (y := 1) ("DeltaHistory", dh_T1, 12) (by decide) rfl rfl (dh_m3 (i := 149) rfl rfl) dh_cw_9 (dh_m3 (i := 147) rfl rfl) (dh_m3 (i := 148) rfl rfl) dh_ok_9
theorem dh_e_266 : jm_kok dh_cn dh_J dh_W dh_M dh_nl dh_rc (59, 29, 2, 11, 3) := jk_2 (y := 2) ("DeltaHistory", dh_T1, 12) (by decide) rfl rfl (dh_m3 (i := 157) rfl rfl) dh_cw_11 (dh_m3 (i := 155) rfl rfl) (dh_m3 (i := 156) rfl rfl) dh_ok_11
theorem dh_e_267 : jm_kok dh_cn dh_J dh_W dh_M dh_nl dh_rc (59, 35, 2, 14, 3) := jk_2 (y := 2) ("DeltaHistory", dh_T1, 12) (by decide) rfl rfl (dh_m3 (i := 180) rfl rfl) dh_cw_14 (dh_m3 (i := 178) rfl rfl) (dh_m3 (i := 179) rfl rfl) dh_ok_14
theorem dh_e_268 : jm_kok dh_cn dh_J dh_W dh_M dh_nl dh_rc (59, 38, 2, 15, 3) := jk_2 (y := 2) ("DeltaHistory", dh_T1, 12) (by decide) rfl rfl (dh_m3 (i := 187) rfl rfl) dh_cw_15 (dh_m3 (i := 185) rfl rfl) (dh_m3 (i := 186) rfl rfl) dh_ok_15
theorem dh_e_269 : jm_kok dh_cn dh_J dh_W dh_M dh_nl dh_rc (59, 41, 2, 16, 3) := jk_2 (y := 2) ("DeltaHistory", dh_T1, 12) (by decide) rfl rfl (dh_m3 (i := 198) rfl rfl) dh_cw_16 (dh_m3 (i := 196) rfl rfl) (dh_m3 (i := 197) rfl rfl) dh_ok_16
theorem dh_e_270 : jm_kok dh_cn dh_J dh_W dh_M dh_nl dh_rc (59, 44, 2, 17, 2) := jk_2 (y := 1) ("DeltaHistory", dh_T1, 12) (by decide) rfl rfl (dh_m3 (i := 209) rfl rfl) dh_cw_17 (dh_m3 (i := 207) rfl rfl) (dh_m3 (i := 208) rfl rfl) dh_ok_17
theorem dh_e_271 : jm_kok dh_cn dh_J dh_W dh_M dh_nl dh_rc (59, 47, 4, 0, 1) := jk_4 (y := 0) (by decide) rfl (dh_m1 (i := 23) rfl rfl) dh_cw_0 (dh_m1 (i := 21) rfl rfl) (dh_m1 (i := 22) rfl rfl) dh_ok_0
theorem dh_e_272 : jm_kok dh_cn dh_J dh_W dh_M dh_nl dh_rc (59, 48, 5, 2, 43) := jk_5 ("DeltaHistoryModel", dh_T2, 43) (by decide) rfl rfl (dh_m3 (i := 212) rfl rfl) (dh_m3 (i := 213) rfl rfl) (dh_m1 (i := 9) rfl rfl) (by decide +kernel)
theorem dh_e_273 : jm_kok dh_cn dh_J dh_W dh_M dh_nl dh_rc (59, 50, 4, 27, 1) := jk_4 (y := 0) (by decide) rfl (dh_m3 (i := 216) rfl rfl) dh_cw_27 (dh_m3 (i := 214) rfl rfl) (dh_m3 (i := 215) rfl rfl) dh_ok_27
theorem dh_e_274 : jm_kok dh_cn dh_J dh_W dh_M dh_nl dh_rc (59, 51, 2, 1, 4) := jk_2 (y := 3) ("DeltaHistory", dh_T1, 12) (by decide) rfl rfl (dh_m2 (i := 12) rfl rfl) dh_cw_1 (dh_m2 (i := 10) rfl rfl) (dh_m2 (i := 11) rfl rfl) dh_ok_1
theorem dh_e_275 : jm_kok dh_cn dh_J dh_W dh_M dh_nl dh_rc (59, 55, 2, 31, 4) := jk_2 (y := 3) ("DeltaHistoryModel", dh_T2, 43) (by decide) rfl rfl (dh_m4 (i := 114) rfl rfl) dh_cw_31 (dh_m4 (i := 112) rfl rfl) (dh_m4 (i := 113) rfl rfl) dh_ok_31
theorem dh_e_276 : jm_kok dh_cn dh_J dh_W dh_M dh_nl dh_rc (59, 56, 2, 2, 3) := jk_2 (y := 2) ("DeltaHistory", dh_T1, 12) (by decide) rfl rfl (dh_m2 (i := 35) rfl rfl) dh_cw_2 (dh_m2 (i := 33) rfl rfl) (dh_m2 (i := 34) rfl rfl) dh_ok_2
theorem dh_e_277 : jm_kok dh_cn dh_J dh_W dh_M dh_nl dh_rc (59, 60, 2, 32, 3) := jk_2 (y := 2) ("DeltaHistoryModel", dh_T2, 43) (by decide) rfl rfl (dh_m4 (i := 124) rfl rfl) dh_cw_32 (dh_m4 (i := 122) rfl rfl) (dh_m4 (i := 123) rfl rfl) dh_ok_32
theorem dh_e_278 : jm_kok dh_cn dh_J dh_W dh_M dh_nl dh_rc (59, 61, 2, 3, 2) := jk_2 (y := 1) ("DeltaHistory", dh_T1, 12) (by decide) rfl rfl (dh_m2 (i := 43) rfl rfl) dh_cw_3 (dh_m2 (i := 41) rfl rfl) (dh_m2 (i := 42) rfl rfl) dh_ok_3
theorem dh_e_279 : jm_kok dh_cn dh_J dh_W dh_M dh_nl dh_rc (59, 64, 2, 33, 2) := jk_2 (y := 1) ("DeltaHistoryModel", dh_T2, 43) (by decide) rfl rfl (dh_m4 (i := 128) rfl rfl) dh_cw_33 (dh_m4 (i := 126) rfl rfl) (dh_m4 (i := 127) rfl rfl) dh_ok_33
theorem dh_e_280 : jm_kok dh_cn dh_J dh_W dh_M dh_nl dh_rc (59, 65, 2, 4, 1) := jk_2 (y := 0) ("DeltaHistory", dh_T1, 12) (by decide) rfl rfl (dh_m2 (i := 51) rfl rfl) dh_cw_4 (dh_m2 (i := 49) rfl rfl) (dh_m2 (i := 50) rfl rfl) dh_ok_4
theorem dh_e_281 : jm_kok dh_cn dh_J dh_W dh_M dh_nl dh_rc (59, 69, 2, 34, 1) := jk_2 (y := 0) ("DeltaHistoryModel", dh_T2, 43) (by decide) rfl rfl (dh_m4 (i := 132) rfl rfl) dh_cw_34 (dh_m4 (i := 130) rfl rfl) (dh_m4 (i := 131) rfl rfl) dh_ok_34
theorem dh_e_282 : jm_kok dh_cn dh_J dh_W dh_M dh_nl dh_rc (59, 70, 2, 5, 2) := jk_2 (y := 1) ("DeltaHistory", dh_T1, 12) (by decide) rfl rfl (dh_m2 (i := 55) rfl rfl) dh_cw_5 (dh_m2 (i := 53) rfl rfl) (dh_m2 (i := 54) rfl rfl) dh_ok_5
theorem dh_e_283 : jm_kok dh_cn dh_J dh_W dh_M dh_nl dh_rc (59, 73, 2, 35, 2) := jk_2 (y := 1) ("DeltaHistoryModel", dh_T2, 43) (by decide) rfl rfl (dh_m4 (i := 136) rfl rfl) dh_cw_35 (dh_m4 (i := 134) rfl rfl) (dh_m4 (i := 135) rfl rfl) dh_ok_35
theorem dh_e_284 : jm_kok dh_cn dh_J dh_W dh_M dh_nl dh_rc (59, 74, 3, 131, 4) := jk_3 rfl dh_cw_131 (dh_m2 (i := 225) rfl rfl) (dh_m2 (i := 226) rfl rfl) (dh_m1 (i := 0) rfl rfl) dh_ok_131
theorem dh_e_285 : jm_kok dh_cn dh_J dh_W dh_M dh_nl dh_rc (59, 79, 2, 55, 3) := jk_2 (y := 2) ("DeltaHistoryModel", dh_T2, 43) (by decide) rfl rfl (dh_m4 (i := 140) rfl rfl) dh_cw_55 (dh_m4 (i := 138) rfl rfl) (dh_m4 (i := 139) rfl rfl) dh_ok_55
theorem dh_e_286 : jm_kok dh_cn dh_J dh_W dh_M dh_nl dh_rc (59, 80, 2, 28, 1) := jk_2 (y := 0) ("DeltaHistoryModel", dh_T2, 43) (by decide) rfl rfl (dh_m4 (i := 110) rfl rfl) dh_cw_28 (dh_m4 (i := 108) rfl rfl) (dh_m4 (i := 109) rfl rfl) dh_ok_28
theorem dh_e_287 : jm_kok dh_cn dh_J dh_W dh_M dh_nl dh_rc (59, 83, 3, 132, 4) := jk_3 rfl dh_cw_132 (dh_m3 (i := 105) rfl rfl) (dh_m3 (i := 106) rfl rfl) (dh_m1 (i := 0) rfl rfl) dh_ok_132
theorem dh_e_288 : jm_kok dh_cn dh_J dh_W dh_M dh_nl dh_rc (59, 85, 2, 56, 3) := jk_2 (y := 2) ("DeltaHistoryModel", dh_T2, 43) (by decide) rfl rfl (dh_m4 (i := 211) rfl rfl) dh_cw_56 (dh_m4 (i := 209) rfl rfl) (dh_m4 (i := 210) rfl rfl) dh_ok_56
theorem dh_e_289 : jm_kok dh_cn dh_J dh_W dh_M dh_nl dh_rc (59, 86, 3, 133, 4) := jk_3 rfl dh_cw_133 (dh_m3 (i := 116) rfl rfl) (dh_m3 (i := 117) rfl rfl) (dh_m1 (i := 0) rfl rfl) dh_ok_133
theorem dh_e_290 : jm_kok dh_cn dh_J dh_W dh_M dh_nl dh_rc (59, 88, 2, 57, 3) := jk_2 (y := 2) ("DeltaHistoryModel", dh_T2, 43) (by decide) rfl rfl (dh_m4 (i := 215) rfl rfl) dh_cw_57 (dh_m4 (i := 213) rfl rfl) (dh_m4 (i := 214) rfl rfl) dh_ok_57
theorem dh_e_291 : jm_kok dh_cn dh_J dh_W dh_M dh_nl dh_rc (59, 89, 3, 134, 3) := jk_3 rfl dh_cw_134 (dh_m3 (i := 144) rfl rfl) (dh_m3 (i := 145) rfl rfl) (dh_m1 (i := 0) rfl rfl) dh_ok_134
theorem dh_e_292 : jm_kok dh_cn dh_J dh_W dh_M dh_nl dh_rc (59, 92, 2, 58, 2) := jk_2 (y := 1) ("DeltaHistoryModel", dh_T2, 43) (by decide) rfl rfl (dh_m4 (i := 227) rfl rfl) dh_cw_58 (dh_m4 (i := 225) rfl rfl) (dh_m4 (i := 226) rfl rfl) dh_ok_58
theorem dh_e_293 : jm_kok dh_cn dh_J dh_W dh_M dh_nl dh_rc (59, 93, 2, 10, 2) := jk_2 (y := 1) ("DeltaHistory", dh_T1, 12) (by decide) rfl rfl (dh_m2 (i := 63) rfl rfl) dh_cw_10 (dh_m2 (i := 61) rfl rfl) (dh_m2 (i := 62) rfl rfl) dh_ok_10
theorem dh_e_294 : jm_kok dh_cn dh_J dh_W dh_M dh_nl dh_rc (59, 97, 2, 59, 2) := jk_2 (y := 1) ("DeltaHistoryModel", dh_T2, 43) (by decide) rfl rfl (dh_m4 (i := 231) rfl rfl) dh_cw_59 (dh_m4 (i := 229) rfl rfl) (dh_m4 (i := 230) rfl rfl) dh_ok_59
theorem dh_e_295 : jm_kok dh_cn dh_J dh_W dh_M dh_nl dh_rc (59, 98, 3, 135, 3) := jk_3 rfl dh_cw_135 (dh_m3 (i := 151) rfl rfl) (dh_m3 (i := 152) rfl rfl) (dh_m1 (i := 0) rfl rfl) dh_ok_135
theorem dh_e_296 : jm_kok dh_cn dh_J dh_W dh_M dh_nl dh_rc (59, 101, 2, 60, 3) := jk_2 (y := 2) ("DeltaHistoryModel", dh_T2, 43) (by decide) rfl rfl (dh_m4 (i := 235) rfl rfl) dh_cw_60 (dh_m4 (i := 233) rfl rfl) (dh_m4 (i := 234) rfl rfl) dh_ok_60
theorem dh_e_297 : jm_kok dh_cn dh_J dh_W dh_M dh_nl dh_rc (59, 102, 2, 12, 1) := jk_2 (y := 0) ("DeltaHistory", dh_T1, 12) (by decide) rfl rfl (dh_m2 (i := 67) rfl rfl) dh_cw_12 (dh_m2 (i := 65) rfl rfl) (dh_m2 (i := 66) rfl rfl) dh_ok_12
theorem dh_e_298 : jm_kok dh_cn dh_J dh_W dh_M dh_nl dh_rc (59, 105, 2, 70, 1) := jk_2 (y := 0) ("DeltaHistoryModel", dh_T2, 43) (by decide) rfl rfl (dh_m4 (i := 239) rfl rfl) dh_cw_70 (dh_m4 (i := 237) rfl rfl) (dh_m4 (i := 238) rfl rfl) dh_ok_70
theorem dh_e_299 : jm_kok dh_cn dh_J dh_W dh_M dh_nl dh_rc (59, 106, 2, 13, 1) := jk_2 (y := 0) ("DeltaHistory", dh_T1, 12) (by decide) rfl rfl (dh_m2 (i := 205) rfl rfl) dh_cw_13 (dh_m2 (i := 203) rfl rfl) (dh_m2 (i := 204) rfl rfl) dh_ok_13
theorem dh_e_300 : jm_kok dh_cn dh_J dh_W dh_M dh_nl dh_rc (59, 109, 2, 71, 1) := jk_2 (y := 0) ("DeltaHistoryModel", dh_T2, 43) (by decide) rfl rfl (dh_m5 (i := 39) rfl rfl) dh_cw_71 (dh_m5 (i := 37) rfl rfl) (dh_m5 (i := 38) rfl rfl) dh_ok_71
theorem dh_e_301 : jm_kok dh_cn dh_J dh_W dh_M dh_nl dh_rc (59, 110, 3, 136, 4) := jk_3 rfl dh_cw_136 (dh_m3 (i := 175) rfl rfl) (dh_m3 (i := 176) rfl rfl) (dh_m1 (i := 0) rfl rfl) dh_ok_136
theorem dh_e_302 : jm_kok dh_cn dh_J dh_W dh_M dh_nl dh_rc (59, 112, 2, 72, 3) := jk_2 (y := 2) ("DeltaHistoryModel", dh_T2, 43) (by decide) rfl rfl (dh_m5 (i := 43) rfl rfl) dh_cw_72 (dh_m5 (i := 41) rfl rfl) (dh_m5 (i := 42) rfl rfl) dh_ok_72
theorem dh_e_303 : jm_kok dh_cn dh_J dh_W dh_M dh_nl dh_rc (59, 113, 3, 137, 4) := jk_3 rfl dh_cw_137 (dh_m3 (i := 182) rfl rfl) (dh_m3 (i := 183) rfl rfl) (dh_m1 (i := 0) rfl rfl) dh_ok_137
theorem dh_e_304 : jm_kok dh_cn dh_J dh_W dh_M dh_nl dh_rc (59, 115, 2, 73, 3) := jk_2 (y := 2) ("DeltaHistoryModel", dh_T2, 43) (by decide) rfl rfl (dh_m5 (i := 47) rfl rfl) dh_cw_73 (dh_m5 (i := 45) rfl rfl) (dh_m5 (i := 46) rfl rfl) dh_ok_73
theorem dh_e_305 : jm_kok dh_cn dh_J dh_W dh_M dh_nl dh_rc (59, 116, 3, 138, 4) := jk_3 rfl dh_cw_138 (dh_m3 (i := 193) rfl rfl) (dh_m3 (i := 194) rfl rfl) (dh_m1 (i := 0) rfl rfl) dh_ok_138
theorem dh_e_306 : jm_kok dh_cn dh_J dh_W dh_M dh_nl dh_rc (59, 118, 2, 74, 3) := jk_2 (y := 2) ("DeltaHistoryModel", dh_T2, 43) (by decide) rfl rfl (dh_m5 (i := 51) rfl rfl) dh_cw_74 (dh_m5 (i := 49) rfl rfl) (dh_m5 (i := 50) rfl rfl) dh_ok_74
theorem dh_e_307 : jm_kok dh_cn dh_J dh_W dh_M dh_nl dh_rc (59, 119, 3, 139, 3) := jk_3 rfl dh_cw_139 (dh_m3 (i := 204) rfl rfl) (dh_m3 (i := 205) rfl rfl) (dh_m1 (i := 0) rfl rfl) dh_ok_139
theorem dh_e_308 : jm_kok dh_cn dh_J dh_W dh_M dh_nl dh_rc (59, 121, 2, 75, 2) := jk_2 (y := 1) ("DeltaHistoryModel", dh_T2, 43) (by decide) rfl rfl (dh_m5 (i := 55) rfl rfl) dh_cw_75 (dh_m5 (i := 53) rfl rfl) (dh_m5 (i := 54) rfl rfl) dh_ok_75
theorem dh_e_309 : jm_kok dh_cn dh_J dh_W dh_M dh_nl dh_rc (59, 122, 2, 18, 3) := jk_2 (y := 2) ("DeltaHistory", dh_T1, 12) (by decide) rfl rfl (dh_m2 (i := 209) rfl rfl) dh_cw_18 (dh_m2 (i := 207) rfl rfl) (dh_m2 (i := 208) rfl rfl) dh_ok_18
theorem dh_e_310 : jm_kok dh_cn dh_J dh_W dh_M dh_nl dh_rc (59, 125, 2, 76, 3) := jk_2 (y := 2) ("DeltaHistoryModel", dh_T2, 43) (by decide) rfl rfl (dh_m5 (i := 59) rfl rfl) dh_cw_76 (dh_m5 (i := 57) rfl rfl) (dh_m5 (i := 58) rfl rfl) dh_ok_76
theorem dh_e_311 : jm_kok dh_cn dh_J dh_W dh_M dh_nl dh_rc (59, 126, 2, 19, 2) := jk_2 (y := 1) ("DeltaHistory", dh_T1, 12) (by decide) rfl rfl (dh_m2 (i := 218) rfl rfl) dh_cw_19 (dh_m2 (i := 216) rfl rfl) (dh_m2 (i := 217) rfl rfl) dh_ok_19
theorem dh_e_312 : jm_kok dh_cn dh_J dh_W dh_M dh_nl dh_rc (59, 130, 2, 77, 2) := jk_2 (y := 1) ("DeltaHistoryModel", dh_T2, 43) (by decide) rfl rfl (dh_m5 (i := 63) rfl rfl) dh_cw_77 (dh_m5 (i := 61) rfl rfl) (dh_m5 (i := 62) rfl rfl) dh_ok_77
theorem dh_e_313 : jm_kok dh_cn dh_J dh_W dh_M dh_nl dh_rc (59, 131, 2, 20, 3) := jk_2 (y := 2) ("DeltaHistory", dh_T1, 12) (by decide) rfl rfl (dh_m2 (i := 222) rfl rfl) dh_cw_20 (dh_m2 (i := 220) rfl rfl) (dh_m2 (i := 221) rfl rfl) dh_ok_20
theorem dh_e_314 : jm_kok dh_cn dh_J dh_W dh_M dh_nl dh_rc (59, 135, 2, 78, 3) := jk_2 (y := 2) ("DeltaHistoryModel", dh_T2, 43) (by decide) rfl rfl (dh_m5 (i := 67) rfl rfl) dh_cw_78 (dh_m5 (i := 65) rfl rfl) (dh_m5 (i := 66) rfl rfl) dh_ok_78
theorem dh_kk_0 : ∀ q ∈ dh_K_0, jm_kok dh_cn dh_J dh_W dh_M dh_nl dh_rc q := List.forall_mem_cons.mpr ⟨dh_e_0, List.forall_mem_cons.mpr ⟨dh_e_1, List.forall_mem_cons.mpr ⟨dh_e_2, List.forall_mem_cons.mpr ⟨dh_e_3, List.forall_mem_cons.mpr ⟨dh_e_4, List.forall_mem_cons.mpr ⟨dh_e_5, List.forall_mem_cons.mpr ⟨dh_e_6, List.forall_mem_cons.mpr ⟨dh_e_7, List.forall_mem_cons.mpr ⟨dh_e_8, List.forall_mem_cons.mpr ⟨dh_e_9, List.forall_mem_cons.mpr ⟨dh_e_10, List.forall_mem_cons.mpr ⟨dh_e_11, List.forall_mem_cons.mpr ⟨dh_e_12, List.forall_mem_cons.mpr ⟨dh_e_13, List.forall_mem_cons.mpr ⟨dh_e_14, List.forall_mem_cons.mpr ⟨dh_e_15, List.forall_mem_cons.mpr ⟨dh_e_16, List.forall_mem_cons.mpr ⟨dh_e_17, List.forall_mem_cons.mpr ⟨dh_e_18, List.forall_mem_cons.mpr ⟨dh_e_19, List.forall_mem_cons.mpr ⟨dh_e_20, List.forall_mem_cons.mpr ⟨dh_e_21, List.forall_mem_cons.mpr ⟨dh_e_22, List.forall_mem_cons.mpr ⟨dh_e_23, List.forall_mem_cons.mpr ⟨dh_e_24, List.forall_mem_cons.mpr ⟨dh_e_25, List.forall_mem_cons.mpr ⟨dh_e_26, List.forall_mem_cons.mpr ⟨dh_e_27, List.forall_mem_cons.mpr ⟨dh_e_28, List.forall_mem_cons.mpr ⟨dh_e_29, fun _ h => absurd h List.not_mem_nil⟩⟩⟩⟩⟩⟩⟩⟩⟩⟩⟩⟩⟩⟩⟩⟩⟩⟩⟩⟩⟩⟩⟩⟩⟩⟩⟩⟩⟩⟩
theorem dh_kk_1 : ∀ q ∈ dh_K_1, jm_kok dh_cn dh_J dh_W dh_M dh_nl dh_rc q := List.forall_mem_cons.mpr ⟨dh_e_30, List.forall_mem_cons.mpr ⟨dh_e_31, List.forall_mem_cons.mpr ⟨dh_e_32, List.forall_mem_cons.mpr ⟨dh_e_33, List.forall_mem_cons.mpr ⟨dh_e_34, List.forall_mem_cons.mpr ⟨dh_e_35, List.forall_mem_cons.mpr ⟨dh_e_36, List.forall_mem_cons.mpr ⟨dh_e_37, List.forall_mem_cons.mpr ⟨dh_e_38, List.forall_mem_cons.mpr ⟨dh_e_39, List.forall_mem_cons.mpr ⟨dh_e_40, List.forall_mem_cons.mpr ⟨dh_e_41, List.forall_mem_cons.mpr ⟨dh_e_42, List.forall_mem_cons.mpr ⟨dh_e_43, List.forall_mem_cons.mpr ⟨dh_e_44, List.forall_mem_cons.mpr ⟨dh_e_45, List.forall_mem_cons.mpr ⟨dh_e_46, List.forall_mem_cons.mpr ⟨dh_e_47, List.forall_mem_cons.mpr ⟨dh_e_48, List.forall_mem_cons.mpr ⟨dh_e_49, List.forall_mem_cons.mpr ⟨dh_e_50, List.forall_mem_cons.mpr ⟨dh_e_51, List.forall_mem_cons.mpr ⟨dh_e_52, List.forall_mem_cons.mpr ⟨dh_e_53, List.forall_mem_cons.mpr ⟨dh_e_54, List.forall_mem_cons.mpr ⟨dh_e_55, List.forall_mem_cons.mpr ⟨dh_e_56, List.forall_mem_cons.mpr ⟨dh_e_57, List.forall_mem_cons.mpr ⟨dh_e_58, List.forall_mem_cons.mpr ⟨dh_e_59, fun _ h => absurd h List.not_mem_nil⟩⟩⟩⟩⟩⟩⟩⟩⟩⟩⟩⟩⟩⟩⟩⟩⟩⟩⟩⟩⟩⟩⟩⟩⟩⟩⟩⟩⟩⟩
theorem dh_kk_2 : ∀ q ∈ dh_K_2, jm_kok dh_cn dh_J dh_W dh_M dh_nl dh_rc q := List.forall_mem_cons.mpr ⟨dh_e_60, List.forall_mem_cons.mpr ⟨dh_e_61, List.forall_mem_cons.mpr ⟨dh_e_62, List.forall_mem_cons.mpr ⟨dh_e_63, List.forall_mem_cons.mpr ⟨dh_e_64, List.forall_mem_cons.mpr ⟨dh_e_65, List.forall_mem_cons.mpr ⟨dh_e_66, List.forall_mem_cons.mpr ⟨dh_e_67, List.forall_mem_cons.mpr ⟨dh_e_68, List.forall_mem_cons.mpr ⟨dh_e_69, List.forall_mem_cons.mpr ⟨dh_e_70, List.forall_mem_cons.mpr ⟨dh_e_71, List.forall_mem_cons.mpr ⟨dh_e_72, List.forall_mem_cons.mpr ⟨dh_e_73, List.forall_mem_cons.mpr ⟨dh_e_74, List.forall_mem_cons.mpr ⟨dh_e_75, List.forall_mem_cons.mpr ⟨dh_e_76, List.forall_mem_cons.mpr ⟨dh_e_77, List.forall_mem_cons.mpr ⟨dh_e_78, List.forall_mem_cons.mpr ⟨dh_e_79, List.forall_mem_cons.mpr ⟨dh_e_80, List.forall_mem_cons.mpr ⟨dh_e_81, List.forall_mem_cons.mpr ⟨dh_e_82, List.forall_mem_cons.mpr ⟨dh_e_83, List.forall_mem_cons.mpr ⟨dh_e_84, List.forall_mem_cons.mpr ⟨dh_e_85, List.forall_mem_cons.mpr ⟨dh_e_86, List.forall_mem_cons.mpr ⟨dh_e_87, List.forall_mem_cons.mpr ⟨dh_e_88, List.forall_mem_cons.mpr ⟨dh_e_89, fun _ h => absurd h List.not_mem_nil⟩⟩⟩⟩⟩⟩⟩⟩⟩⟩⟩⟩⟩⟩⟩⟩⟩⟩⟩⟩⟩⟩⟩⟩⟩⟩⟩⟩⟩⟩
theorem dh_kk_3 : ∀ q ∈ dh_K_3, jm_kok dh_cn dh_J dh_W dh_M dh_nl dh_rc q := List.forall_mem_cons.mpr ⟨dh_e_90, List.forall_mem_cons.mpr ⟨dh_e_91, List.forall_mem_cons.mpr ⟨dh_e_92, List.forall_mem_cons.mpr ⟨dh_e_93, List.forall_mem_cons.mpr ⟨dh_e_94, List.forall_mem_cons.mpr ⟨dh_e_95, List.forall_mem_cons.mpr ⟨dh_e_96, List.forall_mem_cons.mpr ⟨dh_e_97, List.forall_mem_cons.mpr ⟨dh_e_98, List.forall_mem_cons.mpr ⟨dh_e_99, List.forall_mem_cons.mpr ⟨dh_e_100, List.forall_mem_cons.mpr ⟨dh_e_101, List.forall_mem_cons.mpr ⟨dh_e_102, List.forall_mem_cons.mpr ⟨dh_e_103, List.forall_mem_cons.mpr ⟨dh_e_104, List.forall_mem_cons.mpr ⟨dh_e_105, List.forall_mem_cons.mpr ⟨dh_e_106, List.forall_mem_cons.mpr ⟨dh_e_107, List.forall_mem_cons.mpr ⟨dh_e_108, List.forall_mem_cons.mpr ⟨dh_e_109, List.forall_mem_cons.mpr ⟨dh_e_110, List.forall_mem_cons.mpr ⟨dh_e_111, List.forall_mem_cons.mpr ⟨dh_e_112, List.forall_mem_cons.mpr ⟨dh_e_113, List.forall_mem_cons.mpr ⟨dh_e_114, List.forall_mem_cons.mpr ⟨dh_e_115, List.forall_mem_cons.mpr ⟨dh_e_116, List.forall_mem_cons.mpr ⟨dh_e_117, List.forall_mem_cons.mpr ⟨dh_e_118, List.forall_mem_cons.mpr ⟨dh_e_119, fun _ h => absurd h List.not_mem_nil⟩⟩⟩⟩⟩⟩⟩⟩⟩⟩⟩⟩⟩⟩⟩⟩⟩⟩⟩⟩⟩⟩⟩⟩⟩⟩⟩⟩⟩⟩
theorem dh_kk_4 : ∀ q ∈ dh_K_4, jm_kok dh_cn dh_J dh_W dh_M dh_nl dh_rc q := List.forall_mem_cons.mpr ⟨dh_e_120, List.forall_mem_cons.mpr ⟨dh_e_121, List.forall_mem_cons.mpr ⟨dh_e_122, List.forall_mem_cons.mpr ⟨dh_e_123, List.forall_mem_cons.mpr ⟨dh_e_124, List.forall_mem_cons.mpr ⟨dh_e_125, List.forall_mem_cons.mpr ⟨dh_e_126, List.forall_mem_cons.mpr ⟨dh_e_127, List.forall_mem_cons.mpr ⟨dh_e_128, List.forall_mem_cons.mpr ⟨dh_e_129, List.forall_mem_cons.mpr ⟨dh_e_130, List.forall_mem_cons.mpr ⟨dh_e_131, List.forall_mem_cons.mpr ⟨dh_e_132, List.forall_mem_cons.mpr ⟨dh_e_133, List.forall_mem_cons.mpr ⟨dh_e_134, List.forall_mem_cons.mpr ⟨dh_e_135, List.forall_mem_cons.mpr ⟨dh_e_136, List.forall_mem_cons.mpr ⟨dh_e_137, List.forall_mem_cons.mpr ⟨dh_e_138, List.forall_mem_cons.mpr ⟨dh_e_139, List.forall_mem_cons.mpr ⟨dh_e_140, List.forall_mem_cons.mpr ⟨dh_e_141, List.forall_mem_cons.mpr ⟨dh_e_142, List.forall_mem_cons.mpr ⟨dh_e_143, List.forall_mem_cons.mpr ⟨dh_e_144, List.forall_mem_cons.mpr ⟨dh_e_145, List.forall_mem_cons.mpr ⟨dh_e_146, List.forall_mem_cons.mpr ⟨dh_e_147, List.forall_mem_cons.mpr ⟨dh_e_148, List.forall_mem_cons.mpr ⟨dh_e_149, fun _ h => absurd h List.not_mem_nil⟩⟩⟩⟩⟩⟩⟩⟩⟩⟩⟩⟩⟩⟩⟩⟩⟩⟩⟩⟩⟩⟩⟩⟩⟩⟩⟩⟩⟩⟩
theorem dh_kk_5 : ∀ q ∈ dh_K_5, jm_kok dh_cn dh_J dh_W dh_M dh_nl dh_rc q := List.forall_mem_cons.mpr ⟨dh_e_150, List.forall_mem_cons.mpr ⟨dh_e_151, List.forall_mem_cons.mpr ⟨dh_e_152, List.forall_mem_cons.mpr ⟨dh_e_153, List.forall_mem_cons.mpr ⟨dh_e_154, List.forall_mem_cons.mpr ⟨dh_e_155, List.forall_mem_cons.mpr ⟨dh_e_156, List.forall_mem_cons.mpr ⟨dh_e_157, List.forall_mem_cons.mpr ⟨dh_e_158, List.forall_mem_cons.mpr ⟨dh_e_159, List.forall_mem_cons.mpr ⟨dh_e_160, List.forall_mem_cons.mpr ⟨dh_e_161, List.forall_mem_cons.mpr ⟨dh_e_162, List.forall_mem_cons.mpr ⟨dh_e_163, List.forall_mem_cons.mpr ⟨dh_e_164, List.forall_mem_cons.mpr ⟨dh_e_165, List.forall_mem_cons.mpr ⟨dh_e_166, List.forall_mem_cons.mpr ⟨dh_e_167, List.forall_mem_cons.mpr ⟨dh_e_168, List.forall_mem_cons.mpr ⟨dh_e_169, List.forall_mem_cons.mpr ⟨dh_e_170, List.forall_mem_cons.mpr ⟨dh_e_171, List.forall_mem_cons.mpr ⟨dh_e_172, List.forall_mem_cons.mpr ⟨dh_e_173, List.forall_mem_cons.mpr ⟨dh_e_174, List.forall_mem_cons.mpr ⟨dh_e_175, List.forall_mem_cons.mpr ⟨dh_e_176, List.forall_mem_cons.mpr ⟨dh_e_177, List.forall_mem_cons.mpr ⟨dh_e_178, List.forall_mem_cons.mpr ⟨dh_e_179, fun _ h => absurd h List.not_mem_nil⟩⟩⟩⟩⟩⟩⟩⟩⟩⟩⟩⟩⟩⟩⟩⟩⟩⟩⟩⟩⟩⟩⟩⟩⟩⟩⟩⟩⟩⟩
theorem dh_kk_6 : ∀ q ∈ dh_K_6, jm_kok dh_cn dh_J dh_W dh_M dh_nl dh_rc q := List.forall_mem_cons.mpr ⟨dh_e_180, List.forall_mem_cons.mpr ⟨dh_e_181, List.forall_mem_cons.mpr ⟨dh_e_182, List.forall_mem_cons.mpr ⟨dh_e_183, List.forall_mem_cons.mpr ⟨dh_e_184, List.forall_mem_cons.mpr ⟨dh_e_185, List.forall_mem_cons.mpr ⟨dh_e_186, List.forall_mem_cons.mpr ⟨dh_e_187, List.forall_mem_cons.mpr ⟨dh_e_188, List.forall_mem_cons.mpr ⟨dh_e_189, List.forall_mem_cons.mpr ⟨dh_e_190, List.forall_mem_cons.mpr ⟨dh_e_191, List.forall_mem_cons.mpr ⟨dh_e_192, List.forall_mem_cons.mpr ⟨dh_e_193, List.forall_mem_cons.mpr ⟨dh_e_194, List.forall_mem_cons.mpr ⟨dh_e_195, List.forall_mem_cons.mpr ⟨dh_e_196, List.forall_mem_cons.mpr ⟨dh_e_197, List.forall_mem_cons.mpr ⟨dh_e_198, List.forall_mem_cons.mpr ⟨dh_e_199, List.forall_mem_cons.mpr ⟨dh_e_200, List.forall_mem_cons.mpr ⟨dh_e_201, List.forall_mem_cons.mpr ⟨dh_e_202, List.forall_mem_cons.mpr ⟨dh_e_203, List.forall_mem_cons.mpr ⟨dh_e_204, List.forall_mem_cons.mpr ⟨dh_e_205, List.forall_mem_cons.mpr ⟨dh_e_206, List.forall_mem_cons.mpr ⟨dh_e_207, List.forall_mem_cons.mpr ⟨dh_e_208, List.forall_mem_cons.mpr ⟨dh_e_209, fun _ h => absurd h List.not_mem_nil⟩⟩⟩⟩⟩⟩⟩⟩⟩⟩⟩⟩⟩⟩⟩⟩⟩⟩⟩⟩⟩⟩⟩⟩⟩⟩⟩⟩⟩⟩
theorem dh_kk_7 : ∀ q ∈ dh_K_7, jm_kok dh_cn dh_J dh_W dh_M dh_nl dh_rc q := List.forall_mem_cons.mpr ⟨dh_e_210, List.forall_mem_cons.mpr ⟨dh_e_211, List.forall_mem_cons.mpr ⟨dh_e_212, List.forall_mem_cons.mpr ⟨dh_e_213, List.forall_mem_cons.mpr ⟨dh_e_214, List.forall_mem_cons.mpr ⟨dh_e_215, List.forall_mem_cons.mpr ⟨dh_e_216, List.forall_mem_cons.mpr ⟨dh_e_217, List.forall_mem_cons.mpr ⟨dh_e_218, List.forall_mem_cons.mpr ⟨dh_e_219, List.forall_mem_cons.mpr ⟨dh_e_220, List.forall_mem_cons.mpr ⟨dh_e_221, List.forall_mem_cons.mpr ⟨dh_e_222, List.forall_mem_cons.mpr ⟨dh_e_223, List.forall_mem_cons.mpr ⟨dh_e_224, List.forall_mem_cons.mpr ⟨dh_e_225, List.forall_mem_cons.mpr ⟨dh_e_226, List.forall_mem_cons.mpr ⟨dh_e_227, List.forall_mem_cons.mpr ⟨dh_e_228, List.forall_mem_cons.mpr ⟨dh_e_229, List.forall_mem_cons.mpr ⟨dh_e_230, List.forall_mem_cons.mpr ⟨dh_e_231, List.forall_mem_cons.mpr ⟨dh_e_232, List.forall_mem_cons.mpr ⟨dh_e_233, List.forall_mem_cons.mpr ⟨dh_e_234, List.forall_mem_cons.mpr ⟨dh_e_235, List.forall_mem_cons.mpr ⟨dh_e_236, List.forall_mem_cons.mpr ⟨dh_e_237, List.forall_mem_cons.mpr ⟨dh_e_238, List.forall_mem_cons.mpr ⟨dh_e_239, fun _ h => absurd h List.not_mem_nil⟩⟩⟩⟩⟩⟩⟩⟩⟩⟩⟩⟩⟩⟩⟩⟩⟩⟩⟩⟩⟩⟩⟩⟩⟩⟩⟩⟩⟩⟩
theorem dh_kk_8 : ∀ q ∈ dh_K_8, jm_kok dh_cn dh_J dh_W dh_M dh_nl dh_rc q := List.forall_mem_cons.mpr ⟨dh_e_240, List.forall_mem_cons.mpr ⟨dh_e_241, List.forall_mem_cons.mpr ⟨dh_e_242, List.forall_mem_cons.mpr ⟨dh_e_243, List.forall_mem_cons.mpr ⟨dh_e_244, List.forall_mem_cons.mpr ⟨dh_e_245, List.forall_mem_cons.mpr ⟨dh_e_246, List.forall_mem_cons.mpr ⟨dh_e_247, List.forall_mem_cons.mpr ⟨dh_e_248, List.forall_mem_cons.mpr ⟨dh_e_249, List.forall_mem_cons.mpr ⟨dh_e_250, List.forall_mem_cons.mpr ⟨dh_e_251, List.forall_mem_cons.mpr ⟨dh_e_252, List.forall_mem_cons.mpr ⟨dh_e_253, List.forall_mem_cons.mpr ⟨dh_e_254, List.forall_mem_cons.mpr ⟨dh_e_255, List.forall_mem_cons.mpr ⟨dh_e_256, List.forall_mem_cons.mpr ⟨dh_e_257, List.forall_mem_cons.mpr ⟨dh_e_258, List.forall_mem_cons.mpr ⟨dh_e_259, List.forall_mem_cons.mpr ⟨dh_e_260, List.forall_mem_cons.mpr ⟨dh_e_261, List.forall_mem_cons.mpr ⟨dh_e_262, List.forall_mem_cons.mpr ⟨dh_e_263, List.forall_mem_cons.mpr ⟨dh_e_264, List.forall_mem_cons.mpr ⟨dh_e_265, List.forall_mem_cons.mpr ⟨dh_e_266, List.forall_mem_cons.mpr ⟨dh_e_267, List.forall_mem_cons.mpr ⟨dh_e_268, List.forall_mem_cons.mpr ⟨dh_e_269, fun _ h => absurd h List.not_mem_nil⟩⟩⟩⟩⟩⟩⟩⟩⟩⟩⟩⟩⟩⟩⟩⟩⟩⟩⟩⟩⟩⟩⟩⟩⟩⟩⟩⟩⟩⟩
theorem dh_kk_9 : ∀ q ∈ dh_K_9, jm_kok dh_cn dh_J dh_W dh_M dh_nl dh_rc q := List.forall_mem_cons.mpr ⟨dh_e_270, List.forall_mem_cons.mpr ⟨dh_e_271, List.forall_mem_cons.mpr ⟨dh_e_272, List.forall_mem_cons.mpr ⟨dh_e_273, List.forall_mem_cons.mpr ⟨dh_e_274, List.forall_mem_cons.mpr ⟨dh_e_275, List.forall_mem_cons.mpr ⟨dh_e_276, List.forall_mem_cons.mpr ⟨dh_e_277, List.forall_mem_cons.mpr ⟨dh_e_278, List.forall_mem_cons.mpr ⟨dh_e_279, List.forall_mem_cons.mpr ⟨dh_e_280, List.forall_mem_cons.mpr ⟨dh_e_281, List.forall_mem_cons.mpr ⟨dh_e_282, List.forall_mem_cons.mpr ⟨dh_e_283, List.forall_mem_cons.mpr ⟨dh_e_284, List.forall_mem_cons.mpr ⟨dh_e_285, List.forall_mem_cons.mpr ⟨dh_e_286, List.forall_mem_cons.mpr ⟨dh_e_287, List.forall_mem_cons.mpr ⟨dh_e_288, List.forall_mem_cons.mpr ⟨dh_e_289, List.forall_mem_cons.mpr ⟨dh_e_290, List.forall_mem_cons.mpr ⟨dh_e_291, List.forall_mem_cons.mpr ⟨dh_e_292, List.forall_mem_cons.mpr ⟨dh_e_293, List.forall_mem_cons.mpr ⟨dh_e_294, List.forall_mem_cons.mpr ⟨dh_e_295, List.forall_mem_cons.mpr ⟨dh_e_296, List.forall_mem_cons.mpr ⟨dh_e_297, List.forall_mem_cons.mpr ⟨dh_e_298, List.forall_mem_cons.mpr ⟨dh_e_299, fun _ h => absurd h List.not_mem_nil⟩⟩⟩⟩⟩⟩⟩⟩⟩⟩⟩⟩⟩⟩⟩⟩⟩⟩⟩⟩⟩⟩⟩⟩⟩⟩⟩⟩⟩⟩
theorem dh_kk_10 : ∀ q ∈ dh_K_10, jm_kok dh_cn dh_J dh_W dh_M dh_nl dh_rc q := List.forall_mem_cons.mpr ⟨dh_e_300, List.forall_mem_cons.mpr ⟨dh_e_301, List.forall_mem_cons.mpr ⟨dh_e_302, List.forall_mem_cons.mpr ⟨dh_e_303, List.forall_mem_cons.mpr ⟨dh_e_304, List.forall_mem_cons.mpr ⟨dh_e_305, List.forall_mem_cons.mpr ⟨dh_e_306, List.forall_mem_cons.mpr ⟨dh_e_307, List.forall_mem_cons.mpr ⟨dh_e_308, List.forall_mem_cons.mpr ⟨dh_e_309, List.forall_mem_cons.mpr ⟨dh_e_310, List.forall_mem_cons.mpr ⟨dh_e_311, List.forall_mem_cons.mpr ⟨dh_e_312, List.forall_mem_cons.mpr ⟨dh_e_313, List.forall_mem_cons.mpr ⟨dh_e_314, fun _ h => absurd h List.not_mem_nil⟩⟩⟩⟩⟩⟩⟩⟩⟩⟩⟩⟩⟩⟩⟩
theorem dh_kok : ∀ q ∈ dh_K, jm_kok dh_cn dh_J dh_W dh_M dh_nl dh_rc q := by
  unfold dh_K
  exact List.forall_mem_append.mpr ⟨dh_kk_0, List.forall_mem_append.mpr ⟨dh_kk_1, List.forall_mem_append.mpr ⟨dh_kk_2, List.forall_mem_append.mpr ⟨dh_kk_3, List.forall_mem_append.mpr ⟨dh_kk_4, List.forall_mem_append.mpr ⟨dh_kk_5, List.forall_mem_append.mpr ⟨dh_kk_6, List.forall_mem_append.mpr ⟨dh_kk_7, List.forall_mem_append.mpr ⟨dh_kk_8, List.forall_mem_append.mpr ⟨dh_kk_9, dh_kk_10⟩⟩⟩⟩⟩⟩⟩⟩⟩⟩
