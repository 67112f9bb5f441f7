/-! The checks as programs. -/
def jm_cb (K : jm_K5) (J : jm_J) (sw : Nat → List (Int32 × Nat) × Nat) (bs : ByteArray) (oc nL : Nat) (ini : Bool) (ret : Option FieldType) (q : Nat × jm_In) : Bool := match decode bs q.1 with
  | .ok r => r.2 == q.2.2.1 && jm_chk K J sw oc nL ini ret q.1 r.1 q.2
  | .error _ => false
theorem jm_cb_spec {K : jm_K5} {J : jm_J} {sw : Nat → List (Int32 × Nat) × Nat} {bs : ByteArray} {oc nL : Nat} {ini : Bool} {ret : Option FieldType} {q : Nat × jm_In} (h : jm_cb K J sw bs oc nL ini ret q = true) : ∃ ins, decode bs q.1 = .ok (ins, q.2.2.1) ∧ jm_chk K J sw oc nL ini ret q.1 ins q.2 = true := by
  unfold jm_cb at h
  split at h
  · rename_i r hr
    simp only [Bool.and_eq_true, beq_iff_eq] at h
    refine ⟨r.1, ?_, h.2⟩
    rw [hr, ← h.1]
  · cases h
def jg_cwb (M : jm_M) (nl : Nat → Nat) (inW : Cond → Bool) (x : Nat) : Bool := ((M x).2.2.2.isEmpty && inW (.code (M x).1 (M x).2.1 (nl x) (M x).2.2.1)) || inW (.codeWith (M x).1 (M x).2.1 (nl x) (M x).2.2.1 (M x).2.2.2)
theorem jg_cwb_spec {M : jm_M} {nl : Nat → Nat} {inW : Cond → Bool} {Wg : List Cond} (hW : ∀ w, inW w = true → w ∈ Wg) {x : Nat} (h : jg_cwb M nl inW x = true) : jg_cw M nl Wg x := by
  unfold jg_cwb at h
  simp only [Bool.or_eq_true, Bool.and_eq_true, List.isEmpty_iff] at h
  rcases h with ⟨h1, h2⟩ | h
  · exact Or.inl ⟨h1, hW _ h2⟩
  · exact Or.inr (hW _ h)
def jm_okc (y : MethodName) : Bool := decide (y.cls ≠ "java/lang/invoke/MethodHandle") && decide (y.cls ≠ "java/lang/invoke/VarHandle") && plainFor y
/-- names above an exception, up to Throwable's -/
def jm_up2 : List String := ["java/lang/RuntimeException", "java/lang/Exception"]
def jm_kb (cn : Nat → String) (J : jm_J) (inW inS : Cond → Bool) (M : jm_M) (nl rc : Nat → Nat) (q : Nat × Nat × Nat × Nat × Nat) : Bool := match q.2.2.1 with
  | 1 => decide (0 < q.2.2.2.1) && (J.1[q.2.2.2.1]?).any (fun w => decide (q.2.2.2.2 < w.2.2) && decide ((w.2.1 q.2.2.2.2).1 = w.1) && inW (.fieldLink (cn q.1) q.2.1 w.1 (w.2.1 q.2.2.2.2).2.1 (w.2.1 q.2.2.2.2).2.2.1))
  | 2 => decide (0 < rc q.2.2.2.1) && (J.1[rc q.2.2.2.1]?).any (fun w => decide (w.1 = (M q.2.2.2.1).1.cls) && inW (.selects w.1 (M q.2.2.2.1).1 (M q.2.2.2.1).1)) && jg_cwb M nl inW q.2.2.2.1 && inW (.methodLink (cn q.1) q.2.1 (M q.2.2.2.1).1) && inW (.instanceMethod (M q.2.2.2.1).1) && jm_okc (M q.2.2.2.1).1 && decide ((parseMethodDescriptor (M q.2.2.2.1).1.desc).map (fun d => d.parameters.length + 1) = some q.2.2.2.2)
  | 3 => decide (rc q.2.2.2.1 = 0) && jg_cwb M nl inW q.2.2.2.1 && inW (.methodLink (cn q.1) q.2.1 (M q.2.2.2.1).1) && inW (.static (M q.2.2.2.1).1) && inW (.initialized (M q.2.2.2.1).1.cls) && jm_okc (M q.2.2.2.1).1 && decide ((parseMethodDescriptor (M q.2.2.2.1).1.desc).map (fun d => d.parameters.length) = some q.2.2.2.2)
  | 4 => decide (0 < rc q.2.2.2.1) && decide (rc q.2.2.2.1 < 60) && decide ((M q.2.2.2.1).1.name = "<init>") && inW (.code (M q.2.2.2.1).1 (M q.2.2.2.1).2.1 (nl q.2.2.2.1) none) && jg_cwb M nl inW q.2.2.2.1 && inW (.methodLink (cn q.1) q.2.1 (M q.2.2.2.1).1) && inW (.instanceMethod (M q.2.2.2.1).1) && jm_okc (M q.2.2.2.1).1 && decide ((parseMethodDescriptor (M q.2.2.2.1).1.desc).map (fun d => d.parameters.length + 1) = some q.2.2.2.2)
  | 5 => decide (0 < q.2.2.2.1) && (J.1[q.2.2.2.1]?).any (fun w => decide (q.2.2.2.2 = w.2.2) && inW (.classLink (cn q.1) q.2.1 w.1) && inW (.instantiable w.1 w.2.2) && inW (.initialized w.1) && (List.range w.2.2).all (fun k => jm_isI (J.2.1 q.2.2.2.1 k) || jm_isR (J.2.1 q.2.2.2.1 k)))
  | 6 => decide (60 ≤ q.2.2.2.1) && decide (q.2.2.2.1 < 99) && (match J.2.2.1 q.2.2.2.1 with | some (.object C) => inW (.classLink (cn q.1) q.2.1 C) | _ => false)
  | 7 => (J.2.2.2 q.2.2.2.1).any (fun nm => decide (200 ≤ q.2.2.2.1) && decide (q.2.2.2.1 % 2 = 0) && inW (.classLink (cn q.1) q.2.1 nm) && inW (.instantiable nm 6) && inW (.initialized nm))
  | 8 => (J.2.2.2 q.2.2.2.1).any (fun nm => decide (200 ≤ q.2.2.2.1) && decide (q.2.2.2.1 % 2 = 0) && Bundle.fit nm && (Bundle.ownAtoms0 (cn q.1) q.2.1 nm jm_up2).all (fun a => inW a || inS a))
  | 9 => inW (.methodLink (cn q.1) q.2.1 objectInit) && inW (.instanceMethod objectInit) && inW (.code objectInit ⟨#[0xb1]⟩ 1 none)
  | 10 => inW (.methodLink (cn q.1) q.2.1 Lib.Math.max.name) && inW (.static Lib.Math.max.name) && inW (.initialized "java/lang/Math") && inW (.code Lib.Math.max.name Lib.Math.max.code 2 (some .int))
  | 12 => inW (.methodLink (cn q.1) q.2.1 arraycopyName) && inW (.native arraycopyName) && inW (.static arraycopyName) && inW (.initialized "java/lang/System")
  | 13 => decide (60 ≤ q.2.2.2.1) && decide (q.2.2.2.1 < 99) && decide (J.2.2.1 q.2.2.2.1 = some (.array .int)) && inW (.classLink (cn q.1) q.2.1 "[[I")
  | _ => true
theorem jm_up2_fit : ∀ n ∈ jm_up2, Bundle.fit n = true := by decide +kernel
theorem jm_okc_spec {y : MethodName} (h : jm_okc y = true) : (y.cls ≠ "java/lang/invoke/MethodHandle" ∧ y.cls ≠ "java/lang/invoke/VarHandle") ∧ plainFor y = true := by
  unfold jm_okc at h
  simp only [Bool.and_eq_true, decide_eq_true_eq] at h
  exact h
theorem jm_kb_spec {cn : Nat → String} {J : jm_J} {inW inS : Cond → Bool} {M : jm_M} {nl rc : Nat → Nat} {Wg : List Cond} (hW : ∀ w, inW w = true → w ∈ Wg) (hS : ∀ w, inS w = true → w ∈ jx_st) {q : Nat × Nat × Nat × Nat × Nat} (h : jm_kb cn J inW inS M nl rc q = true) : jm_kok cn J Wg M nl rc q := by
  obtain ⟨o, idx, code, x, y⟩ := q
  unfold jm_kb at h
  unfold jm_kok
  dsimp only at h ⊢
  split at h
  · simp only [Bool.and_eq_true, decide_eq_true_eq, Option.any_eq_true] at h
    obtain ⟨h0, w, h1, ⟨h2, h3⟩, h4⟩ := h
    exact ⟨h0, w, h1, h2, h3, hW _ h4⟩
  · simp only [Bool.and_eq_true, decide_eq_true_eq, Option.any_eq_true] at h
    obtain ⟨⟨⟨⟨⟨⟨h0, w, h1, h2, h3⟩, h4⟩, h5⟩, h6⟩, h7⟩, h8⟩ := h
    exact ⟨h0, ⟨w, h1, h2, hW _ h3⟩, jg_cwb_spec hW h4, hW _ h5, hW _ h6, (jm_okc_spec h7).1, (jm_okc_spec h7).2, h8⟩
  · simp only [Bool.and_eq_true, decide_eq_true_eq] at h
    obtain ⟨⟨⟨⟨⟨⟨h0, h4⟩, h5⟩, h6⟩, h6'⟩, h7⟩, h8⟩ := h
    exact ⟨h0, jg_cwb_spec hW h4, hW _ h5, hW _ h6, hW _ h6', (jm_okc_spec h7).1, (jm_okc_spec h7).2, h8⟩
  · simp only [Bool.and_eq_true, decide_eq_true_eq] at h
    obtain ⟨⟨⟨⟨⟨⟨⟨⟨h0, h0'⟩, h1⟩, h2⟩, h4⟩, h5⟩, h6⟩, h7⟩, h8⟩ := h
    exact ⟨⟨h0, h0'⟩, h1, hW _ h2, jg_cwb_spec hW h4, hW _ h5, hW _ h6, (jm_okc_spec h7).1, (jm_okc_spec h7).2, h8⟩
  · simp only [Bool.and_eq_true, decide_eq_true_eq, Option.any_eq_true, List.all_eq_true, Bool.or_eq_true, List.mem_range] at h
    obtain ⟨h0, w, h1, ⟨⟨⟨h2, h3⟩, h4⟩, h5⟩, h6⟩ := h
    exact ⟨h0, w, h1, h2, hW _ h3, hW _ h4, hW _ h5, h6⟩
  · simp only [Bool.and_eq_true, decide_eq_true_eq] at h
    obtain ⟨⟨h0, h1⟩, h2⟩ := h
    refine ⟨⟨h0, h1⟩, ?_⟩
    split at h2
    · rename_i C hC
      exact ⟨C, hC, hW _ h2⟩
    · cases h2
  · simp only [Bool.and_eq_true, decide_eq_true_eq, Option.any_eq_true] at h
    obtain ⟨nm, h1, ⟨⟨⟨h2, h3⟩, h4⟩, h5⟩, h6⟩ := h
    exact ⟨nm, h1, h2, h3, hW _ h4, hW _ h5, hW _ h6⟩
  · simp only [Bool.and_eq_true, decide_eq_true_eq, Option.any_eq_true, List.all_eq_true, Bool.or_eq_true] at h
    obtain ⟨nm, h1, ⟨⟨h2, h3⟩, h4⟩, h5⟩ := h
    exact ⟨nm, jm_up2, h1, h2, h3, h4, jm_up2_fit, rfl, fun a ha => (h5 a ha).imp (hW a) (hS a)⟩
  · simp only [Bool.and_eq_true] at h
    exact ⟨hW _ h.1.1, hW _ h.1.2, hW _ h.2⟩
  · simp only [Bool.and_eq_true] at h
    exact ⟨hW _ h.1.1.1, hW _ h.1.1.2, hW _ h.1.2, hW _ h.2⟩
  · simp only [Bool.and_eq_true] at h
    exact ⟨hW _ h.1.1.1, hW _ h.1.1.2, hW _ h.1.2, hW _ h.2⟩
  · simp only [Bool.and_eq_true, decide_eq_true_eq] at h
    exact ⟨⟨h.1.1.1, h.1.1.2⟩, h.1.2, hW _ h.2⟩
  · rename_i n1 n2 n3 n4 n5 n6 n7 n8 n9 n10 n11 n12
    split
    all_goals first | exact absurd rfl (by assumption) | trivial
/-- all methods' codes pass -/
def jm_allc (f : Nat → (Nat × jm_In) → Bool) : Nat → List (List (Nat × jm_In)) → Prop
  | _, [] => True
  | a, l :: r => l.all (f a) = true ∧ jm_allc f (a + 1) r
theorem jm_allc_spec {f : Nat → (Nat × jm_In) → Bool} : ∀ (L : List (List (Nat × jm_In))) (a : Nat), jm_allc f a L → ∀ i, ∀ q ∈ L.getD i [], f (a + i) q = true
  | [], _, _, i, q, hq => by simp at hq
  | l :: r, a, h, 0, q, hq => by
    have := List.all_eq_true.mp h.1 q (by simpa using hq)
    simpa using this
  | l :: r, a, h, i + 1, q, hq => by
    have := jm_allc_spec r (a + 1) h.2 i q (by simpa using hq)
    rwa [show a + (i + 1) = a + 1 + i by omega]
