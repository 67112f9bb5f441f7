/-! The claim out of the abstract run of the law. -/
theorem dh_getD {α : Type} (l : List α) (d : α) {i : Nat} (h : l.length ≤ i) : l.getD i d = d := by
  rw [List.getD_eq_getElem?_getD, List.getElem?_eq_none h]; rfl
theorem dh_hcn : ∀ mi, dh_cn (dh_oc mi) = (dh_M mi).1.cls := by
  intro mi
  by_cases h : mi < 141
  · have := List.all_eq_true.mp (show (List.range 141).all (fun i => decide (dh_cn (dh_oc i) = (dh_M i).1.cls)) = true by decide +kernel) mi (List.mem_range.mpr h)
    simpa using this
  · have e1 : dh_oc mi = 0 := dh_getD _ _ (show dh_ocs.length ≤ mi from Nat.le_trans (by decide +kernel) (Nat.not_lt.mp h))
    have e2 : dh_M mi = (⟨"", "", ""⟩, ⟨#[]⟩, none, []) := dh_getD _ _ (show dh_Ms.length ≤ mi from Nat.le_trans (Nat.le_of_eq (show dh_Ms.length = 141 from rfl)) (Nat.not_lt.mp h))
    rw [e1, e2]
    decide +kernel
theorem dh_hct : ∀ mi, ∀ q ∈ (dh_M mi).2.2.2, (dh_M mi).1.cls = "DeltaHistoryLaw" ∧ (q.2.2.2 = 13 ∨ q.2.2.2 = 15 ∨ q.2.2.2 = 23 ∨ q.2.2.2 = 33) := by
  intro mi q hq
  by_cases h : mi < 141
  · have := List.all_eq_true.mp (show (List.range 141).all (fun i => (dh_M i).2.2.2.all (fun q => decide ((dh_M i).1.cls = "DeltaHistoryLaw") && (decide (q.2.2.2 = 13) || (decide (q.2.2.2 = 15) || (decide (q.2.2.2 = 23) || decide (q.2.2.2 = 33)))))) = true by decide +kernel) mi (List.mem_range.mpr h)
    have := List.all_eq_true.mp this q hq
    simpa using this
  · have e2 : dh_M mi = (⟨"", "", ""⟩, ⟨#[]⟩, none, []) := dh_getD _ _ (show dh_Ms.length ≤ mi from Nat.le_trans (Nat.le_of_eq (show dh_Ms.length = 141 from rfl)) (Nat.not_lt.mp h))
    rw [e2] at hq
    cases hq
theorem dh_hcode : ∀ mi q, q ∈ dh_code mi → ∃ ins, decode (dh_M mi).2.1 q.1 = .ok (ins, q.2.2.1) ∧ jm_chk dh_K dh_J dh_sw (dh_oc mi) (dh_nl mi) (dh_ini mi) (dh_M mi).2.2.1 q.1 ins q.2 = true := by
  intro mi q hq
  have := jm_allc_spec dh_codes 0 dh_allc mi q hq
  rw [Nat.zero_add] at this
  exact jm_cb_spec this
theorem dh_mt1 {i : Nat} {w : Cond} (h : tables_1_1[i]? = some w) : w ∈ lw_tbl := by
  refine List.mem_append_right _ ?_
  show w ∈ tables_1_1 ++ (tables_1_2 ++ (tables_1_3 ++ (tables_1_4 ++ tables_1_5)))
  exact List.mem_append_left _ (List.mem_of_getElem? h)
theorem dh_mt3 {i : Nat} {w : Cond} (h : tables_1_3[i]? = some w) : w ∈ lw_tbl := by
  refine List.mem_append_right _ ?_
  show w ∈ tables_1_1 ++ (tables_1_2 ++ (tables_1_3 ++ (tables_1_4 ++ tables_1_5)))
  exact List.mem_append_right _ (List.mem_append_right _ (List.mem_append_left _ (List.mem_of_getElem? h)))
theorem dh_ca {args : Array Value} {s : State} (hts : ∀ w ∈ dh_W, w.before args s = true) {x y : String} (h : Cond.castable x y ∈ dh_W) : ∃ c c', s.vm.findClass x = some c ∧ s.vm.findClass y = some c' ∧ s.vm.assignable c c' = true := Cond.castable_spec (hts _ h)
theorem dh_nc {args : Array Value} {s : State} (hgv : (Jvm.Cond.and given_1 narrow_1).before args s = true) {x y : String} (h : Cond.not (.castable x y) ∈ flatC (Jvm.Cond.and given_1 narrow_1)) : ∃ c c', s.vm.findClass x = some c ∧ s.vm.findClass y = some c' ∧ s.vm.assignable c c' = false := va_Nc.of (flat_of_before _ hgv _ h)
def dh_cC (i : Nat) : String := if i = 13 then "java/lang/IndexOutOfBoundsException" else if i = 15 then "java/lang/IllegalStateException" else if i = 23 then "java/lang/UnsupportedOperationException" else "java/lang/IllegalArgumentException"
theorem dh_cast {args : Array Value} {s : State} (hts : ∀ w ∈ dh_W, w.before args s = true) (hgv : (Jvm.Cond.and given_1 narrow_1).before args s = true) {i : Nat} (hi : i = 13 ∨ i = 15 ∨ i = 23 ∨ i = 33) {t : Nat} {nm : String} (ht : dh_ex t = some nm) :
    ∃ c c', s.vm.findClass nm = some c ∧ s.vm.findClass (dh_cC i) = some c' ∧ s.vm.assignable c c' = decide (dh_ctc i = t + 1) := by
  have c1 := dh_ca hts (x := "java/lang/IndexOutOfBoundsException") (y := "java/lang/IndexOutOfBoundsException") (dh_m2 (i := 239) rfl rfl)
  have c2 := dh_ca hts (x := "java/lang/IllegalStateException") (y := "java/lang/IllegalStateException") (dh_m3 (i := 68) rfl rfl)
  have c3 := dh_ca hts (x := "java/lang/UnsupportedOperationException") (y := "java/lang/UnsupportedOperationException") (dh_m3 (i := 126) rfl rfl)
  have c4 := dh_ca hts (x := "java/lang/IllegalArgumentException") (y := "java/lang/IllegalArgumentException") (dh_m3 (i := 162) rfl rfl)
  unfold dh_ex at ht
  split at ht
  · rename_i e; subst e; cases ht
    rcases hi with rfl | rfl | rfl | rfl
    · exact c1
    · exact dh_nc hgv (by decide +kernel)
    · exact dh_nc hgv (by decide +kernel)
    · exact dh_nc hgv (by decide +kernel)
  · split at ht
    · rename_i e; subst e; cases ht
      rcases hi with rfl | rfl | rfl | rfl
      · exact dh_nc hgv (by decide +kernel)
      · exact c2
      · exact dh_nc hgv (by decide +kernel)
      · exact dh_nc hgv (by decide +kernel)
    · split at ht
      · rename_i e; subst e; cases ht
        rcases hi with rfl | rfl | rfl | rfl
        · exact dh_nc hgv (by decide +kernel)
        · exact dh_nc hgv (by decide +kernel)
        · exact c3
        · exact dh_nc hgv (by decide +kernel)
      · split at ht
        · rename_i e; subst e; cases ht
          rcases hi with rfl | rfl | rfl | rfl
          · exact dh_nc hgv (by decide +kernel)
          · exact dh_nc hgv (by decide +kernel)
          · exact dh_nc hgv (by decide +kernel)
          · exact c4
        · cases ht
theorem dh_clk {i : Nat} (hi : i = 13 ∨ i = 15 ∨ i = 23 ∨ i = 33) : Cond.classLink "DeltaHistoryLaw" i (dh_cC i) ∈ dh_W := by
  rcases hi with rfl | rfl | rfl | rfl
  · exact dh_m2 (i := 228) rfl rfl
  · exact dh_m2 (i := 229) rfl rfl
  · exact dh_m3 (i := 119) rfl rfl
  · exact dh_m3 (i := 154) rfl rfl
theorem dh_exi {args : Array Value} {s : State} (hts : ∀ w ∈ dh_W, w.before args s = true) (t : Nat) : ∃ x : ClassId × Array FieldType, ∀ nm, dh_ex t = some nm → ∃ k, s.vm.findClass nm = some x.1 ∧ s.vm.classes[x.1]? = some k ∧ k.instanceTypes = x.2 := by
  have key : ∀ {nm : String}, Cond.instantiable nm 6 ∈ dh_W → ∃ x : ClassId × Array FieldType, ∃ k, s.vm.findClass nm = some x.1 ∧ s.vm.classes[x.1]? = some k ∧ k.instanceTypes = x.2 := by
    intro nm h
    obtain ⟨c, k, h1, h2, -⟩ := Cond.instantiable_spec (hts _ h)
    exact ⟨(c, k.instanceTypes), k, h1, h2, rfl⟩
  unfold dh_ex
  split
  · obtain ⟨x, hx⟩ := key (nm := "java/lang/IndexOutOfBoundsException") (dh_m2 (i := 238) rfl rfl)
    exact ⟨x, fun nm h => by cases h; exact hx⟩
  · split
    · obtain ⟨x, hx⟩ := key (nm := "java/lang/IllegalStateException") (dh_m3 (i := 67) rfl rfl)
      exact ⟨x, fun nm h => by cases h; exact hx⟩
    · split
      · obtain ⟨x, hx⟩ := key (nm := "java/lang/UnsupportedOperationException") (dh_m3 (i := 125) rfl rfl)
        exact ⟨x, fun nm h => by cases h; exact hx⟩
      · split
        · obtain ⟨x, hx⟩ := key (nm := "java/lang/IllegalArgumentException") (dh_m3 (i := 161) rfl rfl)
          exact ⟨x, fun nm h => by cases h; exact hx⟩
        · exact ⟨(0, #[]), fun nm h => by cases h⟩
theorem dh_cli {args : Array Value} {s : State} (hts : ∀ w ∈ dh_W, w.before args s = true) (t : Nat) : ∃ (c : ClassId) (i : Nat → Nat), ∀ q, 0 < t → dh_cl[t]? = some q → u_Kn s q.1 q.2.1 q.2.2 c i := by
  by_cases h0 : 0 < t
  · cases hq : dh_cl[t]? with
    | none => exact ⟨0, fun _ => 0, fun q _ h => by cases h⟩
    | some q =>
      obtain ⟨-, ⟨hw, -, -⟩, hi, -⟩ := dh_cls t q h0 hq
      obtain ⟨c, i, h⟩ := u_known hts hw (hts _ hi)
      exact ⟨c, i, fun q' _ h' => by cases h'; exact h⟩
  · exact ⟨0, fun _ => 0, fun q h => absurd h h0⟩
theorem dh_arr {s : State} {c : ClassId} {k : Class} {comp : ClassId} {ty : FieldType} (h1 : s.vm.classes[c]? = some k) (h2 : k.kind = .array comp ty) : ArrOfT s c ty := fun _ _ => ⟨fun _ h => (by cases h), k, h1, comp, h2⟩
/-- the abstract heap at the law's start: the script alone -/
def dh_H0 (L : Nat) (xs : Nat → Int32) : jm_H := (2, 0, fun a => if a = 1 then (99, L, xs, fun _ => 0, fun _ => 0) else (0, 0, fun _ => 0, fun _ => 0, fun _ => 0))
/-- what is left: the abstract run of the law returns 1 -/
def dh_Run : Prop := ∀ (L : Nat) (xs : Nat → Int32), L ≤ 2048 → jm_E dh_pr 12 140 [.inr (.inl 1)] (dh_H0 L xs) (fun o _ => o = .inl (some (.inl 1)))
theorem dh_R0 {b L : Nat} {xs : Nat → Int32} {s : State} {scr : Cell} {D : va_G} {cI cJ : ClassId} {cq : Nat → ClassId} {cx : Nat → ClassId × Array FieldType} (hb : b < s.heap.size) (h1 : s.heap[b]? = some scr) (h2 : scr.vm ≠ .unknown) (h3 : scr.slots.size = L) (h4 : ∀ j : Nat, j < L → scr.slots[j]? = some (.int (xs j))) :
    jg_R (b, s.heap.size, scr, D, cI, cJ, cq, cx, s) dh_J (dh_H0 L xs) s.heap := by
  refine ⟨⟨Nat.le_refl 2, rfl, hb, fun q _ => rfl⟩, fun r hr => ?_, fun r h2 h3 => ?_, rfl, h1, h2, h3, h4⟩
  · have hr' : r = 0 ∨ 2 ≤ r := hr
    show ((if r = 1 then _ else _ : jm_O)).1 = 0
    rw [if_neg (by omega)]
  · have h3' : r < 2 := h3
    omega
def R_law : String := "DeltaHistoryLaw"
def lw_P (b : Addr) (xs : List Int32) (args : Array Value) (s : State) : Prop := args = #[.ref b] ∧ s.IntsAt b xs ∧ xs.length ≤ 2048 ∧ (Jvm.Cond.and given_1 narrow_1).before args s = true
def lw_Q (_ : Array Value) (s : State) (o : Outcome) (t : State) : Prop := o = .returned (some (.int 1)) ∧ Framed s o t [] 601024 7293034
def lw_Z (below : List Frame) (a : Array Value) (s : State) : State → Prop := fun t => ∃ o, t.status = .running ∧ Ended t below o ∧ lw_Q a s o t
theorem whole_start (run : dh_Run) {p : Program} {e : Env} {s : State} {m : MethodId} {below : List Frame} {meth : Method} {c : Code} (l : Launch) {b L : Nat} {xs : Nat → Int32} (hL : L ≤ 2048) (hl0 : l.stackTraces = false) (hF : jg_Fr dh_M dh_nl 140 p s m meth c)
    (hts0 : ∀ w ∈ lw_tbl, w.before #[Value.ref b] s = true) (hX : va_X b L xs s s.heap) (hb : b < s.heap.size) (hgv : (Jvm.Cond.and given_1 narrow_1).before #[Value.ref b] s = true) :
    W p l e room_1 s m #[Value.ref b] below meth c s.heap [] 0 0 (lw_Z below #[Value.ref b] s) (entryFrame m ([Value.ref b] : List Value).toArray 7) := by
  have hts : ∀ w ∈ dh_W, w.before #[Value.ref b] s = true := fun w hw => hts0 w (List.mem_filter.mp hw).1
  have hg : ∀ w ∈ dh_W, jm_goodW w = true := fun w hw => (List.mem_filter.mp hw).2
  obtain ⟨scr, x1, x2, x3, x4, x5⟩ := hX
  have hwI : Cond.arrayClass .int ∈ dh_W := dh_m1 (i := 46) rfl rfl
  have hwL : Cond.arrayClass .long ∈ dh_W := dh_m5 (i := 69) rfl rfl
  obtain ⟨cI, kI, compI, i1, i2, i3⟩ := Cond.arrayClass_spec (hts _ hwI)
  obtain ⟨cJ, kJ, compJ, j1, j2, j3⟩ := Cond.arrayClass_spec (hts _ hwL)
  have hov : (Cond.arrayOver (.array .int)).before #[Value.ref b] s = true := hts0 _ (dh_mt1 (i := 54) rfl)
  have hor : (Cond.arrayOver (.object "DeltaHistory$Revision")).before #[Value.ref b] s = true := hts0 _ (dh_mt1 (i := 137) rfl)
  obtain ⟨comp2, c61, k61, v1, -, v3, v4, v5⟩ := arrayOverA_spec hov
  obtain ⟨comp3, c69, k69, r1, -, r3, r4, r5⟩ := Cond.arrayOver_spec hor
  let G : jm_G := (b, s.heap.size, scr, (fun t => Classical.choose (dh_cli hts t), fun t => Classical.choose (Classical.choose_spec (dh_cli hts t))), cI, cJ, (fun t => if t = 61 then c61 else c69), (fun t => Classical.choose (dh_exi hts t)), s)
  have hK : jg_K G dh_J dh_W s := by
    refine ⟨fun w hw a => jm_goodW_moved (hg w hw) (State.WarmedH.refl s) (hts w hw), fun t q h0 hq => Classical.choose_spec (Classical.choose_spec (dh_cli hts t)) q h0 hq, ⟨dh_arr i2 i3, i1⟩, ⟨dh_arr j2 j3, j1⟩, x2, fun t ty hty => ?_, fun t x hx => Classical.choose_spec (dh_exi hts t) x hx, State.WarmedH.refl s, fun _ _ => rfl, fun q cell hq hc => ?_⟩
    · replace hty : dh_aq t = some ty := hty
      unfold dh_aq at hty
      split at hty
      · rename_i e; subst e; cases hty
        exact ⟨dh_arr v3 v4, v5, fun C h => (by cases h), fun C h => (by cases h; exact hov)⟩
      · split at hty
        · rename_i e; subst e; cases hty
          exact ⟨dh_arr r3 r4, ⟨k69, comp3, r3, r4, r1, r5⟩, fun C h => (by cases h; exact va_AO.of hor), fun C h => (by cases h)⟩
        · cases hty
    · have := (Array.getElem?_eq_some_iff.mp hc).1
      replace hq : s.heap.size ≤ q := hq
      omega
  have h0 : jg_0 G := by
    refine ⟨rfl, #[Value.ref b], fun w hm => ?_⟩
    have hs := flat_of_before _ hgv
    simp only [jx_st, List.mem_cons, List.not_mem_nil, or_false] at hm
    rcases hm with rfl | rfl | rfl | rfl
    · exact hts0 _ (dh_mt3 (i := 24) rfl)
    · exact hts0 _ (dh_mt3 (i := 26) rfl)
    · exact hs _ (by decide +kernel)
    · exact hs _ (by decide +kernel)
  have snd := jm_sound (p := p) (l := l) (e := e) (pr := dh_pr) (G := G) (J := dh_J) (Wg := dh_W) (M := dh_M) (cn := dh_cn) (K := dh_K) (oc := dh_oc) (ini := dh_ini) (ct := dh_ct) hg
    (fun t q h0 hq => ⟨(dh_cls t q h0 hq).1, (dh_cls t q h0 hq).2.1⟩) h0 hl0 dh_kok dh_hcn (fun mi h => of_decide_eq_true h) (fun t q h0 hq => (dh_cls t q h0 hq).2.2.2) hwI hwL dh_hcode (fun mi => rfl)
    (fun mi q hq => by
      obtain ⟨g1, g2⟩ := dh_hct mi q hq
      refine ⟨by omega, dh_cC q.2.2.2, by rw [g1]; exact dh_clk g2, fun t nm ht => ?_⟩
      obtain ⟨c, c', e1, e2, e3⟩ := dh_cast hts hgv g2 ht
      exact ⟨c, c', e1, e2, e3⟩) 12
  have w := snd 140 [.inr (.inl 1)] (dh_H0 L xs) (fun o _ => o = .inl (some (.inl 1))) (run L xs hL) (fun v hv z => by
      rw [List.mem_singleton.mp hv]; intro h; cases h) room_1 s m below meth c hF hK ⟨by decide, by decide⟩ ⟨Nat.le_refl _, Nat.le_refl _⟩ s.heap (dh_R0 hb x1 x3 x4 x5) rfl
  intro T hT X
  obtain ⟨t, a1, o, h, Lc, z1, z2, z3, z4, z5, z6, z7, z8, -⟩ := w T hT X
  subst z8
  refine ⟨t, a1, _, z1, z2, rfl, ⟨_, rfl⟩, z3, ?_⟩
  have z9 : s.sameButNew ({ t with vm := s.vm } : State) [] (h.1 - 2) (h.2.1 - 0) := State.sameButNew.drop_fresh (L := []) z4 z5
  refine z9.mono ?_ ?_
  · have := z6.2.2.1
    show h.1 - 2 ≤ 601024
    replace this : h.1 ≤ 601024 + 2 := this
    omega
  · have := z6.2.2.2
    replace this : h.2.1 ≤ 7293034 + 0 := this
    omega
