/-! Calls: into the callee's frame and back. -/
/-- methods by number: name, code, what is returned, handlers -/
abbrev jm_M : Type := Nat → MethodName × ByteArray × Option FieldType × List (Nat × Nat × Nat × Nat)
/-- a frame of the method mi -/
def jg_Fr (M : jm_M) (nl : Nat → Nat) (mi : Nat) (p : Program) (s : State) (m : MethodId) (meth : Method) (cd : Code) : Prop :=
  p.tables.exec = Jvm.exec ∧ cd.code = (M mi).2.1 ∧ cd.maxLocals = nl mi ∧ s.vm.findClass (M mi).1.cls = some m.cls ∧ meth.sig.returnType = (M mi).2.2.1 ∧ meth.locks = false ∧ meth.name = (M mi).1.name ∧
  cd.exceptionTable.toList.map (fun h => (h.startPc, h.endPc, h.handlerPc, h.catchType)) = (M mi).2.2.2
/-- room for the frames above -/
def jg_Rm (w : Nat × Nat) (R : Room) : Prop := w.1 ≤ R.frames ∧ w.2 ≤ R.locals
/-- the abstract run of a method (by E, at depth d) is a run of the machine -/
def jg_Snd (G : jm_G) (J : jm_J) (Wg : List Cond) (M : jm_M) (nl : Nat → Nat) (rm : Nat → Nat × Nat) (cap zcap : Nat) (p : Program) (l : Launch) (e : Env) (E : Nat → List jm_V → jm_H → jm_Q → Prop) : Prop :=
  ∀ (mi : Nat) (as : List jm_V) (h : jm_H) (Q : jm_Q), E mi as h Q → (∀ v ∈ as, ∀ z, v ≠ .inr (.inr z)) →
  ∀ (R : Room) (s : State) (m : MethodId) (below : List Frame) (meth : Method) (cd : Code), jg_Fr M nl mi p s m meth cd → jg_K G J Wg s → jg_Rm (rm mi) R → (cap ≤ R.cells + h.1 ∧ zcap ≤ R.slots + h.2.1) →
  ∀ H, jg_R G J h H → s.heap = H → W p l e R s m (as.map (jg_mv G)).toArray below meth cd H [] 0 0 (jg_Z G J R s below h.1 h.2.1 Q) (entryFrame m (as.map (jg_mv G)).toArray (nl mi))
/-- the word that says a method's code -/
def jg_cw (M : jm_M) (nl : Nat → Nat) (Wg : List Cond) (x : Nat) : Prop := ((M x).2.2.2 = [] ∧ Cond.code (M x).1 (M x).2.1 (nl x) (M x).2.2.1 ∈ Wg) ∨ Cond.codeWith (M x).1 (M x).2.1 (nl x) (M x).2.2.1 (M x).2.2.2 ∈ Wg
theorem jg_callee {G : jm_G} {J : jm_J} {Wg : List Cond} {M : jm_M} {nl : Nat → Nat} {s : State} (hK : jg_K G J Wg s) {x : Nat} (h : jg_cw M nl Wg x) : ∃ mk methk ck, s.methodNamed? (M x).1 = some mk ∧ s.vm.method? mk = some methk ∧ methk.code = some ck ∧ ck.code = (M x).2.1 ∧ ck.maxLocals = nl x ∧ methk.sig.returnType = (M x).2.2.1 ∧ methk.locks = false ∧
    ck.exceptionTable.toList.map (fun h => (h.startPc, h.endPc, h.handlerPc, h.catchType)) = (M x).2.2.2 ∧ parseMethodDescriptor (M x).1.desc = some methk.sig := by
  rcases h with ⟨h0, h⟩ | h
  · have hw := hK.1 _ h #[]
    obtain ⟨mk, hn⟩ := Cond.code_named hw
    obtain ⟨methk, ck, g1, g2, g3, g4, g5, g6, g7, g8⟩ := Cond.code_spec hn hw
    refine ⟨mk, methk, ck, hn, g1, g2, g3, g4, g5, g6, ?_, g8⟩
    rw [h0]
    have : ck.exceptionTable = #[] := by simpa using g7
    rw [this]
    rfl
  · obtain ⟨mk, methk, ck, g0, g1, g2, g3, g4, g5, g6, g7, g8⟩ := Cond.codeWith_spec (hK.1 _ h #[])
    exact ⟨mk, methk, ck, g0, g1, g2, g3, g4, g6, g7, g5, g8⟩
section JC
variable {p : Program} {l : Launch} {e : Env} {R : Room} {s : State} {m : MethodId} {args : Array Value} {below : List Frame} {meth : Method} {cd : Code} {G : jm_G} {J : jm_J} {nL ns zs : Nat} {Q : jm_Q} {bs : ByteArray} {pc n : Nat} {ins : Instr} {ls : jm_Ls} {st : List jm_V} {h : jm_H} {Wg : List Cond}
theorem jw_into {H : Heap} {U : State} {locs : List Loc} (X : Stand p l e R s m args below meth cd U locs (h.1 - ns) (h.2.1 - zs)) (hU : U.heap = H) (hn : ns ≤ h.1 ∧ zs ≤ h.2.1 ∧ h.1 ≤ R.cells + ns ∧ h.2.1 ≤ R.slots + zs) (hl : ∀ q ∈ locs, G.2.1 ≤ q.base)
    {arr : Array Slot} {rest : List Value} {ig : Instr} (hsize : arr.size = cd.maxLocals) (hdg : decode cd.code pc = .ok (ig, 3)) {mk : MethodId} {methk : Method} {ck : Code} (hmk : U.vm.method? mk = some methk) (hck : methk.code = some ck) (hlk : methk.locks = false) (hpk : U.plainMethod mk)
    {R' : Room} (hRf : R'.frames + 1 ≤ R.frames) (hRl : (rest.map fun v => v.category).sum + (ck.maxLocals + 11) + R'.locals ≤ R.locals) (hRc : R'.cells + h.1 = R.cells + ns) (hRz : R'.slots + h.2.1 = R.slots + zs) (a : Array Value) {Qk : jm_Q}
    (w : W p l e R' (U.calling (F0 m pc arr rest) mk a) mk a (.java (F0 m pc arr rest) :: below) methk ck H [] 0 0 (jg_Z G J R' (U.calling (F0 m pc arr rest) mk a) (.java (F0 m pc arr rest) :: below) h.1 h.2.1 Qk) (entryFrame mk a ck.maxLocals)) {QQ : State → Prop}
    (k1 : ∀ (v : Option jm_V) (h' : jm_H) (T' : State) (locs' : List Loc), Qk (.inl v) h' → Stand p l e R s m args below meth cd T' locs' (h'.1 - ns) (h'.2.1 - zs) → jg_R G J h' T'.heap → (ns ≤ h'.1 ∧ zs ≤ h'.2.1 ∧ h'.1 ≤ R.cells + ns ∧ h'.2.1 ≤ R.slots + zs) → (∀ q ∈ locs', G.2.1 ≤ q.base) → ∃ t, Steps p.tables e below (T'.setTop (F0 m (pc + 3) arr ((v.map (jg_mv G)).toList ++ rest))) t ∧ QQ t)
    (k2 : ∀ (x : Nat) (h' : jm_H) (T' : State) (locs' : List Loc), Qk (.inr x) h' → Stand p l e R s m args below meth cd T' locs' (h'.1 - ns) (h'.2.1 - zs) → jg_R G J h' T'.heap → (ns ≤ h'.1 ∧ zs ≤ h'.2.1 ∧ h'.1 ≤ R.cells + ns ∧ h'.2.1 ≤ R.slots + zs) → (∀ q ∈ locs', G.2.1 ≤ q.base) → (200 ≤ jm_T h' x ∧ jm_T h' x % 2 = 1) → ∃ t, Steps p.tables e below ((T'.setTop (F0 m pc arr rest)).pushFrame (.throwing (jg_ad G x))) t ∧ QQ t) :
    ∃ t, Steps p.tables e below (doInvoke e (U.setTop (F0 m pc arr rest)) [] mk a).1 t ∧ QQ t := by
  obtain ⟨hn1, hn2, hn3, hn4⟩ := hn
  obtain ⟨Y₀, hin⟩ := X.into (g := F0 m pc arr rest) rfl hsize hdg a (R' := R') hmk hck hlk hpk hRf (by show 2 * 0 + (rest.map fun v => v.category).sum + _ + _ ≤ _; omega) (by omega) (by omega)
  have hheap : ((U.setTop (F0 m pc arr rest)).pushFrame (.java (entryFrame mk a ck.maxLocals))).heap = H := by
    rw [← hU]
    simp [State.pushFrame, State.setFrames, State.setTop, State.modifyTopJava]
  obtain ⟨t, stp, o, h', L, hrun, hended, hWe, hsame, hL, ⟨m1, m2, m3, m4⟩, hR', hQ, hxx⟩ := w _ hheap Y₀
  have hl' : ∀ q ∈ locs ++ L, G.2.1 ≤ q.base := fun q hq => by
    rcases List.mem_append.mp hq with h1 | h1
    · exact hl q h1
    · exact hL q h1
  have hc1 : h.1 - ns + (h'.1 - h.1) = h'.1 - ns := by omega
  have hc2 : h.2.1 - zs + (h'.2.1 - h.2.1) = h'.2.1 - zs := by omega
  rw [hin []]
  rcases o with v | x
  · have hended' : Ended t (.java (F0 m pc arr rest) :: below) (.returned (v.map (jg_mv G))) := by cases v <;> exact hended
    obtain ⟨T', X', hW', -, ht⟩ := X.outOf (g := F0 m pc arr rest) rfl hdg hended' hWe hsame
    rw [hc1, hc2] at X'
    have hh : t.heap = T'.heap := by rw [ht]; simp [State.setTop, State.modifyTopJava]
    obtain ⟨t2, st2, q2⟩ := k1 v h' T' (locs ++ L) hQ X' (by rw [← hh]; exact hR') ⟨by omega, by omega, by omega, by omega⟩ hl'
    refine ⟨t2, Steps.trans (Steps.weaken (mid := [.java (F0 m pc arr rest)]) stp) ?_, q2⟩
    rw [ht]
    exact st2
  · obtain ⟨T', X', hW', -, ht⟩ := X.outOfThrown (g := F0 m pc arr rest) rfl hended hWe hsame
    rw [hc1, hc2] at X'
    have hh : t.heap = T'.heap := by rw [ht]; exact Stand.throwing_heap _ _ _
    obtain ⟨t2, st2, q2⟩ := k2 x h' T' (locs ++ L) hQ X' (by rw [← hh]; exact hR') ⟨by omega, by omega, by omega, by omega⟩ hl' (hxx x rfl)
    refine ⟨t2, Steps.trans (Steps.weaken (mid := [.java (F0 m pc arr rest)]) stp) ?_, q2⟩
    rw [ht]
    exact st2
/-- the callee's frame, by the soundness at the next depth -/
theorem jw_enter {M : jm_M} {nl : Nat → Nat} {rm : Nat → Nat × Nat} {w0 : Nat × Nat} {cap zcap x : Nat} {E : Nat → List jm_V → jm_H → jm_Q → Prop} (hS : jg_Snd G J Wg M nl rm cap zcap p l e E) (hg : ∀ w ∈ Wg, jm_goodW w = true) (hx : p.tables.exec = Jvm.exec) (hK : jg_K G J Wg s) {H : Heap} {U : State} {locs : List Loc} (X : Stand p l e R s m args below meth cd U locs (h.1 - ns) (h.2.1 - zs)) (hU : U.heap = H) (hR : jg_R G J h H) (hn : ns ≤ h.1 ∧ zs ≤ h.2.1 ∧ h.1 ≤ R.cells + ns ∧ h.2.1 ≤ R.slots + zs) (hl : ∀ q ∈ locs, G.2.1 ≤ q.base)
    (hRm : jg_Rm w0 R) (hcap : cap ≤ R.cells + ns ∧ zcap ≤ R.slots + zs) {arr : Array Slot} {st : List jm_V} {ig : Instr} (hst : (rm x).1 + 1 ≤ w0.1 ∧ jm_cs st + (nl x + 11) + (rm x).2 ≤ w0.2) (hsize : arr.size = cd.maxLocals) (hdg : decode cd.code pc = .ok (ig, 3)) (hpl : plainFor (M x).1 = true)
    {mk : MethodId} {methk : Method} {ck : Code} (g0 : s.methodNamed? (M x).1 = some mk) (g1 : s.vm.method? mk = some methk) (g2 : methk.code = some ck) (g3 : ck.code = (M x).2.1) (g4 : ck.maxLocals = nl x) (g5 : methk.sig.returnType = (M x).2.2.1) (g6 : methk.locks = false) (g7 : ck.exceptionTable.toList.map (fun h => (h.startPc, h.endPc, h.handlerPc, h.catchType)) = (M x).2.2.2)
    {as : List jm_V} (hc1 : ∀ v ∈ as, ∀ z, v ≠ .inr (.inr z)) {Qk : jm_Q} (hE : E x as h Qk) {QQ : State → Prop}
    (k1 : ∀ (v : Option jm_V) (h' : jm_H) (T' : State) (locs' : List Loc), Qk (.inl v) h' → Stand p l e R s m args below meth cd T' locs' (h'.1 - ns) (h'.2.1 - zs) → jg_R G J h' T'.heap → (ns ≤ h'.1 ∧ zs ≤ h'.2.1 ∧ h'.1 ≤ R.cells + ns ∧ h'.2.1 ≤ R.slots + zs) → (∀ q ∈ locs', G.2.1 ≤ q.base) → ∃ t, Steps p.tables e below (T'.setTop (F0 m (pc + 3) arr ((v.map (jg_mv G)).toList ++ st.map (jg_mv G)))) t ∧ QQ t)
    (k2 : ∀ (x : Nat) (h' : jm_H) (T' : State) (locs' : List Loc), Qk (.inr x) h' → Stand p l e R s m args below meth cd T' locs' (h'.1 - ns) (h'.2.1 - zs) → jg_R G J h' T'.heap → (ns ≤ h'.1 ∧ zs ≤ h'.2.1 ∧ h'.1 ≤ R.cells + ns ∧ h'.2.1 ≤ R.slots + zs) → (∀ q ∈ locs', G.2.1 ≤ q.base) → (200 ≤ jm_T h' x ∧ jm_T h' x % 2 = 1) → ∃ t, Steps p.tables e below ((T'.setTop (F0 m pc arr (st.map (jg_mv G)))).pushFrame (.throwing (jg_ad G x))) t ∧ QQ t) :
    ∃ t, Steps p.tables e below (doInvoke e (U.setTop (F0 m pc arr (st.map (jg_mv G)))) [] mk (as.map (jg_mv G)).toArray).1 t ∧ QQ t := by
  obtain ⟨hf1, hf2⟩ := hRm
  obtain ⟨hn1, hn2, hn3, hn4⟩ := id hn
  have hsum := jg_catsum G st
  have hal := X.warmed.alike
  have hmk : U.vm.method? mk = some methk := by rw [hal.method?]; exact g1
  have hnU : U.methodNamed? (M x).1 = some mk := X.named g0
  refine jw_into (R' := { frames := R.frames - 1, cells := R.cells + ns - h.1, slots := R.slots + zs - h.2.1, locals := R.locals - (jm_cs st + (nl x + 11)) }) X hU hn hl hsize hdg hmk g2 g6 (State.plainMethod.of_named hpl hnU hmk) (by show R.frames - 1 + 1 ≤ _; omega) (by show _ + _ + (R.locals - (jm_cs st + (nl x + 11))) ≤ _; rw [g4]; omega) (by show R.cells + ns - h.1 + h.1 = _; omega) (by show R.slots + zs - h.2.1 + h.2.1 = _; omega) _ ?_ k1 k2
  rw [g4]
  refine hS x as h Qk hE hc1 _ _ mk _ methk ck ⟨hx, g3, g4, ?_, g5, g6, (name_of_methodNamed g0 g1).1, g7⟩ ?_ ⟨by show (rm x).1 ≤ R.frames - 1; omega, by show (rm x).2 ≤ R.locals - (jm_cs st + (nl x + 11)); omega⟩ ⟨by show cap ≤ R.cells + ns - h.1 + h.1; omega, by show zcap ≤ R.slots + zs - h.2.1 + h.2.1; omega⟩ H hR ?_
  · show U.vm.findClass _ = _
    rw [hal.findClass]
    exact findClass_of_methodNamed g0
  · have e1 : (U.calling (F0 m pc arr (st.map (jg_mv G))) mk (as.map (jg_mv G)).toArray).heap = H := by
      rw [← hU]
      simp [State.calling, State.pushFrame, State.setFrames, State.setTop, State.modifyTopJava]
    refine jg_K.moved hg (show s.WarmedH U.vm from X.warmed) ⟨fun q hq => ?_, fun q cell hq hc => ?_⟩ hK
    · rw [e1]
      exact hR.1.2.2.2 q hq
    · rw [e1] at hc
      exact hR.plain hq hc
  · rw [← hU]
    simp [State.calling, State.pushFrame, State.setFrames, State.setTop, State.modifyTopJava]
/-- what is asked of a throw in a frame that stands at pc -/
def jg_T (p : Program) (l : Launch) (e : Env) (R : Room) (s : State) (m : MethodId) (args : Array Value) (below : List Frame) (meth : Method) (cd : Code) (G : jm_G) (J : jm_J) (nL ns zs : Nat) (Q : jm_Q) (hd : Nat → Nat → Option Nat) (pc : Nat) : Prop :=
  ∀ (x : Nat) (ls : jm_Ls) (h : jm_H) (T : State) (locs : List Loc) (arr : Array Slot) (rest : List Value), jo_thr (jg_P p l e R s m args below meth cd G J nL ns zs Q) Q ls h hd pc x → Stand p l e R s m args below meth cd T locs (h.1 - ns) (h.2.1 - zs) → jg_R G J h T.heap → (ns ≤ h.1 ∧ zs ≤ h.2.1 ∧ h.1 ≤ R.cells + ns ∧ h.2.1 ≤ R.slots + zs) → (∀ q ∈ locs, G.2.1 ≤ q.base) → jg_Ls G arr nL ls → (200 ≤ jm_T h x ∧ jm_T h x % 2 = 1) →
    ∃ t, Steps p.tables e below ((T.setTop (F0 m pc arr rest)).pushFrame (.throwing (jg_ad G x))) t ∧ jg_Z G J R s below ns zs Q t
theorem jw_callS {M : jm_M} {nl : Nat → Nat} {rm : Nat → Nat × Nat} {w0 : Nat × Nat} {cap zcap x y : Nat} {E : Nat → List jm_V → jm_H → jm_Q → Prop} {hd : Nat → Nat → Option Nat} (hS : jg_Snd G J Wg M nl rm cap zcap p l e E) (hg : ∀ w ∈ Wg, jm_goodW w = true) (hx : p.tables.exec = Jvm.exec) (hb : cd.code = bs) (hml : cd.maxLocals = nL) (hK : jg_K G J Wg s) (hRm : jg_Rm w0 R) (hcap : cap ≤ R.cells + ns ∧ zcap ≤ R.slots + zs)
    {own : String} {idx : Nat} (hown : s.vm.findClass own = some m.cls) (hcw : jg_cw M nl Wg x) (hlink : Cond.methodLink own idx (M x).1 ∈ Wg) (hstat : Cond.static (M x).1 ∈ Wg) (hini : Cond.initialized (M x).1.cls ∈ Wg) (hy : (M x).1.cls ≠ "java/lang/invoke/MethodHandle" ∧ (M x).1.cls ≠ "java/lang/invoke/VarHandle") (hpl : plainFor (M x).1 = true) (hpar : (parseMethodDescriptor (M x).1.desc).map (fun d => d.parameters.length) = some y)
    (hdc : decode bs pc = .ok (.invokestatic idx, 3)) (hT : jg_T p l e R s m args below meth cd G J nL ns zs Q hd pc) (z : jo_call (jg_P p l e R s m args below meth cd G J nL ns zs Q) Q (pc + 3) ls st h E hd pc x y 0 (nl x) (rm x) w0) : jg_P p l e R s m args below meth cd G J nL ns zs Q (pc, ls, st, h) := by
  intro H locs arr hR hn hl hL
  replace hR : jg_R G J h H := hR
  replace hn : ns ≤ h.1 ∧ zs ≤ h.2.1 ∧ h.1 ≤ R.cells + ns ∧ h.2.1 ≤ R.slots + zs := hn
  replace hL : jg_Ls G arr nL ls := hL
  obtain ⟨hy1, hst, hc1, -, hE⟩ := z
  intro T hTH X
  obtain ⟨mk, methk, ck, g0, g1, g2, g3, g4, g5, g6, g7, g8⟩ := jg_callee hK hcw
  have hlen : (((st.take y).reverse).map (jg_mv G)).length = methk.sig.parameters.length := by
    rw [g8] at hpar
    have h9 : methk.sig.parameters.length = y := Option.some.inj hpar
    simp only [List.length_map, List.length_reverse, List.length_take]
    omega
  have hstk : st.map (jg_mv G) = (((st.take y).reverse).map (jg_mv G)).reverse ++ (st.drop y).map (jg_mv G) := by
    rw [← List.map_reverse, List.reverse_reverse, ← List.map_append, List.take_append_drop]
  obtain ⟨kP, hkP, -⟩ := className_of_methodNamed g0
  obtain ⟨vm₁, X₁, hstep⟩ := X.invokestatic hx hown (hK.1 _ hlink args) g0 g1 (Cond.static_spec g0 g1 (hK.1 _ hstat args)) hkP (Cond.initialized_spec (findClass_of_methodNamed g0) hkP (hK.1 _ hini args)) hy (g := F0 m pc arr (st.map (jg_mv G))) rfl (argsL := ((st.take y).reverse).map (jg_mv G)) (rest := (st.drop y).map (jg_mv G)) hlen hstk (by rw [hb]; exact hdc)
  obtain ⟨t, s1, q1⟩ := jw_enter hS hg hx hK X₁ (show (T.setVm vm₁).heap = H from hTH) hR hn hl hRm hcap (st := st.drop y) hst (by rw [hml]; exact hL.1) (by rw [hb]; exact hdc) hpl g0 g1 g2 g3 g4 g5 g6 g7 (as := (st.take y).reverse) (fun v hv => hc1 v (List.mem_reverse.mp hv)) hE (QQ := jg_Z G J R s below ns zs Q)
    (fun v h' T' locs' hq X' hR' hn' hl' => by
      cases v with
      | none => exact hq T'.heap locs' arr hR' hn' hl' hL T' rfl X'
      | some v => exact hq T'.heap locs' arr hR' hn' hl' hL T' rfl X')
    (fun x h' T' locs' hq X' hR' hn' hl' hxx => hT x ls h' T' locs' arr _ hq X' hR' hn' hl' hL hxx)
  exact ⟨t, hstep t (fun acts => by rw [doInvoke_state]; exact s1), q1⟩
theorem jm_recv {st : List jm_V} {y a : Nat} (h : (st.take y).getLast? = some (.inr (.inl a))) : ∃ tl, (st.take y).reverse = .inr (.inl a) :: tl ∧ st.take y = tl.reverse ++ [.inr (.inl a)] := by
  have e : (st.take y).reverse.head? = some (.inr (.inl a)) := by rw [List.head?_reverse]; exact h
  cases hr : (st.take y).reverse with
  | nil => rw [hr] at e; cases e
  | cons v tl =>
    rw [hr] at e
    cases e
    refine ⟨tl, rfl, ?_⟩
    have := congrArg List.reverse hr
    rw [List.reverse_reverse] at this
    rw [this]
    simp
theorem jw_callV {M : jm_M} {nl : Nat → Nat} {rm : Nat → Nat × Nat} {w0 : Nat × Nat} {cap zcap x y t : Nat} {E : Nat → List jm_V → jm_H → jm_Q → Prop} {hd : Nat → Nat → Option Nat} (hS : jg_Snd G J Wg M nl rm cap zcap p l e E) (hg : ∀ w ∈ Wg, jm_goodW w = true) (hx : p.tables.exec = Jvm.exec) (hb : cd.code = bs) (hml : cd.maxLocals = nL) (hK : jg_K G J Wg s) (hJ : jg_J J Wg) (hRm : jg_Rm w0 R) (hcap : cap ≤ R.cells + ns ∧ zcap ≤ R.slots + zs)
    {own : String} {idx : Nat} (hown : s.vm.findClass own = some m.cls) {q : vw_C} (ht0 : 0 < t) (hq : J.1[t]? = some q) (hqc : q.1 = (M x).1.cls) (hcw : jg_cw M nl Wg x) (hlink : Cond.methodLink own idx (M x).1 ∈ Wg) (hinst : Cond.instanceMethod (M x).1 ∈ Wg) (hsel : Cond.selects q.1 (M x).1 (M x).1 ∈ Wg) (hy : (M x).1.cls ≠ "java/lang/invoke/MethodHandle" ∧ (M x).1.cls ≠ "java/lang/invoke/VarHandle") (hpl : plainFor (M x).1 = true) (hpar : (parseMethodDescriptor (M x).1.desc).map (fun d => d.parameters.length + 1) = some y)
    (hdc : decode bs pc = .ok (.invokevirtual idx, 3)) (hT : jg_T p l e R s m args below meth cd G J nL ns zs Q hd pc) (z : jo_call (jg_P p l e R s m args below meth cd G J nL ns zs Q) Q (pc + 3) ls st h E hd pc x y t (nl x) (rm x) w0) : jg_P p l e R s m args below meth cd G J nL ns zs Q (pc, ls, st, h) := by
  intro H locs arr hR hn hl hL
  replace hR : jg_R G J h H := hR
  replace hn : ns ≤ h.1 ∧ zs ≤ h.2.1 ∧ h.1 ≤ R.cells + ns ∧ h.2.1 ≤ R.slots + zs := hn
  replace hL : jg_Ls G arr nL ls := hL
  obtain ⟨hy1, hst, hc1, hrc, hE⟩ := z
  obtain ⟨t, rfl⟩ : ∃ t', t = t' + 1 := ⟨t - 1, by omega⟩
  obtain ⟨b, hb1, hb2⟩ := hrc
  obtain ⟨tl, htl, htk⟩ := jm_recv hb1
  intro T hTH X
  obtain ⟨mk, methk, ck, g0, g1, g2, g3, g4, g5, g6, g7, g8⟩ := jg_callee hK hcw
  have hy2 : tl.length + 1 = y := by
    have := congrArg List.length htk
    simp only [List.length_take, List.length_append, List.length_reverse, List.length_cons, List.length_nil] at this
    omega
  have hlen : (tl.map (jg_mv G)).length = methk.sig.parameters.length := by
    rw [g8] at hpar
    have h9 : methk.sig.parameters.length + 1 = y := Option.some.inj hpar
    simp only [List.length_map]
    omega
  obtain ⟨ht60, -⟩ := hJ (t + 1) q ht0 hq
  obtain ⟨hp1, hp2⟩ := hR.pos hb2 (by omega) (by omega)
  have hb2' : (h.2.2 b).1 = t + 1 := hb2
  obtain ⟨q', hq', cellB, c1, c2, c3, -⟩ := (hR.at hb2 (by omega) (by omega)).obj (by omega)
  rw [hb2'] at c2
  have hcls := (hK.2.1 (t + 1) q ht0 hq).2.1
  have hstk : st.map (jg_mv G) = (tl.map (jg_mv G)).reverse ++ .ref (G.2.1 + (b - 2)) :: (st.drop y).map (jg_mv G) := by
    rw [← jg_mv_obj G hp1, ← List.map_reverse]
    conv => lhs; rw [← List.take_append_drop y st, htk]
    simp
  have hinst' := hK.1 _ hinst args
  obtain ⟨mk', methM, hnamed, hmethM, hstM, habM⟩ := Cond.instanceMethod_spec hinst'
  cases g0.symm.trans hnamed
  cases g1.symm.trans hmethM
  obtain ⟨c2', r2, m2, q1, q2, q3, q4, kP, hkP, hkPi⟩ := Cond.selects_spec (hK.1 _ hsel args)
  have e1 : c2' = G.2.2.2.1.1 (t + 1) := Option.some.inj (q1.symm.trans hcls)
  subst e1
  cases (State.methodFound?_of_named g0 hy).symm.trans q2
  cases g0.symm.trans q3
  have hselP : selectMethod e.platform s.vm cellB.cls mk = .method mk := by rw [c2, Launch.admits_selectMethod X.admits]; exact q4
  obtain ⟨vm₁, X₁, hstep⟩ := X.invokevirtual hx hown (hK.1 _ hlink args) g0 g1 hstM hkP hkPi hy (a := G.2.1 + (b - 2)) (cell := cellB) (by rw [hTH]; exact c1) (fun z h => by rw [c3] at h; cases h) hselP g1 habM hkP hkPi (g := F0 m pc arr (st.map (jg_mv G))) rfl (argsL := tl.map (jg_mv G)) (rest := (st.drop y).map (jg_mv G)) hlen hstk (by rw [hb]; exact hdc)
  have hargs : (Value.ref (G.2.1 + (b - 2)) :: tl.map (jg_mv G)).toArray = (((st.take y).reverse).map (jg_mv G)).toArray := by
    rw [htl, List.map_cons, jg_mv_obj G hp1]
  rw [hargs] at hstep
  obtain ⟨t', s1, q1⟩ := jw_enter hS hg hx hK X₁ (show (T.setVm vm₁).heap = H from hTH) hR hn hl hRm hcap (st := st.drop y) hst (by rw [hml]; exact hL.1) (by rw [hb]; exact hdc) hpl g0 g1 g2 g3 g4 g5 g6 g7 (as := (st.take y).reverse) (fun v hv => hc1 v (List.mem_reverse.mp hv)) hE (QQ := jg_Z G J R s below ns zs Q)
    (fun v h' T' locs' hq X' hR' hn' hl' => by
      cases v with
      | none => exact hq T'.heap locs' arr hR' hn' hl' hL T' rfl X'
      | some v => exact hq T'.heap locs' arr hR' hn' hl' hL T' rfl X')
    (fun x h' T' locs' hq X' hR' hn' hl' hxx => hT x ls h' T' locs' arr _ hq X' hR' hn' hl' hL hxx)
  exact ⟨t', hstep t' (fun acts => by rw [doInvoke_state]; exact s1), q1⟩
theorem jw_callI {M : jm_M} {nl : Nat → Nat} {rm : Nat → Nat × Nat} {w0 : Nat × Nat} {cap zcap x y t : Nat} {E : Nat → List jm_V → jm_H → jm_Q → Prop} {hd : Nat → Nat → Option Nat} (hS : jg_Snd G J Wg M nl rm cap zcap p l e E) (hg : ∀ w ∈ Wg, jm_goodW w = true) (hx : p.tables.exec = Jvm.exec) (hb : cd.code = bs) (hml : cd.maxLocals = nL) (hK : jg_K G J Wg s) (hRm : jg_Rm w0 R) (hcap : cap ≤ R.cells + ns ∧ zcap ≤ R.slots + zs)
    {own : String} {idx : Nat} (hown : s.vm.findClass own = some m.cls) (ht0 : 0 < t) (ht6 : t < 60) (hnm : (M x).1.name = "<init>") (hcode : Cond.code (M x).1 (M x).2.1 (nl x) none ∈ Wg) (hcw : jg_cw M nl Wg x) (hlink : Cond.methodLink own idx (M x).1 ∈ Wg) (hinst : Cond.instanceMethod (M x).1 ∈ Wg) (hy : (M x).1.cls ≠ "java/lang/invoke/MethodHandle" ∧ (M x).1.cls ≠ "java/lang/invoke/VarHandle") (hpl : plainFor (M x).1 = true) (hpar : (parseMethodDescriptor (M x).1.desc).map (fun d => d.parameters.length + 1) = some y)
    (hdc : decode bs pc = .ok (.invokespecial idx, 3)) (hT : jg_T p l e R s m args below meth cd G J nL ns zs Q hd pc) (z : jo_call (jg_P p l e R s m args below meth cd G J nL ns zs Q) Q (pc + 3) ls st h E hd pc x y t (nl x) (rm x) w0) : jg_P p l e R s m args below meth cd G J nL ns zs Q (pc, ls, st, h) := by
  intro H locs arr hR hn hl hL
  replace hR : jg_R G J h H := hR
  replace hn : ns ≤ h.1 ∧ zs ≤ h.2.1 ∧ h.1 ≤ R.cells + ns ∧ h.2.1 ≤ R.slots + zs := hn
  replace hL : jg_Ls G arr nL ls := hL
  obtain ⟨hy1, hst, hc1, hrc, hE⟩ := z
  obtain ⟨t, rfl⟩ : ∃ t', t = t' + 1 := ⟨t - 1, by omega⟩
  obtain ⟨b, hb1, hb2⟩ := hrc
  obtain ⟨tl, htl, htk⟩ := jm_recv hb1
  intro T hTH X
  have hpl0 : e.platform.magicAccessors = ({} : Platform).magicAccessors := by rw [X.admits.platform]
  obtain ⟨mk, methk, ck, g0, g1, g2, g3, g4, g5, g6, g7, g8⟩ := jg_callee hK hcw
  obtain ⟨hp1, hp2⟩ := hR.pos hb2 (by omega) (by omega)
  have hy2 : tl.length + 1 = y := by
    have := congrArg List.length htk
    simp only [List.length_take, List.length_append, List.length_reverse, List.length_cons, List.length_nil] at this
    omega
  have hstk : st.map (jg_mv G) = (tl.map (jg_mv G)).reverse ++ .ref (G.2.1 + (b - 2)) :: (st.drop y).map (jg_mv G) := by
    rw [← jg_mv_obj G hp1, ← List.map_reverse]
    conv => lhs; rw [← List.take_append_drop y st, htk]
    simp
  obtain ⟨mk', methM, cM, kP, vm₁, hnamed, hmethM, -, -, -, -, -, -, hW₁, hstep⟩ := Steps.initColdArgs (e := e) X.here hx X.warmed hpl0 hown hnm hy (hK.1 _ hlink args) (hK.1 _ hinst args) (hK.1 _ hcode args) (f := F0 m pc arr (st.map (jg_mv G))) rfl (argsL := tl.map (jg_mv G)) (rest := (st.drop y).map (jg_mv G))
    (fun sig hs => by
      rw [hs] at hpar
      have h9 : sig.parameters.length + 1 = y := Option.some.inj hpar
      simp only [List.length_map]
      omega) hstk (by rw [hb]; exact hdc)
  cases g0.symm.trans hnamed
  have X₁ := X.noted hW₁
  have hargs : (Value.ref (G.2.1 + (b - 2)) :: tl.map (jg_mv G)).toArray = (((st.take y).reverse).map (jg_mv G)).toArray := by
    rw [htl, List.map_cons, jg_mv_obj G hp1]
  rw [hargs] at hstep
  obtain ⟨t', s1, q1⟩ := jw_enter hS hg hx hK X₁ (show (T.setVm vm₁).heap = H from hTH) hR hn hl hRm hcap (st := st.drop y) hst (by rw [hml]; exact hL.1) (by rw [hb]; exact hdc) hpl g0 g1 g2 g3 g4 g5 g6 g7 (as := (st.take y).reverse) (fun v hv => hc1 v (List.mem_reverse.mp hv)) hE (QQ := jg_Z G J R s below ns zs Q)
    (fun v h' T' locs' hq X' hR' hn' hl' => by
      cases v with
      | none => exact hq T'.heap locs' arr hR' hn' hl' hL T' rfl X'
      | some v => exact hq T'.heap locs' arr hR' hn' hl' hL T' rfl X')
    (fun x h' T' locs' hq X' hR' hn' hl' hxx => hT x ls h' T' locs' arr _ hq X' hR' hn' hl' hL hxx)
  exact ⟨t', hstep t' (fun acts => by rw [doInvoke_state]; exact s1), q1⟩
end JC
