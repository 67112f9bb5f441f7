/-! Throws: into a handler of the frame, or out of it. -/
/-- which handler takes an object of the kind t at pc; 999999: one covers pc and none takes it -/
def jm_hf (ct : Nat → Nat → Bool) : List (Nat × Nat × Nat × Nat) → Nat → Nat → Option Nat
  | [], _, _ => none
  | q :: r, pc, t => if q.1 ≤ pc ∧ pc < q.2.1 then (if ct q.2.2.2 t = true then some q.2.2.1 else some ((jm_hf ct r pc t).getD 999999)) else jm_hf ct r pc t
section JT
variable {p : Program} {l : Launch} {e : Env} {R : Room} {s : State} {m : MethodId} {args : Array Value} {below : List Frame} {meth : Method} {cd : Code} {G : jm_G} {J : jm_J} {nL ns zs : Nat} {Q : jm_Q} {bs : ByteArray} {pc n : Nat} {ins : Instr} {ls : jm_Ls} {st : List jm_V} {h : jm_H} {Wg : List Cond}
theorem jt_class {S : State} {f : JFrame} {a : Addr} {x : ExceptionTableEntry} {t : List ExceptionTableEntry} {c : ClassId} {vm' : Vm} {cell : Cell} (hx : covers x f.pc = true) (h0 : x.catchType ≠ 0)
    (hg : (Jvm.resolveClass f.method.cls x.catchType).Gives e.toSetting S.vm (.ok c) vm') (hsz : vm'.classes.size ≤ S.vm.classes.size) (hcell : S.heap[a]? = some cell) (hobj : ∀ k, cell.vm ≠ .statics k)
    (hk : ∃ k, vm'.classes[cell.cls]? = some k) (hc : ∃ k, vm'.classes[c]? = some k) {QQ : Handler → Pre} {E : CtlPost} {d : Bool} {acts : List Action} :
    wp (findHandler.go f a (x :: t)) QQ E e d acts S ↔ if vm'.assignable cell.cls c = true then QQ (.found x.handlerPc) d acts (S.setVm vm') else wp (findHandler.go f a t) QQ E e d acts (S.setVm vm') := by
  obtain ⟨ha, ht⟩ := hg.op (op := VmOp.resolveClass f.method.cls x.catchType) rfl
  simp only [covers] at hx
  cases hfit : vm'.assignable cell.cls c <;> simp [findHandler.go, hx, h0, ha, ht, hsz, hcell, hobj, hk, hc, hfit, VmOp.dirties, VmOp.acts]
theorem jt_search {S : State} {f : JFrame} {a : Addr} {cell : Cell} {own : String} (hfm : f.method = m) (hown : s.vm.findClass own = some m.cls) (hpl : e.platform.magicAccessors = ({} : Platform).magicAccessors) (hcell : S.heap[a]? = some cell) (hobj : ∀ k, cell.vm ≠ .statics k) (hkc : ∃ k, s.vm.classes[cell.cls]? = some k) {ct : Nat → Nat → Bool} {t y : Nat} (hy : y ≠ 999999) :
    ∀ (hs : List ExceptionTableEntry), (∀ x ∈ hs, x.catchType ≠ 0 ∧ ∃ C, (Cond.classLink own x.catchType C).before args s = true ∧ ∀ c, s.vm.findClass C = some c → s.vm.assignable cell.cls c = ct x.catchType t) →
      jm_hf ct (hs.map (fun h => (h.startPc, h.endPc, h.handlerPc, h.catchType))) f.pc t = some y → ∀ vm0, s.WarmedH vm0 →
      ∃ vm', s.WarmedH vm' ∧ ∀ (QQ : Handler → Pre) (E : CtlPost) (d : Bool) (acts : List Action), wp (findHandler.go f a hs) QQ E e d acts (S.setVm vm0) ↔ QQ (.found y) d acts (S.setVm vm')
  | [], _, h, _, _ => by cases h
  | x :: r, hx, h, vm0, hW => by
    obtain ⟨h0, C, hlink, has⟩ := hx x List.mem_cons_self
    have hr : ∀ z ∈ r, _ := fun z hz => hx z (List.mem_cons_of_mem _ hz)
    simp only [List.map_cons, jm_hf] at h
    by_cases hc : x.startPc ≤ f.pc ∧ f.pc < x.endPc
    · rw [if_pos hc] at h
      have hcov : covers x f.pc = true := by simp [covers, hc.1, hc.2]
      obtain ⟨cc, hfcc, hcl⟩ := Cond.classLink_spec hown hlink e.platform hpl
      obtain ⟨hg1, hw1, -⟩ := State.classEntry (e := e) hW hcl
      generalize vm0.noted m.cls x.catchType (.cls cc) = vm1 at hg1 hw1
      have hal := hw1.alike
      obtain ⟨k, hk, -⟩ := Vm.findClass_spec hfcc
      obtain ⟨k1, hk1, -⟩ := hal.2.2 _ _ hk
      obtain ⟨k2, hk2⟩ := hkc
      obtain ⟨k3, hk3, -⟩ := hal.2.2 _ _ hk2
      have hszz : vm1.classes.size ≤ (S.setVm vm0).vm.classes.size := by
        have e1 := hw1.alike.2.1
        have e2 := hW.alike.2.1
        show vm1.classes.size ≤ vm0.classes.size
        omega
      have hgo := fun (QQ : Handler → Pre) (E : CtlPost) (d : Bool) (acts : List Action) => jt_class (e := e) (S := S.setVm vm0) (f := f) (a := a) (x := x) (t := r) (c := cc) (vm' := vm1) (cell := cell) hcov h0 (by rw [hfm]; exact hg1) hszz hcell hobj ⟨k3, hk3⟩ ⟨k1, hk1⟩ (QQ := QQ) (E := E) (d := d) (acts := acts)
      have hass : vm1.assignable cell.cls cc = ct x.catchType t := (hal.assignable cell.cls cc).trans (has cc hfcc)
      by_cases hct : ct x.catchType t = true
      · rw [if_pos hct] at h
        cases h
        refine ⟨vm1, hw1, fun QQ E d acts => ?_⟩
        rw [hgo, if_pos (by rw [hass]; exact hct), State.setVm_twice]
      · rw [if_neg hct] at h
        have h' : (jm_hf ct (r.map (fun h => (h.startPc, h.endPc, h.handlerPc, h.catchType))) f.pc t).getD 999999 = y := Option.some.inj h
        have h2 : jm_hf ct (r.map (fun h => (h.startPc, h.endPc, h.handlerPc, h.catchType))) f.pc t = some y := by
          cases hj : jm_hf ct (r.map (fun h => (h.startPc, h.endPc, h.handlerPc, h.catchType))) f.pc t with
          | none => rw [hj] at h'; exact absurd h'.symm hy
          | some z => rw [hj] at h'; exact congrArg some h'
        obtain ⟨vm', hw', hi⟩ := jt_search hfm hown hpl hcell hobj ⟨k2, hk2⟩ hy r hr h2 vm1 hw1
        refine ⟨vm', hw', fun QQ E d acts => ?_⟩
        rw [hgo, if_neg (by rw [hass]; exact hct), State.setVm_twice]
        exact hi QQ E d acts
    · rw [if_neg hc] at h
      have hcov : covers x f.pc = false := by
        simp only [covers, Bool.and_eq_false_iff, decide_eq_false_iff_not]
        omega
      obtain ⟨vm', hw', hi⟩ := jt_search hfm hown hpl hcell hobj hkc hy r hr h vm0 hW
      refine ⟨vm', hw', fun QQ E d acts => ?_⟩
      rw [W.findHandler_go_skip hcov]
      exact hi QQ E d acts
theorem jt_none {ct : Nat → Nat → Bool} {t pc : Nat} : ∀ (hs : List ExceptionTableEntry), jm_hf ct (hs.map (fun h => (h.startPc, h.endPc, h.handlerPc, h.catchType))) pc t = none → ∀ x ∈ hs, covers x pc = false
  | [], _, x, hx => by cases hx
  | x :: r, h, z, hz => by
    simp only [List.map_cons, jm_hf] at h
    by_cases hc : x.startPc ≤ pc ∧ pc < x.endPc
    · rw [if_pos hc] at h
      split at h <;> cases h
    · rw [if_neg hc] at h
      rcases List.mem_cons.mp hz with rfl | hz
      · simp only [covers, Bool.and_eq_false_iff, decide_eq_false_iff_not]
        omega
      · exact jt_none r h z hz
/-- a cold search that ends in a handler: one step of the machine -/
theorem jt_caught {T : State} {g : JFrame} {a : Addr} {y : Nat} {vm' : Vm} {target : State} (hat : At T g.method cd below) (hal : T.vm.Alike vm')
    (hf : ∀ (QQ : Handler → Pre) (E : CtlPost) (d : Bool) (acts : List Action), wp (findHandler g a) QQ E e d acts ((T.setTop g).pushFrame (.throwing a)) ↔ QQ (.found y) d acts (((T.setTop g).pushFrame (.throwing a)).setVm vm'))
    (hrest : Steps p.tables e below ((T.setVm vm').setTop { g with pc := y, stack := [.ref a] }) target) : Steps p.tables e below ((T.setTop g).pushFrame (.throwing a)) target := by
  obtain ⟨hgo, hw⟩ := hat.throwing a
  refine Steps.head hgo hw ?_
  have hst : ((stepThrowing e ((T.setTop g).pushFrame (.throwing a)) a (.java g :: T.frames.tail)).1) = (((T.setTop g).pushFrame (.throwing a)).setVm vm').setFrames (.java { g with pc := y, stack := [.ref a] } :: T.frames.tail) := by
    simp only [stepThrowing, searchFrame, vmDo]
    generalize hr : Sem.go _ e false [] ((T.setTop g).pushFrame (.throwing a)) = res
    obtain ⟨as, rfl, ha⟩ := Sem.eq_ok_of hr (a := Handler.found y) (s' := ((T.setTop g).pushFrame (.throwing a)).setVm vm') (acts' := []) (by simp [hf _ _ _ _])
    rfl
  rw [stepThread_throwing (frames_entered hat.top _), hst]
  obtain ⟨g₀, hg⟩ := Option.isSome_iff_exists.mp hat.top
  obtain ⟨r, hr⟩ := State.topJava?_eq_some.mp hg
  have hr' : (T.setVm vm').frames = .java g₀ :: r := hr
  rw [State.setTop_of_frames _ hr'] at hrest
  rw [hr]
  have e1 : (((T.setTop g).pushFrame (.throwing a)).setVm vm').setFrames (.java { g with pc := y, stack := [.ref a] } :: (Frame.java g₀ :: r).tail) = (T.setVm vm').setFrames (.java { g with pc := y, stack := [.ref a] } :: r) := by
    rw [State.pushFrame, State.setTop_of_frames _ hr, State.setFrames_setFrames]
    show ((T.setVm vm').setFrames _).setFrames _ = _
    rw [State.setFrames_setFrames]
    rfl
  rw [e1]
  exact hrest
end JT
