/-! Exceptions in the abstract machine's words. -/
section JX
variable {p : Program} {l : Launch} {e : Env} {R : Room} {s : State} {m : MethodId} {args : Array Value} {below : List Frame} {meth : Method} {cd : Code} {G : jm_G} {J : jm_J} {nL ns zs : Nat} {Q : jm_Q} {bs : ByteArray} {pc n : Nat} {ins : Instr} {ls : jm_Ls} {st : List jm_V} {h : jm_H} {Wg : List Cond}
theorem jw_irem (hx : p.tables.exec = Jvm.exec) (hb : cd.code = bs) (hd : decode bs pc = .ok (.irem, 1)) (z : jo_irem (jg_P p l e R s m args below meth cd G J nL ns zs Q) (pc + 1) ls st h) : jg_P p l e R s m args below meth cd G J nL ns zs Q (pc, ls, st, h) := by
  intro H locs arr hR hn hl hL
  unfold jo_irem at z
  split at z
  · obtain ⟨h0, z⟩ := z
    exact lv_irem hx hb hd h0 (z H locs arr hR hn hl hL)
  · exact z.elim
theorem jw_xnew (hx : p.tables.exec = Jvm.exec) (hb : cd.code = bs) (hK : jg_K G J Wg s) {own nm : String} {idx t c z0 : Nat} (hown : s.vm.findClass own = some m.cls) (ht : 200 ≤ t) (ht2 : t % 2 = 0) (hnm : J.2.2.2 t = some nm) (hcl : Cond.classLink own idx nm ∈ Wg) (hins : Cond.instantiable nm 6 ∈ Wg) (hini : Cond.initialized nm ∈ Wg)
    (hRc : c ≤ R.cells + ns) (hRz : z0 ≤ R.slots + zs) (hd : decode bs pc = .ok (.new idx, 3)) (z : jo_new (jg_P p l e R s m args below meth cd G J nL ns zs Q) (pc + 3) ls st h t 6 c z0) : jg_P p l e R s m args below meth cd G J nL ns zs Q (pc, ls, st, h) := by
  intro H locs arr hR hn hl hL
  replace hR : jg_R G J h H := hR
  replace hL : jg_Ls G arr nL ls := hL
  obtain ⟨z1, z2, z⟩ := z
  have hts : ∀ w ∈ Wg, w.before args s = true := fun w hw => hK.1 w hw args
  obtain ⟨hn1, hn2, hn3, hn4⟩ : ns ≤ h.1 ∧ zs ≤ h.2.1 ∧ h.1 ≤ R.cells + ns ∧ h.2.1 ≤ R.slots + zs := hn
  have hsz : H.size = G.2.1 + (h.1 - 2) := hR.1.2.1
  obtain ⟨k, f1, f2, f3⟩ := hK.2.2.2.2.2.2.1 t nm hnm
  refine W.newcK hx hb hown (hts _ hcl) (hts _ hins) (hts _ hini) rfl hd (by show h.1 - ns + 1 ≤ _; omega) (by show h.2.1 - zs + 6 ≤ _; omega) f1 rfl fun H' kC hkC g1 g2 g3 => ?_
  have hkk : kC = k := Option.some.inj (hkC.symm.trans f2)
  subst hkk
  have hR' : jg_R G J (jm_new h t 0 6) H' := hR.push g2 g3 (jg_at.mk0 ht ht2 ⟨⟨nm, hnm⟩, by rw [g1]; show some ({ cls := _, slots := kC.instanceTypes.map defaultValue, vm := .none } : Cell) = _; rw [f3]⟩)
  have w := z H' locs arr hR' ⟨by show ns ≤ h.1 + 1; omega, by show zs ≤ h.2.1 + 6; omega, by show h.1 + 1 ≤ _; omega, by show h.2.1 + 6 ≤ _; omega⟩ hl hL
  have em : jg_mv G (.inr (.inl h.1)) = .ref H.size := by rw [jg_mv_obj G hR.1.1, hsz]
  have w' : W p l e R s m args below meth cd H' locs (h.1 + 1 - ns) (h.2.1 + 6 - zs) (jg_Z G J R s below ns zs Q) (F0 m (pc + 3) arr (jg_mv G (.inr (.inl h.1)) :: st.map (jg_mv G))) := w
  rw [em] at w'
  exact W.cs (by show h.1 - ns + 1 = h.1 + 1 - ns; omega) (by show h.2.1 - zs + 6 = h.2.1 + 6 - zs; omega) w'
theorem jw_xinit (hx : p.tables.exec = Jvm.exec) (hb : cd.code = bs) (hml : cd.maxLocals = nL) (h0 : jg_0 G) (hl0 : l.stackTraces = false) (hK : jg_K G J Wg s) {own cls : String} {names : List String} {ic t : Nat} {w0 : Nat × Nat} (hown : s.vm.findClass own = some m.cls) (ht : 200 ≤ t) (ht2 : t % 2 = 0) (hnm : J.2.2.2 t = some cls)
    (hcls : Bundle.fit cls = true) (hnames : ∀ n ∈ names, Bundle.fit n = true) (hnl : names.length = 2) (hat : ∀ a ∈ Bundle.ownAtoms0 own ic cls names, a ∈ Wg ∨ a ∈ jx_st) (hRf : w0.1 ≤ R.frames) (hRl : w0.2 ≤ R.locals) (hd : decode bs pc = .ok (.invokespecial ic, 3))
    (z : jo_xinit (jg_P p l e R s m args below meth cd G J nL ns zs Q) (pc + 3) ls st h t w0) : jg_P p l e R s m args below meth cd G J nL ns zs Q (pc, ls, st, h) := by
  intro H locs arr hR hn hl hL
  replace hR : jg_R G J h H := hR
  replace hL : jg_Ls G arr nL ls := hL
  unfold jo_xinit at z
  split at z
  · rename_i a st
    obtain ⟨hta, ⟨hw1, hw2⟩, z⟩ := z
    have hta' : (h.2.2 a).1 = t := hta
    obtain ⟨hp1, hp2⟩ := hR.pos hta (by omega) (by omega)
    obtain ⟨-, hc0⟩ := (hR.at hta (by omega) (by omega)).ex0 (by omega) (by omega)
    rw [hta'] at hc0
    have hsum := jg_catsum G st
    intro T hTH X
    have htr : e.platform.stackTraces = false := by rw [X.admits.platform]; exact hl0
    obtain ⟨k, f1, f2, f3⟩ := hK.2.2.2.2.2.2.1 t cls hnm
    have hplain := hK.2.2.2.2.2.2.2.2.2
    obtain ⟨vm', ce, L, e1, e2, e3, X', stp⟩ := jx_ctor X hx htr hown hcls hnames (fun a ha => by
        rcases hat a ha with hw | hw
        · exact hK.1 a hw args
        · exact jx_words h0 hK a hw) (fun x hx cell hc => by rw [hplain x.base cell (hl x hx) hc]; rfl) f1 f2 (a := G.2.1 + (a - 2)) (by rw [hTH, hc0, ← f3]) (fun cell hc => hplain _ cell (Nat.le_add_right _ _) hc)
        (g := F0 m pc arr (.ref (G.2.1 + (a - 2)) :: st.map (jg_mv G))) rfl (by rw [hml]; exact hL.1) (rest := st.map (jg_mv G)) rfl (by rw [hb]; exact hd) (by omega) (by show 2 * 0 + _ + _ ≤ _; omega)
    have hlt : G.2.1 + (a - 2) < H.size := (Array.getElem?_eq_some_iff.mp hc0).1
    have hheap : ((T.setVm vm').setCell (G.2.1 + (a - 2)) ce).heap = H.setIfInBounds (G.2.1 + (a - 2)) ce := by rw [← hTH]; rfl
    have ea : (jm_sT h a (t + 1)).2.2 a = (t + 1, (h.2.2 a).2) := jm_up_self _ _ _
    obtain ⟨t', s1, q1⟩ := z (H.setIfInBounds (G.2.1 + (a - 2)) ce) (locs ++ L) arr (hR.upd hp1 hp2 rfl (fun r hr => jm_up_ne _ _ hr) (by simp) (fun q hq => by simp [Array.getElem?_setIfInBounds, Ne.symm hq]) (jg_at.mk1 (by rw [ea]; show 200 ≤ t + 1; omega) (by rw [ea]; show ¬ (t + 1) % 2 = 0; omega) (by
        rw [ea]
        show (∃ nm, J.2.2.2 (t + 1 - 1) = some nm) ∧ ∃ cell, (H.setIfInBounds (G.2.1 + (a - 2)) ce)[G.2.1 + (a - 2)]? = some cell ∧ cell.cls = (G.2.2.2.2.2.2.2.1 (t + 1 - 1)).1 ∧ cell.vm = .none
        rw [Nat.add_sub_cancel]
        exact ⟨⟨cls, hnm⟩, ce, by simp [Array.getElem?_setIfInBounds, hlt], e1, e2⟩))) hn (fun q hq => by
        rcases List.mem_append.mp hq with h1 | h1
        · exact hl q h1
        · rw [e3 q h1]; exact Nat.le_add_right _ _) hL _ hheap X'
    refine ⟨t', ?_, q1⟩
    show Steps p.tables e below (T.setTop (F0 m pc arr (jg_mv G (.inr (.inl a)) :: st.map (jg_mv G)))) t'
    rw [jg_mv_obj G hp1]
    exact stp t' s1
  · exact z.elim
theorem jw_athrow (hx : p.tables.exec = Jvm.exec) (hb : cd.code = bs) {hd : Nat → Nat → Option Nat} (hdc : decode bs pc = .ok (.athrow, 1)) (hT : jg_T p l e R s m args below meth cd G J nL ns zs Q hd pc) (z : jo_athrow (jg_P p l e R s m args below meth cd G J nL ns zs Q) Q ls st h hd pc) : jg_P p l e R s m args below meth cd G J nL ns zs Q (pc, ls, st, h) := by
  intro H locs arr hR hn hl hL
  replace hR : jg_R G J h H := hR
  replace hn : ns ≤ h.1 ∧ zs ≤ h.2.1 ∧ h.1 ≤ R.cells + ns ∧ h.2.1 ≤ R.slots + zs := hn
  replace hL : jg_Ls G arr nL ls := hL
  unfold jo_athrow at z
  split at z
  · rename_i a st
    obtain ⟨t1, t2, z⟩ := z
    obtain ⟨hp1, hp2⟩ := hR.pos (rfl : jm_T h a = jm_T h a) (by omega) (by omega)
    intro T hTH X
    obtain ⟨t, s1, q1⟩ := hT a ls h T locs arr (st.map (jg_mv G)) z X (by rw [hTH]; exact hR) hn hl hL ⟨t1, t2⟩
    refine ⟨t, ?_, q1⟩
    have ead : jg_ad G a = G.2.1 + (a - 2) := by simp [jg_ad, show a ≠ 1 by omega]
    rw [ead] at s1
    show Steps p.tables e below (T.setTop (F0 m pc arr (jg_mv G (.inr (.inl a)) :: st.map (jg_mv G)))) t
    rw [jg_mv_obj G hp1]
    jvm_step X.here [hx, hb, hdc, athrow.wp_sem]
    exact s1
  · exact z.elim
theorem jw_T {M : jm_M} {nl : Nat → Nat} {mi : Nat} (hF : jg_Fr M nl mi p s m meth cd) (hK : jg_K G J Wg s) {ct : Nat → Nat → Bool}
    (hC : ∀ q ∈ (M mi).2.2.2, q.2.2.2 ≠ 0 ∧ ∃ C, Cond.classLink (M mi).1.cls q.2.2.2 C ∈ Wg ∧ ∀ t nm, J.2.2.2 t = some nm → ∃ c c', G.2.2.2.2.2.2.2.2.vm.findClass nm = some c ∧ G.2.2.2.2.2.2.2.2.vm.findClass C = some c' ∧ G.2.2.2.2.2.2.2.2.vm.assignable c c' = ct q.2.2.2 (t + 1)) :
    jg_T p l e R s m args below meth cd G J (nl mi) ns zs Q (jm_hf ct (M mi).2.2.2) pc := by
  obtain ⟨hx, hb, hml, hown, hr, hlk, hnm, htab⟩ := hF
  intro x ls h T locs arr rest z X hR hn hl hL hxx
  obtain ⟨hp1, hp2⟩ := hR.pos (rfl : jm_T h x = jm_T h x) (by omega) (by omega)
  have ead : jg_ad G x = G.2.1 + (x - 2) := by simp [jg_ad, show x ≠ 1 by omega]
  rw [ead]
  unfold jo_thr at z
  split at z
  · rename_i y hy
    obtain ⟨hy9, z⟩ := z
    obtain ⟨⟨nm, hnm'⟩, cell, hc, hcls, hvm⟩ := (hR.at (rfl : jm_T h x = jm_T h x) (by omega) (by omega)).ex1 hxx.1 (by show ¬ jm_T h x % 2 = 0; omega)
    have htx : (h.2.2 x).1 = jm_T h x := rfl
    rw [htx] at hnm' hcls
    obtain ⟨k, f1, f2, -⟩ := hK.2.2.2.2.2.2.1 _ nm hnm'
    have hal0 := hK.2.2.2.2.2.2.2.1.alike
    have hpl : e.platform.magicAccessors = ({} : Platform).magicAccessors := by rw [X.admits.platform]
    rw [← htab] at hy
    obtain ⟨vm', hw', hgo⟩ := jt_search (e := e) (args := args) (S := (T.setTop (F0 m pc arr rest)).pushFrame (.throwing (G.2.1 + (x - 2)))) (f := F0 m pc arr rest) (a := G.2.1 + (x - 2)) (cell := cell) (own := (M mi).1.cls) (ct := ct) (t := jm_T h x) (y := y) rfl hown hpl (by rw [Stand.throwing_heap]; exact hc) (fun k q => by rw [hvm] at q; cases q) ⟨k, by rw [hcls]; exact f2⟩ hy9 cd.exceptionTable.toList
      (fun z hz => by
        obtain ⟨g1, C, g2, g3⟩ := hC (z.startPc, z.endPc, z.handlerPc, z.catchType) (by rw [← htab]; exact List.mem_map.mpr ⟨z, hz, rfl⟩)
        refine ⟨g1, C, hK.1 _ g2 args, fun c hfc => ?_⟩
        obtain ⟨c1, c2, i1, i2, i3⟩ := g3 _ nm hnm'
        have j1 : c1 = cell.cls := by
          have : s.vm.findClass nm = some c1 := by rw [hal0.findClass]; exact i1
          rw [hcls]
          exact Option.some.inj (this.symm.trans f1)
        have j2 : c2 = c := by
          have : s.vm.findClass C = some c2 := by rw [hal0.findClass]; exact i2
          exact Option.some.inj (this.symm.trans hfc)
        rw [hal0.assignable, ← j1, ← j2, i3]
        show ct z.catchType (jm_T h x - 1 + 1) = _
        rw [show jm_T h x - 1 + 1 = jm_T h x by omega]) hy T.vm X.warmed
    have eS : ((T.setTop (F0 m pc arr rest)).pushFrame (.throwing (G.2.1 + (x - 2)))).setVm T.vm = (T.setTop (F0 m pc arr rest)).pushFrame (.throwing (G.2.1 + (x - 2))) := by
      conv => lhs; rw [← Stand.throwing_vm T (F0 m pc arr rest) (G.2.1 + (x - 2))]
      exact State.setVm_self _
    rw [eS] at hgo
    have X' := X.noted hw'
    obtain ⟨t, s1, q1⟩ := z T.heap locs arr hR hn hl hL (T.setVm vm') rfl X'
    refine ⟨t, jt_caught (cd := cd) (y := y) (vm' := vm') X.here (alike_of X.warmed hw') (fun QQ E d acts => ?_) ?_, q1⟩
    · rw [W.findHandler_eq (meth := meth) (code := cd) (by rw [Stand.throwing_vm]; exact X.method') X.code]
      exact hgo QQ E d acts
    · have e2 : List.map (jg_mv G) [.inr (.inl x)] = [Value.ref (G.2.1 + (x - 2))] := by rw [List.map_cons, jg_mv_obj G hp1]; rfl
      have s1' : Steps p.tables e below ((T.setVm vm').setTop (F0 m y arr (List.map (jg_mv G) [.inr (.inl x)]))) t := s1
      rw [e2] at s1'
      exact s1'
  · rename_i hy
    rw [← htab] at hy
    obtain ⟨hwalk, hrun, hend, hWe, hsame⟩ := X.leaveThrown (G.2.1 + (x - 2)) (g := F0 m pc arr rest) rfl rfl rfl (jt_none cd.exceptionTable.toList hy) hlk
    refine ⟨_, hwalk, .inr x, h, locs, hrun, ?_, hWe, hsame, hl, hn, hR, z, fun a q => by cases q; exact hxx⟩
    show Ended _ below (.threw (jg_ad G x))
    rw [ead]
    exact hend
end JX
