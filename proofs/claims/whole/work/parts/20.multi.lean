/-! An array of thirteen arrays of thirteen numbers, in one instruction. -/
def jy_o (c : ClassId) (h0 i : Nat) : Cell := arrV c 13 (fun j => if j < i then .ref (h0 + 1 + j) else .null)
def jy_i (comp : ClassId) : Cell := arrV comp 13 (fun _ => .int 0)
def jy_f (S : State) (c comp : ClassId) : Nat → State
  | 0 => S.pushCell (jy_o c S.heap.size 0)
  | i + 1 => ((jy_f S c comp i).pushCell (jy_i comp)).setCell S.heap.size (jy_o c S.heap.size (i + 1))
theorem jy_o_set (c : ClassId) (h0 i : Nat) : (jy_o c h0 i).setSlot i (.ref (h0 + 1 + i)) = jy_o c h0 (i + 1) := by
  unfold jy_o
  rw [arrV_store]
  congr 1
  funext j
  unfold updV
  by_cases h : j = i
  · subst h; simp
  · rw [if_neg h]
    show (if j < i then Value.ref (h0 + 1 + j) else Value.null) = _
    by_cases h2 : j < i
    · rw [if_pos h2, if_pos (by omega)]
    · rw [if_neg h2, if_neg (by omega)]
theorem jy_o_zero (c : ClassId) (h0 : Nat) : ({ cls := c, slots := Array.replicate 13 .null, vm := .none } : Cell) = jy_o c h0 0 := by
  rw [arrV_new]
  unfold jy_o
  congr 1
theorem jy_facts (S : State) (c comp : ClassId) : ∀ i, (jy_f S c comp i).heap.size = S.heap.size + 1 + i ∧ (jy_f S c comp i).heap[S.heap.size]? = some (jy_o c S.heap.size i) ∧ (jy_f S c comp i).vm = S.vm ∧ (jy_f S c comp i).slotsUsed = S.slotsUsed + 13 + i * 13
  | 0 => ⟨by simp [jy_f], by simp [jy_f], rfl, by simp [jy_f, jy_o, arrV]⟩
  | i + 1 => by
    obtain ⟨a, b, d, u⟩ := jy_facts S c comp i
    have hlt : S.heap.size < (jy_f S c comp i).heap.size := by omega
    have hb' : ((jy_f S c comp i).pushCell (jy_i comp)).heap[S.heap.size]? = some (jy_o c S.heap.size i) := by rw [State.heap_pushCell_of_lt (h := hlt)]; exact b
    refine ⟨?_, State.heap_setCell_self hb', by simp [jy_f, d], ?_⟩
    · simp [jy_f, State.setCell, a]; omega
    · simp [jy_f, u, jy_i, arrV]; omega
theorem jy_old (S : State) (c comp : ClassId) {a : Addr} (ha : a < S.heap.size) : ∀ i, (jy_f S c comp i).heap[a]? = S.heap[a]?
  | 0 => State.heap_pushCell_of_lt _ _ ha
  | i + 1 => by
    have f1 := (jy_facts S c comp i).1
    show (((jy_f S c comp i).pushCell (jy_i comp)).setCell S.heap.size _).heap[a]? = _
    have hlt : a < (jy_f S c comp i).heap.size := Nat.lt_of_lt_of_le ha (by rw [f1]; omega)
    rw [State.heap_setCell_other (Nat.ne_of_gt ha), State.heap_pushCell_of_lt (h := hlt)]
    exact jy_old S c comp ha i
theorem jy_inner (S : State) (c comp : ClassId) : ∀ i j, j < i → (jy_f S c comp i).heap[S.heap.size + 1 + j]? = some (jy_i comp)
  | 0, _, h => absurd h (Nat.not_lt_zero _)
  | i + 1, j, h => by
    have f1 := (jy_facts S c comp i).1
    show (((jy_f S c comp i).pushCell (jy_i comp)).setCell S.heap.size _).heap[S.heap.size + 1 + j]? = _
    rw [State.heap_setCell_other (show S.heap.size ≠ S.heap.size + 1 + j by omega)]
    by_cases hj : j < i
    · have hlt : S.heap.size + 1 + j < (jy_f S c comp i).heap.size := by omega
      rw [State.heap_pushCell_of_lt (h := hlt)]
      exact jy_inner S c comp i j hj
    · rw [show S.heap.size + 1 + j = (jy_f S c comp i).heap.size by omega]
      exact State.heap_pushCell_size _ _
theorem jy_top (S : State) (f : JFrame) (c comp : ClassId) : ∀ i, jy_f (S.setTop f) c comp i = (jy_f S c comp i).setTop f
  | 0 => rfl
  | i + 1 => by
    show ((jy_f (S.setTop f) c comp i).pushCell _).setCell _ _ = _
    rw [jy_top S f c comp i]
    rfl
section JY
variable {E : CtlPost} {e : Env} {d : Bool} {acts : List Action} {s : State}
theorem jy_newA {c comp : ClassId} {k : Class} {ty : FieldType} {v : Value} (hk : s.vm.classes[c]? = some k) (hkind : k.kind = .array comp ty) (hlim : ¬ 13 > e.platform.arrayLengthLimit) (hheap : ¬ 13 * componentBytes ty > e.platform.maxHeapBytes) (hfit : fits ty v = true) (hdef : v.isDefault = true)
    (h1 : s.heap.size < e.platform.maxCells) (h2 : s.slotsUsed + 13 ≤ e.platform.maxSlots) {QQ : Addr → Pre} (hq : QQ s.heap.size d acts (s.pushCell { cls := c, slots := Array.replicate 13 v, vm := .none })) : wp (Jvm.newArray c 13 v) QQ E e d acts s := by
  have hfits : ∀ i w, (Array.replicate 13 v)[i]? = some w → s.fitsSlot c .none i w = true := by
    intro i w hw
    rw [Array.getElem?_replicate] at hw
    split at hw
    · cases hw; simp [State.fitsSlot, State.slotType?, hk, hkind, hfit]
    · cases hw
  have hda : allocActs (Array.replicate 13 v) s.heap.size acts = acts := by
    have hall : ((Array.replicate 13 v).all (·.isDefault)) = true := by
      rw [Array.all_replicate]; split <;> simp [hdef]
    unfold allocActs
    rw [if_pos hall]
  simp only [Jvm.newArray, Jvm.arrayFits, wp_bind', W.ask, W.ite, hlim, if_false, wp_pure', W.theClass, hk, hkind, hheap, W.alloc, W.stop, Option.some.injEq, exists_eq_left', Array.size_replicate, hda]
  rw [if_neg (by omega)]
  exact ⟨h1, h2, hfits, hq⟩
theorem jy_make {c comp cc : ClassId} {k kc : Class} (hk : s.vm.classes[c]? = some k) (hkind : k.kind = .array comp (.array .int)) (hkc : s.vm.classes[comp]? = some kc) (hkindc : kc.kind = .array cc .int)
    (hlim : ¬ 13 > e.platform.arrayLengthLimit) (hheap : ¬ 13 * 4 > e.platform.maxHeapBytes) (hc : s.heap.size + 14 ≤ e.platform.maxCells) (hs : s.slotsUsed + 182 ≤ e.platform.maxSlots)
    {QQ : Addr → Pre} (hq : ∀ d' acts', QQ s.heap.size d' acts' (jy_f s c comp 13)) : wp (multianewarray.make c [13, 13]) QQ E e d acts s := by
  have h13 : ¬ (13 : Int32) < 0 := by decide
  have hn13 : (13 : Int32).toNatClampNeg = 13 := by decide
  have hfind : ([(13 : Int32)].find? (· < 0)) = none := by decide
  rw [multianewarray.make]
  simp only [wp_bind', W.ite, h13, if_false, wp_pure', W.theClass, hk, hkind, Option.some.injEq, exists_eq_left', hn13]
  refine jy_newA hk hkind hlim hheap rfl rfl (by omega) (by omega) ?_
  simp only [hfind]
  rw [ite_self, wp_bind', Std.Legacy.Range.forIn_eq_forIn_range']
  have hsz : ([:13] : Std.Legacy.Range).size = 13 := by simp [Std.Legacy.Range.size]
  rw [hsz]
  show wp (forIn (List.range' 0 13 1) PUnit.unit _) _ E e d acts _
  refine wp_forIn_inv (fun rest s' => ∃ i, i ≤ 13 ∧ rest = List.range' i (13 - i) ∧ s' = jy_f s c comp i) _ _ ⟨0, Nat.zero_le _, rfl, by rw [jy_o_zero c s.heap.size]; rfl⟩ ?_ ?_
  · rintro x rest s' d' acts' Q' ⟨i, hi, hl, rfl⟩ hnext
    have hlt : i < 13 := by
      rcases Nat.lt_or_ge i 13 with h | h
      · exact h
      · rw [show 13 - i = 0 from by omega] at hl; simp at hl
    obtain ⟨rfl, hrest⟩ : x = i ∧ rest = List.range' (i + 1) (13 - (i + 1)) := by
      rw [show 13 - i = (13 - (i + 1)) + 1 from by omega, List.range'_succ] at hl
      exact ⟨(List.cons.inj hl).1, (List.cons.inj hl).2⟩
    obtain ⟨f1, f2, f3, f4⟩ := jy_facts s c comp x
    simp only [wp_bind']
    rw [multianewarray.make]
    simp only [wp_bind', W.ite, h13, if_false, wp_pure', W.theClass, f3, hkc, hkindc, Option.some.injEq, exists_eq_left', hn13]
    refine jy_newA (by rw [f3]; exact hkc) hkindc hlim hheap rfl rfl (by rw [f1]; omega) (by rw [f4]; omega) ?_
    have hlt0 : s.heap.size < (jy_f s c comp x).heap.size := by omega
    simp only [wp_bind', W.writeLoc, wp_pure']
    refine ⟨jy_o c s.heap.size x, by rw [State.heap_pushCell_of_lt (h := hlt0)]; exact f2, (fun q => by cases q), (by unfold jy_o; rw [arrV_size]; exact hlt), ?_, hnext _ _ _ ⟨x + 1, hlt, hrest, ?_⟩⟩
    · show State.fitsSlot _ c .none x _ = true
      simp [State.fitsSlot, State.slotType?, f3, hk, hkind, fits]
    · rw [f1, jy_o_set]
      show _ = ((jy_f s c comp x).pushCell (jy_i comp)).setCell s.heap.size _
      unfold jy_i
      rw [← arrV_new]
      rfl
  · rintro s' d' acts' ⟨i, hi, hl, rfl⟩
    have hiN : i = 13 := by
      rcases Nat.lt_or_ge i 13 with h | h
      · rw [show 13 - i = (13 - (i + 1)) + 1 from by omega, List.range'_succ] at hl; cases hl
      · omega
    subst hiN
    simp only [wp_pure']
    exact hq _ _
theorem jy_cold {f : JFrame} {index c : Nat} {vm' : Vm} {QQ : Unit → Pre} (hs : s.topJava?.isSome) (hg : (Jvm.resolveClass f.method.cls index).Gives e.toSetting s.vm (.ok c) vm') (hr : vm'.classReady f.method.cls index c) (hsz : vm'.classes.size ≤ s.vm.classes.size) :
    wp (multianewarray.sem index 2) QQ E e d acts (s.setTop f) ↔ wp (multianewarray.sem index 2) QQ E e d acts ((s.setVm vm').setTop f) := by
  simp only [multianewarray.sem, wp_bind']
  exact W.resolveClassAt_transfer (s := s.setTop f) (State.method?_setTop f hs) hg hr hsz
theorem jy_sem {f : JFrame} {index : Nat} {c comp cc : ClassId} {k kc : Class} {rest : List Value} (hs : s.topJava?.isSome) (hr : s.vm.classReady f.method.cls index c) (hk : s.vm.classes[c]? = some k) (hkind : k.kind = .array comp (.array .int)) (hkc : s.vm.classes[comp]? = some kc) (hkindc : kc.kind = .array cc .int)
    (hstack : f.stack = .int 13 :: .int 13 :: rest) (hlim : ¬ 13 > e.platform.arrayLengthLimit) (hheap : ¬ 13 * 4 > e.platform.maxHeapBytes) (hc : s.heap.size + 14 ≤ e.platform.maxCells) (hsl : s.slotsUsed + 182 ≤ e.platform.maxSlots)
    {QQ : Unit → Pre} (hq : ∀ d' acts', QQ () d' acts' ((jy_f s c comp 13).setTop { f with stack := .ref s.heap.size :: rest })) : wp (multianewarray.sem index 2) QQ E e d acts (s.setTop f) := by
  simp only [multianewarray.sem, wp_bind', W.resolveClassAt_ready (State.method?_setTop f hs) hr]
  refine (popN_top hs (args := [.int 13, .int 13]) (rest := rest) (by rw [hstack]; rfl)).mpr ?_
  simp only [List.mapM_cons, List.mapM_nil, wp_bind', wp_pure', W.mark]
  refine jy_make (s := s.setTop { f with stack := rest }) hk hkind hkc hkindc hlim hheap hc hsl (fun d' acts' => ?_)
  rw [jy_top]
  have ht : (jy_f s c comp 13).topJava?.isSome := by
    have key : ∀ i, (jy_f s c comp i).topJava?.isSome := fun i => by
      induction i with
      | zero => exact hs
      | succ i ih => exact ih
    exact key 13
  simp only [wp_bind', W.mark, W.pushRef, State.topJava?_setTop' _ ht, Option.some.injEq, exists_eq_left', State.setTop_setTop]
  exact hq _ _
end JY
section JZ
variable {p : Program} {l : Launch} {e : Env} {R : Room} {s : State} {m : MethodId} {args : Array Value} {below : List Frame} {meth : Method} {cd : Code} {G : jm_G} {J : jm_J} {nL ns zs : Nat} {Q : jm_Q} {bs : ByteArray} {pc n : Nat} {ins : Instr} {ls : jm_Ls} {st : List jm_V} {h : jm_H} {Wg : List Cond} {T : State} {locs : List Loc} {cells slots : Nat}
theorem jy_stand (X : Stand p l e R s m args below meth cd T locs cells slots) (c comp : ClassId) (hsz : s.heap.size ≤ T.heap.size) : ∀ i, Stand p l e R s m args below meth cd (jy_f T c comp i) locs (cells + 1 + i) (slots + 13 + i * 13)
  | 0 => by
    have e1 : (jy_o c T.heap.size 0).slots.size = 13 := by unfold jy_o; exact arrV_size _ _ _
    have X1 := X.pushed (jy_o c T.heap.size 0)
    rw [e1] at X1
    exact X1
  | i + 1 => by
    have X1 := (jy_stand X c comp hsz i).pushed (jy_i comp)
    obtain ⟨f1, f2, f3, f4⟩ := jy_facts T c comp i
    have hc : ((jy_f T c comp i).pushCell (jy_i comp)).heap[T.heap.size]? = some (jy_o c T.heap.size i) := by
      have hlt : T.heap.size < (jy_f T c comp i).heap.size := by omega
      rw [State.heap_pushCell_of_lt (h := hlt)]
      exact f2
    have X2 := X1.stored hc i (.ref (T.heap.size + 1 + i))
    rw [jy_o_set] at X2
    have X3 := Stand.forget X2 (fun q hq => by rw [List.mem_singleton.mp hq]; exact hsz)
    have e1 : (jy_i comp).slots.size = 13 := by unfold jy_i; exact arrV_size _ _ _
    rw [e1] at X3
    have e2 : cells + 1 + i + 1 = cells + 1 + (i + 1) := by omega
    have e3 : slots + 13 + i * 13 + 13 = slots + 13 + (i + 1) * 13 := by omega
    rw [e2, e3] at X3
    exact X3
theorem jw_multi (hx : p.tables.exec = Jvm.exec) (hb : cd.code = bs) (hK : jg_K G J Wg s) {own : String} {idx t c z0 : Nat} (hown : s.vm.findClass own = some m.cls) (h60 : 60 ≤ t) (h99 : t < 99) (hty : J.2.2.1 t = some (.array .int)) (hcl : Cond.classLink own idx "[[I" ∈ Wg)
    (hRc : c ≤ R.cells + ns) (hRz : z0 ≤ R.slots + zs) (hd : decode bs pc = .ok (.multianewarray idx 2, 4)) (z : jo_multi (jg_P p l e R s m args below meth cd G J nL ns zs Q) (pc + 4) ls st h t c z0) : jg_P p l e R s m args below meth cd G J nL ns zs Q (pc, ls, st, h) := by
  intro H locs arr hR hn hl hL
  replace hR : jg_R G J h H := hR
  replace hn : ns ≤ h.1 ∧ zs ≤ h.2.1 ∧ h.1 ≤ R.cells + ns ∧ h.2.1 ≤ R.slots + zs := hn
  replace hL : jg_Ls G arr nL ls := hL
  unfold jo_multi at z
  split at z
  · rename_i k1 k0 st
    obtain ⟨rfl, rfl, z1, z2, z⟩ := z
    obtain ⟨hn1, hn2, hn3, hn4⟩ := hn
    have hsz : H.size = G.2.1 + (h.1 - 2) := hR.1.2.1
    have em : jg_mv G (.inr (.inl h.1)) = .ref H.size := by rw [jg_mv_obj G hR.1.1, hsz]
    obtain ⟨-, hRA, -, hOv⟩ := hK.2.2.2.2.2.1 t _ hty
    obtain ⟨comp, cA, kA, hcomp, -, hkA, hkindA, hnA⟩ := arrayOverA_spec (hOv .int rfl)
    have e2 : (FieldType.array FieldType.int).toString = "[I" := by decide +kernel
    have e3 : "[" ++ (FieldType.array FieldType.int).toString = "[[I" := by decide +kernel
    rw [e2] at hcomp
    rw [e3] at hnA
    have ecomp : comp = G.2.2.2.2.1 := Option.some.inj (hcomp.symm.trans hK.2.2.1.2)
    have eA : cA = G.2.2.2.2.2.2.1 t := by
      have h1 : s.vm.findClass ("[" ++ (FieldType.array FieldType.int).toString) = some (G.2.2.2.2.2.2.1 t) := hRA
      rw [e3] at h1
      exact Option.some.inj (hnA.symm.trans h1)
    subst ecomp; subst eA
    obtain ⟨-, kc, hkc, cc, hkindc⟩ := hK.2.2.1.1 0 (fun _ => .null)
    replace hkc : s.vm.classes[G.2.2.2.2.1]? = some kc := hkc
    intro T hTH X
    subst hTH
    replace X : Stand p l e R s m args below meth cd T locs (h.1 - ns) (h.2.1 - zs) := X
    have hpl : e.platform.magicAccessors = ({} : Platform).magicAccessors := by rw [X.admits.platform]
    obtain ⟨c2, hfcc, hcl2⟩ := Cond.classLink_spec hown (hK.1 _ hcl args) e.platform hpl
    cases hnA.symm.trans hfcc
    obtain ⟨hg₁, hwarm₁, hready₁⟩ := State.classEntry (e := e) X.warmed hcl2
    generalize T.vm.noted m.cls idx (.cls (G.2.2.2.2.2.2.1 t)) = vm₁ at hg₁ hwarm₁ hready₁
    have hal : s.vm.Alike vm₁ := hwarm₁.alike
    obtain ⟨kA₁, hkA₁, heA⟩ := hal.2.2 _ _ hkA
    obtain ⟨kc₁, hkc₁, hec⟩ := hal.2.2 _ _ hkc
    have hszv : vm₁.classes.size ≤ T.vm.classes.size := by
      have i1 := hal.2.1
      have i2 := X.warmed.alike.2.1
      omega
    have X₁ := X.noted hwarm₁
    obtain ⟨hr1, hr2⟩ := X.roomAbove (a := 14) (b := 182) (by omega) (by omega)
    have hge : s.heap.size ≤ T.heap.size := X.same.2.1
    have X₂ := jy_stand X₁ (G.2.2.2.2.2.2.1 t) G.2.2.2.2.1 (show s.heap.size ≤ (T.setVm vm₁).heap.size from hge) 13
    obtain ⟨f1, f2, f3, f4⟩ := jy_facts (T.setVm vm₁) (G.2.2.2.2.2.2.1 t) G.2.2.2.2.1 13
    have f5 := fun {a : Addr} (ha : a < T.heap.size) => jy_old (T.setVm vm₁) (G.2.2.2.2.2.2.1 t) G.2.2.2.2.1 (show a < (T.setVm vm₁).heap.size from ha) 13
    have f6 := jy_inner (T.setVm vm₁) (G.2.2.2.2.2.2.1 t) G.2.2.2.2.1 13
    replace f1 : (jy_f (T.setVm vm₁) (G.2.2.2.2.2.2.1 t) G.2.2.2.2.1 13).heap.size = T.heap.size + 1 + 13 := f1
    replace f2 : (jy_f (T.setVm vm₁) (G.2.2.2.2.2.2.1 t) G.2.2.2.2.1 13).heap[T.heap.size]? = some (jy_o (G.2.2.2.2.2.2.1 t) T.heap.size 13) := f2
    replace f5 : ∀ a, a < T.heap.size → (jy_f (T.setVm vm₁) (G.2.2.2.2.2.2.1 t) G.2.2.2.2.1 13).heap[a]? = T.heap[a]? := fun a ha => f5 ha
    replace f6 : ∀ j, j < 13 → (jy_f (T.setVm vm₁) (G.2.2.2.2.2.2.1 t) G.2.2.2.2.1 13).heap[T.heap.size + 1 + j]? = some (jy_i G.2.2.2.2.1) := fun j hj => f6 j hj
    generalize hS3 : jy_f (T.setVm vm₁) (G.2.2.2.2.2.2.1 t) G.2.2.2.2.1 13 = S3 at X₂ f1 f2 f5 f6
    have hR' : jg_R G J (jm_mul h t 13 13) S3.heap := by
      obtain ⟨⟨p1, p2, p3, p4⟩, hz, hA, s1, s2, s3, s4, s5⟩ := id hR
      have ob : ∀ r, r ≠ h.1 → ¬ (h.1 < r ∧ r < h.1 + 1 + 13) → (jm_mul h t 13 13).2.2 r = h.2.2 r := fun r q1 q2 => by
        show (if r = h.1 then _ else if h.1 < r ∧ r < h.1 + 1 + 13 then _ else h.2.2 r) = _
        rw [if_neg q1, if_neg q2]
      have ex : (jm_mul h t 13 13).2.2 1 = h.2.2 1 := ob 1 (by omega) (by omega)
      refine ⟨⟨by show 2 ≤ h.1 + 1 + 13; omega, by show _ = G.2.1 + (h.1 + 1 + 13 - 2); omega, p3, fun q hq => (f5 q (by omega)).trans (p4 q hq)⟩, fun r hr => ?_, fun r h1 h3 => ?_, ?_, ?_, s3, ?_, ?_⟩
      · have hr' : r = 0 ∨ h.1 + 1 + 13 ≤ r := hr
        show ((jm_mul h t 13 13).2.2 r).1 = 0
        rw [ob r (by omega) (by omega)]
        exact hz r (by omega)
      · have h3' : r < h.1 + 1 + 13 := h3
        by_cases hr : r = h.1
        · subst hr
          have eo : (jm_mul h t 13 13).2.2 h.1 = (t, 13, fun _ => 0, fun j => if j < 13 then h.1 + 1 + j else 0, fun _ => 0) := if_pos rfl
          rw [eo, show G.2.1 + (h.1 - 2) = T.heap.size by omega]
          refine jg_at.mkR h60 h99 ?_
          rw [f2]
          unfold jy_o
          refine congrArg (fun f => some (arrV (G.2.2.2.2.2.2.1 t) 13 f)) (funext fun j => ?_)
          show _ = jg_mv G (.inr (.inl (if j < 13 then h.1 + 1 + j else 0)))
          by_cases hj : j < 13
          · rw [if_pos hj, if_pos hj, jg_mv_obj G (by omega), show T.heap.size + 1 + j = G.2.1 + (h.1 + 1 + j - 2) by omega]
          · rw [if_neg hj, if_neg hj]; rfl
        · by_cases hr2 : h.1 < r
          · have eo : (jm_mul h t 13 13).2.2 r = (100, 13, fun _ => 0, fun _ => 0, fun _ => 0) := by
              show (if r = h.1 then _ else if h.1 < r ∧ r < h.1 + 1 + 13 then _ else h.2.2 r) = _
              rw [if_neg hr, if_pos ⟨hr2, h3'⟩]
            rw [eo]
            refine jg_at.mkI rfl ?_
            rw [show G.2.1 + (r - 2) = T.heap.size + 1 + (r - h.1 - 1) by omega, f6 _ (by omega)]
            rfl
          · rw [ob r hr (by omega)]
            exact (hA r h1 (by omega)).kept (f5 _ (by omega))
      · show ((jm_mul h t 13 13).2.2 1).1 = 99
        rw [ex]; exact s1
      · rw [f5 _ (by omega)]; exact s2
      · show _ = ((jm_mul h t 13 13).2.2 1).2.1
        rw [ex]; exact s4
      · show ∀ j, j < ((jm_mul h t 13 13).2.2 1).2.1 → G.2.2.1.slots[j]? = some (Value.int (((jm_mul h t 13 13).2.2 1).2.2.1 j))
        rw [ex]; exact s5
    rw [show h.1 - ns + 1 + 13 = h.1 + 1 + 13 - ns by omega, show h.2.1 - zs + 13 + 13 * 13 = h.2.1 + 13 + 13 * 13 - zs by omega] at X₂
    obtain ⟨t', s1, q1⟩ := z _ locs arr hR' ⟨by show ns ≤ h.1 + 1 + 13; omega, by show zs ≤ h.2.1 + 13 + 13 * 13; omega, by show h.1 + 1 + 13 ≤ _; omega, by show h.2.1 + 13 + 13 * 13 ≤ _; omega⟩ hl hL _ rfl X₂
    refine ⟨t', ?_, q1⟩
    have s2 : Steps p.tables e below (S3.setTop (F0 m (pc + 4) arr (jg_mv G (.inr (.inl h.1)) :: st.map (jg_mv G)))) t' := s1
    rw [em, ← hS3] at s2
    have hlim : ¬ 13 > e.platform.arrayLengthLimit := by rw [Launch.admits_arrayLengthLimit X.admits]; omega
    have hhp : ¬ 13 * 4 > e.platform.maxHeapBytes := by rw [Launch.admits_maxHeapBytes X.admits]; omega
    show Steps p.tables e below (T.setTop (F0 m pc arr (.int 13 :: .int 13 :: st.map (jg_mv G)))) t'
    jvm_step X.here [hx, hb, hd, jy_cold (e := e) (s := T) (f := F0 m pc arr (.int 13 :: .int 13 :: st.map (jg_mv G))) X.here.top hg₁ hready₁ hszv]
    refine jy_sem (s := T.setVm vm₁) (f := F0 m pc arr (.int 13 :: .int 13 :: st.map (jg_mv G))) X.here.top hready₁ hkA₁ (by rw [heA]; exact hkindA) hkc₁ (by rw [hec]; exact hkindc) rfl hlim hhp hr1 hr2 (fun d' acts' => ?_)
    intro acts
    rw [afterInstr_ok]
    exact s2
  · exact z.elim
end JZ
