/-! One step of the abstract machine is one step of the machine: all but calls and throws. -/
def jg_out (G : jm_G) : jm_R → Outcome
  | .inl none => .returned none
  | .inl (some v) => .returned (some (jg_mv G v))
  | .inr a => .threw (jg_ad G a)
/-- a frame's end -/
def jg_Z (G : jm_G) (J : jm_J) (R : Room) (s : State) (below : List Frame) (ns zs : Nat) (Q : jm_Q) : State → Prop := fun t => ∃ (o : jm_R) (h : jm_H) (L : List Loc),
  t.status = .running ∧ Ended t below (jg_out G o) ∧ s.WarmedH t.vm ∧ s.sameButNew ({ t with vm := s.vm } : State) L (h.1 - ns) (h.2.1 - zs) ∧ (∀ q ∈ L, G.2.1 ≤ q.base) ∧ (ns ≤ h.1 ∧ zs ≤ h.2.1 ∧ h.1 ≤ R.cells + ns ∧ h.2.1 ≤ R.slots + zs) ∧ jg_R G J h t.heap ∧ Q o h ∧
  ∀ a, o = .inr a → 200 ≤ jm_T h a ∧ jm_T h a % 2 = 1
/-- from the abstract point c on the machine comes to the frame's end -/
def jg_P (p : Program) (l : Launch) (e : Env) (R : Room) (s : State) (m : MethodId) (args : Array Value) (below : List Frame) (meth : Method) (cd : Code) (G : jm_G) (J : jm_J) (nL ns zs : Nat) (Q : jm_Q) (c : jm_C) : Prop :=
  ∀ (H : Heap) (locs : List Loc) (arr : Array Slot), jg_R G J c.2.2.2 H → (ns ≤ c.2.2.2.1 ∧ zs ≤ c.2.2.2.2.1 ∧ c.2.2.2.1 ≤ R.cells + ns ∧ c.2.2.2.2.1 ≤ R.slots + zs) → (∀ q ∈ locs, G.2.1 ≤ q.base) → jg_Ls G arr nL c.2.1 →
    W p l e R s m args below meth cd H locs (c.2.2.2.1 - ns) (c.2.2.2.2.1 - zs) (jg_Z G J R s below ns zs Q) (F0 m c.1 arr (c.2.2.1.map (jg_mv G)))
def jc_const (ins : Instr) (n : Nat) (k : Int32) : Bool := match ins with
  | .iconst v => n == 1 && Int32.ofInt v == k
  | .bipush v => n == 2 && (Int8.ofInt v).toInt32 == k
  | .sipush v => n == 3 && (Int16.ofInt v).toInt32 == k
  | _ => false
def jc_iload (ins : Instr) (n x : Nat) : Bool := match ins with
  | .iload_n k => n == 1 && k.val == x
  | .iload i => n == 2 && i == x
  | _ => false
def jc_aload (ins : Instr) (n x : Nat) : Bool := match ins with
  | .aload_n k => n == 1 && k.val == x
  | .aload i => n == 2 && i == x
  | _ => false
def jc_istore (ins : Instr) (n x : Nat) : Bool := match ins with
  | .istore_n k => n == 1 && k.val == x
  | .istore i => n == 2 && i == x
  | _ => false
def jc_astore (ins : Instr) (n x : Nat) : Bool := match ins with
  | .astore_n k => n == 1 && k.val == x
  | .astore i => n == 2 && i == x
  | _ => false
def jc_iinc (ins : Instr) (n x : Nat) (k : Int32) : Bool := match ins with
  | .iinc i v => n == 3 && i == x && Int32.ofInt v == k
  | _ => false
def jc_bin (ins : Instr) (n x : Nat) : Bool := match ins with
  | .iadd => n == 1 && x == 0
  | .isub => n == 1 && x == 1
  | .imul => n == 1 && x == 2
  | .iand => n == 1 && x == 3
  | .ior => n == 1 && x == 4
  | .ixor => n == 1 && x == 5
  | .ishl => n == 1 && x == 6
  | .ishr => n == 1 && x == 7
  | _ => false
def jc_if (ins : Instr) (n pc x y : Nat) : Bool := match ins with
  | .ifCond .eq o => n == 3 && x == 0 && decide ((pc : Int) + o = (y : Int))
  | .ifCond .ne o => n == 3 && x == 1 && decide ((pc : Int) + o = (y : Int))
  | .ifCond .lt o => n == 3 && x == 2 && decide ((pc : Int) + o = (y : Int))
  | .ifCond .ge o => n == 3 && x == 3 && decide ((pc : Int) + o = (y : Int))
  | .ifCond .gt o => n == 3 && x == 4 && decide ((pc : Int) + o = (y : Int))
  | .ifCond .le o => n == 3 && x == 5 && decide ((pc : Int) + o = (y : Int))
  | _ => false
def jc_icmp (ins : Instr) (n pc x y : Nat) : Bool := match ins with
  | .if_icmp .eq o => n == 3 && x == 0 && decide ((pc : Int) + o = (y : Int))
  | .if_icmp .ne o => n == 3 && x == 1 && decide ((pc : Int) + o = (y : Int))
  | .if_icmp .lt o => n == 3 && x == 2 && decide ((pc : Int) + o = (y : Int))
  | .if_icmp .ge o => n == 3 && x == 3 && decide ((pc : Int) + o = (y : Int))
  | .if_icmp .gt o => n == 3 && x == 4 && decide ((pc : Int) + o = (y : Int))
  | .if_icmp .le o => n == 3 && x == 5 && decide ((pc : Int) + o = (y : Int))
  | _ => false
def jc_goto (ins : Instr) (pc y : Nat) : Bool := match ins with
  | .goto o => decide ((pc : Int) + o = (y : Int))
  | _ => false
/-- the table of a switch: a key, a place -/
def jc_tab (pc : Nat) (lo : Int) : List (Int32 × Nat) → List Int → Bool
  | [], [] => true
  | q :: r, o :: os => decide (q.1.toInt = lo) && decide ((pc : Int) + o = (q.2 : Int)) && jc_tab pc (lo + 1) r os
  | _, _ => false
def jc_switch (ins : Instr) (pc : Nat) (t : List (Int32 × Nat) × Nat) : Bool := match ins with
  | .tableswitch d lo hi os => decide ((pc : Int) + d = (t.2 : Int)) && jc_tab pc lo t.1 os.toList && decide (lo + (os.size : Int) = hi + 1)
  | _ => false
theorem jm_sl_out {pc d : Nat} {x : Int32} : ∀ (t : List (Int32 × Nat)) (os : List Int) (lo : Int), jc_tab pc lo t os = true → (x.toInt < lo ∨ lo + (os.length : Int) ≤ x.toInt) → jm_sl t d x = d
  | [], _, _, _, _ => rfl
  | q :: r, [], _, h, _ => by simp [jc_tab] at h
  | q :: r, o :: os, lo, h, hx => by
    simp only [jc_tab, Bool.and_eq_true, decide_eq_true_eq] at h
    simp only [List.length_cons, Int.natCast_add, Int.natCast_one] at hx
    have hne : ¬ x = q.1 := fun e => by rw [e] at hx; omega
    show (if x = q.1 then q.2 else jm_sl r d x) = d
    rw [if_neg hne]
    exact jm_sl_out r os (lo + 1) h.2 (by omega)
theorem jm_sl_in {pc d : Nat} {x : Int32} : ∀ (t : List (Int32 × Nat)) (os : List Int) (lo : Int), jc_tab pc lo t os = true → lo ≤ x.toInt → x.toInt < lo + (os.length : Int) → ∃ o, os[(x.toInt - lo).toNat]? = some o ∧ (pc : Int) + o = (jm_sl t d x : Int)
  | [], [], lo, _, h1, h2 => by simp at h2; omega
  | [], _ :: _, _, h, _, _ => by simp [jc_tab] at h
  | q :: r, [], _, h, _, _ => by simp [jc_tab] at h
  | q :: r, o :: os, lo, h, h1, h2 => by
    simp only [jc_tab, Bool.and_eq_true, decide_eq_true_eq] at h
    simp only [List.length_cons, Int.natCast_add, Int.natCast_one] at h2
    by_cases e : x = q.1
    · refine ⟨o, ?_, ?_⟩
      · rw [show (x.toInt - lo).toNat = 0 by rw [e]; omega]; rfl
      · show _ = (((if x = q.1 then q.2 else jm_sl r d x : Nat)) : Int)
        rw [if_pos e]; exact h.1.2
    · have hne : x.toInt ≠ lo := fun z => e (Int32.toInt_inj.mp (by omega))
      obtain ⟨o', g1, g2⟩ := jm_sl_in (d := d) (x := x) r os (lo + 1) h.2 (by omega) (by omega)
      refine ⟨o', ?_, ?_⟩
      · rw [show (x.toInt - lo).toNat = (x.toInt - (lo + 1)).toNat + 1 by omega]; exact g1
      · show _ = (((if x = q.1 then q.2 else jm_sl r d x : Nat)) : Int)
        rw [if_neg e]; exact g2
section JW
variable {p : Program} {l : Launch} {e : Env} {R : Room} {s : State} {m : MethodId} {args : Array Value} {below : List Frame} {meth : Method} {cd : Code} {G : jm_G} {J : jm_J} {nL ns zs : Nat} {Q : jm_Q} {bs : ByteArray} {pc n : Nat} {ins : Instr} {ls : jm_Ls} {st : List jm_V} {h : jm_H}
theorem jw_const (hx : p.tables.exec = Jvm.exec) (hb : cd.code = bs) (hd : decode bs pc = .ok (ins, n)) {k : Int32} (hc : jc_const ins n k = true) (z : jg_P p l e R s m args below meth cd G J nL ns zs Q (pc + n, ls, .inl k :: st, h)) : jg_P p l e R s m args below meth cd G J nL ns zs Q (pc, ls, st, h) := by
  intro H locs arr hR hn hl hL
  have w := z H locs arr hR hn hl hL
  unfold jc_const at hc
  split at hc
  · simp only [Bool.and_eq_true, beq_iff_eq] at hc; obtain ⟨rfl, hk⟩ := hc; exact lv_iconst hx hb hd hk w
  · simp only [Bool.and_eq_true, beq_iff_eq] at hc; obtain ⟨rfl, hk⟩ := hc; exact lv_bipush hx hb hd hk w
  · simp only [Bool.and_eq_true, beq_iff_eq] at hc; obtain ⟨rfl, hk⟩ := hc; exact lv_sipush hx hb hd hk w
  · cases hc
theorem jw_iload (hx : p.tables.exec = Jvm.exec) (hb : cd.code = bs) (hd : decode bs pc = .ok (ins, n)) {x : Nat} (hc : jc_iload ins n x = true) (z : jo_iload (jg_P p l e R s m args below meth cd G J nL ns zs Q) (pc + n) ls st h x) : jg_P p l e R s m args below meth cd G J nL ns zs Q (pc, ls, st, h) := by
  intro H locs arr hR hn hl hL
  unfold jo_iload at z
  split at z
  · rename_i v hv
    have w := z H locs arr hR hn hl hL
    have ha : arr[x]? = some (.val (.int v)) := (hL.2.2.2 x _ hv).1
    unfold jc_iload at hc
    split at hc
    · simp only [Bool.and_eq_true, beq_iff_eq] at hc; obtain ⟨rfl, hk⟩ := hc; exact lv_iload_n hx hb hd hk ha w
    · simp only [Bool.and_eq_true, beq_iff_eq] at hc; obtain ⟨rfl, rfl⟩ := hc; exact lv_iload hx hb hd ha w
    · cases hc
  · exact z.elim
theorem jw_aload (hx : p.tables.exec = Jvm.exec) (hb : cd.code = bs) (hd : decode bs pc = .ok (ins, n)) {x : Nat} (hc : jc_aload ins n x = true) (z : jo_aload (jg_P p l e R s m args below meth cd G J nL ns zs Q) (pc + n) ls st h x) : jg_P p l e R s m args below meth cd G J nL ns zs Q (pc, ls, st, h) := by
  intro H locs arr hR hn hl hL
  unfold jo_aload at z
  split at z
  · rename_i v hv
    have w := z H locs arr hR hn hl hL
    have ha : arr[x]? = some (.val (jg_mv G (.inr (.inl v)))) := (hL.2.2.2 x _ hv).1
    unfold jc_aload at hc
    split at hc
    · simp only [Bool.and_eq_true, beq_iff_eq] at hc; obtain ⟨rfl, hk⟩ := hc
      cases v with
      | zero => exact lv_aload_nN hx hb hd hk ha w
      | succ v => exact lv_aload_n hx hb hd hk ha w
    · simp only [Bool.and_eq_true, beq_iff_eq] at hc; obtain ⟨rfl, rfl⟩ := hc
      cases v with
      | zero => exact lv_aloadN hx hb hd ha w
      | succ v => exact lv_aload hx hb hd ha w
    · cases hc
  · exact z.elim
theorem jw_istore (hx : p.tables.exec = Jvm.exec) (hb : cd.code = bs) (hd : decode bs pc = .ok (ins, n)) {x : Nat} (hc : jc_istore ins n x = true) (hxn : x < nL) (z : jo_istore (jg_P p l e R s m args below meth cd G J nL ns zs Q) (pc + n) ls st h x) : jg_P p l e R s m args below meth cd G J nL ns zs Q (pc, ls, st, h) := by
  intro H locs arr hR hn hl hL
  unfold jo_istore at z
  split at z
  · rename_i v st
    obtain ⟨arr', e1, hL'⟩ := hL.store hxn (.inl v) (fun z => by simp)
    have w := z H locs arr' hR hn hl hL'
    intro T hT X
    obtain ⟨t, a, b⟩ := w T hT X
    refine ⟨t, ?_, b⟩
    unfold jc_istore at hc
    have e1' : storeLocals arr x (.int v) = some arr' := e1
    split at hc
    · simp only [Bool.and_eq_true, beq_iff_eq] at hc; obtain ⟨rfl, rfl⟩ := hc
      show Steps p.tables e below (T.setTop (F0 m pc arr (.int v :: st.map (jg_mv G)))) t
      jvm_step X.here [X.here.top, ↓top_set X.here.top, hx, hb, hd, e1']
      exact a
    · simp only [Bool.and_eq_true, beq_iff_eq] at hc; obtain ⟨rfl, rfl⟩ := hc
      show Steps p.tables e below (T.setTop (F0 m pc arr (.int v :: st.map (jg_mv G)))) t
      jvm_step X.here [X.here.top, ↓top_set X.here.top, hx, hb, hd, e1']
      exact a
    · cases hc
  · exact z.elim
theorem jw_astore (hx : p.tables.exec = Jvm.exec) (hb : cd.code = bs) (hd : decode bs pc = .ok (ins, n)) {x : Nat} (hc : jc_astore ins n x = true) (hxn : x < nL) (z : jo_astore (jg_P p l e R s m args below meth cd G J nL ns zs Q) (pc + n) ls st h x) : jg_P p l e R s m args below meth cd G J nL ns zs Q (pc, ls, st, h) := by
  intro H locs arr hR hn hl hL
  unfold jo_astore at z
  split at z
  · rename_i v st
    obtain ⟨arr', e1, hL'⟩ := hL.store hxn (.inr (.inl v)) (fun z => by simp)
    have w := z H locs arr' hR hn hl hL'
    intro T hT X
    obtain ⟨t, a, b⟩ := w T hT X
    refine ⟨t, ?_, b⟩
    unfold jc_astore at hc
    cases v with
    | zero =>
      have e1' : storeLocals arr x .null = some arr' := e1
      split at hc
      · simp only [Bool.and_eq_true, beq_iff_eq] at hc; obtain ⟨rfl, rfl⟩ := hc
        show Steps p.tables e below (T.setTop (F0 m pc arr (.null :: st.map (jg_mv G)))) t
        jvm_step X.here [X.here.top, ↓top_set X.here.top, hx, hb, hd, e1', Value.isRef]
        exact a
      · simp only [Bool.and_eq_true, beq_iff_eq] at hc; obtain ⟨rfl, rfl⟩ := hc
        show Steps p.tables e below (T.setTop (F0 m pc arr (.null :: st.map (jg_mv G)))) t
        jvm_step X.here [X.here.top, ↓top_set X.here.top, hx, hb, hd, e1', Value.isRef]
        exact a
      · cases hc
    | succ v =>
      have e1' : storeLocals arr x (.ref (jg_ad G (v + 1))) = some arr' := e1
      split at hc
      · simp only [Bool.and_eq_true, beq_iff_eq] at hc; obtain ⟨rfl, rfl⟩ := hc
        show Steps p.tables e below (T.setTop (F0 m pc arr (.ref (jg_ad G (v + 1)) :: st.map (jg_mv G)))) t
        jvm_step X.here [X.here.top, ↓top_set X.here.top, hx, hb, hd, e1', Value.isRef]
        exact a
      · simp only [Bool.and_eq_true, beq_iff_eq] at hc; obtain ⟨rfl, rfl⟩ := hc
        show Steps p.tables e below (T.setTop (F0 m pc arr (.ref (jg_ad G (v + 1)) :: st.map (jg_mv G)))) t
        jvm_step X.here [X.here.top, ↓top_set X.here.top, hx, hb, hd, e1', Value.isRef]
        exact a
      · cases hc
  · exact z.elim
theorem jw_iinc (hx : p.tables.exec = Jvm.exec) (hb : cd.code = bs) (hd : decode bs pc = .ok (ins, n)) {x : Nat} {k : Int32} (hc : jc_iinc ins n x k = true) (hxn : x < nL) (z : jo_iinc (jg_P p l e R s m args below meth cd G J nL ns zs Q) (pc + n) ls st h x k) : jg_P p l e R s m args below meth cd G J nL ns zs Q (pc, ls, st, h) := by
  intro H locs arr hR hn hl hL
  unfold jo_iinc at z
  split at z
  · rename_i v hv
    have ha : arr[x]? = some (.val (.int v)) := (hL.2.2.2 x _ hv).1
    obtain ⟨arr', e1, hL'⟩ := hL.store hxn (.inl (v + k)) (fun z => by simp)
    have w := z H locs arr' hR hn hl hL'
    intro T hT X
    obtain ⟨t, a, b⟩ := w T hT X
    refine ⟨t, ?_, b⟩
    unfold jc_iinc at hc
    split at hc
    · rename_i i0 w0
      simp only [Bool.and_eq_true, beq_iff_eq] at hc
      obtain ⟨⟨h1, h2⟩, h3⟩ := hc
      subst h1; subst h2; subst h3
      have e1' : storeLocals arr i0 (.int (v + Int32.ofInt w0)) = some arr' := e1
      show Steps p.tables e below (T.setTop (F0 m pc arr (st.map (jg_mv G)))) t
      jvm_step X.here [X.here.top, ↓top_set X.here.top, hx, hb, hd, ha, e1']
      exact a
    · cases hc
  · exact z.elim
theorem jw_bin (hx : p.tables.exec = Jvm.exec) (hb : cd.code = bs) (hd : decode bs pc = .ok (ins, n)) {x : Nat} (hc : jc_bin ins n x = true) (z : jo_bin (jg_P p l e R s m args below meth cd G J nL ns zs Q) (pc + n) ls st h x) : jg_P p l e R s m args below meth cd G J nL ns zs Q (pc, ls, st, h) := by
  intro H locs arr hR hn hl hL
  unfold jo_bin at z
  split at z
  · rename_i b a st
    have w := z H locs arr hR hn hl hL
    unfold jc_bin at hc
    split at hc
    · simp only [Bool.and_eq_true, beq_iff_eq] at hc; obtain ⟨rfl, rfl⟩ := hc; exact lv_iadd hx hb hd w
    · simp only [Bool.and_eq_true, beq_iff_eq] at hc; obtain ⟨rfl, rfl⟩ := hc; exact lv_isub hx hb hd w
    · simp only [Bool.and_eq_true, beq_iff_eq] at hc; obtain ⟨rfl, rfl⟩ := hc; exact lv_imul hx hb hd w
    · simp only [Bool.and_eq_true, beq_iff_eq] at hc; obtain ⟨rfl, rfl⟩ := hc; exact lv_iand hx hb hd w
    · simp only [Bool.and_eq_true, beq_iff_eq] at hc; obtain ⟨rfl, rfl⟩ := hc; exact lv_ior hx hb hd w
    · simp only [Bool.and_eq_true, beq_iff_eq] at hc; obtain ⟨rfl, rfl⟩ := hc; exact lv_ixor hx hb hd w
    · simp only [Bool.and_eq_true, beq_iff_eq] at hc; obtain ⟨rfl, rfl⟩ := hc; exact lv_ishl hx hb hd w
    · simp only [Bool.and_eq_true, beq_iff_eq] at hc; obtain ⟨rfl, rfl⟩ := hc; exact lv_ishr hx hb hd w
    · cases hc
  · exact z.elim
theorem jw_if (hx : p.tables.exec = Jvm.exec) (hb : cd.code = bs) (hd : decode bs pc = .ok (ins, n)) {x y : Nat} (hc : jc_if ins n pc x y = true) (z : jo_if (jg_P p l e R s m args below meth cd G J nL ns zs Q) (pc + n) ls st h x y) : jg_P p l e R s m args below meth cd G J nL ns zs Q (pc, ls, st, h) := by
  intro H locs arr hR hn hl hL
  unfold jo_if at z
  split at z
  · rename_i a st
    obtain ⟨z1, z2⟩ := z
    unfold jc_if at hc
    split at hc
    · simp only [Bool.and_eq_true, beq_iff_eq, decide_eq_true_eq] at hc; obtain ⟨⟨rfl, rfl⟩, ho⟩ := hc; exact lv_if_eq hx hb hd ho (fun q => z1 q H locs arr hR hn hl hL) (fun q => z2 q H locs arr hR hn hl hL)
    · simp only [Bool.and_eq_true, beq_iff_eq, decide_eq_true_eq] at hc; obtain ⟨⟨rfl, rfl⟩, ho⟩ := hc; exact lv_if_ne hx hb hd ho (fun q => z1 q H locs arr hR hn hl hL) (fun q => z2 (fun g => g q) H locs arr hR hn hl hL)
    · simp only [Bool.and_eq_true, beq_iff_eq, decide_eq_true_eq] at hc; obtain ⟨⟨rfl, rfl⟩, ho⟩ := hc; exact lv_if_lt hx hb hd ho (fun q => z1 q H locs arr hR hn hl hL) (fun q => z2 q H locs arr hR hn hl hL)
    · simp only [Bool.and_eq_true, beq_iff_eq, decide_eq_true_eq] at hc; obtain ⟨⟨rfl, rfl⟩, ho⟩ := hc; exact lv_if_ge hx hb hd ho (fun q => z1 q H locs arr hR hn hl hL) (fun q => z2 q H locs arr hR hn hl hL)
    · simp only [Bool.and_eq_true, beq_iff_eq, decide_eq_true_eq] at hc; obtain ⟨⟨rfl, rfl⟩, ho⟩ := hc; exact lv_if_gt hx hb hd ho (fun q => z1 q H locs arr hR hn hl hL) (fun q => z2 q H locs arr hR hn hl hL)
    · simp only [Bool.and_eq_true, beq_iff_eq, decide_eq_true_eq] at hc; obtain ⟨⟨rfl, rfl⟩, ho⟩ := hc; exact lv_if_le hx hb hd ho (fun q => z1 q H locs arr hR hn hl hL) (fun q => z2 q H locs arr hR hn hl hL)
    · cases hc
  · exact z.elim
theorem jw_icmp (hx : p.tables.exec = Jvm.exec) (hb : cd.code = bs) (hd : decode bs pc = .ok (ins, n)) {x y : Nat} (hc : jc_icmp ins n pc x y = true) (z : jo_icmp (jg_P p l e R s m args below meth cd G J nL ns zs Q) (pc + n) ls st h x y) : jg_P p l e R s m args below meth cd G J nL ns zs Q (pc, ls, st, h) := by
  intro H locs arr hR hn hl hL
  unfold jo_icmp at z
  split at z
  · rename_i b a st
    obtain ⟨z1, z2⟩ := z
    unfold jc_icmp at hc
    split at hc
    · simp only [Bool.and_eq_true, beq_iff_eq, decide_eq_true_eq] at hc; obtain ⟨⟨rfl, rfl⟩, ho⟩ := hc; exact lv_icmp_eq hx hb hd ho (fun q => z1 q H locs arr hR hn hl hL) (fun q => z2 q H locs arr hR hn hl hL)
    · simp only [Bool.and_eq_true, beq_iff_eq, decide_eq_true_eq] at hc; obtain ⟨⟨rfl, rfl⟩, ho⟩ := hc; exact lv_icmp_ne hx hb hd ho (fun q => z1 q H locs arr hR hn hl hL) (fun q => z2 (fun g => g q) H locs arr hR hn hl hL)
    · simp only [Bool.and_eq_true, beq_iff_eq, decide_eq_true_eq] at hc; obtain ⟨⟨rfl, rfl⟩, ho⟩ := hc; exact lv_icmp_lt hx hb hd ho (fun q => z1 q H locs arr hR hn hl hL) (fun q => z2 q H locs arr hR hn hl hL)
    · simp only [Bool.and_eq_true, beq_iff_eq, decide_eq_true_eq] at hc; obtain ⟨⟨rfl, rfl⟩, ho⟩ := hc; exact lv_icmp_ge hx hb hd ho (fun q => z1 q H locs arr hR hn hl hL) (fun q => z2 q H locs arr hR hn hl hL)
    · simp only [Bool.and_eq_true, beq_iff_eq, decide_eq_true_eq] at hc; obtain ⟨⟨rfl, rfl⟩, ho⟩ := hc; exact lv_icmp_gt hx hb hd ho (fun q => z1 q H locs arr hR hn hl hL) (fun q => z2 q H locs arr hR hn hl hL)
    · simp only [Bool.and_eq_true, beq_iff_eq, decide_eq_true_eq] at hc; obtain ⟨⟨rfl, rfl⟩, ho⟩ := hc; exact lv_icmp_le hx hb hd ho (fun q => z1 q H locs arr hR hn hl hL) (fun q => z2 q H locs arr hR hn hl hL)
    · cases hc
  · exact z.elim
theorem jw_goto (hx : p.tables.exec = Jvm.exec) (hb : cd.code = bs) (hd : decode bs pc = .ok (ins, 3)) {y : Nat} (hc : jc_goto ins pc y = true) (z : jg_P p l e R s m args below meth cd G J nL ns zs Q (y, ls, st, h)) : jg_P p l e R s m args below meth cd G J nL ns zs Q (pc, ls, st, h) := by
  intro H locs arr hR hn hl hL
  have w := z H locs arr hR hn hl hL
  unfold jc_goto at hc
  split at hc
  · simp only [decide_eq_true_eq] at hc; exact lv_goto hx hb hd hc w
  · cases hc
theorem jw_switch (hx : p.tables.exec = Jvm.exec) (hb : cd.code = bs) (hd : decode bs pc = .ok (ins, n)) {t : List (Int32 × Nat) × Nat} (hc : jc_switch ins pc t = true) (z : jo_switch (jg_P p l e R s m args below meth cd G J nL ns zs Q) ls st h t) : jg_P p l e R s m args below meth cd G J nL ns zs Q (pc, ls, st, h) := by
  intro H locs arr hR hn hl hL
  unfold jo_switch at z
  split at z
  · rename_i a st
    have w := z H locs arr hR hn hl hL
    unfold jc_switch at hc
    split at hc
    · rename_i d lo hi os
      simp only [Bool.and_eq_true, decide_eq_true_eq] at hc
      obtain ⟨⟨h1, h2⟩, h3⟩ := hc
      by_cases hin : a.toInt < lo ∨ hi < a.toInt
      · have e1 : jm_sel t a = t.2 := jm_sl_out t.1 os.toList lo h2 (by rw [Array.length_toList]; omega)
        exact lv_tableOut hx hb hd hin h1 (by rw [← e1]; exact w)
      · obtain ⟨o, g1, g2⟩ := jm_sl_in (d := t.2) (x := a) t.1 os.toList lo h2 (by omega) (by rw [Array.length_toList]; omega)
        exact lv_tableIn hx hb hd (fun q => hin (Or.inl q)) (fun q => hin (Or.inr q)) (by rw [← Array.getElem?_toList]; exact g1) g2 w
    · cases hc
  · exact z.elim
theorem jw_dup (hx : p.tables.exec = Jvm.exec) (hb : cd.code = bs) (hd : decode bs pc = .ok (.dup, 1)) (z : jo_dup (jg_P p l e R s m args below meth cd G J nL ns zs Q) (pc + 1) ls st h) : jg_P p l e R s m args below meth cd G J nL ns zs Q (pc, ls, st, h) := by
  intro H locs arr hR hn hl hL
  unfold jo_dup at z
  split at z
  · exact lv_dup hx hb hd rfl (z H locs arr hR hn hl hL)
  · exact lv_dup hx hb hd (jg_mv_c1 G (fun z => by simp)) (z H locs arr hR hn hl hL)
  · exact z.elim
theorem jw_dup2 (hx : p.tables.exec = Jvm.exec) (hb : cd.code = bs) (hd : decode bs pc = .ok (.dup2, 1)) (z : jo_dup2 (jg_P p l e R s m args below meth cd G J nL ns zs Q) (pc + 1) ls st h) : jg_P p l e R s m args below meth cd G J nL ns zs Q (pc, ls, st, h) := by
  intro H locs arr hR hn hl hL
  unfold jo_dup2 at z
  split at z
  · exact lv_dup2_11 hx hb hd rfl (jg_mv_c1 G (fun z => by simp)) (z H locs arr hR hn hl hL)
  · exact z.elim
theorem jw_dupx1 (hx : p.tables.exec = Jvm.exec) (hb : cd.code = bs) (hd : decode bs pc = .ok (.dup_x1, 1)) (z : jo_dupx1 (jg_P p l e R s m args below meth cd G J nL ns zs Q) (pc + 1) ls st h) : jg_P p l e R s m args below meth cd G J nL ns zs Q (pc, ls, st, h) := by
  intro H locs arr hR hn hl hL
  unfold jo_dupx1 at z
  split at z
  · exact lv_dup_x1 hx hb hd rfl (jg_mv_c1 G (fun z => by simp)) (z H locs arr hR hn hl hL)
  · exact z.elim
theorem jw_pop (hx : p.tables.exec = Jvm.exec) (hb : cd.code = bs) (hd : decode bs pc = .ok (.pop, 1)) (z : jo_pop (jg_P p l e R s m args below meth cd G J nL ns zs Q) (pc + 1) ls st h) : jg_P p l e R s m args below meth cd G J nL ns zs Q (pc, ls, st, h) := by
  intro H locs arr hR hn hl hL
  unfold jo_pop at z
  split at z
  · exact lv_pop hx hb hd rfl (z H locs arr hR hn hl hL)
  · exact lv_pop hx hb hd (jg_mv_c1 G (fun z => by simp)) (z H locs arr hR hn hl hL)
  · exact z.elim
theorem jw_i2l (hx : p.tables.exec = Jvm.exec) (hb : cd.code = bs) (hd : decode bs pc = .ok (.i2l, 1)) (z : jo_i2l (jg_P p l e R s m args below meth cd G J nL ns zs Q) (pc + 1) ls st h) : jg_P p l e R s m args below meth cd G J nL ns zs Q (pc, ls, st, h) := by
  intro H locs arr hR hn hl hL
  unfold jo_i2l at z
  split at z
  · exact lv_i2l hx hb hd rfl (z H locs arr hR hn hl hL)
  · exact z.elim
theorem jw_lcmp (hx : p.tables.exec = Jvm.exec) (hb : cd.code = bs) (hd : decode bs pc = .ok (.lcmp, 1)) (z : jo_lcmp (jg_P p l e R s m args below meth cd G J nL ns zs Q) (pc + 1) ls st h) : jg_P p l e R s m args below meth cd G J nL ns zs Q (pc, ls, st, h) := by
  intro H locs arr hR hn hl hL
  unfold jo_lcmp at z
  split at z
  · exact W.lcmp hx hb hd (z H locs arr hR hn hl hL)
  · exact z.elim
theorem jw_iret (hx : p.tables.exec = Jvm.exec) (hb : cd.code = bs) (hr : meth.sig.returnType = some .int) (hlk : meth.locks = false) (hd : decode bs pc = .ok (.ireturn, 1)) (z : jo_iret Q st h) : jg_P p l e R s m args below meth cd G J nL ns zs Q (pc, ls, st, h) := by
  intro H locs arr hR hn hl hL
  unfold jo_iret at z
  split at z
  · rename_i v
    intro T hT X
    obtain ⟨fs, hret, hrun, hended, hW, hframe⟩ := X.leave (v := some (.int v)) (fun q => by rw [hr] at q; cases q)
    have hmeth' : T.vm.method? m = some meth := X.method'
    refine ⟨T.setFrames fs, ?_, .inl (some (.inl v)), h, locs, hrun, hended, hW, hframe, hl, hn, by rw [← hT] at hR; exact hR, z, fun a q => by cases q⟩
    show Steps p.tables e below (T.setTop (F0 m pc arr [.int v])) _
    jvm_step X.here [X.here.top, hx, hb, hd, hmeth', hr, narrow]
    (try refine ⟨rfl, ?_⟩); (try refine ⟨rfl, ?_⟩)
    first | (intro acts; rw [hret _ acts rfl rfl rfl]) | rw [hret _ _ rfl rfl rfl]
    exact Steps.refl _
  · exact z.elim
theorem jw_zret (hx : p.tables.exec = Jvm.exec) (hb : cd.code = bs) (hr : meth.sig.returnType = some .boolean) (hlk : meth.locks = false) (hd : decode bs pc = .ok (.ireturn, 1)) (z : jo_zret Q st h) : jg_P p l e R s m args below meth cd G J nL ns zs Q (pc, ls, st, h) := by
  intro H locs arr hR hn hl hL
  unfold jo_zret at z
  split at z
  · rename_i v
    obtain ⟨hv, z⟩ := z
    have hnw : narrow .boolean (.int v) = .int v := by rcases hv with rfl | rfl <;> rfl
    intro T hT X
    obtain ⟨fs, hret, hrun, hended, hW, hframe⟩ := X.leave (v := some (.int v)) (fun q => by rw [hr] at q; cases q)
    have hmeth' : T.vm.method? m = some meth := X.method'
    refine ⟨T.setFrames fs, ?_, .inl (some (.inl v)), h, locs, hrun, hended, hW, hframe, hl, hn, by rw [← hT] at hR; exact hR, z, fun a q => by cases q⟩
    show Steps p.tables e below (T.setTop (F0 m pc arr [.int v])) _
    jvm_step X.here [X.here.top, hx, hb, hd, hmeth', hr, hnw]
    (try refine ⟨rfl, ?_⟩); (try refine ⟨rfl, ?_⟩)
    first | (intro acts; rw [hret _ acts rfl rfl rfl]) | rw [hret _ _ rfl rfl rfl]
    exact Steps.refl _
  · exact z.elim
theorem jw_vret (hx : p.tables.exec = Jvm.exec) (hb : cd.code = bs) (hr : meth.sig.returnType = none) (hlk : meth.locks = false) (hd : decode bs pc = .ok (.return_, 1)) (z : jo_vret Q st h) : jg_P p l e R s m args below meth cd G J nL ns zs Q (pc, ls, st, h) := by
  intro H locs arr hR hn hl hL
  unfold jo_vret at z
  split at z
  · intro T hT X
    obtain ⟨fs, hret, hrun, hended, hW, hframe⟩ := X.leave (v := none) (fun _ => rfl)
    have hmeth' : T.vm.method? m = some meth := X.method'
    refine ⟨T.setFrames fs, ?_, .inl none, h, locs, hrun, hended, hW, hframe, hl, hn, by rw [← hT] at hR; exact hR, z, fun a q => by cases q⟩
    show Steps p.tables e below (T.setTop (F0 m pc arr [])) _
    jvm_step X.here [X.here.top, hx, hb, hd, hmeth', hr]
    (try refine ⟨rfl, ?_⟩); (try refine ⟨rfl, ?_⟩)
    first | (intro acts; rw [hret _ acts rfl rfl rfl]) | rw [hret _ _ rfl rfl rfl]
    exact Steps.refl _
  · exact z.elim
end JW
