/-! The abstract machine is sound, for code whose instructions pass a check. -/
/-- entries: owner, index, what it is (1 field, 2 virtual call, 3 static call, 4 constructor, 5 new, 6 array of references, 7 new exception, 8 its constructor, 9 Object's constructor, 10 max, 11 min, 12 arraycopy, 13 array of arrays), two numbers -/
abbrev jm_K5 : Type := List (Nat × Nat × Nat × Nat × Nat)
def jm_fin (J : jm_J) (x y : Nat) : Bool := match J.1[x]? with
  | some q => (q.2.1 y).2.2.2
  | none => true
def jm_isR : FieldType → Bool
  | .object _ => true
  | .array _ => true
  | _ => false
def jc_gf : Instr → Option Nat
  | .getfield i => some i
  | _ => none
theorem jc_gf_spec {ins : Instr} {f : Nat → Bool} (h : (jc_gf ins).any f = true) : ∃ i, ins = .getfield i ∧ f i = true := by
  unfold jc_gf at h
  split at h
  · exact ⟨_, rfl, h⟩
  · cases h
def jc_pf : Instr → Option Nat
  | .putfield i => some i
  | _ => none
theorem jc_pf_spec {ins : Instr} {f : Nat → Bool} (h : (jc_pf ins).any f = true) : ∃ i, ins = .putfield i ∧ f i = true := by
  unfold jc_pf at h
  split at h
  · exact ⟨_, rfl, h⟩
  · cases h
def jc_nw : Instr → Option Nat
  | .new i => some i
  | _ => none
theorem jc_nw_spec {ins : Instr} {f : Nat → Bool} (h : (jc_nw ins).any f = true) : ∃ i, ins = .new i ∧ f i = true := by
  unfold jc_nw at h
  split at h
  · exact ⟨_, rfl, h⟩
  · cases h
def jc_an : Instr → Option Nat
  | .anewarray i => some i
  | _ => none
theorem jc_an_spec {ins : Instr} {f : Nat → Bool} (h : (jc_an ins).any f = true) : ∃ i, ins = .anewarray i ∧ f i = true := by
  unfold jc_an at h
  split at h
  · exact ⟨_, rfl, h⟩
  · cases h
def jc_is : Instr → Option Nat
  | .invokestatic i => some i
  | _ => none
theorem jc_is_spec {ins : Instr} {f : Nat → Bool} (h : (jc_is ins).any f = true) : ∃ i, ins = .invokestatic i ∧ f i = true := by
  unfold jc_is at h
  split at h
  · exact ⟨_, rfl, h⟩
  · cases h
def jc_iv : Instr → Option Nat
  | .invokevirtual i => some i
  | _ => none
theorem jc_iv_spec {ins : Instr} {f : Nat → Bool} (h : (jc_iv ins).any f = true) : ∃ i, ins = .invokevirtual i ∧ f i = true := by
  unfold jc_iv at h
  split at h
  · exact ⟨_, rfl, h⟩
  · cases h
def jc_ip : Instr → Option Nat
  | .invokespecial i => some i
  | _ => none
theorem jc_ip_spec {ins : Instr} {f : Nat → Bool} (h : (jc_ip ins).any f = true) : ∃ i, ins = .invokespecial i ∧ f i = true := by
  unfold jc_ip at h
  split at h
  · exact ⟨_, rfl, h⟩
  · cases h
def jc_ma : Instr → Option Nat
  | .multianewarray i 2 => some i
  | _ => none
theorem jc_ma_spec {ins : Instr} {f : Nat → Bool} (h : (jc_ma ins).any f = true) : ∃ i, ins = .multianewarray i 2 ∧ f i = true := by
  unfold jc_ma at h
  split at h
  · exact ⟨_, rfl, h⟩
  · cases h
/-- K: the entries; oc: the owner; ini: is it a constructor -/
def jm_chk (K : jm_K5) (J : jm_J) (sw : Nat → List (Int32 × Nat) × Nat) (oc nL : Nat) (ini : Bool) (ret : Option FieldType) (pc : Nat) (ins : Instr) (i : jm_In) : Bool := match i.1 with
  | 1 => jc_const ins i.2.1 i.2.2.2.2
  | 2 => jc_iload ins i.2.1 i.2.2.1
  | 3 => jc_aload ins i.2.1 i.2.2.1
  | 4 => jc_istore ins i.2.1 i.2.2.1 && decide (i.2.2.1 < nL)
  | 5 => jc_astore ins i.2.1 i.2.2.1 && decide (i.2.2.1 < nL)
  | 6 => jc_iinc ins i.2.1 i.2.2.1 i.2.2.2.2 && decide (i.2.2.1 < nL)
  | 7 => jc_bin ins i.2.1 i.2.2.1
  | 8 => jc_if ins i.2.1 pc i.2.2.1 i.2.2.2.1
  | 9 => jc_icmp ins i.2.1 pc i.2.2.1 i.2.2.2.1
  | 10 => i.2.1 == 3 && jc_goto ins pc i.2.2.2.1
  | 11 => jc_switch ins pc (sw i.2.2.2.1)
  | 12 => i.2.1 == 3 && (jc_gf ins).any (fun idx => K.contains (oc, idx, 1, i.2.2.1, i.2.2.2.1)) && jm_isI (J.2.1 i.2.2.1 i.2.2.2.1)
  | 13 => i.2.1 == 3 && (jc_gf ins).any (fun idx => K.contains (oc, idx, 1, i.2.2.1, i.2.2.2.1)) && !jm_isI (J.2.1 i.2.2.1 i.2.2.2.1)
  | 14 => i.2.1 == 3 && (jc_pf ins).any (fun idx => K.contains (oc, idx, 1, i.2.2.1, i.2.2.2.1)) && decide (J.2.1 i.2.2.1 i.2.2.2.1 = .int) && (!jm_fin J i.2.2.1 i.2.2.2.1 || (ini && oc == i.2.2.1))
  | 15 => i.2.1 == 3 && (jc_pf ins).any (fun idx => K.contains (oc, idx, 1, i.2.2.1, i.2.2.2.1)) && decide (J.2.1 i.2.2.1 i.2.2.2.1 = .boolean) && (!jm_fin J i.2.2.1 i.2.2.2.1 || (ini && oc == i.2.2.1))
  | 16 => i.2.1 == 3 && (jc_pf ins).any (fun idx => K.contains (oc, idx, 1, i.2.2.1, i.2.2.2.1)) && jm_isR (J.2.1 i.2.2.1 i.2.2.2.1) && (!jm_fin J i.2.2.1 i.2.2.2.1 || (ini && oc == i.2.2.1))
  | 17 => decide (ins = .iaload) && i.2.1 == 1
  | 18 => decide (ins = .iaload) && i.2.1 == 1
  | 19 => decide (ins = .iastore) && i.2.1 == 1
  | 20 => decide (ins = .aaload) && i.2.1 == 1 && decide (60 ≤ i.2.2.1) && decide (i.2.2.1 < 99) && (J.2.2.1 i.2.2.1).any (fun t => t.isReference)
  | 21 => decide (ins = .aastore) && i.2.1 == 1 && decide (60 ≤ i.2.2.1) && decide (i.2.2.1 < 99) && decide (0 < i.2.2.2.1) && decide (i.2.2.2.1 < 60) && (J.1[i.2.2.2.1]?).any (fun q => decide (J.2.2.1 i.2.2.1 = some (.object q.1)))
  | 22 => decide (ins = .arraylength) && i.2.1 == 1 && (i.2.2.1 == 100 || (decide (60 ≤ i.2.2.1) && decide (i.2.2.1 < 99) && (J.2.2.1 i.2.2.1).isSome))
  | 23 => decide (ins = .arraylength) && i.2.1 == 1
  | 24 => i.2.1 == 2 && ((decide (ins = .newarray .int) && i.2.2.1 == 100) || (decide (ins = .newarray .long) && i.2.2.1 == 101))
  | 25 => i.2.1 == 3 && (jc_an ins).any (fun idx => K.contains (oc, idx, 6, i.2.2.1, 0))
  | 27 => i.2.1 == 4 && (jc_ma ins).any (fun idx => K.contains (oc, idx, 13, i.2.2.1, 0))
  | 28 => i.2.1 == 3 && (jc_nw ins).any (fun idx => K.contains (oc, idx, 5, i.2.2.1, i.2.2.2.1))
  | 29 => decide (ins = .dup) && i.2.1 == 1
  | 30 => decide (ins = .dup2) && i.2.1 == 1
  | 31 => decide (ins = .pop) && i.2.1 == 1
  | 32 => i.2.1 == 3 && ((jc_iv ins).any (fun idx => K.contains (oc, idx, 2, i.2.2.1, i.2.2.2.1)) || (jc_is ins).any (fun idx => K.contains (oc, idx, 3, i.2.2.1, i.2.2.2.1)) || (jc_ip ins).any (fun idx => K.contains (oc, idx, 4, i.2.2.1, i.2.2.2.1)))
  | 33 => i.2.1 == 3 && (jc_ip ins).any (fun idx => K.contains (oc, idx, 9, 0, 0))
  | 34 => i.2.1 == 3 && (jc_nw ins).any (fun idx => K.contains (oc, idx, 7, i.2.2.1, 0))
  | 35 => i.2.1 == 3 && (jc_ip ins).any (fun idx => K.contains (oc, idx, 8, i.2.2.1, 0))
  | 36 => decide (ins = .athrow) && i.2.1 == 1
  | 37 => decide (ins = .ireturn) && i.2.1 == 1 && decide (ret = some .int)
  | 38 => decide (ins = .ireturn) && i.2.1 == 1 && decide (ret = some .boolean)
  | 39 => decide (ins = .return_) && i.2.1 == 1 && decide (ret = none)
  | 41 => decide (ins = .i2l) && i.2.1 == 1
  | 42 => decide (ins = .laload) && i.2.1 == 1
  | 43 => decide (ins = .lastore) && i.2.1 == 1
  | 44 => decide (ins = .lcmp) && i.2.1 == 1
  | 45 => i.2.1 == 3 && (jc_is ins).any (fun idx => K.contains (oc, idx, 10, 0, 0))
  | 47 => i.2.1 == 3 && (jc_is ins).any (fun idx => K.contains (oc, idx, 12, 0, 0))
  | 48 => decide (ins = .dup_x1) && i.2.1 == 1
  | 50 => decide (ins = .irem) && i.2.1 == 1
  | _ => false
/-- the entries are what they say -/
def jm_kok (cn : Nat → String) (J : jm_J) (Wg : List Cond) (M : jm_M) (nl rc : Nat → Nat) (q : Nat × Nat × Nat × Nat × Nat) : Prop := match q.2.2.1 with
  | 1 => 0 < q.2.2.2.1 ∧ ∃ w, J.1[q.2.2.2.1]? = some w ∧ q.2.2.2.2 < w.2.2 ∧ (w.2.1 q.2.2.2.2).1 = w.1 ∧ Cond.fieldLink (cn q.1) q.2.1 w.1 (w.2.1 q.2.2.2.2).2.1 (w.2.1 q.2.2.2.2).2.2.1 ∈ Wg
  | 2 => 0 < rc q.2.2.2.1 ∧ (∃ w, J.1[rc q.2.2.2.1]? = some w ∧ w.1 = (M q.2.2.2.1).1.cls ∧ Cond.selects w.1 (M q.2.2.2.1).1 (M q.2.2.2.1).1 ∈ Wg) ∧ jg_cw M nl Wg q.2.2.2.1 ∧ Cond.methodLink (cn q.1) q.2.1 (M q.2.2.2.1).1 ∈ Wg ∧ Cond.instanceMethod (M q.2.2.2.1).1 ∈ Wg ∧ ((M q.2.2.2.1).1.cls ≠ "java/lang/invoke/MethodHandle" ∧ (M q.2.2.2.1).1.cls ≠ "java/lang/invoke/VarHandle") ∧ plainFor (M q.2.2.2.1).1 = true ∧ (parseMethodDescriptor (M q.2.2.2.1).1.desc).map (fun d => d.parameters.length + 1) = some q.2.2.2.2
  | 3 => rc q.2.2.2.1 = 0 ∧ jg_cw M nl Wg q.2.2.2.1 ∧ Cond.methodLink (cn q.1) q.2.1 (M q.2.2.2.1).1 ∈ Wg ∧ Cond.static (M q.2.2.2.1).1 ∈ Wg ∧ Cond.initialized (M q.2.2.2.1).1.cls ∈ Wg ∧ ((M q.2.2.2.1).1.cls ≠ "java/lang/invoke/MethodHandle" ∧ (M q.2.2.2.1).1.cls ≠ "java/lang/invoke/VarHandle") ∧ plainFor (M q.2.2.2.1).1 = true ∧ (parseMethodDescriptor (M q.2.2.2.1).1.desc).map (fun d => d.parameters.length) = some q.2.2.2.2
  | 4 => (0 < rc q.2.2.2.1 ∧ rc q.2.2.2.1 < 60) ∧ (M q.2.2.2.1).1.name = "<init>" ∧ Cond.code (M q.2.2.2.1).1 (M q.2.2.2.1).2.1 (nl q.2.2.2.1) none ∈ Wg ∧ jg_cw M nl Wg q.2.2.2.1 ∧ Cond.methodLink (cn q.1) q.2.1 (M q.2.2.2.1).1 ∈ Wg ∧ Cond.instanceMethod (M q.2.2.2.1).1 ∈ Wg ∧ ((M q.2.2.2.1).1.cls ≠ "java/lang/invoke/MethodHandle" ∧ (M q.2.2.2.1).1.cls ≠ "java/lang/invoke/VarHandle") ∧ plainFor (M q.2.2.2.1).1 = true ∧ (parseMethodDescriptor (M q.2.2.2.1).1.desc).map (fun d => d.parameters.length + 1) = some q.2.2.2.2
  | 5 => 0 < q.2.2.2.1 ∧ ∃ w, J.1[q.2.2.2.1]? = some w ∧ q.2.2.2.2 = w.2.2 ∧ Cond.classLink (cn q.1) q.2.1 w.1 ∈ Wg ∧ Cond.instantiable w.1 w.2.2 ∈ Wg ∧ Cond.initialized w.1 ∈ Wg ∧ ∀ k, k < w.2.2 → jm_isI (J.2.1 q.2.2.2.1 k) = true ∨ jm_isR (J.2.1 q.2.2.2.1 k) = true
  | 6 => (60 ≤ q.2.2.2.1 ∧ q.2.2.2.1 < 99) ∧ ∃ C, J.2.2.1 q.2.2.2.1 = some (.object C) ∧ Cond.classLink (cn q.1) q.2.1 C ∈ Wg
  | 7 => ∃ nm, J.2.2.2 q.2.2.2.1 = some nm ∧ 200 ≤ q.2.2.2.1 ∧ q.2.2.2.1 % 2 = 0 ∧ Cond.classLink (cn q.1) q.2.1 nm ∈ Wg ∧ Cond.instantiable nm 6 ∈ Wg ∧ Cond.initialized nm ∈ Wg
  | 8 => ∃ cls names, J.2.2.2 q.2.2.2.1 = some cls ∧ 200 ≤ q.2.2.2.1 ∧ q.2.2.2.1 % 2 = 0 ∧ Bundle.fit cls = true ∧ (∀ n ∈ names, Bundle.fit n = true) ∧ names.length = 2 ∧ ∀ a ∈ Bundle.ownAtoms0 (cn q.1) q.2.1 cls names, a ∈ Wg ∨ a ∈ jx_st
  | 9 => Cond.methodLink (cn q.1) q.2.1 objectInit ∈ Wg ∧ Cond.instanceMethod objectInit ∈ Wg ∧ Cond.code objectInit ⟨#[0xb1]⟩ 1 none ∈ Wg
  | 10 => Cond.methodLink (cn q.1) q.2.1 Lib.Math.max.name ∈ Wg ∧ Cond.static Lib.Math.max.name ∈ Wg ∧ Cond.initialized "java/lang/Math" ∈ Wg ∧ Cond.code Lib.Math.max.name Lib.Math.max.code 2 (some .int) ∈ Wg
  | 12 => Cond.methodLink (cn q.1) q.2.1 arraycopyName ∈ Wg ∧ Cond.native arraycopyName ∈ Wg ∧ Cond.static arraycopyName ∈ Wg ∧ Cond.initialized "java/lang/System" ∈ Wg
  | 13 => (60 ≤ q.2.2.2.1 ∧ q.2.2.2.1 < 99) ∧ J.2.2.1 q.2.2.2.1 = some (.array .int) ∧ Cond.classLink (cn q.1) q.2.1 "[[I" ∈ Wg
  | _ => True
theorem jm_dflt (G : jm_G) {J : jm_J} {x k : Nat} (h : jm_isI (J.2.1 x k) = true ∨ jm_isR (J.2.1 x k) = true) : defaultValue (J.2.1 x k) = jg_fv G (J.2.1 x) (x, 0, fun _ => 0, fun _ => 0, fun _ => 0) k := by
  unfold jg_fv
  generalize J.2.1 x k = ty at h ⊢
  cases ty <;> first | rfl | (rcases h with h | h <;> cases h)
theorem jm_isR_spec {ty : FieldType} (h : jm_isR ty = true) : (∃ c, ty = .object c) ∨ ∃ t, ty = .array t := by
  cases ty <;> first | exact Or.inl ⟨_, rfl⟩ | exact Or.inr ⟨_, rfl⟩ | cases h
theorem jm_lookup_mem {α : Type} {a : Nat} {b : α} : ∀ (l : List (Nat × α)), l.lookup a = some b → (a, b) ∈ l
  | [], h => by cases h
  | (c, d) :: r, h => by
    simp only [List.lookup] at h
    split at h
    · rename_i hc
      cases h
      rw [eq_of_beq hc]
      exact List.mem_cons_self
    · exact List.mem_cons_of_mem _ (jm_lookup_mem r h)
set_option maxHeartbeats 4000000 in
/-- one instruction that passes the check -/
theorem jm_close {p : Program} {l : Launch} {e : Env} {R : Room} {s : State} {m : MethodId} {args : Array Value} {below : List Frame} {meth : Method} {cd : Code} {G : jm_G} {J : jm_J} {Wg : List Cond} {M : jm_M} {pr : jm_Pr} {cn : Nat → String} {K : jm_K5} {oc mi ns zs : Nat} {ini : Bool} {Q : jm_Q} {E : Nat → List jm_V → jm_H → jm_Q → Prop}
    (hS : jg_Snd G J Wg M pr.2.2.1 pr.2.2.2.2.2.2.2 pr.2.2.2.2.2.1 pr.2.2.2.2.2.2.1 p l e E) (hg : ∀ w ∈ Wg, jm_goodW w = true) (hJ : jg_J J Wg) (h0 : jg_0 G) (hl0 : l.stackTraces = false) (hKok : ∀ q ∈ K, jm_kok cn J Wg M pr.2.2.1 pr.2.2.2.1 q) (hcn : cn oc = (M mi).1.cls) (hci : ini = true → (M mi).1.name = "<init>")
    (hcj : ∀ t q, 0 < t → J.1[t]? = some q → cn t = q.1) (hwI : Cond.arrayClass .int ∈ Wg) (hwL : Cond.arrayClass .long ∈ Wg)
    (hF : jg_Fr M pr.2.2.1 mi p s m meth cd) (hK : jg_K G J Wg s) (hRm : jg_Rm (pr.2.2.2.2.2.2.2 mi) R) (hcap : pr.2.2.2.2.2.1 ≤ R.cells + ns ∧ pr.2.2.2.2.2.2.1 ≤ R.slots + zs)
    (hT : ∀ pc, jg_T p l e R s m args below meth cd G J (pr.2.2.1 mi) ns zs Q (pr.2.1 mi) pc)
    {i : jm_In} {pc : Nat} {ls : jm_Ls} {st : List jm_V} {h : jm_H} {ins : Instr} (hd : decode (M mi).2.1 pc = .ok (ins, i.2.1)) (hc : jm_chk K J pr.2.2.2.2.1 oc (pr.2.2.1 mi) ini (M mi).2.2.1 pc ins i = true)
    (z : jm_step pr E mi (jg_P p l e R s m args below meth cd G J (pr.2.2.1 mi) ns zs Q) Q i pc ls st h) : jg_P p l e R s m args below meth cd G J (pr.2.2.1 mi) ns zs Q (pc, ls, st, h) := by
  obtain ⟨hx, hb, hml, hown, hr, hlk, hnm, htab⟩ := hF
  obtain ⟨op, n, x, y, k⟩ := i
  unfold jm_step at z
  unfold jm_chk at hc
  dsimp only at z hc hd
  split at z
  · exact jw_const hx hb hd hc z
  · exact jw_iload hx hb hd hc z
  · exact jw_aload hx hb hd hc z
  · simp only [Bool.and_eq_true, decide_eq_true_eq] at hc
    exact jw_istore hx hb hd hc.1 hc.2 z
  · simp only [Bool.and_eq_true, decide_eq_true_eq] at hc
    exact jw_astore hx hb hd hc.1 hc.2 z
  · simp only [Bool.and_eq_true, decide_eq_true_eq] at hc
    exact jw_iinc hx hb hd hc.1 hc.2 z
  · exact jw_bin hx hb hd hc z
  · exact jw_if hx hb hd hc z
  · exact jw_icmp hx hb hd hc z
  · simp only [Bool.and_eq_true, beq_iff_eq] at hc
    obtain ⟨rfl, hc⟩ := hc
    exact jw_goto hx hb hd hc z
  · exact jw_switch hx hb hd hc z
  · simp only [Bool.and_eq_true, beq_iff_eq, decide_eq_true_eq, Bool.or_eq_true, Bool.not_eq_true'] at hc
    obtain ⟨⟨rfl, hk0⟩, hty⟩ := hc
    obtain ⟨idx, rfl, hk⟩ := jc_gf_spec hk0
    rw [List.contains_iff_mem] at hk
    obtain ⟨q0, w, q1, q2, q3, q4⟩ := hKok _ hk
    rw [hcn] at q4
    exact jw_geti hx hb hK hJ hown q0 q1 q2 q3 q4 hty hd z
  · simp only [Bool.and_eq_true, beq_iff_eq, decide_eq_true_eq, Bool.or_eq_true, Bool.not_eq_true'] at hc
    obtain ⟨⟨rfl, hk0⟩, hty⟩ := hc
    obtain ⟨idx, rfl, hk⟩ := jc_gf_spec hk0
    rw [List.contains_iff_mem] at hk
    obtain ⟨q0, w, q1, q2, q3, q4⟩ := hKok _ hk
    rw [hcn] at q4
    exact jw_getr hx hb hK hJ hown q0 q1 q2 q3 q4 hty hd z
  · simp only [Bool.and_eq_true, beq_iff_eq, decide_eq_true_eq, Bool.or_eq_true, Bool.not_eq_true'] at hc
    obtain ⟨⟨⟨rfl, hk0⟩, hty⟩, hf⟩ := hc
    obtain ⟨idx, rfl, hk⟩ := jc_pf_spec hk0
    rw [List.contains_iff_mem] at hk
    obtain ⟨q0, w, q1, q2, q3, q4⟩ := hKok _ hk
    rw [hcn] at q4
    have hfin : (w.2.1 y).2.2.2 = false ∨ (w.1 = (M mi).1.cls ∧ meth.name = "<init>") := by
      rcases hf with hf | ⟨hf1, hf2⟩
      · left
        unfold jm_fin at hf
        rw [show J.1[x]? = some w from q1] at hf
        exact hf
      · right
        exact ⟨by rw [← hcj x w q0 q1, ← hf2]; exact hcn, by rw [hnm]; exact hci hf1⟩
    exact jw_puti hx hb hK hJ hown q0 q1 q2 q3 q4 hfin hty hd z
  · simp only [Bool.and_eq_true, beq_iff_eq, decide_eq_true_eq, Bool.or_eq_true, Bool.not_eq_true'] at hc
    obtain ⟨⟨⟨rfl, hk0⟩, hty⟩, hf⟩ := hc
    obtain ⟨idx, rfl, hk⟩ := jc_pf_spec hk0
    rw [List.contains_iff_mem] at hk
    obtain ⟨q0, w, q1, q2, q3, q4⟩ := hKok _ hk
    rw [hcn] at q4
    have hfin : (w.2.1 y).2.2.2 = false ∨ (w.1 = (M mi).1.cls ∧ meth.name = "<init>") := by
      rcases hf with hf | ⟨hf1, hf2⟩
      · left
        unfold jm_fin at hf
        rw [show J.1[x]? = some w from q1] at hf
        exact hf
      · right
        exact ⟨by rw [← hcj x w q0 q1, ← hf2]; exact hcn, by rw [hnm]; exact hci hf1⟩
    exact jw_putz hx hb hK hJ hown q0 q1 q2 q3 q4 hfin hty hd z
  · simp only [Bool.and_eq_true, beq_iff_eq, decide_eq_true_eq, Bool.or_eq_true, Bool.not_eq_true'] at hc
    obtain ⟨⟨⟨rfl, hk0⟩, hty⟩, hf⟩ := hc
    obtain ⟨idx, rfl, hk⟩ := jc_pf_spec hk0
    rw [List.contains_iff_mem] at hk
    obtain ⟨q0, w, q1, q2, q3, q4⟩ := hKok _ hk
    rw [hcn] at q4
    have hfin : (w.2.1 y).2.2.2 = false ∨ (w.1 = (M mi).1.cls ∧ meth.name = "<init>") := by
      rcases hf with hf | ⟨hf1, hf2⟩
      · left
        unfold jm_fin at hf
        rw [show J.1[x]? = some w from q1] at hf
        exact hf
      · right
        exact ⟨by rw [← hcj x w q0 q1, ← hf2]; exact hcn, by rw [hnm]; exact hci hf1⟩
    exact jw_putr hx hb hK hJ hown q0 q1 q2 q3 q4 hfin (jm_isR_spec hty) hd z
  · simp only [Bool.and_eq_true, beq_iff_eq, decide_eq_true_eq] at hc
    obtain ⟨rfl, rfl⟩ := hc
    exact jw_iald hx hb hK hd z
  · simp only [Bool.and_eq_true, beq_iff_eq, decide_eq_true_eq] at hc
    obtain ⟨rfl, rfl⟩ := hc
    exact jw_sald' hx hb hK hd z
  · simp only [Bool.and_eq_true, beq_iff_eq, decide_eq_true_eq] at hc
    obtain ⟨rfl, rfl⟩ := hc
    exact jw_iast hx hb hK hd z
  · simp only [Bool.and_eq_true, beq_iff_eq, decide_eq_true_eq] at hc
    obtain ⟨⟨⟨⟨rfl, rfl⟩, h1⟩, h2⟩, h3⟩ := hc
    cases hty : J.2.2.1 x with
    | none => rw [hty] at h3; cases h3
    | some ty => rw [hty] at h3; exact jw_aald hx hb hK hd h1 h2 hty h3 z
  · simp only [Bool.and_eq_true, beq_iff_eq, decide_eq_true_eq] at hc
    obtain ⟨⟨⟨⟨⟨⟨rfl, rfl⟩, h1⟩, h2⟩, h3⟩, h4⟩, h5⟩ := hc
    cases hq : J.1[y]? with
    | none => rw [hq] at h5; cases h5
    | some w =>
      rw [hq] at h5
      simp only [Option.any_some, decide_eq_true_eq] at h5
      exact jw_aast hx hb hK hd h1 h2 h3 h4 hq h5 z
  · simp only [Bool.and_eq_true, beq_iff_eq, decide_eq_true_eq, Bool.or_eq_true] at hc
    obtain ⟨⟨rfl, rfl⟩, h1⟩ := hc
    refine jw_alen hx hb hK hd ?_ z
    rcases h1 with h1 | ⟨⟨h1, h2⟩, h3⟩
    · exact Or.inl h1
    · exact Or.inr ⟨h1, h2, Option.isSome_iff_exists.mp h3⟩
  · simp only [Bool.and_eq_true, beq_iff_eq, decide_eq_true_eq] at hc
    obtain ⟨rfl, rfl⟩ := hc
    exact jw_slen hx hb hK hd z
  · simp only [Bool.and_eq_true, beq_iff_eq, decide_eq_true_eq, Bool.or_eq_true] at hc
    obtain ⟨rfl, hc⟩ := hc
    rcases hc with ⟨rfl, rfl⟩ | ⟨rfl, rfl⟩
    · exact jw_newa hx hb hK (ty := .int) (Or.inl ⟨rfl, rfl, hwI⟩) hcap.1 hcap.2 hd z
    · exact jw_newa hx hb hK (ty := .long) (Or.inr ⟨rfl, rfl, hwL⟩) hcap.1 hcap.2 hd z
  · simp only [Bool.and_eq_true, beq_iff_eq, decide_eq_true_eq, Bool.or_eq_true, Bool.not_eq_true'] at hc
    obtain ⟨rfl, hk0⟩ := hc
    obtain ⟨idx, rfl, hk⟩ := jc_an_spec hk0
    rw [List.contains_iff_mem] at hk
    obtain ⟨⟨q1, q2⟩, C, q3, q4⟩ := hKok _ hk
    rw [hcn] at q4
    exact jw_newq hx hb hK hown q1 q2 q3 q4 hcap.1 hcap.2 hd z
  · simp only [Bool.and_eq_true, beq_iff_eq, decide_eq_true_eq, Bool.or_eq_true, Bool.not_eq_true'] at hc
    obtain ⟨rfl, hk0⟩ := hc
    obtain ⟨idx, rfl, hk⟩ := jc_ma_spec hk0
    rw [List.contains_iff_mem] at hk
    obtain ⟨⟨q1, q2⟩, q3, q4⟩ := hKok _ hk
    rw [hcn] at q4
    exact jw_multi hx hb hK hown q1 q2 q3 q4 hcap.1 hcap.2 hd z
  · simp only [Bool.and_eq_true, beq_iff_eq, decide_eq_true_eq, Bool.or_eq_true, Bool.not_eq_true'] at hc
    obtain ⟨rfl, hk0⟩ := hc
    obtain ⟨idx, rfl, hk⟩ := jc_nw_spec hk0
    rw [List.contains_iff_mem] at hk
    obtain ⟨q0, w, q1, q2, q3, q4, q5, q6⟩ := hKok _ hk
    rw [hcn] at q3
    dsimp only at q2
    subst q2
    exact jw_new hx hb hK hJ hown q0 q1 q3 q4 q5 (fun k hk => jm_dflt G (q6 k hk)) hcap.1 hcap.2 hd z
  · simp only [Bool.and_eq_true, beq_iff_eq, decide_eq_true_eq] at hc
    obtain ⟨rfl, rfl⟩ := hc
    exact jw_dup hx hb hd z
  · simp only [Bool.and_eq_true, beq_iff_eq, decide_eq_true_eq] at hc
    obtain ⟨rfl, rfl⟩ := hc
    exact jw_dup2 hx hb hd z
  · simp only [Bool.and_eq_true, beq_iff_eq, decide_eq_true_eq] at hc
    obtain ⟨rfl, rfl⟩ := hc
    exact jw_pop hx hb hd z
  · simp only [Bool.and_eq_true, beq_iff_eq] at hc
    obtain ⟨rfl, hc⟩ := hc
    simp only [Bool.or_eq_true] at hc
    rcases hc with (hc | hc) | hc
    · obtain ⟨idx, rfl, hk⟩ := jc_iv_spec hc
      rw [List.contains_iff_mem] at hk
      obtain ⟨q0, ⟨w, q1, q2, q3⟩, q4, q5, q6, q7, q8, q9⟩ := hKok _ hk
      rw [hcn] at q5
      exact jw_callV hS hg hx hb hml hK hJ hRm hcap hown q0 q1 q2 q4 q5 q6 q3 q7 q8 q9 hd (hT pc) z
    · obtain ⟨idx, rfl, hk⟩ := jc_is_spec hc
      rw [List.contains_iff_mem] at hk
      obtain ⟨q0, q4, q5, q6, q6', q7, q8, q9⟩ := hKok _ hk
      rw [hcn] at q5
      have z' := z
      rw [show pr.2.2.2.1 x = 0 from q0] at z'
      exact jw_callS hS hg hx hb hml hK hRm hcap hown q4 q5 q6 q6' q7 q8 q9 hd (hT pc) z'
    · obtain ⟨idx, rfl, hk⟩ := jc_ip_spec hc
      rw [List.contains_iff_mem] at hk
      obtain ⟨⟨q0, q1⟩, q2, q3, q4, q5, q6, q7, q8, q9⟩ := hKok _ hk
      rw [hcn] at q5
      exact jw_callI hS hg hx hb hml hK hRm hcap hown q0 q1 q2 q3 q4 q5 q6 q7 q8 q9 hd (hT pc) z
  · simp only [Bool.and_eq_true, beq_iff_eq, decide_eq_true_eq, Bool.or_eq_true, Bool.not_eq_true'] at hc
    obtain ⟨rfl, hk0⟩ := hc
    obtain ⟨idx, rfl, hk⟩ := jc_ip_spec hk0
    rw [List.contains_iff_mem] at hk
    obtain ⟨q1, q2, q3⟩ := hKok _ hk
    rw [hcn] at q1
    exact jw_oinit hx hb hml hK hown q1 q2 q3 hRm.1 hRm.2 hd z
  · simp only [Bool.and_eq_true, beq_iff_eq, decide_eq_true_eq, Bool.or_eq_true, Bool.not_eq_true'] at hc
    obtain ⟨rfl, hk0⟩ := hc
    obtain ⟨idx, rfl, hk⟩ := jc_nw_spec hk0
    rw [List.contains_iff_mem] at hk
    obtain ⟨nm, q1, q2, q3, q4, q5, q6⟩ := hKok _ hk
    rw [hcn] at q4
    exact jw_xnew hx hb hK hown q2 q3 q1 q4 q5 q6 hcap.1 hcap.2 hd z
  · simp only [Bool.and_eq_true, beq_iff_eq, decide_eq_true_eq, Bool.or_eq_true, Bool.not_eq_true'] at hc
    obtain ⟨rfl, hk0⟩ := hc
    obtain ⟨idx, rfl, hk⟩ := jc_ip_spec hk0
    rw [List.contains_iff_mem] at hk
    obtain ⟨cls, names, q1, q2, q3, q4, q5, q6, q7⟩ := hKok _ hk
    rw [hcn] at q7
    exact jw_xinit hx hb hml h0 hl0 hK hown q2 q3 q1 q4 q5 q6 q7 hRm.1 hRm.2 hd z
  · simp only [Bool.and_eq_true, beq_iff_eq, decide_eq_true_eq] at hc
    obtain ⟨rfl, rfl⟩ := hc
    exact jw_athrow hx hb hd (hT pc) z
  · simp only [Bool.and_eq_true, beq_iff_eq, decide_eq_true_eq] at hc
    obtain ⟨⟨rfl, rfl⟩, h1⟩ := hc
    exact jw_iret hx hb (hr.trans h1) hlk hd z
  · simp only [Bool.and_eq_true, beq_iff_eq, decide_eq_true_eq] at hc
    obtain ⟨⟨rfl, rfl⟩, h1⟩ := hc
    exact jw_zret hx hb (hr.trans h1) hlk hd z
  · simp only [Bool.and_eq_true, beq_iff_eq, decide_eq_true_eq] at hc
    obtain ⟨⟨rfl, rfl⟩, h1⟩ := hc
    exact jw_vret hx hb (hr.trans h1) hlk hd z
  · cases hc
  · simp only [Bool.and_eq_true, beq_iff_eq, decide_eq_true_eq] at hc
    obtain ⟨rfl, rfl⟩ := hc
    exact jw_i2l hx hb hd z
  · simp only [Bool.and_eq_true, beq_iff_eq, decide_eq_true_eq] at hc
    obtain ⟨rfl, rfl⟩ := hc
    exact jw_lald hx hb hK hd z
  · simp only [Bool.and_eq_true, beq_iff_eq, decide_eq_true_eq] at hc
    obtain ⟨rfl, rfl⟩ := hc
    exact jw_last hx hb hK hd z
  · simp only [Bool.and_eq_true, beq_iff_eq, decide_eq_true_eq] at hc
    obtain ⟨rfl, rfl⟩ := hc
    exact jw_lcmp hx hb hd z
  · simp only [Bool.and_eq_true, beq_iff_eq, decide_eq_true_eq, Bool.or_eq_true, Bool.not_eq_true'] at hc
    obtain ⟨rfl, hk0⟩ := hc
    obtain ⟨idx, rfl, hk⟩ := jc_is_spec hk0
    rw [List.contains_iff_mem] at hk
    obtain ⟨q1, q2, q3, q4⟩ := hKok _ hk
    rw [hcn] at q1
    exact jw_max hx hb hml hK hown q1 q2 q3 q4 hRm.1 hRm.2 hd z
  · cases hc
  · simp only [Bool.and_eq_true, beq_iff_eq, decide_eq_true_eq, Bool.or_eq_true, Bool.not_eq_true'] at hc
    obtain ⟨rfl, hk0⟩ := hc
    obtain ⟨idx, rfl, hk⟩ := jc_is_spec hk0
    rw [List.contains_iff_mem] at hk
    obtain ⟨q1, q2, q3, q4⟩ := hKok _ hk
    rw [hcn] at q1
    exact jw_copy hx hb hml hK hown q1 q2 q3 q4 hRm.1 hRm.2 hd z
  · simp only [Bool.and_eq_true, beq_iff_eq, decide_eq_true_eq] at hc
    obtain ⟨rfl, rfl⟩ := hc
    exact jw_irem hx hb hd z
  · simp only [Bool.and_eq_true, beq_iff_eq, decide_eq_true_eq] at hc
    obtain ⟨rfl, rfl⟩ := hc
    exact jw_dupx1 hx hb hd z
  · exact z.elim
/-- **the abstract machine is sound** -/
theorem jm_sound {p : Program} {l : Launch} {e : Env} {G : jm_G} {J : jm_J} {Wg : List Cond} {M : jm_M} {pr : jm_Pr} {cn : Nat → String} {K : jm_K5} {oc : Nat → Nat} {ini : Nat → Bool} {ct : Nat → Nat → Nat → Bool}
    (hg : ∀ w ∈ Wg, jm_goodW w = true) (hJ : jg_J J Wg) (h0 : jg_0 G) (hl0 : l.stackTraces = false) (hKok : ∀ q ∈ K, jm_kok cn J Wg M pr.2.2.1 pr.2.2.2.1 q) (hcn : ∀ mi, cn (oc mi) = (M mi).1.cls) (hci : ∀ mi, ini mi = true → (M mi).1.name = "<init>")
    (hcj : ∀ t q, 0 < t → J.1[t]? = some q → cn t = q.1) (hwI : Cond.arrayClass .int ∈ Wg) (hwL : Cond.arrayClass .long ∈ Wg)
    (hcode : ∀ mi q, q ∈ pr.1 mi → ∃ ins, decode (M mi).2.1 q.1 = .ok (ins, q.2.2.1) ∧ jm_chk K J pr.2.2.2.2.1 (oc mi) (pr.2.2.1 mi) (ini mi) (M mi).2.2.1 q.1 ins q.2 = true)
    (hhd : ∀ mi, pr.2.1 mi = jm_hf (ct mi) (M mi).2.2.2)
    (hC : ∀ mi, ∀ q ∈ (M mi).2.2.2, q.2.2.2 ≠ 0 ∧ ∃ C, Cond.classLink (M mi).1.cls q.2.2.2 C ∈ Wg ∧ ∀ t nm, J.2.2.2 t = some nm → ∃ c c', G.2.2.2.2.2.2.2.2.vm.findClass nm = some c ∧ G.2.2.2.2.2.2.2.2.vm.findClass C = some c' ∧ G.2.2.2.2.2.2.2.2.vm.assignable c c' = ct mi q.2.2.2 (t + 1)) :
    ∀ d, jg_Snd G J Wg M pr.2.2.1 pr.2.2.2.2.2.2.2 pr.2.2.2.2.2.1 pr.2.2.2.2.2.2.1 p l e (jm_E pr d)
  | 0 => fun _ _ _ _ hE => hE.elim
  | d + 1 => by
    have hS := jm_sound (p := p) (l := l) (e := e) (pr := pr) (cn := cn) (K := K) (oc := oc) (ini := ini) (ct := ct) hg hJ h0 hl0 hKok hcn hci hcj hwI hwL hcode hhd hC d
    intro mi as h Q hE hc1 R s m below meth cd hF hK hRm hcap H hR hsH
    obtain ⟨hlen, hP⟩ := hE
    obtain ⟨arr, he, hLs⟩ := jg_Ls.entry (G := G) (n := pr.2.2.1 mi) hlen hc1 m
    rw [he]
    have key := hP (jg_P p l e R s m (as.map (jg_mv G)).toArray below meth cd G J (pr.2.2.1 mi) h.1 h.2.1 Q) (by
      rintro ⟨pc, ls, st, h'⟩ hc
      unfold jm_S at hc
      split at hc
      · rename_i i hi
        obtain ⟨ins, hd, hchk⟩ := hcode mi _ (jm_lookup_mem _ hi)
        exact jm_close (cn := cn) (oc := oc mi) (ini := ini mi) hS hg hJ h0 hl0 hKok (hcn mi) (hci mi) hcj hwI hwL hF hK hRm hcap (fun pc => by rw [hhd mi]; exact jw_T hF hK (hC mi)) hd hchk hc
      · exact hc.elim)
    have w := key H [] arr hR ⟨Nat.le_refl _, Nat.le_refl _, by show h.1 ≤ R.cells + h.1; omega, by show h.2.1 ≤ R.slots + h.2.1; omega⟩ (fun q hq => by cases hq) hLs
    have w' : W p l e R s m (as.map (jg_mv G)).toArray below meth cd H [] (h.1 - h.1) (h.2.1 - h.2.1) (jg_Z G J R s below h.1 h.2.1 Q) (F0 m 0 arr []) := w
    rw [Nat.sub_self, Nat.sub_self] at w'
    exact w'
