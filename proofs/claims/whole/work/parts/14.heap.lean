/-! Fields, arrays, new objects. -/
/-- what the tables of classes say, beside the words -/
def jg_J (J : jm_J) (Wg : List Cond) : Prop := ∀ t q, 0 < t → J.1[t]? = some q → t < 60 ∧ (∀ w ∈ u_ws q.1 q.2.1 q.2.2, w ∈ Wg) ∧ (∀ k, k < q.2.2 → parseFieldDescriptor (q.2.1 k).2.2.1 = some (J.2.1 t k)) ∧ (∀ a, a < q.2.2 → ∀ b, b < q.2.2 → a ≠ b → (q.2.1 a).2.1 ≠ (q.2.1 b).2.1)
theorem jg_catsum (G : jm_G) (st : List jm_V) : ((st.map (jg_mv G)).map fun v => v.category).sum = jm_cs st := by
  induction st with
  | nil => rfl
  | cons v t ih =>
    simp only [List.map_cons, List.sum_cons, ih]
    rcases v with v | v | v
    · rfl
    · cases v <;> rfl
    · rfl
section JA
variable {p : Program} {l : Launch} {e : Env} {R : Room} {s : State} {m : MethodId} {args : Array Value} {below : List Frame} {meth : Method} {cd : Code} {G : jm_G} {J : jm_J} {nL ns zs : Nat} {Q : jm_Q} {bs : ByteArray} {pc n : Nat} {ins : Instr} {ls : jm_Ls} {st : List jm_V} {h : jm_H} {Wg : List Cond}
theorem jw_get0 (hx : p.tables.exec = Jvm.exec) (hb : cd.code = bs) (hK : jg_K G J Wg s) (hJ : jg_J J Wg) {own : String} {idx : Nat} (hown : s.vm.findClass own = some m.cls) {x y : Nat} {q : vw_C} (hx0 : 0 < x) (hq : J.1[x]? = some q) (hy : y < q.2.2) (hdecl : (q.2.1 y).1 = q.1) (hlink : Cond.fieldLink own idx q.1 (q.2.1 y).2.1 (q.2.1 y).2.2.1 ∈ Wg)
    (hd : decode bs pc = .ok (.getfield idx, 3)) {a : Nat} (ht : jm_T h a = x) {H : Heap} (hR : jg_R G J h H) {locs : List Loc} {cells slots : Nat} {QQ : State → Prop} {arr : Array Slot} {rest : List Value}
    (w : W p l e R s m args below meth cd H locs cells slots QQ (F0 m (pc + 3) arr (jg_fv G (J.2.1 x) (h.2.2 a) y :: rest))) : W p l e R s m args below meth cd H locs cells slots QQ (F0 m pc arr (jg_mv G (.inr (.inl a)) :: rest)) := by
  obtain ⟨hx60, hin, hpt, hnm⟩ := hJ x q hx0 hq
  obtain ⟨hp1, hp2⟩ := hR.pos ht (by omega) (by omega)
  have hat := hR.at ht (by omega) (by omega)
  have ht' : (h.2.2 a).1 = x := ht
  obtain ⟨q', hq', cell, q1, q2, q3, q4⟩ := hat.obj (by omega)
  rw [ht'] at hq' q4
  have hqq : q' = q := Option.some.inj (hq'.symm.trans hq)
  subst hqq
  obtain ⟨hS, hfc, kC, hkC, hkind⟩ := hK.2.1 x q' hx0 hq
  obtain ⟨cf, kf, fi, f, hi, hsl⟩ := hS y hy
  have hst := (u_facts hfc hkC (u_lays (fun w hw => hK.1 w hw args) hin hy) hi).1
  rw [hdecl] at hi
  rw [jg_mv_obj G hp1]
  refine W.getf hx hb hown (hK.1 _ hlink args) hi hst q1 (by rw [q3]; exact fun h => by cases h) (v := jg_fv G (J.2.1 x) (h.2.2 a) y) ?_ rfl rfl hd w
  rw [hsl, q4 y hy]
theorem jw_geti (hx : p.tables.exec = Jvm.exec) (hb : cd.code = bs) (hK : jg_K G J Wg s) (hJ : jg_J J Wg) {own : String} {idx : Nat} (hown : s.vm.findClass own = some m.cls) {x y : Nat} {q : vw_C} (hx0 : 0 < x) (hq : J.1[x]? = some q) (hy : y < q.2.2) (hdecl : (q.2.1 y).1 = q.1) (hlink : Cond.fieldLink own idx q.1 (q.2.1 y).2.1 (q.2.1 y).2.2.1 ∈ Wg)
    (hty : jm_isI (J.2.1 x y) = true) (hd : decode bs pc = .ok (.getfield idx, 3)) (z : jo_geti (jg_P p l e R s m args below meth cd G J nL ns zs Q) (pc + 3) ls st h x y) : jg_P p l e R s m args below meth cd G J nL ns zs Q (pc, ls, st, h) := by
  intro H locs arr hR hn hl hL
  replace hR : jg_R G J h H := hR
  replace hn : ns ≤ h.1 ∧ zs ≤ h.2.1 ∧ h.1 ≤ R.cells + ns ∧ h.2.1 ≤ R.slots + zs := hn
  replace hL : jg_Ls G arr nL ls := hL
  unfold jo_geti at z
  split at z
  · rename_i a st
    obtain ⟨ht, z⟩ := z
    have w := z H locs arr hR hn hl hL
    refine jw_get0 hx hb hK hJ hown hx0 hq hy hdecl hlink hd ht hR ?_
    have ev : jg_fv G (J.2.1 x) (h.2.2 a) y = .int (jm_I h a y) := by unfold jg_fv; rw [if_pos hty]; rfl
    rw [ev]
    exact w
  · exact z.elim
theorem jw_getr (hx : p.tables.exec = Jvm.exec) (hb : cd.code = bs) (hK : jg_K G J Wg s) (hJ : jg_J J Wg) {own : String} {idx : Nat} (hown : s.vm.findClass own = some m.cls) {x y : Nat} {q : vw_C} (hx0 : 0 < x) (hq : J.1[x]? = some q) (hy : y < q.2.2) (hdecl : (q.2.1 y).1 = q.1) (hlink : Cond.fieldLink own idx q.1 (q.2.1 y).2.1 (q.2.1 y).2.2.1 ∈ Wg)
    (hty : jm_isI (J.2.1 x y) = false) (hd : decode bs pc = .ok (.getfield idx, 3)) (z : jo_getr (jg_P p l e R s m args below meth cd G J nL ns zs Q) (pc + 3) ls st h x y) : jg_P p l e R s m args below meth cd G J nL ns zs Q (pc, ls, st, h) := by
  intro H locs arr hR hn hl hL
  replace hR : jg_R G J h H := hR
  replace hn : ns ≤ h.1 ∧ zs ≤ h.2.1 ∧ h.1 ≤ R.cells + ns ∧ h.2.1 ≤ R.slots + zs := hn
  replace hL : jg_Ls G arr nL ls := hL
  unfold jo_getr at z
  split at z
  · rename_i a st
    obtain ⟨ht, z⟩ := z
    have w := z H locs arr hR hn hl hL
    refine jw_get0 hx hb hK hJ hown hx0 hq hy hdecl hlink hd ht hR ?_
    have ev : jg_fv G (J.2.1 x) (h.2.2 a) y = jg_mv G (.inr (.inl (jm_F h a y))) := by unfold jg_fv; rw [if_neg (by rw [hty]; decide)]; rfl
    rw [ev]
    exact w
  · exact z.elim
theorem jw_put0 (hx : p.tables.exec = Jvm.exec) (hb : cd.code = bs) (hK : jg_K G J Wg s) (hJ : jg_J J Wg) {own : String} {idx : Nat} (hown : s.vm.findClass own = some m.cls) {x y : Nat} {q : vw_C} (hx0 : 0 < x) (hq : J.1[x]? = some q) (hy : y < q.2.2) (hdecl : (q.2.1 y).1 = q.1) (hlink : Cond.fieldLink own idx q.1 (q.2.1 y).2.1 (q.2.1 y).2.2.1 ∈ Wg)
    (hfin : (q.2.1 y).2.2.2 = false ∨ (q.1 = own ∧ meth.name = "<init>")) (hd : decode bs pc = .ok (.putfield idx, 3)) {a : Nat} (ht : jm_T h a = x) {H : Heap} (hR : jg_R G J h H) {v : Value} (hnw : narrow (J.2.1 x y) v = v) (hfit : fits (J.2.1 x y) v = true)
    {h' : jm_H} (e1 : h'.1 = h.1) (e3 : ∀ r, r ≠ a → h'.2.2 r = h.2.2 r) (e4 : (h'.2.2 a).1 = x) (e5 : ∀ k, k < q.2.2 → updV (jg_fv G (J.2.1 x) (h.2.2 a)) y v k = jg_fv G (J.2.1 x) (h'.2.2 a) k)
    {locs : List Loc} (hl : ∀ q ∈ locs, G.2.1 ≤ q.base) {cells slots : Nat} {QQ : State → Prop} {arr : Array Slot} {rest : List Value}
    (kk : ∀ (H' : Heap) (locs' : List Loc), jg_R G J h' H' → (∀ q ∈ locs', G.2.1 ≤ q.base) → W p l e R s m args below meth cd H' locs' cells slots QQ (F0 m (pc + 3) arr rest)) : W p l e R s m args below meth cd H locs cells slots QQ (F0 m pc arr (v :: jg_mv G (.inr (.inl a)) :: rest)) := by
  obtain ⟨hx60, hin, hpt, hnm⟩ := hJ x q hx0 hq
  obtain ⟨hp1, hp2⟩ := hR.pos ht (by omega) (by omega)
  have hat := hR.at ht (by omega) (by omega)
  have ht' : (h.2.2 a).1 = x := ht
  obtain ⟨q', hq', cell, q1, q2, q3, q4⟩ := hat.obj (by omega)
  rw [ht'] at hq' q4 q2
  have hqq : q' = q := Option.some.inj (hq'.symm.trans hq)
  subst hqq
  have hts : ∀ w ∈ Wg, w.before args s = true := fun w hw => hK.1 w hw args
  obtain ⟨hS, hfc, kC, hkC, hkind⟩ := hK.2.1 x q' hx0 hq
  have hap : ∀ i j, i < q'.2.2 → j < q'.2.2 → i ≠ j → (G.2.2.2.1.2 x) i ≠ (G.2.2.2.1.2 x) j := by
    intro i j hi hj hne
    obtain ⟨_, _, _, fa, hia, ea⟩ := hS i hi
    obtain ⟨_, _, _, fb, hib, eb⟩ := hS j hj
    rw [← ea, ← eb]
    refine u_apart (u_lays hts hin hi) (u_lays hts hin hj) hia hib ?_
    rw [(State.fieldFound?_type hia (hpt i hi)).1, (State.fieldFound?_type hib (hpt j hj)).1]
    exact hnm i hi j hj hne
  obtain ⟨cf, kf, fi, f, hi, hsl⟩ := hS y hy
  have hst := (u_facts hfc hkC (u_lays hts hin hy) hi).1
  have hlay := hts _ (hin _ (u_in_lay hy))
  unfold u_lay at hlay
  rw [jg_mv_obj G hp1]
  have hend : ∀ H' : Heap, H'[G.2.1 + (a - 2)]? = some (cell.setSlot f.slot v) → H'.size = H.size → (∀ q, q ≠ G.2.1 + (a - 2) → H'[q]? = H[q]?) → W p l e R s m args below meth cd H' (locs ++ [⟨G.2.1 + (a - 2), f.slot⟩]) cells slots QQ (F0 m (pc + 3) arr rest) := by
    intro H' g1 g2 g3
    refine kk H' _ (hR.upd hp1 hp2 e1 e3 g2 g3 (jg_at.mkO (by omega) ?_)) (fun z hz => ?_)
    · rw [e4]
      refine ⟨q', hq, t_OB.to (V := updV (jg_fv G (J.2.1 x) (h.2.2 a)) y v) ⟨_, g1, q2, q3, ?_⟩ e5⟩
      rw [hsl]
      exact t_set q4 hap hy v
    · rcases List.mem_append.mp hz with hz | hz
      · exact hl z hz
      · rw [List.mem_singleton.mp hz]
        exact Nat.le_add_right _ _
  have hlt : f.slot < cell.slots.size := by rw [hsl]; exact k2_hasslot (q4 y hy)
  by_cases hf : (q'.2.1 y).2.2.2 = true
  · rw [if_pos hf] at hlay
    rcases hfin with hfin | ⟨ho, hini⟩
    · rw [hf] at hfin; cases hfin
    · have hcf : m.cls = cf := by
        obtain ⟨_, _, c', _, _, _, -, -, hf', -, -, -, hown2, -⟩ := Cond.laysFinal_spec hlay
        have e1 : c' = cf := by have := hi.symm.trans hf'; simp at this; exact this.1.symm
        rw [hdecl, ho] at hown2
        rw [← e1]; exact Option.some.inj (hown.symm.trans hown2)
      have h6 := u_fits hfc hkC hkind (Or.inr hlay) hi (hpt y hy) hnw hfit
      rw [hdecl] at hi
      exact W.putFinK hx hb hown (hts _ hlink) hi hst hcf hini (by rw [q2]; exact h6) q1 q3 hlt rfl rfl hd hend
  · rw [if_neg hf] at hlay
    have h6 := u_store hfc hkC hkind hlay hi (hpt y hy) hnw hfit
    rw [hdecl] at hi
    exact W.putK hx hb (f := f) ⟨hown, hts _ hlink, ⟨_, _, _, hi⟩, hst⟩ (by rw [q2]; exact h6) q1 q3 hlt rfl rfl hd hend
theorem jw_puti (hx : p.tables.exec = Jvm.exec) (hb : cd.code = bs) (hK : jg_K G J Wg s) (hJ : jg_J J Wg) {own : String} {idx : Nat} (hown : s.vm.findClass own = some m.cls) {x y : Nat} {q : vw_C} (hx0 : 0 < x) (hq : J.1[x]? = some q) (hy : y < q.2.2) (hdecl : (q.2.1 y).1 = q.1) (hlink : Cond.fieldLink own idx q.1 (q.2.1 y).2.1 (q.2.1 y).2.2.1 ∈ Wg)
    (hfin : (q.2.1 y).2.2.2 = false ∨ (q.1 = own ∧ meth.name = "<init>")) (hty : J.2.1 x y = .int) (hd : decode bs pc = .ok (.putfield idx, 3)) (z : jo_puti (jg_P p l e R s m args below meth cd G J nL ns zs Q) (pc + 3) ls st h x y) : jg_P p l e R s m args below meth cd G J nL ns zs Q (pc, ls, st, h) := by
  intro H locs arr hR hn hl hL
  replace hR : jg_R G J h H := hR
  replace hn : ns ≤ h.1 ∧ zs ≤ h.2.1 ∧ h.1 ≤ R.cells + ns ∧ h.2.1 ≤ R.slots + zs := hn
  replace hL : jg_Ls G arr nL ls := hL
  unfold jo_puti at z
  split at z
  · rename_i v a st
    obtain ⟨ht, z⟩ := z
    have ea : (jm_sI h a y v).2.2 a = ((h.2.2 a).1, (h.2.2 a).2.1, jm_up (h.2.2 a).2.2.1 y v, (h.2.2 a).2.2.2) := jm_up_self _ _ _
    refine jw_put0 hx hb hK hJ hown hx0 hq hy hdecl hlink hfin hd ht hR (v := .int v) (by rw [hty]; rfl) (by rw [hty]; rfl) (h' := jm_sI h a y v) rfl (fun r hr => jm_up_ne _ _ hr) (by rw [ea]; exact ht) (fun k _ => ?_) hl (fun H' locs' hR' hl' => z H' locs' arr hR' hn hl' hL)
    rw [ea]
    unfold updV jg_fv
    by_cases hk : k = y
    · subst hk
      rw [if_pos rfl, if_pos (by rw [hty]; rfl)]
      show _ = Value.int (jm_up _ k v k)
      rw [jm_up_self]
    · rw [if_neg hk]
      show _ = if jm_isI (J.2.1 x k) = true then Value.int (jm_up (h.2.2 a).2.2.1 y v k) else _
      rw [jm_up_ne _ _ hk]
  · exact z.elim
theorem jw_putz (hx : p.tables.exec = Jvm.exec) (hb : cd.code = bs) (hK : jg_K G J Wg s) (hJ : jg_J J Wg) {own : String} {idx : Nat} (hown : s.vm.findClass own = some m.cls) {x y : Nat} {q : vw_C} (hx0 : 0 < x) (hq : J.1[x]? = some q) (hy : y < q.2.2) (hdecl : (q.2.1 y).1 = q.1) (hlink : Cond.fieldLink own idx q.1 (q.2.1 y).2.1 (q.2.1 y).2.2.1 ∈ Wg)
    (hfin : (q.2.1 y).2.2.2 = false ∨ (q.1 = own ∧ meth.name = "<init>")) (hty : J.2.1 x y = .boolean) (hd : decode bs pc = .ok (.putfield idx, 3)) (z : jo_putz (jg_P p l e R s m args below meth cd G J nL ns zs Q) (pc + 3) ls st h x y) : jg_P p l e R s m args below meth cd G J nL ns zs Q (pc, ls, st, h) := by
  intro H locs arr hR hn hl hL
  replace hR : jg_R G J h H := hR
  replace hn : ns ≤ h.1 ∧ zs ≤ h.2.1 ∧ h.1 ≤ R.cells + ns ∧ h.2.1 ≤ R.slots + zs := hn
  replace hL : jg_Ls G arr nL ls := hL
  unfold jo_putz at z
  split at z
  · rename_i v a st
    obtain ⟨ht, hv, z⟩ := z
    have ea : (jm_sI h a y v).2.2 a = ((h.2.2 a).1, (h.2.2 a).2.1, jm_up (h.2.2 a).2.2.1 y v, (h.2.2 a).2.2.2) := jm_up_self _ _ _
    refine jw_put0 hx hb hK hJ hown hx0 hq hy hdecl hlink hfin hd ht hR (v := .int v) (by rw [hty]; rcases hv with rfl | rfl <;> rfl) (by rw [hty]; rcases hv with rfl | rfl <;> rfl) (h' := jm_sI h a y v) rfl (fun r hr => jm_up_ne _ _ hr) (by rw [ea]; exact ht) (fun k _ => ?_) hl (fun H' locs' hR' hl' => z H' locs' arr hR' hn hl' hL)
    rw [ea]
    unfold updV jg_fv
    by_cases hk : k = y
    · subst hk
      rw [if_pos rfl, if_pos (by rw [hty]; rfl)]
      show _ = Value.int (jm_up _ k v k)
      rw [jm_up_self]
    · rw [if_neg hk]
      show _ = if jm_isI (J.2.1 x k) = true then Value.int (jm_up (h.2.2 a).2.2.1 y v k) else _
      rw [jm_up_ne _ _ hk]
  · exact z.elim
theorem jw_putr (hx : p.tables.exec = Jvm.exec) (hb : cd.code = bs) (hK : jg_K G J Wg s) (hJ : jg_J J Wg) {own : String} {idx : Nat} (hown : s.vm.findClass own = some m.cls) {x y : Nat} {q : vw_C} (hx0 : 0 < x) (hq : J.1[x]? = some q) (hy : y < q.2.2) (hdecl : (q.2.1 y).1 = q.1) (hlink : Cond.fieldLink own idx q.1 (q.2.1 y).2.1 (q.2.1 y).2.2.1 ∈ Wg)
    (hfin : (q.2.1 y).2.2.2 = false ∨ (q.1 = own ∧ meth.name = "<init>")) (hty : (∃ c, J.2.1 x y = .object c) ∨ ∃ t, J.2.1 x y = .array t) (hd : decode bs pc = .ok (.putfield idx, 3)) (z : jo_putr (jg_P p l e R s m args below meth cd G J nL ns zs Q) (pc + 3) ls st h x y) : jg_P p l e R s m args below meth cd G J nL ns zs Q (pc, ls, st, h) := by
  intro H locs arr hR hn hl hL
  replace hR : jg_R G J h H := hR
  replace hn : ns ≤ h.1 ∧ zs ≤ h.2.1 ∧ h.1 ≤ R.cells + ns ∧ h.2.1 ≤ R.slots + zs := hn
  replace hL : jg_Ls G arr nL ls := hL
  unfold jo_putr at z
  split at z
  · rename_i v a st
    obtain ⟨ht, z⟩ := z
    have ea : (jm_sF h a y v).2.2 a = ((h.2.2 a).1, (h.2.2 a).2.1, (h.2.2 a).2.2.1, jm_up (h.2.2 a).2.2.2.1 y v, (h.2.2 a).2.2.2.2) := jm_up_self _ _ _
    have hni : ¬ jm_isI (J.2.1 x y) = true := by rcases hty with ⟨c, hc⟩ | ⟨c, hc⟩ <;> rw [hc] <;> exact fun q => by cases q
    refine jw_put0 hx hb hK hJ hown hx0 hq hy hdecl hlink hfin hd ht hR (v := jg_mv G (.inr (.inl v))) (by rcases hty with ⟨c, hc⟩ | ⟨c, hc⟩ <;> rw [hc] <;> cases v <;> rfl) (by rcases hty with ⟨c, hc⟩ | ⟨c, hc⟩ <;> rw [hc] <;> cases v <;> rfl) (h' := jm_sF h a y v) rfl (fun r hr => jm_up_ne _ _ hr) (by rw [ea]; exact ht) (fun k _ => ?_) hl (fun H' locs' hR' hl' => z H' locs' arr hR' hn hl' hL)
    rw [ea]
    unfold updV jg_fv
    by_cases hk : k = y
    · subst hk
      rw [if_pos rfl, if_neg hni]
      show _ = jg_mv G (.inr (.inl (jm_up _ k v k)))
      rw [jm_up_self]
    · rw [if_neg hk]
      show _ = if jm_isI (J.2.1 x k) = true then _ else jg_mv G (.inr (.inl (jm_up (h.2.2 a).2.2.2.1 y v k)))
      rw [jm_up_ne _ _ hk]
  · exact z.elim
theorem jw_iald (hx : p.tables.exec = Jvm.exec) (hb : cd.code = bs) (hK : jg_K G J Wg s) (hd : decode bs pc = .ok (.iaload, 1)) (z : jo_iald (jg_P p l e R s m args below meth cd G J nL ns zs Q) (pc + 1) ls st h 100) : jg_P p l e R s m args below meth cd G J nL ns zs Q (pc, ls, st, h) := by
  intro H locs arr hR hn hl hL
  replace hR : jg_R G J h H := hR
  replace hn : ns ≤ h.1 ∧ zs ≤ h.2.1 ∧ h.1 ≤ R.cells + ns ∧ h.2.1 ≤ R.slots + zs := hn
  replace hL : jg_Ls G arr nL ls := hL
  unfold jo_iald at z
  split at z
  · rename_i j a st
    obtain ⟨ht, hj, z⟩ := z
    obtain ⟨hp1, hp2⟩ := hR.pos ht (by omega) (by omega)
    have hc : H[G.2.1 + (a - 2)]? = some (arrV G.2.2.2.2.1 (jm_N h a) (fun j => .int (jm_I h a j))) := (hR.at ht (by omega) (by omega)).arrI ht
    obtain ⟨hj1, hj2⟩ := jm_in_spec hj
    show W p l e R s m args below meth cd H locs _ _ _ (F0 m pc arr (.int j :: jg_mv G (.inr (.inl a)) :: st.map (jg_mv G)))
    rw [jg_mv_obj G hp1]
    exact W.iald (v := .int (jm_I h a (jm_ix j))) hx hb hc (hK.2.2.1.1 _ _) (fun q => by cases q) (by rw [arrV_size]; exact hj1) (by rw [arrV_read _ _ hj2]; rfl) rfl rfl hd (z H locs arr hR hn hl hL)
  · exact z.elim
theorem jw_sald (hx : p.tables.exec = Jvm.exec) (hb : cd.code = bs) (hK : jg_K G J Wg s) (hd : decode bs pc = .ok (.iaload, 1)) (h1 : ∀ a, jm_T h a = 99 → a = 1) (z : jo_iald (jg_P p l e R s m args below meth cd G J nL ns zs Q) (pc + 1) ls st h 99) : jg_P p l e R s m args below meth cd G J nL ns zs Q (pc, ls, st, h) := by
  intro H locs arr hR hn hl hL
  replace hR : jg_R G J h H := hR
  replace hn : ns ≤ h.1 ∧ zs ≤ h.2.1 ∧ h.1 ≤ R.cells + ns ∧ h.2.1 ≤ R.slots + zs := hn
  replace hL : jg_Ls G arr nL ls := hL
  unfold jo_iald at z
  split at z
  · rename_i j a st
    obtain ⟨ht, hj, z⟩ := z
    obtain rfl := h1 a ht
    obtain ⟨-, -, -, s1, s2, s3, s4, s5⟩ := id hR
    obtain ⟨hj1, hj2⟩ := jm_in_spec hj
    exact W.iald (v := .int (jm_I h 1 (jm_ix j))) hx hb s2 hK.2.2.2.2.1 s3 (by rw [s4]; exact hj1) (s5 _ hj2) rfl rfl hd (z H locs arr hR hn hl hL)
  · exact z.elim
theorem jg_R.one {H : Heap} (hR : jg_R G J h H) {a : Nat} (ht : jm_T h a = 99) : a = 1 := by
  obtain ⟨hp, hz, hA, -⟩ := hR
  by_cases h0 : a = 0 ∨ h.1 ≤ a
  · have := hz a h0
    rw [ht] at this; cases this
  · by_cases h1 : a = 1
    · exact h1
    · have hat := hA a (by omega) (by omega)
      have ht' : (h.2.2 a).1 = 99 := ht
      unfold jg_at at hat
      rw [if_neg (by omega), if_neg (by omega), if_neg (by omega), if_neg (by omega), if_pos (by omega)] at hat
      exact hat.elim
theorem jw_sald' (hx : p.tables.exec = Jvm.exec) (hb : cd.code = bs) (hK : jg_K G J Wg s) (hd : decode bs pc = .ok (.iaload, 1)) (z : jo_iald (jg_P p l e R s m args below meth cd G J nL ns zs Q) (pc + 1) ls st h 99) : jg_P p l e R s m args below meth cd G J nL ns zs Q (pc, ls, st, h) :=
  fun H locs arr hR hn hl hL => jw_sald hx hb hK hd (fun _ ht => hR.one ht) z H locs arr hR hn hl hL
theorem jw_alen (hx : p.tables.exec = Jvm.exec) (hb : cd.code = bs) (hK : jg_K G J Wg s) (hd : decode bs pc = .ok (.arraylength, 1)) {t : Nat} (htt : t = 100 ∨ (60 ≤ t ∧ t < 99 ∧ ∃ ty, J.2.2.1 t = some ty)) (z : jo_alen (jg_P p l e R s m args below meth cd G J nL ns zs Q) (pc + 1) ls st h t) : jg_P p l e R s m args below meth cd G J nL ns zs Q (pc, ls, st, h) := by
  intro H locs arr hR hn hl hL
  replace hR : jg_R G J h H := hR
  replace hn : ns ≤ h.1 ∧ zs ≤ h.2.1 ∧ h.1 ≤ R.cells + ns ∧ h.2.1 ≤ R.slots + zs := hn
  replace hL : jg_Ls G arr nL ls := hL
  unfold jo_alen at z
  split at z
  · rename_i a st
    obtain ⟨ht, z⟩ := z
    have ht' : (h.2.2 a).1 = t := ht
    obtain ⟨hp1, hp2⟩ := hR.pos ht (by omega) (by omega)
    have hat := hR.at ht (by omega) (by omega)
    show W p l e R s m args below meth cd H locs _ _ _ (F0 m pc arr (jg_mv G (.inr (.inl a)) :: st.map (jg_mv G)))
    rw [jg_mv_obj G hp1]
    rcases htt with rfl | ⟨h1, h2, ty, hty⟩
    · exact W.alen (n := Int32.ofNat (jm_N h a)) hx hb (hat.arrI ht) (hK.2.2.1.1 _ _) (by rw [arrV_size]; rfl) rfl rfl hd (z H locs arr hR hn hl hL)
    · have hc := hat.arrR (by omega) (by omega)
      rw [ht'] at hc
      exact W.alen (n := Int32.ofNat (jm_N h a)) hx hb hc ((hK.2.2.2.2.2.1 t ty hty).1 _ _) (by rw [arrV_size]; rfl) rfl rfl hd (z H locs arr hR hn hl hL)
  · exact z.elim
theorem jw_slen (hx : p.tables.exec = Jvm.exec) (hb : cd.code = bs) (hK : jg_K G J Wg s) (hd : decode bs pc = .ok (.arraylength, 1)) (z : jo_alen (jg_P p l e R s m args below meth cd G J nL ns zs Q) (pc + 1) ls st h 99) : jg_P p l e R s m args below meth cd G J nL ns zs Q (pc, ls, st, h) := by
  intro H locs arr hR hn hl hL
  replace hR : jg_R G J h H := hR
  replace hn : ns ≤ h.1 ∧ zs ≤ h.2.1 ∧ h.1 ≤ R.cells + ns ∧ h.2.1 ≤ R.slots + zs := hn
  replace hL : jg_Ls G arr nL ls := hL
  unfold jo_alen at z
  split at z
  · rename_i a st
    obtain ⟨ht, z⟩ := z
    obtain rfl := hR.one ht
    obtain ⟨-, -, -, s1, s2, s3, s4, s5⟩ := id hR
    exact W.alen (n := Int32.ofNat (jm_N h 1)) hx hb s2 hK.2.2.2.2.1 (by rw [s4]) rfl rfl hd (z H locs arr hR hn hl hL)
  · exact z.elim
theorem jl_app {a i : Nat} {locs : List Loc} (hl : ∀ q ∈ locs, G.2.1 ≤ q.base) (ha : G.2.1 ≤ a) : ∀ q ∈ locs ++ [(⟨a, i⟩ : Loc)], G.2.1 ≤ q.base := fun z hz => by
  rcases List.mem_append.mp hz with hz | hz
  · exact hl z hz
  · rw [List.mem_singleton.mp hz]; exact ha
theorem jw_iast (hx : p.tables.exec = Jvm.exec) (hb : cd.code = bs) (hK : jg_K G J Wg s) (hd : decode bs pc = .ok (.iastore, 1)) (z : jo_iast (jg_P p l e R s m args below meth cd G J nL ns zs Q) (pc + 1) ls st h) : jg_P p l e R s m args below meth cd G J nL ns zs Q (pc, ls, st, h) := by
  intro H locs arr hR hn hl hL
  replace hR : jg_R G J h H := hR
  replace hn : ns ≤ h.1 ∧ zs ≤ h.2.1 ∧ h.1 ≤ R.cells + ns ∧ h.2.1 ≤ R.slots + zs := hn
  replace hL : jg_Ls G arr nL ls := hL
  unfold jo_iast at z
  split at z
  · rename_i v j a st
    obtain ⟨ht, hj, z⟩ := z
    obtain ⟨hp1, hp2⟩ := hR.pos ht (by omega) (by omega)
    have hc : H[G.2.1 + (a - 2)]? = some (arrV G.2.2.2.2.1 (jm_N h a) (fun j => .int (jm_I h a j))) := (hR.at ht (by omega) (by omega)).arrI ht
    obtain ⟨hj1, hj2⟩ := jm_in_spec hj
    show W p l e R s m args below meth cd H locs _ _ _ (F0 m pc arr (.int v :: .int j :: jg_mv G (.inr (.inl a)) :: st.map (jg_mv G)))
    rw [jg_mv_obj G hp1]
    refine W.iast hx hb hc (hK.2.2.1.1 _ _) (fun q => by cases q) (by rw [arrV_size]; exact hj1) rfl rfl hd fun H' g1 g2 g3 => ?_
    have ea : (jm_sI h a (jm_ix j) v).2.2 a = ((h.2.2 a).1, (h.2.2 a).2.1, jm_up (h.2.2 a).2.2.1 (jm_ix j) v, (h.2.2 a).2.2.2) := jm_up_self _ _ _
    refine z H' _ arr (hR.upd hp1 hp2 rfl (fun r hr => jm_up_ne _ _ hr) g2 g3 (jg_at.mkI (by rw [ea]; exact ht) ?_)) hn (jl_app hl (Nat.le_add_right _ _)) hL
    rw [ea, g1, arrV_store]
    congr 2
    funext k
    unfold updV
    show (if k = jm_ix j then Value.int v else Value.int (jm_I h a k)) = Value.int (jm_up _ _ v k)
    unfold jm_up
    by_cases hk : k = jm_ix j
    · rw [if_pos hk, if_pos hk]
    · rw [if_neg hk, if_neg hk]; rfl
  · exact z.elim
theorem jw_lald (hx : p.tables.exec = Jvm.exec) (hb : cd.code = bs) (hK : jg_K G J Wg s) (hd : decode bs pc = .ok (.laload, 1)) (z : jo_lald (jg_P p l e R s m args below meth cd G J nL ns zs Q) (pc + 1) ls st h) : jg_P p l e R s m args below meth cd G J nL ns zs Q (pc, ls, st, h) := by
  intro H locs arr hR hn hl hL
  replace hR : jg_R G J h H := hR
  replace hn : ns ≤ h.1 ∧ zs ≤ h.2.1 ∧ h.1 ≤ R.cells + ns ∧ h.2.1 ≤ R.slots + zs := hn
  replace hL : jg_Ls G arr nL ls := hL
  unfold jo_lald at z
  split at z
  · rename_i j a st
    obtain ⟨ht, hj, z⟩ := z
    obtain ⟨hp1, hp2⟩ := hR.pos ht (by omega) (by omega)
    have hc : H[G.2.1 + (a - 2)]? = some (arrV G.2.2.2.2.2.1 (jm_N h a) (fun j => .long (jm_L h a j))) := (hR.at ht (by omega) (by omega)).arrL ht
    obtain ⟨hj1, hj2⟩ := jm_in_spec hj
    show W p l e R s m args below meth cd H locs _ _ _ (F0 m pc arr (.int j :: jg_mv G (.inr (.inl a)) :: st.map (jg_mv G)))
    rw [jg_mv_obj G hp1]
    exact W.lald (v := .long (jm_L h a (jm_ix j))) hx hb hc (hK.2.2.2.1.1 _ _) (fun q => by cases q) (by rw [arrV_size]; exact hj1) (by rw [arrV_read _ _ hj2]; rfl) rfl rfl hd (z H locs arr hR hn hl hL)
  · exact z.elim
theorem jw_last (hx : p.tables.exec = Jvm.exec) (hb : cd.code = bs) (hK : jg_K G J Wg s) (hd : decode bs pc = .ok (.lastore, 1)) (z : jo_last (jg_P p l e R s m args below meth cd G J nL ns zs Q) (pc + 1) ls st h) : jg_P p l e R s m args below meth cd G J nL ns zs Q (pc, ls, st, h) := by
  intro H locs arr hR hn hl hL
  replace hR : jg_R G J h H := hR
  replace hn : ns ≤ h.1 ∧ zs ≤ h.2.1 ∧ h.1 ≤ R.cells + ns ∧ h.2.1 ≤ R.slots + zs := hn
  replace hL : jg_Ls G arr nL ls := hL
  unfold jo_last at z
  split at z
  · rename_i v j a st
    obtain ⟨ht, hj, z⟩ := z
    obtain ⟨hp1, hp2⟩ := hR.pos ht (by omega) (by omega)
    have hc : H[G.2.1 + (a - 2)]? = some (arrV G.2.2.2.2.2.1 (jm_N h a) (fun j => .long (jm_L h a j))) := (hR.at ht (by omega) (by omega)).arrL ht
    obtain ⟨hj1, hj2⟩ := jm_in_spec hj
    show W p l e R s m args below meth cd H locs _ _ _ (F0 m pc arr (.long v :: .int j :: jg_mv G (.inr (.inl a)) :: st.map (jg_mv G)))
    rw [jg_mv_obj G hp1]
    refine W.last hx hb hc (hK.2.2.2.1.1 _ _) (fun q => by cases q) (by rw [arrV_size]; exact hj1) rfl rfl hd fun H' g1 g2 g3 => ?_
    have ea : (jm_sL h a (jm_ix j) v).2.2 a = ((h.2.2 a).1, (h.2.2 a).2.1, (h.2.2 a).2.2.1, (h.2.2 a).2.2.2.1, jm_up (h.2.2 a).2.2.2.2 (jm_ix j) v) := jm_up_self _ _ _
    refine z H' _ arr (hR.upd hp1 hp2 rfl (fun r hr => jm_up_ne _ _ hr) g2 g3 (jg_at.mkL (by rw [ea]; exact ht) ?_)) hn (jl_app hl (Nat.le_add_right _ _)) hL
    rw [ea, g1, arrV_store]
    congr 2
    funext k
    unfold updV
    show (if k = jm_ix j then Value.long v else Value.long (jm_L h a k)) = Value.long (jm_up _ _ v k)
    unfold jm_up
    by_cases hk : k = jm_ix j
    · rw [if_pos hk, if_pos hk]
    · rw [if_neg hk, if_neg hk]; rfl
  · exact z.elim
theorem jw_aald (hx : p.tables.exec = Jvm.exec) (hb : cd.code = bs) (hK : jg_K G J Wg s) (hd : decode bs pc = .ok (.aaload, 1)) {t : Nat} (h1 : 60 ≤ t) (h2 : t < 99) {ty : FieldType} (hty : J.2.2.1 t = some ty) (hr : ty.isReference = true) (z : jo_aald (jg_P p l e R s m args below meth cd G J nL ns zs Q) (pc + 1) ls st h t) : jg_P p l e R s m args below meth cd G J nL ns zs Q (pc, ls, st, h) := by
  intro H locs arr hR hn hl hL
  replace hR : jg_R G J h H := hR
  replace hn : ns ≤ h.1 ∧ zs ≤ h.2.1 ∧ h.1 ≤ R.cells + ns ∧ h.2.1 ≤ R.slots + zs := hn
  replace hL : jg_Ls G arr nL ls := hL
  unfold jo_aald at z
  split at z
  · rename_i j a st
    obtain ⟨ht, hj, z⟩ := z
    have ht' : (h.2.2 a).1 = t := ht
    obtain ⟨hp1, hp2⟩ := hR.pos ht (by omega) (by omega)
    have hc0 := (hR.at ht (by omega) (by omega)).arrR (by omega) (by omega)
    rw [ht'] at hc0
    have hc : H[G.2.1 + (a - 2)]? = some (arrV (G.2.2.2.2.2.2.1 t) (jm_N h a) (fun j => jg_mv G (.inr (.inl (jm_F h a j))))) := hc0
    obtain ⟨hj1, hj2⟩ := jm_in_spec hj
    show W p l e R s m args below meth cd H locs _ _ _ (F0 m pc arr (.int j :: jg_mv G (.inr (.inl a)) :: st.map (jg_mv G)))
    rw [jg_mv_obj G hp1]
    exact W.aald (v := jg_mv G (.inr (.inl (jm_F h a (jm_ix j))))) (ty := ty) hx hb hc ((hK.2.2.2.2.2.1 t ty hty).1 _ _) hr (fun q => by cases q) (by rw [arrV_size]; exact hj1) (by rw [arrV_read _ _ hj2]; rfl) rfl rfl hd (z H locs arr hR hn hl hL)
  · exact z.elim
theorem jw_aast (hx : p.tables.exec = Jvm.exec) (hb : cd.code = bs) (hK : jg_K G J Wg s) (hd : decode bs pc = .ok (.aastore, 1)) {t y : Nat} (h1 : 60 ≤ t) (h2 : t < 99) (hy0 : 0 < y) (hy6 : y < 60) {q : vw_C} (hq : J.1[y]? = some q) (hty : J.2.2.1 t = some (.object q.1)) (z : jo_aast (jg_P p l e R s m args below meth cd G J nL ns zs Q) (pc + 1) ls st h t y) : jg_P p l e R s m args below meth cd G J nL ns zs Q (pc, ls, st, h) := by
  intro H locs arr hR hn hl hL
  replace hR : jg_R G J h H := hR
  replace hn : ns ≤ h.1 ∧ zs ≤ h.2.1 ∧ h.1 ≤ R.cells + ns ∧ h.2.1 ≤ R.slots + zs := hn
  replace hL : jg_Ls G arr nL ls := hL
  unfold jo_aast at z
  split at z
  · rename_i v j a st
    obtain ⟨ht, hj, hv, z⟩ := z
    have ht' : (h.2.2 a).1 = t := ht
    have hv' : (h.2.2 v).1 = y := hv
    obtain ⟨hp1, hp2⟩ := hR.pos ht (by omega) (by omega)
    obtain ⟨hv1, hv2⟩ := hR.pos hv (by omega) (by omega)
    have hc0 := (hR.at ht (by omega) (by omega)).arrR (by omega) (by omega)
    rw [ht'] at hc0
    have hc : H[G.2.1 + (a - 2)]? = some (arrV (G.2.2.2.2.2.2.1 t) (jm_N h a) (fun j => jg_mv G (.inr (.inl (jm_F h a j))))) := hc0
    obtain ⟨q', hq', cellV, g1, g2, g3, -⟩ := (hR.at hv (by omega) (by omega)).obj (by omega)
    rw [hv'] at g2
    obtain ⟨hj1, hj2⟩ := jm_in_spec hj
    have hcls := (hK.2.1 y q hy0 hq).2
    obtain ⟨kA, comp, k1, k2, k3, -⟩ := (hK.2.2.2.2.2.1 t _ hty).2.1
    have hcomp : comp = G.2.2.2.1.1 y := Option.some.inj (k3.symm.trans hcls.1)
    subst hcomp
    obtain ⟨kC, hkC, -⟩ := hcls.2
    show W p l e R s m args below meth cd H locs _ _ _ (F0 m pc arr (jg_mv G (.inr (.inl v)) :: .int j :: jg_mv G (.inr (.inl a)) :: st.map (jg_mv G)))
    rw [jg_mv_obj G hp1, jg_mv_obj G hv1]
    refine W.aast hx hb hc (fun q h => by cases h) (fun h => by cases h) k1 k2 rfl hkC ⟨fun q => hj1 (Or.inl q), by rw [arrV_size]; exact hj2⟩ g1 (fun q h => by rw [g3] at h; cases h) (by rw [g2]; exact hkC) (by rw [g2]; exact va_assign hcls) rfl rfl hd fun H' e1 e2 e3 => ?_
    have ea : (jm_sF h a (jm_ix j) v).2.2 a = ((h.2.2 a).1, (h.2.2 a).2.1, (h.2.2 a).2.2.1, jm_up (h.2.2 a).2.2.2.1 (jm_ix j) v, (h.2.2 a).2.2.2.2) := jm_up_self _ _ _
    refine z H' _ arr (hR.upd hp1 hp2 rfl (fun r hr => jm_up_ne _ _ hr) e2 e3 (jg_at.mkR (by rw [ea]; show 60 ≤ (h.2.2 a).1; omega) (by rw [ea]; show (h.2.2 a).1 < 99; omega) ?_)) hn (jl_app hl (Nat.le_add_right _ _)) hL
    rw [ea, e1, arrV_store]
    show some (arrV (G.2.2.2.2.2.2.1 t) _ _) = some (arrV (G.2.2.2.2.2.2.1 (h.2.2 a).1) _ _)
    rw [ht']
    congr 2
    funext k
    unfold updV
    show (if k = jm_ix j then Value.ref (G.2.1 + (v - 2)) else jg_mv G (.inr (.inl (jm_F h a k)))) = jg_mv G (.inr (.inl (jm_up _ _ v k)))
    unfold jm_up
    by_cases hk : k = jm_ix j
    · rw [if_pos hk, if_pos hk, jg_mv_obj G hv1]
    · rw [if_neg hk, if_neg hk]; rfl
  · exact z.elim
theorem jw_new (hx : p.tables.exec = Jvm.exec) (hb : cd.code = bs) (hK : jg_K G J Wg s) (hJ : jg_J J Wg) {own : String} {idx : Nat} (hown : s.vm.findClass own = some m.cls) {x c z0 : Nat} {q : vw_C} (hx0 : 0 < x) (hq : J.1[x]? = some q) (hcl : Cond.classLink own idx q.1 ∈ Wg) (hins : Cond.instantiable q.1 q.2.2 ∈ Wg) (hini : Cond.initialized q.1 ∈ Wg)
    (hdf : ∀ k, k < q.2.2 → defaultValue (J.2.1 x k) = jg_fv G (J.2.1 x) (x, 0, fun _ => 0, fun _ => 0, fun _ => 0) k)
    (hRc : c ≤ R.cells + ns) (hRz : z0 ≤ R.slots + zs) (hd : decode bs pc = .ok (.new idx, 3)) (z : jo_new (jg_P p l e R s m args below meth cd G J nL ns zs Q) (pc + 3) ls st h x q.2.2 c z0) : jg_P p l e R s m args below meth cd G J nL ns zs Q (pc, ls, st, h) := by
  intro H locs arr hR hn hl hL
  replace hR : jg_R G J h H := hR
  replace hn : ns ≤ h.1 ∧ zs ≤ h.2.1 ∧ h.1 ≤ R.cells + ns ∧ h.2.1 ≤ R.slots + zs := hn
  replace hL : jg_Ls G arr nL ls := hL
  obtain ⟨z1, z2, z⟩ := z
  obtain ⟨hx60, hin, hpt, hnm⟩ := hJ x q hx0 hq
  have hts : ∀ w ∈ Wg, w.before args s = true := fun w hw => hK.1 w hw args
  have hKn := hK.2.1 x q hx0 hq
  obtain ⟨hn1, hn2, hn3, hn4⟩ : ns ≤ h.1 ∧ zs ≤ h.2.1 ∧ h.1 ≤ R.cells + ns ∧ h.2.1 ≤ R.slots + zs := hn
  have hsz : H.size = G.2.1 + (h.1 - 2) := hR.1.2.1
  refine W.newcK hx hb hown (hts _ hcl) (hts _ hins) (hts _ hini) rfl hd (by show h.1 - ns + 1 ≤ _; omega) (by show h.2.1 - zs + _ ≤ _; omega) hKn.2.1 rfl fun H' kC hkC g1 g2 g3 => ?_
  have hR' : jg_R G J (jm_new h x 0 q.2.2) H' := hR.push g2 g3 (jg_at.mkO (by show x < 60; omega) ⟨q, hq, (u_born (J.2.1 x) hts hin hKn hkC g1 hpt).to hdf⟩)
  have w := z H' locs arr hR' ⟨by show ns ≤ h.1 + 1; omega, by show zs ≤ h.2.1 + _; omega, by show h.1 + 1 ≤ _; omega, by show h.2.1 + _ ≤ _; omega⟩ hl hL
  have em : jg_mv G (.inr (.inl h.1)) = .ref H.size := by rw [jg_mv_obj G hR.1.1, hsz]
  have w' : W p l e R s m args below meth cd H' locs (h.1 + 1 - ns) (h.2.1 + q.2.2 - zs) (jg_Z G J R s below ns zs Q) (F0 m (pc + 3) arr (jg_mv G (.inr (.inl h.1)) :: st.map (jg_mv G))) := w
  rw [em] at w'
  exact W.cs (by show h.1 - ns + 1 = h.1 + 1 - ns; omega) (by show h.2.1 - zs + _ = _; omega) w'
theorem jw_newa (hx : p.tables.exec = Jvm.exec) (hb : cd.code = bs) (hK : jg_K G J Wg s) {c z0 : Nat} {ty : ArrayType} {t : Nat} (hty : (ty = .int ∧ t = 100 ∧ Cond.arrayClass .int ∈ Wg) ∨ (ty = .long ∧ t = 101 ∧ Cond.arrayClass .long ∈ Wg))
    (hRc : c ≤ R.cells + ns) (hRz : z0 ≤ R.slots + zs) (hd : decode bs pc = .ok (.newarray ty, 2)) (z : jo_newa (jg_P p l e R s m args below meth cd G J nL ns zs Q) (pc + 2) ls st h t c z0) : jg_P p l e R s m args below meth cd G J nL ns zs Q (pc, ls, st, h) := by
  intro H locs arr hR hn hl hL
  replace hR : jg_R G J h H := hR
  replace hn : ns ≤ h.1 ∧ zs ≤ h.2.1 ∧ h.1 ≤ R.cells + ns ∧ h.2.1 ≤ R.slots + zs := hn
  replace hL : jg_Ls G arr nL ls := hL
  unfold jo_newa at z
  split at z
  · rename_i k st
    obtain ⟨z0', z3, z1, z2, z⟩ := z
    obtain ⟨hn1, hn2, hn3, hn4⟩ : ns ≤ h.1 ∧ zs ≤ h.2.1 ∧ h.1 ≤ R.cells + ns ∧ h.2.1 ≤ R.slots + zs := hn
    have hsz : H.size = G.2.1 + (h.1 - 2) := hR.1.2.1
    have hk : k.toNatClampNeg ≤ 100000 := by
      have : k.toInt.toNat ≤ 100000 := by omega
      exact this
    have em : jg_mv G (.inr (.inl h.1)) = .ref H.size := by rw [jg_mv_obj G hR.1.1, hsz]
    have hts : ∀ w ∈ Wg, w.before args s = true := fun w hw => hK.1 w hw args
    have fin : ∀ (H' : Heap), H'.size = H.size + 1 → (∀ q, q < H.size → H'[q]? = H[q]?) → jg_at G J (t, jm_ix k, fun _ => 0, fun _ => 0, fun _ => 0) H.size H' → W p l e R s m args below meth cd H' locs (h.1 - ns + 1) (h.2.1 - zs + k.toNatClampNeg) (jg_Z G J R s below ns zs Q) (F0 m (pc + 2) arr (.ref H.size :: st.map (jg_mv G))) := by
      intro H' g2 g3 ga
      have w := z H' locs arr (hR.push (z := jm_ix k) g2 g3 ga) ⟨by show ns ≤ h.1 + 1; omega, by show zs ≤ h.2.1 + _; omega, by show h.1 + 1 ≤ _; omega, by show h.2.1 + _ ≤ _; omega⟩ hl hL
      have w' : W p l e R s m args below meth cd H' locs (h.1 + 1 - ns) (h.2.1 + jm_ix k - zs) (jg_Z G J R s below ns zs Q) (F0 m (pc + 2) arr (jg_mv G (.inr (.inl h.1)) :: st.map (jg_mv G))) := w
      rw [em] at w'
      exact W.cs (by omega) (by show h.2.1 - zs + jm_ix k = _; omega) w'
    have hz2 : h.2.1 + k.toNatClampNeg ≤ z0 := z2
    rcases hty with ⟨rfl, rfl, hw⟩ | ⟨rfl, rfl, hw⟩
    · refine W.newa (atype := .int) hx hb (hts _ hw) rfl hd rfl (jm_nn z0') (by show _ * 4 ≤ _; omega) (by show h.1 - ns + 1 ≤ _; omega) (by show h.2.1 - zs + _ ≤ _; omega) fun cA kA comp h1 h2 h3 => ?_
      rw [show "[" ++ (newarray.typeOf ArrayType.int).toString = "[I" from by decide +kernel] at h1
      obtain rfl := Option.some.inj (h1.symm.trans hK.2.2.1.2)
      refine fin _ (by simp) (fun q hq => by rw [Array.getElem?_push, if_neg (Nat.ne_of_lt hq)]) (jg_at.mkI rfl ?_)
      rw [Array.getElem?_push_size, arrV_new]
      rfl
    · refine W.newa (atype := .long) hx hb (hts _ hw) rfl hd rfl (jm_nn z0') (by show _ * 8 ≤ _; omega) (by show h.1 - ns + 1 ≤ _; omega) (by show h.2.1 - zs + _ ≤ _; omega) fun cA kA comp h1 h2 h3 => ?_
      rw [show "[" ++ (newarray.typeOf ArrayType.long).toString = "[J" from by decide +kernel] at h1
      obtain rfl := Option.some.inj (h1.symm.trans hK.2.2.2.1.2)
      refine fin _ (by simp) (fun q hq => by rw [Array.getElem?_push, if_neg (Nat.ne_of_lt hq)]) (jg_at.mkL rfl ?_)
      rw [Array.getElem?_push_size, arrV_new]
      rfl
  · exact z.elim
theorem jw_newq (hx : p.tables.exec = Jvm.exec) (hb : cd.code = bs) (hK : jg_K G J Wg s) {own C : String} {idx : Nat} (hown : s.vm.findClass own = some m.cls) {c z0 t : Nat} (h60 : 60 ≤ t) (h99 : t < 99) (hty : J.2.2.1 t = some (.object C)) (hcl : Cond.classLink own idx C ∈ Wg)
    (hRc : c ≤ R.cells + ns) (hRz : z0 ≤ R.slots + zs) (hd : decode bs pc = .ok (.anewarray idx, 3)) (z : jo_newa (jg_P p l e R s m args below meth cd G J nL ns zs Q) (pc + 3) ls st h t c z0) : jg_P p l e R s m args below meth cd G J nL ns zs Q (pc, ls, st, h) := by
  intro H locs arr hR hn hl hL
  replace hR : jg_R G J h H := hR
  replace hn : ns ≤ h.1 ∧ zs ≤ h.2.1 ∧ h.1 ≤ R.cells + ns ∧ h.2.1 ≤ R.slots + zs := hn
  replace hL : jg_Ls G arr nL ls := hL
  unfold jo_newa at z
  split at z
  · rename_i k st
    obtain ⟨z0', z3, z1, z2, z⟩ := z
    obtain ⟨hn1, hn2, hn3, hn4⟩ : ns ≤ h.1 ∧ zs ≤ h.2.1 ∧ h.1 ≤ R.cells + ns ∧ h.2.1 ≤ R.slots + zs := hn
    have hsz : H.size = G.2.1 + (h.1 - 2) := hR.1.2.1
    have hk : k.toNatClampNeg ≤ 100000 := by
      have : k.toInt.toNat ≤ 100000 := by omega
      exact this
    have em : jg_mv G (.inr (.inl h.1)) = .ref H.size := by rw [jg_mv_obj G hR.1.1, hsz]
    have hts : ∀ w ∈ Wg, w.before args s = true := fun w hw => hK.1 w hw args
    obtain ⟨-, hRA, hAO, -⟩ := hK.2.2.2.2.2.1 t _ hty
    obtain ⟨kA', comp', -, -, -, hnA⟩ := hRA
    have hz2 : h.2.1 + k.toNatClampNeg ≤ z0 := z2
    refine W.anew hx hb hown (hts _ hcl) (va_AO.use (hAO C rfl)) rfl hd rfl (jm_nn z0') (by omega) (by show h.1 - ns + 1 ≤ _; omega) (by show h.2.1 - zs + _ ≤ _; omega) fun cA kA comp f1 f2 f3 f4 => ?_
    obtain rfl := Option.some.inj (f1.symm.trans hnA)
    have hat : jg_at G J (t, jm_ix k, fun _ => 0, fun _ => 0, fun _ => 0) H.size (H.push ({ cls := G.2.2.2.2.2.2.1 t, slots := Array.replicate k.toNatClampNeg .null, vm := .none } : Cell)) := by
      refine jg_at.mkR h60 h99 ?_
      rw [Array.getElem?_push_size, arrV_new]
      rfl
    have w := z (H.push ({ cls := G.2.2.2.2.2.2.1 t, slots := Array.replicate k.toNatClampNeg .null, vm := .none } : Cell)) locs arr (hR.push (z := jm_ix k) (by simp) (fun q hq => by rw [Array.getElem?_push, if_neg (Nat.ne_of_lt hq)]) hat) ⟨by show ns ≤ h.1 + 1; omega, by show zs ≤ h.2.1 + _; omega, by show h.1 + 1 ≤ _; omega, by show h.2.1 + _ ≤ _; omega⟩ hl hL
    have w' : W p l e R s m args below meth cd (H.push ({ cls := G.2.2.2.2.2.2.1 t, slots := Array.replicate k.toNatClampNeg .null, vm := .none } : Cell)) locs (h.1 + 1 - ns) (h.2.1 + jm_ix k - zs) (jg_Z G J R s below ns zs Q) (F0 m (pc + 3) arr (jg_mv G (.inr (.inl h.1)) :: st.map (jg_mv G))) := w
    rw [em] at w'
    exact W.cs (by show h.1 - ns + 1 = h.1 + 1 - ns; omega) (by show h.2.1 - zs + jm_ix k = _; omega) w'
  · exact z.elim
theorem jw_oinit (hx : p.tables.exec = Jvm.exec) (hb : cd.code = bs) (hml : cd.maxLocals = nL) (hK : jg_K G J Wg s) {own : String} {idx : Nat} (hown : s.vm.findClass own = some m.cls) (hl1 : Cond.methodLink own idx objectInit ∈ Wg) (hl2 : Cond.instanceMethod objectInit ∈ Wg) (hl3 : Cond.code objectInit ⟨#[0xb1]⟩ 1 none ∈ Wg)
    {w0 : Nat × Nat} (hRf : w0.1 ≤ R.frames) (hRl : w0.2 ≤ R.locals) (hd : decode bs pc = .ok (.invokespecial idx, 3)) (z : jo_oinit (jg_P p l e R s m args below meth cd G J nL ns zs Q) (pc + 3) ls st h w0) : jg_P p l e R s m args below meth cd G J nL ns zs Q (pc, ls, st, h) := by
  intro H locs arr hR hn hl hL
  replace hR : jg_R G J h H := hR
  replace hn : ns ≤ h.1 ∧ zs ≤ h.2.1 ∧ h.1 ≤ R.cells + ns ∧ h.2.1 ≤ R.slots + zs := hn
  replace hL : jg_Ls G arr nL ls := hL
  unfold jo_oinit at z
  split at z
  · rename_i a st
    obtain ⟨ht, hst, z⟩ := z
    have w := z H locs arr hR hn hl hL
    have ha : a ≠ 0 := fun q => ht (by rw [q]; exact hR.2.1 0 (Or.inl rfl))
    show W p l e R s m args below meth cd H locs _ _ _ (F0 m pc arr (jg_mv G (.inr (.inl a)) :: st.map (jg_mv G)))
    rw [jg_mv_ref G ha]
    refine W.objInit hx hb hown (hK.1 _ hl1 args) (hK.1 _ hl2 args) (hK.1 _ hl3 args) rfl (by rw [hml]; exact hL.1) rfl hd (by omega) ?_ w
    have hsum := jg_catsum G st
    show 2 * 0 + _ + 12 ≤ _
    omega
  · exact z.elim
theorem jw_max (hx : p.tables.exec = Jvm.exec) (hb : cd.code = bs) (hml : cd.maxLocals = nL) (hK : jg_K G J Wg s) {own : String} {idx : Nat} (hown : s.vm.findClass own = some m.cls) (hl1 : Cond.methodLink own idx Lib.Math.max.name ∈ Wg) (hl2 : Cond.static Lib.Math.max.name ∈ Wg) (hl3 : Cond.initialized "java/lang/Math" ∈ Wg) (hl4 : Cond.code Lib.Math.max.name Lib.Math.max.code 2 (some .int) ∈ Wg)
    {w0 : Nat × Nat} (hRf : w0.1 ≤ R.frames) (hRl : w0.2 ≤ R.locals) (hd : decode bs pc = .ok (.invokestatic idx, 3)) (z : jo_max (jg_P p l e R s m args below meth cd G J nL ns zs Q) (pc + 3) ls st h w0) : jg_P p l e R s m args below meth cd G J nL ns zs Q (pc, ls, st, h) := by
  intro H locs arr hR hn hl hL
  replace hR : jg_R G J h H := hR
  replace hn : ns ≤ h.1 ∧ zs ≤ h.2.1 ∧ h.1 ≤ R.cells + ns ∧ h.2.1 ≤ R.slots + zs := hn
  replace hL : jg_Ls G arr nL ls := hL
  unfold jo_max at z
  split at z
  · rename_i b a st
    obtain ⟨hst, z⟩ := z
    have w := z H locs arr hR hn hl hL
    have hsum := jg_catsum G st
    obtain ⟨hn1, hn2, hn3, hn4⟩ : ns ≤ h.1 ∧ zs ≤ h.2.1 ∧ h.1 ≤ R.cells + ns ∧ h.2.1 ≤ R.slots + zs := hn
    exact va_mmax hx hb (by rw [hml]; exact hL.1.symm) hown (hK.1 _ hl1 args) (hK.1 _ hl2 args) (hK.1 _ hl3 args) (hK.1 _ hl4 args) (by omega) (by omega) (by show h.1 - ns ≤ _; omega) (by show h.2.1 - zs ≤ _; omega) hd w
  · exact z.elim
theorem jw_copy (hx : p.tables.exec = Jvm.exec) (hb : cd.code = bs) (hml : cd.maxLocals = nL) (hK : jg_K G J Wg s) {own : String} {idx : Nat} (hown : s.vm.findClass own = some m.cls) (hl1 : Cond.methodLink own idx arraycopyName ∈ Wg) (hl2 : Cond.native arraycopyName ∈ Wg) (hl3 : Cond.static arraycopyName ∈ Wg) (hl4 : Cond.initialized "java/lang/System" ∈ Wg)
    {w0 : Nat × Nat} (hRf : w0.1 ≤ R.frames) (hRl : w0.2 ≤ R.locals) (hd : decode bs pc = .ok (.invokestatic idx, 3)) (z : jo_copy (jg_P p l e R s m args below meth cd G J nL ns zs Q) (pc + 3) ls st h w0) : jg_P p l e R s m args below meth cd G J nL ns zs Q (pc, ls, st, h) := by
  intro H locs arr hR hn hl hL
  replace hR : jg_R G J h H := hR
  replace hn : ns ≤ h.1 ∧ zs ≤ h.2.1 ∧ h.1 ≤ R.cells + ns ∧ h.2.1 ≤ R.slots + zs := hn
  replace hL : jg_Ls G arr nL ls := hL
  unfold jo_copy at z
  split at z
  · rename_i k dp b sp a st
    obtain ⟨ta, tb, k1, k2, k3, k4, k5, hst, z⟩ := z
    have ta' : (h.2.2 a).1 = 100 := ta
    have tb' : (h.2.2 b).1 = 100 := tb
    obtain ⟨pa1, pa2⟩ := hR.pos ta (by omega) (by omega)
    obtain ⟨pb1, pb2⟩ := hR.pos tb (by omega) (by omega)
    have ca : H[G.2.1 + (a - 2)]? = some (arrV G.2.2.2.2.1 (jm_N h a) (fun j => .int (jm_I h a j))) := (hR.at ta (by omega) (by omega)).arrI ta
    have cb : H[G.2.1 + (b - 2)]? = some (arrV G.2.2.2.2.1 (jm_N h b) (fun j => .int (jm_I h b j))) := (hR.at tb (by omega) (by omega)).arrI tb
    have hsum := jg_catsum G st
    show W p l e R s m args below meth cd H locs _ _ _ (F0 m pc arr (.int k :: .int dp :: jg_mv G (.inr (.inl b)) :: .int sp :: jg_mv G (.inr (.inl a)) :: st.map (jg_mv G)))
    rw [jg_mv_obj G pa1, jg_mv_obj G pb1]
    intro T hT X
    obtain ⟨-, q0, hk0, cm0, hkk0⟩ := hK.2.2.1.1 (jm_N h a) (fun j => .int (jm_I h a j))
    have e4 : sp.toNatClampNeg + k.toNatClampNeg ≤ jm_N h a := by
      show sp.toInt.toNat + k.toInt.toNat ≤ _
      omega
    have e5 : dp.toNatClampNeg + k.toNatClampNeg ≤ jm_N h b := by
      show dp.toInt.toNat + k.toInt.toNat ≤ _
      omega
    obtain ⟨vm', X', step⟩ := X.arraycopy hx hown (hK.1 _ hl1 args) (hK.1 _ hl2 args) (hK.1 _ hl3 args) (hK.1 _ hl4 args) (src := G.2.1 + (a - 2)) (dst := G.2.1 + (b - 2)) (cs := arrV G.2.2.2.2.1 (jm_N h a) (fun j => .int (jm_I h a j))) (cd := arrV G.2.2.2.2.1 (jm_N h b) (fun j => .int (jm_I h b j))) (srcPos := sp) (destPos := dp) (n := k) (by rw [hT]; exact ca) (by rw [hT]; exact cb)
      (fun _ h => by cases h) (fun _ h => by cases h) (fun h => by cases h) (fun h => by cases h) hk0 hk0 hkk0 hkk0 (by simp [refKind]) (jm_nn k2) (jm_nn k3) (jm_nn k1)
      (by rw [arrV_size]; omega) (by rw [arrV_size]; omega)
      (fun vm₁ _ i hi => by
        have e0 : (arrV G.2.2.2.2.1 (jm_N h a) (fun j => .int (jm_I h a j))).slots.getD (sp.toNatClampNeg + i) .null = .int (jm_I h a (sp.toNatClampNeg + i)) := by
          rw [Array.getD_eq_getD_getElem?, arrV_read _ _ (by omega)]
          rfl
        refine ⟨?_, ?_⟩
        · rw [e0]; rfl
        · rw [e0]; exact trivial)
      (g := F0 m pc arr (.int k :: .int dp :: .ref (G.2.1 + (b - 2)) :: .int sp :: .ref (G.2.1 + (a - 2)) :: st.map (jg_mv G))) rfl (by rw [hml]; exact hL.1) (rest := st.map (jg_mv G)) rfl (by rw [hb]; exact hd) (by omega) (by
        have hfw : nativeFrameWords "java/lang/System" "arraycopy" 5 = 7 := by decide +kernel
        show 2 * 0 + _ + _ ≤ _
        omega)
    have ec : copied (arrV G.2.2.2.2.1 (jm_N h a) (fun j => .int (jm_I h a j))) (arrV G.2.2.2.2.1 (jm_N h b) (fun j => .int (jm_I h b j))) sp dp k = arrV G.2.2.2.2.1 (jm_N h b) (fun j => .int (va_cpy (jm_I h a) (jm_I h b) sp.toNatClampNeg dp.toNatClampNeg k.toNatClampNeg j)) := va_copied (fun z => .int z) G.2.2.2.2.1 G.2.2.2.2.1 (jm_I h a) (jm_I h b) e4
    rw [ec] at X' step
    generalize hY : arrV G.2.2.2.2.1 (jm_N h b) (fun j => .int (va_cpy (jm_I h a) (jm_I h b) sp.toNatClampNeg dp.toNatClampNeg k.toNatClampNeg j)) = Y at X' step
    have hlb : G.2.1 + (b - 2) < H.size := (Array.getElem?_eq_some_iff.mp cb).1
    have hheap : ((T.setVm vm').setCell (G.2.1 + (b - 2)) Y).heap = H.setIfInBounds (G.2.1 + (b - 2)) Y := by rw [← hT]; rfl
    have ea : (jm_sA h b (jm_cpy (jm_I h a) (jm_I h b) (jm_ix sp) (jm_ix dp) (jm_ix k))).2.2 b = ((h.2.2 b).1, (h.2.2 b).2.1, jm_cpy (jm_I h a) (jm_I h b) (jm_ix sp) (jm_ix dp) (jm_ix k), (h.2.2 b).2.2.2) := jm_up_self _ _ _
    obtain ⟨t, a1, b1⟩ := z (H.setIfInBounds (G.2.1 + (b - 2)) Y) _ arr (hR.upd pb1 pb2 rfl (fun r hr => jm_up_ne _ _ hr) (by simp) (fun q hq => by simp [Array.getElem?_setIfInBounds, Ne.symm hq]) (jg_at.mkI (by rw [ea]; exact tb) (by
      rw [ea, ← hY]
      simp [Array.getElem?_setIfInBounds, hlb]
      rfl))) hn (fun q hq => by
        rcases List.mem_append.mp hq with h1 | h1
        · exact hl q h1
        · obtain ⟨z1, -, hz1⟩ := List.mem_map.mp h1
          rw [← hz1]
          exact Nat.le_add_right _ _) hL _ hheap X'
    exact ⟨t, step t a1, b1⟩
  · exact z.elim
end JA
