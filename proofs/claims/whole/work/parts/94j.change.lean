/-! Changes of the state: what a history tells as bytes, and what each call does. -/
theorem gDm {α β : Type} (f : α → β) (l : List α) (k : Nat) (a : α) : (l.map f).getD k (f a) = f (l.getD k a) := by
  rw [List.getD_eq_getElem?_getD, List.getD_eq_getElem?_getD, List.getElem?_map]
  cases l[k]? <;> rfl
theorem body_eq {rs rs' : List Rv} {fs : List FS} (hp : pS rs' = pS rs) (ht : tS rs' = tS rs) (k : Nat) : body rs' fs k = body rs fs k := by
  have p : ∀ j, (rs'.getD j rv0).1 = (rs.getD j rv0).1 := fun j => by
    have e1 := gDm (fun r : Rv => r.1) rs' j rv0
    have e2 := gDm (fun r : Rv => r.1) rs j rv0
    rw [← e1, ← e2]
    show (pS rs').getD j _ = (pS rs).getD j _
    rw [hp]
  have t : ∀ j, (rs'.getD j rv0).2.2.2 = (rs.getD j rv0).2.2.2 := fun j => by
    have e1 := gDm (fun r : Rv => r.2.2.2) rs' j rv0
    have e2 := gDm (fun r : Rv => r.2.2.2) rs j rv0
    rw [← e1, ← e2]
    show (tS rs').getD j _ = (tS rs).getD j _
    rw [ht]
  have l : rs'.length = rs.length := by rw [← pS_len rs', hp, pS_len]
  have s : srcK rs' fs k = srcK rs fs k := by
    unfold srcK srcOf
    rw [p]
  unfold body
  rw [s, l]
  simp only [t]
theorem hd3_len : ∀ rs : List Rv, (rs.flatMap hd3).length = 3 * rs.length
  | [] => rfl
  | r :: rs => by
    rw [List.flatMap_cons, List.length_append, hd3_len rs, List.length_cons]
    show 3 + _ = _
    omega
theorem EN_len {rs rs' : List Rv} (hp : pS rs' = pS rs) (ht : tS rs' = tS rs) : (EN rs').length = (EN rs).length := by
  have l : rs'.length = rs.length := by rw [← pS_len rs', hp, pS_len]
  have b : body rs' (sf (pS rs)) = body rs (sf (pS rs)) := funext (body_eq hp ht)
  unfold EN enc
  rw [hp, b, List.length_cons, List.length_cons, List.length_append, List.length_append, hd3_len, hd3_len, l]
/-- another lock -/
def stL (rs : List Rv) (k : Nat) (l : Int) : List Rv := rs.set k ((rs.getD k rv0).1, (rs.getD k rv0).2.1, l, (rs.getD k rv0).2.2.2)
theorem stL_len (rs : List Rv) (k : Nat) (l : Int) : (stL rs k l).length = rs.length := List.length_set
theorem stL_at {rs : List Rv} {k : Nat} {l : Int} (hk : k < rs.length) (i : Nat) : (stL rs k l).getD i rv0 = if i = k then ((rs.getD k rv0).1, (rs.getD k rv0).2.1, l, (rs.getD k rv0).2.2.2) else rs.getD i rv0 := gD_set hk
theorem map_stL {β : Type} (f : Rv → β) (hf : ∀ a b c e l, f (a, b, l, e) = f (a, b, c, e)) {rs : List Rv} {k : Nat} {l : Int} (hk : k < rs.length) : (stL rs k l).map f = rs.map f := by
  apply List.ext_getElem?
  intro i
  rw [List.getElem?_map, List.getElem?_map]
  unfold stL
  by_cases e : i = k
  · subst e
    rw [List.getElem?_set_self hk, List.getD_eq_getElem?_getD, List.getElem?_eq_getElem hk]
    show some (f _) = some (f _)
    exact congrArg some (hf _ _ _ _ _)
  · rw [List.getElem?_set_ne (Ne.symm e)]
theorem pS_stL {rs : List Rv} {k : Nat} {l : Int} (hk : k < rs.length) : pS (stL rs k l) = pS rs := map_stL _ (fun _ _ _ _ _ => rfl) hk
theorem tS_stL {rs : List Rv} {k : Nat} {l : Int} (hk : k < rs.length) : tS (stL rs k l) = tS rs := map_stL _ (fun _ _ _ _ _ => rfl) hk
theorem uS_stL {rs : List Rv} {k : Nat} {l : Int} (hk : k < rs.length) : (stL rs k l).map (fun r => r.2.1) = rs.map (fun r => r.2.1) := map_stL _ (fun _ _ _ _ _ => rfl) hk
theorem lS_stL {rs : List Rv} {k : Nat} {l : Int} : (stL rs k l).map (fun r => r.2.2.1) = (rs.map (fun r => r.2.2.1)).set k l := by
  unfold stL; rw [List.map_set]
theorem okH_stL {rs : List Rv} {k : Nat} {l : Int} (ok : okH rs) (hk : k < rs.length) (hl : -1 ≤ l ∧ l < 4) : okH (stL rs k l) := by
  obtain ⟨o1, o2, o3⟩ := ok
  refine ⟨by rw [stL_len]; exact o1, by rw [pS_stL hk]; exact o2, fun i hi => ?_⟩
  rw [stL_len] at hi
  rw [stL_at hk]
  by_cases e : i = k
  · rw [if_pos e]
    have := o3 k hk
    exact ⟨this.1, hl, this.2.2⟩
  · rw [if_neg e]; exact o3 i hi
theorem vp_snoc {ps : List Int} {p : Int} (hv : vp ps) (h1 : ps = [] → p = -1) (h2 : 0 < ps.length → 0 ≤ p ∧ p < ps.length) : vp (ps ++ [p]) := by
  intro k hk
  rw [List.length_append, List.length_singleton] at hk
  by_cases e : k = ps.length
  · subst e
    rw [gD_n rfl]
    exact ⟨fun e => h1 (List.eq_nil_of_length_eq_zero e), fun h => h2 h⟩
  · rw [gD_l (by omega)]; exact hv k (by omega)
theorem pS_snoc (rs : List Rv) (r : Rv) : pS (rs ++ [r]) = pS rs ++ [r.1] := List.map_append
theorem tS_snoc (rs : List Rv) (r : Rv) : tS (rs ++ [r]) = tS rs ++ [r.2.2.2] := List.map_append
theorem okH_snoc {rs : List Rv} {p u l : Int} {t : List Int} (ok : okH rs) (h20 : rs.length < 20) (h1 : rs.length = 0 → p = -1) (h2 : 0 < rs.length → 0 ≤ p ∧ p < rs.length) (hu : 0 ≤ u ∧ u < 4) (hl : -1 ≤ l ∧ l < 4) (ht : t.length ≤ 12 ∧ lnv t) : okH (rs ++ [(p, u, l, t)]) := by
  obtain ⟨o1, o2, o3⟩ := ok
  have el := pS_len rs
  refine ⟨by rw [List.length_append, List.length_singleton]; omega, ?_, fun k hk => ?_⟩
  · rw [pS_snoc]
    exact vp_snoc o2 (fun e => h1 (by rw [← el, e]; rfl)) (fun h => by have := h2 (by omega); omega)
  · rw [List.length_append, List.length_singleton] at hk
    by_cases e : k = rs.length
    · rw [gD_n e]; exact ⟨hu, hl, ht.1, ht.2⟩
    · rw [gD_l (by omega)]; exact o3 k (by omega)
theorem lnv_rng {xs : List Int} (h : lnv xs) : rng xs := fun v hv => by
  have := h v hv
  constructor <;> omega
theorem okR_ok {rs : List Rv} (ok : okH rs) : okR rs (sf (pS rs)) := by
  obtain ⟨o1, o2, o3⟩ := ok
  have el := pS_len rs
  have hP := sfP_all _ _ rfl o2
  intro k hk
  have b := hP.2.2.2.2 k (by omega)
  have pv := o2 k (by omega)
  rw [pS_at hk] at pv
  have bp : -1 ≤ (rs.getD k rv0).1 ∧ (rs.getD k rv0).1 < 20 := by
    rcases Nat.eq_zero_or_pos k with e | e
    · have := pv.1 e; omega
    · have := pv.2 e; omega
  refine ⟨lnv_rng (o3 k hk).2.2.2, ?_, ?_⟩
  · show jR (fsK (pS rs) k).2.2.1
    constructor <;> omega
  · show jR (srcOf (rs.getD k rv0) (fsK (pS rs) k))
    unfold srcOf
    split
    · constructor <;> omega
    · constructor <;> omega
theorem encD_by8 {A B : List Int} (hA : A.length ≤ 12) (hB : B.length ≤ 12) (lB : lnv B) : by8 (encD (delta A B)) := by
  obtain ⟨h1, h2, h3, h4⟩ := delta_cnt (A := A) (B := B) hA
  have oa := delta_ok A B
  intro v hv
  rcases List.mem_cons.mp hv with rfl | hv
  · omega
  · obtain ⟨s, hs, hv⟩ := List.mem_flatMap.mp hv
    have o := h4 s hs
    unfold encS at hv
    rcases List.mem_append.mp hv with hv | hv
    · simp at hv
      rcases hv with rfl | rfl | rfl <;> omega
    · by_cases q : s.1 = 1
      · rw [if_pos q] at hv
        obtain ⟨n, hn, rfl⟩ := List.mem_map.mp hv
        rw [List.mem_range] at hn
        obtain ⟨t1, t2, t3, t4, t5⟩ := oa s hs q
        have e : addL s (delta A B).2 (n : Int) = B.getD (s.2.2.2.2 + (n : Int)).toNat 0 := by
          rw [addL, if_pos ⟨q, by omega, by omega⟩]; exact t5 n (by omega)
        have := lB.at (i := (s.2.2.2.2 + (n : Int)).toNat) (by omega)
        rw [e]; omega
      · rw [if_neg q] at hv; cases hv
theorem EN_by8 {rs : List Rv} (ok : okH rs) : by8 (EN rs) := by
  obtain ⟨o1, o2, o3⟩ := ok
  have el := pS_len rs
  intro v hv
  rcases List.mem_cons.mp hv with rfl | hv
  · omega
  · rcases List.mem_append.mp hv with hv | hv
    · obtain ⟨r, hr, hv⟩ := List.mem_flatMap.mp hv
      obtain ⟨k, hk, rfl⟩ := List.getElem_of_mem hr
      have o := o3 k hk
      have pv := o2 k (by omega)
      have eg : rs.getD k rv0 = rs[k] := by rw [List.getD_eq_getElem?_getD, List.getElem?_eq_getElem hk]; rfl
      rw [pS_at hk] at pv
      rw [eg] at o pv
      have bp : -1 ≤ (rs[k]).1 ∧ (rs[k]).1 < 20 := by
        rcases Nat.eq_zero_or_pos k with e | e
        · have := pv.1 e; omega
        · have := pv.2 e; omega
      unfold hd3 at hv
      simp only [List.mem_cons, List.not_mem_nil, or_false] at hv
      rcases hv with rfl | rfl | rfl <;> omega
    · obtain ⟨k, hk, hv⟩ := List.mem_flatMap.mp hv
      rw [List.mem_range] at hk
      have o := o3 k hk
      unfold body at hv
      split at hv
      · rename_i q
        exact encD_by8 (o3 _ (by omega)).2.2.1 o.2.2.1 o.2.2.2 v hv
      · rcases List.mem_cons.mp hv with rfl | hv
        · omega
        · have := o.2.2.2 v hv
          omega
/-- a planned history is put in force, or the crash comes first -/
def coF (s : St) (rs' : List Rv) (ans : Int) : Int × St := if 0 ≤ s.2.2.2.2.1 ∧ s.2.2.2.2.1 ≤ (EN rs').length then (-2, (s.1, s.2.1, s.2.2.1, (EN rs').take s.2.2.2.2.1.toNat, -1, s.2.2.2.2.2)) else (if s.2.2.2.2.1 = (EN rs').length + 1 then -2 else ans, (s.1, rs', EN rs', [], -1, s.2.2.2.2.2))
theorem oks_co {s : St} {rs' : List Rv} {ans : Int} (ok : oks s) (h' : okH rs') (l : (EN rs').length ≤ 400) : oks (coF s rs' ans).2 := by
  obtain ⟨o1, o2, o3, o4, o5, o6, o7, o8⟩ := ok
  unfold coF
  split
  · exact ⟨o1, o2, o3, o4, by rw [List.length_take]; omega, ⟨(Int.le_refl (-1) : (-1 : Int) ≤ -1), (⟨by decide, by decide⟩ : jR (-1))⟩, o7, o8⟩
  · exact ⟨o1, h', l, ⟨l, EN_by8 h'⟩, Nat.zero_le _, ⟨(Int.le_refl (-1) : (-1 : Int) ≤ -1), (⟨by decide, by decide⟩ : jR (-1))⟩, o7, o8⟩
abbrev okU (u : Int) : Prop := 0 ≤ u ∧ u < 4
abbrev okV (s : St) (r : Int) : Prop := 0 ≤ r ∧ r < s.2.1.length
def lockOf (s : St) (r : Int) : Int := (s.2.1.getD r.toNat rv0).2.2.1
/-- code, answer, state behind the call -/
def lkF (s : St) (u r : Int) : Int × Int × St := if okU u ∧ okV s r then (if lockOf s r = -1 then (0, coF s (stL s.2.1 r.toNat u) (EN (stL s.2.1 r.toNat u)).length) else (2, 0, s)) else (1, 0, s)
def ulF (s : St) (u r : Int) : Int × Int × St := if okU u ∧ okV s r then (if lockOf s r = u then (0, coF s (stL s.2.1 r.toNat (-1)) (EN (stL s.2.1 r.toNat (-1))).length) else (2, 0, s)) else (1, 0, s)
abbrev opg (s : St) (r : Int) : Prop := r = -1 ∧ s.2.1.length = 0
def ciR (s : St) (u r : Int) : List Rv := (if opg s r then s.2.1 else stL s.2.1 r.toNat (-1)) ++ [(r, u, -1, s.1)]
def ciF (s : St) (u r : Int) : Int × Int × St := if okU u ∧ (opg s r ∨ okV s r) then (if opg s r ∨ lockOf s r = u then (if s.2.1.length < 20 ∧ (EN (ciR s u r)).length ≤ 400 then (0, coF s (ciR s u r) s.2.1.length) else (3, 0, s)) else (2, 0, s)) else (1, 0, s)
def otF (s : St) (r : Int) : Int × Int × St := if okV s r then (0, ((s.2.1.getD r.toNat rv0).2.2.2.length : Int), ((s.2.1.getD r.toNat rv0).2.2.2, s.2)) else (1, 0, s)
def crF (s : St) (k b : Int) : Int × Int × St := if 0 ≤ k ∧ k < s.2.2.1.length then (if 0 ≤ b ∧ b ≤ 255 then (0, 0, (s.1, s.2.1, s.2.2.1.set k.toNat b, s.2.2.2)) else (2, 0, s)) else (1, 0, s)
def abN (rs : List Rv) (r : Nat) (w : Int) : Int := if w = 0 then (rs.getD r rv0).1 else if w = 1 then (rs.getD r rv0).2.1 else if w = 2 then (rs.getD r rv0).2.2.1 else if w = 3 then (fsK (pS rs) r).2.2.2.2.2 else if w = 4 then (fsK (pS rs) r).1 else if w = 5 then (fsK (pS rs) r).2.1 else -1
def abF (s : St) (r w : Int) : Int × Int × St := if okV s r then (0, abN s.2.1 r.toNat w, s) else (1, 0, s)
def naF (s : St) (r k : Int) : Int × Int × St := if okV s r then (0, nmN (pS s.2.1) r.toNat k, s) else (1, 0, s)
def roF (s : St) (a b : Int) : Int × Int × St := if okV s a ∧ okV s b then (0, (cmn (pS s.2.1) (a.toNat + b.toNat) a.toNat b.toNat : Int), s) else (1, 0, s)
def cmA (s : St) (r : Int) : List Int := if r = -1 then [] else (s.2.1.getD r.toNat rv0).2.2.2
def cmF (s : St) (r : Int) : Int × Int × St := if r = -1 ∨ okV s r then (0, ((delta (cmA s r) s.1).1.length : Int), (s.1, s.2.1, s.2.2.1, s.2.2.2.1, s.2.2.2.2.1, cmA s r, s.1)) else (1, 0, s)
theorem oks_lk {s : St} (ok : oks s) (u r : Int) : oks (lkF s u r).2.2 := by
  unfold lkF
  split
  · rename_i q
    obtain ⟨⟨q1, q2⟩, q3, q4⟩ := q
    have kk : r.toNat < s.2.1.length := by omega
    split
    · refine oks_co ok (okH_stL ok.2.1 kk ⟨by omega, q2⟩) ?_
      rw [EN_len (pS_stL kk) (tS_stL kk)]; exact ok.2.2.1
    · exact ok
  · exact ok
theorem oks_ul {s : St} (ok : oks s) (u r : Int) : oks (ulF s u r).2.2 := by
  unfold ulF
  split
  · rename_i q
    obtain ⟨⟨q1, q2⟩, q3, q4⟩ := q
    have kk : r.toNat < s.2.1.length := by omega
    split
    · refine oks_co ok (okH_stL ok.2.1 kk ⟨by omega, by omega⟩) ?_
      rw [EN_len (pS_stL kk) (tS_stL kk)]; exact ok.2.2.1
    · exact ok
  · exact ok
theorem okH_ci {s : St} (ok : oks s) {u r : Int} (hu : okU u) (hr : opg s r ∨ okV s r) (h20 : s.2.1.length < 20) : okH (ciR s u r) := by
  unfold ciR
  split
  · rename_i q
    exact okH_snoc ok.2.1 h20 (fun _ => q.1) (fun h => by have := q.2; omega) hu ⟨by omega, by omega⟩ ok.1
  · rename_i q
    have v := hr.resolve_left q
    obtain ⟨v1, v2⟩ := v
    have kk : r.toNat < s.2.1.length := by omega
    exact okH_snoc (okH_stL ok.2.1 kk ⟨by omega, by omega⟩) (by rw [stL_len]; exact h20) (fun h => by rw [stL_len] at h; omega) (fun h => by rw [stL_len]; exact ⟨v1, v2⟩) hu ⟨by omega, by omega⟩ ok.1
theorem oks_ci {s : St} (ok : oks s) (u r : Int) : oks (ciF s u r).2.2 := by
  unfold ciF
  split
  · rename_i q
    split
    · split
      · rename_i q3
        exact oks_co ok (okH_ci ok q.1 q.2 q3.1) q3.2
      · exact ok
    · exact ok
  · exact ok
theorem oks_ot {s : St} (ok : oks s) (r : Int) : oks (otF s r).2.2 := by
  unfold otF
  split
  · rename_i q
    obtain ⟨q1, q2⟩ := q
    have o := ok.2.1.2.2 r.toNat (by omega)
    exact ⟨⟨o.2.2.1, o.2.2.2⟩, ok.2⟩
  · exact ok
theorem oks_cr {s : St} (ok : oks s) (k b : Int) : oks (crF s k b).2.2 := by
  unfold crF
  split
  · split
    · rename_i q
      refine ⟨ok.1, ok.2.1, ok.2.2.1, ⟨by rw [List.length_set]; exact ok.2.2.2.1.1, fun v hv => ?_⟩, ok.2.2.2.2⟩
      rcases List.mem_or_eq_of_mem_set hv with hv | rfl
      · exact ok.2.2.2.1.2 v hv
      · exact q
    · exact ok
  · exact ok
theorem oks_cm {s : St} (ok : oks s) (r : Int) : oks (cmF s r).2.2 := by
  unfold cmF
  split
  · rename_i q
    refine ⟨ok.1, ok.2.1, ok.2.2.1, ok.2.2.2.1, ok.2.2.2.2.1, ok.2.2.2.2.2.1, ?_, ok.1⟩
    show (cmA s r).length ≤ 12 ∧ lnv (cmA s r)
    unfold cmA
    split
    · exact ⟨Nat.zero_le _, fun v hv => by cases hv⟩
    · rename_i q2
      obtain ⟨v1, v2⟩ := q.resolve_left q2
      exact (ok.2.1.2.2 r.toNat (by omega)).2.2
  · exact ok
