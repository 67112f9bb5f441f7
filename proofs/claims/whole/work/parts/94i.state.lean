/-! The state, on both sides; frames around an object. -/
/-- desk, revisions, file, file aside, crash, the two texts that were compared last -/
abbrev St : Type := List Int × List Rv × List Int × List Int × Int × List Int × List Int
def okH (rs : List Rv) : Prop := rs.length ≤ 20 ∧ vp (pS rs) ∧ ∀ k, k < rs.length → (0 ≤ (rs.getD k rv0).2.1 ∧ (rs.getD k rv0).2.1 < 4) ∧ (-1 ≤ (rs.getD k rv0).2.2.1 ∧ (rs.getD k rv0).2.2.1 < 4) ∧ (rs.getD k rv0).2.2.2.length ≤ 12 ∧ lnv (rs.getD k rv0).2.2.2
def by8 (xs : List Int) : Prop := ∀ v ∈ xs, 0 ≤ v ∧ v ≤ 255
def EN (rs : List Rv) : List Int := enc rs (sf (pS rs))
def oks (s : St) : Prop := (s.1.length ≤ 12 ∧ lnv s.1) ∧ okH s.2.1 ∧ (EN s.2.1).length ≤ 400 ∧ (s.2.2.1.length ≤ 400 ∧ by8 s.2.2.1) ∧ s.2.2.2.1.length ≤ 400 ∧ (-1 ≤ s.2.2.2.2.1 ∧ jR s.2.2.2.2.1) ∧ (s.2.2.2.2.2.1.length ≤ 12 ∧ lnv s.2.2.2.2.2.1) ∧ (s.2.2.2.2.2.2.length ≤ 12 ∧ lnv s.2.2.2.2.2.2)
def RX (h : jm_H) (X c p : Nat) (s : St) : Prop := shX h X c p ∧ cx h (X + 1) s.1 ∧ cx h (X + 5) [] ∧ (∃ op, dD h (X + 7) (delta s.2.2.2.2.2.1 s.2.2.2.2.2.2).1 (delta s.2.2.2.2.2.1 s.2.2.2.2.2.2).2 op) ∧ cb h (X + 27) s.2.2.1 ∧ cb h (X + 29) s.2.2.2.1 ∧ jm_I h X 11 = jz s.2.2.2.2.1 ∧ cH h c s.2.1 (sf (pS s.2.1))
/-- all twenty texts of the reference, also those that do not count -/
def cT (h : jm_H) (M : Nat) (ts : List (List Int)) : Prop := ts.length = 20 ∧ row h (M + 4) (ts.map (fun t => (t.length : Int))) ∧ txs h (M + 5) ts ∧ ∀ t ∈ ts, lnv t
/-- what was shown -/
def cS (h : jm_H) (M : Nat) (A B : List Int) : Prop := jm_I h M 26 = jz (delta A B).1.length ∧ row h (M + 18) ((delta A B).1.map (fun s => s.1)) ∧ row h (M + 19) ((delta A B).1.map (fun s => s.2.1)) ∧ row h (M + 20) ((delta A B).1.map (fun s => s.2.2.1)) ∧ row h (M + 21) ((delta A B).1.map (fun s => s.2.2.2.2)) ∧ row h (M + 22) B
def cU (h : jm_H) (M : Nat) (rs : List Rv) : Prop := cP h M (pS rs) ∧ row h (M + 2) (rs.map (fun r => r.2.1)) ∧ row h (M + 3) (rs.map (fun r => r.2.2.1))
def RM (h : jm_H) (M : Nat) (s : St) : Prop := shM h M ∧ cD h M s.1 ∧ cU h M s.2.1 ∧ (∃ ts, cT h M ts ∧ tS s.2.1 = ts.take s.2.1.length) ∧ cF h M s.2.2.1 ∧ cE h M s.2.2.2.1 ∧ jm_I h M 15 = jz s.2.2.2.2.1 ∧ cS h M s.2.2.2.2.2.1 s.2.2.2.2.2.2 ∧ nmr h M (pS s.2.1) s.2.1.length
theorem gD_take {α : Type} {xs : List α} {i k : Nat} {d : α} (hi : i < k) : (xs.take k).getD i d = xs.getD i d := by
  rw [List.getD_eq_getElem?_getD, List.getD_eq_getElem?_getD, List.getElem?_take_of_lt hi]
theorem row.take {h : jm_H} {a : Nat} {xs : List Int} (r : row h a xs) (n : Nat) : row h a (xs.take n) := fun i hi => by
  rw [List.length_take] at hi
  rw [r i (by omega), getD_take (by omega)]
theorem cV_mk {h : jm_H} {M : Nat} {rs : List Rv} {ts : List (List Int)} (u : cU h M rs) (t : cT h M ts) (e : tS rs = ts.take rs.length) : cV h M rs := by
  refine ⟨u.1, u.2.1, u.2.2, ?_, ?_⟩
  · rw [e, List.map_take]; exact t.2.1.take _
  · rw [e]
    intro k hk
    rw [List.length_take] at hk
    rw [gD_take (by omega)]
    exact t.2.2.1 k (by omega)
/-- all that is said of an object is the same -/
def sm (h h' : jm_H) (b : Nat) : Prop := jm_T h' b = jm_T h b ∧ jm_N h' b = jm_N h b ∧ (∀ k, jm_F h' b k = jm_F h b k) ∧ (∀ k, jm_L h' b k = jm_L h b k) ∧ ∀ k, jm_I h' b k = jm_I h b k
def sr (a n : Nat) (h h' : jm_H) : Prop := ∀ i, i < n → sm h h' (a + i)
theorem sr.sub {a n b m : Nat} {h h' : jm_H} (q : sr a n h h') (h1 : a ≤ b) (h2 : b + m ≤ a + n) : sr b m h h' := fun i hi => by
  have := q (b + i - a) (by omega)
  rwa [show a + (b + i - a) = b + i by omega] at this
theorem sha_sm {h h' : jm_H} {a n : Nat} (s : sha h a n) (q : sm h h' a) : sha h' a n := ⟨q.1.trans s.1, q.2.1.trans s.2⟩
theorem shT_sr {h h' : jm_H} {a : Nat} (s : shT h a) (q : sr a 2 h h') : shT h' a := ⟨(q 0 (by omega)).1.trans s.1, ((q 0 (by omega)).2.2.1 0).trans s.2.1, sha_sm s.2.2 (q 1 (by omega))⟩
theorem shB_sr {h h' : jm_H} {a : Nat} (s : shB h a) (q : sr a 2 h h') : shB h' a := ⟨(q 0 (by omega)).1.trans s.1, ((q 0 (by omega)).2.2.1 0).trans s.2.1, sha_sm s.2.2 (q 1 (by omega))⟩
theorem shD_sr {h h' : jm_H} {a : Nat} (s : shD h a) (q : sr a 20 h h') : shD h' a := by
  obtain ⟨s1, ⟨f0, f1, f2, f3, f4, f5⟩, ⟨g1, g2, g3, g4, g5⟩, t1, t2, t3⟩ := s
  have q0 := (q 0 (by omega)).2.2.1
  refine ⟨(q 0 (by omega)).1.trans s1, ⟨(q0 _).trans f0, (q0 _).trans f1, (q0 _).trans f2, (q0 _).trans f3, (q0 _).trans f4, (q0 _).trans f5⟩, ⟨sha_sm g1 (q 1 (by omega)), sha_sm g2 (q 2 (by omega)), sha_sm g3 (q 3 (by omega)), sha_sm g4 (q 4 (by omega)), sha_sm g5 (q 5 (by omega))⟩, (q 6 (by omega)).1.trans t1, (q 6 (by omega)).2.1.trans t2, fun i hi => ⟨((q 6 (by omega)).2.2.1 i).trans (t3 i hi).1, sha_sm (t3 i hi).2 ?_⟩⟩
  have := q (7 + i) (by omega)
  rwa [← Nat.add_assoc] at this
theorem shV_sr {h h' : jm_H} {a : Nat} (s : shV h a) (q : sr a 3 h h') : shV h' a := ⟨(q 0 (by omega)).1.trans s.1, ((q 0 (by omega)).2.2.1 0).trans s.2.1, shT_sr s.2.2 (q.sub (by omega) (by omega))⟩
theorem shH_sr {h h' : jm_H} {a : Nat} (s : shH h a) (q : sr a 62 h h') : shH h' a := ⟨(q 0 (by omega)).1.trans s.1, ((q 0 (by omega)).2.2.1 0).trans s.2.1, ⟨(q 1 (by omega)).1.trans s.2.2.1.1, (q 1 (by omega)).2.1.trans s.2.2.1.2⟩, fun k hk => ⟨((q 1 (by omega)).2.2.1 k).trans (s.2.2.2 k hk).1, shV_sr (s.2.2.2 k hk).2 (q.sub (by omega) (by omega))⟩⟩
theorem shW_sr {h h' : jm_H} {a : Nat} (s : shW h a) (q : sr a 21 h h') : shW h' a := ⟨(q 0 (by omega)).1.trans s.1, ((q 0 (by omega)).2.2.1 0).trans s.2.1, shD_sr s.2.2 (q.sub (by omega) (by omega))⟩
theorem shX_sr {h h' : jm_H} {X c p : Nat} (s : shX h X c p) (q : sr X 180 h h') : shX h' X c p := by
  obtain ⟨s1, ⟨f0, f1, f2, f3, f4, f5, f6, f7, f8, f9, f10⟩, ⟨t1, t2, t3⟩, t4, ⟨b1, b2, b3⟩, w1, ⟨r1, r2, r3⟩, ⟨h1, h2⟩, e⟩ := s
  have pf := (q 0 (by omega)).2.2.1
  exact ⟨(q 0 (by omega)).1.trans s1, ⟨(pf _).trans f0, (pf _).trans f1, (pf _).trans f2, (pf _).trans f3, (pf _).trans f4, (pf _).trans f5, (pf _).trans f6, (pf _).trans f7, (pf _).trans f8, (pf _).trans f9, (pf _).trans f10⟩, ⟨shT_sr t1 (q.sub (by omega) (by omega)), shT_sr t2 (q.sub (by omega) (by omega)), shT_sr t3 (q.sub (by omega) (by omega))⟩, shD_sr t4 (q.sub (by omega) (by omega)), ⟨shB_sr b1 (q.sub (by omega) (by omega)), shB_sr b2 (q.sub (by omega) (by omega)), shB_sr b3 (q.sub (by omega) (by omega))⟩, shW_sr w1 (q.sub (by omega) (by omega)), ⟨(q 54 (by omega)).1.trans r1, ((q 54 (by omega)).2.2.1 0).trans r2, sha_sm r3 (q 55 (by omega))⟩, ⟨shH_sr h1 (q.sub (by omega) (by omega)), shH_sr h2 (q.sub (by omega) (by omega))⟩, e⟩
theorem cx_sr {h h' : jm_H} {a : Nat} {xs : List Int} (c : cx h a xs) (q : sr a 2 h h') : cx h' a xs := ⟨((q 0 (by omega)).2.2.2.2 1).trans c.1, c.2.1, c.2.2.same (q 1 (by omega)).2.2.2.2⟩
theorem cb_sr {h h' : jm_H} {a : Nat} {xs : List Int} (c : cb h a xs) (q : sr a 2 h h') : cb h' a xs := ⟨((q 0 (by omega)).2.2.2.2 1).trans c.1, c.2.1, c.2.2.same (q 1 (by omega)).2.2.2.2⟩
theorem dD_sr {h h' : jm_H} {a : Nat} {acc : List S5} {ad : List Int} {op : Bool} (c : dD h a acc ad op) (q : sr a 20 h h') : dD h' a acc ad op := by
  obtain ⟨⟨c1, c2, c3⟩, c4, c5, c6, c7, c8⟩ := c
  have q0 := (q 0 (by omega)).2.2.2.2
  exact ⟨⟨(q0 _).trans c1, (q0 _).trans c2, (q0 _).trans c3⟩, c4.same (q 1 (by omega)).2.2.2.2, c5.same (q 2 (by omega)).2.2.2.2, c6.same (q 3 (by omega)).2.2.2.2, c7.same (q 4 (by omega)).2.2.2.2, c8.same (q 5 (by omega)).2.2.2.2⟩
theorem cR_sr {h h' : jm_H} {a : Nat} {r : Rv} {f : FS} (c : cR h a r f) (q : sr a 3 h h') : cR h' a r f := by
  obtain ⟨⟨c1, c2, c3, c4, c5, c6, c7, c8, c9⟩, c10⟩ := c
  have q0 := (q 0 (by omega)).2.2.2.2
  exact ⟨⟨(q0 _).trans c1, (q0 _).trans c2, (q0 _).trans c3, (q0 _).trans c4, (q0 _).trans c5, (q0 _).trans c6, (q0 _).trans c7, (q0 _).trans c8, (q0 _).trans c9⟩, cx_sr c10 (q.sub (by omega) (by omega))⟩
theorem cH_sr {h h' : jm_H} {a : Nat} {rs : List Rv} {fs : List FS} (c : cH h a rs fs) (q : sr a 62 h h') : cH h' a rs fs := by
  have l20 := c.2.1
  exact ⟨((q 0 (by omega)).2.2.2.2 1).trans c.1, c.2.1, c.2.2.1, fun k hk => cR_sr (c.2.2.2 k hk) (q.sub (by omega) (by omega))⟩
theorem RX_sr {h h' : jm_H} {X c p : Nat} {s : St} (r : RX h X c p s) (q : sr X 180 h h') : RX h' X c p s := by
  obtain ⟨r1, r2, r3, ⟨op, r4⟩, r5, r6, r7, r8⟩ := r
  have e := r1.2.2.2.2.2.2.2.2
  exact ⟨shX_sr r1 q, cx_sr r2 (q.sub (by omega) (by omega)), cx_sr r3 (q.sub (by omega) (by omega)), ⟨op, dD_sr r4 (q.sub (by omega) (by omega))⟩, cb_sr r5 (q.sub (by omega) (by omega)), cb_sr r6 (q.sub (by omega) (by omega)), ((q 0 (by omega)).2.2.2.2 11).trans r7, cH_sr r8 (q.sub (by omega) (by omega))⟩
theorem mT_lt : ∀ x ∈ mT, x.2.1 < 30 := by decide
theorem shM_sr {h h' : jm_H} {M : Nat} (s : shM h M) (q : sr M 30 h h') : shM h' M := ⟨(q 0 (by omega)).1.trans s.1, fun x hx => ⟨((q 0 (by omega)).2.2.1 _).trans (s.2 x hx).1, sha_sm (s.2 x hx).2 (q _ (mT_lt x hx))⟩⟩
theorem txs_same {h h' : jm_H} {a : Nat} {ts : List (List Int)} (t : txs h a ts) (e : ∀ k, jm_I h' a k = jm_I h a k) : txs h' a ts := t.same e
theorem RM_I {h h' : jm_H} {M : Nat} {s : St} (r : RM h M s) (hs : shM h' M) (q0 : ∀ k, (k = 1 ∨ k = 10 ∨ k = 11 ∨ k = 13 ∨ k = 15 ∨ k = 26) → jm_I h' M k = jm_I h M k) (q : ∀ i, ((1 ≤ i ∧ i < 11) ∨ (18 ≤ i ∧ i < 23)) → ∀ k, jm_I h' (M + i) k = jm_I h (M + i) k) : RM h' M s := by
  obtain ⟨-, ⟨d1, d2, d3⟩, ⟨⟨u1, u2⟩, u3, u4⟩, ⟨ts, ⟨t1, t2, t3, t4⟩, t5⟩, ⟨f1, f2, f3⟩, ⟨e1, e2, e3⟩, r7, ⟨w1, w2, w3, w4, w5, w6⟩, r9⟩ := r
  exact ⟨hs, ⟨(q0 10 (by omega)).trans d1, d2, d3.same (q 8 (by omega))⟩, ⟨⟨(q0 1 (by omega)).trans u1, u2.same (q 1 (by omega))⟩, u3.same (q 2 (by omega)), u4.same (q 3 (by omega))⟩, ⟨ts, ⟨t1, t2.same (q 4 (by omega)), t3.same (q 5 (by omega)), t4⟩, t5⟩, ⟨(q0 11 (by omega)).trans f1, f2, f3.same (q 9 (by omega))⟩, ⟨(q0 13 (by omega)).trans e1, e2, e3.same (q 10 (by omega))⟩, (q0 15 (by omega)).trans r7, ⟨(q0 26 (by omega)).trans w1, w2.same (q 18 (by omega)), w3.same (q 19 (by omega)), w4.same (q 20 (by omega)), w5.same (q 21 (by omega)), w6.same (q 22 (by omega))⟩, r9.same (q 6 (by omega)) (q 7 (by omega))⟩
theorem RM_sr {h h' : jm_H} {M : Nat} {s : St} (r : RM h M s) (q : sr M 30 h h') : RM h' M s := RM_I r (shM_sr r.1 q) (fun k _ => (q 0 (by omega)).2.2.2.2 k) (fun i hi => (q i (by omega)).2.2.2.2)
/-- what the reference only works with -/
def scK : List Nat := [0, 16, 18, 21, 32, 35, 36, 37]
def scS (M : Nat) : List Nat := [M + 11, M + 12, M + 13, M + 14, M + 15, M + 16, M + 17, M + 23, M + 24, M + 25, M + 26, M + 27, M + 28, M + 29]
theorem RM_jq {h h' : jm_H} {M : Nat} {s : St} {ks S : List Nat} (r : RM h M s) (p : jq M ks S h h') (h1 : ∀ k ∈ ks, k ∈ scK) (h2 : ∀ b ∈ S, b ∈ scS M) : RM h' M s := by
  refine RM_I r (r.1.js p.1) (fun k hk => p.2 M k (fun q => ?_) (fun q => ?_)) (fun i hi k => p.2 (M + i) k (fun q => ?_) (fun q => ?_))
  · have := h2 _ q; simp [scS] at this
  · have := h1 _ q.2; simp [scK] at this; omega
  · have := h2 _ q; simp [scS] at this; omega
  · omega
theorem RX_jf {h h' : jm_H} {X c p : Nat} {s : St} {S : List Nat} (r : RX h X c p s) (q : jf S h h') (hS : ∀ b ∈ S, (X + 3 ≤ b ∧ b < X + 5) ∨ (X + 31 ≤ b ∧ b < X + 56) ∨ (p ≤ b ∧ b < p + 62)) : RX h' X c p s := by
  obtain ⟨r1, r2, r3, ⟨op, r4⟩, r5, r6, r7, r8⟩ := r
  have e := r1.2.2.2.2.2.2.2.2
  have n : ∀ b, ¬ ((X + 3 ≤ b ∧ b < X + 5) ∨ (X + 31 ≤ b ∧ b < X + 56) ∨ (p ≤ b ∧ b < p + 62)) → b ∉ S := fun b hb m => hb (hS b m)
  exact ⟨r1.js q.1, r2.jf q (n _ (by omega)) (n _ (by omega)), r3.jf q (n _ (by omega)) (n _ (by omega)), ⟨op, r4.jf q (fun i hi => n _ (by omega))⟩, r5.jf q (n _ (by omega)) (n _ (by omega)), r6.jf q (n _ (by omega)) (n _ (by omega)), (q.2 X (n _ (by omega)) 11).trans r7, r8.jf q (fun i hi => n _ (by omega))⟩
/-- all but the n objects from a on is the same; one more at most was made -/
def ux (a n : Nat) (h h' : jm_H) : Prop := (h.1 ≤ h'.1 ∧ h'.1 ≤ h.1 + 1 ∧ h'.2.1 ≤ h.2.1 + 6) ∧ ∀ b, b < h.1 → ¬ (a ≤ b ∧ b < a + n) → sm h h' b
theorem ux_jf {a n : Nat} {S : List Nat} {h h' : jm_H} (p : jf S h h') (hs : ∀ b ∈ S, a ≤ b ∧ b < a + n) : ux a n h h' := ⟨by have := p.1.1; have := p.1.2.1; omega, fun b _ hb => ⟨p.1.2.2.1 b, p.1.2.2.2.1 b, p.1.2.2.2.2.1 b, p.1.2.2.2.2.2 b, p.2 b (fun q => hb (hs b q))⟩⟩
theorem ux_jq {a n M : Nat} {ks S : List Nat} {h h' : jm_H} (p : jq M ks S h h') (hm : a ≤ M ∧ M < a + n) (hs : ∀ b ∈ S, a ≤ b ∧ b < a + n) : ux a n h h' := ⟨by have := p.1.1; have := p.1.2.1; omega, fun b _ hb => ⟨p.1.2.2.1 b, p.1.2.2.2.1 b, p.1.2.2.2.2.1 b, p.1.2.2.2.2.2 b, fun k => p.2 b k (fun q => hb (hs b q)) (fun q => hb (by rw [q.1]; exact hm))⟩⟩
theorem ux_xh (a n t : Nat) (h : jm_H) : ux a n h (xh h t) := ⟨⟨Nat.le_succ _, Nat.le_refl _, Nat.le_refl _⟩, fun b hb _ => ⟨xh_T' h t (by omega), xh_N h t (by omega), xh_F h t (by omega), xh_L h t (by omega), xh_I h t (by omega)⟩⟩
theorem ux_refl (a n : Nat) (h : jm_H) : ux a n h h := ⟨by omega, fun _ _ _ => ⟨rfl, rfl, fun _ => rfl, fun _ => rfl, fun _ => rfl⟩⟩
theorem sm_trans {h h1 h2 : jm_H} {b : Nat} (p : sm h h1 b) (q : sm h1 h2 b) : sm h h2 b := ⟨q.1.trans p.1, q.2.1.trans p.2.1, fun k => (q.2.2.1 k).trans (p.2.2.1 k), fun k => (q.2.2.2.1 k).trans (p.2.2.2.1 k), fun k => (q.2.2.2.2 k).trans (p.2.2.2.2 k)⟩
theorem ux_step {a n : Nat} {h h1 h2 : jm_H} (p : ux a n h h1) (e : h1.1 = h.1 ∧ h1.2.1 = h.2.1) (q : ux a n h1 h2) : ux a n h h2 := ⟨by have := q.1; omega, fun b hb hn => sm_trans (p.2 b hb hn) (q.2 b (by omega) hn)⟩
theorem ux_sF {a n b k x : Nat} {h : jm_H} (hb : a ≤ b ∧ b < a + n) : ux a n h (jm_sF h b k x) := by
  refine ⟨⟨Nat.le_refl _, Nat.le_succ _, Nat.le_add_right _ _⟩, fun c _ hc => ?_⟩
  have ne : c ≠ b := fun e => hc (by rw [e]; exact hb)
  exact ⟨jr_T_sF h b k x c, jr_N_sF h b k x c, fun j => by rw [jr_F_sF, if_neg (fun q => ne q.1)], fun j => jr_L_sF h b k x c j, fun j => jr_I_sF h b k x c j⟩
theorem ux_sI {a n b k : Nat} {x : Int32} {h : jm_H} (hb : a ≤ b ∧ b < a + n) : ux a n h (jm_sI h b k x) := ux_jf ((jf.refl [b] h).sI (by simp)) (fun c hc => by rw [List.mem_singleton.mp hc]; exact hb)
/-- behind a throw nothing else has changed -/
theorem RX_xh {h : jm_H} {X c p : Nat} {s : St} (r : RX h X c p s) (hb : X + 180 ≤ h.1) (t : Nat) : RX (xh h t) X c p s := RX_sr r (fun i hi => (ux_xh 0 0 t h).2 (X + i) (by omega) (by omega))
/-- what a method answers: a number, or it throws -/
def xo (t2 : Nat) (code val : Int) (o : jm_R) (h h' : jm_H) : Prop := (code = 0 ∧ o = .inl (some (.inl (jz val)))) ∨ (code = 1 ∧ o = .inr h.1 ∧ jm_T h' h.1 = 201) ∨ (code = 2 ∧ o = .inr h.1 ∧ jm_T h' h.1 = t2) ∨ (code = 3 ∧ o = .inr h.1 ∧ jm_T h' h.1 = 205)
