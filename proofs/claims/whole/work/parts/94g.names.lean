/-! Names and children, out of the parents. -/
def cntE (r : Int) : List Int → Nat
  | [] => 0
  | x :: l => (if x = r then 1 else 0) + cntE r l
theorem cntE_app (r : Int) : ∀ (a b : List Int), cntE r (a ++ b) = cntE r a + cntE r b
  | [], b => (Nat.zero_add _).symm
  | x :: a, b => by
    show (if x = r then 1 else 0) + cntE r (a ++ b) = (if x = r then 1 else 0) + cntE r a + cntE r b
    rw [cntE_app r a b, Nat.add_assoc]
theorem cntE_one (r x : Int) : cntE r [x] = if x = r then 1 else 0 := Nat.add_zero _
theorem cntE_zero {r : Int} : ∀ {l : List Int}, (∀ x ∈ l, x ≠ r) → cntE r l = 0
  | [], _ => rfl
  | x :: l, h => by
    show (if x = r then 1 else 0) + cntE r l = 0
    rw [if_neg (h x List.mem_cons_self), cntE_zero (fun y hy => h y (List.mem_cons_of_mem _ hy))]
/-- fork, branch, place, length of the name of a child, out of its parent p with c children before -/
def nx4 (p : Int) (c : Nat) (t : Int × Int × Int × Int) : Int × Int × Int × Int := if c = 0 then (t.1, t.2.1, t.2.2.1 + 1, t.2.2.2) else (p, (c : Int), 1, t.2.2.2 + 2)
def gfP (ps : List Int) : Prop := ∀ r, r < ps.length → ((fsK ps r).1 = -1 ↔ cntE (r : Int) ps = 0) ∧ (fsK ps r).2.1 = ((cntE (r : Int) ps - 1 : Nat) : Int) ∧ (r = 0 → (fsK ps r).2.2 = (-1, 1, 1, 2)) ∧ (0 < r → (fsK ps r).2.2 = nx4 (ps.getD r 0) (cntE (ps.getD r 0) (ps.take r)) (fsK ps (ps.getD r 0).toNat).2.2)
theorem vp_lt {ps : List Int} (hv : vp ps) : ∀ x ∈ ps, x < ps.length := by
  intro v hm
  obtain ⟨k, hk, rfl⟩ := List.getElem_of_mem hm
  have := hv k hk
  rw [List.getD_eq_getElem?_getD, List.getElem?_eq_getElem hk] at this
  simp only [Option.getD_some] at this
  by_cases e : k = 0
  · have := this.1 e
    omega
  · have := this.2 (by omega)
    omega
theorem gfP_snoc {ps : List Int} {p : Int} (h : gfP ps) (hp : 0 ≤ p ∧ p < ps.length) (hv : vp ps) : gfP (ps ++ [p]) := by
  have el : (ps ++ [p]).length = ps.length + 1 := by rw [List.length_append, List.length_singleton]
  have pk : p.toNat < ps.length := by omega
  have pe : ((p.toNat : Nat) : Int) = p := by omega
  have tl : ∀ r, r < ps.length → (fsK (ps ++ [p]) r).2.2 = (fsK ps r).2.2 := by
    intro r hr
    rw [fsK_snoc hp r (by omega), if_neg (by omega)]
    split
    · rename_i e; rw [e]; split <;> rfl
    · rfl
  obtain ⟨b1, b2, -, -⟩ := h p.toNat pk
  rw [pe] at b1 b2
  intro r hr
  rw [el] at hr
  by_cases e : r = ps.length
  · subst e
    have F := fsK_snoc hp ps.length (Nat.le_refl _)
    rw [if_pos rfl] at F
    have z : cntE ((ps.length : Nat) : Int) (ps ++ [p]) = 0 := cntE_zero (fun x hx => by
      rcases List.mem_append.mp hx with hx | hx
      · have := vp_lt hv x hx; omega
      · have : x = p := by simpa using hx
        omega)
    have g1 : (ps ++ [p]).getD ps.length 0 = p := gD_n rfl
    have g2 : (ps ++ [p]).take ps.length = ps := by rw [List.take_append_of_le_length (Nat.le_refl _), List.take_length]
    rw [z, g1, g2, tl _ pk]
    by_cases c : (fsK ps p.toNat).1 = -1
    · rw [if_pos c] at F
      rw [F]
      refine ⟨⟨fun _ => rfl, fun _ => rfl⟩, rfl, fun e0 => by omega, fun _ => ?_⟩
      rw [nx4, if_pos (b1.mp c)]
    · rw [if_neg c] at F
      rw [F]
      have cn : ¬ cntE p ps = 0 := fun q => c (b1.mpr q)
      refine ⟨⟨fun _ => rfl, fun _ => rfl⟩, rfl, fun e0 => by omega, fun _ => ?_⟩
      rw [nx4, if_neg cn, b2]
      show (p, ((cntE p ps - 1 : Nat) : Int) + 1, (1 : Int), _) = _
      rw [show ((cntE p ps - 1 : Nat) : Int) + 1 = (cntE p ps : Int) by omega]
  · have hr' : r < ps.length := by omega
    obtain ⟨a1, a2, a3, a4⟩ := h r hr'
    have F := fsK_snoc hp r (by omega)
    rw [if_neg e] at F
    have cn : cntE (r : Int) (ps ++ [p]) = cntE (r : Int) ps + (if p = r then 1 else 0) := by rw [cntE_app, cntE_one]
    refine ⟨?_, ?_, fun e0 => by rw [tl r hr']; exact a3 e0, fun h0 => ?_⟩
    · by_cases q : r = p.toNat
      · rw [cn, if_pos (by omega)]
        rw [if_pos q] at F
        by_cases c : (fsK ps p.toNat).1 = -1
        · rw [if_pos c] at F
          rw [F]
          exact ⟨fun w => by have w' : (ps.length : Int) = -1 := w; omega, fun w => by omega⟩
        · rw [if_neg c] at F
          rw [F]
          exact ⟨fun w => absurd w c, fun w => by omega⟩
      · rw [cn, if_neg (by omega), Nat.add_zero]
        rw [if_neg q] at F
        rw [F]; exact a1
    · by_cases q : r = p.toNat
      · have e3 : (r : Int) = p := by omega
        rw [cn, if_pos (by omega), e3]
        rw [if_pos q] at F
        by_cases c : (fsK ps p.toNat).1 = -1
        · rw [if_pos c] at F
          rw [F]
          show (fsK ps p.toNat).2.1 = _
          have := b1.mp c
          rw [b2, this]
        · rw [if_neg c] at F
          have : ¬ cntE p ps = 0 := fun w => c (b1.mpr w)
          rw [F]
          show (fsK ps p.toNat).2.1 + 1 = _
          rw [b2]; omega
      · rw [cn, if_neg (by omega), Nat.add_zero]
        rw [if_neg q] at F
        rw [F]; exact a2
    · have hpr := (hv r hr').2 h0
      rw [tl r hr', gD_l hr', List.take_append_of_le_length (by omega), tl _ (by omega)]
      exact a4 h0
theorem gfP_all : ∀ (n : Nat) (ps : List Int), ps.length = n → vp ps → gfP ps
  | 0, ps, hl, _ => fun r h => by omega
  | n + 1, ps, hl, hv => by
    have hne : ps ≠ [] := by intro e; rw [e] at hl; cases hl
    obtain ⟨qs, p, rfl⟩ : ∃ qs p, ps = qs ++ [p] := ⟨ps.dropLast, ps.getLast hne, (List.dropLast_concat_getLast hne).symm⟩
    rw [List.length_append, List.length_singleton] at hl
    have ih := gfP_all n qs (by omega) hv.init
    by_cases hq : 0 < qs.length
    · exact gfP_snoc ih (hv.last.2 hq) hv.init
    · have e : qs = [] := List.eq_nil_of_length_eq_zero (by omega)
      subst e
      have : p = -1 := hv.last.1 rfl
      subst this
      have e0 : fsK ([] ++ [(-1 : Int)]) 0 = fs0 := by decide
      intro r h
      have : r = 0 := by
        have l1 : ([] ++ [(-1 : Int)]).length = 1 := rfl
        rw [l1] at h; omega
      subst this
      rw [e0]
      exact ⟨by decide, by decide, fun _ => rfl, fun w => absurd w (by omega)⟩
/-- forks lie before; lengths of names -/
theorem fork_lt {ps : List Int} (hv : vp ps) (hg : gfP ps) : ∀ r, r < ps.length → ((fsK ps r).2.2.1 = -1 ∧ (fsK ps r).2.2.2.2.2 = 2) ∨ ((0 ≤ (fsK ps r).2.2.1 ∧ (fsK ps r).2.2.1 < r) ∧ (fsK ps r).2.2.2.2.2 = (fsK ps (fsK ps r).2.2.1.toNat).2.2.2.2.2 + 2) := by
  intro r
  induction r using Nat.strongRecOn with
  | _ r ih =>
    intro hr
    obtain ⟨-, -, a3, a4⟩ := hg r hr
    by_cases e : r = 0
    · rw [a3 e]; exact Or.inl ⟨rfl, rfl⟩
    · have hp := (hv r hr).2 (by omega)
      have i := ih (ps.getD r 0).toNat (by omega) (by omega)
      rw [a4 (by omega), nx4]
      split
      · rcases i with ⟨i1, i2⟩ | ⟨i1, i2⟩
        · exact Or.inl ⟨i1, i2⟩
        · exact Or.inr ⟨⟨i1.1, by show (fsK ps (ps.getD r 0).toNat).2.2.1 < _; omega⟩, i2⟩
      · exact Or.inr ⟨⟨hp.1, hp.2⟩, rfl⟩
theorem nl_bd {ps : List Int} (hv : vp ps) (hg : gfP ps) : ∀ r, r < ps.length → 2 ≤ (fsK ps r).2.2.2.2.2 ∧ (fsK ps r).2.2.2.2.2 ≤ 2 + 2 * r := by
  intro r
  induction r using Nat.strongRecOn with
  | _ r ih =>
    intro hr
    rcases fork_lt hv hg r hr with ⟨-, i2⟩ | ⟨i1, i2⟩
    · omega
    · have := ih (fsK ps r).2.2.1.toNat (by omega) (by omega)
      omega
def nmG (ps : List Int) : Nat → Nat → List Int
  | 0, _ => []
  | n + 1, r => (if (fsK ps r).2.2.1 = -1 then [] else nmG ps n (fsK ps r).2.2.1.toNat) ++ [(fsK ps r).2.2.2.1, (fsK ps r).2.2.2.2.1]
/-- the name of a revision -/
def nm (ps : List Int) (r : Nat) : List Int := nmG ps (r + 1) r
theorem nmG_eq {ps : List Int} (hv : vp ps) (hg : gfP ps) : ∀ r, r < ps.length → ∀ n m, r < n → r < m → nmG ps n r = nmG ps m r := by
  intro r
  induction r using Nat.strongRecOn with
  | _ r ih =>
    intro hr n m hn hm
    obtain ⟨n, rfl⟩ : ∃ n', n = n' + 1 := ⟨n - 1, by omega⟩
    obtain ⟨m, rfl⟩ : ∃ m', m = m' + 1 := ⟨m - 1, by omega⟩
    show (if (fsK ps r).2.2.1 = -1 then [] else nmG ps n (fsK ps r).2.2.1.toNat) ++ _ = (if (fsK ps r).2.2.1 = -1 then [] else nmG ps m (fsK ps r).2.2.1.toNat) ++ _
    rcases fork_lt hv hg r hr with ⟨i1, -⟩ | ⟨i1, -⟩
    · rw [if_pos i1, if_pos i1]
    · rw [ih _ (by omega) (by omega) n m (by omega) (by omega)]
theorem nm_eq {ps : List Int} (hv : vp ps) (hg : gfP ps) {r : Nat} (hr : r < ps.length) : nm ps r = (if (fsK ps r).2.2.1 = -1 then [] else nm ps (fsK ps r).2.2.1.toNat) ++ [(fsK ps r).2.2.2.1, (fsK ps r).2.2.2.2.1] := by
  show (if (fsK ps r).2.2.1 = -1 then [] else nmG ps r (fsK ps r).2.2.1.toNat) ++ _ = _
  rcases fork_lt hv hg r hr with ⟨i1, -⟩ | ⟨i1, -⟩
  · rw [if_pos i1, if_pos i1]
  · rw [nmG_eq hv hg _ (by omega) r ((fsK ps r).2.2.1.toNat + 1) (by omega) (by omega)]; rfl
theorem nm_len {ps : List Int} (hv : vp ps) (hg : gfP ps) : ∀ r, r < ps.length → ((nm ps r).length : Int) = (fsK ps r).2.2.2.2.2 := by
  intro r
  induction r using Nat.strongRecOn with
  | _ r ih =>
    intro hr
    rw [nm_eq hv hg hr, List.length_append]
    rcases fork_lt hv hg r hr with ⟨i1, i2⟩ | ⟨i1, i2⟩
    · rw [if_pos i1, i2]; rfl
    · rw [if_neg (by omega), i2, ← ih _ (by omega) (by omega)]; rfl
/-- the first child goes on, each other begins a branch -/
theorem nm_first {ps : List Int} (hv : vp ps) (hg : gfP ps) {r : Nat} (hr : r < ps.length) (h0 : 0 < r) (c : cntE (ps.getD r 0) (ps.take r) = 0) : (nm ps r).length = (nm ps (ps.getD r 0).toNat).length ∧ ∀ i, i < (nm ps r).length → (nm ps r).getD i 0 = if i = (nm ps r).length - 1 then (nm ps (ps.getD r 0).toNat).getD i 0 + 1 else (nm ps (ps.getD r 0).toNat).getD i 0 := by
  have hp := (hv r hr).2 h0
  have a4 := (hg r hr).2.2.2 h0
  rw [nx4, if_pos c] at a4
  have e1 := nm_eq hv hg hr
  have e2 := nm_eq hv hg (show (ps.getD r 0).toNat < ps.length by omega)
  rw [a4] at e1
  rw [e1, e2]
  generalize (if (fsK ps (ps.getD r 0).toNat).2.2.1 = -1 then [] else nm ps (fsK ps (ps.getD r 0).toNat).2.2.1.toNat) = Y
  refine ⟨by rw [List.length_append, List.length_append]; rfl, fun i hi => ?_⟩
  have l1 : ∀ x y : Int, (Y ++ [x, y]).length = Y.length + 2 := fun x y => by rw [List.length_append]; rfl
  rw [l1] at hi ⊢
  by_cases q : i < Y.length
  · rw [if_neg (by omega), getD_app_l q, getD_app_l q]
  · rw [getD_app_r (by omega), getD_app_r (by omega)]
    by_cases q2 : i = Y.length
    · rw [if_neg (by omega), q2, Nat.sub_self]; rfl
    · rw [if_pos (by omega), show i - Y.length = 1 by omega]; rfl
theorem nm_branch {ps : List Int} (hv : vp ps) (hg : gfP ps) {r : Nat} (hr : r < ps.length) (h0 : 0 < r) (c : ¬ cntE (ps.getD r 0) (ps.take r) = 0) : nm ps r = nm ps (ps.getD r 0).toNat ++ [(cntE (ps.getD r 0) (ps.take r) : Int), 1] := by
  have hp := (hv r hr).2 h0
  have a4 := (hg r hr).2.2.2 h0
  rw [nx4, if_neg c] at a4
  rw [nm_eq hv hg hr, a4, if_neg (show ¬ ps.getD r 0 = -1 by omega)]
theorem nm_0 {ps : List Int} (hv : vp ps) (hg : gfP ps) (hr : 0 < ps.length) : nm ps 0 = [1, 1] := by
  have a3 := (hg 0 hr).2.2.1 rfl
  rw [nm_eq hv hg hr, a3, if_pos rfl]; rfl
/-- names stay -/
theorem fsK_tl {ps : List Int} {p : Int} (hp : 0 ≤ p ∧ p < ps.length) {r : Nat} (hr : r < ps.length) : (fsK (ps ++ [p]) r).2.2 = (fsK ps r).2.2 := by
  rw [fsK_snoc hp r (by omega), if_neg (by omega)]
  split
  · rename_i e; rw [e]; split <;> rfl
  · rfl
theorem nm_snoc {ps : List Int} {p : Int} (hv : vp (ps ++ [p])) : ∀ r, r < ps.length → nm (ps ++ [p]) r = nm ps r := by
  have hg' := gfP_all _ _ rfl hv
  have hg := gfP_all _ _ rfl hv.init
  intro r
  induction r using Nat.strongRecOn with
  | _ r ih =>
    intro hr
    have hp := hv.last.2 (by omega)
    rw [nm_eq hv hg' (by rw [List.length_append]; omega), nm_eq hv.init hg hr, fsK_tl hp hr]
    rcases fork_lt hv.init hg r hr with ⟨i1, -⟩ | ⟨i1, -⟩
    · rw [if_pos i1, if_pos i1]
    · rw [ih _ (by omega) (by omega)]
/-- the numbers of a name -/
def nmN (ps : List Int) (r : Nat) (k : Int) : Int := if 0 ≤ k ∧ k < (nm ps r).length then (nm ps r).getD k.toNat 0 else 0
theorem nmN_fork {ps : List Int} (hv : vp ps) (hg : gfP ps) {r : Nat} (hr : r < ps.length) {k : Int} (h0 : 0 ≤ k) (hk : k < (fsK ps r).2.2.2.2.2 - 2) : (0 ≤ (fsK ps r).2.2.1 ∧ (fsK ps r).2.2.1 < r) ∧ nmN ps r k = nmN ps (fsK ps r).2.2.1.toNat k ∧ k < (fsK ps (fsK ps r).2.2.1.toNat).2.2.2.2.2 := by
  rcases fork_lt hv hg r hr with ⟨-, i2⟩ | ⟨i1, i2⟩
  · omega
  · refine ⟨i1, ?_, by omega⟩
    have l1 := nm_len hv hg r hr
    have l2 := nm_len hv hg (fsK ps r).2.2.1.toNat (by omega)
    rw [nmN, nmN, if_pos (by omega), if_pos (by omega), nm_eq hv hg hr, if_neg (by omega), getD_app_l (by omega)]
theorem nmN_end {ps : List Int} (hv : vp ps) (hg : gfP ps) {r : Nat} (hr : r < ps.length) {k : Int} (h0 : 0 ≤ k) (hk : k < (fsK ps r).2.2.2.2.2) (h2 : (fsK ps r).2.2.2.2.2 - 2 ≤ k) : nmN ps r k = if k = (fsK ps r).2.2.2.2.2 - 1 then (fsK ps r).2.2.2.2.1 else (fsK ps r).2.2.2.1 := by
  have l1 := nm_len hv hg r hr
  have e := nm_eq hv hg hr
  rw [nmN, if_pos (by omega), e]
  rw [e, List.length_append] at l1
  generalize (if (fsK ps r).2.2.1 = -1 then [] else nm ps (fsK ps r).2.2.1.toNat) = Y at *
  have l2 : ((Y.length + 2 : Nat) : Int) = (fsK ps r).2.2.2.2.2 := l1
  by_cases q : k = (fsK ps r).2.2.2.2.2 - 1
  · rw [if_pos q, getD_app_r (by omega), show k.toNat - Y.length = 1 by omega]; rfl
  · rw [if_neg q, getD_app_r (by omega), show k.toNat - Y.length = 0 by omega]; rfl
