/-! How the abstract machine's heap and frames stand to the machine's own. -/
/-- b: the script's cell; the first new cell; the script; class numbers and slots; int[]; long[]; arrays of references, by kind; exceptions, by kind; the state at the law's start -/
abbrev jm_G : Type := Nat × Nat × Cell × va_G × ClassId × ClassId × (Nat → ClassId) × (Nat → ClassId × Array FieldType) × State
/-- classes by kind; types of their fields; component types of the arrays of references, by kind; names of the exceptions by kind -/
abbrev jm_J : Type := List vw_C × (Nat → Nat → FieldType) × (Nat → Option FieldType) × (Nat → Option String)
def jg_ad (G : jm_G) (r : Nat) : Nat := if r = 1 then G.1 else G.2.1 + (r - 2)
def jg_mv (G : jm_G) : jm_V → Value
  | .inl x => .int x
  | .inr (.inl 0) => .null
  | .inr (.inl (r + 1)) => .ref (jg_ad G (r + 1))
  | .inr (.inr z) => .long z
theorem jg_mv_ref (G : jm_G) {r : Nat} (h : r ≠ 0) : jg_mv G (.inr (.inl r)) = .ref (jg_ad G r) := by
  cases r with
  | zero => exact absurd rfl h
  | succ r => rfl
theorem jg_mv_obj (G : jm_G) {r : Nat} (h : 2 ≤ r) : jg_mv G (.inr (.inl r)) = .ref (G.2.1 + (r - 2)) := by
  rw [jg_mv_ref G (by omega)]
  simp [jg_ad, show r ≠ 1 by omega]
theorem jg_mv_c1 (G : jm_G) {v : jm_V} (h : ∀ z, v ≠ .inr (.inr z)) : (jg_mv G v).category = 1 := by
  rcases v with v | v | v
  · rfl
  · cases v <;> rfl
  · exact absurd rfl (h v)
def jm_isI : FieldType → Bool
  | .int => true
  | .boolean => true
  | _ => false
def jg_fv (G : jm_G) (ty : Nat → FieldType) (o : jm_O) (k : Nat) : Value := if jm_isI (ty k) = true then .int (o.2.2.1 k) else jg_mv G (.inr (.inl (o.2.2.2.1 k)))
/-- the object o stands at the cell a -/
def jg_at (G : jm_G) (J : jm_J) (o : jm_O) (a : Nat) (H : Heap) : Prop :=
  if o.1 = 100 then H[a]? = some (arrV G.2.2.2.2.1 o.2.1 (fun j => .int (o.2.2.1 j)))
  else if o.1 = 101 then H[a]? = some (arrV G.2.2.2.2.2.1 o.2.1 (fun j => .long (o.2.2.2.2 j)))
  else if o.1 < 60 then ∃ q, J.1[o.1]? = some q ∧ t_OB a (G.2.2.2.1.1 o.1) q.2.2 (G.2.2.2.1.2 o.1) H (jg_fv G (J.2.1 o.1) o)
  else if o.1 < 99 then H[a]? = some (arrV (G.2.2.2.2.2.2.1 o.1) o.2.1 (fun j => jg_mv G (.inr (.inl (o.2.2.2.1 j)))))
  else if o.1 < 200 then False
  else if o.1 % 2 = 0 then (∃ nm, J.2.2.2 o.1 = some nm) ∧ H[a]? = some { cls := (G.2.2.2.2.2.2.2.1 o.1).1, slots := (G.2.2.2.2.2.2.2.1 o.1).2.map defaultValue, vm := .none }
  else (∃ nm, J.2.2.2 (o.1 - 1) = some nm) ∧ ∃ cell, H[a]? = some cell ∧ cell.cls = (G.2.2.2.2.2.2.2.1 (o.1 - 1)).1 ∧ cell.vm = .none
theorem jg_at.kept {G : jm_G} {J : jm_J} {o : jm_O} {a : Nat} {H H' : Heap} (h : jg_at G J o a H) (hq : H'[a]? = H[a]?) : jg_at G J o a H' := by
  unfold jg_at at h ⊢
  split
  · rename_i c; rw [if_pos c] at h; rw [hq]; exact h
  · rename_i c; rw [if_neg c] at h
    split
    · rename_i c; rw [if_pos c] at h; rw [hq]; exact h
    · rename_i c; rw [if_neg c] at h
      split
      · rename_i c; rw [if_pos c] at h
        obtain ⟨q, h1, h2⟩ := h
        exact ⟨q, h1, h2.kept hq⟩
      · rename_i c; rw [if_neg c] at h
        split
        · rename_i c; rw [if_pos c] at h; rw [hq]; exact h
        · rename_i c; rw [if_neg c] at h
          split
          · rename_i c; rw [if_pos c] at h; exact h
          · rename_i c; rw [if_neg c] at h
            split
            · rename_i c; rw [if_pos c] at h; rw [hq]; exact h
            · rename_i c; rw [if_neg c] at h; rw [hq]; exact h
/-- an object's cell is a plain one -/
theorem jg_at.plain {G : jm_G} {J : jm_J} {o : jm_O} {a : Nat} {H : Heap} (h : jg_at G J o a H) {cell : Cell} (hc : H[a]? = some cell) : cell.vm = .none := by
  unfold jg_at at h
  split at h
  · rw [hc] at h; cases h; rfl
  · split at h
    · rw [hc] at h; cases h; rfl
    · split at h
      · obtain ⟨q, -, c', h1, -, h2, -⟩ := h
        rw [hc] at h1; cases h1; exact h2
      · split at h
        · rw [hc] at h; cases h; rfl
        · split at h
          · exact h.elim
          · split at h
            · have h1 := h.2
              rw [hc] at h1; cases h1; rfl
            · obtain ⟨-, c', h1, -, h2⟩ := h
              rw [hc] at h1; cases h1; exact h2
theorem jg_at.arrI {G : jm_G} {J : jm_J} {o : jm_O} {a : Nat} {H : Heap} (h : jg_at G J o a H) (ht : o.1 = 100) : H[a]? = some (arrV G.2.2.2.2.1 o.2.1 (fun j => .int (o.2.2.1 j))) := by
  unfold jg_at at h; rw [if_pos ht] at h; exact h
theorem jg_at.arrL {G : jm_G} {J : jm_J} {o : jm_O} {a : Nat} {H : Heap} (h : jg_at G J o a H) (ht : o.1 = 101) : H[a]? = some (arrV G.2.2.2.2.2.1 o.2.1 (fun j => .long (o.2.2.2.2 j))) := by
  unfold jg_at at h; rw [if_neg (by omega), if_pos ht] at h; exact h
theorem jg_at.obj {G : jm_G} {J : jm_J} {o : jm_O} {a : Nat} {H : Heap} (h : jg_at G J o a H) (ht : o.1 < 60) : ∃ q, J.1[o.1]? = some q ∧ t_OB a (G.2.2.2.1.1 o.1) q.2.2 (G.2.2.2.1.2 o.1) H (jg_fv G (J.2.1 o.1) o) := by
  unfold jg_at at h; rw [if_neg (by omega), if_neg (by omega), if_pos ht] at h; exact h
theorem jg_at.arrR {G : jm_G} {J : jm_J} {o : jm_O} {a : Nat} {H : Heap} (h : jg_at G J o a H) (h1 : 60 ≤ o.1) (h2 : o.1 < 99) : H[a]? = some (arrV (G.2.2.2.2.2.2.1 o.1) o.2.1 (fun j => jg_mv G (.inr (.inl (o.2.2.2.1 j))))) := by
  unfold jg_at at h; rw [if_neg (by omega), if_neg (by omega), if_neg (by omega), if_pos h2] at h; exact h
theorem jg_at.ex0 {G : jm_G} {J : jm_J} {o : jm_O} {a : Nat} {H : Heap} (h : jg_at G J o a H) (h1 : 200 ≤ o.1) (h2 : o.1 % 2 = 0) : (∃ nm, J.2.2.2 o.1 = some nm) ∧ H[a]? = some { cls := (G.2.2.2.2.2.2.2.1 o.1).1, slots := (G.2.2.2.2.2.2.2.1 o.1).2.map defaultValue, vm := .none } := by
  unfold jg_at at h; rw [if_neg (by omega), if_neg (by omega), if_neg (by omega), if_neg (by omega), if_neg (by omega), if_pos h2] at h; exact h
theorem jg_at.ex1 {G : jm_G} {J : jm_J} {o : jm_O} {a : Nat} {H : Heap} (h : jg_at G J o a H) (h1 : 200 ≤ o.1) (h2 : ¬ o.1 % 2 = 0) : (∃ nm, J.2.2.2 (o.1 - 1) = some nm) ∧ ∃ cell, H[a]? = some cell ∧ cell.cls = (G.2.2.2.2.2.2.2.1 (o.1 - 1)).1 ∧ cell.vm = .none := by
  unfold jg_at at h; rw [if_neg (by omega), if_neg (by omega), if_neg (by omega), if_neg (by omega), if_neg (by omega), if_neg h2] at h; exact h
theorem jg_at.mkI {G : jm_G} {J : jm_J} {o : jm_O} {a : Nat} {H : Heap} (ht : o.1 = 100) (h : H[a]? = some (arrV G.2.2.2.2.1 o.2.1 (fun j => .int (o.2.2.1 j)))) : jg_at G J o a H := by
  unfold jg_at; rw [if_pos ht]; exact h
theorem jg_at.mkL {G : jm_G} {J : jm_J} {o : jm_O} {a : Nat} {H : Heap} (ht : o.1 = 101) (h : H[a]? = some (arrV G.2.2.2.2.2.1 o.2.1 (fun j => .long (o.2.2.2.2 j)))) : jg_at G J o a H := by
  unfold jg_at; rw [if_neg (by omega), if_pos ht]; exact h
theorem jg_at.mkO {G : jm_G} {J : jm_J} {o : jm_O} {a : Nat} {H : Heap} (ht : o.1 < 60) (h : ∃ q, J.1[o.1]? = some q ∧ t_OB a (G.2.2.2.1.1 o.1) q.2.2 (G.2.2.2.1.2 o.1) H (jg_fv G (J.2.1 o.1) o)) : jg_at G J o a H := by
  unfold jg_at; rw [if_neg (by omega), if_neg (by omega), if_pos ht]; exact h
theorem jg_at.mkR {G : jm_G} {J : jm_J} {o : jm_O} {a : Nat} {H : Heap} (h1 : 60 ≤ o.1) (h2 : o.1 < 99) (h : H[a]? = some (arrV (G.2.2.2.2.2.2.1 o.1) o.2.1 (fun j => jg_mv G (.inr (.inl (o.2.2.2.1 j)))))) : jg_at G J o a H := by
  unfold jg_at; rw [if_neg (by omega), if_neg (by omega), if_neg (by omega), if_pos h2]; exact h
theorem jg_at.mk0 {G : jm_G} {J : jm_J} {o : jm_O} {a : Nat} {H : Heap} (h1 : 200 ≤ o.1) (h2 : o.1 % 2 = 0) (h : (∃ nm, J.2.2.2 o.1 = some nm) ∧ H[a]? = some { cls := (G.2.2.2.2.2.2.2.1 o.1).1, slots := (G.2.2.2.2.2.2.2.1 o.1).2.map defaultValue, vm := .none }) : jg_at G J o a H := by
  unfold jg_at; rw [if_neg (by omega), if_neg (by omega), if_neg (by omega), if_neg (by omega), if_neg (by omega), if_pos h2]; exact h
theorem jg_at.mk1 {G : jm_G} {J : jm_J} {o : jm_O} {a : Nat} {H : Heap} (h1 : 200 ≤ o.1) (h2 : ¬ o.1 % 2 = 0) (h : (∃ nm, J.2.2.2 (o.1 - 1) = some nm) ∧ ∃ cell, H[a]? = some cell ∧ cell.cls = (G.2.2.2.2.2.2.2.1 (o.1 - 1)).1 ∧ cell.vm = .none) : jg_at G J o a H := by
  unfold jg_at; rw [if_neg (by omega), if_neg (by omega), if_neg (by omega), if_neg (by omega), if_neg (by omega), if_neg h2]; exact h
/-- the heaps agree -/
def jg_R (G : jm_G) (J : jm_J) (h : jm_H) (H : Heap) : Prop :=
  (2 ≤ h.1 ∧ H.size = G.2.1 + (h.1 - 2) ∧ G.1 < G.2.1 ∧ ∀ q, q < G.2.1 → H[q]? = G.2.2.2.2.2.2.2.2.heap[q]?) ∧ (∀ r, r = 0 ∨ h.1 ≤ r → jm_T h r = 0) ∧ (∀ r, 2 ≤ r → r < h.1 → jg_at G J (h.2.2 r) (G.2.1 + (r - 2)) H) ∧
  (jm_T h 1 = 99 ∧ H[G.1]? = some G.2.2.1 ∧ G.2.2.1.vm ≠ .unknown ∧ G.2.2.1.slots.size = jm_N h 1 ∧ ∀ j, j < jm_N h 1 → G.2.2.1.slots[j]? = some (.int (jm_I h 1 j)))
theorem jg_R.pos {G : jm_G} {J : jm_J} {h : jm_H} {H : Heap} (hR : jg_R G J h H) {a t : Nat} (ht : jm_T h a = t) (h0 : t ≠ 0) (h9 : t ≠ 99) : 2 ≤ a ∧ a < h.1 := by
  obtain ⟨-, hz, -, hs⟩ := hR
  have e0 : ¬ (a = 0 ∨ h.1 ≤ a) := fun q => h0 (by rw [← ht]; exact hz a q)
  have e1 : a ≠ 1 := fun q => h9 (by rw [← ht, q]; exact hs.1)
  omega
theorem jg_R.at {G : jm_G} {J : jm_J} {h : jm_H} {H : Heap} (hR : jg_R G J h H) {a t : Nat} (ht : jm_T h a = t) (h0 : t ≠ 0) (h9 : t ≠ 99) : jg_at G J (h.2.2 a) (G.2.1 + (a - 2)) H :=
  hR.2.2.1 a (hR.pos ht h0 h9).1 (hR.pos ht h0 h9).2
theorem jg_R.upd {G : jm_G} {J : jm_J} {h h' : jm_H} {H H' : Heap} (hR : jg_R G J h H) {r : Nat} (h2 : 2 ≤ r) (hr : r < h.1) (e1 : h'.1 = h.1) (e3 : ∀ x, x ≠ r → h'.2.2 x = h.2.2 x)
    (hs : H'.size = H.size) (hq : ∀ q, q ≠ G.2.1 + (r - 2) → H'[q]? = H[q]?) (ha : jg_at G J (h'.2.2 r) (G.2.1 + (r - 2)) H') : jg_R G J h' H' := by
  obtain ⟨⟨p1, p2, p3, p4⟩, hz, hA, s1, s2, s3, s4, s5⟩ := hR
  have ex : h'.2.2 1 = h.2.2 1 := e3 1 (by omega)
  refine ⟨⟨by omega, by rw [hs, e1]; exact p2, p3, fun q hq' => (hq q (by omega)).trans (p4 q hq')⟩, fun x hx => ?_, fun x h1 h3 => ?_, ?_, ?_, s3, ?_, ?_⟩
  · have hne : x ≠ r := by rw [e1] at hx; omega
    show (h'.2.2 x).1 = 0
    rw [e3 x hne]
    exact hz x (by rw [e1] at hx; exact hx)
  · by_cases hx : x = r
    · subst hx; exact ha
    · rw [e3 x hx]
      exact (hA x h1 (by omega)).kept (hq _ (by omega))
  · show (h'.2.2 1).1 = 99
    rw [ex]; exact s1
  · rw [hq _ (by omega)]; exact s2
  · show _ = (h'.2.2 1).2.1
    rw [ex]; exact s4
  · show ∀ j, j < (h'.2.2 1).2.1 → G.2.2.1.slots[j]? = some (Value.int ((h'.2.2 1).2.2.1 j))
    rw [ex]; exact s5
theorem jg_R.push {G : jm_G} {J : jm_J} {h : jm_H} {H H' : Heap} (hR : jg_R G J h H) {t n z : Nat} (hs : H'.size = H.size + 1) (hq : ∀ q, q < H.size → H'[q]? = H[q]?)
    (ha : jg_at G J (t, n, fun _ => 0, fun _ => 0, fun _ => 0) H.size H') : jg_R G J (jm_new h t n z) H' := by
  obtain ⟨⟨p1, p2, p3, p4⟩, hz, hA, s1, s2, s3, s4, s5⟩ := hR
  have ex : (jm_new h t n z).2.2 1 = h.2.2 1 := jm_up_ne _ _ (by omega)
  refine ⟨⟨by show 2 ≤ h.1 + 1; omega, by show H'.size = _ + (h.1 + 1 - 2); omega, p3, fun q hq' => (hq q (by omega)).trans (p4 q hq')⟩, fun x hx => ?_, fun x h1 h3 => ?_, ?_, ?_, s3, ?_, ?_⟩
  · have hx' : x = 0 ∨ h.1 + 1 ≤ x := hx
    show (jm_up h.2.2 h.1 _ x).1 = 0
    rw [jm_up_ne _ _ (by omega)]
    exact hz x (by omega)
  · have h3' : x < h.1 + 1 := h3
    show jg_at G J (jm_up h.2.2 h.1 _ x) _ H'
    by_cases hx : x = h.1
    · subst hx
      rw [jm_up_self, show G.2.1 + (h.1 - 2) = H.size by omega]
      exact ha
    · rw [jm_up_ne _ _ hx]
      exact (hA x h1 (by omega)).kept (hq _ (by omega))
  · show ((jm_new h t n z).2.2 1).1 = 99
    rw [ex]; exact s1
  · rw [hq _ (by omega)]; exact s2
  · show _ = ((jm_new h t n z).2.2 1).2.1
    rw [ex]; exact s4
  · show ∀ j, j < ((jm_new h t n z).2.2 1).2.1 → G.2.2.1.slots[j]? = some (Value.int (((jm_new h t n z).2.2 1).2.2.1 j))
    rw [ex]; exact s5
theorem jg_R.plain {G : jm_G} {J : jm_J} {h : jm_H} {H : Heap} (hR : jg_R G J h H) {q : Nat} {cell : Cell} (hq : G.2.1 ≤ q) (hc : H[q]? = some cell) : cell.vm = .none := by
  obtain ⟨⟨p1, p2, p3, p4⟩, hz, hA, -⟩ := hR
  have hlt : q < H.size := (Array.getElem?_eq_some_iff.mp hc).1
  have hat := hA (q - G.2.1 + 2) (by omega) (by omega)
  rw [show G.2.1 + (q - G.2.1 + 2 - 2) = q by omega] at hat
  exact hat.plain hc
/-- the locals agree -/
def jg_Ls (G : jm_G) (arr : Array Slot) (n : Nat) (ls : jm_Ls) : Prop :=
  arr.size = n ∧ lv_wf arr ∧ ls.length = n ∧ ∀ (i : Nat) (v : jm_V), ls[i]? = some (some v) → arr[i]? = some (Slot.val (jg_mv G v)) ∧ ∀ z, v ≠ .inr (.inr z)
theorem jg_Ls.store {G : jm_G} {arr : Array Slot} {n : Nat} {ls : jm_Ls} (h : jg_Ls G arr n ls) {i : Nat} (hi : i < n) (v : jm_V) (hv : ∀ z, v ≠ .inr (.inr z)) :
    ∃ arr', storeLocals arr i (jg_mv G v) = some arr' ∧ jg_Ls G arr' n (ls.set i (some v)) := by
  obtain ⟨h1, h2, h3, h4⟩ := h
  have hh : lv_has arr n ((List.range n).filterMap (fun j => match ls[j]? with | some (some w) => some (j, jg_mv G w) | _ => none)) := by
    refine ⟨h1, h2, fun q hq => ?_⟩
    obtain ⟨j, -, hj⟩ := List.mem_filterMap.mp hq
    split at hj
    · rename_i w hw
      cases hj
      exact (h4 j w hw).1
    · cases hj
  obtain ⟨arr', e1, e2, e3, e4⟩ := lv_store1 (v := jg_mv G v) hh hi (jg_mv_c1 G hv)
  refine ⟨arr', e1, e2, e3, by rw [List.length_set]; exact h3, fun j w hw => ?_⟩
  by_cases hj : j = i
  · subst hj
    rw [List.getElem?_set_self (by omega)] at hw
    cases hw
    exact ⟨e4 (j, jg_mv G v) List.mem_cons_self, hv⟩
  · rw [List.getElem?_set_ne (Ne.symm hj)] at hw
    obtain ⟨g1, g2⟩ := h4 j w hw
    refine ⟨e4 (j, jg_mv G w) (List.mem_cons_of_mem _ (List.mem_filter.mpr ⟨List.mem_filterMap.mpr ⟨j, List.mem_range.mpr ?_, by rw [hw]⟩, ?_⟩)), g2⟩
    · have := (List.getElem?_eq_some_iff.mp hw).1
      omega
    · have := jg_mv_c1 G g2
      simp [this, hj]
theorem jg_Ls.entry {G : jm_G} {as : List jm_V} {n : Nat} (hl : as.length ≤ n) (hc : ∀ v ∈ as, ∀ z, v ≠ .inr (.inr z)) (m : MethodId) :
    ∃ arr, entryFrame m (as.map (jg_mv G)).toArray n = F0 m 0 arr [] ∧ jg_Ls G arr n (as.map some ++ List.replicate (n - as.length) none) := by
  have hc' : ∀ v ∈ as.map (jg_mv G), v.category = 1 := fun v hv => by
    obtain ⟨w, hw, rfl⟩ := List.mem_map.mp hv
    exact jg_mv_c1 G (hc w hw)
  refine ⟨_, entry_eq m _ hc' n, ?_, ?_, ?_, ?_⟩
  · simp; omega
  · have key : ∀ (i : Nat) (x : Slot), ((as.map (jg_mv G)).map Slot.val ++ List.replicate (n - (as.map (jg_mv G)).length) Slot.unset).toArray[i]? = some x → x = .unset ∨ ∃ v, x = .val v ∧ v.category = 1 := by
      intro i x hx
      have hm : x ∈ (as.map (jg_mv G)).map Slot.val ++ List.replicate (n - (as.map (jg_mv G)).length) Slot.unset := List.mem_of_getElem? (by rw [← List.getElem?_toArray]; exact hx)
      rcases List.mem_append.mp hm with h | h
      · obtain ⟨v, hv, rfl⟩ := List.mem_map.mp h
        exact Or.inr ⟨v, rfl, hc' v hv⟩
      · exact Or.inl (List.eq_of_mem_replicate h)
    refine ⟨fun i v h1 h2 => ?_, fun i h1 => ?_⟩
    · rcases key i _ h1 with h | ⟨w, h, hw⟩
      · cases h
      · cases h
        rw [hw] at h2
        cases h2
    · rcases key i _ h1 with h | ⟨w, h, -⟩ <;> cases h
  · simp; omega
  · intro i v hv
    by_cases hi : i < as.length
    · rw [List.getElem?_append_left (by simpa using hi), List.getElem?_map] at hv
      cases ha : as[i]? with
      | none => rw [ha] at hv; cases hv
      | some w =>
        rw [ha] at hv
        cases hv
        refine ⟨?_, hc _ (List.mem_of_getElem? ha)⟩
        rw [List.getElem?_toArray, List.getElem?_append_left (by simpa using hi)]
        simp [ha]
    · rw [List.getElem?_append_right (by simpa using hi)] at hv
      exact absurd (List.eq_of_mem_replicate (List.mem_of_getElem? hv)) (by simp)
theorem jm_ix_eq (j : Int32) : jm_ix j = j.toNatClampNeg := rfl
theorem jm_in_spec {j : Int32} {n : Nat} (h : jm_in j n) : ¬ (j < 0 ∨ n ≤ j.toNatClampNeg) ∧ j.toNatClampNeg < n := by
  obtain ⟨h1, h2⟩ := h
  have e : (j.toNatClampNeg : Int) = j.toInt := Int.toNat_of_nonneg h1
  have hlt : j.toNatClampNeg < n := by omega
  refine ⟨?_, hlt⟩
  rintro (h | h)
  · have := Int32.lt_iff_toInt_lt.mp h
    rw [Int32.toInt_zero] at this
    omega
  · omega
theorem jm_nn {k : Int32} (h : 0 ≤ k.toInt) : ¬ k < 0 := fun q => by
  have := Int32.lt_iff_toInt_lt.mp q
  rw [Int32.toInt_zero] at this
  omega
/-- what holds of the tables at a frame's start: the words; classes; arrays; the script; exceptions -/
def jg_K (G : jm_G) (J : jm_J) (Wg : List Cond) (s : State) : Prop :=
  (∀ w ∈ Wg, ∀ a, w.before a s = true) ∧ (∀ t q, 0 < t → J.1[t]? = some q → u_Kn s q.1 q.2.1 q.2.2 (G.2.2.2.1.1 t) (G.2.2.2.1.2 t)) ∧
  (ArrOfT s G.2.2.2.2.1 .int ∧ s.vm.findClass "[I" = some G.2.2.2.2.1) ∧ (ArrOfT s G.2.2.2.2.2.1 .long ∧ s.vm.findClass "[J" = some G.2.2.2.2.2.1) ∧ s.isArrayOf G.2.2.1 .int ∧
  (∀ t ty, J.2.2.1 t = some ty → ArrOfT s (G.2.2.2.2.2.2.1 t) ty ∧ va_RA s (G.2.2.2.2.2.2.1 t) ty ∧ (∀ C, ty = .object C → va_AO C s) ∧ ∀ C, ty = .array C → (Cond.arrayOver (.array C)).before #[] s = true) ∧
  (∀ t x, J.2.2.2 t = some x → ∃ k, s.vm.findClass x = some (G.2.2.2.2.2.2.2.1 t).1 ∧ s.vm.classes[(G.2.2.2.2.2.2.2.1 t).1]? = some k ∧ k.instanceTypes = (G.2.2.2.2.2.2.2.1 t).2) ∧
  G.2.2.2.2.2.2.2.2.WarmedH s.vm ∧ (∀ q, q < G.2.1 → s.heap[q]? = G.2.2.2.2.2.2.2.2.heap[q]?) ∧ ∀ (q : Nat) (cell : Cell), G.2.1 ≤ q → s.heap[q]? = some cell → cell.vm = .none
def jm_goodW (w : Cond) : Bool := (w.onTables && w.keeps) || (match w with | .arrayClass _ => true | .declares _ => true | .castable _ _ => true | _ => false)
theorem jm_goodW_moved {w : Cond} (h : jm_goodW w = true) {s U : State} {a a' : Array Value} (hW : s.WarmedH U.vm) (hb : w.before a s = true) : w.before a' U = true := by
  unfold jm_goodW at h
  rcases Bool.or_eq_true_iff.mp h with h | h
  · exact word_at hW (Or.inl h) hb
  · split at h
    · exact word_at hW (Or.inr ⟨_, rfl⟩) hb
    · exact va_tabs (u := s.setVm U.vm) rfl rfl (by rw [Cond.declares_setVm hW.alike]; exact hb)
    · exact va_tabs (u := s.setVm U.vm) rfl rfl (by rw [Cond.castable_setVm hW.alike]; exact hb)
    · cases h
theorem jg_K.moved {G : jm_G} {J : jm_J} {Wg : List Cond} {s U : State} (hg : ∀ w ∈ Wg, jm_goodW w = true) (hW : s.WarmedH U.vm) (hU : (∀ q, q < G.2.1 → U.heap[q]? = G.2.2.2.2.2.2.2.2.heap[q]?) ∧ ∀ (q : Nat) (cell : Cell), G.2.1 ≤ q → U.heap[q]? = some cell → cell.vm = .none) (h : jg_K G J Wg s) : jg_K G J Wg U := by
  obtain ⟨h1, h2, h3, h4, h5, h6, h7, h8, h9⟩ := h
  have hal := hW.alike
  refine ⟨fun w hw a => jm_goodW_moved (hg w hw) hW (h1 w hw #[]), fun t q h0 hq => u_Kn_moved hal (h2 t q h0 hq), ⟨arrOfT_moved hal h3.1, by rw [hal.findClass]; exact h3.2⟩, ⟨arrOfT_moved hal h4.1, by rw [hal.findClass]; exact h4.2⟩, State.isArrayOf_alike hal h5, fun t ty ht => ⟨arrOfT_moved hal (h6 t ty ht).1, (h6 t ty ht).2.1.moved hal, fun C hC => ((h6 t ty ht).2.2.1 C hC).moved hal, fun C hC => over_moved hal ((h6 t ty ht).2.2.2 C hC)⟩, fun t x hx => ?_, State.WarmedH.trans h8 hW, hU⟩
  obtain ⟨k, g1, g2, g3⟩ := h7 t x hx
  obtain ⟨k', hk', he⟩ := hal.2.2 _ _ g2
  exact ⟨k', by rw [hal.findClass]; exact g1, hk', by rw [he]; exact g3⟩
