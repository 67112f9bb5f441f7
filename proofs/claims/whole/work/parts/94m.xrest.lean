/-! The class: the other calls, on the state. -/
theorem RX_dk {h h' : jm_H} {X c p : Nat} {s : St} {xs : List Int} (r : RX h X c p s) (q : jf [X + 1, X + 2, X + 3, X + 4] h h') (hx : cx h' (X + 1) xs) : RX h' X c p (xs, s.2) := by
  obtain ⟨r1, r2, r3, ⟨op, r4⟩, r5, r6, r7, r8⟩ := r
  have e := r1.2.2.2.2.2.2.2.2
  exact ⟨r1.js q.1, hx, r3.jf q (by simp <;> omega) (by simp <;> omega), ⟨op, r4.jf q (fun i hi => by simp; omega)⟩, r5.jf q (by simp <;> omega) (by simp <;> omega), r6.jf q (by simp <;> omega) (by simp <;> omega), (q.2 X (by simp <;> omega) 11).trans r7, r8.jf q (fun i hi => by simp; omega)⟩
theorem ux_dk {h h' : jm_H} {X : Nat} (q : jf [X + 1, X + 2, X + 3, X + 4] h h') : ux X 180 h h' := ux_jf q (fun b hb => by simp at hb; omega)
noncomputable def dsF (s : St) (a b c : Int) : Int × St := @ite (Int × St) (okB (jb12 a b c)) (Classical.propDecidable _) (1, (nzs (jb12 a b c), s.2)) (0, s)
def inF (s : St) (k v : Int) : Int × St := if (1 ≤ v ∧ v ≤ 99 ∧ s.1.length < 12) ∧ 0 ≤ k ∧ k ≤ s.1.length then (1, (s.1.take k.toNat ++ v :: s.1.drop k.toNat, s.2)) else (0, s)
def rmF (s : St) (k : Int) : Int × St := if 0 ≤ k ∧ k < s.1.length then (s.1.getD k.toNat 0, (s.1.take k.toNat ++ s.1.drop (k.toNat + 1), s.2)) else (-1, s)
def caF (s : St) (n : Int) : Int × St := if -1 ≤ n then (1, (s.1, s.2.1, s.2.2.1, s.2.2.2.1, n, s.2.2.2.2.2)) else (0, s)
theorem x1 {d X c p : Nat} {h : jm_H} {s : St} {a b e : Int} (R : RX h X c p s) : jm_E dh_pr (d + 3) 1 [.inr (.inl X), .inl (jz a), .inl (jz b), .inl (jz e)] h (fun o h' => o = .inl (some (.inl (jz (dsF s a b e).1))) ∧ ux X 180 h h' ∧ ∃ c p, RX h' X c p (dsF s a b e).2) := by
  refine jm_E_mono _ _ _ _ _ _ ?_ (s1 R.1 R.2.1)
  rintro o h' ⟨z, rfl, hf, ⟨rfl, q, hx⟩ | ⟨rfl, q, hx⟩⟩
  · have ec : dsF s a b e = (1, (nzs (jb12 a b e), s.2)) := by unfold dsF; rw [if_pos q]
    rw [ec]
    exact ⟨rfl, ux_dk hf, c, p, RX_dk R hf hx⟩
  · have ec : dsF s a b e = (0, s) := by unfold dsF; rw [if_neg q]
    rw [ec]
    exact ⟨rfl, ux_dk hf, c, p, RX_dk R hf hx⟩
theorem x2 {d X c p : Nat} {h : jm_H} {s : St} {k v : Int} (R : RX h X c p s) (hk : jR k) (hv : jR v) : jm_E dh_pr (d + 3) 2 [.inr (.inl X), .inl (jz k), .inl (jz v)] h (fun o h' => o = .inl (some (.inl (jz (inF s k v).1))) ∧ ux X 180 h h' ∧ ∃ c p, RX h' X c p (inF s k v).2) := by
  refine jm_E_mono _ _ _ _ _ _ ?_ (s2 R.1 R.2.1 hk hv)
  rintro o h' ⟨z, rfl, hf, ⟨rfl, q, hx⟩ | ⟨rfl, q, hx⟩⟩
  · have ec : inF s k v = (1, (s.1.take k.toNat ++ v :: s.1.drop k.toNat, s.2)) := by unfold inF; exact if_pos q
    rw [ec]
    exact ⟨rfl, ux_dk (hf.mono (by simp <;> omega)), c, p, RX_dk R (hf.mono (by simp <;> omega)) hx⟩
  · have ec : inF s k v = (0, s) := by unfold inF; exact if_neg q
    rw [ec]
    exact ⟨rfl, ux_dk (hf.mono (by simp <;> omega)), c, p, RX_dk R (hf.mono (by simp <;> omega)) hx⟩
theorem x3 {d X c p : Nat} {h : jm_H} {s : St} {k : Int} (R : RX h X c p s) (hk : jR k) : jm_E dh_pr (d + 2) 3 [.inr (.inl X), .inl (jz k)] h (fun o h' => o = .inl (some (.inl (jz (rmF s k).1))) ∧ ux X 180 h h' ∧ ∃ c p, RX h' X c p (rmF s k).2) := by
  refine jm_E_mono _ _ _ _ _ _ ?_ (s3 R.1 R.2.1 hk)
  rintro o h' ⟨hf, ⟨q, rfl, hx⟩ | ⟨q, rfl, hx⟩⟩
  · have ec : rmF s k = (s.1.getD k.toNat 0, (s.1.take k.toNat ++ s.1.drop (k.toNat + 1), s.2)) := by unfold rmF; rw [if_pos q]
    rw [ec]
    exact ⟨rfl, ux_dk (hf.mono (by simp <;> omega)), c, p, RX_dk R (hf.mono (by simp <;> omega)) hx⟩
  · have ec : rmF s k = (-1, s) := by unfold rmF; rw [if_neg q]
    rw [ec]
    exact ⟨rfl, ux_dk (hf.mono (by simp <;> omega)), c, p, RX_dk R (hf.mono (by simp <;> omega)) hx⟩
theorem x10 {d X c p : Nat} {h : jm_H} {s : St} {n : Int} (R : RX h X c p s) (hn : jR n) : jm_E dh_pr (d + 1) 10 [.inr (.inl X), .inl (jz n)] h (fun o h' => o = .inl (some (.inl (jz (caF s n).1))) ∧ ux X 180 h h' ∧ ∃ c p, RX h' X c p (caF s n).2) := by
  refine jm_E_mono _ _ _ _ _ _ ?_ (s10 R.1 hn)
  rintro o h' ⟨z, rfl, ⟨rfl, q, rfl⟩ | ⟨rfl, q, rfl⟩⟩
  · have ec : caF s n = (1, (s.1, s.2.1, s.2.2.1, s.2.2.2.1, n, s.2.2.2.2.2)) := by unfold caF; rw [if_pos q]
    rw [ec]
    obtain ⟨r1, r2, r3, ⟨op, r4⟩, r5, r6, r7, r8⟩ := R
    have e := r1.2.2.2.2.2.2.2.2
    have J : jf [X] h (jm_sI h X 11 (jz n)) := (jf.refl _ h).sI (by simp <;> omega)
    exact ⟨rfl, ux_sI (by omega), c, p, r1.js J.1, r2.jf J (by simp <;> omega) (by simp <;> omega), r3.jf J (by simp <;> omega) (by simp <;> omega), ⟨op, r4.jf J (fun i hi => by simp; omega)⟩, r5.jf J (by simp <;> omega) (by simp <;> omega), r6.jf J (by simp <;> omega) (by simp <;> omega), jr_I_self, r8.jf J (fun i hi => by simp; omega)⟩
  · have ec : caF s n = (0, s) := by unfold caF; rw [if_neg (by omega)]
    rw [ec]
    exact ⟨rfl, ux_refl _ _ _, c, p, R⟩
theorem x9 {d X c p : Nat} {h : jm_H} {s : St} {r : Int} (R : RX h X c p s) (hb : X + 180 ≤ h.1) (hr : xr h) (hk : jR r) : jm_E dh_pr (d + 3) 9 [.inr (.inl X), .inl (jz r)] h (fun o h' => ux X 180 h h' ∧ (∃ c p, RX h' X c p (otF s r).2.2) ∧ xo 203 (otF s r).1 (otF s r).2.1 o h h') := by
  have hs := R.1
  have hc := R.2.2.2.2.2.2.2
  have l20 := hc.2.1
  have t1 : jm_T (xh h 200) h.1 = 201 := xh_T h 200
  refine e9 (r9_0 ⟨hs.1, jm_E_mono _ _ _ _ _ _ ?_ (s22 hs hc.1 l20 hk hr)⟩)
  rintro o h' (⟨q2, rfl, rfl⟩ | ⟨q2, rfl, rfl⟩)
  · have kk : r.toNat < s.2.1.length := by omega
    have sk := hs.his.1.2.2.2 r.toNat (by omega)
    have ck := hc.2.2.2 r.toNat kk
    have ec : otF s r = (0, ((s.2.1.getD r.toNat rv0).2.2.2.length : Int), ((s.2.1.getD r.toNat rv0).2.2.2, s.2)) := by unfold otF; rw [if_pos q2]
    rw [ec]
    refine r9_5 ⟨hs.1, _, hs.2.1.1, _, hs.cur.1, hs.his.1.1, _, hs.his.1.2.1, hs.his.1.2.2.1.1, _, hs.his.1.2.2.1.2, ⟨by omega, by omega, by omega⟩, c + 2 + 3 * r.toNat, sk.1, sk.2.1, _, sk.2.2.1, hs.2.2.1.1.1, jm_callV (s120 hs.2.2.1.1 sk.2.2.2 ck.2) ?_⟩
    rintro h1 ⟨hf, hx⟩
    have hs1 := hs.js hf.1
    exact r9_24 ⟨hs1.1, _, hs1.2.1.1, hs1.2.2.1.1.1, _, hx.1, ux_dk (hf.mono (by simp <;> omega)), ⟨c, p, RX_dk R (hf.mono (by simp <;> omega)) hx⟩, Or.inl ⟨rfl, rfl⟩⟩
  · refine jm_kT (fun _ _ => rfl) ?_
    have ec : otF s r = (1, 0, s) := by unfold otF; rw [if_neg q2]
    rw [ec]
    exact ⟨ux_xh _ _ _ _, ⟨c, p, RX_xh R hb 200⟩, Or.inr (Or.inl ⟨rfl, rfl, t1⟩)⟩
theorem cb_set {h : jm_H} {a k : Nat} {bs : List Int} {v : Int} (c : cb h a bs) (l4 : bs.length ≤ 400) (hk : k < bs.length) : cb (jm_sI h (a + 1) k (jz v)) a (bs.set k v) := by
  refine ⟨by rw [off1 (by omega), List.length_set]; exact c.1, by rw [List.length_set]; exact c.2.1, ?_⟩
  have r := c.2.2
  rw [List.take_of_length_le (by omega)] at r
  rw [List.take_of_length_le (by rw [List.length_set]; omega)]
  exact r.set hk
theorem x11 {d X c p : Nat} {h : jm_H} {s : St} {k b : Int} (R : RX h X c p s) (ok : oks s) (hb : X + 180 ≤ h.1) (hr : xr h) (hk : jR k) (hb' : jR b) : jm_E dh_pr (d + 2) 11 [.inr (.inl X), .inl (jz k), .inl (jz b)] h (fun o h' => ux X 180 h h' ∧ (∃ c p, RX h' X c p (crF s k b).2.2) ∧ (((crF s k b).1 = 0 ∧ o = .inl none) ∨ ((crF s k b).1 = 1 ∧ o = .inr h.1 ∧ jm_T h' h.1 = 201) ∨ ((crF s k b).1 = 2 ∧ o = .inr h.1 ∧ jm_T h' h.1 = 207))) := by
  have hs := R.1
  have l4 := ok.2.2.2.1.1
  have b1 := hs.2.2.2.2.1.1
  have f4 : jm_F h X 4 = X + 27 := hs.2.1.2.2.2.2.1
  have t1 : jm_T (xh h 200) h.1 = 201 := xh_T h 200
  have t2 : jm_T (xh h 206) h.1 = 207 := xh_T h 206
  refine e11 (r11_0 ⟨hs.1, _, f4, b1.1, jm_callI (s83 b1 R.2.2.2.2.1 hk) ?_⟩)
  rintro z h' ⟨rfl, ⟨rfl, q⟩ | ⟨rfl, q⟩⟩
  · obtain ⟨q1, q2, q3⟩ := q
    have C2 : ¬ (0 ≤ b ∧ b ≤ 255) → crF s k b = (2, 0, s) := fun w => by unfold crF; rw [if_pos ⟨q1, q2⟩, if_neg w]
    refine r11_8 ⟨⟨by omega, by omega⟩, fun _ => ⟨hb', fun q4 => ?_, fun q4 => ⟨fun q5 => ?_, fun q5 => ?_⟩⟩, fun w => absurd w (by omega)⟩
    · rw [C2 (by omega)]
      exact ⟨hr.1, hr.2, xh_n h' 206, by show 200 ≤ jm_T (xh h' 206) h'.1; rw [t2]; omega, by show jm_T (xh h' 206) h'.1 % 2 = 1; rw [t2], ux_xh _ _ 206 _, ⟨c, p, RX_xh R hb 206⟩, Or.inr (Or.inr ⟨rfl, rfl, t2⟩)⟩
    · have ec : crF s k b = (0, 0, (s.1, s.2.1, s.2.2.1.set k.toNat b, s.2.2.2)) := by unfold crF; rw [if_pos ⟨q1, q2⟩, if_pos ⟨q4, q5⟩]
      rw [ec]
      have J : jf [X + 28] h' (jm_sI h' (X + 28) k.toNat (jz b)) := (jf.refl _ h').sI (by simp <;> omega)
      have cb1 := cb_set (v := b) R.2.2.2.2.1 l4 (k := k.toNat) (by omega)
      obtain ⟨r1, r2, r3, ⟨op, r4⟩, r5, r6, r7, r8⟩ := R
      have e := r1.2.2.2.2.2.2.2.2
      exact ⟨hs.1, _, f4, b1.1, _, b1.2.1, b1.2.2.1, _, b1.2.2.2, ⟨by omega, by omega, by omega⟩, ux_sI (by omega), ⟨c, p, r1.js J.1, r2.jf J (by simp <;> omega) (by simp <;> omega), r3.jf J (by simp <;> omega) (by simp <;> omega), ⟨op, r4.jf J (fun i hi => by simp; omega)⟩, cb1, r6.jf J (by simp <;> omega) (by simp <;> omega), (J.2 X (by simp <;> omega) 11).trans r7, r8.jf J (fun i hi => by simp; omega)⟩, Or.inl ⟨rfl, rfl⟩⟩
    · rw [C2 (by omega)]
      exact ⟨hr.1, hr.2, xh_n h' 206, by show 200 ≤ jm_T (xh h' 206) h'.1; rw [t2]; omega, by show jm_T (xh h' 206) h'.1 % 2 = 1; rw [t2], ux_xh _ _ 206 _, ⟨c, p, RX_xh R hb 206⟩, Or.inr (Or.inr ⟨rfl, rfl, t2⟩)⟩
  · have ec : crF s k b = (1, 0, s) := by unfold crF; rw [if_neg (fun w => q ⟨w.1, w.2, by omega⟩)]
    rw [ec]
    exact r11_8 ⟨⟨by omega, by omega⟩, fun w => absurd rfl w, fun _ => ⟨hr.1, hr.2, xh_n h' 200, by show 200 ≤ jm_T (xh h' 200) h'.1; rw [t1]; omega, by show jm_T (xh h' 200) h'.1 % 2 = 1; rw [t1], ux_xh _ _ 200 _, ⟨c, p, RX_xh R hb 200⟩, Or.inr (Or.inl ⟨rfl, rfl, t1⟩)⟩⟩
theorem x14 {d X c p : Nat} {h : jm_H} {s : St} {r w : Int} (R : RX h X c p s) (hb : X + 180 ≤ h.1) (hr : xr h) (hk : jR r) (hw : jR w) : jm_E dh_pr (d + 3) 14 [.inr (.inl X), .inl (jz r), .inl (jz w)] h (fun o h' => ux X 180 h h' ∧ (∃ c p, RX h' X c p (abF s r w).2.2) ∧ xo 203 (abF s r w).1 (abF s r w).2.1 o h h') := by
  have hs := R.1
  have hc := R.2.2.2.2.2.2.2
  have l20 := hc.2.1
  have t1 : jm_T (xh h 200) h.1 = 201 := xh_T h 200
  refine e14 (r14_0 ⟨hs.1, jm_E_mono _ _ _ _ _ _ ?_ (s22 hs hc.1 l20 hk hr)⟩)
  rintro o h' (⟨q2, rfl, rfl⟩ | ⟨q2, rfl, rfl⟩)
  · have kk : r.toNat < s.2.1.length := by omega
    have sk := hs.his.1.2.2.2 r.toNat (by omega)
    have ck : cR h' (c + 2 + 3 * r.toNat) (s.2.1.getD r.toNat rv0) (fsK (pS s.2.1) r.toNat) := hc.2.2.2 r.toNat kk
    obtain ⟨⟨c1, c2, c3, c4, c5, c6, c7, c8, c9⟩, -⟩ := ck
    have ec : abF s r w = (0, abN s.2.1 r.toNat w, s) := by unfold abF; rw [if_pos q2]
    rw [ec]
    have K : ∀ v, v = abN s.2.1 r.toNat w → ux X 180 h' h' ∧ (∃ c p, RX h' X c p s) ∧ xo 203 0 (abN s.2.1 r.toNat w) (.inl (some (.inl (jz v)))) h' h' := fun v e => ⟨ux_refl _ _ _, ⟨c, p, R⟩, Or.inl ⟨rfl, by rw [e]⟩⟩
    refine r14_5 ⟨hs.1, _, hs.cur.1, hs.his.1.1, _, hs.his.1.2.1, hs.his.1.2.2.1.1, _, hs.his.1.2.2.1.2, ⟨by omega, by omega, by omega⟩, c + 2 + 3 * r.toNat, sk.1, hw, fun q => ⟨sk.2.1, _, c1, K _ ?_⟩, fun q => ⟨sk.2.1, _, c2, K _ ?_⟩, fun q => ⟨sk.2.1, _, c3, K _ ?_⟩, fun q => ⟨sk.2.1, _, c9, K _ ?_⟩, fun q => ⟨sk.2.1, _, c4, K _ ?_⟩, fun q => ⟨sk.2.1, _, c5, K _ ?_⟩, fun n0 n1 n2 n3 n4 n5 => K _ ?_⟩
    · rw [q]; rfl
    · rw [q]; rfl
    · rw [q]; rfl
    · rw [q]; rfl
    · rw [q]; rfl
    · rw [q]; rfl
    · unfold abN; rw [if_neg n0, if_neg n1, if_neg n2, if_neg n3, if_neg n4, if_neg n5]
  · refine jm_kT (fun _ _ => rfl) ?_
    have ec : abF s r w = (1, 0, s) := by unfold abF; rw [if_neg q2]
    rw [ec]
    exact ⟨ux_xh _ _ _ _, ⟨c, p, RX_xh R hb 200⟩, Or.inr (Or.inl ⟨rfl, rfl, t1⟩)⟩
theorem x15 {d X c p : Nat} {h : jm_H} {s : St} {r k : Int} (R : RX h X c p s) (ok : oks s) (hb : X + 180 ≤ h.1) (hr : xr h) (hk : jR r) (hw : jR k) : jm_E dh_pr (d + 3) 15 [.inr (.inl X), .inl (jz r), .inl (jz k)] h (fun o h' => ux X 180 h h' ∧ (∃ c p, RX h' X c p (naF s r k).2.2) ∧ xo 203 (naF s r k).1 (naF s r k).2.1 o h h') := by
  have hs := R.1
  have hc := R.2.2.2.2.2.2.2
  have l20 := hc.2.1
  have t1 : jm_T (xh h 200) h.1 = 201 := xh_T h 200
  refine e15 (r15_0 ⟨hs.1, jm_E_mono _ _ _ _ _ _ ?_ (s22 hs hc.1 l20 hk hr)⟩)
  rintro o h' (⟨q2, rfl, rfl⟩ | ⟨q2, rfl, rfl⟩)
  · have kk : r.toNat < s.2.1.length := by omega
    have ec : naF s r k = (0, nmN (pS s.2.1) r.toNat k, s) := by unfold naF; rw [if_pos q2]
    rw [ec]
    have W := s99 (d := d) hs.his.1 hc ok.2.1.2.1 kk hw
    rw [show ((r.toNat : Nat) : Int) = r by omega] at W
    refine r15_5 ⟨hs.1, _, hs.cur.1, hs.his.1.1, jm_E_mono _ _ _ _ _ _ ?_ W⟩
    rintro o h1 ⟨rfl, rfl⟩
    exact r15_14 ⟨ux_refl _ _ _, ⟨c, p, R⟩, Or.inl ⟨rfl, rfl⟩⟩
  · refine jm_kT (fun _ _ => rfl) ?_
    have ec : naF s r k = (1, 0, s) := by unfold naF; rw [if_neg q2]
    rw [ec]
    exact ⟨ux_xh _ _ _ _, ⟨c, p, RX_xh R hb 200⟩, Or.inr (Or.inl ⟨rfl, rfl, t1⟩)⟩
theorem x16 {d X c p : Nat} {h : jm_H} {s : St} {a b : Int} (R : RX h X c p s) (ok : oks s) (hb : X + 180 ≤ h.1) (hr : xr h) (ha : jR a) (hb' : jR b) : jm_E dh_pr (d + 3) 16 [.inr (.inl X), .inl (jz a), .inl (jz b)] h (fun o h' => ux X 180 h h' ∧ (∃ c p, RX h' X c p (roF s a b).2.2) ∧ xo 203 (roF s a b).1 (roF s a b).2.1 o h h') := by
  have hs := R.1
  have hc := R.2.2.2.2.2.2.2
  have l20 := hc.2.1
  have t1 : jm_T (xh h 200) h.1 = 201 := xh_T h 200
  refine e16 (r16_0 ⟨hs.1, jm_E_mono _ _ _ _ _ _ ?_ (s22 hs hc.1 l20 ha hr)⟩)
  rintro o h' (⟨q1, rfl, rfl⟩ | ⟨q1, rfl, rfl⟩)
  · refine r16_5 ⟨hs.1, jm_E_mono _ _ _ _ _ _ ?_ (s22 hs hc.1 l20 hb' hr)⟩
    rintro o h' (⟨q2, rfl, rfl⟩ | ⟨q2, rfl, rfl⟩)
    · have ec : roF s a b = (0, (cmn (pS s.2.1) (a.toNat + b.toNat) a.toNat b.toNat : Int), s) := by unfold roF; rw [if_pos ⟨q1, q2⟩]
      rw [ec]
      have W := s100 (d := d + 1) (x := a.toNat) (y := b.toNat) hs.his.1 hc ok.2.1.2.1 (by omega) (by omega)
      rw [show ((a.toNat : Nat) : Int) = a by omega, show ((b.toNat : Nat) : Int) = b by omega] at W
      refine r16_10 ⟨hs.1, _, hs.cur.1, hs.his.1.1, jm_E_mono _ _ _ _ _ _ ?_ W⟩
      rintro o h1 ⟨rfl, rfl⟩
      exact r16_19 ⟨ux_refl _ _ _, ⟨c, p, R⟩, Or.inl ⟨rfl, rfl⟩⟩
    · refine jm_kT (fun _ _ => rfl) ?_
      have ec : roF s a b = (1, 0, s) := by unfold roF; rw [if_neg (fun w => q2 w.2)]
      rw [ec]
      exact ⟨ux_xh _ _ _ _, ⟨c, p, RX_xh R hb 200⟩, Or.inr (Or.inl ⟨rfl, rfl, t1⟩)⟩
  · refine jm_kT (fun _ _ => rfl) ?_
    have ec : roF s a b = (1, 0, s) := by unfold roF; rw [if_neg (fun w => q1 w.1)]
    rw [ec]
    exact ⟨ux_xh _ _ _ _, ⟨c, p, RX_xh R hb 200⟩, Or.inr (Or.inl ⟨rfl, rfl, t1⟩)⟩
theorem RX_cm {h h' : jm_H} {X c p : Nat} {s : St} {A : List Int} (r : RX h X c p s) (q : jf (rg (X + 7) 20) h h') (hd : ∃ op, dD h' (X + 7) (delta A s.1).1 (delta A s.1).2 op) : RX h' X c p (s.1, s.2.1, s.2.2.1, s.2.2.2.1, s.2.2.2.2.1, A, s.1) := by
  obtain ⟨r1, r2, r3, -, r5, r6, r7, r8⟩ := r
  have e := r1.2.2.2.2.2.2.2.2
  have n : ∀ b, ¬ (X + 7 ≤ b ∧ b < X + 7 + 20) → b ∉ rg (X + 7) 20 := fun b hb m => hb (mem_rg.mp m)
  exact ⟨r1.js q.1, r2.jf q (n _ (by omega)) (n _ (by omega)), r3.jf q (n _ (by omega)) (n _ (by omega)), hd, r5.jf q (n _ (by omega)) (n _ (by omega)), r6.jf q (n _ (by omega)) (n _ (by omega)), (q.2 X (n _ (by omega)) 11).trans r7, r8.jf q (fun i hi => n _ (by omega))⟩
theorem x17 {d X c p : Nat} {h : jm_H} {s : St} {r : Int} (R : RX h X c p s) (ok : oks s) (hb : X + 180 ≤ h.1) (hr : xr h) (hk : jR r) : jm_E dh_pr (d + 3) 17 [.inr (.inl X), .inl (jz r)] h (fun o h' => ux X 180 h h' ∧ (∃ c p, RX h' X c p (cmF s r).2.2) ∧ xo 203 (cmF s r).1 (cmF s r).2.1 o h h') := by
  have hs := R.1
  have hc := R.2.2.2.2.2.2.2
  have l20 := hc.2.1
  have e := hs.2.2.2.2.2.2.2.2
  have t1 : jm_T (xh h 200) h.1 = 201 := xh_T h 200
  have f3 : jm_F h X 3 = X + 7 := hs.2.1.2.2.2.1
  have U : ∀ {h' : jm_H}, jf (rg (X + 7) 20) h h' → ux X 180 h h' := fun q => ux_jf q (fun b hb => by rw [mem_rg] at hb; omega)
  have nr : ∀ b, ¬ (X + 7 ≤ b ∧ b < X + 7 + 20) → b ∉ rg (X + 7) 20 := fun b hb m => hb (mem_rg.mp m)
  have EC : ∀ A, (r = -1 ∨ okV s r) → A = cmA s r → cmF s r = (0, ((delta A s.1).1.length : Int), (s.1, s.2.1, s.2.2.1, s.2.2.2.1, s.2.2.2.2.1, A, s.1)) := fun A q eA => by
    unfold cmF; rw [if_pos q, eA]
  refine e17 (r17_0 ⟨hk, fun q => ⟨hs.1, jm_E_mono _ _ _ _ _ _ ?_ (s22 hs hc.1 l20 hk hr)⟩, fun q => ⟨hs.1, _, f3, _, hs.2.1.2.2.1, _, hs.2.1.1, hs.2.2.2.1.1, jm_callV (s89 hs.2.2.2.1 hs.2.2.1.2.2 R.2.2.1 hs.2.2.1.1 R.2.1 (fun v hv => by cases hv) (lnv_rng ok.1.2) (nr _ (by omega)) (nr _ (by omega)) (nr _ (by omega)) (nr _ (by omega))) ?_⟩⟩)
  · rintro o h' (⟨q2, rfl, rfl⟩ | ⟨q2, rfl, rfl⟩)
    · have kk : r.toNat < s.2.1.length := by omega
      have sk := hs.his.1.2.2.2 r.toNat (by omega)
      have ck := hc.2.2.2 r.toNat kk
      rw [EC (s.2.1.getD r.toNat rv0).2.2.2 (Or.inr q2) (by unfold cmA; rw [if_neg q])]
      refine r17_28 ⟨hs.1, _, f3, _, hs.cur.1, hs.his.1.1, _, hs.his.1.2.1, hs.his.1.2.2.1.1, _, hs.his.1.2.2.1.2, ⟨by omega, by omega, by omega⟩, c + 2 + 3 * r.toNat, sk.1, sk.2.1, _, sk.2.2.1, _, hs.2.1.1, hs.2.2.2.1.1, jm_callV (s89 hs.2.2.2.1 sk.2.2.2 ck.2 hs.2.2.1.1 R.2.1 (lnv_rng (ok.2.1.2.2 _ kk).2.2.2) (lnv_rng ok.1.2) (nr _ (by omega)) (nr _ (by omega)) (nr _ (by omega)) (nr _ (by omega))) ?_⟩
      rintro h1 ⟨hf, hd, -⟩
      have hs1 := hs.js hf.1
      obtain ⟨op, hd'⟩ := hd
      exact r17_51 ⟨hs1.1, _, hs1.2.1.2.2.2.1, hs1.2.2.2.1.1, _, hd'.1.1, U hf, ⟨c, p, RX_cm R hf ⟨op, hd'⟩⟩, Or.inl ⟨rfl, rfl⟩⟩
    · refine jm_kT (fun _ _ => rfl) ?_
      have ec : cmF s r = (1, 0, s) := by unfold cmF; rw [if_neg (fun w => w.elim q q2)]
      rw [ec]
      exact ⟨ux_xh _ _ _ _, ⟨c, p, RX_xh R hb 200⟩, Or.inr (Or.inl ⟨rfl, rfl, t1⟩)⟩
  · rintro h1 ⟨hf, hd, -⟩
    rw [EC [] (Or.inl q) (by unfold cmA; rw [if_pos q])]
    have hs1 := hs.js hf.1
    obtain ⟨op, hd'⟩ := hd
    exact r17_20 ⟨hs1.1, _, hs1.2.1.2.2.2.1, hs1.2.2.2.1.1, _, hd'.1.1, U hf, ⟨c, p, RX_cm R hf ⟨op, hd'⟩⟩, Or.inl ⟨rfl, rfl⟩⟩
def stF (s : St) (k w : Int) : Int := stepN (delta s.2.2.2.2.2.1 s.2.2.2.2.2.2).1 (delta s.2.2.2.2.2.1 s.2.2.2.2.2.2).2 k w
theorem x18 {d X c p : Nat} {h : jm_H} {s : St} {k w : Int} (R : RX h X c p s) (ok : oks s) (hk : jR k) (hw : jR w) : jm_E dh_pr (d + 3) 18 [.inr (.inl X), .inl (jz k), .inl (jz w)] h (fun o h' => o = .inl (some (.inl (jz (stF s k w)))) ∧ h' = h) := by
  have hs := R.1
  obtain ⟨op, hd⟩ := R.2.2.2.1
  obtain ⟨d1, d2, d3, d4⟩ := delta_cnt (A := s.2.2.2.2.2.1) (B := s.2.2.2.2.2.2) ok.2.2.2.2.2.2.1.1
  have lA := ok.2.2.2.2.2.2.1.1
  have lB := ok.2.2.2.2.2.2.2.1
  refine e18 (r18_0 ⟨hs.1, _, hs.2.1.2.2.2.1, hs.2.2.2.1.1, jm_E_mono _ _ _ _ _ _ ?_ (s92 hs.2.2.2.1 hd (d4.mono (by omega)) (delta_ok _ _) (by omega) (by omega) hk hw)⟩)
  rintro o h' ⟨rfl, rfl⟩
  exact r18_9 ⟨rfl, rfl⟩
