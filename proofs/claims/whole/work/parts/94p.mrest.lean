/-! The reference: the other calls, on the state. -/
def mp (v : Int) (s : St) (M : Nat) (o : jm_R) (h h' : jm_H) : Prop := o = .inl (some (.inl (jz v))) ∧ RM h' M s ∧ jq M mB (mA M) h h'
theorem RM_dk {h h' : jm_H} {M : Nat} {s : St} {xs : List Int} (r : RM h M s) (p : jq M [0, 10] [M + 8] h h') (c : cD h' M xs) : RM h' M (xs, s.2) := by
  obtain ⟨r1, r2, r3, ⟨ts, r4, r5⟩, r6, r7, r8, r9, r10⟩ := r
  exact ⟨r1.js p.1, c, r3.jq p (by simp <;> omega) (by decide) (by simp <;> omega), ⟨ts, r4.jq p (by simp <;> omega) (by simp <;> omega), r5⟩, r6.jq p (by simp <;> omega) (by decide) (by simp <;> omega), r7.jq p (by simp <;> omega) (by decide) (by simp <;> omega), (p.2 M 15 (by simp <;> omega) (fun q => absurd q.2 (by decide))).trans r8, r9.jq p (by simp <;> omega) (by decide) (fun i h1 h2 => by simp; omega), nmr_jq r10 p (by simp <;> omega) (by simp <;> omega)⟩
theorem up_dk {h h' : jm_H} {M : Nat} (p : jq M [0, 10] [M + 8] h h') : jq M mB (mA M) h h' := mA_up p (by decide) (fun b hb => by simp at hb; omega)
theorem m31 {d M : Nat} {h : jm_H} {s : St} {a b c : Int} (R : RM h M s) : jm_E dh_pr (d + 2) 31 [.inr (.inl M), .inl (jz a), .inl (jz b), .inl (jz c)] h (fun o h' => mp (dsF s a b c).1 (dsF s a b c).2 M o h h') := by
  refine jm_E_mono _ _ _ _ _ _ ?_ (s31 R.1 R.2.1)
  rintro o h' ⟨z, rfl, p, -, ⟨rfl, q, c'⟩ | ⟨rfl, q, c'⟩⟩
  · have ec : dsF s a b c = (1, (nzs (jb12 a b c), s.2)) := by unfold dsF; rw [if_pos q]
    rw [ec]; exact ⟨rfl, RM_dk R p c', up_dk p⟩
  · have ec : dsF s a b c = (0, s) := by unfold dsF; rw [if_neg q]
    rw [ec]; exact ⟨rfl, RM_dk R p c', up_dk p⟩
theorem m32 {d M : Nat} {h : jm_H} {s : St} {k v : Int} (R : RM h M s) (hk : jR k) (hv : jR v) : jm_E dh_pr (d + 2) 32 [.inr (.inl M), .inl (jz k), .inl (jz v)] h (fun o h' => mp (inF s k v).1 (inF s k v).2 M o h h') := by
  refine jm_E_mono _ _ _ _ _ _ ?_ (s32 R.1 R.2.1 hk hv)
  rintro o h' ⟨z, rfl, p, -, ⟨rfl, q, c'⟩ | ⟨rfl, q, c'⟩⟩
  · have ec : inF s k v = (1, (s.1.take k.toNat ++ v :: s.1.drop k.toNat, s.2)) := by unfold inF; exact if_pos q
    rw [ec]; exact ⟨rfl, RM_dk R p c', up_dk p⟩
  · have ec : inF s k v = (0, s) := by unfold inF; exact if_neg q
    rw [ec]; exact ⟨rfl, RM_dk R p c', up_dk p⟩
theorem m33 {d M : Nat} {h : jm_H} {s : St} {k : Int} (R : RM h M s) (hk : jR k) : jm_E dh_pr (d + 1) 33 [.inr (.inl M), .inl (jz k)] h (fun o h' => mp (rmF s k).1 (rmF s k).2 M o h h') := by
  refine jm_E_mono _ _ _ _ _ _ ?_ (s33 R.1 R.2.1 hk)
  rintro o h' ⟨p, -, ⟨q, rfl, c'⟩ | ⟨q, rfl, c'⟩⟩
  · have ec : rmF s k = (s.1.getD k.toNat 0, (s.1.take k.toNat ++ s.1.drop (k.toNat + 1), s.2)) := by unfold rmF; rw [if_pos q]
    rw [ec]; exact ⟨rfl, RM_dk R p c', up_dk p⟩
  · have ec : rmF s k = (-1, s) := by unfold rmF; rw [if_neg q]
    rw [ec]; exact ⟨rfl, RM_dk R p c', up_dk p⟩
theorem m34 {d M : Nat} {h : jm_H} {s : St} (R : RM h M s) : jm_E dh_pr (d + 1) 34 [.inr (.inl M)] h (fun o h' => mp s.1.length s M o h h') := by
  refine jm_E_mono _ _ _ _ _ _ ?_ (s34 R.1 R.2.1)
  rintro o h' ⟨rfl, rfl⟩
  exact ⟨rfl, (RM_code R 0).1, (RM_code R 0).2.1⟩
theorem m35 {d M : Nat} {h : jm_H} {s : St} {k : Int} (R : RM h M s) (hk : jR k) : jm_E dh_pr (d + 1) 35 [.inr (.inl M), .inl (jz k)] h (fun o h' => mp (if 0 ≤ k ∧ k < s.1.length then s.1.getD k.toNat 0 else -1) s M o h h') := by
  refine jm_E_mono _ _ _ _ _ _ ?_ (s35 R.1 R.2.1 hk)
  rintro o h' ⟨rfl, rfl⟩
  exact ⟨rfl, (RM_code R 0).1, (RM_code R 0).2.1⟩
theorem m59 {d M : Nat} {h : jm_H} {s : St} {n : Int} (R : RM h M s) (hn : jR n) : jm_E dh_pr (d + 1) 59 [.inr (.inl M), .inl (jz n)] h (fun o h' => mp (caF s n).1 (caF s n).2 M o h h') := by
  refine jm_E_mono _ _ _ _ _ _ ?_ (s59 R.1 hn)
  rintro o h' ⟨z, rfl, ⟨rfl, q, rfl⟩ | ⟨rfl, q, rfl⟩⟩
  · have ec : caF s n = (1, (s.1, s.2.1, s.2.2.1, s.2.2.2.1, n, s.2.2.2.2.2)) := by unfold caF; rw [if_pos q]
    rw [ec]
    have p : jq M [0, 15] [] h (jm_sI (jm_sI h M 0 (jz 0)) M 15 (jz n)) := ((jq.refl _ _ _ h).sM (by simp <;> omega)).sM (by simp <;> omega)
    obtain ⟨r1, r2, r3, ⟨ts, r4, r5⟩, r6, r7, r8, r9, r10⟩ := R
    exact ⟨rfl, ⟨r1.js p.1, r2.jq p (by simp <;> omega) (by decide) (by simp <;> omega), r3.jq p (by simp <;> omega) (by decide) (by simp <;> omega), ⟨ts, r4.jq p (by simp <;> omega) (by simp <;> omega), r5⟩, r6.jq p (by simp <;> omega) (by decide) (by simp <;> omega), r7.jq p (by simp <;> omega) (by decide) (by simp <;> omega), jr_I_self, r9.jq p (by simp <;> omega) (by decide) (fun i h1 h2 => by simp), nmr_jq r10 p (by simp <;> omega) (by simp <;> omega)⟩, mA_up p (by decide) (fun b hb => by cases hb)⟩
  · have ec : caF s n = (0, s) := by unfold caF; rw [if_neg (by omega)]
    rw [ec]
    exact ⟨rfl, (RM_code R 0).1, (RM_code R 0).2.1⟩
theorem RM_cnt {h : jm_H} {M : Nat} {s : St} (R : RM h M s) : jm_I h M 1 = jz s.2.1.length := by rw [← pS_len]; exact R.2.2.1.1.1
theorem RM_cV {h : jm_H} {M : Nat} {s : St} (R : RM h M s) : cV h M s.2.1 := by
  obtain ⟨ts, r4, r5⟩ := R.2.2.2.1
  exact cV_mk R.2.2.1 r4 r5
theorem m71 {d M : Nat} {h : jm_H} {s : St} (R : RM h M s) : jm_E dh_pr (d + 1) 71 [.inr (.inl M)] h (fun o h' => mp s.2.1.length s M o h h') := by
  refine jm_E_mono _ _ _ _ _ _ ?_ (s71 R.1 (RM_cnt R))
  rintro o h' ⟨rfl, rfl⟩
  exact ⟨rfl, (RM_code R 0).1, (RM_code R 0).2.1⟩
theorem m77 {d M : Nat} {h : jm_H} {s : St} {v : Int} (R : RM h M s) (hv : jR v) : jm_E dh_pr (d + 1) 77 [.inr (.inl M), .inl (jz v)] h (fun o h' => mp ((if v = 0 then s.2.2.1.length else s.2.2.2.1.length : Nat) : Int) s M o h h') := by
  refine jm_E_mono _ _ _ _ _ _ ?_ (s77 R.1 R.2.2.2.2.1 R.2.2.2.2.2.1 hv)
  rintro o h' ⟨rfl, rfl⟩
  exact ⟨rfl, (RM_code R 0).1, (RM_code R 0).2.1⟩
def atN (s : St) (k v : Int) : Int := if 0 ≤ k ∧ k < ((if v = 0 then s.2.2.1 else s.2.2.2.1).length : Int) then (if v = 0 then s.2.2.1 else s.2.2.2.1).getD k.toNat 0 else -1
theorem m78 {d M : Nat} {h : jm_H} {s : St} {k v : Int} (R : RM h M s) (hk : jR k) (hv : jR v) : jm_E dh_pr (d + 1) 78 [.inr (.inl M), .inl (jz k), .inl (jz v)] h (fun o h' => mp (atN s k v) s M o h h') := by
  refine jm_E_mono _ _ _ _ _ _ ?_ (s78 R.1 R.2.2.2.2.1 R.2.2.2.2.2.1 hk hv)
  rintro o h' ⟨rfl, rfl⟩
  exact ⟨rfl, (RM_code R 0).1, (RM_code R 0).2.1⟩
theorem m58 {d M : Nat} {h : jm_H} {s : St} {r : Int} (R : RM h M s) (ok : oks s) (hk : jR r) : jm_E dh_pr (d + 2) 58 [.inr (.inl M), .inl (jz r)] h (fun o h' => mo (otF s r) M o h h') := by
  refine jm_E_mono _ _ _ _ _ _ ?_ (s58 R.1 (RM_cV R) ok.2.1.1 hk)
  rintro o h' ⟨p, ⟨q, rfl, z, c⟩ | ⟨q, rfl, rfl⟩⟩
  · have ec : otF s r = (0, ((s.2.1.getD r.toNat rv0).2.2.2.length : Int), ((s.2.1.getD r.toNat rv0).2.2.2, s.2)) := by unfold otF; rw [if_pos q]
    rw [ec]
    exact ⟨⟨_, rfl, fun _ => rfl⟩, z, RM_dk R p c, up_dk p⟩
  · have ec : otF s r = (1, 0, s) := by unfold otF; rw [if_neg q]
    rw [ec]
    exact mo_c R (by decide)
theorem m60 {d M : Nat} {h : jm_H} {s : St} {k b : Int} (R : RM h M s) (ok : oks s) (hk : jR k) (hb : jR b) : jm_E dh_pr (d + 1) 60 [.inr (.inl M), .inl (jz k), .inl (jz b)] h (fun o h' => o = .inl none ∧ jm_I h' M 0 = jz (crF s k b).1 ∧ RM h' M (crF s k b).2.2 ∧ jq M mB (mA M) h h') := by
  have hs := R.1
  have l4 := ok.2.2.2.1.1
  have cf := R.2.2.2.2.1
  obtain ⟨f9, g9, n9⟩ := hs.f 12 9 400 (by decide)
  have E1 : ¬ (0 ≤ k ∧ k < s.2.2.1.length) → crF s k b = (1, 0, s) := fun q => by unfold crF; rw [if_neg q]
  have E2 : (0 ≤ k ∧ k < s.2.2.1.length) → ¬ (0 ≤ b ∧ b ≤ 255) → crF s k b = (2, 0, s) := fun q q' => by unfold crF; rw [if_pos q, if_neg q']
  refine e60 (r60_0 ⟨hk, fun q => ⟨hs.1, fun _ => ?_, fun w => absurd w (by omega)⟩, fun q => ⟨hs.1, _, cf.1, ⟨by omega, by omega⟩, fun q1 => ⟨hb, fun q2 => ⟨fun _ => ?_, fun w => absurd w (by omega)⟩, fun q2 => ⟨fun q3 => ⟨fun w => absurd rfl w, fun _ => ⟨_, f9, g9, _, n9, ⟨by omega, by omega, by omega⟩, ?_⟩⟩, fun q3 => ⟨fun _ => ?_, fun w => absurd w (by omega)⟩⟩⟩, fun q1 => ⟨fun _ => ?_, fun w => absurd w (by omega)⟩⟩⟩)
  · rw [E1 (by omega)]; exact ⟨rfl, (RM_code R 1).2.2, (RM_code R 1).1, (RM_code R 1).2.1⟩
  · rw [E2 (by omega) (by omega)]; exact ⟨rfl, (RM_code R 2).2.2, (RM_code R 2).1, (RM_code R 2).2.1⟩
  · have ec : crF s k b = (0, 0, (s.1, s.2.1, s.2.2.1.set k.toNat b, s.2.2.2)) := by unfold crF; rw [if_pos ⟨q, q1⟩, if_pos ⟨q2, q3⟩]
    rw [ec]
    have p : jq M [0] [M + 9] h (jm_sI (jm_sI h M 0 (jz 0)) (M + 9) k.toNat (jz b)) := ((jq.refl _ _ _ h).sM (by simp <;> omega)).sI (by simp <;> omega)
    obtain ⟨r1, r2, r3, ⟨ts, r4, r5⟩, r6, r7, r8, r9, r10⟩ := R
    refine ⟨rfl, by rw [off1 (by omega)]; exact jr_I_self, ⟨r1.js p.1, r2.jq p (by simp <;> omega) (by decide) (by simp <;> omega), r3.jq p (by simp <;> omega) (by decide) (by simp <;> omega), ⟨ts, r4.jq p (by simp <;> omega) (by simp <;> omega), r5⟩, ⟨?_, ?_, ?_⟩, r7.jq p (by simp <;> omega) (by decide) (by simp <;> omega), (p.2 M 15 (by simp <;> omega) (fun q => absurd q.2 (by decide))).trans r8, r9.jq p (by simp <;> omega) (by decide) (fun i h1 h2 => by simp; omega), nmr_jq r10 p (by simp <;> omega) (by simp <;> omega)⟩, mA_up p (by decide) (fun b hb => by simp at hb; omega)⟩
    · rw [List.length_set]; exact (p.2 M 11 (by simp <;> omega) (fun q => absurd q.2 (by decide))).trans r6.1
    · rw [List.length_set]; exact r6.2.1
    · exact (r6.2.2.off (by omega)).set (by omega)
  · rw [E2 (by omega) (by omega)]; exact ⟨rfl, (RM_code R 2).2.2, (RM_code R 2).1, (RM_code R 2).2.1⟩
  · rw [E1 (by omega)]; exact ⟨rfl, (RM_code R 1).2.2, (RM_code R 1).1, (RM_code R 1).2.1⟩
theorem m28 {d M : Nat} {h : jm_H} {s : St} {c : Int} (R : RM h M s) (hc : jm_I h M 0 = jz c) : jm_E dh_pr (d + 1) 28 [.inr (.inl M)] h (fun o h' => o = .inl (some (.inl (jz c))) ∧ h' = h) := e28 (r28_0 ⟨R.1.1, _, hc, rfl, rfl⟩)
theorem m72 {d M : Nat} {h : jm_H} {s : St} {r w : Int} (R : RM h M s) (ok : oks s) (hk : jR r) (hw : jR w) : jm_E dh_pr (d + 2) 72 [.inr (.inl M), .inl (jz r), .inl (jz w)] h (fun o h' => mo (abF s r w) M o h h') := by
  have l20 := ok.2.1.1
  have hv := ok.2.1.2.1
  have el := pS_len s.2.1
  obtain ⟨C1, C2, C3⟩ := RM_code R 0
  refine e72 (r72_0 ⟨R.1.1, jm_callI (s53 R.1 (RM_cnt R) l20 hk) ?_⟩)
  rintro z h' ⟨rfl, ⟨rfl, q⟩ | ⟨rfl, q⟩⟩
  · have kk : r.toNat < s.2.1.length := by omega
    have er : ((r.toNat : Nat) : Int) = r := by omega
    have ec : abF s r w = (0, abN s.2.1 r.toNat w, s) := by unfold abF; rw [if_pos q]
    rw [ec]
    have hs1 := C1.1
    have U1 := C1.2.2.1
    have hP := sfP_all _ _ rfl hv
    have hg := gfP_all _ _ rfl hv
    have rp := hv.rng (by omega)
    have K : ∀ v, v = abN s.2.1 r.toNat w → mo (0, abN s.2.1 r.toNat w, s) M (.inl (some (.inl (jz v)))) h' (jm_sI h' M 0 (jz 0)) := fun v e => ⟨⟨v, rfl, fun _ => e⟩, C3, C1, C2⟩
    have L : ∀ (m k : Nat) (v3 v4 : Int), k + m = s.2.1.length → v4 = k → v3 = (cntE r ((pS s.2.1).take k) : Int) → jm_W dh_pr (d + 1) 72 (31, [some (.inr (.inl M)), some (.inl (jz r)), some (.inl (jz w)), some (.inl (jz v3)), some (.inl (jz v4))], [], jm_sI h' M 0 (jz 0)) (fun o h2 => mo (0, abN s.2.1 r.toNat w, s) M o h' h2) := by
      intro m
      induction m with
      | zero =>
        intro k v3 v4 e e4 e3
        rw [List.take_of_length_le (by omega)] at e3
        obtain ⟨f1, g1, n1⟩ := hs1.f 2 1 20 (by decide)
        obtain ⟨f2, g2, n2⟩ := hs1.f 3 2 20 (by decide)
        obtain ⟨f3, g3, n3⟩ := hs1.f 4 3 20 (by decide)
        obtain ⟨f6, g6, n6⟩ := hs1.f 7 6 20 (by decide)
        have ri : jzi r 20 := ⟨by omega, by omega, by omega⟩
        have nl := nm_len hv hg r.toNat (by omega)
        have gr := hg r.toNat (by omega)
        have cl : ∀ l : List Int, cntE r l ≤ l.length := by
          intro l
          induction l with
          | nil => exact Nat.le_refl 0
          | cons x l ih =>
            show (if x = r then 1 else 0) + cntE r l ≤ l.length + 1
            split <;> omega
        have cl1 := cl (pS s.2.1)
        refine r72_31 ⟨hs1.1, _, U1.1.1, ⟨by omega, by omega⟩, ⟨by omega, by omega⟩, fun _ => ⟨hw, fun e => ⟨_, f1, g1, _, n1, ri, _, U1.1.2 r.toNat (by omega), K _ ?_⟩, fun e => ⟨_, f2, g2, _, n2, ri, _, U1.2.1 r.toNat (by rw [List.length_map]; exact kk), K _ ?_⟩, fun e => ⟨_, f3, g3, _, n3, ri, _, lk_at U1 kk, K _ ?_⟩, fun e => ⟨_, f6, g6, _, n6, ri, _, (C1.2.2.2.2.2.2.2.2 r.toNat kk).1, K _ ?_⟩, fun e => ?_, fun e => ⟨⟨by omega, by omega⟩, fun e5 => K _ ?_, fun e5 => K _ ?_⟩, fun n0 n1 n2 n3 n4 n5 => K _ ?_⟩, fun x => absurd x (by omega)⟩
        · rw [e, pS_at kk]; rfl
        · rw [e, gD_mp (a := rv0) kk]; rfl
        · rw [e]; rfl
        · rw [e, nl]; rfl
        · have W := s36 (d := d) (r := r.toNat) hs1 U1.1.1 U1.1.2 (by omega) rp (by omega)
          rw [er] at W
          refine jm_callI W ?_
          rintro z h2 ⟨rfl, rfl⟩
          refine r72_137 (K _ ?_)
          rw [e, ← hP.1 r.toNat (by omega)]; rfl
        · have e6 : cntE r (pS s.2.1) = 0 := by omega
          have g2 := gr.2.1
          rw [er, e6] at g2
          rw [e]
          show (0 : Int) = (fsK (pS s.2.1) r.toNat).2.1
          rw [g2]; rfl
        · have g2 := gr.2.1
          rw [er] at g2
          rw [e]
          show v3 - 1 = (fsK (pS s.2.1) r.toNat).2.1
          rw [g2]; omega
        · unfold abN; rw [if_neg n0, if_neg n1, if_neg n2, if_neg n3, if_neg n4, if_neg n5]
      | succ m ih =>
        intro k v3 v4 e e4 e3
        obtain ⟨f1, g1, n1⟩ := hs1.f 2 1 20 (by decide)
        have st : cntE r ((pS s.2.1).take (k + 1)) = cntE r ((pS s.2.1).take k) + (if (pS s.2.1).getD k 0 = r then 1 else 0) := by
          rw [take_snoc (by omega), cntE_app, cntE_one]
        refine r72_31 ⟨hs1.1, _, U1.1.1, ⟨by omega, by omega⟩, ⟨by omega, by omega⟩, fun x => absurd x (by omega), fun _ => ⟨_, f1, g1, _, n1, ⟨by omega, by omega, by omega⟩, (pS s.2.1).getD k 0, by rw [show v4.toNat = k by omega]; exact U1.1.2 k (by omega), rp.at _, hk, fun q4 => ih (k + 1) _ _ (by omega) (by omega) ?_, fun q4 => ih (k + 1) _ _ (by omega) (by omega) ?_⟩⟩
        · rw [st, if_neg q4, e3]; omega
        · rw [st, if_pos q4, e3]; omega
    exact r72_6 ⟨⟨by omega, by omega⟩, fun _ => ⟨R.1.1, R.1.1, 0, jr_I_self, ⟨by omega, by omega⟩, fun _ => L s.2.1.length 0 0 0 (by omega) (by omega) rfl, fun x => absurd x (by omega)⟩, fun x => absurd rfl x⟩
  · have ec : abF s r w = (1, 0, s) := by unfold abF; rw [if_neg q]
    rw [ec]
    exact r72_6 ⟨⟨by omega, by omega⟩, fun x => absurd x (by omega), fun _ => ⟨R.1.1, R.1.1, 1, jr_I_self, ⟨by omega, by omega⟩, fun x => absurd x (by omega), fun _ => mo_c R (by decide)⟩⟩
theorem m73 {d M : Nat} {h : jm_H} {s : St} {r k : Int} (R : RM h M s) (ok : oks s) (hr : jR r) (hk : jR k) : jm_E dh_pr (d + 2) 73 [.inr (.inl M), .inl (jz r), .inl (jz k)] h (fun o h' => mo (naF s r k) M o h h') := by
  have l20 := ok.2.1.1
  have hv := ok.2.1.2.1
  have el := pS_len s.2.1
  obtain ⟨C1, C2, C3⟩ := RM_code R 0
  refine e73 (r73_0 ⟨R.1.1, jm_callI (s53 R.1 (RM_cnt R) l20 hr) ?_⟩)
  rintro z h' ⟨rfl, ⟨rfl, q⟩ | ⟨rfl, q⟩⟩
  · have kk : r.toNat < s.2.1.length := by omega
    have ec : naF s r k = (0, nmN (pS s.2.1) r.toNat k, s) := by unfold naF; rw [if_pos q]
    rw [ec]
    have hg := gfP_all _ _ rfl hv
    have nl := nm_len hv hg r.toNat (by omega)
    have nb := nl_bd hv hg r.toNat (by omega)
    have N := R.2.2.2.2.2.2.2.2 r.toNat kk
    obtain ⟨f6, g6, n6⟩ := R.1.f 7 6 20 (by decide)
    obtain ⟨f7, g7, n7⟩ := R.1.f 8 7 840 (by decide)
    have K : ∀ v, v = nmN (pS s.2.1) r.toNat k → mo (0, nmN (pS s.2.1) r.toNat k, s) M (.inl (some (.inl (jz v)))) h' (jm_sI h' M 0 (jz 0)) := fun v e => ⟨⟨v, rfl, fun _ => e⟩, C3, C1, C2⟩
    refine r73_6 ⟨⟨by omega, by omega⟩, fun _ => ⟨R.1.1, R.1.1, 0, jr_I_self, ⟨by omega, by omega⟩, fun x => absurd x (by omega), fun _ => ⟨hk, fun q1 => K _ ?_, fun q1 => ⟨_, f6, g6, _, n6, ⟨by omega, by omega, by omega⟩, _, N.1, ⟨by omega, by omega⟩, fun q2 => ⟨_, f7, g7, _, n7, ⟨by omega, by omega, by omega⟩, (nm (pS s.2.1) r.toNat).getD k.toNat 0, ?_, K _ ?_⟩, fun q2 => K _ ?_⟩⟩⟩, fun x => absurd rfl x⟩
    · rw [nmN, if_neg (by omega)]
    · rw [show (42 * r + k).toNat = 42 * r.toNat + k.toNat by omega]; exact N.2 k.toNat (by omega)
    · rw [nmN, if_pos ⟨q1, q2⟩]
    · rw [nmN, if_neg (by omega)]
  · have ec : naF s r k = (1, 0, s) := by unfold naF; rw [if_neg q]
    rw [ec]
    exact r73_6 ⟨⟨by omega, by omega⟩, fun x => absurd x (by omega), fun _ => ⟨R.1.1, R.1.1, 1, jr_I_self, ⟨by omega, by omega⟩, fun _ => mo_c R (by decide), fun x => absurd x (by omega)⟩⟩
theorem m74 {d M : Nat} {h : jm_H} {s : St} {a b : Int} (R : RM h M s) (ok : oks s) (ha : jR a) (hb : jR b) : jm_E dh_pr (d + 2) 74 [.inr (.inl M), .inl (jz a), .inl (jz b)] h (fun o h' => mo (roF s a b) M o h h') := by
  have l20 := ok.2.1.1
  have hv := ok.2.1.2.1
  have el := pS_len s.2.1
  obtain ⟨C1, C2, C3⟩ := RM_code R 0
  refine e74 (r74_0 ⟨R.1.1, jm_callI (s53 R.1 (RM_cnt R) l20 ha) ?_⟩)
  rintro z h' ⟨rfl, ⟨rfl, q⟩ | ⟨rfl, q⟩⟩
  · refine r74_6 ⟨⟨by omega, by omega⟩, fun x => absurd rfl x, fun _ => ⟨R.1.1, jm_callI (s53 R.1 (RM_cnt R) l20 hb) ?_⟩⟩
    rintro z h' ⟨rfl, ⟨rfl, q2⟩ | ⟨rfl, q2⟩⟩
    · have ec : roF s a b = (0, (cmn (pS s.2.1) (a.toNat + b.toNat) a.toNat b.toNat : Int), s) := by unfold roF; rw [if_pos ⟨q, q2⟩]
      rw [ec]
      refine r74_14 ⟨⟨by omega, by omega⟩, fun _ => ⟨R.1.1, R.1.1, 0, jr_I_self, ⟨by omega, by omega⟩, fun _ => jm_W_mono ?_ (s74_l C1.1 C1.2.2.1.1.2 (by omega) hv (a.toNat + b.toNat) a.toNat b.toNat a b (by omega) (by omega) (by omega) (by omega) (Nat.le_refl _)), fun x => absurd x (by omega)⟩, fun x => absurd rfl x⟩
      rintro o h2 ⟨rfl, rfl⟩
      exact ⟨⟨_, rfl, fun _ => rfl⟩, C3, C1, C2⟩
    · have ec : roF s a b = (1, 0, s) := by unfold roF; rw [if_neg (fun w => q2 w.2)]
      rw [ec]
      exact r74_14 ⟨⟨by omega, by omega⟩, fun x => absurd x (by omega), fun _ => ⟨R.1.1, R.1.1, 1, jr_I_self, ⟨by omega, by omega⟩, fun x => absurd x (by omega), fun _ => mo_c R (by decide)⟩⟩
  · have ec : roF s a b = (1, 0, s) := by unfold roF; rw [if_neg (fun w => q w.1)]
    rw [ec]
    exact r74_6 ⟨⟨by omega, by omega⟩, fun _ => ⟨R.1.1, R.1.1, 1, jr_I_self, ⟨by omega, by omega⟩, fun x => absurd x (by omega), fun _ => mo_c R (by decide)⟩, fun x => absurd x (by omega)⟩
theorem m76 {d M : Nat} {h : jm_H} {s : St} {k w : Int} (R : RM h M s) (ok : oks s) (hk : jR k) (hw : jR w) : jm_E dh_pr (d + 1) 76 [.inr (.inl M), .inl (jz k), .inl (jz w)] h (fun o h' => mp (stF s k w) s M o h h') := by
  have hs := R.1
  obtain ⟨C1, C2, C3⟩ := RM_code R 0
  obtain ⟨w1, w2, w3, w4, w5, w6⟩ := R.2.2.2.2.2.2.2.1
  have lA := ok.2.2.2.2.2.2.1.1
  have lB := ok.2.2.2.2.2.2.2.1
  obtain ⟨d1, d2, d3, d4⟩ := delta_cnt (A := s.2.2.2.2.2.1) (B := s.2.2.2.2.2.2) lA
  have oa := delta_ok s.2.2.2.2.2.1 s.2.2.2.2.2.2
  unfold stF stepN
  generalize hD : delta s.2.2.2.2.2.1 s.2.2.2.2.2.2 = D at *
  obtain ⟨f18, g18, n18⟩ := hs.f 27 18 24 (by decide)
  obtain ⟨f19, g19, n19⟩ := hs.f 28 19 24 (by decide)
  obtain ⟨f20, g20, n20⟩ := hs.f 29 20 24 (by decide)
  obtain ⟨f21, g21, n21⟩ := hs.f 30 21 24 (by decide)
  obtain ⟨f22, g22, n22⟩ := hs.f 31 22 12 (by decide)
  have K : ∀ v v' : Int, v = v' → mp v' s M (.inl (some (.inl (jz v)))) h (jm_sI h M 0 (jz 0)) := fun v v' e => ⟨by rw [e], C1, C2⟩
  refine e76 (r76_0 ⟨hs.1, hk, fun q => K _ _ ?_, fun q => ⟨_, w1, ⟨by omega, by omega⟩, fun q1 => K _ _ ?_, fun q1 => ⟨hw, fun q2 => ⟨fun q3 => ?_, fun q3 => ⟨fun q4 => ⟨fun q5 => ?_, fun q5 => ?_⟩, fun q4 => ?_⟩⟩, fun q2 => K _ _ ?_⟩⟩⟩)
  · rw [if_neg (by omega)]
  · rw [if_neg (by omega)]
  · have kk : k.toNat < D.1.length := by omega
    have rd : ∀ (f : S5 → Int), (D.1.map f).getD k.toNat 0 = f (D.1.getD k.toNat s50) := fun f => gD_map kk
    have ll : ∀ (f : S5 → Int), k.toNat < (D.1.map f).length := fun f => by rw [List.length_map]; exact kk
    have o := d4 _ (mem_gD kk)
    have t := oa _ (mem_gD kk)
    have ki : jzi k 24 := ⟨q, by omega, by omega⟩
    rw [if_pos ⟨q, q1⟩, if_neg (by omega), if_neg (by omega), if_neg (by omega)]
    generalize D.1.getD k.toNat s50 = e at *
    refine ⟨_, f18, g18, _, n18, ki, e.1, by rw [w2 _ (ll _), rd], ⟨by omega, by omega⟩, fun q4 => K _ _ ?_, fun q4 => ⟨_, f20, g20, _, n20, ki, e.2.2.1, by rw [w4 _ (ll _), rd], ⟨by omega, by have := hw.2; omega⟩, ⟨by omega, by omega⟩, fun q5 => K _ _ ?_, fun q5 => ?_⟩⟩
    · rw [addL, if_neg (fun x => q4 x.1)]
    · rw [addL, if_neg (by omega)]
    · obtain ⟨t1, t2, t3, t4, t5⟩ := t q4
      have tl := t5 (w - 3).toNat (by omega)
      refine ⟨_, f22, _, f21, g21, _, n21, ki, e.2.2.2.2, by rw [w5 _ (ll _), rd], g22, _, n22, ⟨by omega, by omega, by omega⟩, _, w6 _ (by omega), K _ _ ?_⟩
      rw [addL, if_pos ⟨q4, by omega, q5⟩]
      rw [show (((w - 3).toNat : Nat) : Int) = w - 3 by omega] at tl
      rw [tl, show e.2.2.2.2 + w - 3 = e.2.2.2.2 + (w - 3) by omega]
  · have kk : k.toNat < D.1.length := by omega
    have rd : ∀ (f : S5 → Int), (D.1.map f).getD k.toNat 0 = f (D.1.getD k.toNat s50) := fun f => gD_map kk
    have ll : ∀ (f : S5 → Int), k.toNat < (D.1.map f).length := fun f => by rw [List.length_map]; exact kk
    refine ⟨_, f20, g20, _, n20, ⟨q, by omega, by omega⟩, _, w4 _ (ll _), K _ _ ?_⟩
    rw [rd, if_pos ⟨q, q1⟩, if_neg (by omega), if_neg (by omega), if_pos (by omega)]
  · have kk : k.toNat < D.1.length := by omega
    have rd : ∀ (f : S5 → Int), (D.1.map f).getD k.toNat 0 = f (D.1.getD k.toNat s50) := fun f => gD_map kk
    have ll : ∀ (f : S5 → Int), k.toNat < (D.1.map f).length := fun f => by rw [List.length_map]; exact kk
    refine ⟨_, f19, g19, _, n19, ⟨q, by omega, by omega⟩, _, w3 _ (ll _), K _ _ ?_⟩
    rw [rd, if_pos ⟨q, q1⟩, if_neg (by omega), if_pos (by omega)]
  · have kk : k.toNat < D.1.length := by omega
    have rd : ∀ (f : S5 → Int), (D.1.map f).getD k.toNat 0 = f (D.1.getD k.toNat s50) := fun f => gD_map kk
    have ll : ∀ (f : S5 → Int), k.toNat < (D.1.map f).length := fun f => by rw [List.length_map]; exact kk
    refine ⟨_, f18, g18, _, n18, ⟨q, by omega, by omega⟩, _, w2 _ (ll _), K _ _ ?_⟩
    rw [rd, if_pos ⟨q, q1⟩, if_pos (by omega)]
  · rw [if_pos ⟨q, q1⟩, if_neg (by omega), if_neg (by omega), if_neg (by omega), addL, if_neg (by omega)]
