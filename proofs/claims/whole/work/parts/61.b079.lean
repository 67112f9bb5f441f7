/-! 79 DeltaHistory$Bytes.<init>()V -/
theorem b79_0 {d : Nat} {Q : jm_Q} {h : jm_H} {a0 : Nat} {y2 : Int32} {x5 : Nat} (c1 : ¬ jm_T h a0 = 0) (q2 : (400 : Int32) = y2) (c3 : 0 ≤ y2.toInt) (c4 : y2.toInt ≤ 100000) (q5 : jm_ix y2 = x5) (c6 : h.1 + 1 ≤ 601026) (c7 : h.2.1 + x5 ≤ 7293034) (k : jm_W dh_pr d 79 (10, [some (.inr (.inl a0))], [.inr (.inl h.1), .inr (.inl a0)], jm_new h 100 x5 x5) Q) : jm_W dh_pr d 79 (0, [some (.inr (.inl a0))], [], h) Q := by
  subst q2 q5
  exact jm_blk 5 (And.intro c1 (And.intro ⟨Nat.le_of_ble_eq_true rfl, Nat.le_of_ble_eq_true rfl⟩ (And.intro c3 (And.intro c4 (And.intro c6 (And.intro c7 (k)))))))
theorem b79_10 {d : Nat} {Q : jm_Q} {h : jm_H} {l0 : Option jm_V} {r0 : Nat} {r1 : Nat} (c1 : jm_T h r0 = 3) (k : jm_W dh_pr d 79 (13, [l0], [], jm_sF h r0 0 r1) Q) : jm_W dh_pr d 79 (10, [l0], [.inr (.inl r1), .inr (.inl r0)], h) Q := jm_blk 1 (And.intro c1 (k))
theorem b79_13 {d : Nat} {Q : jm_Q} {h : jm_H} {l0 : Option jm_V} (k : Q (.inl none) h) : jm_W dh_pr d 79 (13, [l0], [], h) Q := jm_blk 1 (k)
theorem e79 {d : Nat} {Q : jm_Q} {h : jm_H} {a0 : Nat} (w : jm_W dh_pr d 79 (0, [some (.inr (.inl a0))], [], h) Q) : jm_E dh_pr (d + 1) 79 [.inr (.inl a0)] h Q := jm_E_in (Nat.le_of_ble_eq_true rfl) w
theorem r79_0 {d : Nat} {Q : jm_Q} {h : jm_H} {a0 : Nat} (w : (¬ jm_T h a0 = 0 ∧ h.1 + 1 ≤ 601026 ∧ h.2.1 + 400 ≤ 7293034 ∧ (jm_T (jm_new h 100 400 400) a0 = 3 ∧ (Q (.inl none) (jm_sF (jm_new h 100 400 400) a0 0 h.1))))) : jm_W dh_pr d 79 (0, [some (.inr (.inl a0))], [], h) Q :=
  (b79_0 w.1 (show (400 : Int32) = jz 400 from rfl) (show 0 ≤ (jz 400).toInt by decide) (show (jz 400).toInt ≤ 100000 by decide) (show jm_ix (jz 400) = 400 from jz_ix ⟨by decide, by decide⟩) w.2.1 w.2.2.1 (b79_10 w.2.2.2.1 (b79_13 w.2.2.2.2)))
/-! 80 DeltaHistory$Bytes.clear()V -/
theorem b80_0 {d : Nat} {Q : jm_Q} {h : jm_H} {a0 : Nat} {y1 : Int32} (q1 : (0 : Int32) = y1) (c2 : jm_T h a0 = 3) (k : jm_W dh_pr d 80 (5, [some (.inr (.inl a0))], [], jm_sI h a0 1 y1) Q) : jm_W dh_pr d 80 (0, [some (.inr (.inl a0))], [], h) Q := by
  subst q1
  exact jm_blk 3 (And.intro c2 (k))
theorem b80_5 {d : Nat} {Q : jm_Q} {h : jm_H} {l0 : Option jm_V} (k : Q (.inl none) h) : jm_W dh_pr d 80 (5, [l0], [], h) Q := jm_blk 1 (k)
theorem e80 {d : Nat} {Q : jm_Q} {h : jm_H} {a0 : Nat} (w : jm_W dh_pr d 80 (0, [some (.inr (.inl a0))], [], h) Q) : jm_E dh_pr (d + 1) 80 [.inr (.inl a0)] h Q := jm_E_in (Nat.le_of_ble_eq_true rfl) w
theorem r80_0 {d : Nat} {Q : jm_Q} {h : jm_H} {a0 : Nat} (w : (jm_T h a0 = 3 ∧ (Q (.inl none) (jm_sI h a0 1 (jz 0))))) : jm_W dh_pr d 80 (0, [some (.inr (.inl a0))], [], h) Q :=
  (b80_0 (show (0 : Int32) = jz 0 from rfl) w.1 (b80_5 w.2))
/-! 81 DeltaHistory$Bytes.put(I)V -/
theorem b81_0 {d : Nat} {Q : jm_Q} {h : jm_H} {a0 : Nat} {l1 : Option jm_V} {y2 : Int32} {y3 : Int32} (c1 : jm_T h a0 = 3) (q2 : jm_I h a0 1 = y2) (q3 : (400 : Int32) = y3) (k1 : y3 ≤ y2 → jm_W dh_pr d 81 (20, [some (.inr (.inl a0)), l1], [], h) Q) (k2 : ¬ (y3 ≤ y2) → jm_W dh_pr d 81 (10, [some (.inr (.inl a0)), l1], [], h) Q) : jm_W dh_pr d 81 (0, [some (.inr (.inl a0)), l1], [], h) Q := by
  subst q2 q3
  exact jm_blk 4 (And.intro c1 (And.intro k1 k2))
theorem b81_10 {d : Nat} {Q : jm_Q} {h : jm_H} {a0 : Nat} {v1 : Int32} {f2 : Nat} {y4 : Int32} {n6 : Nat} {x8 : Nat} (c1 : jm_T h a0 = 3) (q2 : jm_F h a0 0 = f2) (c3 : jm_T h a0 = 3) (q4 : jm_I h a0 1 = y4) (c5 : jm_T h f2 = 100) (q6 : jm_N h f2 = n6) (c7 : jm_in y4 n6) (q8 : jm_ix y4 = x8) (k : jm_W dh_pr d 81 (20, [some (.inr (.inl a0)), some (.inl v1)], [], jm_sI h f2 x8 v1) Q) : jm_W dh_pr d 81 (10, [some (.inr (.inl a0)), some (.inl v1)], [], h) Q := by
  subst q2 q4 q6 q8
  exact jm_blk 6 (And.intro c1 (And.intro c3 (And.intro c5 (And.intro c7 (k)))))
theorem b81_20 {d : Nat} {Q : jm_Q} {h : jm_H} {a0 : Nat} {l1 : Option jm_V} {y2 : Int32} {y3 : Int32} {y4 : Int32} (c1 : jm_T h a0 = 3) (q2 : jm_I h a0 1 = y2) (q3 : (1 : Int32) = y3) (q4 : y2 + y3 = y4) (c5 : jm_T h a0 = 3) (k : jm_W dh_pr d 81 (30, [some (.inr (.inl a0)), l1], [], jm_sI h a0 1 y4) Q) : jm_W dh_pr d 81 (20, [some (.inr (.inl a0)), l1], [], h) Q := by
  subst q2 q3 q4
  exact jm_blk 6 (And.intro c1 (And.intro c5 (k)))
theorem b81_30 {d : Nat} {Q : jm_Q} {h : jm_H} {l0 : Option jm_V} {l1 : Option jm_V} (k : Q (.inl none) h) : jm_W dh_pr d 81 (30, [l0, l1], [], h) Q := jm_blk 1 (k)
theorem e81 {d : Nat} {Q : jm_Q} {h : jm_H} {a0 : Nat} {v1 : Int} (w : jm_W dh_pr d 81 (0, [some (.inr (.inl a0)), some (.inl (jz v1))], [], h) Q) : jm_E dh_pr (d + 1) 81 [.inr (.inl a0), .inl (jz v1)] h Q := jm_E_in (Nat.le_of_ble_eq_true rfl) w
theorem r81_0 {d : Nat} {Q : jm_Q} {h : jm_H} {a0 : Nat} {v1 : Int} (w : (jm_T h a0 = 3 ∧ ∃ z1 : Int, jm_I h a0 1 = jz z1 ∧ jR z1 ∧ (400 ≤ z1 → ((Q (.inl none) (jm_sI h a0 1 (jz (z1 + 1)))))) ∧ (z1 < 400 → (∃ f3 : Nat, jm_F h a0 0 = f3 ∧ jm_T h f3 = 100 ∧ ∃ n4 : Nat, jm_N h f3 = n4 ∧ jzi z1 n4 ∧ ((Q (.inl none) (jm_sI (jm_sI h f3 z1.toNat (jz v1)) a0 1 (jz (z1 + 1))))))))) : jm_W dh_pr d 81 (0, [some (.inr (.inl a0)), some (.inl (jz v1))], [], h) Q :=
  (w.2.elim fun z1 w1 => (b81_0 w.1 w1.1 (show (400 : Int32) = jz 400 from rfl) (fun p2 => (b81_20 w.1 w1.1 (show (1 : Int32) = jz 1 from rfl) (jz_add _ _) w.1 (b81_30 (w1.2.2.1 (jz_c3 w1.2.1 ⟨by decide, by decide⟩ p2))))) (fun p2 => ((w1.2.2.2 (jz_n3 w1.2.1 ⟨by decide, by decide⟩ p2)).elim fun f3 w3 => (w3.2.2.elim fun n4 w4 => (b81_10 w.1 w3.1 w.1 w1.1 w3.2.1 w4.1 (jz_in w4.2.1) (jz_ix w4.2.1.r) (b81_20 ((jr_T_sI _ _ _ _ _).trans w.1) ((jr_I_ne w.1 w3.2.1 (by decide)).trans w1.1) (show (1 : Int32) = jz 1 from rfl) (jz_add _ _) ((jr_T_sI _ _ _ _ _).trans w.1) (b81_30 w4.2.2))))))))
/-! 82 DeltaHistory$Bytes.fits()Z -/
theorem b82_0 {d : Nat} {Q : jm_Q} {h : jm_H} {a0 : Nat} {y2 : Int32} {y3 : Int32} (c1 : jm_T h a0 = 3) (q2 : jm_I h a0 1 = y2) (q3 : (400 : Int32) = y3) (k1 : y3 < y2 → jm_W dh_pr d 82 (14, [some (.inr (.inl a0))], [], h) Q) (k2 : ¬ (y3 < y2) → jm_W dh_pr d 82 (10, [some (.inr (.inl a0))], [], h) Q) : jm_W dh_pr d 82 (0, [some (.inr (.inl a0))], [], h) Q := by
  subst q2 q3
  exact jm_blk 4 (And.intro c1 (And.intro k1 k2))
theorem b82_10 {d : Nat} {Q : jm_Q} {h : jm_H} {l0 : Option jm_V} {y1 : Int32} (q1 : (1 : Int32) = y1) (k : jm_W dh_pr d 82 (15, [l0], [.inl y1], h) Q) : jm_W dh_pr d 82 (10, [l0], [], h) Q := by
  subst q1
  exact jm_blk 2 (k)
theorem b82_14 {d : Nat} {Q : jm_Q} {h : jm_H} {l0 : Option jm_V} {y1 : Int32} (q1 : (0 : Int32) = y1) (k : jm_W dh_pr d 82 (15, [l0], [.inl y1], h) Q) : jm_W dh_pr d 82 (14, [l0], [], h) Q := by
  subst q1
  exact jm_blk 1 (k)
theorem b82_15 {d : Nat} {Q : jm_Q} {h : jm_H} {l0 : Option jm_V} {s0 : Int32} (c1 : s0 = 0 ∨ s0 = 1) (k : Q (.inl (some (.inl s0))) h) : jm_W dh_pr d 82 (15, [l0], [.inl s0], h) Q := jm_blk 1 (And.intro c1 (k))
theorem e82 {d : Nat} {Q : jm_Q} {h : jm_H} {a0 : Nat} (w : jm_W dh_pr d 82 (0, [some (.inr (.inl a0))], [], h) Q) : jm_E dh_pr (d + 1) 82 [.inr (.inl a0)] h Q := jm_E_in (Nat.le_of_ble_eq_true rfl) w
theorem r82_0 {d : Nat} {Q : jm_Q} {h : jm_H} {a0 : Nat} (w : (jm_T h a0 = 3 ∧ ∃ z1 : Int, jm_I h a0 1 = jz z1 ∧ jR z1 ∧ (400 < z1 → ((Q (.inl (some (.inl (jz 0)))) h))) ∧ (z1 ≤ 400 → ((Q (.inl (some (.inl (jz 1)))) h))))) : jm_W dh_pr d 82 (0, [some (.inr (.inl a0))], [], h) Q :=
  (w.2.elim fun z1 w1 => (b82_0 w.1 w1.1 (show (400 : Int32) = jz 400 from rfl) (fun p2 => (b82_14 (show (0 : Int32) = jz 0 from rfl) (b82_15 (Or.inl rfl) (w1.2.2.1 (jz_c4 w1.2.1 ⟨by decide, by decide⟩ p2))))) (fun p2 => (b82_10 (show (1 : Int32) = jz 1 from rfl) (b82_15 (Or.inr rfl) (w1.2.2.2 (jz_n4 w1.2.1 ⟨by decide, by decide⟩ p2)))))))
/-! 83 DeltaHistory$Bytes.has(I)Z -/
theorem b83_0 {d : Nat} {Q : jm_Q} {h : jm_H} {l0 : Option jm_V} {v1 : Int32} {y1 : Int32} (q1 : (0 : Int32) = y1) (k1 : v1 < y1 → jm_W dh_pr d 83 (23, [l0, some (.inl v1)], [], h) Q) (k2 : ¬ (v1 < y1) → jm_W dh_pr d 83 (4, [l0, some (.inl v1)], [], h) Q) : jm_W dh_pr d 83 (0, [l0, some (.inl v1)], [], h) Q := by
  subst q1
  exact jm_blk 2 (And.intro k1 k2)
theorem b83_4 {d : Nat} {Q : jm_Q} {h : jm_H} {a0 : Nat} {v1 : Int32} {y2 : Int32} (c1 : jm_T h a0 = 3) (q2 : jm_I h a0 1 = y2) (k1 : y2 ≤ v1 → jm_W dh_pr d 83 (23, [some (.inr (.inl a0)), some (.inl v1)], [], h) Q) (k2 : ¬ (y2 ≤ v1) → jm_W dh_pr d 83 (12, [some (.inr (.inl a0)), some (.inl v1)], [], h) Q) : jm_W dh_pr d 83 (4, [some (.inr (.inl a0)), some (.inl v1)], [], h) Q := by
  subst q2
  exact jm_blk 4 (And.intro c1 (And.intro k1 k2))
theorem b83_12 {d : Nat} {Q : jm_Q} {h : jm_H} {l0 : Option jm_V} {v1 : Int32} {y1 : Int32} (q1 : (400 : Int32) = y1) (k1 : y1 ≤ v1 → jm_W dh_pr d 83 (23, [l0, some (.inl v1)], [], h) Q) (k2 : ¬ (y1 ≤ v1) → jm_W dh_pr d 83 (19, [l0, some (.inl v1)], [], h) Q) : jm_W dh_pr d 83 (12, [l0, some (.inl v1)], [], h) Q := by
  subst q1
  exact jm_blk 3 (And.intro k1 k2)
theorem b83_19 {d : Nat} {Q : jm_Q} {h : jm_H} {l0 : Option jm_V} {l1 : Option jm_V} {y1 : Int32} (q1 : (1 : Int32) = y1) (k : jm_W dh_pr d 83 (24, [l0, l1], [.inl y1], h) Q) : jm_W dh_pr d 83 (19, [l0, l1], [], h) Q := by
  subst q1
  exact jm_blk 2 (k)
theorem b83_23 {d : Nat} {Q : jm_Q} {h : jm_H} {l0 : Option jm_V} {l1 : Option jm_V} {y1 : Int32} (q1 : (0 : Int32) = y1) (k : jm_W dh_pr d 83 (24, [l0, l1], [.inl y1], h) Q) : jm_W dh_pr d 83 (23, [l0, l1], [], h) Q := by
  subst q1
  exact jm_blk 1 (k)
theorem b83_24 {d : Nat} {Q : jm_Q} {h : jm_H} {l0 : Option jm_V} {l1 : Option jm_V} {s0 : Int32} (c1 : s0 = 0 ∨ s0 = 1) (k : Q (.inl (some (.inl s0))) h) : jm_W dh_pr d 83 (24, [l0, l1], [.inl s0], h) Q := jm_blk 1 (And.intro c1 (k))
theorem e83 {d : Nat} {Q : jm_Q} {h : jm_H} {a0 : Nat} {v1 : Int} (w : jm_W dh_pr d 83 (0, [some (.inr (.inl a0)), some (.inl (jz v1))], [], h) Q) : jm_E dh_pr (d + 1) 83 [.inr (.inl a0), .inl (jz v1)] h Q := jm_E_in (Nat.le_of_ble_eq_true rfl) w
theorem r83_0 {d : Nat} {Q : jm_Q} {h : jm_H} {a0 : Nat} {v1 : Int} (w : (jR v1 ∧ (v1 < 0 → ((Q (.inl (some (.inl (jz 0)))) h))) ∧ (0 ≤ v1 → (jm_T h a0 = 3 ∧ ∃ z2 : Int, jm_I h a0 1 = jz z2 ∧ jR z2 ∧ (z2 ≤ v1 → ((Q (.inl (some (.inl (jz 0)))) h))) ∧ (v1 < z2 → ((400 ≤ v1 → ((Q (.inl (some (.inl (jz 0)))) h))) ∧ (v1 < 400 → ((Q (.inl (some (.inl (jz 1)))) h))))))))) : jm_W dh_pr d 83 (0, [some (.inr (.inl a0)), some (.inl (jz v1))], [], h) Q :=
  (b83_0 (show (0 : Int32) = jz 0 from rfl) (fun p1 => (b83_23 (show (0 : Int32) = jz 0 from rfl) (b83_24 (Or.inl rfl) (w.2.1 (jz_c2 w.1 ⟨by decide, by decide⟩ p1))))) (fun p1 => ((w.2.2 (jz_n2 w.1 ⟨by decide, by decide⟩ p1)).2.elim fun z2 w2 => (b83_4 (w.2.2 (jz_n2 w.1 ⟨by decide, by decide⟩ p1)).1 w2.1 (fun p3 => (b83_23 (show (0 : Int32) = jz 0 from rfl) (b83_24 (Or.inl rfl) (w2.2.2.1 (jz_c3 w.1 w2.2.1 p3))))) (fun p3 => (b83_12 (show (400 : Int32) = jz 400 from rfl) (fun p4 => (b83_23 (show (0 : Int32) = jz 0 from rfl) (b83_24 (Or.inl rfl) ((w2.2.2.2 (jz_n3 w.1 w2.2.1 p3)).1 (jz_c3 w.1 ⟨by decide, by decide⟩ p4))))) (fun p4 => (b83_19 (show (1 : Int32) = jz 1 from rfl) (b83_24 (Or.inr rfl) ((w2.2.2.2 (jz_n3 w.1 w2.2.1 p3)).2 (jz_n3 w.1 ⟨by decide, by decide⟩ p4)))))))))))
/-! 84 DeltaHistory$Bytes.byteAt(I)I -/
theorem b84_0 {d : Nat} {Q : jm_Q} {h : jm_H} {a0 : Nat} {v1 : Int32} (c1 : jm_T h a0 = 3) (k : jm_E dh_pr d 83 [.inr (.inl a0), .inl v1] h (jm_k dh_pr d 84 Q 5 [some (.inr (.inl a0)), some (.inl v1)] [] 2)) : jm_W dh_pr d 84 (0, [some (.inr (.inl a0)), some (.inl v1)], [], h) Q := jm_blk 3 (jm_callO rfl rfl rfl rfl rfl c1 k)
theorem b84_5 {d : Nat} {Q : jm_Q} {h : jm_H} {l0 : Option jm_V} {l1 : Option jm_V} {s0 : Int32} {y1 : Int32} (q1 : (0 : Int32) = y1) (k1 : s0 = y1 → jm_W dh_pr d 84 (17, [l0, l1], [], h) Q) (k2 : ¬ (s0 = y1) → jm_W dh_pr d 84 (8, [l0, l1], [], h) Q) : jm_W dh_pr d 84 (5, [l0, l1], [.inl s0], h) Q := by
  subst q1
  exact jm_blk 1 (And.intro k1 k2)
theorem b84_8 {d : Nat} {Q : jm_Q} {h : jm_H} {a0 : Nat} {v1 : Int32} {f2 : Nat} {n4 : Nat} {x6 : Nat} {y7 : Int32} (c1 : jm_T h a0 = 3) (q2 : jm_F h a0 0 = f2) (c3 : jm_T h f2 = 100) (q4 : jm_N h f2 = n4) (c5 : jm_in v1 n4) (q6 : jm_ix v1 = x6) (q7 : jm_I h f2 x6 = y7) (k : jm_W dh_pr d 84 (18, [some (.inr (.inl a0)), some (.inl v1)], [.inl y7], h) Q) : jm_W dh_pr d 84 (8, [some (.inr (.inl a0)), some (.inl v1)], [], h) Q := by
  subst q2 q4 q6 q7
  exact jm_blk 5 (And.intro c1 (And.intro c3 (And.intro c5 (k))))
theorem b84_17 {d : Nat} {Q : jm_Q} {h : jm_H} {l0 : Option jm_V} {l1 : Option jm_V} {y1 : Int32} (q1 : ((-1) : Int32) = y1) (k : jm_W dh_pr d 84 (18, [l0, l1], [.inl y1], h) Q) : jm_W dh_pr d 84 (17, [l0, l1], [], h) Q := by
  subst q1
  exact jm_blk 1 (k)
theorem b84_18 {d : Nat} {Q : jm_Q} {h : jm_H} {l0 : Option jm_V} {l1 : Option jm_V} {s0 : Int32} (k : Q (.inl (some (.inl s0))) h) : jm_W dh_pr d 84 (18, [l0, l1], [.inl s0], h) Q := jm_blk 1 (k)
theorem e84 {d : Nat} {Q : jm_Q} {h : jm_H} {a0 : Nat} {v1 : Int} (w : jm_W dh_pr d 84 (0, [some (.inr (.inl a0)), some (.inl (jz v1))], [], h) Q) : jm_E dh_pr (d + 1) 84 [.inr (.inl a0), .inl (jz v1)] h Q := jm_E_in (Nat.le_of_ble_eq_true rfl) w
theorem r84_0 {d : Nat} {Q : jm_Q} {h : jm_H} {a0 : Nat} {v1 : Int} (w : (jm_T h a0 = 3 ∧ jm_E dh_pr d 83 [.inr (.inl a0), .inl (jz v1)] h (jm_k dh_pr d 84 Q 5 [some (.inr (.inl a0)), some (.inl (jz v1))] [] 2))) : jm_W dh_pr d 84 (0, [some (.inr (.inl a0)), some (.inl (jz v1))], [], h) Q :=
  (b84_0 w.1 w.2)
theorem r84_5 {d : Nat} {Q : jm_Q} {h : jm_H} {a0 : Nat} {v1 : Int} {s0 : Int} (w : (jR s0 ∧ (s0 = 0 → ((Q (.inl (some (.inl (jz (-1))))) h))) ∧ (¬ s0 = 0 → (jm_T h a0 = 3 ∧ ∃ f2 : Nat, jm_F h a0 0 = f2 ∧ jm_T h f2 = 100 ∧ ∃ n3 : Nat, jm_N h f2 = n3 ∧ jzi v1 n3 ∧ ∃ z4 : Int, jm_I h f2 v1.toNat = jz z4 ∧ (Q (.inl (some (.inl (jz z4)))) h))))) : jm_W dh_pr d 84 (5, [some (.inr (.inl a0)), some (.inl (jz v1))], [.inl (jz s0)], h) Q :=
  (b84_5 (show (0 : Int32) = jz 0 from rfl) (fun p1 => (b84_17 (show ((-1) : Int32) = jz (-1) from rfl) (b84_18 (w.2.1 (jz_c0 w.1 ⟨by decide, by decide⟩ p1))))) (fun p1 => ((w.2.2 (jz_n0 w.1 ⟨by decide, by decide⟩ p1)).2.elim fun f2 w2 => (w2.2.2.elim fun n3 w3 => (w3.2.2.elim fun z4 w4 => (b84_8 (w.2.2 (jz_n0 w.1 ⟨by decide, by decide⟩ p1)).1 w2.1 w2.2.1 w3.1 (jz_in w3.2.1) (jz_ix w3.2.1.r) w4.1 (b84_18 w4.2)))))))
/-! 85 DeltaHistory$Bytes.becomeFirst(LDeltaHistory$Bytes;I)V -/
theorem b85_0 {d : Nat} {Q : jm_Q} {h : jm_H} {a0 : Nat} {l1 : Option jm_V} {l2 : Option jm_V} {l3 : Option jm_V} (c1 : jm_T h a0 = 3) (k : jm_E dh_pr d 80 [.inr (.inl a0)] h (jm_k dh_pr d 85 Q 4 [some (.inr (.inl a0)), l1, l2, l3] [] 1)) : jm_W dh_pr d 85 (0, [some (.inr (.inl a0)), l1, l2, l3], [], h) Q := jm_blk 2 (jm_callO rfl rfl rfl rfl rfl c1 k)
theorem b85_4 {d : Nat} {Q : jm_Q} {h : jm_H} {l0 : Option jm_V} {l1 : Option jm_V} {l2 : Option jm_V} {l3 : Option jm_V} {y1 : Int32} (q1 : (0 : Int32) = y1) (k : jm_W dh_pr d 85 (6, [l0, l1, l2, some (.inl y1)], [], h) Q) : jm_W dh_pr d 85 (4, [l0, l1, l2, l3], [], h) Q := by
  subst q1
  exact jm_blk 2 (k)
theorem b85_6 {d : Nat} {Q : jm_Q} {h : jm_H} {l0 : Option jm_V} {l1 : Option jm_V} {v2 : Int32} {v3 : Int32} (k1 : v2 ≤ v3 → jm_W dh_pr d 85 (35, [l0, l1, some (.inl v2), some (.inl v3)], [], h) Q) (k2 : ¬ (v2 ≤ v3) → jm_W dh_pr d 85 (11, [l0, l1, some (.inl v2), some (.inl v3)], [], h) Q) : jm_W dh_pr d 85 (6, [l0, l1, some (.inl v2), some (.inl v3)], [], h) Q := jm_blk 3 (And.intro k1 k2)
theorem b85_11 {d : Nat} {Q : jm_Q} {h : jm_H} {l0 : Option jm_V} {a1 : Nat} {l2 : Option jm_V} {v3 : Int32} (c1 : jm_T h a1 = 3) (k : jm_E dh_pr d 83 [.inr (.inl a1), .inl v3] h (jm_k dh_pr d 85 Q 16 [l0, some (.inr (.inl a1)), l2, some (.inl v3)] [] 13)) : jm_W dh_pr d 85 (11, [l0, some (.inr (.inl a1)), l2, some (.inl v3)], [], h) Q := jm_blk 3 (jm_callO rfl rfl rfl rfl rfl c1 k)
theorem b85_16 {d : Nat} {Q : jm_Q} {h : jm_H} {l0 : Option jm_V} {l1 : Option jm_V} {l2 : Option jm_V} {l3 : Option jm_V} {s0 : Int32} {y1 : Int32} (q1 : (0 : Int32) = y1) (k1 : s0 = y1 → jm_W dh_pr d 85 (35, [l0, l1, l2, l3], [], h) Q) (k2 : ¬ (s0 = y1) → jm_W dh_pr d 85 (19, [l0, l1, l2, l3], [], h) Q) : jm_W dh_pr d 85 (16, [l0, l1, l2, l3], [.inl s0], h) Q := by
  subst q1
  exact jm_blk 1 (And.intro k1 k2)
theorem b85_19 {d : Nat} {Q : jm_Q} {h : jm_H} {a0 : Nat} {a1 : Nat} {l2 : Option jm_V} {v3 : Int32} {f2 : Nat} {n4 : Nat} {x6 : Nat} {y7 : Int32} (c1 : jm_T h a1 = 3) (q2 : jm_F h a1 0 = f2) (c3 : jm_T h f2 = 100) (q4 : jm_N h f2 = n4) (c5 : jm_in v3 n4) (q6 : jm_ix v3 = x6) (q7 : jm_I h f2 x6 = y7) (c8 : jm_T h a0 = 3) (k : jm_E dh_pr d 81 [.inr (.inl a0), .inl y7] h (jm_k dh_pr d 85 Q 29 [some (.inr (.inl a0)), some (.inr (.inl a1)), l2, some (.inl v3)] [] 26)) : jm_W dh_pr d 85 (19, [some (.inr (.inl a0)), some (.inr (.inl a1)), l2, some (.inl v3)], [], h) Q := by
  subst q2 q4 q6 q7
  exact jm_blk 6 (And.intro c1 (And.intro c3 (And.intro c5 (jm_callO rfl rfl rfl rfl rfl c8 k))))
theorem b85_29 {d : Nat} {Q : jm_Q} {h : jm_H} {l0 : Option jm_V} {l1 : Option jm_V} {l2 : Option jm_V} {v3 : Int32} {y1 : Int32} {y2 : Int32} (q1 : (1 : Int32) = y1) (q2 : v3 + y1 = y2) (k : jm_W dh_pr d 85 (6, [l0, l1, l2, some (.inl y2)], [], h) Q) : jm_W dh_pr d 85 (29, [l0, l1, l2, some (.inl v3)], [], h) Q := by
  subst q1 q2
  exact jm_blk 2 (k)
theorem b85_35 {d : Nat} {Q : jm_Q} {h : jm_H} {l0 : Option jm_V} {l1 : Option jm_V} {l2 : Option jm_V} {l3 : Option jm_V} (k : Q (.inl none) h) : jm_W dh_pr d 85 (35, [l0, l1, l2, l3], [], h) Q := jm_blk 1 (k)
theorem e85 {d : Nat} {Q : jm_Q} {h : jm_H} {a0 : Nat} {a1 : Nat} {v2 : Int} (w : jm_W dh_pr d 85 (0, [some (.inr (.inl a0)), some (.inr (.inl a1)), some (.inl (jz v2)), none], [], h) Q) : jm_E dh_pr (d + 1) 85 [.inr (.inl a0), .inr (.inl a1), .inl (jz v2)] h Q := jm_E_in (Nat.le_of_ble_eq_true rfl) w
theorem r85_0 {d : Nat} {Q : jm_Q} {h : jm_H} {a0 : Nat} {l1 : Option jm_V} {l2 : Option jm_V} {l3 : Option jm_V} (w : (jm_T h a0 = 3 ∧ jm_E dh_pr d 80 [.inr (.inl a0)] h (jm_k dh_pr d 85 Q 4 [some (.inr (.inl a0)), l1, l2, l3] [] 1))) : jm_W dh_pr d 85 (0, [some (.inr (.inl a0)), l1, l2, l3], [], h) Q :=
  (b85_0 w.1 w.2)
theorem r85_4 {d : Nat} {Q : jm_Q} {h : jm_H} {l0 : Option jm_V} {l1 : Option jm_V} {l2 : Option jm_V} {l3 : Option jm_V} (w : (jm_W dh_pr d 85 (6, [l0, l1, l2, some (.inl (jz 0))], [], h) Q)) : jm_W dh_pr d 85 (4, [l0, l1, l2, l3], [], h) Q :=
  (b85_4 (show (0 : Int32) = jz 0 from rfl) w)
theorem r85_6 {d : Nat} {Q : jm_Q} {h : jm_H} {l0 : Option jm_V} {a1 : Nat} {v2 : Int} {v3 : Int} (w : (jR v3 ∧ jR v2 ∧ (v2 ≤ v3 → (Q (.inl none) h)) ∧ (v3 < v2 → (jm_T h a1 = 3 ∧ jm_E dh_pr d 83 [.inr (.inl a1), .inl (jz v3)] h (jm_k dh_pr d 85 Q 16 [l0, some (.inr (.inl a1)), some (.inl (jz v2)), some (.inl (jz v3))] [] 13))))) : jm_W dh_pr d 85 (6, [l0, some (.inr (.inl a1)), some (.inl (jz v2)), some (.inl (jz v3))], [], h) Q :=
  (b85_6 (fun p1 => (b85_35 (w.2.2.1 (jz_c3 w.1 w.2.1 p1)))) (fun p1 => (b85_11 (w.2.2.2 (jz_n3 w.1 w.2.1 p1)).1 (w.2.2.2 (jz_n3 w.1 w.2.1 p1)).2)))
theorem r85_16 {d : Nat} {Q : jm_Q} {h : jm_H} {a0 : Nat} {a1 : Nat} {l2 : Option jm_V} {v3 : Int} {s0 : Int} (w : (jR s0 ∧ (s0 = 0 → (Q (.inl none) h)) ∧ (¬ s0 = 0 → (jm_T h a1 = 3 ∧ ∃ f3 : Nat, jm_F h a1 0 = f3 ∧ jm_T h f3 = 100 ∧ ∃ n4 : Nat, jm_N h f3 = n4 ∧ jzi v3 n4 ∧ ∃ z5 : Int, jm_I h f3 v3.toNat = jz z5 ∧ jm_T h a0 = 3 ∧ jm_E dh_pr d 81 [.inr (.inl a0), .inl (jz z5)] h (jm_k dh_pr d 85 Q 29 [some (.inr (.inl a0)), some (.inr (.inl a1)), l2, some (.inl (jz v3))] [] 26))))) : jm_W dh_pr d 85 (16, [some (.inr (.inl a0)), some (.inr (.inl a1)), l2, some (.inl (jz v3))], [.inl (jz s0)], h) Q :=
  (b85_16 (show (0 : Int32) = jz 0 from rfl) (fun p2 => (b85_35 (w.2.1 (jz_c0 w.1 ⟨by decide, by decide⟩ p2)))) (fun p2 => ((w.2.2 (jz_n0 w.1 ⟨by decide, by decide⟩ p2)).2.elim fun f3 w3 => (w3.2.2.elim fun n4 w4 => (w4.2.2.elim fun z5 w5 => (b85_19 (w.2.2 (jz_n0 w.1 ⟨by decide, by decide⟩ p2)).1 w3.1 w3.2.1 w4.1 (jz_in w4.2.1) (jz_ix w4.2.1.r) w5.1 w5.2.1 w5.2.2))))))
theorem r85_29 {d : Nat} {Q : jm_Q} {h : jm_H} {l0 : Option jm_V} {l1 : Option jm_V} {l2 : Option jm_V} {v3 : Int} (w : (jm_W dh_pr d 85 (6, [l0, l1, l2, some (.inl (jz (v3 + 1)))], [], h) Q)) : jm_W dh_pr d 85 (29, [l0, l1, l2, some (.inl (jz v3))], [], h) Q :=
  (b85_29 (show (1 : Int32) = jz 1 from rfl) (jz_add _ _) w)
/-! 86 DeltaHistory$Bytes.isSameAs(LDeltaHistory$Bytes;)Z -/
theorem b86_0 {d : Nat} {Q : jm_Q} {h : jm_H} {a0 : Nat} {a1 : Nat} {l2 : Option jm_V} {y2 : Int32} {y4 : Int32} (c1 : jm_T h a0 = 3) (q2 : jm_I h a0 1 = y2) (c3 : jm_T h a1 = 3) (q4 : jm_I h a1 1 = y4) (k1 : y2 = y4 → jm_W dh_pr d 86 (13, [some (.inr (.inl a0)), some (.inr (.inl a1)), l2], [], h) Q) (k2 : ¬ (y2 = y4) → jm_W dh_pr d 86 (11, [some (.inr (.inl a0)), some (.inr (.inl a1)), l2], [], h) Q) : jm_W dh_pr d 86 (0, [some (.inr (.inl a0)), some (.inr (.inl a1)), l2], [], h) Q := by
  subst q2 q4
  exact jm_blk 5 (And.intro c1 (And.intro c3 (And.intro k1 k2)))
theorem b86_11 {d : Nat} {Q : jm_Q} {h : jm_H} {l0 : Option jm_V} {l1 : Option jm_V} {l2 : Option jm_V} {y1 : Int32} (q1 : (0 : Int32) = y1) (c2 : y1 = 0 ∨ y1 = 1) (k : Q (.inl (some (.inl y1))) h) : jm_W dh_pr d 86 (11, [l0, l1, l2], [], h) Q := by
  subst q1
  exact jm_blk 2 (And.intro c2 (k))
theorem b86_13 {d : Nat} {Q : jm_Q} {h : jm_H} {l0 : Option jm_V} {l1 : Option jm_V} {l2 : Option jm_V} {y1 : Int32} (q1 : (0 : Int32) = y1) (k : jm_W dh_pr d 86 (15, [l0, l1, some (.inl y1)], [], h) Q) : jm_W dh_pr d 86 (13, [l0, l1, l2], [], h) Q := by
  subst q1
  exact jm_blk 2 (k)
theorem b86_15 {d : Nat} {Q : jm_Q} {h : jm_H} {a0 : Nat} {l1 : Option jm_V} {v2 : Int32} {y2 : Int32} (c1 : jm_T h a0 = 3) (q2 : jm_I h a0 1 = y2) (k1 : y2 ≤ v2 → jm_W dh_pr d 86 (44, [some (.inr (.inl a0)), l1, some (.inl v2)], [], h) Q) (k2 : ¬ (y2 ≤ v2) → jm_W dh_pr d 86 (23, [some (.inr (.inl a0)), l1, some (.inl v2)], [], h) Q) : jm_W dh_pr d 86 (15, [some (.inr (.inl a0)), l1, some (.inl v2)], [], h) Q := by
  subst q2
  exact jm_blk 4 (And.intro c1 (And.intro k1 k2))
theorem b86_23 {d : Nat} {Q : jm_Q} {h : jm_H} {a0 : Nat} {l1 : Option jm_V} {v2 : Int32} (c1 : jm_T h a0 = 3) (k : jm_E dh_pr d 84 [.inr (.inl a0), .inl v2] h (jm_k dh_pr d 86 Q 28 [some (.inr (.inl a0)), l1, some (.inl v2)] [] 25)) : jm_W dh_pr d 86 (23, [some (.inr (.inl a0)), l1, some (.inl v2)], [], h) Q := jm_blk 3 (jm_callO rfl rfl rfl rfl rfl c1 k)
theorem b86_28 {d : Nat} {Q : jm_Q} {h : jm_H} {l0 : Option jm_V} {a1 : Nat} {v2 : Int32} {s0 : Int32} (c1 : jm_T h a1 = 3) (k : jm_E dh_pr d 84 [.inr (.inl a1), .inl v2] h (jm_k dh_pr d 86 Q 33 [l0, some (.inr (.inl a1)), some (.inl v2)] [.inl s0] 30)) : jm_W dh_pr d 86 (28, [l0, some (.inr (.inl a1)), some (.inl v2)], [.inl s0], h) Q := jm_blk 3 (jm_callO rfl rfl rfl rfl rfl c1 k)
theorem b86_33 {d : Nat} {Q : jm_Q} {h : jm_H} {l0 : Option jm_V} {l1 : Option jm_V} {l2 : Option jm_V} {s0 : Int32} {s1 : Int32} (k1 : s0 = s1 → jm_W dh_pr d 86 (38, [l0, l1, l2], [], h) Q) (k2 : ¬ (s0 = s1) → jm_W dh_pr d 86 (36, [l0, l1, l2], [], h) Q) : jm_W dh_pr d 86 (33, [l0, l1, l2], [.inl s1, .inl s0], h) Q := jm_blk 1 (And.intro k1 k2)
theorem b86_36 {d : Nat} {Q : jm_Q} {h : jm_H} {l0 : Option jm_V} {l1 : Option jm_V} {l2 : Option jm_V} {y1 : Int32} (q1 : (0 : Int32) = y1) (c2 : y1 = 0 ∨ y1 = 1) (k : Q (.inl (some (.inl y1))) h) : jm_W dh_pr d 86 (36, [l0, l1, l2], [], h) Q := by
  subst q1
  exact jm_blk 2 (And.intro c2 (k))
theorem b86_38 {d : Nat} {Q : jm_Q} {h : jm_H} {l0 : Option jm_V} {l1 : Option jm_V} {v2 : Int32} {y1 : Int32} {y2 : Int32} (q1 : (1 : Int32) = y1) (q2 : v2 + y1 = y2) (k : jm_W dh_pr d 86 (15, [l0, l1, some (.inl y2)], [], h) Q) : jm_W dh_pr d 86 (38, [l0, l1, some (.inl v2)], [], h) Q := by
  subst q1 q2
  exact jm_blk 2 (k)
theorem b86_44 {d : Nat} {Q : jm_Q} {h : jm_H} {l0 : Option jm_V} {l1 : Option jm_V} {l2 : Option jm_V} {y1 : Int32} (q1 : (1 : Int32) = y1) (c2 : y1 = 0 ∨ y1 = 1) (k : Q (.inl (some (.inl y1))) h) : jm_W dh_pr d 86 (44, [l0, l1, l2], [], h) Q := by
  subst q1
  exact jm_blk 2 (And.intro c2 (k))
theorem e86 {d : Nat} {Q : jm_Q} {h : jm_H} {a0 : Nat} {a1 : Nat} (w : jm_W dh_pr d 86 (0, [some (.inr (.inl a0)), some (.inr (.inl a1)), none], [], h) Q) : jm_E dh_pr (d + 1) 86 [.inr (.inl a0), .inr (.inl a1)] h Q := jm_E_in (Nat.le_of_ble_eq_true rfl) w
theorem r86_0 {d : Nat} {Q : jm_Q} {h : jm_H} {a0 : Nat} {a1 : Nat} {l2 : Option jm_V} (w : (jm_T h a0 = 3 ∧ ∃ z1 : Int, jm_I h a0 1 = jz z1 ∧ jm_T h a1 = 3 ∧ ∃ z2 : Int, jm_I h a1 1 = jz z2 ∧ jR z1 ∧ jR z2 ∧ (z1 = z2 → (jm_W dh_pr d 86 (15, [some (.inr (.inl a0)), some (.inr (.inl a1)), some (.inl (jz 0))], [], h) Q)) ∧ (¬ z1 = z2 → (Q (.inl (some (.inl (jz 0)))) h)))) : jm_W dh_pr d 86 (0, [some (.inr (.inl a0)), some (.inr (.inl a1)), l2], [], h) Q :=
  (w.2.elim fun z1 w1 => (w1.2.2.elim fun z2 w2 => (b86_0 w.1 w1.1 w1.2.1 w2.1 (fun p3 => (b86_13 (show (0 : Int32) = jz 0 from rfl) (w2.2.2.2.1 (jz_c0 w2.2.1 w2.2.2.1 p3)))) (fun p3 => (b86_11 (show (0 : Int32) = jz 0 from rfl) (Or.inl rfl) (w2.2.2.2.2 (jz_n0 w2.2.1 w2.2.2.1 p3)))))))
theorem r86_15 {d : Nat} {Q : jm_Q} {h : jm_H} {a0 : Nat} {l1 : Option jm_V} {v2 : Int} (w : (jm_T h a0 = 3 ∧ ∃ z4 : Int, jm_I h a0 1 = jz z4 ∧ jR v2 ∧ jR z4 ∧ (z4 ≤ v2 → (Q (.inl (some (.inl (jz 1)))) h)) ∧ (v2 < z4 → (jm_E dh_pr d 84 [.inr (.inl a0), .inl (jz v2)] h (jm_k dh_pr d 86 Q 28 [some (.inr (.inl a0)), l1, some (.inl (jz v2))] [] 25))))) : jm_W dh_pr d 86 (15, [some (.inr (.inl a0)), l1, some (.inl (jz v2))], [], h) Q :=
  (w.2.elim fun z4 w4 => (b86_15 w.1 w4.1 (fun p5 => (b86_44 (show (1 : Int32) = jz 1 from rfl) (Or.inr rfl) (w4.2.2.2.1 (jz_c3 w4.2.1 w4.2.2.1 p5)))) (fun p5 => (b86_23 w.1 (w4.2.2.2.2 (jz_n3 w4.2.1 w4.2.2.1 p5))))))
theorem r86_28 {d : Nat} {Q : jm_Q} {h : jm_H} {l0 : Option jm_V} {a1 : Nat} {v2 : Int} {s0 : Int} (w : (jm_T h a1 = 3 ∧ jm_E dh_pr d 84 [.inr (.inl a1), .inl (jz v2)] h (jm_k dh_pr d 86 Q 33 [l0, some (.inr (.inl a1)), some (.inl (jz v2))] [.inl (jz s0)] 30))) : jm_W dh_pr d 86 (28, [l0, some (.inr (.inl a1)), some (.inl (jz v2))], [.inl (jz s0)], h) Q :=
  (b86_28 w.1 w.2)
theorem r86_33 {d : Nat} {Q : jm_Q} {h : jm_H} {l0 : Option jm_V} {l1 : Option jm_V} {v2 : Int} {s0 : Int} {s1 : Int} (w : (jR s0 ∧ jR s1 ∧ (s0 = s1 → (jm_W dh_pr d 86 (15, [l0, l1, some (.inl (jz (v2 + 1)))], [], h) Q)) ∧ (¬ s0 = s1 → (Q (.inl (some (.inl (jz 0)))) h)))) : jm_W dh_pr d 86 (33, [l0, l1, some (.inl (jz v2))], [.inl (jz s1), .inl (jz s0)], h) Q :=
  (b86_33 (fun p6 => (b86_38 (show (1 : Int32) = jz 1 from rfl) (jz_add _ _) (w.2.2.1 (jz_c0 w.1 w.2.1 p6)))) (fun p6 => (b86_36 (show (0 : Int32) = jz 0 from rfl) (Or.inl rfl) (w.2.2.2 (jz_n0 w.1 w.2.1 p6)))))
/-! 87 DeltaHistory$Bytes.take()I -/
theorem b87_0 {d : Nat} {Q : jm_Q} {h : jm_H} {a0 : Nat} {l1 : Option jm_V} {y2 : Int32} (c1 : jm_T h a0 = 3) (q2 : jm_I h a0 2 = y2) (c3 : jm_T h a0 = 3) (k : jm_E dh_pr d 83 [.inr (.inl a0), .inl y2] h (jm_k dh_pr d 87 Q 8 [some (.inr (.inl a0)), l1] [] 5)) : jm_W dh_pr d 87 (0, [some (.inr (.inl a0)), l1], [], h) Q := by
  subst q2
  exact jm_blk 4 (And.intro c1 (jm_callO rfl rfl rfl rfl rfl c3 k))
theorem b87_8 {d : Nat} {Q : jm_Q} {h : jm_H} {l0 : Option jm_V} {l1 : Option jm_V} {s0 : Int32} {y1 : Int32} (q1 : (0 : Int32) = y1) (k1 : ¬ s0 = y1 → jm_W dh_pr d 87 (13, [l0, l1], [], h) Q) (k2 : ¬ (¬ s0 = y1) → jm_W dh_pr d 87 (11, [l0, l1], [], h) Q) : jm_W dh_pr d 87 (8, [l0, l1], [.inl s0], h) Q := by
  subst q1
  exact jm_blk 1 (And.intro k1 k2)
theorem b87_11 {d : Nat} {Q : jm_Q} {h : jm_H} {l0 : Option jm_V} {l1 : Option jm_V} {y1 : Int32} (q1 : ((-1) : Int32) = y1) (k : Q (.inl (some (.inl y1))) h) : jm_W dh_pr d 87 (11, [l0, l1], [], h) Q := by
  subst q1
  exact jm_blk 2 (k)
theorem b87_13 {d : Nat} {Q : jm_Q} {h : jm_H} {a0 : Nat} {l1 : Option jm_V} {f2 : Nat} {y4 : Int32} {n6 : Nat} {x8 : Nat} {y9 : Int32} {y11 : Int32} {y12 : Int32} {y13 : Int32} (c1 : jm_T h a0 = 3) (q2 : jm_F h a0 0 = f2) (c3 : jm_T h a0 = 3) (q4 : jm_I h a0 2 = y4) (c5 : jm_T h f2 = 100) (q6 : jm_N h f2 = n6) (c7 : jm_in y4 n6) (q8 : jm_ix y4 = x8) (q9 : jm_I h f2 x8 = y9) (c10 : jm_T h a0 = 3) (q11 : jm_I h a0 2 = y11) (q12 : (1 : Int32) = y12) (q13 : y11 + y12 = y13) (c14 : jm_T h a0 = 3) (k : jm_W dh_pr d 87 (33, [some (.inr (.inl a0)), some (.inl y9)], [], jm_sI h a0 2 y13) Q) : jm_W dh_pr d 87 (13, [some (.inr (.inl a0)), l1], [], h) Q := by
  subst q2 q4 q6 q8 q9 q11 q12 q13
  exact jm_blk 12 (And.intro c1 (And.intro c3 (And.intro c5 (And.intro c7 (And.intro c10 (And.intro c14 (k)))))))
theorem b87_33 {d : Nat} {Q : jm_Q} {h : jm_H} {l0 : Option jm_V} {v1 : Int32} (k : Q (.inl (some (.inl v1))) h) : jm_W dh_pr d 87 (33, [l0, some (.inl v1)], [], h) Q := jm_blk 2 (k)
theorem e87 {d : Nat} {Q : jm_Q} {h : jm_H} {a0 : Nat} (w : jm_W dh_pr d 87 (0, [some (.inr (.inl a0)), none], [], h) Q) : jm_E dh_pr (d + 1) 87 [.inr (.inl a0)] h Q := jm_E_in (Nat.le_of_ble_eq_true rfl) w
theorem r87_0 {d : Nat} {Q : jm_Q} {h : jm_H} {a0 : Nat} {l1 : Option jm_V} (w : (jm_T h a0 = 3 ∧ ∃ z1 : Int, jm_I h a0 2 = jz z1 ∧ jm_E dh_pr d 83 [.inr (.inl a0), .inl (jz z1)] h (jm_k dh_pr d 87 Q 8 [some (.inr (.inl a0)), l1] [] 5))) : jm_W dh_pr d 87 (0, [some (.inr (.inl a0)), l1], [], h) Q :=
  (w.2.elim fun z1 w1 => (b87_0 w.1 w1.1 w.1 w1.2))
theorem r87_8 {d : Nat} {Q : jm_Q} {h : jm_H} {a0 : Nat} {l1 : Option jm_V} {s0 : Int} (w : (jR s0 ∧ (¬ s0 = 0 → (jm_T h a0 = 3 ∧ ∃ f3 : Nat, jm_F h a0 0 = f3 ∧ ∃ z4 : Int, jm_I h a0 2 = jz z4 ∧ jm_T h f3 = 100 ∧ ∃ n5 : Nat, jm_N h f3 = n5 ∧ jzi z4 n5 ∧ ∃ z6 : Int, jm_I h f3 z4.toNat = jz z6 ∧ (Q (.inl (some (.inl (jz z6)))) (jm_sI h a0 2 (jz (z4 + 1)))))) ∧ (s0 = 0 → (Q (.inl (some (.inl (jz (-1))))) h)))) : jm_W dh_pr d 87 (8, [some (.inr (.inl a0)), l1], [.inl (jz s0)], h) Q :=
  (b87_8 (show (0 : Int32) = jz 0 from rfl) (fun p2 => ((w.2.1 (jz_c1 w.1 ⟨by decide, by decide⟩ p2)).2.elim fun f3 w3 => (w3.2.elim fun z4 w4 => (w4.2.2.elim fun n5 w5 => (w5.2.2.elim fun z6 w6 => (b87_13 (w.2.1 (jz_c1 w.1 ⟨by decide, by decide⟩ p2)).1 w3.1 (w.2.1 (jz_c1 w.1 ⟨by decide, by decide⟩ p2)).1 w4.1 w4.2.1 w5.1 (jz_in w5.2.1) (jz_ix w5.2.1.r) w6.1 (w.2.1 (jz_c1 w.1 ⟨by decide, by decide⟩ p2)).1 w4.1 (show (1 : Int32) = jz 1 from rfl) (jz_add _ _) (w.2.1 (jz_c1 w.1 ⟨by decide, by decide⟩ p2)).1 (b87_33 w6.2))))))) (fun p2 => (b87_11 (show ((-1) : Int32) = jz (-1) from rfl) (w.2.2 (jz_n1 w.1 ⟨by decide, by decide⟩ p2)))))
