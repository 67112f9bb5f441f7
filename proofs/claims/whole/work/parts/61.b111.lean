/-! 111 DeltaHistory$Revision.<init>()V -/
theorem b111_0 {d : Nat} {Q : jm_Q} {h : jm_H} {a0 : Nat} (c1 : ¬ jm_T h a0 = 0) (c2 : h.1 + 1 ≤ 601026) (c3 : h.2.1 + 2 ≤ 7293034) (k : jm_W dh_pr d 111 (8, [some (.inr (.inl a0))], [.inr (.inl h.1), .inr (.inl a0)], jm_new h 8 0 2) Q) : jm_W dh_pr d 111 (0, [some (.inr (.inl a0))], [], h) Q := jm_blk 4 (And.intro c1 (And.intro ⟨Nat.le_of_ble_eq_true rfl, Nat.le_of_ble_eq_true rfl⟩ (And.intro c2 (And.intro c3 (k)))))
theorem b111_8 {d : Nat} {Q : jm_Q} {h : jm_H} {l0 : Option jm_V} {r0 : Nat} {r1 : Nat} (c1 : jm_T h r1 = 8) (k : jm_E dh_pr d 118 [.inr (.inl r1)] h (jm_k dh_pr d 111 Q 12 [l0] [.inr (.inl r1), .inr (.inl r0)] 9)) : jm_W dh_pr d 111 (8, [l0], [.inr (.inl r1), .inr (.inl r0)], h) Q := jm_blk 2 (jm_callO rfl rfl rfl rfl rfl c1 k)
theorem b111_12 {d : Nat} {Q : jm_Q} {h : jm_H} {l0 : Option jm_V} {r0 : Nat} {r1 : Nat} (c1 : jm_T h r0 = 7) (k : jm_W dh_pr d 111 (15, [l0], [], jm_sF h r0 0 r1) Q) : jm_W dh_pr d 111 (12, [l0], [.inr (.inl r1), .inr (.inl r0)], h) Q := jm_blk 1 (And.intro c1 (k))
theorem b111_15 {d : Nat} {Q : jm_Q} {h : jm_H} {l0 : Option jm_V} (k : Q (.inl none) h) : jm_W dh_pr d 111 (15, [l0], [], h) Q := jm_blk 1 (k)
theorem e111 {d : Nat} {Q : jm_Q} {h : jm_H} {a0 : Nat} (w : jm_W dh_pr d 111 (0, [some (.inr (.inl a0))], [], h) Q) : jm_E dh_pr (d + 1) 111 [.inr (.inl a0)] h Q := jm_E_in (Nat.le_of_ble_eq_true rfl) w
theorem r111_0 {d : Nat} {Q : jm_Q} {h : jm_H} {a0 : Nat} (w : (¬ jm_T h a0 = 0 ∧ h.1 + 1 ≤ 601026 ∧ h.2.1 + 2 ≤ 7293034 ∧ (jm_T (jm_new h 8 0 2) h.1 = 8 ∧ jm_E dh_pr d 118 [.inr (.inl h.1)] (jm_new h 8 0 2) (jm_k dh_pr d 111 Q 12 [some (.inr (.inl a0))] [.inr (.inl h.1), .inr (.inl a0)] 9)))) : jm_W dh_pr d 111 (0, [some (.inr (.inl a0))], [], h) Q :=
  (b111_0 w.1 w.2.1 w.2.2.1 (b111_8 w.2.2.2.1 w.2.2.2.2))
theorem r111_12 {d : Nat} {Q : jm_Q} {h : jm_H} {l0 : Option jm_V} {r0 : Nat} {r1 : Nat} (w : (jm_T h r0 = 7 ∧ (Q (.inl none) (jm_sF h r0 0 r1)))) : jm_W dh_pr d 111 (12, [l0], [.inr (.inl r1), .inr (.inl r0)], h) Q :=
  (b111_12 w.1 (b111_15 w.2))
/-! 112 DeltaHistory$Revision.become(LDeltaHistory$Revision;)V -/
theorem b112_0 {d : Nat} {Q : jm_Q} {h : jm_H} {a0 : Nat} {a1 : Nat} {f2 : Nat} {f4 : Nat} (c1 : jm_T h a0 = 7) (q2 : jm_F h a0 0 = f2) (c3 : jm_T h a1 = 7) (q4 : jm_F h a1 0 = f4) (c5 : jm_T h f2 = 8) (k : jm_E dh_pr d 120 [.inr (.inl f2), .inr (.inl f4)] h (jm_k dh_pr d 112 Q 11 [some (.inr (.inl a0)), some (.inr (.inl a1))] [] 8)) : jm_W dh_pr d 112 (0, [some (.inr (.inl a0)), some (.inr (.inl a1))], [], h) Q := by
  subst q2 q4
  exact jm_blk 5 (And.intro c1 (And.intro c3 (jm_callO rfl rfl rfl rfl rfl c5 k)))
theorem b112_11 {d : Nat} {Q : jm_Q} {h : jm_H} {a0 : Nat} {a1 : Nat} {y2 : Int32} (c1 : jm_T h a1 = 7) (q2 : jm_I h a1 1 = y2) (c3 : jm_T h a0 = 7) (k : jm_W dh_pr d 112 (19, [some (.inr (.inl a0)), some (.inr (.inl a1))], [], jm_sI h a0 1 y2) Q) : jm_W dh_pr d 112 (11, [some (.inr (.inl a0)), some (.inr (.inl a1))], [], h) Q := by
  subst q2
  exact jm_blk 4 (And.intro c1 (And.intro c3 (k)))
theorem b112_19 {d : Nat} {Q : jm_Q} {h : jm_H} {a0 : Nat} {a1 : Nat} {y2 : Int32} (c1 : jm_T h a1 = 7) (q2 : jm_I h a1 2 = y2) (c3 : jm_T h a0 = 7) (k : jm_W dh_pr d 112 (27, [some (.inr (.inl a0)), some (.inr (.inl a1))], [], jm_sI h a0 2 y2) Q) : jm_W dh_pr d 112 (19, [some (.inr (.inl a0)), some (.inr (.inl a1))], [], h) Q := by
  subst q2
  exact jm_blk 4 (And.intro c1 (And.intro c3 (k)))
theorem b112_27 {d : Nat} {Q : jm_Q} {h : jm_H} {a0 : Nat} {a1 : Nat} {y2 : Int32} (c1 : jm_T h a1 = 7) (q2 : jm_I h a1 3 = y2) (c3 : jm_T h a0 = 7) (k : jm_W dh_pr d 112 (35, [some (.inr (.inl a0)), some (.inr (.inl a1))], [], jm_sI h a0 3 y2) Q) : jm_W dh_pr d 112 (27, [some (.inr (.inl a0)), some (.inr (.inl a1))], [], h) Q := by
  subst q2
  exact jm_blk 4 (And.intro c1 (And.intro c3 (k)))
theorem b112_35 {d : Nat} {Q : jm_Q} {h : jm_H} {a0 : Nat} {a1 : Nat} {y2 : Int32} (c1 : jm_T h a1 = 7) (q2 : jm_I h a1 4 = y2) (c3 : jm_T h a0 = 7) (k : jm_W dh_pr d 112 (43, [some (.inr (.inl a0)), some (.inr (.inl a1))], [], jm_sI h a0 4 y2) Q) : jm_W dh_pr d 112 (35, [some (.inr (.inl a0)), some (.inr (.inl a1))], [], h) Q := by
  subst q2
  exact jm_blk 4 (And.intro c1 (And.intro c3 (k)))
theorem b112_43 {d : Nat} {Q : jm_Q} {h : jm_H} {a0 : Nat} {a1 : Nat} {y2 : Int32} (c1 : jm_T h a1 = 7) (q2 : jm_I h a1 5 = y2) (c3 : jm_T h a0 = 7) (k : jm_W dh_pr d 112 (51, [some (.inr (.inl a0)), some (.inr (.inl a1))], [], jm_sI h a0 5 y2) Q) : jm_W dh_pr d 112 (43, [some (.inr (.inl a0)), some (.inr (.inl a1))], [], h) Q := by
  subst q2
  exact jm_blk 4 (And.intro c1 (And.intro c3 (k)))
theorem b112_51 {d : Nat} {Q : jm_Q} {h : jm_H} {a0 : Nat} {a1 : Nat} {y2 : Int32} (c1 : jm_T h a1 = 7) (q2 : jm_I h a1 6 = y2) (c3 : jm_T h a0 = 7) (k : jm_W dh_pr d 112 (59, [some (.inr (.inl a0)), some (.inr (.inl a1))], [], jm_sI h a0 6 y2) Q) : jm_W dh_pr d 112 (51, [some (.inr (.inl a0)), some (.inr (.inl a1))], [], h) Q := by
  subst q2
  exact jm_blk 4 (And.intro c1 (And.intro c3 (k)))
theorem b112_59 {d : Nat} {Q : jm_Q} {h : jm_H} {a0 : Nat} {a1 : Nat} {y2 : Int32} (c1 : jm_T h a1 = 7) (q2 : jm_I h a1 7 = y2) (c3 : jm_T h a0 = 7) (k : jm_W dh_pr d 112 (67, [some (.inr (.inl a0)), some (.inr (.inl a1))], [], jm_sI h a0 7 y2) Q) : jm_W dh_pr d 112 (59, [some (.inr (.inl a0)), some (.inr (.inl a1))], [], h) Q := by
  subst q2
  exact jm_blk 4 (And.intro c1 (And.intro c3 (k)))
theorem b112_67 {d : Nat} {Q : jm_Q} {h : jm_H} {a0 : Nat} {a1 : Nat} {y2 : Int32} (c1 : jm_T h a1 = 7) (q2 : jm_I h a1 8 = y2) (c3 : jm_T h a0 = 7) (k : jm_W dh_pr d 112 (75, [some (.inr (.inl a0)), some (.inr (.inl a1))], [], jm_sI h a0 8 y2) Q) : jm_W dh_pr d 112 (67, [some (.inr (.inl a0)), some (.inr (.inl a1))], [], h) Q := by
  subst q2
  exact jm_blk 4 (And.intro c1 (And.intro c3 (k)))
theorem b112_75 {d : Nat} {Q : jm_Q} {h : jm_H} {a0 : Nat} {a1 : Nat} {y2 : Int32} (c1 : jm_T h a1 = 7) (q2 : jm_I h a1 9 = y2) (c3 : jm_T h a0 = 7) (k : jm_W dh_pr d 112 (83, [some (.inr (.inl a0)), some (.inr (.inl a1))], [], jm_sI h a0 9 y2) Q) : jm_W dh_pr d 112 (75, [some (.inr (.inl a0)), some (.inr (.inl a1))], [], h) Q := by
  subst q2
  exact jm_blk 4 (And.intro c1 (And.intro c3 (k)))
theorem b112_83 {d : Nat} {Q : jm_Q} {h : jm_H} {l0 : Option jm_V} {l1 : Option jm_V} (k : Q (.inl none) h) : jm_W dh_pr d 112 (83, [l0, l1], [], h) Q := jm_blk 1 (k)
theorem e112 {d : Nat} {Q : jm_Q} {h : jm_H} {a0 : Nat} {a1 : Nat} (w : jm_W dh_pr d 112 (0, [some (.inr (.inl a0)), some (.inr (.inl a1))], [], h) Q) : jm_E dh_pr (d + 1) 112 [.inr (.inl a0), .inr (.inl a1)] h Q := jm_E_in (Nat.le_of_ble_eq_true rfl) w
theorem r112_0 {d : Nat} {Q : jm_Q} {h : jm_H} {a0 : Nat} {a1 : Nat} (w : (jm_T h a0 = 7 ∧ ∃ f1 : Nat, jm_F h a0 0 = f1 ∧ jm_T h a1 = 7 ∧ ∃ f2 : Nat, jm_F h a1 0 = f2 ∧ jm_T h f1 = 8 ∧ jm_E dh_pr d 120 [.inr (.inl f1), .inr (.inl f2)] h (jm_k dh_pr d 112 Q 11 [some (.inr (.inl a0)), some (.inr (.inl a1))] [] 8))) : jm_W dh_pr d 112 (0, [some (.inr (.inl a0)), some (.inr (.inl a1))], [], h) Q :=
  (w.2.elim fun f1 w1 => (w1.2.2.elim fun f2 w2 => (b112_0 w.1 w1.1 w1.2.1 w2.1 w2.2.1 w2.2.2)))
theorem r112_11 {d : Nat} {Q : jm_Q} {h : jm_H} {a0 : Nat} {a1 : Nat} (w : (jm_T h a1 = 7 ∧ ∃ z3 : Int, jm_I h a1 1 = jz z3 ∧ jm_T h a0 = 7 ∧ (∃ z4 : Int, jm_I (jm_sI h a0 1 (jz z3)) a1 2 = jz z4 ∧ (∃ z5 : Int, jm_I (jm_sI (jm_sI h a0 1 (jz z3)) a0 2 (jz z4)) a1 3 = jz z5 ∧ (∃ z6 : Int, jm_I (jm_sI (jm_sI (jm_sI h a0 1 (jz z3)) a0 2 (jz z4)) a0 3 (jz z5)) a1 4 = jz z6 ∧ (∃ z7 : Int, jm_I (jm_sI (jm_sI (jm_sI (jm_sI h a0 1 (jz z3)) a0 2 (jz z4)) a0 3 (jz z5)) a0 4 (jz z6)) a1 5 = jz z7 ∧ (∃ z8 : Int, jm_I (jm_sI (jm_sI (jm_sI (jm_sI (jm_sI h a0 1 (jz z3)) a0 2 (jz z4)) a0 3 (jz z5)) a0 4 (jz z6)) a0 5 (jz z7)) a1 6 = jz z8 ∧ (∃ z9 : Int, jm_I (jm_sI (jm_sI (jm_sI (jm_sI (jm_sI (jm_sI h a0 1 (jz z3)) a0 2 (jz z4)) a0 3 (jz z5)) a0 4 (jz z6)) a0 5 (jz z7)) a0 6 (jz z8)) a1 7 = jz z9 ∧ (∃ z10 : Int, jm_I (jm_sI (jm_sI (jm_sI (jm_sI (jm_sI (jm_sI (jm_sI h a0 1 (jz z3)) a0 2 (jz z4)) a0 3 (jz z5)) a0 4 (jz z6)) a0 5 (jz z7)) a0 6 (jz z8)) a0 7 (jz z9)) a1 8 = jz z10 ∧ (∃ z11 : Int, jm_I (jm_sI (jm_sI (jm_sI (jm_sI (jm_sI (jm_sI (jm_sI (jm_sI h a0 1 (jz z3)) a0 2 (jz z4)) a0 3 (jz z5)) a0 4 (jz z6)) a0 5 (jz z7)) a0 6 (jz z8)) a0 7 (jz z9)) a0 8 (jz z10)) a1 9 = jz z11 ∧ (Q (.inl none) (jm_sI (jm_sI (jm_sI (jm_sI (jm_sI (jm_sI (jm_sI (jm_sI (jm_sI h a0 1 (jz z3)) a0 2 (jz z4)) a0 3 (jz z5)) a0 4 (jz z6)) a0 5 (jz z7)) a0 6 (jz z8)) a0 7 (jz z9)) a0 8 (jz z10)) a0 9 (jz z11))))))))))))) : jm_W dh_pr d 112 (11, [some (.inr (.inl a0)), some (.inr (.inl a1))], [], h) Q :=
  (w.2.elim fun z3 w3 => (b112_11 w.1 w3.1 w3.2.1 (w3.2.2.elim fun z4 w4 => (b112_19 ((jr_T_sI _ _ _ _ _).trans w.1) w4.1 ((jr_T_sI _ _ _ _ _).trans w3.2.1) (w4.2.elim fun z5 w5 => (b112_27 ((jr_T_sI _ _ _ _ _).trans ((jr_T_sI _ _ _ _ _).trans w.1)) w5.1 ((jr_T_sI _ _ _ _ _).trans ((jr_T_sI _ _ _ _ _).trans w3.2.1)) (w5.2.elim fun z6 w6 => (b112_35 ((jr_T_sI _ _ _ _ _).trans ((jr_T_sI _ _ _ _ _).trans ((jr_T_sI _ _ _ _ _).trans w.1))) w6.1 ((jr_T_sI _ _ _ _ _).trans ((jr_T_sI _ _ _ _ _).trans ((jr_T_sI _ _ _ _ _).trans w3.2.1))) (w6.2.elim fun z7 w7 => (b112_43 ((jr_T_sI _ _ _ _ _).trans ((jr_T_sI _ _ _ _ _).trans ((jr_T_sI _ _ _ _ _).trans ((jr_T_sI _ _ _ _ _).trans w.1)))) w7.1 ((jr_T_sI _ _ _ _ _).trans ((jr_T_sI _ _ _ _ _).trans ((jr_T_sI _ _ _ _ _).trans ((jr_T_sI _ _ _ _ _).trans w3.2.1)))) (w7.2.elim fun z8 w8 => (b112_51 ((jr_T_sI _ _ _ _ _).trans ((jr_T_sI _ _ _ _ _).trans ((jr_T_sI _ _ _ _ _).trans ((jr_T_sI _ _ _ _ _).trans ((jr_T_sI _ _ _ _ _).trans w.1))))) w8.1 ((jr_T_sI _ _ _ _ _).trans ((jr_T_sI _ _ _ _ _).trans ((jr_T_sI _ _ _ _ _).trans ((jr_T_sI _ _ _ _ _).trans ((jr_T_sI _ _ _ _ _).trans w3.2.1))))) (w8.2.elim fun z9 w9 => (b112_59 ((jr_T_sI _ _ _ _ _).trans ((jr_T_sI _ _ _ _ _).trans ((jr_T_sI _ _ _ _ _).trans ((jr_T_sI _ _ _ _ _).trans ((jr_T_sI _ _ _ _ _).trans ((jr_T_sI _ _ _ _ _).trans w.1)))))) w9.1 ((jr_T_sI _ _ _ _ _).trans ((jr_T_sI _ _ _ _ _).trans ((jr_T_sI _ _ _ _ _).trans ((jr_T_sI _ _ _ _ _).trans ((jr_T_sI _ _ _ _ _).trans ((jr_T_sI _ _ _ _ _).trans w3.2.1)))))) (w9.2.elim fun z10 w10 => (b112_67 ((jr_T_sI _ _ _ _ _).trans ((jr_T_sI _ _ _ _ _).trans ((jr_T_sI _ _ _ _ _).trans ((jr_T_sI _ _ _ _ _).trans ((jr_T_sI _ _ _ _ _).trans ((jr_T_sI _ _ _ _ _).trans ((jr_T_sI _ _ _ _ _).trans w.1))))))) w10.1 ((jr_T_sI _ _ _ _ _).trans ((jr_T_sI _ _ _ _ _).trans ((jr_T_sI _ _ _ _ _).trans ((jr_T_sI _ _ _ _ _).trans ((jr_T_sI _ _ _ _ _).trans ((jr_T_sI _ _ _ _ _).trans ((jr_T_sI _ _ _ _ _).trans w3.2.1))))))) (w10.2.elim fun z11 w11 => (b112_75 ((jr_T_sI _ _ _ _ _).trans ((jr_T_sI _ _ _ _ _).trans ((jr_T_sI _ _ _ _ _).trans ((jr_T_sI _ _ _ _ _).trans ((jr_T_sI _ _ _ _ _).trans ((jr_T_sI _ _ _ _ _).trans ((jr_T_sI _ _ _ _ _).trans ((jr_T_sI _ _ _ _ _).trans w.1)))))))) w11.1 ((jr_T_sI _ _ _ _ _).trans ((jr_T_sI _ _ _ _ _).trans ((jr_T_sI _ _ _ _ _).trans ((jr_T_sI _ _ _ _ _).trans ((jr_T_sI _ _ _ _ _).trans ((jr_T_sI _ _ _ _ _).trans ((jr_T_sI _ _ _ _ _).trans ((jr_T_sI _ _ _ _ _).trans w3.2.1)))))))) (b112_83 w11.2)))))))))))))))))))
/-! 113 DeltaHistory$Revision.begin(II)V -/
theorem b113_0 {d : Nat} {Q : jm_Q} {h : jm_H} {a0 : Nat} {l1 : Option jm_V} {l2 : Option jm_V} {f2 : Nat} (c1 : jm_T h a0 = 7) (q2 : jm_F h a0 0 = f2) (c3 : jm_T h f2 = 8) (k : jm_E dh_pr d 119 [.inr (.inl f2)] h (jm_k dh_pr d 113 Q 7 [some (.inr (.inl a0)), l1, l2] [] 4)) : jm_W dh_pr d 113 (0, [some (.inr (.inl a0)), l1, l2], [], h) Q := by
  subst q2
  exact jm_blk 3 (And.intro c1 (jm_callO rfl rfl rfl rfl rfl c3 k))
theorem b113_7 {d : Nat} {Q : jm_Q} {h : jm_H} {a0 : Nat} {v1 : Int32} {l2 : Option jm_V} (c1 : jm_T h a0 = 7) (k : jm_W dh_pr d 113 (12, [some (.inr (.inl a0)), some (.inl v1), l2], [], jm_sI h a0 1 v1) Q) : jm_W dh_pr d 113 (7, [some (.inr (.inl a0)), some (.inl v1), l2], [], h) Q := jm_blk 3 (And.intro c1 (k))
theorem b113_12 {d : Nat} {Q : jm_Q} {h : jm_H} {a0 : Nat} {l1 : Option jm_V} {v2 : Int32} (c1 : jm_T h a0 = 7) (k : jm_W dh_pr d 113 (17, [some (.inr (.inl a0)), l1, some (.inl v2)], [], jm_sI h a0 2 v2) Q) : jm_W dh_pr d 113 (12, [some (.inr (.inl a0)), l1, some (.inl v2)], [], h) Q := jm_blk 3 (And.intro c1 (k))
theorem b113_17 {d : Nat} {Q : jm_Q} {h : jm_H} {a0 : Nat} {l1 : Option jm_V} {l2 : Option jm_V} {y1 : Int32} (q1 : ((-1) : Int32) = y1) (c2 : jm_T h a0 = 7) (k : jm_W dh_pr d 113 (22, [some (.inr (.inl a0)), l1, l2], [], jm_sI h a0 3 y1) Q) : jm_W dh_pr d 113 (17, [some (.inr (.inl a0)), l1, l2], [], h) Q := by
  subst q1
  exact jm_blk 3 (And.intro c2 (k))
theorem b113_22 {d : Nat} {Q : jm_Q} {h : jm_H} {a0 : Nat} {l1 : Option jm_V} {l2 : Option jm_V} {y1 : Int32} (q1 : ((-1) : Int32) = y1) (c2 : jm_T h a0 = 7) (k : jm_W dh_pr d 113 (27, [some (.inr (.inl a0)), l1, l2], [], jm_sI h a0 4 y1) Q) : jm_W dh_pr d 113 (22, [some (.inr (.inl a0)), l1, l2], [], h) Q := by
  subst q1
  exact jm_blk 3 (And.intro c2 (k))
theorem b113_27 {d : Nat} {Q : jm_Q} {h : jm_H} {a0 : Nat} {l1 : Option jm_V} {l2 : Option jm_V} {y1 : Int32} (q1 : (0 : Int32) = y1) (c2 : jm_T h a0 = 7) (k : jm_W dh_pr d 113 (32, [some (.inr (.inl a0)), l1, l2], [], jm_sI h a0 5 y1) Q) : jm_W dh_pr d 113 (27, [some (.inr (.inl a0)), l1, l2], [], h) Q := by
  subst q1
  exact jm_blk 3 (And.intro c2 (k))
theorem b113_32 {d : Nat} {Q : jm_Q} {h : jm_H} {a0 : Nat} {l1 : Option jm_V} {l2 : Option jm_V} {y1 : Int32} (q1 : ((-1) : Int32) = y1) (c2 : jm_T h a0 = 7) (k : jm_W dh_pr d 113 (37, [some (.inr (.inl a0)), l1, l2], [], jm_sI h a0 6 y1) Q) : jm_W dh_pr d 113 (32, [some (.inr (.inl a0)), l1, l2], [], h) Q := by
  subst q1
  exact jm_blk 3 (And.intro c2 (k))
theorem b113_37 {d : Nat} {Q : jm_Q} {h : jm_H} {a0 : Nat} {l1 : Option jm_V} {l2 : Option jm_V} {y1 : Int32} (q1 : (1 : Int32) = y1) (c2 : jm_T h a0 = 7) (k : jm_W dh_pr d 113 (42, [some (.inr (.inl a0)), l1, l2], [], jm_sI h a0 7 y1) Q) : jm_W dh_pr d 113 (37, [some (.inr (.inl a0)), l1, l2], [], h) Q := by
  subst q1
  exact jm_blk 3 (And.intro c2 (k))
theorem b113_42 {d : Nat} {Q : jm_Q} {h : jm_H} {a0 : Nat} {l1 : Option jm_V} {l2 : Option jm_V} {y1 : Int32} (q1 : (1 : Int32) = y1) (c2 : jm_T h a0 = 7) (k : jm_W dh_pr d 113 (47, [some (.inr (.inl a0)), l1, l2], [], jm_sI h a0 8 y1) Q) : jm_W dh_pr d 113 (42, [some (.inr (.inl a0)), l1, l2], [], h) Q := by
  subst q1
  exact jm_blk 3 (And.intro c2 (k))
theorem b113_47 {d : Nat} {Q : jm_Q} {h : jm_H} {a0 : Nat} {l1 : Option jm_V} {l2 : Option jm_V} {y1 : Int32} (q1 : (2 : Int32) = y1) (c2 : jm_T h a0 = 7) (k : jm_W dh_pr d 113 (52, [some (.inr (.inl a0)), l1, l2], [], jm_sI h a0 9 y1) Q) : jm_W dh_pr d 113 (47, [some (.inr (.inl a0)), l1, l2], [], h) Q := by
  subst q1
  exact jm_blk 3 (And.intro c2 (k))
theorem b113_52 {d : Nat} {Q : jm_Q} {h : jm_H} {l0 : Option jm_V} {l1 : Option jm_V} {l2 : Option jm_V} (k : Q (.inl none) h) : jm_W dh_pr d 113 (52, [l0, l1, l2], [], h) Q := jm_blk 1 (k)
theorem e113 {d : Nat} {Q : jm_Q} {h : jm_H} {a0 : Nat} {v1 : Int} {v2 : Int} (w : jm_W dh_pr d 113 (0, [some (.inr (.inl a0)), some (.inl (jz v1)), some (.inl (jz v2))], [], h) Q) : jm_E dh_pr (d + 1) 113 [.inr (.inl a0), .inl (jz v1), .inl (jz v2)] h Q := jm_E_in (Nat.le_of_ble_eq_true rfl) w
theorem r113_0 {d : Nat} {Q : jm_Q} {h : jm_H} {a0 : Nat} {l1 : Option jm_V} {l2 : Option jm_V} (w : (jm_T h a0 = 7 ∧ ∃ f1 : Nat, jm_F h a0 0 = f1 ∧ jm_T h f1 = 8 ∧ jm_E dh_pr d 119 [.inr (.inl f1)] h (jm_k dh_pr d 113 Q 7 [some (.inr (.inl a0)), l1, l2] [] 4))) : jm_W dh_pr d 113 (0, [some (.inr (.inl a0)), l1, l2], [], h) Q :=
  (w.2.elim fun f1 w1 => (b113_0 w.1 w1.1 w1.2.1 w1.2.2))
theorem r113_7 {d : Nat} {Q : jm_Q} {h : jm_H} {a0 : Nat} {v1 : Int} {v2 : Int} (w : (jm_T h a0 = 7 ∧ (((((((((Q (.inl none) (jm_sI (jm_sI (jm_sI (jm_sI (jm_sI (jm_sI (jm_sI (jm_sI (jm_sI h a0 1 (jz v1)) a0 2 (jz v2)) a0 3 (jz (-1))) a0 4 (jz (-1))) a0 5 (jz 0)) a0 6 (jz (-1))) a0 7 (jz 1)) a0 8 (jz 1)) a0 9 (jz 2))))))))))))) : jm_W dh_pr d 113 (7, [some (.inr (.inl a0)), some (.inl (jz v1)), some (.inl (jz v2))], [], h) Q :=
  (b113_7 w.1 (b113_12 ((jr_T_sI _ _ _ _ _).trans w.1) (b113_17 (show ((-1) : Int32) = jz (-1) from rfl) ((jr_T_sI _ _ _ _ _).trans ((jr_T_sI _ _ _ _ _).trans w.1)) (b113_22 (show ((-1) : Int32) = jz (-1) from rfl) ((jr_T_sI _ _ _ _ _).trans ((jr_T_sI _ _ _ _ _).trans ((jr_T_sI _ _ _ _ _).trans w.1))) (b113_27 (show (0 : Int32) = jz 0 from rfl) ((jr_T_sI _ _ _ _ _).trans ((jr_T_sI _ _ _ _ _).trans ((jr_T_sI _ _ _ _ _).trans ((jr_T_sI _ _ _ _ _).trans w.1)))) (b113_32 (show ((-1) : Int32) = jz (-1) from rfl) ((jr_T_sI _ _ _ _ _).trans ((jr_T_sI _ _ _ _ _).trans ((jr_T_sI _ _ _ _ _).trans ((jr_T_sI _ _ _ _ _).trans ((jr_T_sI _ _ _ _ _).trans w.1))))) (b113_37 (show (1 : Int32) = jz 1 from rfl) ((jr_T_sI _ _ _ _ _).trans ((jr_T_sI _ _ _ _ _).trans ((jr_T_sI _ _ _ _ _).trans ((jr_T_sI _ _ _ _ _).trans ((jr_T_sI _ _ _ _ _).trans ((jr_T_sI _ _ _ _ _).trans w.1)))))) (b113_42 (show (1 : Int32) = jz 1 from rfl) ((jr_T_sI _ _ _ _ _).trans ((jr_T_sI _ _ _ _ _).trans ((jr_T_sI _ _ _ _ _).trans ((jr_T_sI _ _ _ _ _).trans ((jr_T_sI _ _ _ _ _).trans ((jr_T_sI _ _ _ _ _).trans ((jr_T_sI _ _ _ _ _).trans w.1))))))) (b113_47 (show (2 : Int32) = jz 2 from rfl) ((jr_T_sI _ _ _ _ _).trans ((jr_T_sI _ _ _ _ _).trans ((jr_T_sI _ _ _ _ _).trans ((jr_T_sI _ _ _ _ _).trans ((jr_T_sI _ _ _ _ _).trans ((jr_T_sI _ _ _ _ _).trans ((jr_T_sI _ _ _ _ _).trans ((jr_T_sI _ _ _ _ _).trans w.1)))))))) (b113_52 w.2))))))))))
/-! 114 DeltaHistory$Revision.follow(LDeltaHistory$Revision;)V -/
theorem b114_0 {d : Nat} {Q : jm_Q} {h : jm_H} {a0 : Nat} {a1 : Nat} {y2 : Int32} (c1 : jm_T h a1 = 7) (q2 : jm_I h a1 6 = y2) (c3 : jm_T h a0 = 7) (k : jm_W dh_pr d 114 (8, [some (.inr (.inl a0)), some (.inr (.inl a1))], [], jm_sI h a0 6 y2) Q) : jm_W dh_pr d 114 (0, [some (.inr (.inl a0)), some (.inr (.inl a1))], [], h) Q := by
  subst q2
  exact jm_blk 4 (And.intro c1 (And.intro c3 (k)))
theorem b114_8 {d : Nat} {Q : jm_Q} {h : jm_H} {a0 : Nat} {a1 : Nat} {y2 : Int32} (c1 : jm_T h a1 = 7) (q2 : jm_I h a1 7 = y2) (c3 : jm_T h a0 = 7) (k : jm_W dh_pr d 114 (16, [some (.inr (.inl a0)), some (.inr (.inl a1))], [], jm_sI h a0 7 y2) Q) : jm_W dh_pr d 114 (8, [some (.inr (.inl a0)), some (.inr (.inl a1))], [], h) Q := by
  subst q2
  exact jm_blk 4 (And.intro c1 (And.intro c3 (k)))
theorem b114_16 {d : Nat} {Q : jm_Q} {h : jm_H} {a0 : Nat} {a1 : Nat} {y2 : Int32} {y3 : Int32} {y4 : Int32} (c1 : jm_T h a1 = 7) (q2 : jm_I h a1 8 = y2) (q3 : (1 : Int32) = y3) (q4 : y2 + y3 = y4) (c5 : jm_T h a0 = 7) (k : jm_W dh_pr d 114 (26, [some (.inr (.inl a0)), some (.inr (.inl a1))], [], jm_sI h a0 8 y4) Q) : jm_W dh_pr d 114 (16, [some (.inr (.inl a0)), some (.inr (.inl a1))], [], h) Q := by
  subst q2 q3 q4
  exact jm_blk 6 (And.intro c1 (And.intro c5 (k)))
theorem b114_26 {d : Nat} {Q : jm_Q} {h : jm_H} {a0 : Nat} {a1 : Nat} {y2 : Int32} (c1 : jm_T h a1 = 7) (q2 : jm_I h a1 9 = y2) (c3 : jm_T h a0 = 7) (k : jm_W dh_pr d 114 (34, [some (.inr (.inl a0)), some (.inr (.inl a1))], [], jm_sI h a0 9 y2) Q) : jm_W dh_pr d 114 (26, [some (.inr (.inl a0)), some (.inr (.inl a1))], [], h) Q := by
  subst q2
  exact jm_blk 4 (And.intro c1 (And.intro c3 (k)))
theorem b114_34 {d : Nat} {Q : jm_Q} {h : jm_H} {l0 : Option jm_V} {l1 : Option jm_V} (k : Q (.inl none) h) : jm_W dh_pr d 114 (34, [l0, l1], [], h) Q := jm_blk 1 (k)
theorem e114 {d : Nat} {Q : jm_Q} {h : jm_H} {a0 : Nat} {a1 : Nat} (w : jm_W dh_pr d 114 (0, [some (.inr (.inl a0)), some (.inr (.inl a1))], [], h) Q) : jm_E dh_pr (d + 1) 114 [.inr (.inl a0), .inr (.inl a1)] h Q := jm_E_in (Nat.le_of_ble_eq_true rfl) w
theorem r114_0 {d : Nat} {Q : jm_Q} {h : jm_H} {a0 : Nat} {a1 : Nat} (w : (jm_T h a1 = 7 ∧ ∃ z1 : Int, jm_I h a1 6 = jz z1 ∧ jm_T h a0 = 7 ∧ (∃ z2 : Int, jm_I (jm_sI h a0 6 (jz z1)) a1 7 = jz z2 ∧ (∃ z3 : Int, jm_I (jm_sI (jm_sI h a0 6 (jz z1)) a0 7 (jz z2)) a1 8 = jz z3 ∧ (∃ z4 : Int, jm_I (jm_sI (jm_sI (jm_sI h a0 6 (jz z1)) a0 7 (jz z2)) a0 8 (jz (z3 + 1))) a1 9 = jz z4 ∧ (Q (.inl none) (jm_sI (jm_sI (jm_sI (jm_sI h a0 6 (jz z1)) a0 7 (jz z2)) a0 8 (jz (z3 + 1))) a0 9 (jz z4)))))))) : jm_W dh_pr d 114 (0, [some (.inr (.inl a0)), some (.inr (.inl a1))], [], h) Q :=
  (w.2.elim fun z1 w1 => (b114_0 w.1 w1.1 w1.2.1 (w1.2.2.elim fun z2 w2 => (b114_8 ((jr_T_sI _ _ _ _ _).trans w.1) w2.1 ((jr_T_sI _ _ _ _ _).trans w1.2.1) (w2.2.elim fun z3 w3 => (b114_16 ((jr_T_sI _ _ _ _ _).trans ((jr_T_sI _ _ _ _ _).trans w.1)) w3.1 (show (1 : Int32) = jz 1 from rfl) (jz_add _ _) ((jr_T_sI _ _ _ _ _).trans ((jr_T_sI _ _ _ _ _).trans w1.2.1)) (w3.2.elim fun z4 w4 => (b114_26 ((jr_T_sI _ _ _ _ _).trans ((jr_T_sI _ _ _ _ _).trans ((jr_T_sI _ _ _ _ _).trans w.1))) w4.1 ((jr_T_sI _ _ _ _ _).trans ((jr_T_sI _ _ _ _ _).trans ((jr_T_sI _ _ _ _ _).trans w1.2.1))) (b114_34 w4.2)))))))))
/-! 115 DeltaHistory$Revision.branchOff(LDeltaHistory$Revision;)V -/
theorem b115_0 {d : Nat} {Q : jm_Q} {h : jm_H} {a0 : Nat} {l1 : Option jm_V} {y2 : Int32} (c1 : jm_T h a0 = 7) (q2 : jm_I h a0 1 = y2) (c3 : jm_T h a0 = 7) (k : jm_W dh_pr d 115 (8, [some (.inr (.inl a0)), l1], [], jm_sI h a0 6 y2) Q) : jm_W dh_pr d 115 (0, [some (.inr (.inl a0)), l1], [], h) Q := by
  subst q2
  exact jm_blk 4 (And.intro c1 (And.intro c3 (k)))
theorem b115_8 {d : Nat} {Q : jm_Q} {h : jm_H} {a0 : Nat} {a1 : Nat} {y2 : Int32} (c1 : jm_T h a1 = 7) (q2 : jm_I h a1 5 = y2) (c3 : jm_T h a0 = 7) (k : jm_W dh_pr d 115 (16, [some (.inr (.inl a0)), some (.inr (.inl a1))], [], jm_sI h a0 7 y2) Q) : jm_W dh_pr d 115 (8, [some (.inr (.inl a0)), some (.inr (.inl a1))], [], h) Q := by
  subst q2
  exact jm_blk 4 (And.intro c1 (And.intro c3 (k)))
theorem b115_16 {d : Nat} {Q : jm_Q} {h : jm_H} {a0 : Nat} {l1 : Option jm_V} {y1 : Int32} (q1 : (1 : Int32) = y1) (c2 : jm_T h a0 = 7) (k : jm_W dh_pr d 115 (21, [some (.inr (.inl a0)), l1], [], jm_sI h a0 8 y1) Q) : jm_W dh_pr d 115 (16, [some (.inr (.inl a0)), l1], [], h) Q := by
  subst q1
  exact jm_blk 3 (And.intro c2 (k))
theorem b115_21 {d : Nat} {Q : jm_Q} {h : jm_H} {a0 : Nat} {a1 : Nat} {y2 : Int32} {y3 : Int32} {y4 : Int32} (c1 : jm_T h a1 = 7) (q2 : jm_I h a1 9 = y2) (q3 : (2 : Int32) = y3) (q4 : y2 + y3 = y4) (c5 : jm_T h a0 = 7) (k : jm_W dh_pr d 115 (31, [some (.inr (.inl a0)), some (.inr (.inl a1))], [], jm_sI h a0 9 y4) Q) : jm_W dh_pr d 115 (21, [some (.inr (.inl a0)), some (.inr (.inl a1))], [], h) Q := by
  subst q2 q3 q4
  exact jm_blk 6 (And.intro c1 (And.intro c5 (k)))
theorem b115_31 {d : Nat} {Q : jm_Q} {h : jm_H} {l0 : Option jm_V} {l1 : Option jm_V} (k : Q (.inl none) h) : jm_W dh_pr d 115 (31, [l0, l1], [], h) Q := jm_blk 1 (k)
theorem e115 {d : Nat} {Q : jm_Q} {h : jm_H} {a0 : Nat} {a1 : Nat} (w : jm_W dh_pr d 115 (0, [some (.inr (.inl a0)), some (.inr (.inl a1))], [], h) Q) : jm_E dh_pr (d + 1) 115 [.inr (.inl a0), .inr (.inl a1)] h Q := jm_E_in (Nat.le_of_ble_eq_true rfl) w
theorem r115_0 {d : Nat} {Q : jm_Q} {h : jm_H} {a0 : Nat} {a1 : Nat} (w : (jm_T h a0 = 7 ∧ ∃ z1 : Int, jm_I h a0 1 = jz z1 ∧ (jm_T h a1 = 7 ∧ ∃ z2 : Int, jm_I (jm_sI h a0 6 (jz z1)) a1 5 = jz z2 ∧ ((∃ z3 : Int, jm_I (jm_sI (jm_sI (jm_sI h a0 6 (jz z1)) a0 7 (jz z2)) a0 8 (jz 1)) a1 9 = jz z3 ∧ (Q (.inl none) (jm_sI (jm_sI (jm_sI (jm_sI h a0 6 (jz z1)) a0 7 (jz z2)) a0 8 (jz 1)) a0 9 (jz (z3 + 2))))))))) : jm_W dh_pr d 115 (0, [some (.inr (.inl a0)), some (.inr (.inl a1))], [], h) Q :=
  (w.2.elim fun z1 w1 => (b115_0 w.1 w1.1 w.1 (w1.2.2.elim fun z2 w2 => (b115_8 ((jr_T_sI _ _ _ _ _).trans w1.2.1) w2.1 ((jr_T_sI _ _ _ _ _).trans w.1) (b115_16 (show (1 : Int32) = jz 1 from rfl) ((jr_T_sI _ _ _ _ _).trans ((jr_T_sI _ _ _ _ _).trans w.1)) (w2.2.elim fun z3 w3 => (b115_21 ((jr_T_sI _ _ _ _ _).trans ((jr_T_sI _ _ _ _ _).trans ((jr_T_sI _ _ _ _ _).trans w1.2.1))) w3.1 (show (2 : Int32) = jz 2 from rfl) (jz_add _ _) ((jr_T_sI _ _ _ _ _).trans ((jr_T_sI _ _ _ _ _).trans ((jr_T_sI _ _ _ _ _).trans w.1))) (b115_31 w3.2))))))))
/-! 116 DeltaHistory$Revision.isOnTrunk()Z -/
theorem b116_0 {d : Nat} {Q : jm_Q} {h : jm_H} {a0 : Nat} {y2 : Int32} {y3 : Int32} (c1 : jm_T h a0 = 7) (q2 : jm_I h a0 6 = y2) (q3 : ((-1) : Int32) = y3) (k1 : ¬ y2 = y3 → jm_W dh_pr d 116 (12, [some (.inr (.inl a0))], [], h) Q) (k2 : ¬ (¬ y2 = y3) → jm_W dh_pr d 116 (8, [some (.inr (.inl a0))], [], h) Q) : jm_W dh_pr d 116 (0, [some (.inr (.inl a0))], [], h) Q := by
  subst q2 q3
  exact jm_blk 4 (And.intro c1 (And.intro k1 k2))
theorem b116_8 {d : Nat} {Q : jm_Q} {h : jm_H} {l0 : Option jm_V} {y1 : Int32} (q1 : (1 : Int32) = y1) (k : jm_W dh_pr d 116 (13, [l0], [.inl y1], h) Q) : jm_W dh_pr d 116 (8, [l0], [], h) Q := by
  subst q1
  exact jm_blk 2 (k)
theorem b116_12 {d : Nat} {Q : jm_Q} {h : jm_H} {l0 : Option jm_V} {y1 : Int32} (q1 : (0 : Int32) = y1) (k : jm_W dh_pr d 116 (13, [l0], [.inl y1], h) Q) : jm_W dh_pr d 116 (12, [l0], [], h) Q := by
  subst q1
  exact jm_blk 1 (k)
theorem b116_13 {d : Nat} {Q : jm_Q} {h : jm_H} {l0 : Option jm_V} {s0 : Int32} (c1 : s0 = 0 ∨ s0 = 1) (k : Q (.inl (some (.inl s0))) h) : jm_W dh_pr d 116 (13, [l0], [.inl s0], h) Q := jm_blk 1 (And.intro c1 (k))
theorem e116 {d : Nat} {Q : jm_Q} {h : jm_H} {a0 : Nat} (w : jm_W dh_pr d 116 (0, [some (.inr (.inl a0))], [], h) Q) : jm_E dh_pr (d + 1) 116 [.inr (.inl a0)] h Q := jm_E_in (Nat.le_of_ble_eq_true rfl) w
theorem r116_0 {d : Nat} {Q : jm_Q} {h : jm_H} {a0 : Nat} (w : (jm_T h a0 = 7 ∧ ∃ z1 : Int, jm_I h a0 6 = jz z1 ∧ jR z1 ∧ (¬ z1 = (-1) → ((Q (.inl (some (.inl (jz 0)))) h))) ∧ (z1 = (-1) → ((Q (.inl (some (.inl (jz 1)))) h))))) : jm_W dh_pr d 116 (0, [some (.inr (.inl a0))], [], h) Q :=
  (w.2.elim fun z1 w1 => (b116_0 w.1 w1.1 (show ((-1) : Int32) = jz (-1) from rfl) (fun p2 => (b116_12 (show (0 : Int32) = jz 0 from rfl) (b116_13 (Or.inl rfl) (w1.2.2.1 (jz_c1 w1.2.1 ⟨by decide, by decide⟩ p2))))) (fun p2 => (b116_8 (show (1 : Int32) = jz 1 from rfl) (b116_13 (Or.inr rfl) (w1.2.2.2 (jz_n1 w1.2.1 ⟨by decide, by decide⟩ p2)))))))
/-! 117 DeltaHistory$Revision.source()I -/
theorem b117_0 {d : Nat} {Q : jm_Q} {h : jm_H} {a0 : Nat} (c1 : jm_T h a0 = 7) (k : jm_E dh_pr d 116 [.inr (.inl a0)] h (jm_k dh_pr d 117 Q 4 [some (.inr (.inl a0))] [] 1)) : jm_W dh_pr d 117 (0, [some (.inr (.inl a0))], [], h) Q := jm_blk 2 (jm_callO rfl rfl rfl rfl rfl c1 k)
theorem b117_4 {d : Nat} {Q : jm_Q} {h : jm_H} {l0 : Option jm_V} {s0 : Int32} {y1 : Int32} (q1 : (0 : Int32) = y1) (k1 : s0 = y1 → jm_W dh_pr d 117 (14, [l0], [], h) Q) (k2 : ¬ (s0 = y1) → jm_W dh_pr d 117 (7, [l0], [], h) Q) : jm_W dh_pr d 117 (4, [l0], [.inl s0], h) Q := by
  subst q1
  exact jm_blk 1 (And.intro k1 k2)
theorem b117_7 {d : Nat} {Q : jm_Q} {h : jm_H} {a0 : Nat} {y2 : Int32} (c1 : jm_T h a0 = 7) (q2 : jm_I h a0 4 = y2) (k : jm_W dh_pr d 117 (18, [some (.inr (.inl a0))], [.inl y2], h) Q) : jm_W dh_pr d 117 (7, [some (.inr (.inl a0))], [], h) Q := by
  subst q2
  exact jm_blk 3 (And.intro c1 (k))
theorem b117_14 {d : Nat} {Q : jm_Q} {h : jm_H} {a0 : Nat} {y2 : Int32} (c1 : jm_T h a0 = 7) (q2 : jm_I h a0 1 = y2) (k : jm_W dh_pr d 117 (18, [some (.inr (.inl a0))], [.inl y2], h) Q) : jm_W dh_pr d 117 (14, [some (.inr (.inl a0))], [], h) Q := by
  subst q2
  exact jm_blk 2 (And.intro c1 (k))
theorem b117_18 {d : Nat} {Q : jm_Q} {h : jm_H} {l0 : Option jm_V} {s0 : Int32} (k : Q (.inl (some (.inl s0))) h) : jm_W dh_pr d 117 (18, [l0], [.inl s0], h) Q := jm_blk 1 (k)
theorem e117 {d : Nat} {Q : jm_Q} {h : jm_H} {a0 : Nat} (w : jm_W dh_pr d 117 (0, [some (.inr (.inl a0))], [], h) Q) : jm_E dh_pr (d + 1) 117 [.inr (.inl a0)] h Q := jm_E_in (Nat.le_of_ble_eq_true rfl) w
theorem r117_0 {d : Nat} {Q : jm_Q} {h : jm_H} {a0 : Nat} (w : (jm_T h a0 = 7 ∧ jm_E dh_pr d 116 [.inr (.inl a0)] h (jm_k dh_pr d 117 Q 4 [some (.inr (.inl a0))] [] 1))) : jm_W dh_pr d 117 (0, [some (.inr (.inl a0))], [], h) Q :=
  (b117_0 w.1 w.2)
theorem r117_4 {d : Nat} {Q : jm_Q} {h : jm_H} {a0 : Nat} {s0 : Int} (w : (jR s0 ∧ (s0 = 0 → (jm_T h a0 = 7 ∧ ∃ z2 : Int, jm_I h a0 1 = jz z2 ∧ (Q (.inl (some (.inl (jz z2)))) h))) ∧ (¬ s0 = 0 → (jm_T h a0 = 7 ∧ ∃ z3 : Int, jm_I h a0 4 = jz z3 ∧ (Q (.inl (some (.inl (jz z3)))) h))))) : jm_W dh_pr d 117 (4, [some (.inr (.inl a0))], [.inl (jz s0)], h) Q :=
  (b117_4 (show (0 : Int32) = jz 0 from rfl) (fun p1 => ((w.2.1 (jz_c0 w.1 ⟨by decide, by decide⟩ p1)).2.elim fun z2 w2 => (b117_14 (w.2.1 (jz_c0 w.1 ⟨by decide, by decide⟩ p1)).1 w2.1 (b117_18 w2.2)))) (fun p1 => ((w.2.2 (jz_n0 w.1 ⟨by decide, by decide⟩ p1)).2.elim fun z3 w3 => (b117_7 (w.2.2 (jz_n0 w.1 ⟨by decide, by decide⟩ p1)).1 w3.1 (b117_18 w3.2)))))
