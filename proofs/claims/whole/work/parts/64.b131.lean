/-! 131 DeltaHistoryLaw.lock(LDeltaHistory;II[J)I -/
theorem b131_0 {d : Nat} {Q : jm_Q} {h : jm_H} {a0 : Nat} {v1 : Int32} {v2 : Int32} {a3 : Nat} {l4 : Option jm_V} {y1 : Int32} (q1 : (0 : Int32) = y1) (c2 : jm_T h a0 = 1) (k : jm_E dh_pr d 6 [.inr (.inl a0), .inl v1, .inl v2] h (jm_k dh_pr d 131 Q 8 [some (.inr (.inl a0)), some (.inl v1), some (.inl v2), some (.inr (.inl a3)), l4] [.inl y1, .inr (.inl a3)] 5)) : jm_W dh_pr d 131 (0, [some (.inr (.inl a0)), some (.inl v1), some (.inl v2), some (.inr (.inl a3)), l4], [], h) Q := by
  subst q1
  exact jm_blk 6 (jm_callO rfl rfl rfl rfl rfl c2 k)
theorem b131_8 {d : Nat} {Q : jm_Q} {h : jm_H} {l0 : Option jm_V} {l1 : Option jm_V} {l2 : Option jm_V} {l3 : Option jm_V} {l4 : Option jm_V} {r0 : Nat} {s1 : Int32} {s2 : Int32} {n2 : Nat} {x4 : Nat} (c1 : jm_T h r0 = 101) (q2 : jm_N h r0 = n2) (c3 : jm_in s1 n2) (q4 : jm_ix s1 = x4) (k : jm_W dh_pr d 131 (10, [l0, l1, l2, l3, l4], [], jm_sL h r0 x4 (Int32.toInt64 s2)) Q) : jm_W dh_pr d 131 (8, [l0, l1, l2, l3, l4], [.inl s2, .inl s1, .inr (.inl r0)], h) Q := by
  subst q2 q4
  exact jm_blk 2 (And.intro c1 (And.intro c3 (k)))
theorem b131_10 {d : Nat} {Q : jm_Q} {h : jm_H} {l0 : Option jm_V} {l1 : Option jm_V} {l2 : Option jm_V} {l3 : Option jm_V} {l4 : Option jm_V} (k : jm_W dh_pr d 131 (21, [l0, l1, l2, l3, l4], [], h) Q) : jm_W dh_pr d 131 (10, [l0, l1, l2, l3, l4], [], h) Q := jm_blk 1 (k)
theorem b131_13 {d : Nat} {Q : jm_Q} {h : jm_H} {l0 : Option jm_V} {l1 : Option jm_V} {l2 : Option jm_V} {l3 : Option jm_V} {l4 : Option jm_V} {r0 : Nat} {y1 : Int32} (q1 : (1 : Int32) = y1) (k : Q (.inl (some (.inl y1))) h) : jm_W dh_pr d 131 (13, [l0, l1, l2, l3, l4], [.inr (.inl r0)], h) Q := by
  subst q1
  exact jm_blk 3 (k)
theorem b131_17 {d : Nat} {Q : jm_Q} {h : jm_H} {l0 : Option jm_V} {l1 : Option jm_V} {l2 : Option jm_V} {l3 : Option jm_V} {l4 : Option jm_V} {r0 : Nat} {y1 : Int32} (q1 : (2 : Int32) = y1) (k : Q (.inl (some (.inl y1))) h) : jm_W dh_pr d 131 (17, [l0, l1, l2, l3, l4], [.inr (.inl r0)], h) Q := by
  subst q1
  exact jm_blk 3 (k)
theorem b131_21 {d : Nat} {Q : jm_Q} {h : jm_H} {l0 : Option jm_V} {l1 : Option jm_V} {l2 : Option jm_V} {l3 : Option jm_V} {l4 : Option jm_V} {y1 : Int32} (q1 : (0 : Int32) = y1) (k : Q (.inl (some (.inl y1))) h) : jm_W dh_pr d 131 (21, [l0, l1, l2, l3, l4], [], h) Q := by
  subst q1
  exact jm_blk 2 (k)
theorem e131 {d : Nat} {Q : jm_Q} {h : jm_H} {a0 : Nat} {v1 : Int} {v2 : Int} {a3 : Nat} (w : jm_W dh_pr d 131 (0, [some (.inr (.inl a0)), some (.inl (jz v1)), some (.inl (jz v2)), some (.inr (.inl a3)), none], [], h) Q) : jm_E dh_pr (d + 1) 131 [.inr (.inl a0), .inl (jz v1), .inl (jz v2), .inr (.inl a3)] h Q := jm_E_in (Nat.le_of_ble_eq_true rfl) w
theorem r131_0 {d : Nat} {Q : jm_Q} {h : jm_H} {a0 : Nat} {v1 : Int} {v2 : Int} {a3 : Nat} {l4 : Option jm_V} (w : (jm_T h a0 = 1 ∧ jm_E dh_pr d 6 [.inr (.inl a0), .inl (jz v1), .inl (jz v2)] h (jm_k dh_pr d 131 Q 8 [some (.inr (.inl a0)), some (.inl (jz v1)), some (.inl (jz v2)), some (.inr (.inl a3)), l4] [.inl (jz 0), .inr (.inl a3)] 5))) : jm_W dh_pr d 131 (0, [some (.inr (.inl a0)), some (.inl (jz v1)), some (.inl (jz v2)), some (.inr (.inl a3)), l4], [], h) Q :=
  (b131_0 (show (0 : Int32) = jz 0 from rfl) w.1 w.2)
theorem r131_8 {d : Nat} {Q : jm_Q} {h : jm_H} {l0 : Option jm_V} {l1 : Option jm_V} {l2 : Option jm_V} {l3 : Option jm_V} {l4 : Option jm_V} {r0 : Nat} {s1 : Int} {s2 : Int} (w : (jm_T h r0 = 101 ∧ ∃ n1 : Nat, jm_N h r0 = n1 ∧ jzi s1 n1 ∧ ((Q (.inl (some (.inl (jz 0)))) (jm_sL h r0 s1.toNat (Int32.toInt64 (jz s2))))))) : jm_W dh_pr d 131 (8, [l0, l1, l2, l3, l4], [.inl (jz s2), .inl (jz s1), .inr (.inl r0)], h) Q :=
  (w.2.elim fun n1 w1 => (b131_8 w.1 w1.1 (jz_in w1.2.1) (jz_ix w1.2.1.r) (b131_10 (b131_21 (show (0 : Int32) = jz 0 from rfl) w1.2.2))))
theorem r131_13 {d : Nat} {Q : jm_Q} {h : jm_H} {l0 : Option jm_V} {l1 : Option jm_V} {l2 : Option jm_V} {l3 : Option jm_V} {l4 : Option jm_V} {r0 : Nat} (w : (Q (.inl (some (.inl (jz 1)))) h)) : jm_W dh_pr d 131 (13, [l0, l1, l2, l3, l4], [.inr (.inl r0)], h) Q :=
  (b131_13 (show (1 : Int32) = jz 1 from rfl) w)
theorem r131_17 {d : Nat} {Q : jm_Q} {h : jm_H} {l0 : Option jm_V} {l1 : Option jm_V} {l2 : Option jm_V} {l3 : Option jm_V} {l4 : Option jm_V} {r0 : Nat} (w : (Q (.inl (some (.inl (jz 2)))) h)) : jm_W dh_pr d 131 (17, [l0, l1, l2, l3, l4], [.inr (.inl r0)], h) Q :=
  (b131_17 (show (2 : Int32) = jz 2 from rfl) w)
/-! 132 DeltaHistoryLaw.unlock(LDeltaHistory;II[J)I -/
theorem b132_0 {d : Nat} {Q : jm_Q} {h : jm_H} {a0 : Nat} {v1 : Int32} {v2 : Int32} {a3 : Nat} {l4 : Option jm_V} {y1 : Int32} (q1 : (0 : Int32) = y1) (c2 : jm_T h a0 = 1) (k : jm_E dh_pr d 7 [.inr (.inl a0), .inl v1, .inl v2] h (jm_k dh_pr d 132 Q 8 [some (.inr (.inl a0)), some (.inl v1), some (.inl v2), some (.inr (.inl a3)), l4] [.inl y1, .inr (.inl a3)] 5)) : jm_W dh_pr d 132 (0, [some (.inr (.inl a0)), some (.inl v1), some (.inl v2), some (.inr (.inl a3)), l4], [], h) Q := by
  subst q1
  exact jm_blk 6 (jm_callO rfl rfl rfl rfl rfl c2 k)
theorem b132_8 {d : Nat} {Q : jm_Q} {h : jm_H} {l0 : Option jm_V} {l1 : Option jm_V} {l2 : Option jm_V} {l3 : Option jm_V} {l4 : Option jm_V} {r0 : Nat} {s1 : Int32} {s2 : Int32} {n2 : Nat} {x4 : Nat} (c1 : jm_T h r0 = 101) (q2 : jm_N h r0 = n2) (c3 : jm_in s1 n2) (q4 : jm_ix s1 = x4) (k : jm_W dh_pr d 132 (10, [l0, l1, l2, l3, l4], [], jm_sL h r0 x4 (Int32.toInt64 s2)) Q) : jm_W dh_pr d 132 (8, [l0, l1, l2, l3, l4], [.inl s2, .inl s1, .inr (.inl r0)], h) Q := by
  subst q2 q4
  exact jm_blk 2 (And.intro c1 (And.intro c3 (k)))
theorem b132_10 {d : Nat} {Q : jm_Q} {h : jm_H} {l0 : Option jm_V} {l1 : Option jm_V} {l2 : Option jm_V} {l3 : Option jm_V} {l4 : Option jm_V} (k : jm_W dh_pr d 132 (21, [l0, l1, l2, l3, l4], [], h) Q) : jm_W dh_pr d 132 (10, [l0, l1, l2, l3, l4], [], h) Q := jm_blk 1 (k)
theorem b132_13 {d : Nat} {Q : jm_Q} {h : jm_H} {l0 : Option jm_V} {l1 : Option jm_V} {l2 : Option jm_V} {l3 : Option jm_V} {l4 : Option jm_V} {r0 : Nat} {y1 : Int32} (q1 : (1 : Int32) = y1) (k : Q (.inl (some (.inl y1))) h) : jm_W dh_pr d 132 (13, [l0, l1, l2, l3, l4], [.inr (.inl r0)], h) Q := by
  subst q1
  exact jm_blk 3 (k)
theorem b132_17 {d : Nat} {Q : jm_Q} {h : jm_H} {l0 : Option jm_V} {l1 : Option jm_V} {l2 : Option jm_V} {l3 : Option jm_V} {l4 : Option jm_V} {r0 : Nat} {y1 : Int32} (q1 : (2 : Int32) = y1) (k : Q (.inl (some (.inl y1))) h) : jm_W dh_pr d 132 (17, [l0, l1, l2, l3, l4], [.inr (.inl r0)], h) Q := by
  subst q1
  exact jm_blk 3 (k)
theorem b132_21 {d : Nat} {Q : jm_Q} {h : jm_H} {l0 : Option jm_V} {l1 : Option jm_V} {l2 : Option jm_V} {l3 : Option jm_V} {l4 : Option jm_V} {y1 : Int32} (q1 : (0 : Int32) = y1) (k : Q (.inl (some (.inl y1))) h) : jm_W dh_pr d 132 (21, [l0, l1, l2, l3, l4], [], h) Q := by
  subst q1
  exact jm_blk 2 (k)
theorem e132 {d : Nat} {Q : jm_Q} {h : jm_H} {a0 : Nat} {v1 : Int} {v2 : Int} {a3 : Nat} (w : jm_W dh_pr d 132 (0, [some (.inr (.inl a0)), some (.inl (jz v1)), some (.inl (jz v2)), some (.inr (.inl a3)), none], [], h) Q) : jm_E dh_pr (d + 1) 132 [.inr (.inl a0), .inl (jz v1), .inl (jz v2), .inr (.inl a3)] h Q := jm_E_in (Nat.le_of_ble_eq_true rfl) w
theorem r132_0 {d : Nat} {Q : jm_Q} {h : jm_H} {a0 : Nat} {v1 : Int} {v2 : Int} {a3 : Nat} {l4 : Option jm_V} (w : (jm_T h a0 = 1 ∧ jm_E dh_pr d 7 [.inr (.inl a0), .inl (jz v1), .inl (jz v2)] h (jm_k dh_pr d 132 Q 8 [some (.inr (.inl a0)), some (.inl (jz v1)), some (.inl (jz v2)), some (.inr (.inl a3)), l4] [.inl (jz 0), .inr (.inl a3)] 5))) : jm_W dh_pr d 132 (0, [some (.inr (.inl a0)), some (.inl (jz v1)), some (.inl (jz v2)), some (.inr (.inl a3)), l4], [], h) Q :=
  (b132_0 (show (0 : Int32) = jz 0 from rfl) w.1 w.2)
theorem r132_8 {d : Nat} {Q : jm_Q} {h : jm_H} {l0 : Option jm_V} {l1 : Option jm_V} {l2 : Option jm_V} {l3 : Option jm_V} {l4 : Option jm_V} {r0 : Nat} {s1 : Int} {s2 : Int} (w : (jm_T h r0 = 101 ∧ ∃ n1 : Nat, jm_N h r0 = n1 ∧ jzi s1 n1 ∧ ((Q (.inl (some (.inl (jz 0)))) (jm_sL h r0 s1.toNat (Int32.toInt64 (jz s2))))))) : jm_W dh_pr d 132 (8, [l0, l1, l2, l3, l4], [.inl (jz s2), .inl (jz s1), .inr (.inl r0)], h) Q :=
  (w.2.elim fun n1 w1 => (b132_8 w.1 w1.1 (jz_in w1.2.1) (jz_ix w1.2.1.r) (b132_10 (b132_21 (show (0 : Int32) = jz 0 from rfl) w1.2.2))))
theorem r132_13 {d : Nat} {Q : jm_Q} {h : jm_H} {l0 : Option jm_V} {l1 : Option jm_V} {l2 : Option jm_V} {l3 : Option jm_V} {l4 : Option jm_V} {r0 : Nat} (w : (Q (.inl (some (.inl (jz 1)))) h)) : jm_W dh_pr d 132 (13, [l0, l1, l2, l3, l4], [.inr (.inl r0)], h) Q :=
  (b132_13 (show (1 : Int32) = jz 1 from rfl) w)
theorem r132_17 {d : Nat} {Q : jm_Q} {h : jm_H} {l0 : Option jm_V} {l1 : Option jm_V} {l2 : Option jm_V} {l3 : Option jm_V} {l4 : Option jm_V} {r0 : Nat} (w : (Q (.inl (some (.inl (jz 2)))) h)) : jm_W dh_pr d 132 (17, [l0, l1, l2, l3, l4], [.inr (.inl r0)], h) Q :=
  (b132_17 (show (2 : Int32) = jz 2 from rfl) w)
/-! 133 DeltaHistoryLaw.checkIn(LDeltaHistory;II[J)I -/
theorem b133_0 {d : Nat} {Q : jm_Q} {h : jm_H} {a0 : Nat} {v1 : Int32} {v2 : Int32} {a3 : Nat} {l4 : Option jm_V} {y1 : Int32} (q1 : (0 : Int32) = y1) (c2 : jm_T h a0 = 1) (k : jm_E dh_pr d 8 [.inr (.inl a0), .inl v1, .inl v2] h (jm_k dh_pr d 133 Q 8 [some (.inr (.inl a0)), some (.inl v1), some (.inl v2), some (.inr (.inl a3)), l4] [.inl y1, .inr (.inl a3)] 5)) : jm_W dh_pr d 133 (0, [some (.inr (.inl a0)), some (.inl v1), some (.inl v2), some (.inr (.inl a3)), l4], [], h) Q := by
  subst q1
  exact jm_blk 6 (jm_callO rfl rfl rfl rfl rfl c2 k)
theorem b133_8 {d : Nat} {Q : jm_Q} {h : jm_H} {l0 : Option jm_V} {l1 : Option jm_V} {l2 : Option jm_V} {l3 : Option jm_V} {l4 : Option jm_V} {r0 : Nat} {s1 : Int32} {s2 : Int32} {n2 : Nat} {x4 : Nat} (c1 : jm_T h r0 = 101) (q2 : jm_N h r0 = n2) (c3 : jm_in s1 n2) (q4 : jm_ix s1 = x4) (k : jm_W dh_pr d 133 (10, [l0, l1, l2, l3, l4], [], jm_sL h r0 x4 (Int32.toInt64 s2)) Q) : jm_W dh_pr d 133 (8, [l0, l1, l2, l3, l4], [.inl s2, .inl s1, .inr (.inl r0)], h) Q := by
  subst q2 q4
  exact jm_blk 2 (And.intro c1 (And.intro c3 (k)))
theorem b133_10 {d : Nat} {Q : jm_Q} {h : jm_H} {l0 : Option jm_V} {l1 : Option jm_V} {l2 : Option jm_V} {l3 : Option jm_V} {l4 : Option jm_V} (k : jm_W dh_pr d 133 (25, [l0, l1, l2, l3, l4], [], h) Q) : jm_W dh_pr d 133 (10, [l0, l1, l2, l3, l4], [], h) Q := jm_blk 1 (k)
theorem b133_13 {d : Nat} {Q : jm_Q} {h : jm_H} {l0 : Option jm_V} {l1 : Option jm_V} {l2 : Option jm_V} {l3 : Option jm_V} {l4 : Option jm_V} {r0 : Nat} {y1 : Int32} (q1 : (1 : Int32) = y1) (k : Q (.inl (some (.inl y1))) h) : jm_W dh_pr d 133 (13, [l0, l1, l2, l3, l4], [.inr (.inl r0)], h) Q := by
  subst q1
  exact jm_blk 3 (k)
theorem b133_17 {d : Nat} {Q : jm_Q} {h : jm_H} {l0 : Option jm_V} {l1 : Option jm_V} {l2 : Option jm_V} {l3 : Option jm_V} {l4 : Option jm_V} {r0 : Nat} {y1 : Int32} (q1 : (2 : Int32) = y1) (k : Q (.inl (some (.inl y1))) h) : jm_W dh_pr d 133 (17, [l0, l1, l2, l3, l4], [.inr (.inl r0)], h) Q := by
  subst q1
  exact jm_blk 3 (k)
theorem b133_21 {d : Nat} {Q : jm_Q} {h : jm_H} {l0 : Option jm_V} {l1 : Option jm_V} {l2 : Option jm_V} {l3 : Option jm_V} {l4 : Option jm_V} {r0 : Nat} {y1 : Int32} (q1 : (3 : Int32) = y1) (k : Q (.inl (some (.inl y1))) h) : jm_W dh_pr d 133 (21, [l0, l1, l2, l3, l4], [.inr (.inl r0)], h) Q := by
  subst q1
  exact jm_blk 3 (k)
theorem b133_25 {d : Nat} {Q : jm_Q} {h : jm_H} {l0 : Option jm_V} {l1 : Option jm_V} {l2 : Option jm_V} {l3 : Option jm_V} {l4 : Option jm_V} {y1 : Int32} (q1 : (0 : Int32) = y1) (k : Q (.inl (some (.inl y1))) h) : jm_W dh_pr d 133 (25, [l0, l1, l2, l3, l4], [], h) Q := by
  subst q1
  exact jm_blk 2 (k)
theorem e133 {d : Nat} {Q : jm_Q} {h : jm_H} {a0 : Nat} {v1 : Int} {v2 : Int} {a3 : Nat} (w : jm_W dh_pr d 133 (0, [some (.inr (.inl a0)), some (.inl (jz v1)), some (.inl (jz v2)), some (.inr (.inl a3)), none], [], h) Q) : jm_E dh_pr (d + 1) 133 [.inr (.inl a0), .inl (jz v1), .inl (jz v2), .inr (.inl a3)] h Q := jm_E_in (Nat.le_of_ble_eq_true rfl) w
theorem r133_0 {d : Nat} {Q : jm_Q} {h : jm_H} {a0 : Nat} {v1 : Int} {v2 : Int} {a3 : Nat} {l4 : Option jm_V} (w : (jm_T h a0 = 1 ∧ jm_E dh_pr d 8 [.inr (.inl a0), .inl (jz v1), .inl (jz v2)] h (jm_k dh_pr d 133 Q 8 [some (.inr (.inl a0)), some (.inl (jz v1)), some (.inl (jz v2)), some (.inr (.inl a3)), l4] [.inl (jz 0), .inr (.inl a3)] 5))) : jm_W dh_pr d 133 (0, [some (.inr (.inl a0)), some (.inl (jz v1)), some (.inl (jz v2)), some (.inr (.inl a3)), l4], [], h) Q :=
  (b133_0 (show (0 : Int32) = jz 0 from rfl) w.1 w.2)
theorem r133_8 {d : Nat} {Q : jm_Q} {h : jm_H} {l0 : Option jm_V} {l1 : Option jm_V} {l2 : Option jm_V} {l3 : Option jm_V} {l4 : Option jm_V} {r0 : Nat} {s1 : Int} {s2 : Int} (w : (jm_T h r0 = 101 ∧ ∃ n1 : Nat, jm_N h r0 = n1 ∧ jzi s1 n1 ∧ ((Q (.inl (some (.inl (jz 0)))) (jm_sL h r0 s1.toNat (Int32.toInt64 (jz s2))))))) : jm_W dh_pr d 133 (8, [l0, l1, l2, l3, l4], [.inl (jz s2), .inl (jz s1), .inr (.inl r0)], h) Q :=
  (w.2.elim fun n1 w1 => (b133_8 w.1 w1.1 (jz_in w1.2.1) (jz_ix w1.2.1.r) (b133_10 (b133_25 (show (0 : Int32) = jz 0 from rfl) w1.2.2))))
theorem r133_13 {d : Nat} {Q : jm_Q} {h : jm_H} {l0 : Option jm_V} {l1 : Option jm_V} {l2 : Option jm_V} {l3 : Option jm_V} {l4 : Option jm_V} {r0 : Nat} (w : (Q (.inl (some (.inl (jz 1)))) h)) : jm_W dh_pr d 133 (13, [l0, l1, l2, l3, l4], [.inr (.inl r0)], h) Q :=
  (b133_13 (show (1 : Int32) = jz 1 from rfl) w)
theorem r133_17 {d : Nat} {Q : jm_Q} {h : jm_H} {l0 : Option jm_V} {l1 : Option jm_V} {l2 : Option jm_V} {l3 : Option jm_V} {l4 : Option jm_V} {r0 : Nat} (w : (Q (.inl (some (.inl (jz 2)))) h)) : jm_W dh_pr d 133 (17, [l0, l1, l2, l3, l4], [.inr (.inl r0)], h) Q :=
  (b133_17 (show (2 : Int32) = jz 2 from rfl) w)
theorem r133_21 {d : Nat} {Q : jm_Q} {h : jm_H} {l0 : Option jm_V} {l1 : Option jm_V} {l2 : Option jm_V} {l3 : Option jm_V} {l4 : Option jm_V} {r0 : Nat} (w : (Q (.inl (some (.inl (jz 3)))) h)) : jm_W dh_pr d 133 (21, [l0, l1, l2, l3, l4], [.inr (.inl r0)], h) Q :=
  (b133_21 (show (3 : Int32) = jz 3 from rfl) w)
/-! 134 DeltaHistoryLaw.checkOut(LDeltaHistory;I[J)I -/
theorem b134_0 {d : Nat} {Q : jm_Q} {h : jm_H} {a0 : Nat} {v1 : Int32} {a2 : Nat} {l3 : Option jm_V} {y1 : Int32} (q1 : (0 : Int32) = y1) (c2 : jm_T h a0 = 1) (k : jm_E dh_pr d 9 [.inr (.inl a0), .inl v1] h (jm_k dh_pr d 134 Q 7 [some (.inr (.inl a0)), some (.inl v1), some (.inr (.inl a2)), l3] [.inl y1, .inr (.inl a2)] 4)) : jm_W dh_pr d 134 (0, [some (.inr (.inl a0)), some (.inl v1), some (.inr (.inl a2)), l3], [], h) Q := by
  subst q1
  exact jm_blk 5 (jm_callO rfl rfl rfl rfl rfl c2 k)
theorem b134_7 {d : Nat} {Q : jm_Q} {h : jm_H} {l0 : Option jm_V} {l1 : Option jm_V} {l2 : Option jm_V} {l3 : Option jm_V} {r0 : Nat} {s1 : Int32} {s2 : Int32} {n2 : Nat} {x4 : Nat} (c1 : jm_T h r0 = 101) (q2 : jm_N h r0 = n2) (c3 : jm_in s1 n2) (q4 : jm_ix s1 = x4) (k : jm_W dh_pr d 134 (9, [l0, l1, l2, l3], [], jm_sL h r0 x4 (Int32.toInt64 s2)) Q) : jm_W dh_pr d 134 (7, [l0, l1, l2, l3], [.inl s2, .inl s1, .inr (.inl r0)], h) Q := by
  subst q2 q4
  exact jm_blk 2 (And.intro c1 (And.intro c3 (k)))
theorem b134_9 {d : Nat} {Q : jm_Q} {h : jm_H} {l0 : Option jm_V} {l1 : Option jm_V} {l2 : Option jm_V} {l3 : Option jm_V} (k : jm_W dh_pr d 134 (15, [l0, l1, l2, l3], [], h) Q) : jm_W dh_pr d 134 (9, [l0, l1, l2, l3], [], h) Q := jm_blk 1 (k)
theorem b134_12 {d : Nat} {Q : jm_Q} {h : jm_H} {l0 : Option jm_V} {l1 : Option jm_V} {l2 : Option jm_V} {l3 : Option jm_V} {r0 : Nat} {y1 : Int32} (q1 : (1 : Int32) = y1) (k : Q (.inl (some (.inl y1))) h) : jm_W dh_pr d 134 (12, [l0, l1, l2, l3], [.inr (.inl r0)], h) Q := by
  subst q1
  exact jm_blk 3 (k)
theorem b134_15 {d : Nat} {Q : jm_Q} {h : jm_H} {l0 : Option jm_V} {l1 : Option jm_V} {l2 : Option jm_V} {l3 : Option jm_V} {y1 : Int32} (q1 : (0 : Int32) = y1) (k : Q (.inl (some (.inl y1))) h) : jm_W dh_pr d 134 (15, [l0, l1, l2, l3], [], h) Q := by
  subst q1
  exact jm_blk 2 (k)
theorem e134 {d : Nat} {Q : jm_Q} {h : jm_H} {a0 : Nat} {v1 : Int} {a2 : Nat} (w : jm_W dh_pr d 134 (0, [some (.inr (.inl a0)), some (.inl (jz v1)), some (.inr (.inl a2)), none], [], h) Q) : jm_E dh_pr (d + 1) 134 [.inr (.inl a0), .inl (jz v1), .inr (.inl a2)] h Q := jm_E_in (Nat.le_of_ble_eq_true rfl) w
theorem r134_0 {d : Nat} {Q : jm_Q} {h : jm_H} {a0 : Nat} {v1 : Int} {a2 : Nat} {l3 : Option jm_V} (w : (jm_T h a0 = 1 ∧ jm_E dh_pr d 9 [.inr (.inl a0), .inl (jz v1)] h (jm_k dh_pr d 134 Q 7 [some (.inr (.inl a0)), some (.inl (jz v1)), some (.inr (.inl a2)), l3] [.inl (jz 0), .inr (.inl a2)] 4))) : jm_W dh_pr d 134 (0, [some (.inr (.inl a0)), some (.inl (jz v1)), some (.inr (.inl a2)), l3], [], h) Q :=
  (b134_0 (show (0 : Int32) = jz 0 from rfl) w.1 w.2)
theorem r134_7 {d : Nat} {Q : jm_Q} {h : jm_H} {l0 : Option jm_V} {l1 : Option jm_V} {l2 : Option jm_V} {l3 : Option jm_V} {r0 : Nat} {s1 : Int} {s2 : Int} (w : (jm_T h r0 = 101 ∧ ∃ n1 : Nat, jm_N h r0 = n1 ∧ jzi s1 n1 ∧ ((Q (.inl (some (.inl (jz 0)))) (jm_sL h r0 s1.toNat (Int32.toInt64 (jz s2))))))) : jm_W dh_pr d 134 (7, [l0, l1, l2, l3], [.inl (jz s2), .inl (jz s1), .inr (.inl r0)], h) Q :=
  (w.2.elim fun n1 w1 => (b134_7 w.1 w1.1 (jz_in w1.2.1) (jz_ix w1.2.1.r) (b134_9 (b134_15 (show (0 : Int32) = jz 0 from rfl) w1.2.2))))
theorem r134_12 {d : Nat} {Q : jm_Q} {h : jm_H} {l0 : Option jm_V} {l1 : Option jm_V} {l2 : Option jm_V} {l3 : Option jm_V} {r0 : Nat} (w : (Q (.inl (some (.inl (jz 1)))) h)) : jm_W dh_pr d 134 (12, [l0, l1, l2, l3], [.inr (.inl r0)], h) Q :=
  (b134_12 (show (1 : Int32) = jz 1 from rfl) w)
/-! 135 DeltaHistoryLaw.corrupt(LDeltaHistory;II)I -/
theorem b135_0 {d : Nat} {Q : jm_Q} {h : jm_H} {a0 : Nat} {v1 : Int32} {v2 : Int32} {l3 : Option jm_V} (c1 : jm_T h a0 = 1) (k : jm_E dh_pr d 11 [.inr (.inl a0), .inl v1, .inl v2] h (jm_k dh_pr d 135 Q 6 [some (.inr (.inl a0)), some (.inl v1), some (.inl v2), l3] [] 3)) : jm_W dh_pr d 135 (0, [some (.inr (.inl a0)), some (.inl v1), some (.inl v2), l3], [], h) Q := jm_blk 4 (jm_callO rfl rfl rfl rfl rfl c1 k)
theorem b135_6 {d : Nat} {Q : jm_Q} {h : jm_H} {l0 : Option jm_V} {l1 : Option jm_V} {l2 : Option jm_V} {l3 : Option jm_V} (k : jm_W dh_pr d 135 (15, [l0, l1, l2, l3], [], h) Q) : jm_W dh_pr d 135 (6, [l0, l1, l2, l3], [], h) Q := jm_blk 1 (k)
theorem b135_9 {d : Nat} {Q : jm_Q} {h : jm_H} {l0 : Option jm_V} {l1 : Option jm_V} {l2 : Option jm_V} {l3 : Option jm_V} {r0 : Nat} {y1 : Int32} (q1 : (1 : Int32) = y1) (k : Q (.inl (some (.inl y1))) h) : jm_W dh_pr d 135 (9, [l0, l1, l2, l3], [.inr (.inl r0)], h) Q := by
  subst q1
  exact jm_blk 3 (k)
theorem b135_12 {d : Nat} {Q : jm_Q} {h : jm_H} {l0 : Option jm_V} {l1 : Option jm_V} {l2 : Option jm_V} {l3 : Option jm_V} {r0 : Nat} {y1 : Int32} (q1 : (2 : Int32) = y1) (k : Q (.inl (some (.inl y1))) h) : jm_W dh_pr d 135 (12, [l0, l1, l2, l3], [.inr (.inl r0)], h) Q := by
  subst q1
  exact jm_blk 3 (k)
theorem b135_15 {d : Nat} {Q : jm_Q} {h : jm_H} {l0 : Option jm_V} {l1 : Option jm_V} {l2 : Option jm_V} {l3 : Option jm_V} {y1 : Int32} (q1 : (0 : Int32) = y1) (k : Q (.inl (some (.inl y1))) h) : jm_W dh_pr d 135 (15, [l0, l1, l2, l3], [], h) Q := by
  subst q1
  exact jm_blk 2 (k)
theorem e135 {d : Nat} {Q : jm_Q} {h : jm_H} {a0 : Nat} {v1 : Int} {v2 : Int} (w : jm_W dh_pr d 135 (0, [some (.inr (.inl a0)), some (.inl (jz v1)), some (.inl (jz v2)), none], [], h) Q) : jm_E dh_pr (d + 1) 135 [.inr (.inl a0), .inl (jz v1), .inl (jz v2)] h Q := jm_E_in (Nat.le_of_ble_eq_true rfl) w
theorem r135_0 {d : Nat} {Q : jm_Q} {h : jm_H} {a0 : Nat} {v1 : Int} {v2 : Int} {l3 : Option jm_V} (w : (jm_T h a0 = 1 ∧ jm_E dh_pr d 11 [.inr (.inl a0), .inl (jz v1), .inl (jz v2)] h (jm_k dh_pr d 135 Q 6 [some (.inr (.inl a0)), some (.inl (jz v1)), some (.inl (jz v2)), l3] [] 3))) : jm_W dh_pr d 135 (0, [some (.inr (.inl a0)), some (.inl (jz v1)), some (.inl (jz v2)), l3], [], h) Q :=
  (b135_0 w.1 w.2)
theorem r135_6 {d : Nat} {Q : jm_Q} {h : jm_H} {l0 : Option jm_V} {l1 : Option jm_V} {l2 : Option jm_V} {l3 : Option jm_V} (w : ((Q (.inl (some (.inl (jz 0)))) h))) : jm_W dh_pr d 135 (6, [l0, l1, l2, l3], [], h) Q :=
  (b135_6 (b135_15 (show (0 : Int32) = jz 0 from rfl) w))
theorem r135_9 {d : Nat} {Q : jm_Q} {h : jm_H} {l0 : Option jm_V} {l1 : Option jm_V} {l2 : Option jm_V} {l3 : Option jm_V} {r0 : Nat} (w : (Q (.inl (some (.inl (jz 1)))) h)) : jm_W dh_pr d 135 (9, [l0, l1, l2, l3], [.inr (.inl r0)], h) Q :=
  (b135_9 (show (1 : Int32) = jz 1 from rfl) w)
theorem r135_12 {d : Nat} {Q : jm_Q} {h : jm_H} {l0 : Option jm_V} {l1 : Option jm_V} {l2 : Option jm_V} {l3 : Option jm_V} {r0 : Nat} (w : (Q (.inl (some (.inl (jz 2)))) h)) : jm_W dh_pr d 135 (12, [l0, l1, l2, l3], [.inr (.inl r0)], h) Q :=
  (b135_12 (show (2 : Int32) = jz 2 from rfl) w)
/-! 136 DeltaHistoryLaw.about(LDeltaHistory;II[J)I -/
theorem b136_0 {d : Nat} {Q : jm_Q} {h : jm_H} {a0 : Nat} {v1 : Int32} {v2 : Int32} {a3 : Nat} {l4 : Option jm_V} {y1 : Int32} (q1 : (0 : Int32) = y1) (c2 : jm_T h a0 = 1) (k : jm_E dh_pr d 14 [.inr (.inl a0), .inl v1, .inl v2] h (jm_k dh_pr d 136 Q 8 [some (.inr (.inl a0)), some (.inl v1), some (.inl v2), some (.inr (.inl a3)), l4] [.inl y1, .inr (.inl a3)] 5)) : jm_W dh_pr d 136 (0, [some (.inr (.inl a0)), some (.inl v1), some (.inl v2), some (.inr (.inl a3)), l4], [], h) Q := by
  subst q1
  exact jm_blk 6 (jm_callO rfl rfl rfl rfl rfl c2 k)
theorem b136_8 {d : Nat} {Q : jm_Q} {h : jm_H} {l0 : Option jm_V} {l1 : Option jm_V} {l2 : Option jm_V} {l3 : Option jm_V} {l4 : Option jm_V} {r0 : Nat} {s1 : Int32} {s2 : Int32} {n2 : Nat} {x4 : Nat} (c1 : jm_T h r0 = 101) (q2 : jm_N h r0 = n2) (c3 : jm_in s1 n2) (q4 : jm_ix s1 = x4) (k : jm_W dh_pr d 136 (10, [l0, l1, l2, l3, l4], [], jm_sL h r0 x4 (Int32.toInt64 s2)) Q) : jm_W dh_pr d 136 (8, [l0, l1, l2, l3, l4], [.inl s2, .inl s1, .inr (.inl r0)], h) Q := by
  subst q2 q4
  exact jm_blk 2 (And.intro c1 (And.intro c3 (k)))
theorem b136_10 {d : Nat} {Q : jm_Q} {h : jm_H} {l0 : Option jm_V} {l1 : Option jm_V} {l2 : Option jm_V} {l3 : Option jm_V} {l4 : Option jm_V} (k : jm_W dh_pr d 136 (17, [l0, l1, l2, l3, l4], [], h) Q) : jm_W dh_pr d 136 (10, [l0, l1, l2, l3, l4], [], h) Q := jm_blk 1 (k)
theorem b136_13 {d : Nat} {Q : jm_Q} {h : jm_H} {l0 : Option jm_V} {l1 : Option jm_V} {l2 : Option jm_V} {l3 : Option jm_V} {l4 : Option jm_V} {r0 : Nat} {y1 : Int32} (q1 : (1 : Int32) = y1) (k : Q (.inl (some (.inl y1))) h) : jm_W dh_pr d 136 (13, [l0, l1, l2, l3, l4], [.inr (.inl r0)], h) Q := by
  subst q1
  exact jm_blk 3 (k)
theorem b136_17 {d : Nat} {Q : jm_Q} {h : jm_H} {l0 : Option jm_V} {l1 : Option jm_V} {l2 : Option jm_V} {l3 : Option jm_V} {l4 : Option jm_V} {y1 : Int32} (q1 : (0 : Int32) = y1) (k : Q (.inl (some (.inl y1))) h) : jm_W dh_pr d 136 (17, [l0, l1, l2, l3, l4], [], h) Q := by
  subst q1
  exact jm_blk 2 (k)
theorem e136 {d : Nat} {Q : jm_Q} {h : jm_H} {a0 : Nat} {v1 : Int} {v2 : Int} {a3 : Nat} (w : jm_W dh_pr d 136 (0, [some (.inr (.inl a0)), some (.inl (jz v1)), some (.inl (jz v2)), some (.inr (.inl a3)), none], [], h) Q) : jm_E dh_pr (d + 1) 136 [.inr (.inl a0), .inl (jz v1), .inl (jz v2), .inr (.inl a3)] h Q := jm_E_in (Nat.le_of_ble_eq_true rfl) w
theorem r136_0 {d : Nat} {Q : jm_Q} {h : jm_H} {a0 : Nat} {v1 : Int} {v2 : Int} {a3 : Nat} {l4 : Option jm_V} (w : (jm_T h a0 = 1 ∧ jm_E dh_pr d 14 [.inr (.inl a0), .inl (jz v1), .inl (jz v2)] h (jm_k dh_pr d 136 Q 8 [some (.inr (.inl a0)), some (.inl (jz v1)), some (.inl (jz v2)), some (.inr (.inl a3)), l4] [.inl (jz 0), .inr (.inl a3)] 5))) : jm_W dh_pr d 136 (0, [some (.inr (.inl a0)), some (.inl (jz v1)), some (.inl (jz v2)), some (.inr (.inl a3)), l4], [], h) Q :=
  (b136_0 (show (0 : Int32) = jz 0 from rfl) w.1 w.2)
theorem r136_8 {d : Nat} {Q : jm_Q} {h : jm_H} {l0 : Option jm_V} {l1 : Option jm_V} {l2 : Option jm_V} {l3 : Option jm_V} {l4 : Option jm_V} {r0 : Nat} {s1 : Int} {s2 : Int} (w : (jm_T h r0 = 101 ∧ ∃ n1 : Nat, jm_N h r0 = n1 ∧ jzi s1 n1 ∧ ((Q (.inl (some (.inl (jz 0)))) (jm_sL h r0 s1.toNat (Int32.toInt64 (jz s2))))))) : jm_W dh_pr d 136 (8, [l0, l1, l2, l3, l4], [.inl (jz s2), .inl (jz s1), .inr (.inl r0)], h) Q :=
  (w.2.elim fun n1 w1 => (b136_8 w.1 w1.1 (jz_in w1.2.1) (jz_ix w1.2.1.r) (b136_10 (b136_17 (show (0 : Int32) = jz 0 from rfl) w1.2.2))))
theorem r136_13 {d : Nat} {Q : jm_Q} {h : jm_H} {l0 : Option jm_V} {l1 : Option jm_V} {l2 : Option jm_V} {l3 : Option jm_V} {l4 : Option jm_V} {r0 : Nat} (w : (Q (.inl (some (.inl (jz 1)))) h)) : jm_W dh_pr d 136 (13, [l0, l1, l2, l3, l4], [.inr (.inl r0)], h) Q :=
  (b136_13 (show (1 : Int32) = jz 1 from rfl) w)
/-! 137 DeltaHistoryLaw.name(LDeltaHistory;II[J)I -/
theorem b137_0 {d : Nat} {Q : jm_Q} {h : jm_H} {a0 : Nat} {v1 : Int32} {v2 : Int32} {a3 : Nat} {l4 : Option jm_V} {y1 : Int32} (q1 : (0 : Int32) = y1) (c2 : jm_T h a0 = 1) (k : jm_E dh_pr d 15 [.inr (.inl a0), .inl v1, .inl v2] h (jm_k dh_pr d 137 Q 8 [some (.inr (.inl a0)), some (.inl v1), some (.inl v2), some (.inr (.inl a3)), l4] [.inl y1, .inr (.inl a3)] 5)) : jm_W dh_pr d 137 (0, [some (.inr (.inl a0)), some (.inl v1), some (.inl v2), some (.inr (.inl a3)), l4], [], h) Q := by
  subst q1
  exact jm_blk 6 (jm_callO rfl rfl rfl rfl rfl c2 k)
theorem b137_8 {d : Nat} {Q : jm_Q} {h : jm_H} {l0 : Option jm_V} {l1 : Option jm_V} {l2 : Option jm_V} {l3 : Option jm_V} {l4 : Option jm_V} {r0 : Nat} {s1 : Int32} {s2 : Int32} {n2 : Nat} {x4 : Nat} (c1 : jm_T h r0 = 101) (q2 : jm_N h r0 = n2) (c3 : jm_in s1 n2) (q4 : jm_ix s1 = x4) (k : jm_W dh_pr d 137 (10, [l0, l1, l2, l3, l4], [], jm_sL h r0 x4 (Int32.toInt64 s2)) Q) : jm_W dh_pr d 137 (8, [l0, l1, l2, l3, l4], [.inl s2, .inl s1, .inr (.inl r0)], h) Q := by
  subst q2 q4
  exact jm_blk 2 (And.intro c1 (And.intro c3 (k)))
theorem b137_10 {d : Nat} {Q : jm_Q} {h : jm_H} {l0 : Option jm_V} {l1 : Option jm_V} {l2 : Option jm_V} {l3 : Option jm_V} {l4 : Option jm_V} (k : jm_W dh_pr d 137 (17, [l0, l1, l2, l3, l4], [], h) Q) : jm_W dh_pr d 137 (10, [l0, l1, l2, l3, l4], [], h) Q := jm_blk 1 (k)
theorem b137_13 {d : Nat} {Q : jm_Q} {h : jm_H} {l0 : Option jm_V} {l1 : Option jm_V} {l2 : Option jm_V} {l3 : Option jm_V} {l4 : Option jm_V} {r0 : Nat} {y1 : Int32} (q1 : (1 : Int32) = y1) (k : Q (.inl (some (.inl y1))) h) : jm_W dh_pr d 137 (13, [l0, l1, l2, l3, l4], [.inr (.inl r0)], h) Q := by
  subst q1
  exact jm_blk 3 (k)
theorem b137_17 {d : Nat} {Q : jm_Q} {h : jm_H} {l0 : Option jm_V} {l1 : Option jm_V} {l2 : Option jm_V} {l3 : Option jm_V} {l4 : Option jm_V} {y1 : Int32} (q1 : (0 : Int32) = y1) (k : Q (.inl (some (.inl y1))) h) : jm_W dh_pr d 137 (17, [l0, l1, l2, l3, l4], [], h) Q := by
  subst q1
  exact jm_blk 2 (k)
theorem e137 {d : Nat} {Q : jm_Q} {h : jm_H} {a0 : Nat} {v1 : Int} {v2 : Int} {a3 : Nat} (w : jm_W dh_pr d 137 (0, [some (.inr (.inl a0)), some (.inl (jz v1)), some (.inl (jz v2)), some (.inr (.inl a3)), none], [], h) Q) : jm_E dh_pr (d + 1) 137 [.inr (.inl a0), .inl (jz v1), .inl (jz v2), .inr (.inl a3)] h Q := jm_E_in (Nat.le_of_ble_eq_true rfl) w
theorem r137_0 {d : Nat} {Q : jm_Q} {h : jm_H} {a0 : Nat} {v1 : Int} {v2 : Int} {a3 : Nat} {l4 : Option jm_V} (w : (jm_T h a0 = 1 ∧ jm_E dh_pr d 15 [.inr (.inl a0), .inl (jz v1), .inl (jz v2)] h (jm_k dh_pr d 137 Q 8 [some (.inr (.inl a0)), some (.inl (jz v1)), some (.inl (jz v2)), some (.inr (.inl a3)), l4] [.inl (jz 0), .inr (.inl a3)] 5))) : jm_W dh_pr d 137 (0, [some (.inr (.inl a0)), some (.inl (jz v1)), some (.inl (jz v2)), some (.inr (.inl a3)), l4], [], h) Q :=
  (b137_0 (show (0 : Int32) = jz 0 from rfl) w.1 w.2)
theorem r137_8 {d : Nat} {Q : jm_Q} {h : jm_H} {l0 : Option jm_V} {l1 : Option jm_V} {l2 : Option jm_V} {l3 : Option jm_V} {l4 : Option jm_V} {r0 : Nat} {s1 : Int} {s2 : Int} (w : (jm_T h r0 = 101 ∧ ∃ n1 : Nat, jm_N h r0 = n1 ∧ jzi s1 n1 ∧ ((Q (.inl (some (.inl (jz 0)))) (jm_sL h r0 s1.toNat (Int32.toInt64 (jz s2))))))) : jm_W dh_pr d 137 (8, [l0, l1, l2, l3, l4], [.inl (jz s2), .inl (jz s1), .inr (.inl r0)], h) Q :=
  (w.2.elim fun n1 w1 => (b137_8 w.1 w1.1 (jz_in w1.2.1) (jz_ix w1.2.1.r) (b137_10 (b137_17 (show (0 : Int32) = jz 0 from rfl) w1.2.2))))
theorem r137_13 {d : Nat} {Q : jm_Q} {h : jm_H} {l0 : Option jm_V} {l1 : Option jm_V} {l2 : Option jm_V} {l3 : Option jm_V} {l4 : Option jm_V} {r0 : Nat} (w : (Q (.inl (some (.inl (jz 1)))) h)) : jm_W dh_pr d 137 (13, [l0, l1, l2, l3, l4], [.inr (.inl r0)], h) Q :=
  (b137_13 (show (1 : Int32) = jz 1 from rfl) w)
/-! 138 DeltaHistoryLaw.root(LDeltaHistory;II[J)I -/
theorem b138_0 {d : Nat} {Q : jm_Q} {h : jm_H} {a0 : Nat} {v1 : Int32} {v2 : Int32} {a3 : Nat} {l4 : Option jm_V} {y1 : Int32} (q1 : (0 : Int32) = y1) (c2 : jm_T h a0 = 1) (k : jm_E dh_pr d 16 [.inr (.inl a0), .inl v1, .inl v2] h (jm_k dh_pr d 138 Q 8 [some (.inr (.inl a0)), some (.inl v1), some (.inl v2), some (.inr (.inl a3)), l4] [.inl y1, .inr (.inl a3)] 5)) : jm_W dh_pr d 138 (0, [some (.inr (.inl a0)), some (.inl v1), some (.inl v2), some (.inr (.inl a3)), l4], [], h) Q := by
  subst q1
  exact jm_blk 6 (jm_callO rfl rfl rfl rfl rfl c2 k)
theorem b138_8 {d : Nat} {Q : jm_Q} {h : jm_H} {l0 : Option jm_V} {l1 : Option jm_V} {l2 : Option jm_V} {l3 : Option jm_V} {l4 : Option jm_V} {r0 : Nat} {s1 : Int32} {s2 : Int32} {n2 : Nat} {x4 : Nat} (c1 : jm_T h r0 = 101) (q2 : jm_N h r0 = n2) (c3 : jm_in s1 n2) (q4 : jm_ix s1 = x4) (k : jm_W dh_pr d 138 (10, [l0, l1, l2, l3, l4], [], jm_sL h r0 x4 (Int32.toInt64 s2)) Q) : jm_W dh_pr d 138 (8, [l0, l1, l2, l3, l4], [.inl s2, .inl s1, .inr (.inl r0)], h) Q := by
  subst q2 q4
  exact jm_blk 2 (And.intro c1 (And.intro c3 (k)))
theorem b138_10 {d : Nat} {Q : jm_Q} {h : jm_H} {l0 : Option jm_V} {l1 : Option jm_V} {l2 : Option jm_V} {l3 : Option jm_V} {l4 : Option jm_V} (k : jm_W dh_pr d 138 (17, [l0, l1, l2, l3, l4], [], h) Q) : jm_W dh_pr d 138 (10, [l0, l1, l2, l3, l4], [], h) Q := jm_blk 1 (k)
theorem b138_13 {d : Nat} {Q : jm_Q} {h : jm_H} {l0 : Option jm_V} {l1 : Option jm_V} {l2 : Option jm_V} {l3 : Option jm_V} {l4 : Option jm_V} {r0 : Nat} {y1 : Int32} (q1 : (1 : Int32) = y1) (k : Q (.inl (some (.inl y1))) h) : jm_W dh_pr d 138 (13, [l0, l1, l2, l3, l4], [.inr (.inl r0)], h) Q := by
  subst q1
  exact jm_blk 3 (k)
theorem b138_17 {d : Nat} {Q : jm_Q} {h : jm_H} {l0 : Option jm_V} {l1 : Option jm_V} {l2 : Option jm_V} {l3 : Option jm_V} {l4 : Option jm_V} {y1 : Int32} (q1 : (0 : Int32) = y1) (k : Q (.inl (some (.inl y1))) h) : jm_W dh_pr d 138 (17, [l0, l1, l2, l3, l4], [], h) Q := by
  subst q1
  exact jm_blk 2 (k)
theorem e138 {d : Nat} {Q : jm_Q} {h : jm_H} {a0 : Nat} {v1 : Int} {v2 : Int} {a3 : Nat} (w : jm_W dh_pr d 138 (0, [some (.inr (.inl a0)), some (.inl (jz v1)), some (.inl (jz v2)), some (.inr (.inl a3)), none], [], h) Q) : jm_E dh_pr (d + 1) 138 [.inr (.inl a0), .inl (jz v1), .inl (jz v2), .inr (.inl a3)] h Q := jm_E_in (Nat.le_of_ble_eq_true rfl) w
theorem r138_0 {d : Nat} {Q : jm_Q} {h : jm_H} {a0 : Nat} {v1 : Int} {v2 : Int} {a3 : Nat} {l4 : Option jm_V} (w : (jm_T h a0 = 1 ∧ jm_E dh_pr d 16 [.inr (.inl a0), .inl (jz v1), .inl (jz v2)] h (jm_k dh_pr d 138 Q 8 [some (.inr (.inl a0)), some (.inl (jz v1)), some (.inl (jz v2)), some (.inr (.inl a3)), l4] [.inl (jz 0), .inr (.inl a3)] 5))) : jm_W dh_pr d 138 (0, [some (.inr (.inl a0)), some (.inl (jz v1)), some (.inl (jz v2)), some (.inr (.inl a3)), l4], [], h) Q :=
  (b138_0 (show (0 : Int32) = jz 0 from rfl) w.1 w.2)
theorem r138_8 {d : Nat} {Q : jm_Q} {h : jm_H} {l0 : Option jm_V} {l1 : Option jm_V} {l2 : Option jm_V} {l3 : Option jm_V} {l4 : Option jm_V} {r0 : Nat} {s1 : Int} {s2 : Int} (w : (jm_T h r0 = 101 ∧ ∃ n1 : Nat, jm_N h r0 = n1 ∧ jzi s1 n1 ∧ ((Q (.inl (some (.inl (jz 0)))) (jm_sL h r0 s1.toNat (Int32.toInt64 (jz s2))))))) : jm_W dh_pr d 138 (8, [l0, l1, l2, l3, l4], [.inl (jz s2), .inl (jz s1), .inr (.inl r0)], h) Q :=
  (w.2.elim fun n1 w1 => (b138_8 w.1 w1.1 (jz_in w1.2.1) (jz_ix w1.2.1.r) (b138_10 (b138_17 (show (0 : Int32) = jz 0 from rfl) w1.2.2))))
theorem r138_13 {d : Nat} {Q : jm_Q} {h : jm_H} {l0 : Option jm_V} {l1 : Option jm_V} {l2 : Option jm_V} {l3 : Option jm_V} {l4 : Option jm_V} {r0 : Nat} (w : (Q (.inl (some (.inl (jz 1)))) h)) : jm_W dh_pr d 138 (13, [l0, l1, l2, l3, l4], [.inr (.inl r0)], h) Q :=
  (b138_13 (show (1 : Int32) = jz 1 from rfl) w)
/-! 139 DeltaHistoryLaw.compare(LDeltaHistory;I[J)I -/
theorem b139_0 {d : Nat} {Q : jm_Q} {h : jm_H} {a0 : Nat} {v1 : Int32} {a2 : Nat} {l3 : Option jm_V} {y1 : Int32} (q1 : (0 : Int32) = y1) (c2 : jm_T h a0 = 1) (k : jm_E dh_pr d 17 [.inr (.inl a0), .inl v1] h (jm_k dh_pr d 139 Q 7 [some (.inr (.inl a0)), some (.inl v1), some (.inr (.inl a2)), l3] [.inl y1, .inr (.inl a2)] 4)) : jm_W dh_pr d 139 (0, [some (.inr (.inl a0)), some (.inl v1), some (.inr (.inl a2)), l3], [], h) Q := by
  subst q1
  exact jm_blk 5 (jm_callO rfl rfl rfl rfl rfl c2 k)
theorem b139_7 {d : Nat} {Q : jm_Q} {h : jm_H} {l0 : Option jm_V} {l1 : Option jm_V} {l2 : Option jm_V} {l3 : Option jm_V} {r0 : Nat} {s1 : Int32} {s2 : Int32} {n2 : Nat} {x4 : Nat} (c1 : jm_T h r0 = 101) (q2 : jm_N h r0 = n2) (c3 : jm_in s1 n2) (q4 : jm_ix s1 = x4) (k : jm_W dh_pr d 139 (9, [l0, l1, l2, l3], [], jm_sL h r0 x4 (Int32.toInt64 s2)) Q) : jm_W dh_pr d 139 (7, [l0, l1, l2, l3], [.inl s2, .inl s1, .inr (.inl r0)], h) Q := by
  subst q2 q4
  exact jm_blk 2 (And.intro c1 (And.intro c3 (k)))
theorem b139_9 {d : Nat} {Q : jm_Q} {h : jm_H} {l0 : Option jm_V} {l1 : Option jm_V} {l2 : Option jm_V} {l3 : Option jm_V} (k : jm_W dh_pr d 139 (15, [l0, l1, l2, l3], [], h) Q) : jm_W dh_pr d 139 (9, [l0, l1, l2, l3], [], h) Q := jm_blk 1 (k)
theorem b139_12 {d : Nat} {Q : jm_Q} {h : jm_H} {l0 : Option jm_V} {l1 : Option jm_V} {l2 : Option jm_V} {l3 : Option jm_V} {r0 : Nat} {y1 : Int32} (q1 : (1 : Int32) = y1) (k : Q (.inl (some (.inl y1))) h) : jm_W dh_pr d 139 (12, [l0, l1, l2, l3], [.inr (.inl r0)], h) Q := by
  subst q1
  exact jm_blk 3 (k)
theorem b139_15 {d : Nat} {Q : jm_Q} {h : jm_H} {l0 : Option jm_V} {l1 : Option jm_V} {l2 : Option jm_V} {l3 : Option jm_V} {y1 : Int32} (q1 : (0 : Int32) = y1) (k : Q (.inl (some (.inl y1))) h) : jm_W dh_pr d 139 (15, [l0, l1, l2, l3], [], h) Q := by
  subst q1
  exact jm_blk 2 (k)
theorem e139 {d : Nat} {Q : jm_Q} {h : jm_H} {a0 : Nat} {v1 : Int} {a2 : Nat} (w : jm_W dh_pr d 139 (0, [some (.inr (.inl a0)), some (.inl (jz v1)), some (.inr (.inl a2)), none], [], h) Q) : jm_E dh_pr (d + 1) 139 [.inr (.inl a0), .inl (jz v1), .inr (.inl a2)] h Q := jm_E_in (Nat.le_of_ble_eq_true rfl) w
theorem r139_0 {d : Nat} {Q : jm_Q} {h : jm_H} {a0 : Nat} {v1 : Int} {a2 : Nat} {l3 : Option jm_V} (w : (jm_T h a0 = 1 ∧ jm_E dh_pr d 17 [.inr (.inl a0), .inl (jz v1)] h (jm_k dh_pr d 139 Q 7 [some (.inr (.inl a0)), some (.inl (jz v1)), some (.inr (.inl a2)), l3] [.inl (jz 0), .inr (.inl a2)] 4))) : jm_W dh_pr d 139 (0, [some (.inr (.inl a0)), some (.inl (jz v1)), some (.inr (.inl a2)), l3], [], h) Q :=
  (b139_0 (show (0 : Int32) = jz 0 from rfl) w.1 w.2)
theorem r139_7 {d : Nat} {Q : jm_Q} {h : jm_H} {l0 : Option jm_V} {l1 : Option jm_V} {l2 : Option jm_V} {l3 : Option jm_V} {r0 : Nat} {s1 : Int} {s2 : Int} (w : (jm_T h r0 = 101 ∧ ∃ n1 : Nat, jm_N h r0 = n1 ∧ jzi s1 n1 ∧ ((Q (.inl (some (.inl (jz 0)))) (jm_sL h r0 s1.toNat (Int32.toInt64 (jz s2))))))) : jm_W dh_pr d 139 (7, [l0, l1, l2, l3], [.inl (jz s2), .inl (jz s1), .inr (.inl r0)], h) Q :=
  (w.2.elim fun n1 w1 => (b139_7 w.1 w1.1 (jz_in w1.2.1) (jz_ix w1.2.1.r) (b139_9 (b139_15 (show (0 : Int32) = jz 0 from rfl) w1.2.2))))
theorem r139_12 {d : Nat} {Q : jm_Q} {h : jm_H} {l0 : Option jm_V} {l1 : Option jm_V} {l2 : Option jm_V} {l3 : Option jm_V} {r0 : Nat} (w : (Q (.inl (some (.inl (jz 1)))) h)) : jm_W dh_pr d 139 (12, [l0, l1, l2, l3], [.inr (.inl r0)], h) Q :=
  (b139_12 (show (1 : Int32) = jz 1 from rfl) w)
