section
-- ===== PART A: goes FIRST, ahead of the names: the tables' words, and 'selects' of the private methods out of them =====
/-- a private method of a class that the tables say can be made, by its rows of tables_1 -/
def lw_okq (q : MethodName × Nat) : Prop := (q.1.cls ≠ "java/lang/invoke/MethodHandle" ∧ q.1.cls ≠ "java/lang/invoke/VarHandle") ∧ Cond.instantiable q.1.cls q.2 ∈ tables_1 ∧ Cond.privateMethod q.1 ∈ tables_1 ∧ Cond.instanceMethod q.1 ∈ tables_1
theorem lw_p0 : lw_okq (⟨"DeltaHistory$Reader", "readHeads", "(LDeltaHistory$Bytes;LDeltaHistory$History;)Z"⟩, 1) := ⟨⟨by decide +kernel, by decide +kernel⟩, List.mem_of_getElem? (i := 121) (by decide +kernel), List.mem_of_getElem? (i := 318) (by decide +kernel), List.mem_of_getElem? (i := 319) (by decide +kernel)⟩
theorem lw_p1 : lw_okq (⟨"DeltaHistory$Reader", "findBodies", "(LDeltaHistory$Bytes;LDeltaHistory$History;)Z"⟩, 1) := ⟨⟨by decide +kernel, by decide +kernel⟩, List.mem_of_getElem? (i := 121) (by decide +kernel), List.mem_of_getElem? (i := 352) (by decide +kernel), List.mem_of_getElem? (i := 353) (by decide +kernel)⟩
theorem lw_p2 : lw_okq (⟨"DeltaHistory$Reader", "passText", "(LDeltaHistory$Bytes;)Z"⟩, 1) := ⟨⟨by decide +kernel, by decide +kernel⟩, List.mem_of_getElem? (i := 121) (by decide +kernel), List.mem_of_getElem? (i := 364) (by decide +kernel), List.mem_of_getElem? (i := 365) (by decide +kernel)⟩
theorem lw_p3 : lw_okq (⟨"DeltaHistory$Reader", "passSteps", "(LDeltaHistory$Bytes;)Z"⟩, 1) := ⟨⟨by decide +kernel, by decide +kernel⟩, List.mem_of_getElem? (i := 121) (by decide +kernel), List.mem_of_getElem? (i := 368) (by decide +kernel), List.mem_of_getElem? (i := 369) (by decide +kernel)⟩
theorem lw_p4 : lw_okq (⟨"DeltaHistory$Reader", "readBodies", "(LDeltaHistory$Bytes;LDeltaHistory$History;)Z"⟩, 1) := ⟨⟨by decide +kernel, by decide +kernel⟩, List.mem_of_getElem? (i := 121) (by decide +kernel), List.mem_of_getElem? (i := 372) (by decide +kernel), List.mem_of_getElem? (i := 373) (by decide +kernel)⟩
theorem lw_p5 : lw_okq (⟨"DeltaHistory$Reader", "readBody", "(LDeltaHistory$Bytes;LDeltaHistory$History;I)Z"⟩, 1) := ⟨⟨by decide +kernel, by decide +kernel⟩, List.mem_of_getElem? (i := 121) (by decide +kernel), List.mem_of_getElem? (i := 377) (by decide +kernel), List.mem_of_getElem? (i := 378) (by decide +kernel)⟩
theorem lw_p6 : lw_okq (⟨"DeltaHistory$Reader", "applySteps", "(LDeltaHistory$Bytes;LDeltaHistory$Text;LDeltaHistory$Text;)Z"⟩, 1) := ⟨⟨by decide +kernel, by decide +kernel⟩, List.mem_of_getElem? (i := 121) (by decide +kernel), List.mem_of_getElem? (i := 381) (by decide +kernel), List.mem_of_getElem? (i := 382) (by decide +kernel)⟩
theorem lw_p7 : lw_okq (⟨"DeltaHistory$Reader", "readLines", "(LDeltaHistory$Bytes;LDeltaHistory$Text;)Z"⟩, 1) := ⟨⟨by decide +kernel, by decide +kernel⟩, List.mem_of_getElem? (i := 121) (by decide +kernel), List.mem_of_getElem? (i := 389) (by decide +kernel), List.mem_of_getElem? (i := 390) (by decide +kernel)⟩
theorem lw_p8 : lw_okq (⟨"DeltaHistory$Delta", "countCommon", "(LDeltaHistory$Text;LDeltaHistory$Text;)V"⟩, 9) := ⟨⟨by decide +kernel, by decide +kernel⟩, List.mem_of_getElem? (i := 48) (by decide +kernel), List.mem_of_getElem? (i := 409) (by decide +kernel), List.mem_of_getElem? (i := 410) (by decide +kernel)⟩
theorem lw_p9 : lw_okq (⟨"DeltaHistory$Delta", "countLine", "(II)V"⟩, 9) := ⟨⟨by decide +kernel, by decide +kernel⟩, List.mem_of_getElem? (i := 48) (by decide +kernel), List.mem_of_getElem? (i := 416) (by decide +kernel), List.mem_of_getElem? (i := 417) (by decide +kernel)⟩
theorem lw_p10 : lw_okq (⟨"DeltaHistory$Writer", "writeDelta", "(LDeltaHistory$Bytes;)V"⟩, 1) := ⟨⟨by decide +kernel, by decide +kernel⟩, List.mem_of_getElem? (i := 109) (by decide +kernel), List.mem_of_getElem? (i := 420) (by decide +kernel), List.mem_of_getElem? (i := 421) (by decide +kernel)⟩
theorem lw_p11 : lw_okq (⟨"DeltaHistory$Writer", "writeText", "(LDeltaHistory$Text;LDeltaHistory$Bytes;)V"⟩, 1) := ⟨⟨by decide +kernel, by decide +kernel⟩, List.mem_of_getElem? (i := 109) (by decide +kernel), List.mem_of_getElem? (i := 428) (by decide +kernel), List.mem_of_getElem? (i := 429) (by decide +kernel)⟩
theorem lw_p12 : lw_okq (⟨"DeltaHistory", "takePlanned", "()V"⟩, 12) := ⟨⟨by decide +kernel, by decide +kernel⟩, List.mem_of_getElem? (i := 20) (by decide +kernel), List.mem_of_getElem? (i := 440) (by decide +kernel), List.mem_of_getElem? (i := 441) (by decide +kernel)⟩
theorem lw_p13 : lw_okq (⟨"java/lang/Throwable", "fillInStackTrace", "(I)Ljava/lang/Throwable;"⟩, 6) := ⟨⟨by decide +kernel, by decide +kernel⟩, List.mem_of_getElem? (i := 517) (by decide +kernel), List.mem_of_getElem? (i := 515) (by decide +kernel), List.mem_of_getElem? (i := 516) (by decide +kernel)⟩
theorem lw_p14 : lw_okq (⟨"DeltaHistory", "requireRevision", "(I)V"⟩, 12) := ⟨⟨by decide +kernel, by decide +kernel⟩, List.mem_of_getElem? (i := 20) (by decide +kernel), List.mem_of_getElem? (i := 542) (by decide +kernel), List.mem_of_getElem? (i := 543) (by decide +kernel)⟩
theorem lw_p15 : lw_okq (⟨"DeltaHistory", "changeLock", "(II)I"⟩, 12) := ⟨⟨by decide +kernel, by decide +kernel⟩, List.mem_of_getElem? (i := 20) (by decide +kernel), List.mem_of_getElem? (i := 562) (by decide +kernel), List.mem_of_getElem? (i := 563) (by decide +kernel)⟩
def lw_privs_1 : List (MethodName × Nat) := [(⟨"DeltaHistory$Reader", "readHeads", "(LDeltaHistory$Bytes;LDeltaHistory$History;)Z"⟩, 1), (⟨"DeltaHistory$Reader", "findBodies", "(LDeltaHistory$Bytes;LDeltaHistory$History;)Z"⟩, 1), (⟨"DeltaHistory$Reader", "passText", "(LDeltaHistory$Bytes;)Z"⟩, 1), (⟨"DeltaHistory$Reader", "passSteps", "(LDeltaHistory$Bytes;)Z"⟩, 1), (⟨"DeltaHistory$Reader", "readBodies", "(LDeltaHistory$Bytes;LDeltaHistory$History;)Z"⟩, 1), (⟨"DeltaHistory$Reader", "readBody", "(LDeltaHistory$Bytes;LDeltaHistory$History;I)Z"⟩, 1), (⟨"DeltaHistory$Reader", "applySteps", "(LDeltaHistory$Bytes;LDeltaHistory$Text;LDeltaHistory$Text;)Z"⟩, 1), (⟨"DeltaHistory$Reader", "readLines", "(LDeltaHistory$Bytes;LDeltaHistory$Text;)Z"⟩, 1), (⟨"DeltaHistory$Delta", "countCommon", "(LDeltaHistory$Text;LDeltaHistory$Text;)V"⟩, 9), (⟨"DeltaHistory$Delta", "countLine", "(II)V"⟩, 9), (⟨"DeltaHistory$Writer", "writeDelta", "(LDeltaHistory$Bytes;)V"⟩, 1), (⟨"DeltaHistory$Writer", "writeText", "(LDeltaHistory$Text;LDeltaHistory$Bytes;)V"⟩, 1), (⟨"DeltaHistory", "takePlanned", "()V"⟩, 12), (⟨"java/lang/Throwable", "fillInStackTrace", "(I)Ljava/lang/Throwable;"⟩, 6), (⟨"DeltaHistory", "requireRevision", "(I)V"⟩, 12), (⟨"DeltaHistory", "changeLock", "(II)I"⟩, 12)]
theorem lw_r1 : ∀ q ∈ lw_privs_1, lw_okq q := List.forall_mem_cons.mpr ⟨lw_p0, List.forall_mem_cons.mpr ⟨lw_p1, List.forall_mem_cons.mpr ⟨lw_p2, List.forall_mem_cons.mpr ⟨lw_p3, List.forall_mem_cons.mpr ⟨lw_p4, List.forall_mem_cons.mpr ⟨lw_p5, List.forall_mem_cons.mpr ⟨lw_p6, List.forall_mem_cons.mpr ⟨lw_p7, List.forall_mem_cons.mpr ⟨lw_p8, List.forall_mem_cons.mpr ⟨lw_p9, List.forall_mem_cons.mpr ⟨lw_p10, List.forall_mem_cons.mpr ⟨lw_p11, List.forall_mem_cons.mpr ⟨lw_p12, List.forall_mem_cons.mpr ⟨lw_p13, List.forall_mem_cons.mpr ⟨lw_p14, List.forall_mem_cons.mpr ⟨lw_p15, fun _ h => absurd h List.not_mem_nil⟩⟩⟩⟩⟩⟩⟩⟩⟩⟩⟩⟩⟩⟩⟩⟩
theorem lw_p16 : lw_okq (⟨"DeltaHistory", "carryOut", "(I)I"⟩, 12) := ⟨⟨by decide +kernel, by decide +kernel⟩, List.mem_of_getElem? (i := 20) (by decide +kernel), List.mem_of_getElem? (i := 575) (by decide +kernel), List.mem_of_getElem? (i := 576) (by decide +kernel)⟩
theorem lw_p17 : lw_okq (⟨"DeltaHistory", "requireLock", "(II)V"⟩, 12) := ⟨⟨by decide +kernel, by decide +kernel⟩, List.mem_of_getElem? (i := 20) (by decide +kernel), List.mem_of_getElem? (i := 593) (by decide +kernel), List.mem_of_getElem? (i := 594) (by decide +kernel)⟩
theorem lw_p18 : lw_okq (⟨"DeltaHistoryModel", "noRevision", "(I)Z"⟩, 43) := ⟨⟨by decide +kernel, by decide +kernel⟩, List.mem_of_getElem? (i := 693) (by decide +kernel), List.mem_of_getElem? (i := 866) (by decide +kernel), List.mem_of_getElem? (i := 867) (by decide +kernel)⟩
theorem lw_p19 : lw_okq (⟨"DeltaHistoryModel", "setLock", "(II)I"⟩, 43) := ⟨⟨by decide +kernel, by decide +kernel⟩, List.mem_of_getElem? (i := 693) (by decide +kernel), List.mem_of_getElem? (i := 870) (by decide +kernel), List.mem_of_getElem? (i := 871) (by decide +kernel)⟩
theorem lw_p20 : lw_okq (⟨"DeltaHistoryModel", "write", "()V"⟩, 43) := ⟨⟨by decide +kernel, by decide +kernel⟩, List.mem_of_getElem? (i := 693) (by decide +kernel), List.mem_of_getElem? (i := 874) (by decide +kernel), List.mem_of_getElem? (i := 875) (by decide +kernel)⟩
theorem lw_p21 : lw_okq (⟨"DeltaHistoryModel", "put", "(I)V"⟩, 43) := ⟨⟨by decide +kernel, by decide +kernel⟩, List.mem_of_getElem? (i := 693) (by decide +kernel), List.mem_of_getElem? (i := 878) (by decide +kernel), List.mem_of_getElem? (i := 879) (by decide +kernel)⟩
theorem lw_p22 : lw_okq (⟨"DeltaHistoryModel", "head", "()I"⟩, 43) := ⟨⟨by decide +kernel, by decide +kernel⟩, List.mem_of_getElem? (i := 693) (by decide +kernel), List.mem_of_getElem? (i := 882) (by decide +kernel), List.mem_of_getElem? (i := 883) (by decide +kernel)⟩
theorem lw_p23 : lw_okq (⟨"DeltaHistoryModel", "nextOf", "(I)I"⟩, 43) := ⟨⟨by decide +kernel, by decide +kernel⟩, List.mem_of_getElem? (i := 693) (by decide +kernel), List.mem_of_getElem? (i := 886) (by decide +kernel), List.mem_of_getElem? (i := 887) (by decide +kernel)⟩
theorem lw_p24 : lw_okq (⟨"DeltaHistoryModel", "onTrunk", "(I)Z"⟩, 43) := ⟨⟨by decide +kernel, by decide +kernel⟩, List.mem_of_getElem? (i := 693) (by decide +kernel), List.mem_of_getElem? (i := 890) (by decide +kernel), List.mem_of_getElem? (i := 891) (by decide +kernel)⟩
theorem lw_p25 : lw_okq (⟨"DeltaHistoryModel", "firstIs", "(I)V"⟩, 43) := ⟨⟨by decide +kernel, by decide +kernel⟩, List.mem_of_getElem? (i := 693) (by decide +kernel), List.mem_of_getElem? (i := 894) (by decide +kernel), List.mem_of_getElem? (i := 895) (by decide +kernel)⟩
theorem lw_p26 : lw_okq (⟨"DeltaHistoryModel", "secondIs", "(I)V"⟩, 43) := ⟨⟨by decide +kernel, by decide +kernel⟩, List.mem_of_getElem? (i := 693) (by decide +kernel), List.mem_of_getElem? (i := 898) (by decide +kernel), List.mem_of_getElem? (i := 899) (by decide +kernel)⟩
theorem lw_p27 : lw_okq (⟨"DeltaHistoryModel", "makeDelta", "()V"⟩, 43) := ⟨⟨by decide +kernel, by decide +kernel⟩, List.mem_of_getElem? (i := 693) (by decide +kernel), List.mem_of_getElem? (i := 902) (by decide +kernel), List.mem_of_getElem? (i := 903) (by decide +kernel)⟩
theorem lw_p28 : lw_okq (⟨"DeltaHistoryModel", "findCommon", "()V"⟩, 43) := ⟨⟨by decide +kernel, by decide +kernel⟩, List.mem_of_getElem? (i := 693) (by decide +kernel), List.mem_of_getElem? (i := 906) (by decide +kernel), List.mem_of_getElem? (i := 907) (by decide +kernel)⟩
theorem lw_p29 : lw_okq (⟨"DeltaHistoryModel", "note", "(IIIZ)V"⟩, 43) := ⟨⟨by decide +kernel, by decide +kernel⟩, List.mem_of_getElem? (i := 693) (by decide +kernel), List.mem_of_getElem? (i := 910) (by decide +kernel), List.mem_of_getElem? (i := 911) (by decide +kernel)⟩
theorem lw_p30 : lw_okq (⟨"DeltaHistoryModel", "putDelta", "()V"⟩, 43) := ⟨⟨by decide +kernel, by decide +kernel⟩, List.mem_of_getElem? (i := 693) (by decide +kernel), List.mem_of_getElem? (i := 914) (by decide +kernel), List.mem_of_getElem? (i := 915) (by decide +kernel)⟩
theorem lw_p31 : lw_okq (⟨"DeltaHistoryModel", "isCut", "()Z"⟩, 43) := ⟨⟨by decide +kernel, by decide +kernel⟩, List.mem_of_getElem? (i := 693) (by decide +kernel), List.mem_of_getElem? (i := 918) (by decide +kernel), List.mem_of_getElem? (i := 919) (by decide +kernel)⟩
def lw_privs_2 : List (MethodName × Nat) := [(⟨"DeltaHistory", "carryOut", "(I)I"⟩, 12), (⟨"DeltaHistory", "requireLock", "(II)V"⟩, 12), (⟨"DeltaHistoryModel", "noRevision", "(I)Z"⟩, 43), (⟨"DeltaHistoryModel", "setLock", "(II)I"⟩, 43), (⟨"DeltaHistoryModel", "write", "()V"⟩, 43), (⟨"DeltaHistoryModel", "put", "(I)V"⟩, 43), (⟨"DeltaHistoryModel", "head", "()I"⟩, 43), (⟨"DeltaHistoryModel", "nextOf", "(I)I"⟩, 43), (⟨"DeltaHistoryModel", "onTrunk", "(I)Z"⟩, 43), (⟨"DeltaHistoryModel", "firstIs", "(I)V"⟩, 43), (⟨"DeltaHistoryModel", "secondIs", "(I)V"⟩, 43), (⟨"DeltaHistoryModel", "makeDelta", "()V"⟩, 43), (⟨"DeltaHistoryModel", "findCommon", "()V"⟩, 43), (⟨"DeltaHistoryModel", "note", "(IIIZ)V"⟩, 43), (⟨"DeltaHistoryModel", "putDelta", "()V"⟩, 43), (⟨"DeltaHistoryModel", "isCut", "()Z"⟩, 43)]
theorem lw_r2 : ∀ q ∈ lw_privs_2, lw_okq q := List.forall_mem_cons.mpr ⟨lw_p16, List.forall_mem_cons.mpr ⟨lw_p17, List.forall_mem_cons.mpr ⟨lw_p18, List.forall_mem_cons.mpr ⟨lw_p19, List.forall_mem_cons.mpr ⟨lw_p20, List.forall_mem_cons.mpr ⟨lw_p21, List.forall_mem_cons.mpr ⟨lw_p22, List.forall_mem_cons.mpr ⟨lw_p23, List.forall_mem_cons.mpr ⟨lw_p24, List.forall_mem_cons.mpr ⟨lw_p25, List.forall_mem_cons.mpr ⟨lw_p26, List.forall_mem_cons.mpr ⟨lw_p27, List.forall_mem_cons.mpr ⟨lw_p28, List.forall_mem_cons.mpr ⟨lw_p29, List.forall_mem_cons.mpr ⟨lw_p30, List.forall_mem_cons.mpr ⟨lw_p31, fun _ h => absurd h List.not_mem_nil⟩⟩⟩⟩⟩⟩⟩⟩⟩⟩⟩⟩⟩⟩⟩⟩
theorem lw_p32 : lw_okq (⟨"DeltaHistoryModel", "putAside", "()V"⟩, 43) := ⟨⟨by decide +kernel, by decide +kernel⟩, List.mem_of_getElem? (i := 693) (by decide +kernel), List.mem_of_getElem? (i := 922) (by decide +kernel), List.mem_of_getElem? (i := 923) (by decide +kernel)⟩
theorem lw_p33 : lw_okq (⟨"DeltaHistoryModel", "replace", "()Z"⟩, 43) := ⟨⟨by decide +kernel, by decide +kernel⟩, List.mem_of_getElem? (i := 693) (by decide +kernel), List.mem_of_getElem? (i := 926) (by decide +kernel), List.mem_of_getElem? (i := 927) (by decide +kernel)⟩
theorem lw_p34 : lw_okq (⟨"DeltaHistoryModel", "nameIt", "(I)V"⟩, 43) := ⟨⟨by decide +kernel, by decide +kernel⟩, List.mem_of_getElem? (i := 693) (by decide +kernel), List.mem_of_getElem? (i := 938) (by decide +kernel), List.mem_of_getElem? (i := 939) (by decide +kernel)⟩
theorem lw_p35 : lw_okq (⟨"DeltaHistoryModel", "branch", "(I)I"⟩, 43) := ⟨⟨by decide +kernel, by decide +kernel⟩, List.mem_of_getElem? (i := 693) (by decide +kernel), List.mem_of_getElem? (i := 942) (by decide +kernel), List.mem_of_getElem? (i := 943) (by decide +kernel)⟩
theorem lw_p36 : lw_okq (⟨"DeltaHistoryModel", "keep", "()V"⟩, 43) := ⟨⟨by decide +kernel, by decide +kernel⟩, List.mem_of_getElem? (i := 693) (by decide +kernel), List.mem_of_getElem? (i := 962) (by decide +kernel), List.mem_of_getElem? (i := 963) (by decide +kernel)⟩
theorem lw_p37 : lw_okq (⟨"DeltaHistoryModel", "readHeads", "()V"⟩, 43) := ⟨⟨by decide +kernel, by decide +kernel⟩, List.mem_of_getElem? (i := 693) (by decide +kernel), List.mem_of_getElem? (i := 966) (by decide +kernel), List.mem_of_getElem? (i := 967) (by decide +kernel)⟩
theorem lw_p38 : lw_okq (⟨"DeltaHistoryModel", "take", "(II)I"⟩, 43) := ⟨⟨by decide +kernel, by decide +kernel⟩, List.mem_of_getElem? (i := 693) (by decide +kernel), List.mem_of_getElem? (i := 970) (by decide +kernel), List.mem_of_getElem? (i := 971) (by decide +kernel)⟩
theorem lw_p39 : lw_okq (⟨"DeltaHistoryModel", "findParts", "()V"⟩, 43) := ⟨⟨by decide +kernel, by decide +kernel⟩, List.mem_of_getElem? (i := 693) (by decide +kernel), List.mem_of_getElem? (i := 974) (by decide +kernel), List.mem_of_getElem? (i := 975) (by decide +kernel)⟩
theorem lw_p40 : lw_okq (⟨"DeltaHistoryModel", "makeTexts", "()V"⟩, 43) := ⟨⟨by decide +kernel, by decide +kernel⟩, List.mem_of_getElem? (i := 693) (by decide +kernel), List.mem_of_getElem? (i := 978) (by decide +kernel), List.mem_of_getElem? (i := 979) (by decide +kernel)⟩
theorem lw_p41 : lw_okq (⟨"DeltaHistoryModel", "addLine", "(II)V"⟩, 43) := ⟨⟨by decide +kernel, by decide +kernel⟩, List.mem_of_getElem? (i := 693) (by decide +kernel), List.mem_of_getElem? (i := 982) (by decide +kernel), List.mem_of_getElem? (i := 983) (by decide +kernel)⟩
theorem lw_p42 : lw_okq (⟨"DeltaHistoryModel", "apply", "(II)V"⟩, 43) := ⟨⟨by decide +kernel, by decide +kernel⟩, List.mem_of_getElem? (i := 693) (by decide +kernel), List.mem_of_getElem? (i := 986) (by decide +kernel), List.mem_of_getElem? (i := 987) (by decide +kernel)⟩
theorem lw_p43 : lw_okq (⟨"DeltaHistoryModel", "isWritten", "()Z"⟩, 43) := ⟨⟨by decide +kernel, by decide +kernel⟩, List.mem_of_getElem? (i := 693) (by decide +kernel), List.mem_of_getElem? (i := 990) (by decide +kernel), List.mem_of_getElem? (i := 991) (by decide +kernel)⟩
theorem lw_p44 : lw_okq (⟨"DeltaHistoryModel", "giveBack", "()V"⟩, 43) := ⟨⟨by decide +kernel, by decide +kernel⟩, List.mem_of_getElem? (i := 693) (by decide +kernel), List.mem_of_getElem? (i := 994) (by decide +kernel), List.mem_of_getElem? (i := 995) (by decide +kernel)⟩
def lw_privs_3 : List (MethodName × Nat) := [(⟨"DeltaHistoryModel", "putAside", "()V"⟩, 43), (⟨"DeltaHistoryModel", "replace", "()Z"⟩, 43), (⟨"DeltaHistoryModel", "nameIt", "(I)V"⟩, 43), (⟨"DeltaHistoryModel", "branch", "(I)I"⟩, 43), (⟨"DeltaHistoryModel", "keep", "()V"⟩, 43), (⟨"DeltaHistoryModel", "readHeads", "()V"⟩, 43), (⟨"DeltaHistoryModel", "take", "(II)I"⟩, 43), (⟨"DeltaHistoryModel", "findParts", "()V"⟩, 43), (⟨"DeltaHistoryModel", "makeTexts", "()V"⟩, 43), (⟨"DeltaHistoryModel", "addLine", "(II)V"⟩, 43), (⟨"DeltaHistoryModel", "apply", "(II)V"⟩, 43), (⟨"DeltaHistoryModel", "isWritten", "()Z"⟩, 43), (⟨"DeltaHistoryModel", "giveBack", "()V"⟩, 43)]
theorem lw_r3 : ∀ q ∈ lw_privs_3, lw_okq q := List.forall_mem_cons.mpr ⟨lw_p32, List.forall_mem_cons.mpr ⟨lw_p33, List.forall_mem_cons.mpr ⟨lw_p34, List.forall_mem_cons.mpr ⟨lw_p35, List.forall_mem_cons.mpr ⟨lw_p36, List.forall_mem_cons.mpr ⟨lw_p37, List.forall_mem_cons.mpr ⟨lw_p38, List.forall_mem_cons.mpr ⟨lw_p39, List.forall_mem_cons.mpr ⟨lw_p40, List.forall_mem_cons.mpr ⟨lw_p41, List.forall_mem_cons.mpr ⟨lw_p42, List.forall_mem_cons.mpr ⟨lw_p43, List.forall_mem_cons.mpr ⟨lw_p44, fun _ h => absurd h List.not_mem_nil⟩⟩⟩⟩⟩⟩⟩⟩⟩⟩⟩⟩⟩
def lw_privs : List (MethodName × Nat) := lw_privs_1 ++ (lw_privs_2 ++ (lw_privs_3))
def lw_tbl : List Cond := k2_sels lw_privs ++ tables_1
theorem lw_privs_ok : ∀ q ∈ lw_privs, lw_okq q := by
  show ∀ q ∈ lw_privs_1 ++ (lw_privs_2 ++ (lw_privs_3)), lw_okq q
  exact List.forall_mem_append.mpr ⟨lw_r1, List.forall_mem_append.mpr ⟨lw_r2, lw_r3⟩⟩
end
section
/-! An abstract machine: values of three kinds, a heap of numbered objects, code whose links are already resolved.
A run is told by the least predicate that the steps close: no fuel, no inductive type. -/
abbrev jm_V : Type := Int32 ⊕ (Nat ⊕ Int64)
/-- kind, length, numbers, references, longs -/
abbrev jm_O : Type := Nat × Nat × (Nat → Int32) × (Nat → Nat) × (Nat → Int64)
/-- the next address, the slots that are used, the objects -/
abbrev jm_H : Type := Nat × Nat × (Nat → jm_O)
abbrev jm_Ls : Type := List (Option jm_V)
/-- place in the code, locals, stack, heap -/
abbrev jm_C : Type := Nat × jm_Ls × List jm_V × jm_H
/-- returned, or threw the object at that address -/
abbrev jm_R : Type := Option jm_V ⊕ Nat
/-- operation, length, two small numbers, a constant -/
abbrev jm_In : Type := Nat × Nat × Nat × Nat × Int32
abbrev jm_Q : Type := jm_R → jm_H → Prop
/-- code of the methods, handlers (method, place, kind of the thrown object), locals, kind of the receiver (0: static), switches, most addresses, most slots, frames and words that a method needs above it -/
abbrev jm_Pr : Type := (Nat → List (Nat × jm_In)) × (Nat → Nat → Nat → Option Nat) × (Nat → Nat) × (Nat → Nat) × (Nat → List (Int32 × Nat) × Nat) × Nat × Nat × (Nat → Nat × Nat)
def jm_T (h : jm_H) (a : Nat) : Nat := (h.2.2 a).1
def jm_N (h : jm_H) (a : Nat) : Nat := (h.2.2 a).2.1
def jm_I (h : jm_H) (a k : Nat) : Int32 := (h.2.2 a).2.2.1 k
def jm_F (h : jm_H) (a k : Nat) : Nat := (h.2.2 a).2.2.2.1 k
def jm_L (h : jm_H) (a k : Nat) : Int64 := (h.2.2 a).2.2.2.2 k
def jm_up {α : Type} (f : Nat → α) (k : Nat) (x : α) : Nat → α := fun j => if j = k then x else f j
theorem jm_up_at {α : Type} (f : Nat → α) (k : Nat) (x : α) (j : Nat) : jm_up f k x j = if j = k then x else f j := rfl
theorem jm_up_self {α : Type} (f : Nat → α) (k : Nat) (x : α) : jm_up f k x k = x := if_pos rfl
theorem jm_up_ne {α : Type} (f : Nat → α) {k j : Nat} (x : α) (h : j ≠ k) : jm_up f k x j = f j := if_neg h
def jm_sI (h : jm_H) (a k : Nat) (x : Int32) : jm_H := (h.1, h.2.1, jm_up h.2.2 a ((h.2.2 a).1, (h.2.2 a).2.1, jm_up (h.2.2 a).2.2.1 k x, (h.2.2 a).2.2.2))
def jm_sF (h : jm_H) (a k x : Nat) : jm_H := (h.1, h.2.1, jm_up h.2.2 a ((h.2.2 a).1, (h.2.2 a).2.1, (h.2.2 a).2.2.1, jm_up (h.2.2 a).2.2.2.1 k x, (h.2.2 a).2.2.2.2))
def jm_sL (h : jm_H) (a k : Nat) (x : Int64) : jm_H := (h.1, h.2.1, jm_up h.2.2 a ((h.2.2 a).1, (h.2.2 a).2.1, (h.2.2 a).2.2.1, (h.2.2 a).2.2.2.1, jm_up (h.2.2 a).2.2.2.2 k x))
def jm_sT (h : jm_H) (a t : Nat) : jm_H := (h.1, h.2.1, jm_up h.2.2 a (t, (h.2.2 a).2))
/-- all numbers of an object anew -/
def jm_sA (h : jm_H) (a : Nat) (f : Nat → Int32) : jm_H := (h.1, h.2.1, jm_up h.2.2 a ((h.2.2 a).1, (h.2.2 a).2.1, f, (h.2.2 a).2.2.2))
def jm_new (h : jm_H) (t n z : Nat) : jm_H := (h.1 + 1, h.2.1 + z, jm_up h.2.2 h.1 (t, n, fun _ => 0, fun _ => 0, fun _ => 0))
/-- an array of n arrays of k numbers -/
def jm_mul (h : jm_H) (t n k : Nat) : jm_H := (h.1 + 1 + n, h.2.1 + n + n * k, fun a => if a = h.1 then (t, n, fun _ => 0, fun j => if j < n then h.1 + 1 + j else 0, fun _ => 0) else if h.1 < a ∧ a < h.1 + 1 + n then (100, k, fun _ => 0, fun _ => 0, fun _ => 0) else h.2.2 a)
def jm_cpy (f g : Nat → Int32) (a b n : Nat) : Nat → Int32 := fun j => if b ≤ j ∧ j < b + n then f (a + (j - b)) else g j
def jm_ix (j : Int32) : Nat := j.toInt.toNat
/-- an index within an array -/
def jm_in (j : Int32) (n : Nat) : Prop := 0 ≤ j.toInt ∧ j.toInt < (n : Int)
def jm_bin (x : Nat) (a b : Int32) : Int32 := match x with
  | 0 => a + b
  | 1 => a - b
  | 2 => a * b
  | 3 => a &&& b
  | 4 => a ||| b
  | 5 => a ^^^ b
  | 6 => a <<< (b &&& 31)
  | 7 => a >>> (b &&& 31)
  | _ => 0
def jm_cmp (x : Nat) (a b : Int32) : Prop := match x with
  | 0 => a = b
  | 1 => ¬ a = b
  | 2 => a < b
  | 3 => b ≤ a
  | 4 => b < a
  | 5 => a ≤ b
  | _ => False
def jm_sl : List (Int32 × Nat) → Nat → Int32 → Nat
  | [], d, _ => d
  | q :: r, d, x => if x = q.1 then q.2 else jm_sl r d x
def jm_sel (t : List (Int32 × Nat) × Nat) (x : Int32) : Nat := jm_sl t.1 t.2 x
/-- words of an operand stack -/
def jm_cs : List jm_V → Nat
  | [] => 0
  | .inl _ :: r => 1 + jm_cs r
  | .inr (.inl _) :: r => 1 + jm_cs r
  | .inr (.inr _) :: r => 2 + jm_cs r
section JO
variable (P : jm_C → Prop) (Q : jm_Q) (q : Nat) (ls : jm_Ls) (st : List jm_V) (h : jm_H)
def jo_iload (x : Nat) : Prop := match ls[x]? with
  | some (some (.inl v)) => P (q, ls, .inl v :: st, h)
  | _ => False
def jo_aload (x : Nat) : Prop := match ls[x]? with
  | some (some (.inr (.inl v))) => P (q, ls, .inr (.inl v) :: st, h)
  | _ => False
def jo_istore (x : Nat) : Prop := match st with
  | .inl v :: st => P (q, ls.set x (some (.inl v)), st, h)
  | _ => False
def jo_astore (x : Nat) : Prop := match st with
  | .inr (.inl v) :: st => P (q, ls.set x (some (.inr (.inl v))), st, h)
  | _ => False
def jo_iinc (x : Nat) (k : Int32) : Prop := match ls[x]? with
  | some (some (.inl v)) => P (q, ls.set x (some (.inl (v + k))), st, h)
  | _ => False
def jo_bin (x : Nat) : Prop := match st with
  | .inl b :: .inl a :: st => P (q, ls, .inl (jm_bin x a b) :: st, h)
  | _ => False
def jo_if (x y : Nat) : Prop := match st with
  | .inl a :: st => (jm_cmp x a 0 → P (y, ls, st, h)) ∧ (¬ jm_cmp x a 0 → P (q, ls, st, h))
  | _ => False
def jo_icmp (x y : Nat) : Prop := match st with
  | .inl b :: .inl a :: st => (jm_cmp x a b → P (y, ls, st, h)) ∧ (¬ jm_cmp x a b → P (q, ls, st, h))
  | _ => False
def jo_switch (t : List (Int32 × Nat) × Nat) : Prop := match st with
  | .inl a :: st => P (jm_sel t a, ls, st, h)
  | _ => False
def jo_geti (x y : Nat) : Prop := match st with
  | .inr (.inl a) :: st => jm_T h a = x ∧ P (q, ls, .inl (jm_I h a y) :: st, h)
  | _ => False
def jo_getr (x y : Nat) : Prop := match st with
  | .inr (.inl a) :: st => jm_T h a = x ∧ P (q, ls, .inr (.inl (jm_F h a y)) :: st, h)
  | _ => False
def jo_puti (x y : Nat) : Prop := match st with
  | .inl v :: .inr (.inl a) :: st => jm_T h a = x ∧ P (q, ls, st, jm_sI h a y v)
  | _ => False
def jo_putz (x y : Nat) : Prop := match st with
  | .inl v :: .inr (.inl a) :: st => jm_T h a = x ∧ (v = 0 ∨ v = 1) ∧ P (q, ls, st, jm_sI h a y v)
  | _ => False
def jo_putr (x y : Nat) : Prop := match st with
  | .inr (.inl v) :: .inr (.inl a) :: st => jm_T h a = x ∧ P (q, ls, st, jm_sF h a y v)
  | _ => False
def jo_iald (t : Nat) : Prop := match st with
  | .inl j :: .inr (.inl a) :: st => jm_T h a = t ∧ jm_in j (jm_N h a) ∧ P (q, ls, .inl (jm_I h a (jm_ix j)) :: st, h)
  | _ => False
def jo_iast : Prop := match st with
  | .inl v :: .inl j :: .inr (.inl a) :: st => jm_T h a = 100 ∧ jm_in j (jm_N h a) ∧ P (q, ls, st, jm_sI h a (jm_ix j) v)
  | _ => False
def jo_aald (t : Nat) : Prop := match st with
  | .inl j :: .inr (.inl a) :: st => jm_T h a = t ∧ jm_in j (jm_N h a) ∧ P (q, ls, .inr (.inl (jm_F h a (jm_ix j))) :: st, h)
  | _ => False
def jo_aast (t y : Nat) : Prop := match st with
  | .inr (.inl v) :: .inl j :: .inr (.inl a) :: st => jm_T h a = t ∧ jm_in j (jm_N h a) ∧ jm_T h v = y ∧ P (q, ls, st, jm_sF h a (jm_ix j) v)
  | _ => False
def jo_alen (t : Nat) : Prop := match st with
  | .inr (.inl a) :: st => jm_T h a = t ∧ P (q, ls, .inl (Int32.ofNat (jm_N h a)) :: st, h)
  | _ => False
/-- an array of the kind t -/
def jo_newa (t c z : Nat) : Prop := match st with
  | .inl k :: st => 0 ≤ k.toInt ∧ k.toInt ≤ 100000 ∧ h.1 + 1 ≤ c ∧ h.2.1 + jm_ix k ≤ z ∧ P (q, ls, .inr (.inl h.1) :: st, jm_new h t (jm_ix k) (jm_ix k))
  | _ => False
def jo_multi (t c z : Nat) : Prop := match st with
  | .inl k :: .inl n :: st => n = 13 ∧ k = 13 ∧ h.1 + 14 ≤ c ∧ h.2.1 + 182 ≤ z ∧ P (q, ls, .inr (.inl h.1) :: st, jm_mul h t 13 13)
  | _ => False
def jo_new (t n c z : Nat) : Prop := h.1 + 1 ≤ c ∧ h.2.1 + n ≤ z ∧ P (q, ls, .inr (.inl h.1) :: st, jm_new h t 0 n)
def jo_dup : Prop := match st with
  | .inl v :: st => P (q, ls, .inl v :: .inl v :: st, h)
  | .inr (.inl v) :: st => P (q, ls, .inr (.inl v) :: .inr (.inl v) :: st, h)
  | _ => False
def jo_dup2 : Prop := match st with
  | .inl j :: .inr (.inl a) :: st => P (q, ls, .inl j :: .inr (.inl a) :: .inl j :: .inr (.inl a) :: st, h)
  | _ => False
def jo_dupx1 : Prop := match st with
  | .inl j :: .inr (.inl a) :: st => P (q, ls, .inl j :: .inr (.inl a) :: .inl j :: st, h)
  | _ => False
def jo_pop : Prop := match st with
  | .inl _ :: st => P (q, ls, st, h)
  | .inr (.inl _) :: st => P (q, ls, st, h)
  | _ => False
/-- what becomes of a throw at the place pc -/
def jo_thr (hd : Nat → Nat → Option Nat) (pc a : Nat) : Prop := match hd pc (jm_T h a) with
  | some y => y ≠ 999999 ∧ P (y, ls, [.inr (.inl a)], h)
  | none => Q (.inr a) h
def jo_call (E : Nat → List jm_V → jm_H → jm_Q → Prop) (hd : Nat → Nat → Option Nat) (pc x y t nx : Nat) (wx w : Nat × Nat) : Prop :=
  y ≤ st.length ∧ (wx.1 + 1 ≤ w.1 ∧ jm_cs (st.drop y) + (nx + 11) + wx.2 ≤ w.2) ∧ (∀ v ∈ st.take y, ∀ z, v ≠ .inr (.inr z)) ∧ (match t with
    | 0 => True
    | t + 1 => ∃ a, (st.take y).getLast? = some (.inr (.inl a)) ∧ jm_T h a = t + 1) ∧
  E x (st.take y).reverse h (fun o h' => match o with
    | .inl none => P (q, ls, st.drop y, h')
    | .inl (some v) => P (q, ls, v :: st.drop y, h')
    | .inr a => jo_thr P Q ls h' hd pc a)
def jo_oinit (w : Nat × Nat) : Prop := match st with
  | .inr (.inl a) :: st => ¬ jm_T h a = 0 ∧ (1 ≤ w.1 ∧ jm_cs st + 12 ≤ w.2) ∧ P (q, ls, st, h)
  | _ => False
def jo_xinit (t : Nat) (w : Nat × Nat) : Prop := match st with
  | .inr (.inl a) :: st => jm_T h a = t ∧ (6 ≤ w.1 ∧ jm_cs st + 80 ≤ w.2) ∧ P (q, ls, st, jm_sT h a (t + 1))
  | _ => False
def jo_athrow (hd : Nat → Nat → Option Nat) (pc : Nat) : Prop := match st with
  | .inr (.inl a) :: _ => 200 ≤ jm_T h a ∧ jm_T h a % 2 = 1 ∧ jo_thr P Q ls h hd pc a
  | _ => False
def jo_iret : Prop := match st with
  | [.inl v] => Q (.inl (some (.inl v))) h
  | _ => False
def jo_zret : Prop := match st with
  | [.inl v] => (v = 0 ∨ v = 1) ∧ Q (.inl (some (.inl v))) h
  | _ => False
def jo_vret : Prop := match st with
  | [] => Q (.inl none) h
  | _ => False
def jo_aret : Prop := match st with
  | [.inr (.inl a)] => Q (.inl (some (.inr (.inl a)))) h
  | _ => False
def jo_i2l : Prop := match st with
  | .inl v :: st => P (q, ls, .inr (.inr v.toInt64) :: st, h)
  | _ => False
def jo_lald : Prop := match st with
  | .inl j :: .inr (.inl a) :: st => jm_T h a = 101 ∧ jm_in j (jm_N h a) ∧ P (q, ls, .inr (.inr (jm_L h a (jm_ix j))) :: st, h)
  | _ => False
def jo_last : Prop := match st with
  | .inr (.inr v) :: .inl j :: .inr (.inl a) :: st => jm_T h a = 101 ∧ jm_in j (jm_N h a) ∧ P (q, ls, st, jm_sL h a (jm_ix j) v)
  | _ => False
def jo_lcmp : Prop := match st with
  | .inr (.inr b) :: .inr (.inr a) :: st => P (q, ls, .inl (lg_cmp a b) :: st, h)
  | _ => False
def jo_max (w : Nat × Nat) : Prop := match st with
  | .inl b :: .inl a :: st => (1 ≤ w.1 ∧ jm_cs st + 13 ≤ w.2) ∧ P (q, ls, .inl (if a < b then b else a) :: st, h)
  | _ => False
def jo_min (w : Nat × Nat) : Prop := match st with
  | .inl b :: .inl a :: st => (1 ≤ w.1 ∧ jm_cs st + 13 ≤ w.2) ∧ P (q, ls, .inl (if b < a then b else a) :: st, h)
  | _ => False
def jo_irem : Prop := match st with
  | .inl b :: .inl a :: st => ¬ b = 0 ∧ P (q, ls, .inl (a - a / b * b) :: st, h)
  | _ => False
def jo_copy (w : Nat × Nat) : Prop := match st with
  | .inl n :: .inl dp :: .inr (.inl b) :: .inl sp :: .inr (.inl a) :: st => jm_T h a = 100 ∧ jm_T h b = 100 ∧ 0 ≤ n.toInt ∧ 0 ≤ sp.toInt ∧ 0 ≤ dp.toInt ∧ sp.toInt + n.toInt ≤ (jm_N h a : Int) ∧ dp.toInt + n.toInt ≤ (jm_N h b : Int) ∧ (1 ≤ w.1 ∧ jm_cs st + 18 ≤ w.2) ∧ P (q, ls, st, jm_sA h b (jm_cpy (jm_I h a) (jm_I h b) (jm_ix sp) (jm_ix dp) (jm_ix n)))
  | _ => False
end JO
def jm_step (pr : jm_Pr) (E : Nat → List jm_V → jm_H → jm_Q → Prop) (mi : Nat) (P : jm_C → Prop) (Q : jm_Q) (i : jm_In) (pc : Nat) (ls : jm_Ls) (st : List jm_V) (h : jm_H) : Prop :=
  match i.1 with
  | 1 => P (pc + i.2.1, ls, .inl i.2.2.2.2 :: st, h)
  | 2 => jo_iload P (pc + i.2.1) ls st h i.2.2.1
  | 3 => jo_aload P (pc + i.2.1) ls st h i.2.2.1
  | 4 => jo_istore P (pc + i.2.1) ls st h i.2.2.1
  | 5 => jo_astore P (pc + i.2.1) ls st h i.2.2.1
  | 6 => jo_iinc P (pc + i.2.1) ls st h i.2.2.1 i.2.2.2.2
  | 7 => jo_bin P (pc + i.2.1) ls st h i.2.2.1
  | 8 => jo_if P (pc + i.2.1) ls st h i.2.2.1 i.2.2.2.1
  | 9 => jo_icmp P (pc + i.2.1) ls st h i.2.2.1 i.2.2.2.1
  | 10 => P (i.2.2.2.1, ls, st, h)
  | 11 => jo_switch P ls st h (pr.2.2.2.2.1 i.2.2.2.1)
  | 12 => jo_geti P (pc + i.2.1) ls st h i.2.2.1 i.2.2.2.1
  | 13 => jo_getr P (pc + i.2.1) ls st h i.2.2.1 i.2.2.2.1
  | 14 => jo_puti P (pc + i.2.1) ls st h i.2.2.1 i.2.2.2.1
  | 15 => jo_putz P (pc + i.2.1) ls st h i.2.2.1 i.2.2.2.1
  | 16 => jo_putr P (pc + i.2.1) ls st h i.2.2.1 i.2.2.2.1
  | 17 => jo_iald P (pc + i.2.1) ls st h 100
  | 18 => jo_iald P (pc + i.2.1) ls st h 99
  | 19 => jo_iast P (pc + i.2.1) ls st h
  | 20 => jo_aald P (pc + i.2.1) ls st h i.2.2.1
  | 21 => jo_aast P (pc + i.2.1) ls st h i.2.2.1 i.2.2.2.1
  | 22 => jo_alen P (pc + i.2.1) ls st h i.2.2.1
  | 23 => jo_alen P (pc + i.2.1) ls st h 99
  | 24 => jo_newa P (pc + i.2.1) ls st h i.2.2.1 pr.2.2.2.2.2.1 pr.2.2.2.2.2.2.1
  | 25 => jo_newa P (pc + i.2.1) ls st h i.2.2.1 pr.2.2.2.2.2.1 pr.2.2.2.2.2.2.1
  | 27 => jo_multi P (pc + i.2.1) ls st h i.2.2.1 pr.2.2.2.2.2.1 pr.2.2.2.2.2.2.1
  | 28 => jo_new P (pc + i.2.1) ls st h i.2.2.1 i.2.2.2.1 pr.2.2.2.2.2.1 pr.2.2.2.2.2.2.1
  | 29 => jo_dup P (pc + i.2.1) ls st h
  | 30 => jo_dup2 P (pc + i.2.1) ls st h
  | 31 => jo_pop P (pc + i.2.1) ls st h
  | 32 => jo_call P Q (pc + i.2.1) ls st h E (pr.2.1 mi) pc i.2.2.1 i.2.2.2.1 (pr.2.2.2.1 i.2.2.1) (pr.2.2.1 i.2.2.1) (pr.2.2.2.2.2.2.2 i.2.2.1) (pr.2.2.2.2.2.2.2 mi)
  | 33 => jo_oinit P (pc + i.2.1) ls st h (pr.2.2.2.2.2.2.2 mi)
  | 34 => jo_new P (pc + i.2.1) ls st h i.2.2.1 6 pr.2.2.2.2.2.1 pr.2.2.2.2.2.2.1
  | 35 => jo_xinit P (pc + i.2.1) ls st h i.2.2.1 (pr.2.2.2.2.2.2.2 mi)
  | 36 => jo_athrow P Q ls st h (pr.2.1 mi) pc
  | 37 => jo_iret Q st h
  | 38 => jo_zret Q st h
  | 39 => jo_vret Q st h
  | 40 => jo_aret Q st h
  | 41 => jo_i2l P (pc + i.2.1) ls st h
  | 42 => jo_lald P (pc + i.2.1) ls st h
  | 43 => jo_last P (pc + i.2.1) ls st h
  | 44 => jo_lcmp P (pc + i.2.1) ls st h
  | 45 => jo_max P (pc + i.2.1) ls st h (pr.2.2.2.2.2.2.2 mi)
  | 46 => jo_min P (pc + i.2.1) ls st h (pr.2.2.2.2.2.2.2 mi)
  | 47 => jo_copy P (pc + i.2.1) ls st h (pr.2.2.2.2.2.2.2 mi)
  | 50 => jo_irem P (pc + i.2.1) ls st h
  | 48 => jo_dupx1 P (pc + i.2.1) ls st h
  | _ => False
def jm_S (pr : jm_Pr) (E : Nat → List jm_V → jm_H → jm_Q → Prop) (mi : Nat) (P : jm_C → Prop) (Q : jm_Q) (c : jm_C) : Prop := match (pr.1 mi).lookup c.1 with
  | some i => jm_step pr E mi P Q i c.1 c.2.1 c.2.2.1 c.2.2.2
  | none => False
def jm_en (pr : jm_Pr) (mi : Nat) (as : List jm_V) : jm_Ls := as.map some ++ List.replicate (pr.2.2.1 mi - as.length) none
/-- method mi, called at depth d, ends so that Q holds -/
def jm_E (pr : jm_Pr) : Nat → Nat → List jm_V → jm_H → jm_Q → Prop
  | 0, _, _, _, _ => False
  | d + 1, mi, as, h, Q => as.length ≤ pr.2.2.1 mi ∧ ∀ P : jm_C → Prop, (∀ c, jm_S pr (jm_E pr d) mi P Q c → P c) → P (0, jm_en pr mi as, [], h)
/-- from c on -/
def jm_W (pr : jm_Pr) (d mi : Nat) (c : jm_C) (Q : jm_Q) : Prop := ∀ P : jm_C → Prop, (∀ c, jm_S pr (jm_E pr d) mi P Q c → P c) → P c
theorem jm_E_in {pr : jm_Pr} {d mi : Nat} {as : List jm_V} {h : jm_H} {Q : jm_Q} (hl : as.length ≤ pr.2.2.1 mi) (w : jm_W pr d mi (0, jm_en pr mi as, [], h) Q) : jm_E pr (d + 1) mi as h Q := ⟨hl, w⟩
section JMono
variable {P P' : jm_C → Prop} {Q Q' : jm_Q}
theorem jo_thr_mono (hP : ∀ c, P c → P' c) (hQ : ∀ o h, Q o h → Q' o h) {ls : jm_Ls} {h : jm_H} {hd : Nat → Nat → Option Nat} {pc a : Nat} : jo_thr P Q ls h hd pc a → jo_thr P' Q' ls h hd pc a := by
  unfold jo_thr
  split
  · exact fun z => ⟨z.1, hP _ z.2⟩
  · exact hQ _ _
theorem jm_step_mono (hP : ∀ c, P c → P' c) (hQ : ∀ o h, Q o h → Q' o h) {pr : jm_Pr} {E E' : Nat → List jm_V → jm_H → jm_Q → Prop} {mi : Nat} (hE : ∀ mi as h (Q Q' : jm_Q), (∀ o h', Q o h' → Q' o h') → E mi as h Q → E' mi as h Q') {i : jm_In} {pc : Nat} {ls : jm_Ls} {st : List jm_V} {h : jm_H} :
    jm_step pr E mi P Q i pc ls st h → jm_step pr E' mi P' Q' i pc ls st h := by
  obtain ⟨op, n, x, y, k⟩ := i
  intro z
  unfold jm_step at z ⊢
  dsimp only at z ⊢
  split at z
  all_goals first
    | exact hP _ z
    | exact z.elim
    | (unfold jo_call at z ⊢
       obtain ⟨h1, h0, h2, h3, h4⟩ := z
       refine ⟨h1, h0, h2, h3, hE _ _ _ _ _ ?_ h4⟩
       intro o h'
       split <;> first | exact hP _ | exact jo_thr_mono hP hQ)
    | (revert z
       (first | unfold jo_iload | unfold jo_aload | unfold jo_istore | unfold jo_astore | unfold jo_iinc | unfold jo_bin | unfold jo_if | unfold jo_icmp | unfold jo_switch | unfold jo_geti | unfold jo_getr | unfold jo_puti | unfold jo_putz | unfold jo_putr | unfold jo_iald | unfold jo_iast | unfold jo_aald | unfold jo_aast | unfold jo_alen | unfold jo_newa | unfold jo_multi | unfold jo_new | unfold jo_dup | unfold jo_dup2 | unfold jo_dupx1 | unfold jo_pop | unfold jo_oinit | unfold jo_xinit | unfold jo_athrow | unfold jo_iret | unfold jo_zret | unfold jo_vret | unfold jo_aret | unfold jo_i2l | unfold jo_lald | unfold jo_last | unfold jo_lcmp | unfold jo_max | unfold jo_min | unfold jo_copy | unfold jo_irem)
       first
         | exact fun z => ⟨z.1, z.2.1, hP _ z.2.2⟩
         | (split <;> first
             | exact id
             | exact hP _
             | exact hQ _ _
             | exact fun z => ⟨fun y => hP _ (z.1 y), fun y => hP _ (z.2 y)⟩
             | exact fun z => ⟨z.1, hP _ z.2⟩
             | exact fun z => ⟨z.1, hQ _ _ z.2⟩
             | exact fun z => ⟨z.1, z.2.1, hP _ z.2.2⟩
             | exact fun z => ⟨z.1, z.2.1, jo_thr_mono hP hQ z.2.2⟩
             | exact fun z => ⟨z.1, z.2.1, z.2.2.1, hP _ z.2.2.2⟩
             | exact fun z => ⟨z.1, z.2.1, z.2.2.1, z.2.2.2.1, hP _ z.2.2.2.2⟩
             | exact fun z => ⟨z.1, z.2.1, z.2.2.1, z.2.2.2.1, z.2.2.2.2.1, z.2.2.2.2.2.1, z.2.2.2.2.2.2.1, z.2.2.2.2.2.2.2.1, hP _ z.2.2.2.2.2.2.2.2⟩))
theorem jm_S_mono (hP : ∀ c, P c → P' c) (hQ : ∀ o h, Q o h → Q' o h) {pr : jm_Pr} {E E' : Nat → List jm_V → jm_H → jm_Q → Prop} {mi : Nat} (hE : ∀ mi as h (Q Q' : jm_Q), (∀ o h', Q o h' → Q' o h') → E mi as h Q → E' mi as h Q') {c : jm_C} : jm_S pr E mi P Q c → jm_S pr E' mi P' Q' c := by
  unfold jm_S
  split
  · exact jm_step_mono hP hQ hE
  · exact id
end JMono
theorem jm_E_mono {pr : jm_Pr} : ∀ (d mi : Nat) (as : List jm_V) (h : jm_H) (Q Q' : jm_Q), (∀ o h', Q o h' → Q' o h') → jm_E pr d mi as h Q → jm_E pr d mi as h Q'
  | 0, _, _, _, _, _, _, z => z
  | d + 1, _, _, _, _, _, hQ, z => ⟨z.1, fun P hP => z.2 P fun c hc => hP c (jm_S_mono (fun _ y => y) hQ (jm_E_mono d) hc)⟩
theorem jm_E_up {pr : jm_Pr} : ∀ (d mi : Nat) (as : List jm_V) (h : jm_H) (Q Q' : jm_Q), (∀ o h', Q o h' → Q' o h') → jm_E pr d mi as h Q → jm_E pr (d + 1) mi as h Q'
  | 0, _, _, _, _, _, _, z => z.elim
  | d + 1, _, _, _, _, _, hQ, z => ⟨z.1, fun P hP => z.2 P fun c hc => hP c (jm_S_mono (fun _ y => y) hQ (jm_E_up d) hc)⟩
theorem jm_E_le {pr : jm_Pr} {d d' mi : Nat} {as : List jm_V} {h : jm_H} {Q : jm_Q} (hd : d ≤ d') (z : jm_E pr d mi as h Q) : jm_E pr d' mi as h Q := by
  induction hd with
  | refl => exact z
  | step _ ih => exact jm_E_up _ _ _ _ _ _ (fun _ _ y => y) ih
theorem jm_W_mono {pr : jm_Pr} {d mi : Nat} {c : jm_C} {Q Q' : jm_Q} (hQ : ∀ o h, Q o h → Q' o h) (z : jm_W pr d mi c Q) : jm_W pr d mi c Q' := fun P hP => z P fun c hc => hP c (jm_S_mono (fun _ y => y) hQ (jm_E_mono d) hc)
theorem jm_W_fold {pr : jm_Pr} {d mi : Nat} {c : jm_C} {Q : jm_Q} (z : jm_S pr (jm_E pr d) mi (fun c => jm_W pr d mi c Q) Q c) : jm_W pr d mi c Q := fun P hP => hP c (jm_S_mono (fun _ y => y P hP) (fun _ _ y => y) (jm_E_mono d) z)
/-- k steps at once -/
def jm_B (pr : jm_Pr) (d mi : Nat) (Q : jm_Q) : Nat → jm_C → Prop
  | 0, c => jm_W pr d mi c Q
  | k + 1, c => jm_S pr (jm_E pr d) mi (jm_B pr d mi Q k) Q c
theorem jm_blk {pr : jm_Pr} {d mi : Nat} {Q : jm_Q} : ∀ (k : Nat) {c : jm_C}, jm_B pr d mi Q k c → jm_W pr d mi c Q
  | 0, _, z => z
  | k + 1, _, z => jm_W_fold (jm_S_mono (fun _ y => jm_blk k y) (fun _ _ y => y) (jm_E_mono d) z)
end
section
/-! Reading behind writing, of the abstract heap. -/
theorem jr_n_sI (h : jm_H) (a k : Nat) (x : Int32) : (jm_sI h a k x).1 = h.1 := rfl
theorem jr_z_sI (h : jm_H) (a k : Nat) (x : Int32) : (jm_sI h a k x).2.1 = h.2.1 := rfl
theorem jr_n_sF (h : jm_H) (a k x : Nat) : (jm_sF h a k x).1 = h.1 := rfl
theorem jr_z_sF (h : jm_H) (a k x : Nat) : (jm_sF h a k x).2.1 = h.2.1 := rfl
theorem jr_n_sL (h : jm_H) (a k : Nat) (x : Int64) : (jm_sL h a k x).1 = h.1 := rfl
theorem jr_z_sL (h : jm_H) (a k : Nat) (x : Int64) : (jm_sL h a k x).2.1 = h.2.1 := rfl
theorem jr_n_sT (h : jm_H) (a t : Nat) : (jm_sT h a t).1 = h.1 := rfl
theorem jr_z_sT (h : jm_H) (a t : Nat) : (jm_sT h a t).2.1 = h.2.1 := rfl
theorem jr_n_sA (h : jm_H) (a : Nat) (f : Nat → Int32) : (jm_sA h a f).1 = h.1 := rfl
theorem jr_z_sA (h : jm_H) (a : Nat) (f : Nat → Int32) : (jm_sA h a f).2.1 = h.2.1 := rfl
theorem jr_n_new (h : jm_H) (t n z : Nat) : (jm_new h t n z).1 = h.1 + 1 := rfl
theorem jr_z_new (h : jm_H) (t n z : Nat) : (jm_new h t n z).2.1 = h.2.1 + z := rfl
theorem jr_T_sI (h : jm_H) (a k : Nat) (x : Int32) (b : Nat) : jm_T (jm_sI h a k x) b = jm_T h b := by
  unfold jm_T jm_sI
  by_cases hb : b = a
  · subst hb
    simp only [jm_up_self]
  · simp only [jm_up_ne _ _ hb]
theorem jr_T_sF (h : jm_H) (a k x : Nat) (b : Nat) : jm_T (jm_sF h a k x) b = jm_T h b := by
  unfold jm_T jm_sF
  by_cases hb : b = a
  · subst hb
    simp only [jm_up_self]
  · simp only [jm_up_ne _ _ hb]
theorem jr_T_sL (h : jm_H) (a k : Nat) (x : Int64) (b : Nat) : jm_T (jm_sL h a k x) b = jm_T h b := by
  unfold jm_T jm_sL
  by_cases hb : b = a
  · subst hb
    simp only [jm_up_self]
  · simp only [jm_up_ne _ _ hb]
theorem jr_T_sT (h : jm_H) (a t : Nat) (b : Nat) : jm_T (jm_sT h a t) b = if b = a then t else jm_T h b := by
  unfold jm_T jm_sT
  by_cases hb : b = a
  · subst hb
    simp only [jm_up_self]
    simp
  · simp only [jm_up_ne _ _ hb]
    simp [hb]
theorem jr_T_sA (h : jm_H) (a : Nat) (f : Nat → Int32) (b : Nat) : jm_T (jm_sA h a f) b = jm_T h b := by
  unfold jm_T jm_sA
  by_cases hb : b = a
  · subst hb
    simp only [jm_up_self]
  · simp only [jm_up_ne _ _ hb]
theorem jr_T_new (h : jm_H) (t n z : Nat) (b : Nat) : jm_T (jm_new h t n z) b = if b = h.1 then t else jm_T h b := by
  unfold jm_T jm_new
  by_cases hb : b = h.1
  · subst hb
    simp only [jm_up_self]
    simp
  · simp only [jm_up_ne _ _ hb]
    simp [hb]
theorem jr_N_sI (h : jm_H) (a k : Nat) (x : Int32) (b : Nat) : jm_N (jm_sI h a k x) b = jm_N h b := by
  unfold jm_N jm_sI
  by_cases hb : b = a
  · subst hb
    simp only [jm_up_self]
  · simp only [jm_up_ne _ _ hb]
theorem jr_N_sF (h : jm_H) (a k x : Nat) (b : Nat) : jm_N (jm_sF h a k x) b = jm_N h b := by
  unfold jm_N jm_sF
  by_cases hb : b = a
  · subst hb
    simp only [jm_up_self]
  · simp only [jm_up_ne _ _ hb]
theorem jr_N_sL (h : jm_H) (a k : Nat) (x : Int64) (b : Nat) : jm_N (jm_sL h a k x) b = jm_N h b := by
  unfold jm_N jm_sL
  by_cases hb : b = a
  · subst hb
    simp only [jm_up_self]
  · simp only [jm_up_ne _ _ hb]
theorem jr_N_sT (h : jm_H) (a t : Nat) (b : Nat) : jm_N (jm_sT h a t) b = jm_N h b := by
  unfold jm_N jm_sT
  by_cases hb : b = a
  · subst hb
    simp only [jm_up_self]
  · simp only [jm_up_ne _ _ hb]
theorem jr_N_sA (h : jm_H) (a : Nat) (f : Nat → Int32) (b : Nat) : jm_N (jm_sA h a f) b = jm_N h b := by
  unfold jm_N jm_sA
  by_cases hb : b = a
  · subst hb
    simp only [jm_up_self]
  · simp only [jm_up_ne _ _ hb]
theorem jr_N_new (h : jm_H) (t n z : Nat) (b : Nat) : jm_N (jm_new h t n z) b = if b = h.1 then n else jm_N h b := by
  unfold jm_N jm_new
  by_cases hb : b = h.1
  · subst hb
    simp only [jm_up_self]
    simp
  · simp only [jm_up_ne _ _ hb]
    simp [hb]
theorem jr_I_sI (h : jm_H) (a k : Nat) (x : Int32) (b j : Nat) : jm_I (jm_sI h a k x) b j = if b = a ∧ j = k then x else jm_I h b j := by
  unfold jm_I jm_sI
  by_cases hb : b = a
  · subst hb
    simp only [jm_up_self]
    by_cases hj : j = k
    · subst hj; simp [jm_up_self]
    · simp [jm_up_ne _ _ hj, hj]
  · simp only [jm_up_ne _ _ hb]
    simp [hb]
theorem jr_I_sF (h : jm_H) (a k x : Nat) (b j : Nat) : jm_I (jm_sF h a k x) b j = jm_I h b j := by
  unfold jm_I jm_sF
  by_cases hb : b = a
  · subst hb
    simp only [jm_up_self]
  · simp only [jm_up_ne _ _ hb]
theorem jr_I_sL (h : jm_H) (a k : Nat) (x : Int64) (b j : Nat) : jm_I (jm_sL h a k x) b j = jm_I h b j := by
  unfold jm_I jm_sL
  by_cases hb : b = a
  · subst hb
    simp only [jm_up_self]
  · simp only [jm_up_ne _ _ hb]
theorem jr_I_sT (h : jm_H) (a t : Nat) (b j : Nat) : jm_I (jm_sT h a t) b j = jm_I h b j := by
  unfold jm_I jm_sT
  by_cases hb : b = a
  · subst hb
    simp only [jm_up_self]
  · simp only [jm_up_ne _ _ hb]
theorem jr_I_sA (h : jm_H) (a : Nat) (f : Nat → Int32) (b j : Nat) : jm_I (jm_sA h a f) b j = if b = a then f j else jm_I h b j := by
  unfold jm_I jm_sA
  by_cases hb : b = a
  · subst hb
    simp only [jm_up_self]
    simp
  · simp only [jm_up_ne _ _ hb]
    simp [hb]
theorem jr_I_new (h : jm_H) (t n z : Nat) (b j : Nat) : jm_I (jm_new h t n z) b j = if b = h.1 then 0 else jm_I h b j := by
  unfold jm_I jm_new
  by_cases hb : b = h.1
  · subst hb
    simp only [jm_up_self]
    simp
  · simp only [jm_up_ne _ _ hb]
    simp [hb]
theorem jr_F_sI (h : jm_H) (a k : Nat) (x : Int32) (b j : Nat) : jm_F (jm_sI h a k x) b j = jm_F h b j := by
  unfold jm_F jm_sI
  by_cases hb : b = a
  · subst hb
    simp only [jm_up_self]
  · simp only [jm_up_ne _ _ hb]
theorem jr_F_sF (h : jm_H) (a k x : Nat) (b j : Nat) : jm_F (jm_sF h a k x) b j = if b = a ∧ j = k then x else jm_F h b j := by
  unfold jm_F jm_sF
  by_cases hb : b = a
  · subst hb
    simp only [jm_up_self]
    by_cases hj : j = k
    · subst hj; simp [jm_up_self]
    · simp [jm_up_ne _ _ hj, hj]
  · simp only [jm_up_ne _ _ hb]
    simp [hb]
theorem jr_F_sL (h : jm_H) (a k : Nat) (x : Int64) (b j : Nat) : jm_F (jm_sL h a k x) b j = jm_F h b j := by
  unfold jm_F jm_sL
  by_cases hb : b = a
  · subst hb
    simp only [jm_up_self]
  · simp only [jm_up_ne _ _ hb]
theorem jr_F_sT (h : jm_H) (a t : Nat) (b j : Nat) : jm_F (jm_sT h a t) b j = jm_F h b j := by
  unfold jm_F jm_sT
  by_cases hb : b = a
  · subst hb
    simp only [jm_up_self]
  · simp only [jm_up_ne _ _ hb]
theorem jr_F_sA (h : jm_H) (a : Nat) (f : Nat → Int32) (b j : Nat) : jm_F (jm_sA h a f) b j = jm_F h b j := by
  unfold jm_F jm_sA
  by_cases hb : b = a
  · subst hb
    simp only [jm_up_self]
  · simp only [jm_up_ne _ _ hb]
theorem jr_F_new (h : jm_H) (t n z : Nat) (b j : Nat) : jm_F (jm_new h t n z) b j = if b = h.1 then 0 else jm_F h b j := by
  unfold jm_F jm_new
  by_cases hb : b = h.1
  · subst hb
    simp only [jm_up_self]
    simp
  · simp only [jm_up_ne _ _ hb]
    simp [hb]
theorem jr_L_sI (h : jm_H) (a k : Nat) (x : Int32) (b j : Nat) : jm_L (jm_sI h a k x) b j = jm_L h b j := by
  unfold jm_L jm_sI
  by_cases hb : b = a
  · subst hb
    simp only [jm_up_self]
  · simp only [jm_up_ne _ _ hb]
theorem jr_L_sF (h : jm_H) (a k x : Nat) (b j : Nat) : jm_L (jm_sF h a k x) b j = jm_L h b j := by
  unfold jm_L jm_sF
  by_cases hb : b = a
  · subst hb
    simp only [jm_up_self]
  · simp only [jm_up_ne _ _ hb]
theorem jr_L_sL (h : jm_H) (a k : Nat) (x : Int64) (b j : Nat) : jm_L (jm_sL h a k x) b j = if b = a ∧ j = k then x else jm_L h b j := by
  unfold jm_L jm_sL
  by_cases hb : b = a
  · subst hb
    simp only [jm_up_self]
    by_cases hj : j = k
    · subst hj; simp [jm_up_self]
    · simp [jm_up_ne _ _ hj, hj]
  · simp only [jm_up_ne _ _ hb]
    simp [hb]
theorem jr_L_sT (h : jm_H) (a t : Nat) (b j : Nat) : jm_L (jm_sT h a t) b j = jm_L h b j := by
  unfold jm_L jm_sT
  by_cases hb : b = a
  · subst hb
    simp only [jm_up_self]
  · simp only [jm_up_ne _ _ hb]
theorem jr_L_sA (h : jm_H) (a : Nat) (f : Nat → Int32) (b j : Nat) : jm_L (jm_sA h a f) b j = jm_L h b j := by
  unfold jm_L jm_sA
  by_cases hb : b = a
  · subst hb
    simp only [jm_up_self]
  · simp only [jm_up_ne _ _ hb]
theorem jr_L_new (h : jm_H) (t n z : Nat) (b j : Nat) : jm_L (jm_new h t n z) b j = if b = h.1 then 0 else jm_L h b j := by
  unfold jm_L jm_new
  by_cases hb : b = h.1
  · subst hb
    simp only [jm_up_self]
    simp
  · simp only [jm_up_ne _ _ hb]
    simp [hb]
end
section
/-! How the abstract machine's heap and frames stand to the machine's own. -/
/-- b: the script's cell; the first new cell; the script; class numbers and slots; int[]; long[]; arrays of references, by kind; exceptions, by kind; the state at the law's start -/
abbrev jm_G : Type := Nat × Nat × Cell × va_G × ClassId × ClassId × (Nat → ClassId) × (Nat → ClassId × Array FieldType) × State
/-- classes by kind; types of their fields; component types of the arrays of references, by kind; names of the exceptions by kind -/
abbrev jm_J : Type := List vw_C × (Nat → Nat → FieldType) × (Nat → Option FieldType) × (Nat → Option String)
def jg_ad (G : jm_G) (r : Nat) : Nat := if r = 1 then G.1 else G.2.1 + (r - 2)
def jg_mv (G : jm_G) : jm_V → Value
  | .inl x => .int x
  | .inr (.inl 0) => .null
  | .inr (.inl (r + 1)) => .ref (jg_ad G (r + 1))
  | .inr (.inr z) => .long z
theorem jg_mv_ref (G : jm_G) {r : Nat} (h : r ≠ 0) : jg_mv G (.inr (.inl r)) = .ref (jg_ad G r) := by
  cases r with
  | zero => exact absurd rfl h
  | succ r => rfl
theorem jg_mv_obj (G : jm_G) {r : Nat} (h : 2 ≤ r) : jg_mv G (.inr (.inl r)) = .ref (G.2.1 + (r - 2)) := by
  rw [jg_mv_ref G (by omega)]
  simp [jg_ad, show r ≠ 1 by omega]
theorem jg_mv_c1 (G : jm_G) {v : jm_V} (h : ∀ z, v ≠ .inr (.inr z)) : (jg_mv G v).category = 1 := by
  rcases v with v | v | v
  · rfl
  · cases v <;> rfl
  · exact absurd rfl (h v)
def jm_isI : FieldType → Bool
  | .int => true
  | .boolean => true
  | _ => false
def jg_fv (G : jm_G) (ty : Nat → FieldType) (o : jm_O) (k : Nat) : Value := if jm_isI (ty k) = true then .int (o.2.2.1 k) else jg_mv G (.inr (.inl (o.2.2.2.1 k)))
/-- the object o stands at the cell a -/
def jg_at (G : jm_G) (J : jm_J) (o : jm_O) (a : Nat) (H : Heap) : Prop :=
  if o.1 = 100 then H[a]? = some (arrV G.2.2.2.2.1 o.2.1 (fun j => .int (o.2.2.1 j)))
  else if o.1 = 101 then H[a]? = some (arrV G.2.2.2.2.2.1 o.2.1 (fun j => .long (o.2.2.2.2 j)))
  else if o.1 < 60 then ∃ q, J.1[o.1]? = some q ∧ t_OB a (G.2.2.2.1.1 o.1) q.2.2 (G.2.2.2.1.2 o.1) H (jg_fv G (J.2.1 o.1) o)
  else if o.1 < 99 then H[a]? = some (arrV (G.2.2.2.2.2.2.1 o.1) o.2.1 (fun j => jg_mv G (.inr (.inl (o.2.2.2.1 j)))))
  else if o.1 < 200 then False
  else if o.1 % 2 = 0 then (∃ nm, J.2.2.2 o.1 = some nm) ∧ H[a]? = some { cls := (G.2.2.2.2.2.2.2.1 o.1).1, slots := (G.2.2.2.2.2.2.2.1 o.1).2.map defaultValue, vm := .none }
  else (∃ nm, J.2.2.2 (o.1 - 1) = some nm) ∧ ∃ cell, H[a]? = some cell ∧ cell.cls = (G.2.2.2.2.2.2.2.1 (o.1 - 1)).1 ∧ cell.vm = .none
theorem jg_at.kept {G : jm_G} {J : jm_J} {o : jm_O} {a : Nat} {H H' : Heap} (h : jg_at G J o a H) (hq : H'[a]? = H[a]?) : jg_at G J o a H' := by
  unfold jg_at at h ⊢
  split
  · rename_i c; rw [if_pos c] at h; rw [hq]; exact h
  · rename_i c; rw [if_neg c] at h
    split
    · rename_i c; rw [if_pos c] at h; rw [hq]; exact h
    · rename_i c; rw [if_neg c] at h
      split
      · rename_i c; rw [if_pos c] at h
        obtain ⟨q, h1, h2⟩ := h
        exact ⟨q, h1, h2.kept hq⟩
      · rename_i c; rw [if_neg c] at h
        split
        · rename_i c; rw [if_pos c] at h; rw [hq]; exact h
        · rename_i c; rw [if_neg c] at h
          split
          · rename_i c; rw [if_pos c] at h; exact h
          · rename_i c; rw [if_neg c] at h
            split
            · rename_i c; rw [if_pos c] at h; rw [hq]; exact h
            · rename_i c; rw [if_neg c] at h; rw [hq]; exact h
/-- an object's cell is a plain one -/
theorem jg_at.plain {G : jm_G} {J : jm_J} {o : jm_O} {a : Nat} {H : Heap} (h : jg_at G J o a H) {cell : Cell} (hc : H[a]? = some cell) : cell.vm = .none := by
  unfold jg_at at h
  split at h
  · rw [hc] at h; cases h; rfl
  · split at h
    · rw [hc] at h; cases h; rfl
    · split at h
      · obtain ⟨q, -, c', h1, -, h2, -⟩ := h
        rw [hc] at h1; cases h1; exact h2
      · split at h
        · rw [hc] at h; cases h; rfl
        · split at h
          · exact h.elim
          · split at h
            · have h1 := h.2
              rw [hc] at h1; cases h1; rfl
            · obtain ⟨-, c', h1, -, h2⟩ := h
              rw [hc] at h1; cases h1; exact h2
theorem jg_at.arrI {G : jm_G} {J : jm_J} {o : jm_O} {a : Nat} {H : Heap} (h : jg_at G J o a H) (ht : o.1 = 100) : H[a]? = some (arrV G.2.2.2.2.1 o.2.1 (fun j => .int (o.2.2.1 j))) := by
  unfold jg_at at h; rw [if_pos ht] at h; exact h
theorem jg_at.arrL {G : jm_G} {J : jm_J} {o : jm_O} {a : Nat} {H : Heap} (h : jg_at G J o a H) (ht : o.1 = 101) : H[a]? = some (arrV G.2.2.2.2.2.1 o.2.1 (fun j => .long (o.2.2.2.2 j))) := by
  unfold jg_at at h; rw [if_neg (by omega), if_pos ht] at h; exact h
theorem jg_at.obj {G : jm_G} {J : jm_J} {o : jm_O} {a : Nat} {H : Heap} (h : jg_at G J o a H) (ht : o.1 < 60) : ∃ q, J.1[o.1]? = some q ∧ t_OB a (G.2.2.2.1.1 o.1) q.2.2 (G.2.2.2.1.2 o.1) H (jg_fv G (J.2.1 o.1) o) := by
  unfold jg_at at h; rw [if_neg (by omega), if_neg (by omega), if_pos ht] at h; exact h
theorem jg_at.arrR {G : jm_G} {J : jm_J} {o : jm_O} {a : Nat} {H : Heap} (h : jg_at G J o a H) (h1 : 60 ≤ o.1) (h2 : o.1 < 99) : H[a]? = some (arrV (G.2.2.2.2.2.2.1 o.1) o.2.1 (fun j => jg_mv G (.inr (.inl (o.2.2.2.1 j))))) := by
  unfold jg_at at h; rw [if_neg (by omega), if_neg (by omega), if_neg (by omega), if_pos h2] at h; exact h
theorem jg_at.ex0 {G : jm_G} {J : jm_J} {o : jm_O} {a : Nat} {H : Heap} (h : jg_at G J o a H) (h1 : 200 ≤ o.1) (h2 : o.1 % 2 = 0) : (∃ nm, J.2.2.2 o.1 = some nm) ∧ H[a]? = some { cls := (G.2.2.2.2.2.2.2.1 o.1).1, slots := (G.2.2.2.2.2.2.2.1 o.1).2.map defaultValue, vm := .none } := by
  unfold jg_at at h; rw [if_neg (by omega), if_neg (by omega), if_neg (by omega), if_neg (by omega), if_neg (by omega), if_pos h2] at h; exact h
theorem jg_at.ex1 {G : jm_G} {J : jm_J} {o : jm_O} {a : Nat} {H : Heap} (h : jg_at G J o a H) (h1 : 200 ≤ o.1) (h2 : ¬ o.1 % 2 = 0) : (∃ nm, J.2.2.2 (o.1 - 1) = some nm) ∧ ∃ cell, H[a]? = some cell ∧ cell.cls = (G.2.2.2.2.2.2.2.1 (o.1 - 1)).1 ∧ cell.vm = .none := by
  unfold jg_at at h; rw [if_neg (by omega), if_neg (by omega), if_neg (by omega), if_neg (by omega), if_neg (by omega), if_neg h2] at h; exact h
theorem jg_at.mkI {G : jm_G} {J : jm_J} {o : jm_O} {a : Nat} {H : Heap} (ht : o.1 = 100) (h : H[a]? = some (arrV G.2.2.2.2.1 o.2.1 (fun j => .int (o.2.2.1 j)))) : jg_at G J o a H := by
  unfold jg_at; rw [if_pos ht]; exact h
theorem jg_at.mkL {G : jm_G} {J : jm_J} {o : jm_O} {a : Nat} {H : Heap} (ht : o.1 = 101) (h : H[a]? = some (arrV G.2.2.2.2.2.1 o.2.1 (fun j => .long (o.2.2.2.2 j)))) : jg_at G J o a H := by
  unfold jg_at; rw [if_neg (by omega), if_pos ht]; exact h
theorem jg_at.mkO {G : jm_G} {J : jm_J} {o : jm_O} {a : Nat} {H : Heap} (ht : o.1 < 60) (h : ∃ q, J.1[o.1]? = some q ∧ t_OB a (G.2.2.2.1.1 o.1) q.2.2 (G.2.2.2.1.2 o.1) H (jg_fv G (J.2.1 o.1) o)) : jg_at G J o a H := by
  unfold jg_at; rw [if_neg (by omega), if_neg (by omega), if_pos ht]; exact h
theorem jg_at.mkR {G : jm_G} {J : jm_J} {o : jm_O} {a : Nat} {H : Heap} (h1 : 60 ≤ o.1) (h2 : o.1 < 99) (h : H[a]? = some (arrV (G.2.2.2.2.2.2.1 o.1) o.2.1 (fun j => jg_mv G (.inr (.inl (o.2.2.2.1 j)))))) : jg_at G J o a H := by
  unfold jg_at; rw [if_neg (by omega), if_neg (by omega), if_neg (by omega), if_pos h2]; exact h
theorem jg_at.mk0 {G : jm_G} {J : jm_J} {o : jm_O} {a : Nat} {H : Heap} (h1 : 200 ≤ o.1) (h2 : o.1 % 2 = 0) (h : (∃ nm, J.2.2.2 o.1 = some nm) ∧ H[a]? = some { cls := (G.2.2.2.2.2.2.2.1 o.1).1, slots := (G.2.2.2.2.2.2.2.1 o.1).2.map defaultValue, vm := .none }) : jg_at G J o a H := by
  unfold jg_at; rw [if_neg (by omega), if_neg (by omega), if_neg (by omega), if_neg (by omega), if_neg (by omega), if_pos h2]; exact h
theorem jg_at.mk1 {G : jm_G} {J : jm_J} {o : jm_O} {a : Nat} {H : Heap} (h1 : 200 ≤ o.1) (h2 : ¬ o.1 % 2 = 0) (h : (∃ nm, J.2.2.2 (o.1 - 1) = some nm) ∧ ∃ cell, H[a]? = some cell ∧ cell.cls = (G.2.2.2.2.2.2.2.1 (o.1 - 1)).1 ∧ cell.vm = .none) : jg_at G J o a H := by
  unfold jg_at; rw [if_neg (by omega), if_neg (by omega), if_neg (by omega), if_neg (by omega), if_neg (by omega), if_neg h2]; exact h
/-- the heaps agree -/
def jg_R (G : jm_G) (J : jm_J) (h : jm_H) (H : Heap) : Prop :=
  (2 ≤ h.1 ∧ H.size = G.2.1 + (h.1 - 2) ∧ G.1 < G.2.1 ∧ ∀ q, q < G.2.1 → H[q]? = G.2.2.2.2.2.2.2.2.heap[q]?) ∧ (∀ r, r = 0 ∨ h.1 ≤ r → jm_T h r = 0) ∧ (∀ r, 2 ≤ r → r < h.1 → jg_at G J (h.2.2 r) (G.2.1 + (r - 2)) H) ∧
  (jm_T h 1 = 99 ∧ H[G.1]? = some G.2.2.1 ∧ G.2.2.1.vm ≠ .unknown ∧ G.2.2.1.slots.size = jm_N h 1 ∧ ∀ j, j < jm_N h 1 → G.2.2.1.slots[j]? = some (.int (jm_I h 1 j)))
theorem jg_R.pos {G : jm_G} {J : jm_J} {h : jm_H} {H : Heap} (hR : jg_R G J h H) {a t : Nat} (ht : jm_T h a = t) (h0 : t ≠ 0) (h9 : t ≠ 99) : 2 ≤ a ∧ a < h.1 := by
  obtain ⟨-, hz, -, hs⟩ := hR
  have e0 : ¬ (a = 0 ∨ h.1 ≤ a) := fun q => h0 (by rw [← ht]; exact hz a q)
  have e1 : a ≠ 1 := fun q => h9 (by rw [← ht, q]; exact hs.1)
  omega
theorem jg_R.at {G : jm_G} {J : jm_J} {h : jm_H} {H : Heap} (hR : jg_R G J h H) {a t : Nat} (ht : jm_T h a = t) (h0 : t ≠ 0) (h9 : t ≠ 99) : jg_at G J (h.2.2 a) (G.2.1 + (a - 2)) H :=
  hR.2.2.1 a (hR.pos ht h0 h9).1 (hR.pos ht h0 h9).2
theorem jg_R.upd {G : jm_G} {J : jm_J} {h h' : jm_H} {H H' : Heap} (hR : jg_R G J h H) {r : Nat} (h2 : 2 ≤ r) (hr : r < h.1) (e1 : h'.1 = h.1) (e3 : ∀ x, x ≠ r → h'.2.2 x = h.2.2 x)
    (hs : H'.size = H.size) (hq : ∀ q, q ≠ G.2.1 + (r - 2) → H'[q]? = H[q]?) (ha : jg_at G J (h'.2.2 r) (G.2.1 + (r - 2)) H') : jg_R G J h' H' := by
  obtain ⟨⟨p1, p2, p3, p4⟩, hz, hA, s1, s2, s3, s4, s5⟩ := hR
  have ex : h'.2.2 1 = h.2.2 1 := e3 1 (by omega)
  refine ⟨⟨by omega, by rw [hs, e1]; exact p2, p3, fun q hq' => (hq q (by omega)).trans (p4 q hq')⟩, fun x hx => ?_, fun x h1 h3 => ?_, ?_, ?_, s3, ?_, ?_⟩
  · have hne : x ≠ r := by rw [e1] at hx; omega
    show (h'.2.2 x).1 = 0
    rw [e3 x hne]
    exact hz x (by rw [e1] at hx; exact hx)
  · by_cases hx : x = r
    · subst hx; exact ha
    · rw [e3 x hx]
      exact (hA x h1 (by omega)).kept (hq _ (by omega))
  · show (h'.2.2 1).1 = 99
    rw [ex]; exact s1
  · rw [hq _ (by omega)]; exact s2
  · show _ = (h'.2.2 1).2.1
    rw [ex]; exact s4
  · show ∀ j, j < (h'.2.2 1).2.1 → G.2.2.1.slots[j]? = some (Value.int ((h'.2.2 1).2.2.1 j))
    rw [ex]; exact s5
theorem jg_R.push {G : jm_G} {J : jm_J} {h : jm_H} {H H' : Heap} (hR : jg_R G J h H) {t n z : Nat} (hs : H'.size = H.size + 1) (hq : ∀ q, q < H.size → H'[q]? = H[q]?)
    (ha : jg_at G J (t, n, fun _ => 0, fun _ => 0, fun _ => 0) H.size H') : jg_R G J (jm_new h t n z) H' := by
  obtain ⟨⟨p1, p2, p3, p4⟩, hz, hA, s1, s2, s3, s4, s5⟩ := hR
  have ex : (jm_new h t n z).2.2 1 = h.2.2 1 := jm_up_ne _ _ (by omega)
  refine ⟨⟨by show 2 ≤ h.1 + 1; omega, by show H'.size = _ + (h.1 + 1 - 2); omega, p3, fun q hq' => (hq q (by omega)).trans (p4 q hq')⟩, fun x hx => ?_, fun x h1 h3 => ?_, ?_, ?_, s3, ?_, ?_⟩
  · have hx' : x = 0 ∨ h.1 + 1 ≤ x := hx
    show (jm_up h.2.2 h.1 _ x).1 = 0
    rw [jm_up_ne _ _ (by omega)]
    exact hz x (by omega)
  · have h3' : x < h.1 + 1 := h3
    show jg_at G J (jm_up h.2.2 h.1 _ x) _ H'
    by_cases hx : x = h.1
    · subst hx
      rw [jm_up_self, show G.2.1 + (h.1 - 2) = H.size by omega]
      exact ha
    · rw [jm_up_ne _ _ hx]
      exact (hA x h1 (by omega)).kept (hq _ (by omega))
  · show ((jm_new h t n z).2.2 1).1 = 99
    rw [ex]; exact s1
  · rw [hq _ (by omega)]; exact s2
  · show _ = ((jm_new h t n z).2.2 1).2.1
    rw [ex]; exact s4
  · show ∀ j, j < ((jm_new h t n z).2.2 1).2.1 → G.2.2.1.slots[j]? = some (Value.int (((jm_new h t n z).2.2 1).2.2.1 j))
    rw [ex]; exact s5
theorem jg_R.plain {G : jm_G} {J : jm_J} {h : jm_H} {H : Heap} (hR : jg_R G J h H) {q : Nat} {cell : Cell} (hq : G.2.1 ≤ q) (hc : H[q]? = some cell) : cell.vm = .none := by
  obtain ⟨⟨p1, p2, p3, p4⟩, hz, hA, -⟩ := hR
  have hlt : q < H.size := (Array.getElem?_eq_some_iff.mp hc).1
  have hat := hA (q - G.2.1 + 2) (by omega) (by omega)
  rw [show G.2.1 + (q - G.2.1 + 2 - 2) = q by omega] at hat
  exact hat.plain hc
/-- the locals agree -/
def jg_Ls (G : jm_G) (arr : Array Slot) (n : Nat) (ls : jm_Ls) : Prop :=
  arr.size = n ∧ lv_wf arr ∧ ls.length = n ∧ ∀ (i : Nat) (v : jm_V), ls[i]? = some (some v) → arr[i]? = some (Slot.val (jg_mv G v)) ∧ ∀ z, v ≠ .inr (.inr z)
theorem jg_Ls.store {G : jm_G} {arr : Array Slot} {n : Nat} {ls : jm_Ls} (h : jg_Ls G arr n ls) {i : Nat} (hi : i < n) (v : jm_V) (hv : ∀ z, v ≠ .inr (.inr z)) :
    ∃ arr', storeLocals arr i (jg_mv G v) = some arr' ∧ jg_Ls G arr' n (ls.set i (some v)) := by
  obtain ⟨h1, h2, h3, h4⟩ := h
  have hh : lv_has arr n ((List.range n).filterMap (fun j => match ls[j]? with | some (some w) => some (j, jg_mv G w) | _ => none)) := by
    refine ⟨h1, h2, fun q hq => ?_⟩
    obtain ⟨j, -, hj⟩ := List.mem_filterMap.mp hq
    split at hj
    · rename_i w hw
      cases hj
      exact (h4 j w hw).1
    · cases hj
  obtain ⟨arr', e1, e2, e3, e4⟩ := lv_store1 (v := jg_mv G v) hh hi (jg_mv_c1 G hv)
  refine ⟨arr', e1, e2, e3, by rw [List.length_set]; exact h3, fun j w hw => ?_⟩
  by_cases hj : j = i
  · subst hj
    rw [List.getElem?_set_self (by omega)] at hw
    cases hw
    exact ⟨e4 (j, jg_mv G v) List.mem_cons_self, hv⟩
  · rw [List.getElem?_set_ne (Ne.symm hj)] at hw
    obtain ⟨g1, g2⟩ := h4 j w hw
    refine ⟨e4 (j, jg_mv G w) (List.mem_cons_of_mem _ (List.mem_filter.mpr ⟨List.mem_filterMap.mpr ⟨j, List.mem_range.mpr ?_, by rw [hw]⟩, ?_⟩)), g2⟩
    · have := (List.getElem?_eq_some_iff.mp hw).1
      omega
    · have := jg_mv_c1 G g2
      simp [this, hj]
theorem jg_Ls.entry {G : jm_G} {as : List jm_V} {n : Nat} (hl : as.length ≤ n) (hc : ∀ v ∈ as, ∀ z, v ≠ .inr (.inr z)) (m : MethodId) :
    ∃ arr, entryFrame m (as.map (jg_mv G)).toArray n = F0 m 0 arr [] ∧ jg_Ls G arr n (as.map some ++ List.replicate (n - as.length) none) := by
  have hc' : ∀ v ∈ as.map (jg_mv G), v.category = 1 := fun v hv => by
    obtain ⟨w, hw, rfl⟩ := List.mem_map.mp hv
    exact jg_mv_c1 G (hc w hw)
  refine ⟨_, entry_eq m _ hc' n, ?_, ?_, ?_, ?_⟩
  · simp; omega
  · have key : ∀ (i : Nat) (x : Slot), ((as.map (jg_mv G)).map Slot.val ++ List.replicate (n - (as.map (jg_mv G)).length) Slot.unset).toArray[i]? = some x → x = .unset ∨ ∃ v, x = .val v ∧ v.category = 1 := by
      intro i x hx
      have hm : x ∈ (as.map (jg_mv G)).map Slot.val ++ List.replicate (n - (as.map (jg_mv G)).length) Slot.unset := List.mem_of_getElem? (by rw [← List.getElem?_toArray]; exact hx)
      rcases List.mem_append.mp hm with h | h
      · obtain ⟨v, hv, rfl⟩ := List.mem_map.mp h
        exact Or.inr ⟨v, rfl, hc' v hv⟩
      · exact Or.inl (List.eq_of_mem_replicate h)
    refine ⟨fun i v h1 h2 => ?_, fun i h1 => ?_⟩
    · rcases key i _ h1 with h | ⟨w, h, hw⟩
      · cases h
      · cases h
        rw [hw] at h2
        cases h2
    · rcases key i _ h1 with h | ⟨w, h, -⟩ <;> cases h
  · simp; omega
  · intro i v hv
    by_cases hi : i < as.length
    · rw [List.getElem?_append_left (by simpa using hi), List.getElem?_map] at hv
      cases ha : as[i]? with
      | none => rw [ha] at hv; cases hv
      | some w =>
        rw [ha] at hv
        cases hv
        refine ⟨?_, hc _ (List.mem_of_getElem? ha)⟩
        rw [List.getElem?_toArray, List.getElem?_append_left (by simpa using hi)]
        simp [ha]
    · rw [List.getElem?_append_right (by simpa using hi)] at hv
      exact absurd (List.eq_of_mem_replicate (List.mem_of_getElem? hv)) (by simp)
theorem jm_ix_eq (j : Int32) : jm_ix j = j.toNatClampNeg := rfl
theorem jm_in_spec {j : Int32} {n : Nat} (h : jm_in j n) : ¬ (j < 0 ∨ n ≤ j.toNatClampNeg) ∧ j.toNatClampNeg < n := by
  obtain ⟨h1, h2⟩ := h
  have e : (j.toNatClampNeg : Int) = j.toInt := Int.toNat_of_nonneg h1
  have hlt : j.toNatClampNeg < n := by omega
  refine ⟨?_, hlt⟩
  rintro (h | h)
  · have := Int32.lt_iff_toInt_lt.mp h
    rw [Int32.toInt_zero] at this
    omega
  · omega
theorem jm_nn {k : Int32} (h : 0 ≤ k.toInt) : ¬ k < 0 := fun q => by
  have := Int32.lt_iff_toInt_lt.mp q
  rw [Int32.toInt_zero] at this
  omega
/-- what holds of the tables at a frame's start: the words; classes; arrays; the script; exceptions -/
def jg_K (G : jm_G) (J : jm_J) (Wg : List Cond) (s : State) : Prop :=
  (∀ w ∈ Wg, ∀ a, w.before a s = true) ∧ (∀ t q, 0 < t → J.1[t]? = some q → u_Kn s q.1 q.2.1 q.2.2 (G.2.2.2.1.1 t) (G.2.2.2.1.2 t)) ∧
  (ArrOfT s G.2.2.2.2.1 .int ∧ s.vm.findClass "[I" = some G.2.2.2.2.1) ∧ (ArrOfT s G.2.2.2.2.2.1 .long ∧ s.vm.findClass "[J" = some G.2.2.2.2.2.1) ∧ s.isArrayOf G.2.2.1 .int ∧
  (∀ t ty, J.2.2.1 t = some ty → ArrOfT s (G.2.2.2.2.2.2.1 t) ty ∧ va_RA s (G.2.2.2.2.2.2.1 t) ty ∧ (∀ C, ty = .object C → va_AO C s) ∧ ∀ C, ty = .array C → (Cond.arrayOver (.array C)).before #[] s = true) ∧
  (∀ t x, J.2.2.2 t = some x → ∃ k, s.vm.findClass x = some (G.2.2.2.2.2.2.2.1 t).1 ∧ s.vm.classes[(G.2.2.2.2.2.2.2.1 t).1]? = some k ∧ k.instanceTypes = (G.2.2.2.2.2.2.2.1 t).2) ∧
  G.2.2.2.2.2.2.2.2.WarmedH s.vm ∧ (∀ q, q < G.2.1 → s.heap[q]? = G.2.2.2.2.2.2.2.2.heap[q]?) ∧ ∀ (q : Nat) (cell : Cell), G.2.1 ≤ q → s.heap[q]? = some cell → cell.vm = .none
def jm_goodW (w : Cond) : Bool := (w.onTables && w.keeps) || (match w with | .arrayClass _ => true | .declares _ => true | .castable _ _ => true | _ => false)
theorem jm_goodW_moved {w : Cond} (h : jm_goodW w = true) {s U : State} {a a' : Array Value} (hW : s.WarmedH U.vm) (hb : w.before a s = true) : w.before a' U = true := by
  unfold jm_goodW at h
  rcases Bool.or_eq_true_iff.mp h with h | h
  · exact word_at hW (Or.inl h) hb
  · split at h
    · exact word_at hW (Or.inr ⟨_, rfl⟩) hb
    · exact va_tabs (u := s.setVm U.vm) rfl rfl (by rw [Cond.declares_setVm hW.alike]; exact hb)
    · exact va_tabs (u := s.setVm U.vm) rfl rfl (by rw [Cond.castable_setVm hW.alike]; exact hb)
    · cases h
theorem jg_K.moved {G : jm_G} {J : jm_J} {Wg : List Cond} {s U : State} (hg : ∀ w ∈ Wg, jm_goodW w = true) (hW : s.WarmedH U.vm) (hU : (∀ q, q < G.2.1 → U.heap[q]? = G.2.2.2.2.2.2.2.2.heap[q]?) ∧ ∀ (q : Nat) (cell : Cell), G.2.1 ≤ q → U.heap[q]? = some cell → cell.vm = .none) (h : jg_K G J Wg s) : jg_K G J Wg U := by
  obtain ⟨h1, h2, h3, h4, h5, h6, h7, h8, h9⟩ := h
  have hal := hW.alike
  refine ⟨fun w hw a => jm_goodW_moved (hg w hw) hW (h1 w hw #[]), fun t q h0 hq => u_Kn_moved hal (h2 t q h0 hq), ⟨arrOfT_moved hal h3.1, by rw [hal.findClass]; exact h3.2⟩, ⟨arrOfT_moved hal h4.1, by rw [hal.findClass]; exact h4.2⟩, State.isArrayOf_alike hal h5, fun t ty ht => ⟨arrOfT_moved hal (h6 t ty ht).1, (h6 t ty ht).2.1.moved hal, fun C hC => ((h6 t ty ht).2.2.1 C hC).moved hal, fun C hC => over_moved hal ((h6 t ty ht).2.2.2 C hC)⟩, fun t x hx => ?_, State.WarmedH.trans h8 hW, hU⟩
  obtain ⟨k, g1, g2, g3⟩ := h7 t x hx
  obtain ⟨k', hk', he⟩ := hal.2.2 _ _ g2
  exact ⟨k', by rw [hal.findClass]; exact g1, hk', by rw [he]; exact g3⟩
end
section
/-! One step of the abstract machine is one step of the machine: all but calls and throws. -/
def jg_out (G : jm_G) : jm_R → Outcome
  | .inl none => .returned none
  | .inl (some v) => .returned (some (jg_mv G v))
  | .inr a => .threw (jg_ad G a)
/-- a frame's end -/
def jg_Z (G : jm_G) (J : jm_J) (R : Room) (s : State) (below : List Frame) (ns zs : Nat) (Q : jm_Q) : State → Prop := fun t => ∃ (o : jm_R) (h : jm_H) (L : List Loc),
  t.status = .running ∧ Ended t below (jg_out G o) ∧ s.WarmedH t.vm ∧ s.sameButNew ({ t with vm := s.vm } : State) L (h.1 - ns) (h.2.1 - zs) ∧ (∀ q ∈ L, G.2.1 ≤ q.base) ∧ (ns ≤ h.1 ∧ zs ≤ h.2.1 ∧ h.1 ≤ R.cells + ns ∧ h.2.1 ≤ R.slots + zs) ∧ jg_R G J h t.heap ∧ Q o h ∧
  ∀ a, o = .inr a → 200 ≤ jm_T h a ∧ jm_T h a % 2 = 1
/-- from the abstract point c on the machine comes to the frame's end -/
def jg_P (p : Program) (l : Launch) (e : Env) (R : Room) (s : State) (m : MethodId) (args : Array Value) (below : List Frame) (meth : Method) (cd : Code) (G : jm_G) (J : jm_J) (nL ns zs : Nat) (Q : jm_Q) (c : jm_C) : Prop :=
  ∀ (H : Heap) (locs : List Loc) (arr : Array Slot), jg_R G J c.2.2.2 H → (ns ≤ c.2.2.2.1 ∧ zs ≤ c.2.2.2.2.1 ∧ c.2.2.2.1 ≤ R.cells + ns ∧ c.2.2.2.2.1 ≤ R.slots + zs) → (∀ q ∈ locs, G.2.1 ≤ q.base) → jg_Ls G arr nL c.2.1 →
    W p l e R s m args below meth cd H locs (c.2.2.2.1 - ns) (c.2.2.2.2.1 - zs) (jg_Z G J R s below ns zs Q) (F0 m c.1 arr (c.2.2.1.map (jg_mv G)))
def jc_const (ins : Instr) (n : Nat) (k : Int32) : Bool := match ins with
  | .iconst v => n == 1 && Int32.ofInt v == k
  | .bipush v => n == 2 && (Int8.ofInt v).toInt32 == k
  | .sipush v => n == 3 && (Int16.ofInt v).toInt32 == k
  | _ => false
def jc_iload (ins : Instr) (n x : Nat) : Bool := match ins with
  | .iload_n k => n == 1 && k.val == x
  | .iload i => n == 2 && i == x
  | _ => false
def jc_aload (ins : Instr) (n x : Nat) : Bool := match ins with
  | .aload_n k => n == 1 && k.val == x
  | .aload i => n == 2 && i == x
  | _ => false
def jc_istore (ins : Instr) (n x : Nat) : Bool := match ins with
  | .istore_n k => n == 1 && k.val == x
  | .istore i => n == 2 && i == x
  | _ => false
def jc_astore (ins : Instr) (n x : Nat) : Bool := match ins with
  | .astore_n k => n == 1 && k.val == x
  | .astore i => n == 2 && i == x
  | _ => false
def jc_iinc (ins : Instr) (n x : Nat) (k : Int32) : Bool := match ins with
  | .iinc i v => n == 3 && i == x && Int32.ofInt v == k
  | _ => false
def jc_bin (ins : Instr) (n x : Nat) : Bool := match ins with
  | .iadd => n == 1 && x == 0
  | .isub => n == 1 && x == 1
  | .imul => n == 1 && x == 2
  | .iand => n == 1 && x == 3
  | .ior => n == 1 && x == 4
  | .ixor => n == 1 && x == 5
  | .ishl => n == 1 && x == 6
  | .ishr => n == 1 && x == 7
  | _ => false
def jc_if (ins : Instr) (n pc x y : Nat) : Bool := match ins with
  | .ifCond .eq o => n == 3 && x == 0 && decide ((pc : Int) + o = (y : Int))
  | .ifCond .ne o => n == 3 && x == 1 && decide ((pc : Int) + o = (y : Int))
  | .ifCond .lt o => n == 3 && x == 2 && decide ((pc : Int) + o = (y : Int))
  | .ifCond .ge o => n == 3 && x == 3 && decide ((pc : Int) + o = (y : Int))
  | .ifCond .gt o => n == 3 && x == 4 && decide ((pc : Int) + o = (y : Int))
  | .ifCond .le o => n == 3 && x == 5 && decide ((pc : Int) + o = (y : Int))
  | _ => false
def jc_icmp (ins : Instr) (n pc x y : Nat) : Bool := match ins with
  | .if_icmp .eq o => n == 3 && x == 0 && decide ((pc : Int) + o = (y : Int))
  | .if_icmp .ne o => n == 3 && x == 1 && decide ((pc : Int) + o = (y : Int))
  | .if_icmp .lt o => n == 3 && x == 2 && decide ((pc : Int) + o = (y : Int))
  | .if_icmp .ge o => n == 3 && x == 3 && decide ((pc : Int) + o = (y : Int))
  | .if_icmp .gt o => n == 3 && x == 4 && decide ((pc : Int) + o = (y : Int))
  | .if_icmp .le o => n == 3 && x == 5 && decide ((pc : Int) + o = (y : Int))
  | _ => false
def jc_goto (ins : Instr) (pc y : Nat) : Bool := match ins with
  | .goto o => decide ((pc : Int) + o = (y : Int))
  | _ => false
/-- the table of a switch: a key, a place -/
def jc_tab (pc : Nat) (lo : Int) : List (Int32 × Nat) → List Int → Bool
  | [], [] => true
  | q :: r, o :: os => decide (q.1.toInt = lo) && decide ((pc : Int) + o = (q.2 : Int)) && jc_tab pc (lo + 1) r os
  | _, _ => false
def jc_switch (ins : Instr) (pc : Nat) (t : List (Int32 × Nat) × Nat) : Bool := match ins with
  | .tableswitch d lo hi os => decide ((pc : Int) + d = (t.2 : Int)) && jc_tab pc lo t.1 os.toList && decide (lo + (os.size : Int) = hi + 1)
  | _ => false
theorem jm_sl_out {pc d : Nat} {x : Int32} : ∀ (t : List (Int32 × Nat)) (os : List Int) (lo : Int), jc_tab pc lo t os = true → (x.toInt < lo ∨ lo + (os.length : Int) ≤ x.toInt) → jm_sl t d x = d
  | [], _, _, _, _ => rfl
  | q :: r, [], _, h, _ => by simp [jc_tab] at h
  | q :: r, o :: os, lo, h, hx => by
    simp only [jc_tab, Bool.and_eq_true, decide_eq_true_eq] at h
    simp only [List.length_cons, Int.natCast_add, Int.natCast_one] at hx
    have hne : ¬ x = q.1 := fun e => by rw [e] at hx; omega
    show (if x = q.1 then q.2 else jm_sl r d x) = d
    rw [if_neg hne]
    exact jm_sl_out r os (lo + 1) h.2 (by omega)
theorem jm_sl_in {pc d : Nat} {x : Int32} : ∀ (t : List (Int32 × Nat)) (os : List Int) (lo : Int), jc_tab pc lo t os = true → lo ≤ x.toInt → x.toInt < lo + (os.length : Int) → ∃ o, os[(x.toInt - lo).toNat]? = some o ∧ (pc : Int) + o = (jm_sl t d x : Int)
  | [], [], lo, _, h1, h2 => by simp at h2; omega
  | [], _ :: _, _, h, _, _ => by simp [jc_tab] at h
  | q :: r, [], _, h, _, _ => by simp [jc_tab] at h
  | q :: r, o :: os, lo, h, h1, h2 => by
    simp only [jc_tab, Bool.and_eq_true, decide_eq_true_eq] at h
    simp only [List.length_cons, Int.natCast_add, Int.natCast_one] at h2
    by_cases e : x = q.1
    · refine ⟨o, ?_, ?_⟩
      · rw [show (x.toInt - lo).toNat = 0 by rw [e]; omega]; rfl
      · show _ = (((if x = q.1 then q.2 else jm_sl r d x : Nat)) : Int)
        rw [if_pos e]; exact h.1.2
    · have hne : x.toInt ≠ lo := fun z => e (Int32.toInt_inj.mp (by omega))
      obtain ⟨o', g1, g2⟩ := jm_sl_in (d := d) (x := x) r os (lo + 1) h.2 (by omega) (by omega)
      refine ⟨o', ?_, ?_⟩
      · rw [show (x.toInt - lo).toNat = (x.toInt - (lo + 1)).toNat + 1 by omega]; exact g1
      · show _ = (((if x = q.1 then q.2 else jm_sl r d x : Nat)) : Int)
        rw [if_neg e]; exact g2
section JW
variable {p : Program} {l : Launch} {e : Env} {R : Room} {s : State} {m : MethodId} {args : Array Value} {below : List Frame} {meth : Method} {cd : Code} {G : jm_G} {J : jm_J} {nL ns zs : Nat} {Q : jm_Q} {bs : ByteArray} {pc n : Nat} {ins : Instr} {ls : jm_Ls} {st : List jm_V} {h : jm_H}
theorem jw_const (hx : p.tables.exec = Jvm.exec) (hb : cd.code = bs) (hd : decode bs pc = .ok (ins, n)) {k : Int32} (hc : jc_const ins n k = true) (z : jg_P p l e R s m args below meth cd G J nL ns zs Q (pc + n, ls, .inl k :: st, h)) : jg_P p l e R s m args below meth cd G J nL ns zs Q (pc, ls, st, h) := by
  intro H locs arr hR hn hl hL
  have w := z H locs arr hR hn hl hL
  unfold jc_const at hc
  split at hc
  · simp only [Bool.and_eq_true, beq_iff_eq] at hc; obtain ⟨rfl, hk⟩ := hc; exact lv_iconst hx hb hd hk w
  · simp only [Bool.and_eq_true, beq_iff_eq] at hc; obtain ⟨rfl, hk⟩ := hc; exact lv_bipush hx hb hd hk w
  · simp only [Bool.and_eq_true, beq_iff_eq] at hc; obtain ⟨rfl, hk⟩ := hc; exact lv_sipush hx hb hd hk w
  · cases hc
theorem jw_iload (hx : p.tables.exec = Jvm.exec) (hb : cd.code = bs) (hd : decode bs pc = .ok (ins, n)) {x : Nat} (hc : jc_iload ins n x = true) (z : jo_iload (jg_P p l e R s m args below meth cd G J nL ns zs Q) (pc + n) ls st h x) : jg_P p l e R s m args below meth cd G J nL ns zs Q (pc, ls, st, h) := by
  intro H locs arr hR hn hl hL
  unfold jo_iload at z
  split at z
  · rename_i v hv
    have w := z H locs arr hR hn hl hL
    have ha : arr[x]? = some (.val (.int v)) := (hL.2.2.2 x _ hv).1
    unfold jc_iload at hc
    split at hc
    · simp only [Bool.and_eq_true, beq_iff_eq] at hc; obtain ⟨rfl, hk⟩ := hc; exact lv_iload_n hx hb hd hk ha w
    · simp only [Bool.and_eq_true, beq_iff_eq] at hc; obtain ⟨rfl, rfl⟩ := hc; exact lv_iload hx hb hd ha w
    · cases hc
  · exact z.elim
theorem jw_aload (hx : p.tables.exec = Jvm.exec) (hb : cd.code = bs) (hd : decode bs pc = .ok (ins, n)) {x : Nat} (hc : jc_aload ins n x = true) (z : jo_aload (jg_P p l e R s m args below meth cd G J nL ns zs Q) (pc + n) ls st h x) : jg_P p l e R s m args below meth cd G J nL ns zs Q (pc, ls, st, h) := by
  intro H locs arr hR hn hl hL
  unfold jo_aload at z
  split at z
  · rename_i v hv
    have w := z H locs arr hR hn hl hL
    have ha : arr[x]? = some (.val (jg_mv G (.inr (.inl v)))) := (hL.2.2.2 x _ hv).1
    unfold jc_aload at hc
    split at hc
    · simp only [Bool.and_eq_true, beq_iff_eq] at hc; obtain ⟨rfl, hk⟩ := hc
      cases v with
      | zero => exact lv_aload_nN hx hb hd hk ha w
      | succ v => exact lv_aload_n hx hb hd hk ha w
    · simp only [Bool.and_eq_true, beq_iff_eq] at hc; obtain ⟨rfl, rfl⟩ := hc
      cases v with
      | zero => exact lv_aloadN hx hb hd ha w
      | succ v => exact lv_aload hx hb hd ha w
    · cases hc
  · exact z.elim
theorem jw_istore (hx : p.tables.exec = Jvm.exec) (hb : cd.code = bs) (hd : decode bs pc = .ok (ins, n)) {x : Nat} (hc : jc_istore ins n x = true) (hxn : x < nL) (z : jo_istore (jg_P p l e R s m args below meth cd G J nL ns zs Q) (pc + n) ls st h x) : jg_P p l e R s m args below meth cd G J nL ns zs Q (pc, ls, st, h) := by
  intro H locs arr hR hn hl hL
  unfold jo_istore at z
  split at z
  · rename_i v st
    obtain ⟨arr', e1, hL'⟩ := hL.store hxn (.inl v) (fun z => by simp)
    have w := z H locs arr' hR hn hl hL'
    intro T hT X
    obtain ⟨t, a, b⟩ := w T hT X
    refine ⟨t, ?_, b⟩
    unfold jc_istore at hc
    have e1' : storeLocals arr x (.int v) = some arr' := e1
    split at hc
    · simp only [Bool.and_eq_true, beq_iff_eq] at hc; obtain ⟨rfl, rfl⟩ := hc
      show Steps p.tables e below (T.setTop (F0 m pc arr (.int v :: st.map (jg_mv G)))) t
      jvm_step X.here [X.here.top, ↓top_set X.here.top, hx, hb, hd, e1']
      exact a
    · simp only [Bool.and_eq_true, beq_iff_eq] at hc; obtain ⟨rfl, rfl⟩ := hc
      show Steps p.tables e below (T.setTop (F0 m pc arr (.int v :: st.map (jg_mv G)))) t
      jvm_step X.here [X.here.top, ↓top_set X.here.top, hx, hb, hd, e1']
      exact a
    · cases hc
  · exact z.elim
theorem jw_astore (hx : p.tables.exec = Jvm.exec) (hb : cd.code = bs) (hd : decode bs pc = .ok (ins, n)) {x : Nat} (hc : jc_astore ins n x = true) (hxn : x < nL) (z : jo_astore (jg_P p l e R s m args below meth cd G J nL ns zs Q) (pc + n) ls st h x) : jg_P p l e R s m args below meth cd G J nL ns zs Q (pc, ls, st, h) := by
  intro H locs arr hR hn hl hL
  unfold jo_astore at z
  split at z
  · rename_i v st
    obtain ⟨arr', e1, hL'⟩ := hL.store hxn (.inr (.inl v)) (fun z => by simp)
    have w := z H locs arr' hR hn hl hL'
    intro T hT X
    obtain ⟨t, a, b⟩ := w T hT X
    refine ⟨t, ?_, b⟩
    unfold jc_astore at hc
    cases v with
    | zero =>
      have e1' : storeLocals arr x .null = some arr' := e1
      split at hc
      · simp only [Bool.and_eq_true, beq_iff_eq] at hc; obtain ⟨rfl, rfl⟩ := hc
        show Steps p.tables e below (T.setTop (F0 m pc arr (.null :: st.map (jg_mv G)))) t
        jvm_step X.here [X.here.top, ↓top_set X.here.top, hx, hb, hd, e1', Value.isRef]
        exact a
      · simp only [Bool.and_eq_true, beq_iff_eq] at hc; obtain ⟨rfl, rfl⟩ := hc
        show Steps p.tables e below (T.setTop (F0 m pc arr (.null :: st.map (jg_mv G)))) t
        jvm_step X.here [X.here.top, ↓top_set X.here.top, hx, hb, hd, e1', Value.isRef]
        exact a
      · cases hc
    | succ v =>
      have e1' : storeLocals arr x (.ref (jg_ad G (v + 1))) = some arr' := e1
      split at hc
      · simp only [Bool.and_eq_true, beq_iff_eq] at hc; obtain ⟨rfl, rfl⟩ := hc
        show Steps p.tables e below (T.setTop (F0 m pc arr (.ref (jg_ad G (v + 1)) :: st.map (jg_mv G)))) t
        jvm_step X.here [X.here.top, ↓top_set X.here.top, hx, hb, hd, e1', Value.isRef]
        exact a
      · simp only [Bool.and_eq_true, beq_iff_eq] at hc; obtain ⟨rfl, rfl⟩ := hc
        show Steps p.tables e below (T.setTop (F0 m pc arr (.ref (jg_ad G (v + 1)) :: st.map (jg_mv G)))) t
        jvm_step X.here [X.here.top, ↓top_set X.here.top, hx, hb, hd, e1', Value.isRef]
        exact a
      · cases hc
  · exact z.elim
theorem jw_iinc (hx : p.tables.exec = Jvm.exec) (hb : cd.code = bs) (hd : decode bs pc = .ok (ins, n)) {x : Nat} {k : Int32} (hc : jc_iinc ins n x k = true) (hxn : x < nL) (z : jo_iinc (jg_P p l e R s m args below meth cd G J nL ns zs Q) (pc + n) ls st h x k) : jg_P p l e R s m args below meth cd G J nL ns zs Q (pc, ls, st, h) := by
  intro H locs arr hR hn hl hL
  unfold jo_iinc at z
  split at z
  · rename_i v hv
    have ha : arr[x]? = some (.val (.int v)) := (hL.2.2.2 x _ hv).1
    obtain ⟨arr', e1, hL'⟩ := hL.store hxn (.inl (v + k)) (fun z => by simp)
    have w := z H locs arr' hR hn hl hL'
    intro T hT X
    obtain ⟨t, a, b⟩ := w T hT X
    refine ⟨t, ?_, b⟩
    unfold jc_iinc at hc
    split at hc
    · rename_i i0 w0
      simp only [Bool.and_eq_true, beq_iff_eq] at hc
      obtain ⟨⟨h1, h2⟩, h3⟩ := hc
      subst h1; subst h2; subst h3
      have e1' : storeLocals arr i0 (.int (v + Int32.ofInt w0)) = some arr' := e1
      show Steps p.tables e below (T.setTop (F0 m pc arr (st.map (jg_mv G)))) t
      jvm_step X.here [X.here.top, ↓top_set X.here.top, hx, hb, hd, ha, e1']
      exact a
    · cases hc
  · exact z.elim
theorem jw_bin (hx : p.tables.exec = Jvm.exec) (hb : cd.code = bs) (hd : decode bs pc = .ok (ins, n)) {x : Nat} (hc : jc_bin ins n x = true) (z : jo_bin (jg_P p l e R s m args below meth cd G J nL ns zs Q) (pc + n) ls st h x) : jg_P p l e R s m args below meth cd G J nL ns zs Q (pc, ls, st, h) := by
  intro H locs arr hR hn hl hL
  unfold jo_bin at z
  split at z
  · rename_i b a st
    have w := z H locs arr hR hn hl hL
    unfold jc_bin at hc
    split at hc
    · simp only [Bool.and_eq_true, beq_iff_eq] at hc; obtain ⟨rfl, rfl⟩ := hc; exact lv_iadd hx hb hd w
    · simp only [Bool.and_eq_true, beq_iff_eq] at hc; obtain ⟨rfl, rfl⟩ := hc; exact lv_isub hx hb hd w
    · simp only [Bool.and_eq_true, beq_iff_eq] at hc; obtain ⟨rfl, rfl⟩ := hc; exact lv_imul hx hb hd w
    · simp only [Bool.and_eq_true, beq_iff_eq] at hc; obtain ⟨rfl, rfl⟩ := hc; exact lv_iand hx hb hd w
    · simp only [Bool.and_eq_true, beq_iff_eq] at hc; obtain ⟨rfl, rfl⟩ := hc; exact lv_ior hx hb hd w
    · simp only [Bool.and_eq_true, beq_iff_eq] at hc; obtain ⟨rfl, rfl⟩ := hc; exact lv_ixor hx hb hd w
    · simp only [Bool.and_eq_true, beq_iff_eq] at hc; obtain ⟨rfl, rfl⟩ := hc; exact lv_ishl hx hb hd w
    · simp only [Bool.and_eq_true, beq_iff_eq] at hc; obtain ⟨rfl, rfl⟩ := hc; exact lv_ishr hx hb hd w
    · cases hc
  · exact z.elim
theorem jw_if (hx : p.tables.exec = Jvm.exec) (hb : cd.code = bs) (hd : decode bs pc = .ok (ins, n)) {x y : Nat} (hc : jc_if ins n pc x y = true) (z : jo_if (jg_P p l e R s m args below meth cd G J nL ns zs Q) (pc + n) ls st h x y) : jg_P p l e R s m args below meth cd G J nL ns zs Q (pc, ls, st, h) := by
  intro H locs arr hR hn hl hL
  unfold jo_if at z
  split at z
  · rename_i a st
    obtain ⟨z1, z2⟩ := z
    unfold jc_if at hc
    split at hc
    · simp only [Bool.and_eq_true, beq_iff_eq, decide_eq_true_eq] at hc; obtain ⟨⟨rfl, rfl⟩, ho⟩ := hc; exact lv_if_eq hx hb hd ho (fun q => z1 q H locs arr hR hn hl hL) (fun q => z2 q H locs arr hR hn hl hL)
    · simp only [Bool.and_eq_true, beq_iff_eq, decide_eq_true_eq] at hc; obtain ⟨⟨rfl, rfl⟩, ho⟩ := hc; exact lv_if_ne hx hb hd ho (fun q => z1 q H locs arr hR hn hl hL) (fun q => z2 (fun g => g q) H locs arr hR hn hl hL)
    · simp only [Bool.and_eq_true, beq_iff_eq, decide_eq_true_eq] at hc; obtain ⟨⟨rfl, rfl⟩, ho⟩ := hc; exact lv_if_lt hx hb hd ho (fun q => z1 q H locs arr hR hn hl hL) (fun q => z2 q H locs arr hR hn hl hL)
    · simp only [Bool.and_eq_true, beq_iff_eq, decide_eq_true_eq] at hc; obtain ⟨⟨rfl, rfl⟩, ho⟩ := hc; exact lv_if_ge hx hb hd ho (fun q => z1 q H locs arr hR hn hl hL) (fun q => z2 q H locs arr hR hn hl hL)
    · simp only [Bool.and_eq_true, beq_iff_eq, decide_eq_true_eq] at hc; obtain ⟨⟨rfl, rfl⟩, ho⟩ := hc; exact lv_if_gt hx hb hd ho (fun q => z1 q H locs arr hR hn hl hL) (fun q => z2 q H locs arr hR hn hl hL)
    · simp only [Bool.and_eq_true, beq_iff_eq, decide_eq_true_eq] at hc; obtain ⟨⟨rfl, rfl⟩, ho⟩ := hc; exact lv_if_le hx hb hd ho (fun q => z1 q H locs arr hR hn hl hL) (fun q => z2 q H locs arr hR hn hl hL)
    · cases hc
  · exact z.elim
theorem jw_icmp (hx : p.tables.exec = Jvm.exec) (hb : cd.code = bs) (hd : decode bs pc = .ok (ins, n)) {x y : Nat} (hc : jc_icmp ins n pc x y = true) (z : jo_icmp (jg_P p l e R s m args below meth cd G J nL ns zs Q) (pc + n) ls st h x y) : jg_P p l e R s m args below meth cd G J nL ns zs Q (pc, ls, st, h) := by
  intro H locs arr hR hn hl hL
  unfold jo_icmp at z
  split at z
  · rename_i b a st
    obtain ⟨z1, z2⟩ := z
    unfold jc_icmp at hc
    split at hc
    · simp only [Bool.and_eq_true, beq_iff_eq, decide_eq_true_eq] at hc; obtain ⟨⟨rfl, rfl⟩, ho⟩ := hc; exact lv_icmp_eq hx hb hd ho (fun q => z1 q H locs arr hR hn hl hL) (fun q => z2 q H locs arr hR hn hl hL)
    · simp only [Bool.and_eq_true, beq_iff_eq, decide_eq_true_eq] at hc; obtain ⟨⟨rfl, rfl⟩, ho⟩ := hc; exact lv_icmp_ne hx hb hd ho (fun q => z1 q H locs arr hR hn hl hL) (fun q => z2 (fun g => g q) H locs arr hR hn hl hL)
    · simp only [Bool.and_eq_true, beq_iff_eq, decide_eq_true_eq] at hc; obtain ⟨⟨rfl, rfl⟩, ho⟩ := hc; exact lv_icmp_lt hx hb hd ho (fun q => z1 q H locs arr hR hn hl hL) (fun q => z2 q H locs arr hR hn hl hL)
    · simp only [Bool.and_eq_true, beq_iff_eq, decide_eq_true_eq] at hc; obtain ⟨⟨rfl, rfl⟩, ho⟩ := hc; exact lv_icmp_ge hx hb hd ho (fun q => z1 q H locs arr hR hn hl hL) (fun q => z2 q H locs arr hR hn hl hL)
    · simp only [Bool.and_eq_true, beq_iff_eq, decide_eq_true_eq] at hc; obtain ⟨⟨rfl, rfl⟩, ho⟩ := hc; exact lv_icmp_gt hx hb hd ho (fun q => z1 q H locs arr hR hn hl hL) (fun q => z2 q H locs arr hR hn hl hL)
    · simp only [Bool.and_eq_true, beq_iff_eq, decide_eq_true_eq] at hc; obtain ⟨⟨rfl, rfl⟩, ho⟩ := hc; exact lv_icmp_le hx hb hd ho (fun q => z1 q H locs arr hR hn hl hL) (fun q => z2 q H locs arr hR hn hl hL)
    · cases hc
  · exact z.elim
theorem jw_goto (hx : p.tables.exec = Jvm.exec) (hb : cd.code = bs) (hd : decode bs pc = .ok (ins, 3)) {y : Nat} (hc : jc_goto ins pc y = true) (z : jg_P p l e R s m args below meth cd G J nL ns zs Q (y, ls, st, h)) : jg_P p l e R s m args below meth cd G J nL ns zs Q (pc, ls, st, h) := by
  intro H locs arr hR hn hl hL
  have w := z H locs arr hR hn hl hL
  unfold jc_goto at hc
  split at hc
  · simp only [decide_eq_true_eq] at hc; exact lv_goto hx hb hd hc w
  · cases hc
theorem jw_switch (hx : p.tables.exec = Jvm.exec) (hb : cd.code = bs) (hd : decode bs pc = .ok (ins, n)) {t : List (Int32 × Nat) × Nat} (hc : jc_switch ins pc t = true) (z : jo_switch (jg_P p l e R s m args below meth cd G J nL ns zs Q) ls st h t) : jg_P p l e R s m args below meth cd G J nL ns zs Q (pc, ls, st, h) := by
  intro H locs arr hR hn hl hL
  unfold jo_switch at z
  split at z
  · rename_i a st
    have w := z H locs arr hR hn hl hL
    unfold jc_switch at hc
    split at hc
    · rename_i d lo hi os
      simp only [Bool.and_eq_true, decide_eq_true_eq] at hc
      obtain ⟨⟨h1, h2⟩, h3⟩ := hc
      by_cases hin : a.toInt < lo ∨ hi < a.toInt
      · have e1 : jm_sel t a = t.2 := jm_sl_out t.1 os.toList lo h2 (by rw [Array.length_toList]; omega)
        exact lv_tableOut hx hb hd hin h1 (by rw [← e1]; exact w)
      · obtain ⟨o, g1, g2⟩ := jm_sl_in (d := t.2) (x := a) t.1 os.toList lo h2 (by omega) (by rw [Array.length_toList]; omega)
        exact lv_tableIn hx hb hd (fun q => hin (Or.inl q)) (fun q => hin (Or.inr q)) (by rw [← Array.getElem?_toList]; exact g1) g2 w
    · cases hc
  · exact z.elim
theorem jw_dup (hx : p.tables.exec = Jvm.exec) (hb : cd.code = bs) (hd : decode bs pc = .ok (.dup, 1)) (z : jo_dup (jg_P p l e R s m args below meth cd G J nL ns zs Q) (pc + 1) ls st h) : jg_P p l e R s m args below meth cd G J nL ns zs Q (pc, ls, st, h) := by
  intro H locs arr hR hn hl hL
  unfold jo_dup at z
  split at z
  · exact lv_dup hx hb hd rfl (z H locs arr hR hn hl hL)
  · exact lv_dup hx hb hd (jg_mv_c1 G (fun z => by simp)) (z H locs arr hR hn hl hL)
  · exact z.elim
theorem jw_dup2 (hx : p.tables.exec = Jvm.exec) (hb : cd.code = bs) (hd : decode bs pc = .ok (.dup2, 1)) (z : jo_dup2 (jg_P p l e R s m args below meth cd G J nL ns zs Q) (pc + 1) ls st h) : jg_P p l e R s m args below meth cd G J nL ns zs Q (pc, ls, st, h) := by
  intro H locs arr hR hn hl hL
  unfold jo_dup2 at z
  split at z
  · exact lv_dup2_11 hx hb hd rfl (jg_mv_c1 G (fun z => by simp)) (z H locs arr hR hn hl hL)
  · exact z.elim
theorem jw_dupx1 (hx : p.tables.exec = Jvm.exec) (hb : cd.code = bs) (hd : decode bs pc = .ok (.dup_x1, 1)) (z : jo_dupx1 (jg_P p l e R s m args below meth cd G J nL ns zs Q) (pc + 1) ls st h) : jg_P p l e R s m args below meth cd G J nL ns zs Q (pc, ls, st, h) := by
  intro H locs arr hR hn hl hL
  unfold jo_dupx1 at z
  split at z
  · exact lv_dup_x1 hx hb hd rfl (jg_mv_c1 G (fun z => by simp)) (z H locs arr hR hn hl hL)
  · exact z.elim
theorem jw_pop (hx : p.tables.exec = Jvm.exec) (hb : cd.code = bs) (hd : decode bs pc = .ok (.pop, 1)) (z : jo_pop (jg_P p l e R s m args below meth cd G J nL ns zs Q) (pc + 1) ls st h) : jg_P p l e R s m args below meth cd G J nL ns zs Q (pc, ls, st, h) := by
  intro H locs arr hR hn hl hL
  unfold jo_pop at z
  split at z
  · exact lv_pop hx hb hd rfl (z H locs arr hR hn hl hL)
  · exact lv_pop hx hb hd (jg_mv_c1 G (fun z => by simp)) (z H locs arr hR hn hl hL)
  · exact z.elim
theorem jw_i2l (hx : p.tables.exec = Jvm.exec) (hb : cd.code = bs) (hd : decode bs pc = .ok (.i2l, 1)) (z : jo_i2l (jg_P p l e R s m args below meth cd G J nL ns zs Q) (pc + 1) ls st h) : jg_P p l e R s m args below meth cd G J nL ns zs Q (pc, ls, st, h) := by
  intro H locs arr hR hn hl hL
  unfold jo_i2l at z
  split at z
  · exact lv_i2l hx hb hd rfl (z H locs arr hR hn hl hL)
  · exact z.elim
theorem jw_lcmp (hx : p.tables.exec = Jvm.exec) (hb : cd.code = bs) (hd : decode bs pc = .ok (.lcmp, 1)) (z : jo_lcmp (jg_P p l e R s m args below meth cd G J nL ns zs Q) (pc + 1) ls st h) : jg_P p l e R s m args below meth cd G J nL ns zs Q (pc, ls, st, h) := by
  intro H locs arr hR hn hl hL
  unfold jo_lcmp at z
  split at z
  · exact W.lcmp hx hb hd (z H locs arr hR hn hl hL)
  · exact z.elim
theorem jw_iret (hx : p.tables.exec = Jvm.exec) (hb : cd.code = bs) (hr : meth.sig.returnType = some .int) (hlk : meth.locks = false) (hd : decode bs pc = .ok (.ireturn, 1)) (z : jo_iret Q st h) : jg_P p l e R s m args below meth cd G J nL ns zs Q (pc, ls, st, h) := by
  intro H locs arr hR hn hl hL
  unfold jo_iret at z
  split at z
  · rename_i v
    intro T hT X
    obtain ⟨fs, hret, hrun, hended, hW, hframe⟩ := X.leave (v := some (.int v)) (fun q => by rw [hr] at q; cases q)
    have hmeth' : T.vm.method? m = some meth := X.method'
    refine ⟨T.setFrames fs, ?_, .inl (some (.inl v)), h, locs, hrun, hended, hW, hframe, hl, hn, by rw [← hT] at hR; exact hR, z, fun a q => by cases q⟩
    show Steps p.tables e below (T.setTop (F0 m pc arr [.int v])) _
    jvm_step X.here [X.here.top, hx, hb, hd, hmeth', hr, narrow]
    (try refine ⟨rfl, ?_⟩); (try refine ⟨rfl, ?_⟩)
    first | (intro acts; rw [hret _ acts rfl rfl rfl]) | rw [hret _ _ rfl rfl rfl]
    exact Steps.refl _
  · exact z.elim
theorem jw_zret (hx : p.tables.exec = Jvm.exec) (hb : cd.code = bs) (hr : meth.sig.returnType = some .boolean) (hlk : meth.locks = false) (hd : decode bs pc = .ok (.ireturn, 1)) (z : jo_zret Q st h) : jg_P p l e R s m args below meth cd G J nL ns zs Q (pc, ls, st, h) := by
  intro H locs arr hR hn hl hL
  unfold jo_zret at z
  split at z
  · rename_i v
    obtain ⟨hv, z⟩ := z
    have hnw : narrow .boolean (.int v) = .int v := by rcases hv with rfl | rfl <;> rfl
    intro T hT X
    obtain ⟨fs, hret, hrun, hended, hW, hframe⟩ := X.leave (v := some (.int v)) (fun q => by rw [hr] at q; cases q)
    have hmeth' : T.vm.method? m = some meth := X.method'
    refine ⟨T.setFrames fs, ?_, .inl (some (.inl v)), h, locs, hrun, hended, hW, hframe, hl, hn, by rw [← hT] at hR; exact hR, z, fun a q => by cases q⟩
    show Steps p.tables e below (T.setTop (F0 m pc arr [.int v])) _
    jvm_step X.here [X.here.top, hx, hb, hd, hmeth', hr, hnw]
    (try refine ⟨rfl, ?_⟩); (try refine ⟨rfl, ?_⟩)
    first | (intro acts; rw [hret _ acts rfl rfl rfl]) | rw [hret _ _ rfl rfl rfl]
    exact Steps.refl _
  · exact z.elim
theorem jw_vret (hx : p.tables.exec = Jvm.exec) (hb : cd.code = bs) (hr : meth.sig.returnType = none) (hlk : meth.locks = false) (hd : decode bs pc = .ok (.return_, 1)) (z : jo_vret Q st h) : jg_P p l e R s m args below meth cd G J nL ns zs Q (pc, ls, st, h) := by
  intro H locs arr hR hn hl hL
  unfold jo_vret at z
  split at z
  · intro T hT X
    obtain ⟨fs, hret, hrun, hended, hW, hframe⟩ := X.leave (v := none) (fun _ => rfl)
    have hmeth' : T.vm.method? m = some meth := X.method'
    refine ⟨T.setFrames fs, ?_, .inl none, h, locs, hrun, hended, hW, hframe, hl, hn, by rw [← hT] at hR; exact hR, z, fun a q => by cases q⟩
    show Steps p.tables e below (T.setTop (F0 m pc arr [])) _
    jvm_step X.here [X.here.top, hx, hb, hd, hmeth', hr]
    (try refine ⟨rfl, ?_⟩); (try refine ⟨rfl, ?_⟩)
    first | (intro acts; rw [hret _ acts rfl rfl rfl]) | rw [hret _ _ rfl rfl rfl]
    exact Steps.refl _
  · exact z.elim
end JW
end
section
/-! Fields, arrays, new objects. -/
/-- what the tables of classes say, beside the words -/
def jg_J (J : jm_J) (Wg : List Cond) : Prop := ∀ t q, 0 < t → J.1[t]? = some q → t < 60 ∧ (∀ w ∈ u_ws q.1 q.2.1 q.2.2, w ∈ Wg) ∧ (∀ k, k < q.2.2 → parseFieldDescriptor (q.2.1 k).2.2.1 = some (J.2.1 t k)) ∧ (∀ a, a < q.2.2 → ∀ b, b < q.2.2 → a ≠ b → (q.2.1 a).2.1 ≠ (q.2.1 b).2.1)
theorem jg_catsum (G : jm_G) (st : List jm_V) : ((st.map (jg_mv G)).map fun v => v.category).sum = jm_cs st := by
  induction st with
  | nil => rfl
  | cons v t ih =>
    simp only [List.map_cons, List.sum_cons, ih]
    rcases v with v | v | v
    · rfl
    · cases v <;> rfl
    · rfl
section JA
variable {p : Program} {l : Launch} {e : Env} {R : Room} {s : State} {m : MethodId} {args : Array Value} {below : List Frame} {meth : Method} {cd : Code} {G : jm_G} {J : jm_J} {nL ns zs : Nat} {Q : jm_Q} {bs : ByteArray} {pc n : Nat} {ins : Instr} {ls : jm_Ls} {st : List jm_V} {h : jm_H} {Wg : List Cond}
theorem jw_get0 (hx : p.tables.exec = Jvm.exec) (hb : cd.code = bs) (hK : jg_K G J Wg s) (hJ : jg_J J Wg) {own : String} {idx : Nat} (hown : s.vm.findClass own = some m.cls) {x y : Nat} {q : vw_C} (hx0 : 0 < x) (hq : J.1[x]? = some q) (hy : y < q.2.2) (hdecl : (q.2.1 y).1 = q.1) (hlink : Cond.fieldLink own idx q.1 (q.2.1 y).2.1 (q.2.1 y).2.2.1 ∈ Wg)
    (hd : decode bs pc = .ok (.getfield idx, 3)) {a : Nat} (ht : jm_T h a = x) {H : Heap} (hR : jg_R G J h H) {locs : List Loc} {cells slots : Nat} {QQ : State → Prop} {arr : Array Slot} {rest : List Value}
    (w : W p l e R s m args below meth cd H locs cells slots QQ (F0 m (pc + 3) arr (jg_fv G (J.2.1 x) (h.2.2 a) y :: rest))) : W p l e R s m args below meth cd H locs cells slots QQ (F0 m pc arr (jg_mv G (.inr (.inl a)) :: rest)) := by
  obtain ⟨hx60, hin, hpt, hnm⟩ := hJ x q hx0 hq
  obtain ⟨hp1, hp2⟩ := hR.pos ht (by omega) (by omega)
  have hat := hR.at ht (by omega) (by omega)
  have ht' : (h.2.2 a).1 = x := ht
  obtain ⟨q', hq', cell, q1, q2, q3, q4⟩ := hat.obj (by omega)
  rw [ht'] at hq' q4
  have hqq : q' = q := Option.some.inj (hq'.symm.trans hq)
  subst hqq
  obtain ⟨hS, hfc, kC, hkC, hkind⟩ := hK.2.1 x q' hx0 hq
  obtain ⟨cf, kf, fi, f, hi, hsl⟩ := hS y hy
  have hst := (u_facts hfc hkC (u_lays (fun w hw => hK.1 w hw args) hin hy) hi).1
  rw [hdecl] at hi
  rw [jg_mv_obj G hp1]
  refine W.getf hx hb hown (hK.1 _ hlink args) hi hst q1 (by rw [q3]; exact fun h => by cases h) (v := jg_fv G (J.2.1 x) (h.2.2 a) y) ?_ rfl rfl hd w
  rw [hsl, q4 y hy]
theorem jw_geti (hx : p.tables.exec = Jvm.exec) (hb : cd.code = bs) (hK : jg_K G J Wg s) (hJ : jg_J J Wg) {own : String} {idx : Nat} (hown : s.vm.findClass own = some m.cls) {x y : Nat} {q : vw_C} (hx0 : 0 < x) (hq : J.1[x]? = some q) (hy : y < q.2.2) (hdecl : (q.2.1 y).1 = q.1) (hlink : Cond.fieldLink own idx q.1 (q.2.1 y).2.1 (q.2.1 y).2.2.1 ∈ Wg)
    (hty : jm_isI (J.2.1 x y) = true) (hd : decode bs pc = .ok (.getfield idx, 3)) (z : jo_geti (jg_P p l e R s m args below meth cd G J nL ns zs Q) (pc + 3) ls st h x y) : jg_P p l e R s m args below meth cd G J nL ns zs Q (pc, ls, st, h) := by
  intro H locs arr hR hn hl hL
  replace hR : jg_R G J h H := hR
  replace hn : ns ≤ h.1 ∧ zs ≤ h.2.1 ∧ h.1 ≤ R.cells + ns ∧ h.2.1 ≤ R.slots + zs := hn
  replace hL : jg_Ls G arr nL ls := hL
  unfold jo_geti at z
  split at z
  · rename_i a st
    obtain ⟨ht, z⟩ := z
    have w := z H locs arr hR hn hl hL
    refine jw_get0 hx hb hK hJ hown hx0 hq hy hdecl hlink hd ht hR ?_
    have ev : jg_fv G (J.2.1 x) (h.2.2 a) y = .int (jm_I h a y) := by unfold jg_fv; rw [if_pos hty]; rfl
    rw [ev]
    exact w
  · exact z.elim
theorem jw_getr (hx : p.tables.exec = Jvm.exec) (hb : cd.code = bs) (hK : jg_K G J Wg s) (hJ : jg_J J Wg) {own : String} {idx : Nat} (hown : s.vm.findClass own = some m.cls) {x y : Nat} {q : vw_C} (hx0 : 0 < x) (hq : J.1[x]? = some q) (hy : y < q.2.2) (hdecl : (q.2.1 y).1 = q.1) (hlink : Cond.fieldLink own idx q.1 (q.2.1 y).2.1 (q.2.1 y).2.2.1 ∈ Wg)
    (hty : jm_isI (J.2.1 x y) = false) (hd : decode bs pc = .ok (.getfield idx, 3)) (z : jo_getr (jg_P p l e R s m args below meth cd G J nL ns zs Q) (pc + 3) ls st h x y) : jg_P p l e R s m args below meth cd G J nL ns zs Q (pc, ls, st, h) := by
  intro H locs arr hR hn hl hL
  replace hR : jg_R G J h H := hR
  replace hn : ns ≤ h.1 ∧ zs ≤ h.2.1 ∧ h.1 ≤ R.cells + ns ∧ h.2.1 ≤ R.slots + zs := hn
  replace hL : jg_Ls G arr nL ls := hL
  unfold jo_getr at z
  split at z
  · rename_i a st
    obtain ⟨ht, z⟩ := z
    have w := z H locs arr hR hn hl hL
    refine jw_get0 hx hb hK hJ hown hx0 hq hy hdecl hlink hd ht hR ?_
    have ev : jg_fv G (J.2.1 x) (h.2.2 a) y = jg_mv G (.inr (.inl (jm_F h a y))) := by unfold jg_fv; rw [if_neg (by rw [hty]; decide)]; rfl
    rw [ev]
    exact w
  · exact z.elim
theorem jw_put0 (hx : p.tables.exec = Jvm.exec) (hb : cd.code = bs) (hK : jg_K G J Wg s) (hJ : jg_J J Wg) {own : String} {idx : Nat} (hown : s.vm.findClass own = some m.cls) {x y : Nat} {q : vw_C} (hx0 : 0 < x) (hq : J.1[x]? = some q) (hy : y < q.2.2) (hdecl : (q.2.1 y).1 = q.1) (hlink : Cond.fieldLink own idx q.1 (q.2.1 y).2.1 (q.2.1 y).2.2.1 ∈ Wg)
    (hfin : (q.2.1 y).2.2.2 = false ∨ (q.1 = own ∧ meth.name = "<init>")) (hd : decode bs pc = .ok (.putfield idx, 3)) {a : Nat} (ht : jm_T h a = x) {H : Heap} (hR : jg_R G J h H) {v : Value} (hnw : narrow (J.2.1 x y) v = v) (hfit : fits (J.2.1 x y) v = true)
    {h' : jm_H} (e1 : h'.1 = h.1) (e3 : ∀ r, r ≠ a → h'.2.2 r = h.2.2 r) (e4 : (h'.2.2 a).1 = x) (e5 : ∀ k, k < q.2.2 → updV (jg_fv G (J.2.1 x) (h.2.2 a)) y v k = jg_fv G (J.2.1 x) (h'.2.2 a) k)
    {locs : List Loc} (hl : ∀ q ∈ locs, G.2.1 ≤ q.base) {cells slots : Nat} {QQ : State → Prop} {arr : Array Slot} {rest : List Value}
    (kk : ∀ (H' : Heap) (locs' : List Loc), jg_R G J h' H' → (∀ q ∈ locs', G.2.1 ≤ q.base) → W p l e R s m args below meth cd H' locs' cells slots QQ (F0 m (pc + 3) arr rest)) : W p l e R s m args below meth cd H locs cells slots QQ (F0 m pc arr (v :: jg_mv G (.inr (.inl a)) :: rest)) := by
  obtain ⟨hx60, hin, hpt, hnm⟩ := hJ x q hx0 hq
  obtain ⟨hp1, hp2⟩ := hR.pos ht (by omega) (by omega)
  have hat := hR.at ht (by omega) (by omega)
  have ht' : (h.2.2 a).1 = x := ht
  obtain ⟨q', hq', cell, q1, q2, q3, q4⟩ := hat.obj (by omega)
  rw [ht'] at hq' q4 q2
  have hqq : q' = q := Option.some.inj (hq'.symm.trans hq)
  subst hqq
  have hts : ∀ w ∈ Wg, w.before args s = true := fun w hw => hK.1 w hw args
  obtain ⟨hS, hfc, kC, hkC, hkind⟩ := hK.2.1 x q' hx0 hq
  have hap : ∀ i j, i < q'.2.2 → j < q'.2.2 → i ≠ j → (G.2.2.2.1.2 x) i ≠ (G.2.2.2.1.2 x) j := by
    intro i j hi hj hne
    obtain ⟨_, _, _, fa, hia, ea⟩ := hS i hi
    obtain ⟨_, _, _, fb, hib, eb⟩ := hS j hj
    rw [← ea, ← eb]
    refine u_apart (u_lays hts hin hi) (u_lays hts hin hj) hia hib ?_
    rw [(State.fieldFound?_type hia (hpt i hi)).1, (State.fieldFound?_type hib (hpt j hj)).1]
    exact hnm i hi j hj hne
  obtain ⟨cf, kf, fi, f, hi, hsl⟩ := hS y hy
  have hst := (u_facts hfc hkC (u_lays hts hin hy) hi).1
  have hlay := hts _ (hin _ (u_in_lay hy))
  unfold u_lay at hlay
  rw [jg_mv_obj G hp1]
  have hend : ∀ H' : Heap, H'[G.2.1 + (a - 2)]? = some (cell.setSlot f.slot v) → H'.size = H.size → (∀ q, q ≠ G.2.1 + (a - 2) → H'[q]? = H[q]?) → W p l e R s m args below meth cd H' (locs ++ [⟨G.2.1 + (a - 2), f.slot⟩]) cells slots QQ (F0 m (pc + 3) arr rest) := by
    intro H' g1 g2 g3
    refine kk H' _ (hR.upd hp1 hp2 e1 e3 g2 g3 (jg_at.mkO (by omega) ?_)) (fun z hz => ?_)
    · rw [e4]
      refine ⟨q', hq, t_OB.to (V := updV (jg_fv G (J.2.1 x) (h.2.2 a)) y v) ⟨_, g1, q2, q3, ?_⟩ e5⟩
      rw [hsl]
      exact t_set q4 hap hy v
    · rcases List.mem_append.mp hz with hz | hz
      · exact hl z hz
      · rw [List.mem_singleton.mp hz]
        exact Nat.le_add_right _ _
  have hlt : f.slot < cell.slots.size := by rw [hsl]; exact k2_hasslot (q4 y hy)
  by_cases hf : (q'.2.1 y).2.2.2 = true
  · rw [if_pos hf] at hlay
    rcases hfin with hfin | ⟨ho, hini⟩
    · rw [hf] at hfin; cases hfin
    · have hcf : m.cls = cf := by
        obtain ⟨_, _, c', _, _, _, -, -, hf', -, -, -, hown2, -⟩ := Cond.laysFinal_spec hlay
        have e1 : c' = cf := by have := hi.symm.trans hf'; simp at this; exact this.1.symm
        rw [hdecl, ho] at hown2
        rw [← e1]; exact Option.some.inj (hown.symm.trans hown2)
      have h6 := u_fits hfc hkC hkind (Or.inr hlay) hi (hpt y hy) hnw hfit
      rw [hdecl] at hi
      exact W.putFinK hx hb hown (hts _ hlink) hi hst hcf hini (by rw [q2]; exact h6) q1 q3 hlt rfl rfl hd hend
  · rw [if_neg hf] at hlay
    have h6 := u_store hfc hkC hkind hlay hi (hpt y hy) hnw hfit
    rw [hdecl] at hi
    exact W.putK hx hb (f := f) ⟨hown, hts _ hlink, ⟨_, _, _, hi⟩, hst⟩ (by rw [q2]; exact h6) q1 q3 hlt rfl rfl hd hend
theorem jw_puti (hx : p.tables.exec = Jvm.exec) (hb : cd.code = bs) (hK : jg_K G J Wg s) (hJ : jg_J J Wg) {own : String} {idx : Nat} (hown : s.vm.findClass own = some m.cls) {x y : Nat} {q : vw_C} (hx0 : 0 < x) (hq : J.1[x]? = some q) (hy : y < q.2.2) (hdecl : (q.2.1 y).1 = q.1) (hlink : Cond.fieldLink own idx q.1 (q.2.1 y).2.1 (q.2.1 y).2.2.1 ∈ Wg)
    (hfin : (q.2.1 y).2.2.2 = false ∨ (q.1 = own ∧ meth.name = "<init>")) (hty : J.2.1 x y = .int) (hd : decode bs pc = .ok (.putfield idx, 3)) (z : jo_puti (jg_P p l e R s m args below meth cd G J nL ns zs Q) (pc + 3) ls st h x y) : jg_P p l e R s m args below meth cd G J nL ns zs Q (pc, ls, st, h) := by
  intro H locs arr hR hn hl hL
  replace hR : jg_R G J h H := hR
  replace hn : ns ≤ h.1 ∧ zs ≤ h.2.1 ∧ h.1 ≤ R.cells + ns ∧ h.2.1 ≤ R.slots + zs := hn
  replace hL : jg_Ls G arr nL ls := hL
  unfold jo_puti at z
  split at z
  · rename_i v a st
    obtain ⟨ht, z⟩ := z
    have ea : (jm_sI h a y v).2.2 a = ((h.2.2 a).1, (h.2.2 a).2.1, jm_up (h.2.2 a).2.2.1 y v, (h.2.2 a).2.2.2) := jm_up_self _ _ _
    refine jw_put0 hx hb hK hJ hown hx0 hq hy hdecl hlink hfin hd ht hR (v := .int v) (by rw [hty]; rfl) (by rw [hty]; rfl) (h' := jm_sI h a y v) rfl (fun r hr => jm_up_ne _ _ hr) (by rw [ea]; exact ht) (fun k _ => ?_) hl (fun H' locs' hR' hl' => z H' locs' arr hR' hn hl' hL)
    rw [ea]
    unfold updV jg_fv
    by_cases hk : k = y
    · subst hk
      rw [if_pos rfl, if_pos (by rw [hty]; rfl)]
      show _ = Value.int (jm_up _ k v k)
      rw [jm_up_self]
    · rw [if_neg hk]
      show _ = if jm_isI (J.2.1 x k) = true then Value.int (jm_up (h.2.2 a).2.2.1 y v k) else _
      rw [jm_up_ne _ _ hk]
  · exact z.elim
theorem jw_putz (hx : p.tables.exec = Jvm.exec) (hb : cd.code = bs) (hK : jg_K G J Wg s) (hJ : jg_J J Wg) {own : String} {idx : Nat} (hown : s.vm.findClass own = some m.cls) {x y : Nat} {q : vw_C} (hx0 : 0 < x) (hq : J.1[x]? = some q) (hy : y < q.2.2) (hdecl : (q.2.1 y).1 = q.1) (hlink : Cond.fieldLink own idx q.1 (q.2.1 y).2.1 (q.2.1 y).2.2.1 ∈ Wg)
    (hfin : (q.2.1 y).2.2.2 = false ∨ (q.1 = own ∧ meth.name = "<init>")) (hty : J.2.1 x y = .boolean) (hd : decode bs pc = .ok (.putfield idx, 3)) (z : jo_putz (jg_P p l e R s m args below meth cd G J nL ns zs Q) (pc + 3) ls st h x y) : jg_P p l e R s m args below meth cd G J nL ns zs Q (pc, ls, st, h) := by
  intro H locs arr hR hn hl hL
  replace hR : jg_R G J h H := hR
  replace hn : ns ≤ h.1 ∧ zs ≤ h.2.1 ∧ h.1 ≤ R.cells + ns ∧ h.2.1 ≤ R.slots + zs := hn
  replace hL : jg_Ls G arr nL ls := hL
  unfold jo_putz at z
  split at z
  · rename_i v a st
    obtain ⟨ht, hv, z⟩ := z
    have ea : (jm_sI h a y v).2.2 a = ((h.2.2 a).1, (h.2.2 a).2.1, jm_up (h.2.2 a).2.2.1 y v, (h.2.2 a).2.2.2) := jm_up_self _ _ _
    refine jw_put0 hx hb hK hJ hown hx0 hq hy hdecl hlink hfin hd ht hR (v := .int v) (by rw [hty]; rcases hv with rfl | rfl <;> rfl) (by rw [hty]; rcases hv with rfl | rfl <;> rfl) (h' := jm_sI h a y v) rfl (fun r hr => jm_up_ne _ _ hr) (by rw [ea]; exact ht) (fun k _ => ?_) hl (fun H' locs' hR' hl' => z H' locs' arr hR' hn hl' hL)
    rw [ea]
    unfold updV jg_fv
    by_cases hk : k = y
    · subst hk
      rw [if_pos rfl, if_pos (by rw [hty]; rfl)]
      show _ = Value.int (jm_up _ k v k)
      rw [jm_up_self]
    · rw [if_neg hk]
      show _ = if jm_isI (J.2.1 x k) = true then Value.int (jm_up (h.2.2 a).2.2.1 y v k) else _
      rw [jm_up_ne _ _ hk]
  · exact z.elim
theorem jw_putr (hx : p.tables.exec = Jvm.exec) (hb : cd.code = bs) (hK : jg_K G J Wg s) (hJ : jg_J J Wg) {own : String} {idx : Nat} (hown : s.vm.findClass own = some m.cls) {x y : Nat} {q : vw_C} (hx0 : 0 < x) (hq : J.1[x]? = some q) (hy : y < q.2.2) (hdecl : (q.2.1 y).1 = q.1) (hlink : Cond.fieldLink own idx q.1 (q.2.1 y).2.1 (q.2.1 y).2.2.1 ∈ Wg)
    (hfin : (q.2.1 y).2.2.2 = false ∨ (q.1 = own ∧ meth.name = "<init>")) (hty : (∃ c, J.2.1 x y = .object c) ∨ ∃ t, J.2.1 x y = .array t) (hd : decode bs pc = .ok (.putfield idx, 3)) (z : jo_putr (jg_P p l e R s m args below meth cd G J nL ns zs Q) (pc + 3) ls st h x y) : jg_P p l e R s m args below meth cd G J nL ns zs Q (pc, ls, st, h) := by
  intro H locs arr hR hn hl hL
  replace hR : jg_R G J h H := hR
  replace hn : ns ≤ h.1 ∧ zs ≤ h.2.1 ∧ h.1 ≤ R.cells + ns ∧ h.2.1 ≤ R.slots + zs := hn
  replace hL : jg_Ls G arr nL ls := hL
  unfold jo_putr at z
  split at z
  · rename_i v a st
    obtain ⟨ht, z⟩ := z
    have ea : (jm_sF h a y v).2.2 a = ((h.2.2 a).1, (h.2.2 a).2.1, (h.2.2 a).2.2.1, jm_up (h.2.2 a).2.2.2.1 y v, (h.2.2 a).2.2.2.2) := jm_up_self _ _ _
    have hni : ¬ jm_isI (J.2.1 x y) = true := by rcases hty with ⟨c, hc⟩ | ⟨c, hc⟩ <;> rw [hc] <;> exact fun q => by cases q
    refine jw_put0 hx hb hK hJ hown hx0 hq hy hdecl hlink hfin hd ht hR (v := jg_mv G (.inr (.inl v))) (by rcases hty with ⟨c, hc⟩ | ⟨c, hc⟩ <;> rw [hc] <;> cases v <;> rfl) (by rcases hty with ⟨c, hc⟩ | ⟨c, hc⟩ <;> rw [hc] <;> cases v <;> rfl) (h' := jm_sF h a y v) rfl (fun r hr => jm_up_ne _ _ hr) (by rw [ea]; exact ht) (fun k _ => ?_) hl (fun H' locs' hR' hl' => z H' locs' arr hR' hn hl' hL)
    rw [ea]
    unfold updV jg_fv
    by_cases hk : k = y
    · subst hk
      rw [if_pos rfl, if_neg hni]
      show _ = jg_mv G (.inr (.inl (jm_up _ k v k)))
      rw [jm_up_self]
    · rw [if_neg hk]
      show _ = if jm_isI (J.2.1 x k) = true then _ else jg_mv G (.inr (.inl (jm_up (h.2.2 a).2.2.2.1 y v k)))
      rw [jm_up_ne _ _ hk]
  · exact z.elim
theorem jw_iald (hx : p.tables.exec = Jvm.exec) (hb : cd.code = bs) (hK : jg_K G J Wg s) (hd : decode bs pc = .ok (.iaload, 1)) (z : jo_iald (jg_P p l e R s m args below meth cd G J nL ns zs Q) (pc + 1) ls st h 100) : jg_P p l e R s m args below meth cd G J nL ns zs Q (pc, ls, st, h) := by
  intro H locs arr hR hn hl hL
  replace hR : jg_R G J h H := hR
  replace hn : ns ≤ h.1 ∧ zs ≤ h.2.1 ∧ h.1 ≤ R.cells + ns ∧ h.2.1 ≤ R.slots + zs := hn
  replace hL : jg_Ls G arr nL ls := hL
  unfold jo_iald at z
  split at z
  · rename_i j a st
    obtain ⟨ht, hj, z⟩ := z
    obtain ⟨hp1, hp2⟩ := hR.pos ht (by omega) (by omega)
    have hc : H[G.2.1 + (a - 2)]? = some (arrV G.2.2.2.2.1 (jm_N h a) (fun j => .int (jm_I h a j))) := (hR.at ht (by omega) (by omega)).arrI ht
    obtain ⟨hj1, hj2⟩ := jm_in_spec hj
    show W p l e R s m args below meth cd H locs _ _ _ (F0 m pc arr (.int j :: jg_mv G (.inr (.inl a)) :: st.map (jg_mv G)))
    rw [jg_mv_obj G hp1]
    exact W.iald (v := .int (jm_I h a (jm_ix j))) hx hb hc (hK.2.2.1.1 _ _) (fun q => by cases q) (by rw [arrV_size]; exact hj1) (by rw [arrV_read _ _ hj2]; rfl) rfl rfl hd (z H locs arr hR hn hl hL)
  · exact z.elim
theorem jw_sald (hx : p.tables.exec = Jvm.exec) (hb : cd.code = bs) (hK : jg_K G J Wg s) (hd : decode bs pc = .ok (.iaload, 1)) (h1 : ∀ a, jm_T h a = 99 → a = 1) (z : jo_iald (jg_P p l e R s m args below meth cd G J nL ns zs Q) (pc + 1) ls st h 99) : jg_P p l e R s m args below meth cd G J nL ns zs Q (pc, ls, st, h) := by
  intro H locs arr hR hn hl hL
  replace hR : jg_R G J h H := hR
  replace hn : ns ≤ h.1 ∧ zs ≤ h.2.1 ∧ h.1 ≤ R.cells + ns ∧ h.2.1 ≤ R.slots + zs := hn
  replace hL : jg_Ls G arr nL ls := hL
  unfold jo_iald at z
  split at z
  · rename_i j a st
    obtain ⟨ht, hj, z⟩ := z
    obtain rfl := h1 a ht
    obtain ⟨-, -, -, s1, s2, s3, s4, s5⟩ := id hR
    obtain ⟨hj1, hj2⟩ := jm_in_spec hj
    exact W.iald (v := .int (jm_I h 1 (jm_ix j))) hx hb s2 hK.2.2.2.2.1 s3 (by rw [s4]; exact hj1) (s5 _ hj2) rfl rfl hd (z H locs arr hR hn hl hL)
  · exact z.elim
theorem jg_R.one {H : Heap} (hR : jg_R G J h H) {a : Nat} (ht : jm_T h a = 99) : a = 1 := by
  obtain ⟨hp, hz, hA, -⟩ := hR
  by_cases h0 : a = 0 ∨ h.1 ≤ a
  · have := hz a h0
    rw [ht] at this; cases this
  · by_cases h1 : a = 1
    · exact h1
    · have hat := hA a (by omega) (by omega)
      have ht' : (h.2.2 a).1 = 99 := ht
      unfold jg_at at hat
      rw [if_neg (by omega), if_neg (by omega), if_neg (by omega), if_neg (by omega), if_pos (by omega)] at hat
      exact hat.elim
theorem jw_sald' (hx : p.tables.exec = Jvm.exec) (hb : cd.code = bs) (hK : jg_K G J Wg s) (hd : decode bs pc = .ok (.iaload, 1)) (z : jo_iald (jg_P p l e R s m args below meth cd G J nL ns zs Q) (pc + 1) ls st h 99) : jg_P p l e R s m args below meth cd G J nL ns zs Q (pc, ls, st, h) :=
  fun H locs arr hR hn hl hL => jw_sald hx hb hK hd (fun _ ht => hR.one ht) z H locs arr hR hn hl hL
theorem jw_alen (hx : p.tables.exec = Jvm.exec) (hb : cd.code = bs) (hK : jg_K G J Wg s) (hd : decode bs pc = .ok (.arraylength, 1)) {t : Nat} (htt : t = 100 ∨ (60 ≤ t ∧ t < 99 ∧ ∃ ty, J.2.2.1 t = some ty)) (z : jo_alen (jg_P p l e R s m args below meth cd G J nL ns zs Q) (pc + 1) ls st h t) : jg_P p l e R s m args below meth cd G J nL ns zs Q (pc, ls, st, h) := by
  intro H locs arr hR hn hl hL
  replace hR : jg_R G J h H := hR
  replace hn : ns ≤ h.1 ∧ zs ≤ h.2.1 ∧ h.1 ≤ R.cells + ns ∧ h.2.1 ≤ R.slots + zs := hn
  replace hL : jg_Ls G arr nL ls := hL
  unfold jo_alen at z
  split at z
  · rename_i a st
    obtain ⟨ht, z⟩ := z
    have ht' : (h.2.2 a).1 = t := ht
    obtain ⟨hp1, hp2⟩ := hR.pos ht (by omega) (by omega)
    have hat := hR.at ht (by omega) (by omega)
    show W p l e R s m args below meth cd H locs _ _ _ (F0 m pc arr (jg_mv G (.inr (.inl a)) :: st.map (jg_mv G)))
    rw [jg_mv_obj G hp1]
    rcases htt with rfl | ⟨h1, h2, ty, hty⟩
    · exact W.alen (n := Int32.ofNat (jm_N h a)) hx hb (hat.arrI ht) (hK.2.2.1.1 _ _) (by rw [arrV_size]; rfl) rfl rfl hd (z H locs arr hR hn hl hL)
    · have hc := hat.arrR (by omega) (by omega)
      rw [ht'] at hc
      exact W.alen (n := Int32.ofNat (jm_N h a)) hx hb hc ((hK.2.2.2.2.2.1 t ty hty).1 _ _) (by rw [arrV_size]; rfl) rfl rfl hd (z H locs arr hR hn hl hL)
  · exact z.elim
theorem jw_slen (hx : p.tables.exec = Jvm.exec) (hb : cd.code = bs) (hK : jg_K G J Wg s) (hd : decode bs pc = .ok (.arraylength, 1)) (z : jo_alen (jg_P p l e R s m args below meth cd G J nL ns zs Q) (pc + 1) ls st h 99) : jg_P p l e R s m args below meth cd G J nL ns zs Q (pc, ls, st, h) := by
  intro H locs arr hR hn hl hL
  replace hR : jg_R G J h H := hR
  replace hn : ns ≤ h.1 ∧ zs ≤ h.2.1 ∧ h.1 ≤ R.cells + ns ∧ h.2.1 ≤ R.slots + zs := hn
  replace hL : jg_Ls G arr nL ls := hL
  unfold jo_alen at z
  split at z
  · rename_i a st
    obtain ⟨ht, z⟩ := z
    obtain rfl := hR.one ht
    obtain ⟨-, -, -, s1, s2, s3, s4, s5⟩ := id hR
    exact W.alen (n := Int32.ofNat (jm_N h 1)) hx hb s2 hK.2.2.2.2.1 (by rw [s4]) rfl rfl hd (z H locs arr hR hn hl hL)
  · exact z.elim
theorem jl_app {a i : Nat} {locs : List Loc} (hl : ∀ q ∈ locs, G.2.1 ≤ q.base) (ha : G.2.1 ≤ a) : ∀ q ∈ locs ++ [(⟨a, i⟩ : Loc)], G.2.1 ≤ q.base := fun z hz => by
  rcases List.mem_append.mp hz with hz | hz
  · exact hl z hz
  · rw [List.mem_singleton.mp hz]; exact ha
theorem jw_iast (hx : p.tables.exec = Jvm.exec) (hb : cd.code = bs) (hK : jg_K G J Wg s) (hd : decode bs pc = .ok (.iastore, 1)) (z : jo_iast (jg_P p l e R s m args below meth cd G J nL ns zs Q) (pc + 1) ls st h) : jg_P p l e R s m args below meth cd G J nL ns zs Q (pc, ls, st, h) := by
  intro H locs arr hR hn hl hL
  replace hR : jg_R G J h H := hR
  replace hn : ns ≤ h.1 ∧ zs ≤ h.2.1 ∧ h.1 ≤ R.cells + ns ∧ h.2.1 ≤ R.slots + zs := hn
  replace hL : jg_Ls G arr nL ls := hL
  unfold jo_iast at z
  split at z
  · rename_i v j a st
    obtain ⟨ht, hj, z⟩ := z
    obtain ⟨hp1, hp2⟩ := hR.pos ht (by omega) (by omega)
    have hc : H[G.2.1 + (a - 2)]? = some (arrV G.2.2.2.2.1 (jm_N h a) (fun j => .int (jm_I h a j))) := (hR.at ht (by omega) (by omega)).arrI ht
    obtain ⟨hj1, hj2⟩ := jm_in_spec hj
    show W p l e R s m args below meth cd H locs _ _ _ (F0 m pc arr (.int v :: .int j :: jg_mv G (.inr (.inl a)) :: st.map (jg_mv G)))
    rw [jg_mv_obj G hp1]
    refine W.iast hx hb hc (hK.2.2.1.1 _ _) (fun q => by cases q) (by rw [arrV_size]; exact hj1) rfl rfl hd fun H' g1 g2 g3 => ?_
    have ea : (jm_sI h a (jm_ix j) v).2.2 a = ((h.2.2 a).1, (h.2.2 a).2.1, jm_up (h.2.2 a).2.2.1 (jm_ix j) v, (h.2.2 a).2.2.2) := jm_up_self _ _ _
    refine z H' _ arr (hR.upd hp1 hp2 rfl (fun r hr => jm_up_ne _ _ hr) g2 g3 (jg_at.mkI (by rw [ea]; exact ht) ?_)) hn (jl_app hl (Nat.le_add_right _ _)) hL
    rw [ea, g1, arrV_store]
    congr 2
    funext k
    unfold updV
    show (if k = jm_ix j then Value.int v else Value.int (jm_I h a k)) = Value.int (jm_up _ _ v k)
    unfold jm_up
    by_cases hk : k = jm_ix j
    · rw [if_pos hk, if_pos hk]
    · rw [if_neg hk, if_neg hk]; rfl
  · exact z.elim
theorem jw_lald (hx : p.tables.exec = Jvm.exec) (hb : cd.code = bs) (hK : jg_K G J Wg s) (hd : decode bs pc = .ok (.laload, 1)) (z : jo_lald (jg_P p l e R s m args below meth cd G J nL ns zs Q) (pc + 1) ls st h) : jg_P p l e R s m args below meth cd G J nL ns zs Q (pc, ls, st, h) := by
  intro H locs arr hR hn hl hL
  replace hR : jg_R G J h H := hR
  replace hn : ns ≤ h.1 ∧ zs ≤ h.2.1 ∧ h.1 ≤ R.cells + ns ∧ h.2.1 ≤ R.slots + zs := hn
  replace hL : jg_Ls G arr nL ls := hL
  unfold jo_lald at z
  split at z
  · rename_i j a st
    obtain ⟨ht, hj, z⟩ := z
    obtain ⟨hp1, hp2⟩ := hR.pos ht (by omega) (by omega)
    have hc : H[G.2.1 + (a - 2)]? = some (arrV G.2.2.2.2.2.1 (jm_N h a) (fun j => .long (jm_L h a j))) := (hR.at ht (by omega) (by omega)).arrL ht
    obtain ⟨hj1, hj2⟩ := jm_in_spec hj
    show W p l e R s m args below meth cd H locs _ _ _ (F0 m pc arr (.int j :: jg_mv G (.inr (.inl a)) :: st.map (jg_mv G)))
    rw [jg_mv_obj G hp1]
    exact W.lald (v := .long (jm_L h a (jm_ix j))) hx hb hc (hK.2.2.2.1.1 _ _) (fun q => by cases q) (by rw [arrV_size]; exact hj1) (by rw [arrV_read _ _ hj2]; rfl) rfl rfl hd (z H locs arr hR hn hl hL)
  · exact z.elim
theorem jw_last (hx : p.tables.exec = Jvm.exec) (hb : cd.code = bs) (hK : jg_K G J Wg s) (hd : decode bs pc = .ok (.lastore, 1)) (z : jo_last (jg_P p l e R s m args below meth cd G J nL ns zs Q) (pc + 1) ls st h) : jg_P p l e R s m args below meth cd G J nL ns zs Q (pc, ls, st, h) := by
  intro H locs arr hR hn hl hL
  replace hR : jg_R G J h H := hR
  replace hn : ns ≤ h.1 ∧ zs ≤ h.2.1 ∧ h.1 ≤ R.cells + ns ∧ h.2.1 ≤ R.slots + zs := hn
  replace hL : jg_Ls G arr nL ls := hL
  unfold jo_last at z
  split at z
  · rename_i v j a st
    obtain ⟨ht, hj, z⟩ := z
    obtain ⟨hp1, hp2⟩ := hR.pos ht (by omega) (by omega)
    have hc : H[G.2.1 + (a - 2)]? = some (arrV G.2.2.2.2.2.1 (jm_N h a) (fun j => .long (jm_L h a j))) := (hR.at ht (by omega) (by omega)).arrL ht
    obtain ⟨hj1, hj2⟩ := jm_in_spec hj
    show W p l e R s m args below meth cd H locs _ _ _ (F0 m pc arr (.long v :: .int j :: jg_mv G (.inr (.inl a)) :: st.map (jg_mv G)))
    rw [jg_mv_obj G hp1]
    refine W.last hx hb hc (hK.2.2.2.1.1 _ _) (fun q => by cases q) (by rw [arrV_size]; exact hj1) rfl rfl hd fun H' g1 g2 g3 => ?_
    have ea : (jm_sL h a (jm_ix j) v).2.2 a = ((h.2.2 a).1, (h.2.2 a).2.1, (h.2.2 a).2.2.1, (h.2.2 a).2.2.2.1, jm_up (h.2.2 a).2.2.2.2 (jm_ix j) v) := jm_up_self _ _ _
    refine z H' _ arr (hR.upd hp1 hp2 rfl (fun r hr => jm_up_ne _ _ hr) g2 g3 (jg_at.mkL (by rw [ea]; exact ht) ?_)) hn (jl_app hl (Nat.le_add_right _ _)) hL
    rw [ea, g1, arrV_store]
    congr 2
    funext k
    unfold updV
    show (if k = jm_ix j then Value.long v else Value.long (jm_L h a k)) = Value.long (jm_up _ _ v k)
    unfold jm_up
    by_cases hk : k = jm_ix j
    · rw [if_pos hk, if_pos hk]
    · rw [if_neg hk, if_neg hk]; rfl
  · exact z.elim
theorem jw_aald (hx : p.tables.exec = Jvm.exec) (hb : cd.code = bs) (hK : jg_K G J Wg s) (hd : decode bs pc = .ok (.aaload, 1)) {t : Nat} (h1 : 60 ≤ t) (h2 : t < 99) {ty : FieldType} (hty : J.2.2.1 t = some ty) (hr : ty.isReference = true) (z : jo_aald (jg_P p l e R s m args below meth cd G J nL ns zs Q) (pc + 1) ls st h t) : jg_P p l e R s m args below meth cd G J nL ns zs Q (pc, ls, st, h) := by
  intro H locs arr hR hn hl hL
  replace hR : jg_R G J h H := hR
  replace hn : ns ≤ h.1 ∧ zs ≤ h.2.1 ∧ h.1 ≤ R.cells + ns ∧ h.2.1 ≤ R.slots + zs := hn
  replace hL : jg_Ls G arr nL ls := hL
  unfold jo_aald at z
  split at z
  · rename_i j a st
    obtain ⟨ht, hj, z⟩ := z
    have ht' : (h.2.2 a).1 = t := ht
    obtain ⟨hp1, hp2⟩ := hR.pos ht (by omega) (by omega)
    have hc0 := (hR.at ht (by omega) (by omega)).arrR (by omega) (by omega)
    rw [ht'] at hc0
    have hc : H[G.2.1 + (a - 2)]? = some (arrV (G.2.2.2.2.2.2.1 t) (jm_N h a) (fun j => jg_mv G (.inr (.inl (jm_F h a j))))) := hc0
    obtain ⟨hj1, hj2⟩ := jm_in_spec hj
    show W p l e R s m args below meth cd H locs _ _ _ (F0 m pc arr (.int j :: jg_mv G (.inr (.inl a)) :: st.map (jg_mv G)))
    rw [jg_mv_obj G hp1]
    exact W.aald (v := jg_mv G (.inr (.inl (jm_F h a (jm_ix j))))) (ty := ty) hx hb hc ((hK.2.2.2.2.2.1 t ty hty).1 _ _) hr (fun q => by cases q) (by rw [arrV_size]; exact hj1) (by rw [arrV_read _ _ hj2]; rfl) rfl rfl hd (z H locs arr hR hn hl hL)
  · exact z.elim
theorem jw_aast (hx : p.tables.exec = Jvm.exec) (hb : cd.code = bs) (hK : jg_K G J Wg s) (hd : decode bs pc = .ok (.aastore, 1)) {t y : Nat} (h1 : 60 ≤ t) (h2 : t < 99) (hy0 : 0 < y) (hy6 : y < 60) {q : vw_C} (hq : J.1[y]? = some q) (hty : J.2.2.1 t = some (.object q.1)) (z : jo_aast (jg_P p l e R s m args below meth cd G J nL ns zs Q) (pc + 1) ls st h t y) : jg_P p l e R s m args below meth cd G J nL ns zs Q (pc, ls, st, h) := by
  intro H locs arr hR hn hl hL
  replace hR : jg_R G J h H := hR
  replace hn : ns ≤ h.1 ∧ zs ≤ h.2.1 ∧ h.1 ≤ R.cells + ns ∧ h.2.1 ≤ R.slots + zs := hn
  replace hL : jg_Ls G arr nL ls := hL
  unfold jo_aast at z
  split at z
  · rename_i v j a st
    obtain ⟨ht, hj, hv, z⟩ := z
    have ht' : (h.2.2 a).1 = t := ht
    have hv' : (h.2.2 v).1 = y := hv
    obtain ⟨hp1, hp2⟩ := hR.pos ht (by omega) (by omega)
    obtain ⟨hv1, hv2⟩ := hR.pos hv (by omega) (by omega)
    have hc0 := (hR.at ht (by omega) (by omega)).arrR (by omega) (by omega)
    rw [ht'] at hc0
    have hc : H[G.2.1 + (a - 2)]? = some (arrV (G.2.2.2.2.2.2.1 t) (jm_N h a) (fun j => jg_mv G (.inr (.inl (jm_F h a j))))) := hc0
    obtain ⟨q', hq', cellV, g1, g2, g3, -⟩ := (hR.at hv (by omega) (by omega)).obj (by omega)
    rw [hv'] at g2
    obtain ⟨hj1, hj2⟩ := jm_in_spec hj
    have hcls := (hK.2.1 y q hy0 hq).2
    obtain ⟨kA, comp, k1, k2, k3, -⟩ := (hK.2.2.2.2.2.1 t _ hty).2.1
    have hcomp : comp = G.2.2.2.1.1 y := Option.some.inj (k3.symm.trans hcls.1)
    subst hcomp
    obtain ⟨kC, hkC, -⟩ := hcls.2
    show W p l e R s m args below meth cd H locs _ _ _ (F0 m pc arr (jg_mv G (.inr (.inl v)) :: .int j :: jg_mv G (.inr (.inl a)) :: st.map (jg_mv G)))
    rw [jg_mv_obj G hp1, jg_mv_obj G hv1]
    refine W.aast hx hb hc (fun q h => by cases h) (fun h => by cases h) k1 k2 rfl hkC ⟨fun q => hj1 (Or.inl q), by rw [arrV_size]; exact hj2⟩ g1 (fun q h => by rw [g3] at h; cases h) (by rw [g2]; exact hkC) (by rw [g2]; exact va_assign hcls) rfl rfl hd fun H' e1 e2 e3 => ?_
    have ea : (jm_sF h a (jm_ix j) v).2.2 a = ((h.2.2 a).1, (h.2.2 a).2.1, (h.2.2 a).2.2.1, jm_up (h.2.2 a).2.2.2.1 (jm_ix j) v, (h.2.2 a).2.2.2.2) := jm_up_self _ _ _
    refine z H' _ arr (hR.upd hp1 hp2 rfl (fun r hr => jm_up_ne _ _ hr) e2 e3 (jg_at.mkR (by rw [ea]; show 60 ≤ (h.2.2 a).1; omega) (by rw [ea]; show (h.2.2 a).1 < 99; omega) ?_)) hn (jl_app hl (Nat.le_add_right _ _)) hL
    rw [ea, e1, arrV_store]
    show some (arrV (G.2.2.2.2.2.2.1 t) _ _) = some (arrV (G.2.2.2.2.2.2.1 (h.2.2 a).1) _ _)
    rw [ht']
    congr 2
    funext k
    unfold updV
    show (if k = jm_ix j then Value.ref (G.2.1 + (v - 2)) else jg_mv G (.inr (.inl (jm_F h a k)))) = jg_mv G (.inr (.inl (jm_up _ _ v k)))
    unfold jm_up
    by_cases hk : k = jm_ix j
    · rw [if_pos hk, if_pos hk, jg_mv_obj G hv1]
    · rw [if_neg hk, if_neg hk]; rfl
  · exact z.elim
theorem jw_new (hx : p.tables.exec = Jvm.exec) (hb : cd.code = bs) (hK : jg_K G J Wg s) (hJ : jg_J J Wg) {own : String} {idx : Nat} (hown : s.vm.findClass own = some m.cls) {x c z0 : Nat} {q : vw_C} (hx0 : 0 < x) (hq : J.1[x]? = some q) (hcl : Cond.classLink own idx q.1 ∈ Wg) (hins : Cond.instantiable q.1 q.2.2 ∈ Wg) (hini : Cond.initialized q.1 ∈ Wg)
    (hdf : ∀ k, k < q.2.2 → defaultValue (J.2.1 x k) = jg_fv G (J.2.1 x) (x, 0, fun _ => 0, fun _ => 0, fun _ => 0) k)
    (hRc : c ≤ R.cells + ns) (hRz : z0 ≤ R.slots + zs) (hd : decode bs pc = .ok (.new idx, 3)) (z : jo_new (jg_P p l e R s m args below meth cd G J nL ns zs Q) (pc + 3) ls st h x q.2.2 c z0) : jg_P p l e R s m args below meth cd G J nL ns zs Q (pc, ls, st, h) := by
  intro H locs arr hR hn hl hL
  replace hR : jg_R G J h H := hR
  replace hn : ns ≤ h.1 ∧ zs ≤ h.2.1 ∧ h.1 ≤ R.cells + ns ∧ h.2.1 ≤ R.slots + zs := hn
  replace hL : jg_Ls G arr nL ls := hL
  obtain ⟨z1, z2, z⟩ := z
  obtain ⟨hx60, hin, hpt, hnm⟩ := hJ x q hx0 hq
  have hts : ∀ w ∈ Wg, w.before args s = true := fun w hw => hK.1 w hw args
  have hKn := hK.2.1 x q hx0 hq
  obtain ⟨hn1, hn2, hn3, hn4⟩ : ns ≤ h.1 ∧ zs ≤ h.2.1 ∧ h.1 ≤ R.cells + ns ∧ h.2.1 ≤ R.slots + zs := hn
  have hsz : H.size = G.2.1 + (h.1 - 2) := hR.1.2.1
  refine W.newcK hx hb hown (hts _ hcl) (hts _ hins) (hts _ hini) rfl hd (by show h.1 - ns + 1 ≤ _; omega) (by show h.2.1 - zs + _ ≤ _; omega) hKn.2.1 rfl fun H' kC hkC g1 g2 g3 => ?_
  have hR' : jg_R G J (jm_new h x 0 q.2.2) H' := hR.push g2 g3 (jg_at.mkO (by show x < 60; omega) ⟨q, hq, (u_born (J.2.1 x) hts hin hKn hkC g1 hpt).to hdf⟩)
  have w := z H' locs arr hR' ⟨by show ns ≤ h.1 + 1; omega, by show zs ≤ h.2.1 + _; omega, by show h.1 + 1 ≤ _; omega, by show h.2.1 + _ ≤ _; omega⟩ hl hL
  have em : jg_mv G (.inr (.inl h.1)) = .ref H.size := by rw [jg_mv_obj G hR.1.1, hsz]
  have w' : W p l e R s m args below meth cd H' locs (h.1 + 1 - ns) (h.2.1 + q.2.2 - zs) (jg_Z G J R s below ns zs Q) (F0 m (pc + 3) arr (jg_mv G (.inr (.inl h.1)) :: st.map (jg_mv G))) := w
  rw [em] at w'
  exact W.cs (by show h.1 - ns + 1 = h.1 + 1 - ns; omega) (by show h.2.1 - zs + _ = _; omega) w'
theorem jw_newa (hx : p.tables.exec = Jvm.exec) (hb : cd.code = bs) (hK : jg_K G J Wg s) {c z0 : Nat} {ty : ArrayType} {t : Nat} (hty : (ty = .int ∧ t = 100 ∧ Cond.arrayClass .int ∈ Wg) ∨ (ty = .long ∧ t = 101 ∧ Cond.arrayClass .long ∈ Wg))
    (hRc : c ≤ R.cells + ns) (hRz : z0 ≤ R.slots + zs) (hd : decode bs pc = .ok (.newarray ty, 2)) (z : jo_newa (jg_P p l e R s m args below meth cd G J nL ns zs Q) (pc + 2) ls st h t c z0) : jg_P p l e R s m args below meth cd G J nL ns zs Q (pc, ls, st, h) := by
  intro H locs arr hR hn hl hL
  replace hR : jg_R G J h H := hR
  replace hn : ns ≤ h.1 ∧ zs ≤ h.2.1 ∧ h.1 ≤ R.cells + ns ∧ h.2.1 ≤ R.slots + zs := hn
  replace hL : jg_Ls G arr nL ls := hL
  unfold jo_newa at z
  split at z
  · rename_i k st
    obtain ⟨z0', z3, z1, z2, z⟩ := z
    obtain ⟨hn1, hn2, hn3, hn4⟩ : ns ≤ h.1 ∧ zs ≤ h.2.1 ∧ h.1 ≤ R.cells + ns ∧ h.2.1 ≤ R.slots + zs := hn
    have hsz : H.size = G.2.1 + (h.1 - 2) := hR.1.2.1
    have hk : k.toNatClampNeg ≤ 100000 := by
      have : k.toInt.toNat ≤ 100000 := by omega
      exact this
    have em : jg_mv G (.inr (.inl h.1)) = .ref H.size := by rw [jg_mv_obj G hR.1.1, hsz]
    have hts : ∀ w ∈ Wg, w.before args s = true := fun w hw => hK.1 w hw args
    have fin : ∀ (H' : Heap), H'.size = H.size + 1 → (∀ q, q < H.size → H'[q]? = H[q]?) → jg_at G J (t, jm_ix k, fun _ => 0, fun _ => 0, fun _ => 0) H.size H' → W p l e R s m args below meth cd H' locs (h.1 - ns + 1) (h.2.1 - zs + k.toNatClampNeg) (jg_Z G J R s below ns zs Q) (F0 m (pc + 2) arr (.ref H.size :: st.map (jg_mv G))) := by
      intro H' g2 g3 ga
      have w := z H' locs arr (hR.push (z := jm_ix k) g2 g3 ga) ⟨by show ns ≤ h.1 + 1; omega, by show zs ≤ h.2.1 + _; omega, by show h.1 + 1 ≤ _; omega, by show h.2.1 + _ ≤ _; omega⟩ hl hL
      have w' : W p l e R s m args below meth cd H' locs (h.1 + 1 - ns) (h.2.1 + jm_ix k - zs) (jg_Z G J R s below ns zs Q) (F0 m (pc + 2) arr (jg_mv G (.inr (.inl h.1)) :: st.map (jg_mv G))) := w
      rw [em] at w'
      exact W.cs (by omega) (by show h.2.1 - zs + jm_ix k = _; omega) w'
    have hz2 : h.2.1 + k.toNatClampNeg ≤ z0 := z2
    rcases hty with ⟨rfl, rfl, hw⟩ | ⟨rfl, rfl, hw⟩
    · refine W.newa (atype := .int) hx hb (hts _ hw) rfl hd rfl (jm_nn z0') (by show _ * 4 ≤ _; omega) (by show h.1 - ns + 1 ≤ _; omega) (by show h.2.1 - zs + _ ≤ _; omega) fun cA kA comp h1 h2 h3 => ?_
      rw [show "[" ++ (newarray.typeOf ArrayType.int).toString = "[I" from by decide +kernel] at h1
      obtain rfl := Option.some.inj (h1.symm.trans hK.2.2.1.2)
      refine fin _ (by simp) (fun q hq => by rw [Array.getElem?_push, if_neg (Nat.ne_of_lt hq)]) (jg_at.mkI rfl ?_)
      rw [Array.getElem?_push_size, arrV_new]
      rfl
    · refine W.newa (atype := .long) hx hb (hts _ hw) rfl hd rfl (jm_nn z0') (by show _ * 8 ≤ _; omega) (by show h.1 - ns + 1 ≤ _; omega) (by show h.2.1 - zs + _ ≤ _; omega) fun cA kA comp h1 h2 h3 => ?_
      rw [show "[" ++ (newarray.typeOf ArrayType.long).toString = "[J" from by decide +kernel] at h1
      obtain rfl := Option.some.inj (h1.symm.trans hK.2.2.2.1.2)
      refine fin _ (by simp) (fun q hq => by rw [Array.getElem?_push, if_neg (Nat.ne_of_lt hq)]) (jg_at.mkL rfl ?_)
      rw [Array.getElem?_push_size, arrV_new]
      rfl
  · exact z.elim
theorem jw_newq (hx : p.tables.exec = Jvm.exec) (hb : cd.code = bs) (hK : jg_K G J Wg s) {own C : String} {idx : Nat} (hown : s.vm.findClass own = some m.cls) {c z0 t : Nat} (h60 : 60 ≤ t) (h99 : t < 99) (hty : J.2.2.1 t = some (.object C)) (hcl : Cond.classLink own idx C ∈ Wg)
    (hRc : c ≤ R.cells + ns) (hRz : z0 ≤ R.slots + zs) (hd : decode bs pc = .ok (.anewarray idx, 3)) (z : jo_newa (jg_P p l e R s m args below meth cd G J nL ns zs Q) (pc + 3) ls st h t c z0) : jg_P p l e R s m args below meth cd G J nL ns zs Q (pc, ls, st, h) := by
  intro H locs arr hR hn hl hL
  replace hR : jg_R G J h H := hR
  replace hn : ns ≤ h.1 ∧ zs ≤ h.2.1 ∧ h.1 ≤ R.cells + ns ∧ h.2.1 ≤ R.slots + zs := hn
  replace hL : jg_Ls G arr nL ls := hL
  unfold jo_newa at z
  split at z
  · rename_i k st
    obtain ⟨z0', z3, z1, z2, z⟩ := z
    obtain ⟨hn1, hn2, hn3, hn4⟩ : ns ≤ h.1 ∧ zs ≤ h.2.1 ∧ h.1 ≤ R.cells + ns ∧ h.2.1 ≤ R.slots + zs := hn
    have hsz : H.size = G.2.1 + (h.1 - 2) := hR.1.2.1
    have hk : k.toNatClampNeg ≤ 100000 := by
      have : k.toInt.toNat ≤ 100000 := by omega
      exact this
    have em : jg_mv G (.inr (.inl h.1)) = .ref H.size := by rw [jg_mv_obj G hR.1.1, hsz]
    have hts : ∀ w ∈ Wg, w.before args s = true := fun w hw => hK.1 w hw args
    obtain ⟨-, hRA, hAO, -⟩ := hK.2.2.2.2.2.1 t _ hty
    obtain ⟨kA', comp', -, -, -, hnA⟩ := hRA
    have hz2 : h.2.1 + k.toNatClampNeg ≤ z0 := z2
    refine W.anew hx hb hown (hts _ hcl) (va_AO.use (hAO C rfl)) rfl hd rfl (jm_nn z0') (by omega) (by show h.1 - ns + 1 ≤ _; omega) (by show h.2.1 - zs + _ ≤ _; omega) fun cA kA comp f1 f2 f3 f4 => ?_
    obtain rfl := Option.some.inj (f1.symm.trans hnA)
    have hat : jg_at G J (t, jm_ix k, fun _ => 0, fun _ => 0, fun _ => 0) H.size (H.push ({ cls := G.2.2.2.2.2.2.1 t, slots := Array.replicate k.toNatClampNeg .null, vm := .none } : Cell)) := by
      refine jg_at.mkR h60 h99 ?_
      rw [Array.getElem?_push_size, arrV_new]
      rfl
    have w := z (H.push ({ cls := G.2.2.2.2.2.2.1 t, slots := Array.replicate k.toNatClampNeg .null, vm := .none } : Cell)) locs arr (hR.push (z := jm_ix k) (by simp) (fun q hq => by rw [Array.getElem?_push, if_neg (Nat.ne_of_lt hq)]) hat) ⟨by show ns ≤ h.1 + 1; omega, by show zs ≤ h.2.1 + _; omega, by show h.1 + 1 ≤ _; omega, by show h.2.1 + _ ≤ _; omega⟩ hl hL
    have w' : W p l e R s m args below meth cd (H.push ({ cls := G.2.2.2.2.2.2.1 t, slots := Array.replicate k.toNatClampNeg .null, vm := .none } : Cell)) locs (h.1 + 1 - ns) (h.2.1 + jm_ix k - zs) (jg_Z G J R s below ns zs Q) (F0 m (pc + 3) arr (jg_mv G (.inr (.inl h.1)) :: st.map (jg_mv G))) := w
    rw [em] at w'
    exact W.cs (by show h.1 - ns + 1 = h.1 + 1 - ns; omega) (by show h.2.1 - zs + jm_ix k = _; omega) w'
  · exact z.elim
theorem jw_oinit (hx : p.tables.exec = Jvm.exec) (hb : cd.code = bs) (hml : cd.maxLocals = nL) (hK : jg_K G J Wg s) {own : String} {idx : Nat} (hown : s.vm.findClass own = some m.cls) (hl1 : Cond.methodLink own idx objectInit ∈ Wg) (hl2 : Cond.instanceMethod objectInit ∈ Wg) (hl3 : Cond.code objectInit ⟨#[0xb1]⟩ 1 none ∈ Wg)
    {w0 : Nat × Nat} (hRf : w0.1 ≤ R.frames) (hRl : w0.2 ≤ R.locals) (hd : decode bs pc = .ok (.invokespecial idx, 3)) (z : jo_oinit (jg_P p l e R s m args below meth cd G J nL ns zs Q) (pc + 3) ls st h w0) : jg_P p l e R s m args below meth cd G J nL ns zs Q (pc, ls, st, h) := by
  intro H locs arr hR hn hl hL
  replace hR : jg_R G J h H := hR
  replace hn : ns ≤ h.1 ∧ zs ≤ h.2.1 ∧ h.1 ≤ R.cells + ns ∧ h.2.1 ≤ R.slots + zs := hn
  replace hL : jg_Ls G arr nL ls := hL
  unfold jo_oinit at z
  split at z
  · rename_i a st
    obtain ⟨ht, hst, z⟩ := z
    have w := z H locs arr hR hn hl hL
    have ha : a ≠ 0 := fun q => ht (by rw [q]; exact hR.2.1 0 (Or.inl rfl))
    show W p l e R s m args below meth cd H locs _ _ _ (F0 m pc arr (jg_mv G (.inr (.inl a)) :: st.map (jg_mv G)))
    rw [jg_mv_ref G ha]
    refine W.objInit hx hb hown (hK.1 _ hl1 args) (hK.1 _ hl2 args) (hK.1 _ hl3 args) rfl (by rw [hml]; exact hL.1) rfl hd (by omega) ?_ w
    have hsum := jg_catsum G st
    show 2 * 0 + _ + 12 ≤ _
    omega
  · exact z.elim
theorem jw_max (hx : p.tables.exec = Jvm.exec) (hb : cd.code = bs) (hml : cd.maxLocals = nL) (hK : jg_K G J Wg s) {own : String} {idx : Nat} (hown : s.vm.findClass own = some m.cls) (hl1 : Cond.methodLink own idx Lib.Math.max.name ∈ Wg) (hl2 : Cond.static Lib.Math.max.name ∈ Wg) (hl3 : Cond.initialized "java/lang/Math" ∈ Wg) (hl4 : Cond.code Lib.Math.max.name Lib.Math.max.code 2 (some .int) ∈ Wg)
    {w0 : Nat × Nat} (hRf : w0.1 ≤ R.frames) (hRl : w0.2 ≤ R.locals) (hd : decode bs pc = .ok (.invokestatic idx, 3)) (z : jo_max (jg_P p l e R s m args below meth cd G J nL ns zs Q) (pc + 3) ls st h w0) : jg_P p l e R s m args below meth cd G J nL ns zs Q (pc, ls, st, h) := by
  intro H locs arr hR hn hl hL
  replace hR : jg_R G J h H := hR
  replace hn : ns ≤ h.1 ∧ zs ≤ h.2.1 ∧ h.1 ≤ R.cells + ns ∧ h.2.1 ≤ R.slots + zs := hn
  replace hL : jg_Ls G arr nL ls := hL
  unfold jo_max at z
  split at z
  · rename_i b a st
    obtain ⟨hst, z⟩ := z
    have w := z H locs arr hR hn hl hL
    have hsum := jg_catsum G st
    obtain ⟨hn1, hn2, hn3, hn4⟩ : ns ≤ h.1 ∧ zs ≤ h.2.1 ∧ h.1 ≤ R.cells + ns ∧ h.2.1 ≤ R.slots + zs := hn
    exact va_mmax hx hb (by rw [hml]; exact hL.1.symm) hown (hK.1 _ hl1 args) (hK.1 _ hl2 args) (hK.1 _ hl3 args) (hK.1 _ hl4 args) (by omega) (by omega) (by show h.1 - ns ≤ _; omega) (by show h.2.1 - zs ≤ _; omega) hd w
  · exact z.elim
theorem jw_copy (hx : p.tables.exec = Jvm.exec) (hb : cd.code = bs) (hml : cd.maxLocals = nL) (hK : jg_K G J Wg s) {own : String} {idx : Nat} (hown : s.vm.findClass own = some m.cls) (hl1 : Cond.methodLink own idx arraycopyName ∈ Wg) (hl2 : Cond.native arraycopyName ∈ Wg) (hl3 : Cond.static arraycopyName ∈ Wg) (hl4 : Cond.initialized "java/lang/System" ∈ Wg)
    {w0 : Nat × Nat} (hRf : w0.1 ≤ R.frames) (hRl : w0.2 ≤ R.locals) (hd : decode bs pc = .ok (.invokestatic idx, 3)) (z : jo_copy (jg_P p l e R s m args below meth cd G J nL ns zs Q) (pc + 3) ls st h w0) : jg_P p l e R s m args below meth cd G J nL ns zs Q (pc, ls, st, h) := by
  intro H locs arr hR hn hl hL
  replace hR : jg_R G J h H := hR
  replace hn : ns ≤ h.1 ∧ zs ≤ h.2.1 ∧ h.1 ≤ R.cells + ns ∧ h.2.1 ≤ R.slots + zs := hn
  replace hL : jg_Ls G arr nL ls := hL
  unfold jo_copy at z
  split at z
  · rename_i k dp b sp a st
    obtain ⟨ta, tb, k1, k2, k3, k4, k5, hst, z⟩ := z
    have ta' : (h.2.2 a).1 = 100 := ta
    have tb' : (h.2.2 b).1 = 100 := tb
    obtain ⟨pa1, pa2⟩ := hR.pos ta (by omega) (by omega)
    obtain ⟨pb1, pb2⟩ := hR.pos tb (by omega) (by omega)
    have ca : H[G.2.1 + (a - 2)]? = some (arrV G.2.2.2.2.1 (jm_N h a) (fun j => .int (jm_I h a j))) := (hR.at ta (by omega) (by omega)).arrI ta
    have cb : H[G.2.1 + (b - 2)]? = some (arrV G.2.2.2.2.1 (jm_N h b) (fun j => .int (jm_I h b j))) := (hR.at tb (by omega) (by omega)).arrI tb
    have hsum := jg_catsum G st
    show W p l e R s m args below meth cd H locs _ _ _ (F0 m pc arr (.int k :: .int dp :: jg_mv G (.inr (.inl b)) :: .int sp :: jg_mv G (.inr (.inl a)) :: st.map (jg_mv G)))
    rw [jg_mv_obj G pa1, jg_mv_obj G pb1]
    intro T hT X
    obtain ⟨-, q0, hk0, cm0, hkk0⟩ := hK.2.2.1.1 (jm_N h a) (fun j => .int (jm_I h a j))
    have e4 : sp.toNatClampNeg + k.toNatClampNeg ≤ jm_N h a := by
      show sp.toInt.toNat + k.toInt.toNat ≤ _
      omega
    have e5 : dp.toNatClampNeg + k.toNatClampNeg ≤ jm_N h b := by
      show dp.toInt.toNat + k.toInt.toNat ≤ _
      omega
    obtain ⟨vm', X', step⟩ := X.arraycopy hx hown (hK.1 _ hl1 args) (hK.1 _ hl2 args) (hK.1 _ hl3 args) (hK.1 _ hl4 args) (src := G.2.1 + (a - 2)) (dst := G.2.1 + (b - 2)) (cs := arrV G.2.2.2.2.1 (jm_N h a) (fun j => .int (jm_I h a j))) (cd := arrV G.2.2.2.2.1 (jm_N h b) (fun j => .int (jm_I h b j))) (srcPos := sp) (destPos := dp) (n := k) (by rw [hT]; exact ca) (by rw [hT]; exact cb)
      (fun _ h => by cases h) (fun _ h => by cases h) (fun h => by cases h) (fun h => by cases h) hk0 hk0 hkk0 hkk0 (by simp [refKind]) (jm_nn k2) (jm_nn k3) (jm_nn k1)
      (by rw [arrV_size]; omega) (by rw [arrV_size]; omega)
      (fun vm₁ _ i hi => by
        have e0 : (arrV G.2.2.2.2.1 (jm_N h a) (fun j => .int (jm_I h a j))).slots.getD (sp.toNatClampNeg + i) .null = .int (jm_I h a (sp.toNatClampNeg + i)) := by
          rw [Array.getD_eq_getD_getElem?, arrV_read _ _ (by omega)]
          rfl
        refine ⟨?_, ?_⟩
        · rw [e0]; rfl
        · rw [e0]; exact trivial)
      (g := F0 m pc arr (.int k :: .int dp :: .ref (G.2.1 + (b - 2)) :: .int sp :: .ref (G.2.1 + (a - 2)) :: st.map (jg_mv G))) rfl (by rw [hml]; exact hL.1) (rest := st.map (jg_mv G)) rfl (by rw [hb]; exact hd) (by omega) (by
        have hfw : nativeFrameWords "java/lang/System" "arraycopy" 5 = 7 := by decide +kernel
        show 2 * 0 + _ + _ ≤ _
        omega)
    have ec : copied (arrV G.2.2.2.2.1 (jm_N h a) (fun j => .int (jm_I h a j))) (arrV G.2.2.2.2.1 (jm_N h b) (fun j => .int (jm_I h b j))) sp dp k = arrV G.2.2.2.2.1 (jm_N h b) (fun j => .int (va_cpy (jm_I h a) (jm_I h b) sp.toNatClampNeg dp.toNatClampNeg k.toNatClampNeg j)) := va_copied (fun z => .int z) G.2.2.2.2.1 G.2.2.2.2.1 (jm_I h a) (jm_I h b) e4
    rw [ec] at X' step
    generalize hY : arrV G.2.2.2.2.1 (jm_N h b) (fun j => .int (va_cpy (jm_I h a) (jm_I h b) sp.toNatClampNeg dp.toNatClampNeg k.toNatClampNeg j)) = Y at X' step
    have hlb : G.2.1 + (b - 2) < H.size := (Array.getElem?_eq_some_iff.mp cb).1
    have hheap : ((T.setVm vm').setCell (G.2.1 + (b - 2)) Y).heap = H.setIfInBounds (G.2.1 + (b - 2)) Y := by rw [← hT]; rfl
    have ea : (jm_sA h b (jm_cpy (jm_I h a) (jm_I h b) (jm_ix sp) (jm_ix dp) (jm_ix k))).2.2 b = ((h.2.2 b).1, (h.2.2 b).2.1, jm_cpy (jm_I h a) (jm_I h b) (jm_ix sp) (jm_ix dp) (jm_ix k), (h.2.2 b).2.2.2) := jm_up_self _ _ _
    obtain ⟨t, a1, b1⟩ := z (H.setIfInBounds (G.2.1 + (b - 2)) Y) _ arr (hR.upd pb1 pb2 rfl (fun r hr => jm_up_ne _ _ hr) (by simp) (fun q hq => by simp [Array.getElem?_setIfInBounds, Ne.symm hq]) (jg_at.mkI (by rw [ea]; exact tb) (by
      rw [ea, ← hY]
      simp [Array.getElem?_setIfInBounds, hlb]
      rfl))) hn (fun q hq => by
        rcases List.mem_append.mp hq with h1 | h1
        · exact hl q h1
        · obtain ⟨z1, -, hz1⟩ := List.mem_map.mp h1
          rw [← hz1]
          exact Nat.le_add_right _ _) hL _ hheap X'
    exact ⟨t, step t a1, b1⟩
  · exact z.elim
end JA
end
section
/-! Calls: into the callee's frame and back. -/
/-- methods by number: name, code, what is returned, handlers -/
abbrev jm_M : Type := Nat → MethodName × ByteArray × Option FieldType × List (Nat × Nat × Nat × Nat)
/-- a frame of the method mi -/
def jg_Fr (M : jm_M) (nl : Nat → Nat) (mi : Nat) (p : Program) (s : State) (m : MethodId) (meth : Method) (cd : Code) : Prop :=
  p.tables.exec = Jvm.exec ∧ cd.code = (M mi).2.1 ∧ cd.maxLocals = nl mi ∧ s.vm.findClass (M mi).1.cls = some m.cls ∧ meth.sig.returnType = (M mi).2.2.1 ∧ meth.locks = false ∧ meth.name = (M mi).1.name ∧
  cd.exceptionTable.toList.map (fun h => (h.startPc, h.endPc, h.handlerPc, h.catchType)) = (M mi).2.2.2
/-- room for the frames above -/
def jg_Rm (w : Nat × Nat) (R : Room) : Prop := w.1 ≤ R.frames ∧ w.2 ≤ R.locals
/-- the abstract run of a method (by E, at depth d) is a run of the machine -/
def jg_Snd (G : jm_G) (J : jm_J) (Wg : List Cond) (M : jm_M) (nl : Nat → Nat) (rm : Nat → Nat × Nat) (cap zcap : Nat) (p : Program) (l : Launch) (e : Env) (E : Nat → List jm_V → jm_H → jm_Q → Prop) : Prop :=
  ∀ (mi : Nat) (as : List jm_V) (h : jm_H) (Q : jm_Q), E mi as h Q → (∀ v ∈ as, ∀ z, v ≠ .inr (.inr z)) →
  ∀ (R : Room) (s : State) (m : MethodId) (below : List Frame) (meth : Method) (cd : Code), jg_Fr M nl mi p s m meth cd → jg_K G J Wg s → jg_Rm (rm mi) R → (cap ≤ R.cells + h.1 ∧ zcap ≤ R.slots + h.2.1) →
  ∀ H, jg_R G J h H → s.heap = H → W p l e R s m (as.map (jg_mv G)).toArray below meth cd H [] 0 0 (jg_Z G J R s below h.1 h.2.1 Q) (entryFrame m (as.map (jg_mv G)).toArray (nl mi))
/-- the word that says a method's code -/
def jg_cw (M : jm_M) (nl : Nat → Nat) (Wg : List Cond) (x : Nat) : Prop := ((M x).2.2.2 = [] ∧ Cond.code (M x).1 (M x).2.1 (nl x) (M x).2.2.1 ∈ Wg) ∨ Cond.codeWith (M x).1 (M x).2.1 (nl x) (M x).2.2.1 (M x).2.2.2 ∈ Wg
theorem jg_callee {G : jm_G} {J : jm_J} {Wg : List Cond} {M : jm_M} {nl : Nat → Nat} {s : State} (hK : jg_K G J Wg s) {x : Nat} (h : jg_cw M nl Wg x) : ∃ mk methk ck, s.methodNamed? (M x).1 = some mk ∧ s.vm.method? mk = some methk ∧ methk.code = some ck ∧ ck.code = (M x).2.1 ∧ ck.maxLocals = nl x ∧ methk.sig.returnType = (M x).2.2.1 ∧ methk.locks = false ∧
    ck.exceptionTable.toList.map (fun h => (h.startPc, h.endPc, h.handlerPc, h.catchType)) = (M x).2.2.2 ∧ parseMethodDescriptor (M x).1.desc = some methk.sig := by
  rcases h with ⟨h0, h⟩ | h
  · have hw := hK.1 _ h #[]
    obtain ⟨mk, hn⟩ := Cond.code_named hw
    obtain ⟨methk, ck, g1, g2, g3, g4, g5, g6, g7, g8⟩ := Cond.code_spec hn hw
    refine ⟨mk, methk, ck, hn, g1, g2, g3, g4, g5, g6, ?_, g8⟩
    rw [h0]
    have : ck.exceptionTable = #[] := by simpa using g7
    rw [this]
    rfl
  · obtain ⟨mk, methk, ck, g0, g1, g2, g3, g4, g5, g6, g7, g8⟩ := Cond.codeWith_spec (hK.1 _ h #[])
    exact ⟨mk, methk, ck, g0, g1, g2, g3, g4, g6, g7, g5, g8⟩
section JC
variable {p : Program} {l : Launch} {e : Env} {R : Room} {s : State} {m : MethodId} {args : Array Value} {below : List Frame} {meth : Method} {cd : Code} {G : jm_G} {J : jm_J} {nL ns zs : Nat} {Q : jm_Q} {bs : ByteArray} {pc n : Nat} {ins : Instr} {ls : jm_Ls} {st : List jm_V} {h : jm_H} {Wg : List Cond}
theorem jw_into {H : Heap} {U : State} {locs : List Loc} (X : Stand p l e R s m args below meth cd U locs (h.1 - ns) (h.2.1 - zs)) (hU : U.heap = H) (hn : ns ≤ h.1 ∧ zs ≤ h.2.1 ∧ h.1 ≤ R.cells + ns ∧ h.2.1 ≤ R.slots + zs) (hl : ∀ q ∈ locs, G.2.1 ≤ q.base)
    {arr : Array Slot} {rest : List Value} {ig : Instr} (hsize : arr.size = cd.maxLocals) (hdg : decode cd.code pc = .ok (ig, 3)) {mk : MethodId} {methk : Method} {ck : Code} (hmk : U.vm.method? mk = some methk) (hck : methk.code = some ck) (hlk : methk.locks = false) (hpk : U.plainMethod mk)
    {R' : Room} (hRf : R'.frames + 1 ≤ R.frames) (hRl : (rest.map fun v => v.category).sum + (ck.maxLocals + 11) + R'.locals ≤ R.locals) (hRc : R'.cells + h.1 = R.cells + ns) (hRz : R'.slots + h.2.1 = R.slots + zs) (a : Array Value) {Qk : jm_Q}
    (w : W p l e R' (U.calling (F0 m pc arr rest) mk a) mk a (.java (F0 m pc arr rest) :: below) methk ck H [] 0 0 (jg_Z G J R' (U.calling (F0 m pc arr rest) mk a) (.java (F0 m pc arr rest) :: below) h.1 h.2.1 Qk) (entryFrame mk a ck.maxLocals)) {QQ : State → Prop}
    (k1 : ∀ (v : Option jm_V) (h' : jm_H) (T' : State) (locs' : List Loc), Qk (.inl v) h' → Stand p l e R s m args below meth cd T' locs' (h'.1 - ns) (h'.2.1 - zs) → jg_R G J h' T'.heap → (ns ≤ h'.1 ∧ zs ≤ h'.2.1 ∧ h'.1 ≤ R.cells + ns ∧ h'.2.1 ≤ R.slots + zs) → (∀ q ∈ locs', G.2.1 ≤ q.base) → ∃ t, Steps p.tables e below (T'.setTop (F0 m (pc + 3) arr ((v.map (jg_mv G)).toList ++ rest))) t ∧ QQ t)
    (k2 : ∀ (x : Nat) (h' : jm_H) (T' : State) (locs' : List Loc), Qk (.inr x) h' → Stand p l e R s m args below meth cd T' locs' (h'.1 - ns) (h'.2.1 - zs) → jg_R G J h' T'.heap → (ns ≤ h'.1 ∧ zs ≤ h'.2.1 ∧ h'.1 ≤ R.cells + ns ∧ h'.2.1 ≤ R.slots + zs) → (∀ q ∈ locs', G.2.1 ≤ q.base) → (200 ≤ jm_T h' x ∧ jm_T h' x % 2 = 1) → ∃ t, Steps p.tables e below ((T'.setTop (F0 m pc arr rest)).pushFrame (.throwing (jg_ad G x))) t ∧ QQ t) :
    ∃ t, Steps p.tables e below (doInvoke e (U.setTop (F0 m pc arr rest)) [] mk a).1 t ∧ QQ t := by
  obtain ⟨hn1, hn2, hn3, hn4⟩ := hn
  obtain ⟨Y₀, hin⟩ := X.into (g := F0 m pc arr rest) rfl hsize hdg a (R' := R') hmk hck hlk hpk hRf (by show 2 * 0 + (rest.map fun v => v.category).sum + _ + _ ≤ _; omega) (by omega) (by omega)
  have hheap : ((U.setTop (F0 m pc arr rest)).pushFrame (.java (entryFrame mk a ck.maxLocals))).heap = H := by
    rw [← hU]
    simp [State.pushFrame, State.setFrames, State.setTop, State.modifyTopJava]
  obtain ⟨t, stp, o, h', L, hrun, hended, hWe, hsame, hL, ⟨m1, m2, m3, m4⟩, hR', hQ, hxx⟩ := w _ hheap Y₀
  have hl' : ∀ q ∈ locs ++ L, G.2.1 ≤ q.base := fun q hq => by
    rcases List.mem_append.mp hq with h1 | h1
    · exact hl q h1
    · exact hL q h1
  have hc1 : h.1 - ns + (h'.1 - h.1) = h'.1 - ns := by omega
  have hc2 : h.2.1 - zs + (h'.2.1 - h.2.1) = h'.2.1 - zs := by omega
  rw [hin []]
  rcases o with v | x
  · have hended' : Ended t (.java (F0 m pc arr rest) :: below) (.returned (v.map (jg_mv G))) := by cases v <;> exact hended
    obtain ⟨T', X', hW', -, ht⟩ := X.outOf (g := F0 m pc arr rest) rfl hdg hended' hWe hsame
    rw [hc1, hc2] at X'
    have hh : t.heap = T'.heap := by rw [ht]; simp [State.setTop, State.modifyTopJava]
    obtain ⟨t2, st2, q2⟩ := k1 v h' T' (locs ++ L) hQ X' (by rw [← hh]; exact hR') ⟨by omega, by omega, by omega, by omega⟩ hl'
    refine ⟨t2, Steps.trans (Steps.weaken (mid := [.java (F0 m pc arr rest)]) stp) ?_, q2⟩
    rw [ht]
    exact st2
  · obtain ⟨T', X', hW', -, ht⟩ := X.outOfThrown (g := F0 m pc arr rest) rfl hended hWe hsame
    rw [hc1, hc2] at X'
    have hh : t.heap = T'.heap := by rw [ht]; exact Stand.throwing_heap _ _ _
    obtain ⟨t2, st2, q2⟩ := k2 x h' T' (locs ++ L) hQ X' (by rw [← hh]; exact hR') ⟨by omega, by omega, by omega, by omega⟩ hl' (hxx x rfl)
    refine ⟨t2, Steps.trans (Steps.weaken (mid := [.java (F0 m pc arr rest)]) stp) ?_, q2⟩
    rw [ht]
    exact st2
/-- the callee's frame, by the soundness at the next depth -/
theorem jw_enter {M : jm_M} {nl : Nat → Nat} {rm : Nat → Nat × Nat} {w0 : Nat × Nat} {cap zcap x : Nat} {E : Nat → List jm_V → jm_H → jm_Q → Prop} (hS : jg_Snd G J Wg M nl rm cap zcap p l e E) (hg : ∀ w ∈ Wg, jm_goodW w = true) (hx : p.tables.exec = Jvm.exec) (hK : jg_K G J Wg s) {H : Heap} {U : State} {locs : List Loc} (X : Stand p l e R s m args below meth cd U locs (h.1 - ns) (h.2.1 - zs)) (hU : U.heap = H) (hR : jg_R G J h H) (hn : ns ≤ h.1 ∧ zs ≤ h.2.1 ∧ h.1 ≤ R.cells + ns ∧ h.2.1 ≤ R.slots + zs) (hl : ∀ q ∈ locs, G.2.1 ≤ q.base)
    (hRm : jg_Rm w0 R) (hcap : cap ≤ R.cells + ns ∧ zcap ≤ R.slots + zs) {arr : Array Slot} {st : List jm_V} {ig : Instr} (hst : (rm x).1 + 1 ≤ w0.1 ∧ jm_cs st + (nl x + 11) + (rm x).2 ≤ w0.2) (hsize : arr.size = cd.maxLocals) (hdg : decode cd.code pc = .ok (ig, 3)) (hpl : plainFor (M x).1 = true)
    {mk : MethodId} {methk : Method} {ck : Code} (g0 : s.methodNamed? (M x).1 = some mk) (g1 : s.vm.method? mk = some methk) (g2 : methk.code = some ck) (g3 : ck.code = (M x).2.1) (g4 : ck.maxLocals = nl x) (g5 : methk.sig.returnType = (M x).2.2.1) (g6 : methk.locks = false) (g7 : ck.exceptionTable.toList.map (fun h => (h.startPc, h.endPc, h.handlerPc, h.catchType)) = (M x).2.2.2)
    {as : List jm_V} (hc1 : ∀ v ∈ as, ∀ z, v ≠ .inr (.inr z)) {Qk : jm_Q} (hE : E x as h Qk) {QQ : State → Prop}
    (k1 : ∀ (v : Option jm_V) (h' : jm_H) (T' : State) (locs' : List Loc), Qk (.inl v) h' → Stand p l e R s m args below meth cd T' locs' (h'.1 - ns) (h'.2.1 - zs) → jg_R G J h' T'.heap → (ns ≤ h'.1 ∧ zs ≤ h'.2.1 ∧ h'.1 ≤ R.cells + ns ∧ h'.2.1 ≤ R.slots + zs) → (∀ q ∈ locs', G.2.1 ≤ q.base) → ∃ t, Steps p.tables e below (T'.setTop (F0 m (pc + 3) arr ((v.map (jg_mv G)).toList ++ st.map (jg_mv G)))) t ∧ QQ t)
    (k2 : ∀ (x : Nat) (h' : jm_H) (T' : State) (locs' : List Loc), Qk (.inr x) h' → Stand p l e R s m args below meth cd T' locs' (h'.1 - ns) (h'.2.1 - zs) → jg_R G J h' T'.heap → (ns ≤ h'.1 ∧ zs ≤ h'.2.1 ∧ h'.1 ≤ R.cells + ns ∧ h'.2.1 ≤ R.slots + zs) → (∀ q ∈ locs', G.2.1 ≤ q.base) → (200 ≤ jm_T h' x ∧ jm_T h' x % 2 = 1) → ∃ t, Steps p.tables e below ((T'.setTop (F0 m pc arr (st.map (jg_mv G)))).pushFrame (.throwing (jg_ad G x))) t ∧ QQ t) :
    ∃ t, Steps p.tables e below (doInvoke e (U.setTop (F0 m pc arr (st.map (jg_mv G)))) [] mk (as.map (jg_mv G)).toArray).1 t ∧ QQ t := by
  obtain ⟨hf1, hf2⟩ := hRm
  obtain ⟨hn1, hn2, hn3, hn4⟩ := id hn
  have hsum := jg_catsum G st
  have hal := X.warmed.alike
  have hmk : U.vm.method? mk = some methk := by rw [hal.method?]; exact g1
  have hnU : U.methodNamed? (M x).1 = some mk := X.named g0
  refine jw_into (R' := { frames := R.frames - 1, cells := R.cells + ns - h.1, slots := R.slots + zs - h.2.1, locals := R.locals - (jm_cs st + (nl x + 11)) }) X hU hn hl hsize hdg hmk g2 g6 (State.plainMethod.of_named hpl hnU hmk) (by show R.frames - 1 + 1 ≤ _; omega) (by show _ + _ + (R.locals - (jm_cs st + (nl x + 11))) ≤ _; rw [g4]; omega) (by show R.cells + ns - h.1 + h.1 = _; omega) (by show R.slots + zs - h.2.1 + h.2.1 = _; omega) _ ?_ k1 k2
  rw [g4]
  refine hS x as h Qk hE hc1 _ _ mk _ methk ck ⟨hx, g3, g4, ?_, g5, g6, (name_of_methodNamed g0 g1).1, g7⟩ ?_ ⟨by show (rm x).1 ≤ R.frames - 1; omega, by show (rm x).2 ≤ R.locals - (jm_cs st + (nl x + 11)); omega⟩ ⟨by show cap ≤ R.cells + ns - h.1 + h.1; omega, by show zcap ≤ R.slots + zs - h.2.1 + h.2.1; omega⟩ H hR ?_
  · show U.vm.findClass _ = _
    rw [hal.findClass]
    exact findClass_of_methodNamed g0
  · have e1 : (U.calling (F0 m pc arr (st.map (jg_mv G))) mk (as.map (jg_mv G)).toArray).heap = H := by
      rw [← hU]
      simp [State.calling, State.pushFrame, State.setFrames, State.setTop, State.modifyTopJava]
    refine jg_K.moved hg (show s.WarmedH U.vm from X.warmed) ⟨fun q hq => ?_, fun q cell hq hc => ?_⟩ hK
    · rw [e1]
      exact hR.1.2.2.2 q hq
    · rw [e1] at hc
      exact hR.plain hq hc
  · rw [← hU]
    simp [State.calling, State.pushFrame, State.setFrames, State.setTop, State.modifyTopJava]
/-- what is asked of a throw in a frame that stands at pc -/
def jg_T (p : Program) (l : Launch) (e : Env) (R : Room) (s : State) (m : MethodId) (args : Array Value) (below : List Frame) (meth : Method) (cd : Code) (G : jm_G) (J : jm_J) (nL ns zs : Nat) (Q : jm_Q) (hd : Nat → Nat → Option Nat) (pc : Nat) : Prop :=
  ∀ (x : Nat) (ls : jm_Ls) (h : jm_H) (T : State) (locs : List Loc) (arr : Array Slot) (rest : List Value), jo_thr (jg_P p l e R s m args below meth cd G J nL ns zs Q) Q ls h hd pc x → Stand p l e R s m args below meth cd T locs (h.1 - ns) (h.2.1 - zs) → jg_R G J h T.heap → (ns ≤ h.1 ∧ zs ≤ h.2.1 ∧ h.1 ≤ R.cells + ns ∧ h.2.1 ≤ R.slots + zs) → (∀ q ∈ locs, G.2.1 ≤ q.base) → jg_Ls G arr nL ls → (200 ≤ jm_T h x ∧ jm_T h x % 2 = 1) →
    ∃ t, Steps p.tables e below ((T.setTop (F0 m pc arr rest)).pushFrame (.throwing (jg_ad G x))) t ∧ jg_Z G J R s below ns zs Q t
theorem jw_callS {M : jm_M} {nl : Nat → Nat} {rm : Nat → Nat × Nat} {w0 : Nat × Nat} {cap zcap x y : Nat} {E : Nat → List jm_V → jm_H → jm_Q → Prop} {hd : Nat → Nat → Option Nat} (hS : jg_Snd G J Wg M nl rm cap zcap p l e E) (hg : ∀ w ∈ Wg, jm_goodW w = true) (hx : p.tables.exec = Jvm.exec) (hb : cd.code = bs) (hml : cd.maxLocals = nL) (hK : jg_K G J Wg s) (hRm : jg_Rm w0 R) (hcap : cap ≤ R.cells + ns ∧ zcap ≤ R.slots + zs)
    {own : String} {idx : Nat} (hown : s.vm.findClass own = some m.cls) (hcw : jg_cw M nl Wg x) (hlink : Cond.methodLink own idx (M x).1 ∈ Wg) (hstat : Cond.static (M x).1 ∈ Wg) (hini : Cond.initialized (M x).1.cls ∈ Wg) (hy : (M x).1.cls ≠ "java/lang/invoke/MethodHandle" ∧ (M x).1.cls ≠ "java/lang/invoke/VarHandle") (hpl : plainFor (M x).1 = true) (hpar : (parseMethodDescriptor (M x).1.desc).map (fun d => d.parameters.length) = some y)
    (hdc : decode bs pc = .ok (.invokestatic idx, 3)) (hT : jg_T p l e R s m args below meth cd G J nL ns zs Q hd pc) (z : jo_call (jg_P p l e R s m args below meth cd G J nL ns zs Q) Q (pc + 3) ls st h E hd pc x y 0 (nl x) (rm x) w0) : jg_P p l e R s m args below meth cd G J nL ns zs Q (pc, ls, st, h) := by
  intro H locs arr hR hn hl hL
  replace hR : jg_R G J h H := hR
  replace hn : ns ≤ h.1 ∧ zs ≤ h.2.1 ∧ h.1 ≤ R.cells + ns ∧ h.2.1 ≤ R.slots + zs := hn
  replace hL : jg_Ls G arr nL ls := hL
  obtain ⟨hy1, hst, hc1, -, hE⟩ := z
  intro T hTH X
  obtain ⟨mk, methk, ck, g0, g1, g2, g3, g4, g5, g6, g7, g8⟩ := jg_callee hK hcw
  have hlen : (((st.take y).reverse).map (jg_mv G)).length = methk.sig.parameters.length := by
    rw [g8] at hpar
    have h9 : methk.sig.parameters.length = y := Option.some.inj hpar
    simp only [List.length_map, List.length_reverse, List.length_take]
    omega
  have hstk : st.map (jg_mv G) = (((st.take y).reverse).map (jg_mv G)).reverse ++ (st.drop y).map (jg_mv G) := by
    rw [← List.map_reverse, List.reverse_reverse, ← List.map_append, List.take_append_drop]
  obtain ⟨kP, hkP, -⟩ := className_of_methodNamed g0
  obtain ⟨vm₁, X₁, hstep⟩ := X.invokestatic hx hown (hK.1 _ hlink args) g0 g1 (Cond.static_spec g0 g1 (hK.1 _ hstat args)) hkP (Cond.initialized_spec (findClass_of_methodNamed g0) hkP (hK.1 _ hini args)) hy (g := F0 m pc arr (st.map (jg_mv G))) rfl (argsL := ((st.take y).reverse).map (jg_mv G)) (rest := (st.drop y).map (jg_mv G)) hlen hstk (by rw [hb]; exact hdc)
  obtain ⟨t, s1, q1⟩ := jw_enter hS hg hx hK X₁ (show (T.setVm vm₁).heap = H from hTH) hR hn hl hRm hcap (st := st.drop y) hst (by rw [hml]; exact hL.1) (by rw [hb]; exact hdc) hpl g0 g1 g2 g3 g4 g5 g6 g7 (as := (st.take y).reverse) (fun v hv => hc1 v (List.mem_reverse.mp hv)) hE (QQ := jg_Z G J R s below ns zs Q)
    (fun v h' T' locs' hq X' hR' hn' hl' => by
      cases v with
      | none => exact hq T'.heap locs' arr hR' hn' hl' hL T' rfl X'
      | some v => exact hq T'.heap locs' arr hR' hn' hl' hL T' rfl X')
    (fun x h' T' locs' hq X' hR' hn' hl' hxx => hT x ls h' T' locs' arr _ hq X' hR' hn' hl' hL hxx)
  exact ⟨t, hstep t (fun acts => by rw [doInvoke_state]; exact s1), q1⟩
theorem jm_recv {st : List jm_V} {y a : Nat} (h : (st.take y).getLast? = some (.inr (.inl a))) : ∃ tl, (st.take y).reverse = .inr (.inl a) :: tl ∧ st.take y = tl.reverse ++ [.inr (.inl a)] := by
  have e : (st.take y).reverse.head? = some (.inr (.inl a)) := by rw [List.head?_reverse]; exact h
  cases hr : (st.take y).reverse with
  | nil => rw [hr] at e; cases e
  | cons v tl =>
    rw [hr] at e
    cases e
    refine ⟨tl, rfl, ?_⟩
    have := congrArg List.reverse hr
    rw [List.reverse_reverse] at this
    rw [this]
    simp
theorem jw_callV {M : jm_M} {nl : Nat → Nat} {rm : Nat → Nat × Nat} {w0 : Nat × Nat} {cap zcap x y t : Nat} {E : Nat → List jm_V → jm_H → jm_Q → Prop} {hd : Nat → Nat → Option Nat} (hS : jg_Snd G J Wg M nl rm cap zcap p l e E) (hg : ∀ w ∈ Wg, jm_goodW w = true) (hx : p.tables.exec = Jvm.exec) (hb : cd.code = bs) (hml : cd.maxLocals = nL) (hK : jg_K G J Wg s) (hJ : jg_J J Wg) (hRm : jg_Rm w0 R) (hcap : cap ≤ R.cells + ns ∧ zcap ≤ R.slots + zs)
    {own : String} {idx : Nat} (hown : s.vm.findClass own = some m.cls) {q : vw_C} (ht0 : 0 < t) (hq : J.1[t]? = some q) (hqc : q.1 = (M x).1.cls) (hcw : jg_cw M nl Wg x) (hlink : Cond.methodLink own idx (M x).1 ∈ Wg) (hinst : Cond.instanceMethod (M x).1 ∈ Wg) (hsel : Cond.selects q.1 (M x).1 (M x).1 ∈ Wg) (hy : (M x).1.cls ≠ "java/lang/invoke/MethodHandle" ∧ (M x).1.cls ≠ "java/lang/invoke/VarHandle") (hpl : plainFor (M x).1 = true) (hpar : (parseMethodDescriptor (M x).1.desc).map (fun d => d.parameters.length + 1) = some y)
    (hdc : decode bs pc = .ok (.invokevirtual idx, 3)) (hT : jg_T p l e R s m args below meth cd G J nL ns zs Q hd pc) (z : jo_call (jg_P p l e R s m args below meth cd G J nL ns zs Q) Q (pc + 3) ls st h E hd pc x y t (nl x) (rm x) w0) : jg_P p l e R s m args below meth cd G J nL ns zs Q (pc, ls, st, h) := by
  intro H locs arr hR hn hl hL
  replace hR : jg_R G J h H := hR
  replace hn : ns ≤ h.1 ∧ zs ≤ h.2.1 ∧ h.1 ≤ R.cells + ns ∧ h.2.1 ≤ R.slots + zs := hn
  replace hL : jg_Ls G arr nL ls := hL
  obtain ⟨hy1, hst, hc1, hrc, hE⟩ := z
  obtain ⟨t, rfl⟩ : ∃ t', t = t' + 1 := ⟨t - 1, by omega⟩
  obtain ⟨b, hb1, hb2⟩ := hrc
  obtain ⟨tl, htl, htk⟩ := jm_recv hb1
  intro T hTH X
  obtain ⟨mk, methk, ck, g0, g1, g2, g3, g4, g5, g6, g7, g8⟩ := jg_callee hK hcw
  have hy2 : tl.length + 1 = y := by
    have := congrArg List.length htk
    simp only [List.length_take, List.length_append, List.length_reverse, List.length_cons, List.length_nil] at this
    omega
  have hlen : (tl.map (jg_mv G)).length = methk.sig.parameters.length := by
    rw [g8] at hpar
    have h9 : methk.sig.parameters.length + 1 = y := Option.some.inj hpar
    simp only [List.length_map]
    omega
  obtain ⟨ht60, -⟩ := hJ (t + 1) q ht0 hq
  obtain ⟨hp1, hp2⟩ := hR.pos hb2 (by omega) (by omega)
  have hb2' : (h.2.2 b).1 = t + 1 := hb2
  obtain ⟨q', hq', cellB, c1, c2, c3, -⟩ := (hR.at hb2 (by omega) (by omega)).obj (by omega)
  rw [hb2'] at c2
  have hcls := (hK.2.1 (t + 1) q ht0 hq).2.1
  have hstk : st.map (jg_mv G) = (tl.map (jg_mv G)).reverse ++ .ref (G.2.1 + (b - 2)) :: (st.drop y).map (jg_mv G) := by
    rw [← jg_mv_obj G hp1, ← List.map_reverse]
    conv => lhs; rw [← List.take_append_drop y st, htk]
    simp
  have hinst' := hK.1 _ hinst args
  obtain ⟨mk', methM, hnamed, hmethM, hstM, habM⟩ := Cond.instanceMethod_spec hinst'
  cases g0.symm.trans hnamed
  cases g1.symm.trans hmethM
  obtain ⟨c2', r2, m2, q1, q2, q3, q4, kP, hkP, hkPi⟩ := Cond.selects_spec (hK.1 _ hsel args)
  have e1 : c2' = G.2.2.2.1.1 (t + 1) := Option.some.inj (q1.symm.trans hcls)
  subst e1
  cases (State.methodFound?_of_named g0 hy).symm.trans q2
  cases g0.symm.trans q3
  have hselP : selectMethod e.platform s.vm cellB.cls mk = .method mk := by rw [c2, Launch.admits_selectMethod X.admits]; exact q4
  obtain ⟨vm₁, X₁, hstep⟩ := X.invokevirtual hx hown (hK.1 _ hlink args) g0 g1 hstM hkP hkPi hy (a := G.2.1 + (b - 2)) (cell := cellB) (by rw [hTH]; exact c1) (fun z h => by rw [c3] at h; cases h) hselP g1 habM hkP hkPi (g := F0 m pc arr (st.map (jg_mv G))) rfl (argsL := tl.map (jg_mv G)) (rest := (st.drop y).map (jg_mv G)) hlen hstk (by rw [hb]; exact hdc)
  have hargs : (Value.ref (G.2.1 + (b - 2)) :: tl.map (jg_mv G)).toArray = (((st.take y).reverse).map (jg_mv G)).toArray := by
    rw [htl, List.map_cons, jg_mv_obj G hp1]
  rw [hargs] at hstep
  obtain ⟨t', s1, q1⟩ := jw_enter hS hg hx hK X₁ (show (T.setVm vm₁).heap = H from hTH) hR hn hl hRm hcap (st := st.drop y) hst (by rw [hml]; exact hL.1) (by rw [hb]; exact hdc) hpl g0 g1 g2 g3 g4 g5 g6 g7 (as := (st.take y).reverse) (fun v hv => hc1 v (List.mem_reverse.mp hv)) hE (QQ := jg_Z G J R s below ns zs Q)
    (fun v h' T' locs' hq X' hR' hn' hl' => by
      cases v with
      | none => exact hq T'.heap locs' arr hR' hn' hl' hL T' rfl X'
      | some v => exact hq T'.heap locs' arr hR' hn' hl' hL T' rfl X')
    (fun x h' T' locs' hq X' hR' hn' hl' hxx => hT x ls h' T' locs' arr _ hq X' hR' hn' hl' hL hxx)
  exact ⟨t', hstep t' (fun acts => by rw [doInvoke_state]; exact s1), q1⟩
theorem jw_callI {M : jm_M} {nl : Nat → Nat} {rm : Nat → Nat × Nat} {w0 : Nat × Nat} {cap zcap x y t : Nat} {E : Nat → List jm_V → jm_H → jm_Q → Prop} {hd : Nat → Nat → Option Nat} (hS : jg_Snd G J Wg M nl rm cap zcap p l e E) (hg : ∀ w ∈ Wg, jm_goodW w = true) (hx : p.tables.exec = Jvm.exec) (hb : cd.code = bs) (hml : cd.maxLocals = nL) (hK : jg_K G J Wg s) (hRm : jg_Rm w0 R) (hcap : cap ≤ R.cells + ns ∧ zcap ≤ R.slots + zs)
    {own : String} {idx : Nat} (hown : s.vm.findClass own = some m.cls) (ht0 : 0 < t) (ht6 : t < 60) (hnm : (M x).1.name = "<init>") (hcode : Cond.code (M x).1 (M x).2.1 (nl x) none ∈ Wg) (hcw : jg_cw M nl Wg x) (hlink : Cond.methodLink own idx (M x).1 ∈ Wg) (hinst : Cond.instanceMethod (M x).1 ∈ Wg) (hy : (M x).1.cls ≠ "java/lang/invoke/MethodHandle" ∧ (M x).1.cls ≠ "java/lang/invoke/VarHandle") (hpl : plainFor (M x).1 = true) (hpar : (parseMethodDescriptor (M x).1.desc).map (fun d => d.parameters.length + 1) = some y)
    (hdc : decode bs pc = .ok (.invokespecial idx, 3)) (hT : jg_T p l e R s m args below meth cd G J nL ns zs Q hd pc) (z : jo_call (jg_P p l e R s m args below meth cd G J nL ns zs Q) Q (pc + 3) ls st h E hd pc x y t (nl x) (rm x) w0) : jg_P p l e R s m args below meth cd G J nL ns zs Q (pc, ls, st, h) := by
  intro H locs arr hR hn hl hL
  replace hR : jg_R G J h H := hR
  replace hn : ns ≤ h.1 ∧ zs ≤ h.2.1 ∧ h.1 ≤ R.cells + ns ∧ h.2.1 ≤ R.slots + zs := hn
  replace hL : jg_Ls G arr nL ls := hL
  obtain ⟨hy1, hst, hc1, hrc, hE⟩ := z
  obtain ⟨t, rfl⟩ : ∃ t', t = t' + 1 := ⟨t - 1, by omega⟩
  obtain ⟨b, hb1, hb2⟩ := hrc
  obtain ⟨tl, htl, htk⟩ := jm_recv hb1
  intro T hTH X
  have hpl0 : e.platform.magicAccessors = ({} : Platform).magicAccessors := by rw [X.admits.platform]
  obtain ⟨mk, methk, ck, g0, g1, g2, g3, g4, g5, g6, g7, g8⟩ := jg_callee hK hcw
  obtain ⟨hp1, hp2⟩ := hR.pos hb2 (by omega) (by omega)
  have hy2 : tl.length + 1 = y := by
    have := congrArg List.length htk
    simp only [List.length_take, List.length_append, List.length_reverse, List.length_cons, List.length_nil] at this
    omega
  have hstk : st.map (jg_mv G) = (tl.map (jg_mv G)).reverse ++ .ref (G.2.1 + (b - 2)) :: (st.drop y).map (jg_mv G) := by
    rw [← jg_mv_obj G hp1, ← List.map_reverse]
    conv => lhs; rw [← List.take_append_drop y st, htk]
    simp
  obtain ⟨mk', methM, cM, kP, vm₁, hnamed, hmethM, -, -, -, -, -, -, hW₁, hstep⟩ := Steps.initColdArgs (e := e) X.here hx X.warmed hpl0 hown hnm hy (hK.1 _ hlink args) (hK.1 _ hinst args) (hK.1 _ hcode args) (f := F0 m pc arr (st.map (jg_mv G))) rfl (argsL := tl.map (jg_mv G)) (rest := (st.drop y).map (jg_mv G))
    (fun sig hs => by
      rw [hs] at hpar
      have h9 : sig.parameters.length + 1 = y := Option.some.inj hpar
      simp only [List.length_map]
      omega) hstk (by rw [hb]; exact hdc)
  cases g0.symm.trans hnamed
  have X₁ := X.noted hW₁
  have hargs : (Value.ref (G.2.1 + (b - 2)) :: tl.map (jg_mv G)).toArray = (((st.take y).reverse).map (jg_mv G)).toArray := by
    rw [htl, List.map_cons, jg_mv_obj G hp1]
  rw [hargs] at hstep
  obtain ⟨t', s1, q1⟩ := jw_enter hS hg hx hK X₁ (show (T.setVm vm₁).heap = H from hTH) hR hn hl hRm hcap (st := st.drop y) hst (by rw [hml]; exact hL.1) (by rw [hb]; exact hdc) hpl g0 g1 g2 g3 g4 g5 g6 g7 (as := (st.take y).reverse) (fun v hv => hc1 v (List.mem_reverse.mp hv)) hE (QQ := jg_Z G J R s below ns zs Q)
    (fun v h' T' locs' hq X' hR' hn' hl' => by
      cases v with
      | none => exact hq T'.heap locs' arr hR' hn' hl' hL T' rfl X'
      | some v => exact hq T'.heap locs' arr hR' hn' hl' hL T' rfl X')
    (fun x h' T' locs' hq X' hR' hn' hl' hxx => hT x ls h' T' locs' arr _ hq X' hR' hn' hl' hL hxx)
  exact ⟨t', hstep t' (fun acts => by rw [doInvoke_state]; exact s1), q1⟩
end JC
end
section
/-! Throws: into a handler of the frame, or out of it. -/
/-- which handler takes an object of the kind t at pc; 999999: one covers pc and none takes it -/
def jm_hf (ct : Nat → Nat → Bool) : List (Nat × Nat × Nat × Nat) → Nat → Nat → Option Nat
  | [], _, _ => none
  | q :: r, pc, t => if q.1 ≤ pc ∧ pc < q.2.1 then (if ct q.2.2.2 t = true then some q.2.2.1 else some ((jm_hf ct r pc t).getD 999999)) else jm_hf ct r pc t
section JT
variable {p : Program} {l : Launch} {e : Env} {R : Room} {s : State} {m : MethodId} {args : Array Value} {below : List Frame} {meth : Method} {cd : Code} {G : jm_G} {J : jm_J} {nL ns zs : Nat} {Q : jm_Q} {bs : ByteArray} {pc n : Nat} {ins : Instr} {ls : jm_Ls} {st : List jm_V} {h : jm_H} {Wg : List Cond}
theorem jt_class {S : State} {f : JFrame} {a : Addr} {x : ExceptionTableEntry} {t : List ExceptionTableEntry} {c : ClassId} {vm' : Vm} {cell : Cell} (hx : covers x f.pc = true) (h0 : x.catchType ≠ 0)
    (hg : (Jvm.resolveClass f.method.cls x.catchType).Gives e.toSetting S.vm (.ok c) vm') (hsz : vm'.classes.size ≤ S.vm.classes.size) (hcell : S.heap[a]? = some cell) (hobj : ∀ k, cell.vm ≠ .statics k)
    (hk : ∃ k, vm'.classes[cell.cls]? = some k) (hc : ∃ k, vm'.classes[c]? = some k) {QQ : Handler → Pre} {E : CtlPost} {d : Bool} {acts : List Action} :
    wp (findHandler.go f a (x :: t)) QQ E e d acts S ↔ if vm'.assignable cell.cls c = true then QQ (.found x.handlerPc) d acts (S.setVm vm') else wp (findHandler.go f a t) QQ E e d acts (S.setVm vm') := by
  obtain ⟨ha, ht⟩ := hg.op (op := VmOp.resolveClass f.method.cls x.catchType) rfl
  simp only [covers] at hx
  cases hfit : vm'.assignable cell.cls c <;> simp [findHandler.go, hx, h0, ha, ht, hsz, hcell, hobj, hk, hc, hfit, VmOp.dirties, VmOp.acts]
theorem jt_search {S : State} {f : JFrame} {a : Addr} {cell : Cell} {own : String} (hfm : f.method = m) (hown : s.vm.findClass own = some m.cls) (hpl : e.platform.magicAccessors = ({} : Platform).magicAccessors) (hcell : S.heap[a]? = some cell) (hobj : ∀ k, cell.vm ≠ .statics k) (hkc : ∃ k, s.vm.classes[cell.cls]? = some k) {ct : Nat → Nat → Bool} {t y : Nat} (hy : y ≠ 999999) :
    ∀ (hs : List ExceptionTableEntry), (∀ x ∈ hs, x.catchType ≠ 0 ∧ ∃ C, (Cond.classLink own x.catchType C).before args s = true ∧ ∀ c, s.vm.findClass C = some c → s.vm.assignable cell.cls c = ct x.catchType t) →
      jm_hf ct (hs.map (fun h => (h.startPc, h.endPc, h.handlerPc, h.catchType))) f.pc t = some y → ∀ vm0, s.WarmedH vm0 →
      ∃ vm', s.WarmedH vm' ∧ ∀ (QQ : Handler → Pre) (E : CtlPost) (d : Bool) (acts : List Action), wp (findHandler.go f a hs) QQ E e d acts (S.setVm vm0) ↔ QQ (.found y) d acts (S.setVm vm')
  | [], _, h, _, _ => by cases h
  | x :: r, hx, h, vm0, hW => by
    obtain ⟨h0, C, hlink, has⟩ := hx x List.mem_cons_self
    have hr : ∀ z ∈ r, _ := fun z hz => hx z (List.mem_cons_of_mem _ hz)
    simp only [List.map_cons, jm_hf] at h
    by_cases hc : x.startPc ≤ f.pc ∧ f.pc < x.endPc
    · rw [if_pos hc] at h
      have hcov : covers x f.pc = true := by simp [covers, hc.1, hc.2]
      obtain ⟨cc, hfcc, hcl⟩ := Cond.classLink_spec hown hlink e.platform hpl
      obtain ⟨hg1, hw1, -⟩ := State.classEntry (e := e) hW hcl
      generalize vm0.noted m.cls x.catchType (.cls cc) = vm1 at hg1 hw1
      have hal := hw1.alike
      obtain ⟨k, hk, -⟩ := Vm.findClass_spec hfcc
      obtain ⟨k1, hk1, -⟩ := hal.2.2 _ _ hk
      obtain ⟨k2, hk2⟩ := hkc
      obtain ⟨k3, hk3, -⟩ := hal.2.2 _ _ hk2
      have hszz : vm1.classes.size ≤ (S.setVm vm0).vm.classes.size := by
        have e1 := hw1.alike.2.1
        have e2 := hW.alike.2.1
        show vm1.classes.size ≤ vm0.classes.size
        omega
      have hgo := fun (QQ : Handler → Pre) (E : CtlPost) (d : Bool) (acts : List Action) => jt_class (e := e) (S := S.setVm vm0) (f := f) (a := a) (x := x) (t := r) (c := cc) (vm' := vm1) (cell := cell) hcov h0 (by rw [hfm]; exact hg1) hszz hcell hobj ⟨k3, hk3⟩ ⟨k1, hk1⟩ (QQ := QQ) (E := E) (d := d) (acts := acts)
      have hass : vm1.assignable cell.cls cc = ct x.catchType t := (hal.assignable cell.cls cc).trans (has cc hfcc)
      by_cases hct : ct x.catchType t = true
      · rw [if_pos hct] at h
        cases h
        refine ⟨vm1, hw1, fun QQ E d acts => ?_⟩
        rw [hgo, if_pos (by rw [hass]; exact hct), State.setVm_twice]
      · rw [if_neg hct] at h
        have h' : (jm_hf ct (r.map (fun h => (h.startPc, h.endPc, h.handlerPc, h.catchType))) f.pc t).getD 999999 = y := Option.some.inj h
        have h2 : jm_hf ct (r.map (fun h => (h.startPc, h.endPc, h.handlerPc, h.catchType))) f.pc t = some y := by
          cases hj : jm_hf ct (r.map (fun h => (h.startPc, h.endPc, h.handlerPc, h.catchType))) f.pc t with
          | none => rw [hj] at h'; exact absurd h'.symm hy
          | some z => rw [hj] at h'; exact congrArg some h'
        obtain ⟨vm', hw', hi⟩ := jt_search hfm hown hpl hcell hobj ⟨k2, hk2⟩ hy r hr h2 vm1 hw1
        refine ⟨vm', hw', fun QQ E d acts => ?_⟩
        rw [hgo, if_neg (by rw [hass]; exact hct), State.setVm_twice]
        exact hi QQ E d acts
    · rw [if_neg hc] at h
      have hcov : covers x f.pc = false := by
        simp only [covers, Bool.and_eq_false_iff, decide_eq_false_iff_not]
        omega
      obtain ⟨vm', hw', hi⟩ := jt_search hfm hown hpl hcell hobj hkc hy r hr h vm0 hW
      refine ⟨vm', hw', fun QQ E d acts => ?_⟩
      rw [W.findHandler_go_skip hcov]
      exact hi QQ E d acts
theorem jt_none {ct : Nat → Nat → Bool} {t pc : Nat} : ∀ (hs : List ExceptionTableEntry), jm_hf ct (hs.map (fun h => (h.startPc, h.endPc, h.handlerPc, h.catchType))) pc t = none → ∀ x ∈ hs, covers x pc = false
  | [], _, x, hx => by cases hx
  | x :: r, h, z, hz => by
    simp only [List.map_cons, jm_hf] at h
    by_cases hc : x.startPc ≤ pc ∧ pc < x.endPc
    · rw [if_pos hc] at h
      split at h <;> cases h
    · rw [if_neg hc] at h
      rcases List.mem_cons.mp hz with rfl | hz
      · simp only [covers, Bool.and_eq_false_iff, decide_eq_false_iff_not]
        omega
      · exact jt_none r h z hz
/-- a cold search that ends in a handler: one step of the machine -/
theorem jt_caught {T : State} {g : JFrame} {a : Addr} {y : Nat} {vm' : Vm} {target : State} (hat : At T g.method cd below) (hal : T.vm.Alike vm')
    (hf : ∀ (QQ : Handler → Pre) (E : CtlPost) (d : Bool) (acts : List Action), wp (findHandler g a) QQ E e d acts ((T.setTop g).pushFrame (.throwing a)) ↔ QQ (.found y) d acts (((T.setTop g).pushFrame (.throwing a)).setVm vm'))
    (hrest : Steps p.tables e below ((T.setVm vm').setTop { g with pc := y, stack := [.ref a] }) target) : Steps p.tables e below ((T.setTop g).pushFrame (.throwing a)) target := by
  obtain ⟨hgo, hw⟩ := hat.throwing a
  refine Steps.head hgo hw ?_
  have hst : ((stepThrowing e ((T.setTop g).pushFrame (.throwing a)) a (.java g :: T.frames.tail)).1) = (((T.setTop g).pushFrame (.throwing a)).setVm vm').setFrames (.java { g with pc := y, stack := [.ref a] } :: T.frames.tail) := by
    simp only [stepThrowing, searchFrame, vmDo]
    generalize hr : Sem.go _ e false [] ((T.setTop g).pushFrame (.throwing a)) = res
    obtain ⟨as, rfl, ha⟩ := Sem.eq_ok_of hr (a := Handler.found y) (s' := ((T.setTop g).pushFrame (.throwing a)).setVm vm') (acts' := []) (by simp [hf _ _ _ _])
    rfl
  rw [stepThread_throwing (frames_entered hat.top _), hst]
  obtain ⟨g₀, hg⟩ := Option.isSome_iff_exists.mp hat.top
  obtain ⟨r, hr⟩ := State.topJava?_eq_some.mp hg
  have hr' : (T.setVm vm').frames = .java g₀ :: r := hr
  rw [State.setTop_of_frames _ hr'] at hrest
  rw [hr]
  have e1 : (((T.setTop g).pushFrame (.throwing a)).setVm vm').setFrames (.java { g with pc := y, stack := [.ref a] } :: (Frame.java g₀ :: r).tail) = (T.setVm vm').setFrames (.java { g with pc := y, stack := [.ref a] } :: r) := by
    rw [State.pushFrame, State.setTop_of_frames _ hr, State.setFrames_setFrames]
    show ((T.setVm vm').setFrames _).setFrames _ = _
    rw [State.setFrames_setFrames]
    rfl
  rw [e1]
  exact hrest
end JT
end
section
/-! Exceptions: new, constructor, throw, catch. -/
theorem jx_lays {s0 s : State} {args a' : Array Value} (hW : s0.WarmedH s.vm) (hh : ∀ q, q < s0.heap.size → s.heap[q]? = s0.heap[q]?) {O f d : String} (h : (Cond.laysStatic O f d).before args s0 = true) : (Cond.laysStatic O f d).before a' s = true := by
  obtain ⟨c, k, i, fd, a, cell, hc, hi, hst, ha, hcell, hs, hcls, hlt, hty⟩ := Cond.laysStatic_spec h
  have hal := hW.alike
  obtain ⟨k', hi', hek⟩ := State.fieldFound?_setVm (s := s0) hal hi
  have hi2 : s.fieldFound? O f d = some (c, k', i, fd) := by simpa only [State.fieldFound?, State.vm_setVm] using hi'
  exact Cond.laysStatic_of (s := s) (by rw [hal.findClass]; exact hc) hi2 hst (by rw [hek]; exact ha) (by rw [hh a (Array.getElem?_eq_some_iff.mp hcell).1]; exact hcell) hs hcls hlt (by rw [hek]; exact hty)
theorem jx_isRef {s0 s : State} {args a' : Array Value} (hW : s0.WarmedH s.vm) (hh : ∀ q, q < s0.heap.size → s.heap[q]? = s0.heap[q]?) {O f d : String} (hl : (Cond.laysStatic O f d).before args s0 = true) (h : (Cond.isRef (.static O f d)).before args s0 = true) : (Cond.isRef (.static O f d)).before a' s = true := by
  obtain ⟨c, k, i, fd, a, cell, hc, hi, hst, ha, hcell, hs, hcls, hlt, hty⟩ := Cond.laysStatic_spec hl
  have hal := hW.alike
  obtain ⟨k', hi', hek⟩ := State.fieldFound?_setVm (s := s0) hal hi
  have hi2 : s.fieldFound? O f d = some (c, k', i, fd) := by simpa only [State.fieldFound?, State.vm_setVm] using hi'
  have hcell2 : s.heap[a]? = some cell := by rw [hh a (Array.getElem?_eq_some_iff.mp hcell).1]; exact hcell
  have ha2 : k'.statics = some a := by rw [hek]; exact ha
  have e0 : (Term.static O f d).eval args s0 none [] s0 = cell.slots[fd.slot]? := by simp [Term.eval, State.fieldNamed?, hi, hst, ha, hcell, hs]
  have e1 : (Term.static O f d).eval a' s none [] s = cell.slots[fd.slot]? := by simp [Term.eval, State.fieldNamed?, hi2, hst, ha2, hcell2, hs]
  simp only [Cond.before, Cond.holds, Cond.value] at h ⊢
  rw [e0] at h
  rw [e1]
  exact h
/-- the words on Throwable's two statics -/
def jx_st : List Cond := [.laysStatic "java/lang/Throwable" "UNASSIGNED_STACK" "[Ljava/lang/StackTraceElement;", .laysStatic "java/lang/Throwable" "SUPPRESSED_SENTINEL" "Ljava/util/List;", .isRef (.static "java/lang/Throwable" "UNASSIGNED_STACK" "[Ljava/lang/StackTraceElement;"), .isRef (.static "java/lang/Throwable" "SUPPRESSED_SENTINEL" "Ljava/util/List;")]
/-- what is known of the start: the new cells begin behind its heap; the words on the statics -/
def jg_0 (G : jm_G) : Prop := G.2.1 = G.2.2.2.2.2.2.2.2.heap.size ∧ ∃ a, ∀ w ∈ jx_st, w.before a G.2.2.2.2.2.2.2.2 = true
theorem jx_words {G : jm_G} {J : jm_J} {Wg : List Cond} {s : State} (h0 : jg_0 G) (hK : jg_K G J Wg s) {a' : Array Value} : ∀ w ∈ jx_st, w.before a' s = true := by
  obtain ⟨hsz, a, hw⟩ := h0
  obtain ⟨-, -, -, -, -, -, -, hW, hh, -⟩ := hK
  rw [hsz] at hh
  have l1 := hw (.laysStatic "java/lang/Throwable" "UNASSIGNED_STACK" "[Ljava/lang/StackTraceElement;") (by simp [jx_st])
  have l2 := hw (.laysStatic "java/lang/Throwable" "SUPPRESSED_SENTINEL" "Ljava/util/List;") (by simp [jx_st])
  have r1 := hw (.isRef (.static "java/lang/Throwable" "UNASSIGNED_STACK" "[Ljava/lang/StackTraceElement;")) (by simp [jx_st])
  have r2 := hw (.isRef (.static "java/lang/Throwable" "SUPPRESSED_SENTINEL" "Ljava/util/List;")) (by simp [jx_st])
  intro w hm
  simp only [jx_st, List.mem_cons, List.not_mem_nil, or_false] at hm
  rcases hm with rfl | rfl | rfl | rfl
  · exact jx_lays hW hh l1
  · exact jx_lays hW hh l2
  · exact jx_isRef hW hh l1 r1
  · exact jx_isRef hW hh l2 r2
section JX
variable {p : Program} {l : Launch} {e : Env} {R : Room} {s : State} {m : MethodId} {args : Array Value} {below : List Frame} {meth : Method} {cd : Code} {G : jm_G} {J : jm_J} {nL ns zs : Nat} {Q : jm_Q} {bs : ByteArray} {pc n : Nat} {ins : Instr} {ls : jm_Ls} {st : List jm_V} {h : jm_H} {Wg : List Cond} {T : State} {locs : List Loc} {cells slots : Nat}
set_option maxHeartbeats 1000000 in
/-- the constructor of an exception without a text, up to its return -/
theorem jx_ctor (X : Stand p l e R s m args below meth cd T locs cells slots) (hexec : p.tables.exec = Jvm.exec) (htr : e.platform.stackTraces = false) {own cls : String} {names : List String} {ic : Nat}
    (hown : s.vm.findClass own = some m.cls) (hcls : Bundle.fit cls = true) (hnames : ∀ n ∈ names, Bundle.fit n = true) (ha : ∀ a ∈ Bundle.ownAtoms0 own ic cls names, a.before args s = true)
    (hlocs : ∀ x ∈ locs, ∀ cell, s.heap[x.base]? = some cell → cell.vm.isStatics = false)
    {a : Addr} {cX : ClassId} {kX : Class} (hfoundX : s.vm.findClass cls = some cX) (hkX : s.vm.classes[cX]? = some kX) (hcell : T.heap[a]? = some (freshCell cX kX)) (hnew : ∀ cell, s.heap[a]? = some cell → cell.vm = .none)
    {g : JFrame} (hg : g.method = m) (hsize : g.locals.size = cd.maxLocals) {rest : List Value} (hstack : g.stack = .ref a :: rest)
    (hd6 : decode cd.code g.pc = .ok (.invokespecial ic, 3)) (hRframes : names.length + 3 < R.frames) (hRlocals : 2 * g.monitorRoom + (rest.map fun v => v.category).sum + (13 * (names.length + 1) + 41) ≤ R.locals) :
    ∃ (vm' : Vm) (ce : Cell) (L : List Loc), ce.cls = cX ∧ ce.vm = .none ∧ (∀ q ∈ L, q.base = a) ∧ Stand p l e R s m args below meth cd ((T.setVm vm').setCell a ce) (locs ++ L) cells slots ∧
      ∀ target, Steps p.tables e below (((T.setVm vm').setCell a ce).setTop { g with pc := g.pc + 3, stack := rest }) target → Steps p.tables e below (T.setTop g) target := by
  have howns : e.platform.frameOwnsMonitors = true := by rw [X.admits.platform]
  have hfin : e.platform.finalization = false := by rw [X.admits.platform]
  have hpl : e.platform.magicAccessors = ({} : Platform).magicAccessors := by rw [X.admits.platform]
  have a' : ∀ x, x ∈ Bundle.ownAtoms0 own ic cls names → x.holds args s none s [] = true := fun x hx => ha x hx
  obtain ⟨Tt, Z, L, LZ, Y⟩ := ThrowableC.of_atoms (args := args) howns hfin hpl (fun x hx => ha x (by simp [Bundle.ownAtoms0, hx]))
  obtain ⟨P1, Ps, hlen, L1, hL, hP1m, hlink1, hlink⟩ := Bundle.chain0 (args := args) hpl Y.init0 names cls hcls hnames (fun x hx => ha x (by simp [Bundle.ownAtoms0, hx]))
  have hfound : s.vm.findClass cls = some P1.m.cls := findClass_of_methodNamed hP1m
  cases Option.some.inj (hfoundX.symm.trans hfound)
  obtain ⟨c1, kX', hc1, hk, hord, -, -, hn6⟩ := Cond.instantiable_spec (a' (.instantiable cls 6) (by simp [Bundle.ownAtoms0]))
  cases Option.some.inj (hc1.symm.trans hfound)
  cases Option.some.inj (hkX.symm.trans hk)
  have hsel0 : selectMethod e.platform s.vm P1.m.cls Tt.fill0 = .method Tt.fill0 := by
    obtain ⟨c2, r2, m2, q1, q2, q3, q4, -⟩ := Cond.selects_spec (a' (.selects cls Bundle.tFill0 Bundle.tFill0) (by simp [Bundle.ownAtoms0]))
    cases Option.some.inj (q1.symm.trans hfound)
    cases Option.some.inj (q2.symm.trans (State.methodFound?_of_named Y.fill0 (by decide)))
    cases Option.some.inj (q3.symm.trans Y.fill0)
    rw [Launch.admits_selectMethod X.admits]; exact q4
  have hselF : selectMethod e.platform s.vm P1.m.cls Tt.fill = .method Tt.fill := by
    obtain ⟨c2, r2, m2, q1, q2, q3, q4, -⟩ := Cond.selects_spec (a' (.selects cls Bundle.tFill Bundle.tFill) (by simp [Bundle.ownAtoms0]))
    cases Option.some.inj (q1.symm.trans hfound)
    cases Option.some.inj (q2.symm.trans (State.methodFound?_of_named Y.fill (by decide)))
    cases Option.some.inj (q3.symm.trans Y.fill)
    rw [Launch.admits_selectMethod X.admits]; exact q4
  obtain ⟨cellS0, hcS0, hiss⟩ := Y.statics
  obtain ⟨u0, hu0⟩ := Cond.staticRefV Y.unassigned L.unassignedStatic L.statics hcS0 hiss (a' (.isRef (.static Bundle.tN "UNASSIGNED_STACK" Bundle.steD)) (by simp [Bundle.ownAtoms0]))
  obtain ⟨sen, hsen⟩ := Cond.staticRefV Y.sentinel L.sentinelStatic L.statics hcS0 hiss (a' (.isRef (.static Bundle.tN "SUPPRESSED_SENTINEL" Bundle.listD)) (by simp [Bundle.ownAtoms0]))
  obtain ⟨ci198, i198, fB, hk198, hg198, ha198, hsB, -, hnB, htB, hffB⟩ := Cond.ownField (t := .object "java/lang/Object") Y.found L.cls (by decide +kernel) (a' (.fieldLink Bundle.tN 198 Bundle.tN "backtrace" "Ljava/lang/Object;") (by simp [Bundle.ownAtoms0])) (a' (.lays Bundle.tN Bundle.tN "backtrace" "Ljava/lang/Object;") (by simp [Bundle.ownAtoms0])) e.platform hpl
  obtain ⟨cellS, hcS', heS, -, hkeep⟩ := X.same.2.2.2.2.2 Tt.aS cellS0 hcS0
  have hcellS : T.heap[Tt.aS]? = some cellS := hcS'
  have hout' : ∀ i, (⟨Tt.aS, i⟩ : Loc) ∉ locs := fun i hmem => by
    have := hlocs _ hmem cellS0 hcS0
    rw [hiss] at this; cases this
  have hknownS : cellS.vm ≠ .unknown := by
    rw [heS]; intro hu
    rw [show cellS0.vm = .unknown from hu] at hiss
    cases hiss
  have hneS : Tt.aS ≠ a := fun q => by
    rw [q] at hcS0
    have := hnew _ hcS0
    rw [this] at hiss
    cases hiss
  obtain ⟨tyC, dC, hdC, hdnC⟩ := Cond.laysAt hfound hk Y.cause (a' (.lays cls Bundle.tN "cause" "Ljava/lang/Throwable;") (by simp [Bundle.ownAtoms0]))
  obtain ⟨tyS, dS, hdS, hdnS⟩ := Cond.laysAt hfound hk Y.stack (a' (.lays cls Bundle.tN "stackTrace" Bundle.steD) (by simp [Bundle.ownAtoms0]))
  obtain ⟨tyP, dP, hdP, hdnP⟩ := Cond.laysAt hfound hk Y.supp (a' (.lays cls Bundle.tN "suppressedExceptions" Bundle.listD) (by simp [Bundle.ownAtoms0]))
  obtain ⟨tyB, dB, hdB, hdnB⟩ := Cond.laysAt hfound hk hffB (a' (.lays cls Bundle.tN "backtrace" "Ljava/lang/Object;") (by simp [Bundle.ownAtoms0]))
  have bC := Cond.laysApart hdB hdC hdnB hdnC (by rw [hnB, Y.causeName]; decide)
  have bS := Cond.laysApart hdB hdS hdnB hdnS (by rw [hnB, Y.stackName]; decide)
  have bP := Cond.laysApart hdB hdP hdnB hdnP (by rw [hnB, Y.suppName]; decide)
  have hskip : SkipFacts Tt e.platform s (fun u => u) u0 ((preparedCellV Tt.toThrowableT (freshCell P1.m.cls kX) a u0 sen).withEntry T.cur) :=
    ⟨{ ci198 := ci198, i198 := i198, fBack := fB }, ⟨hk198, hg198, ha198, hsB⟩, by
      have := fresh_default (c := P1.m.cls) tyB
      rw [htB] at this
      simpa [preparedCellV, Cell.setSlot, Cell.withEntry, Array.getElem?_setIfInBounds, bC, bS, bP, bC.symm, bS.symm, bP.symm, defaultValue] using this, fun _ _ => rfl⟩
  obtain ⟨tm, methC, cdC, kC, vm₁, hnC, -, -, -, -, -, -, -, hW₁, st1⟩ := Steps.initCold (tb := p.tables) (e := e) (below := below) (s := s) (U := T) X.here hexec X.warmed hpl hown (t := Bundle.init0 cls) rfl rfl (Bundle.fit_spec hcls).2
    (a' (.methodLink own ic (Bundle.init0 cls)) (by simp [Bundle.ownAtoms0])) (ha (.instanceMethod (Bundle.init0 cls)) (by cases names <;> simp [Bundle.ownAtoms0, Bundle.chain0Atoms, Bundle.passAtoms])) (bytes := Bundle.five) (maxL := 1) (ha (.code (Bundle.init0 cls) Bundle.five 1 none) (by cases names <;> simp [Bundle.ownAtoms0, Bundle.chain0Atoms, Bundle.passAtoms]))
    (f := g) hg (a := a) (rest := rest) hstack hd6
  cases Option.some.inj (hnC.symm.trans hP1m)
  have X₁ := X.noted hW₁
  obtain ⟨vm₂, X₂, st2⟩ := X₁.ctorPlainOffV hexec (g := { g with stack := rest }) hg hsize Tt L Z LZ (P1 :: Ps)
    (fun P hP => by rcases List.mem_cons.mp hP with rfl | hP; exact L1; exact hL P hP) ⟨hlink1, hlink⟩ (u0 := u0) (sen := sen) (self := a) (cell := freshCell P1.m.cls kX) (cellS := cellS)
    hcell (fun _ => by simp) (by simp) rfl rfl hsel0 hselF hcellS hneS hknownS (by rw [hkeep _ (hout' _)]; exact hu0) (by rw [hkeep _ (hout' _)]; exact hsen)
    (Takes.of_laid hk hord tyC (by rw [Y.causeType]; rfl)) (Takes.of_laid hk hord tyS (by rw [Y.stackType]; exact fits_refV_array _ u0)) (Takes.of_laid hk hord tyP (by rw [Y.suppType]; exact fits_refV_object _ sen)) Y.objLocals hskip htr [] hd6
    (by simp only [List.length_cons, hlen]; omega) (by simp only [List.length_cons, hlen]; exact hRlocals)
  rw [State.setVm_twice] at X₂ st2
  refine ⟨vm₂, _, _, rfl, rfl, fun q hq => ?_, X₂, fun target hrest => st1 _ (fun acts => ?_)⟩
  · simp only [List.mem_cons, List.not_mem_nil, or_false] at hq
    rcases hq with rfl | rfl | rfl | rfl <;> rfl
  · rw [doInvoke_state]
    exact st2 _ hrest
end JX
end
section
/-! Exceptions in the abstract machine's words. -/
section JX
variable {p : Program} {l : Launch} {e : Env} {R : Room} {s : State} {m : MethodId} {args : Array Value} {below : List Frame} {meth : Method} {cd : Code} {G : jm_G} {J : jm_J} {nL ns zs : Nat} {Q : jm_Q} {bs : ByteArray} {pc n : Nat} {ins : Instr} {ls : jm_Ls} {st : List jm_V} {h : jm_H} {Wg : List Cond}
theorem jw_irem (hx : p.tables.exec = Jvm.exec) (hb : cd.code = bs) (hd : decode bs pc = .ok (.irem, 1)) (z : jo_irem (jg_P p l e R s m args below meth cd G J nL ns zs Q) (pc + 1) ls st h) : jg_P p l e R s m args below meth cd G J nL ns zs Q (pc, ls, st, h) := by
  intro H locs arr hR hn hl hL
  unfold jo_irem at z
  split at z
  · obtain ⟨h0, z⟩ := z
    exact lv_irem hx hb hd h0 (z H locs arr hR hn hl hL)
  · exact z.elim
theorem jw_xnew (hx : p.tables.exec = Jvm.exec) (hb : cd.code = bs) (hK : jg_K G J Wg s) {own nm : String} {idx t c z0 : Nat} (hown : s.vm.findClass own = some m.cls) (ht : 200 ≤ t) (ht2 : t % 2 = 0) (hnm : J.2.2.2 t = some nm) (hcl : Cond.classLink own idx nm ∈ Wg) (hins : Cond.instantiable nm 6 ∈ Wg) (hini : Cond.initialized nm ∈ Wg)
    (hRc : c ≤ R.cells + ns) (hRz : z0 ≤ R.slots + zs) (hd : decode bs pc = .ok (.new idx, 3)) (z : jo_new (jg_P p l e R s m args below meth cd G J nL ns zs Q) (pc + 3) ls st h t 6 c z0) : jg_P p l e R s m args below meth cd G J nL ns zs Q (pc, ls, st, h) := by
  intro H locs arr hR hn hl hL
  replace hR : jg_R G J h H := hR
  replace hL : jg_Ls G arr nL ls := hL
  obtain ⟨z1, z2, z⟩ := z
  have hts : ∀ w ∈ Wg, w.before args s = true := fun w hw => hK.1 w hw args
  obtain ⟨hn1, hn2, hn3, hn4⟩ : ns ≤ h.1 ∧ zs ≤ h.2.1 ∧ h.1 ≤ R.cells + ns ∧ h.2.1 ≤ R.slots + zs := hn
  have hsz : H.size = G.2.1 + (h.1 - 2) := hR.1.2.1
  obtain ⟨k, f1, f2, f3⟩ := hK.2.2.2.2.2.2.1 t nm hnm
  refine W.newcK hx hb hown (hts _ hcl) (hts _ hins) (hts _ hini) rfl hd (by show h.1 - ns + 1 ≤ _; omega) (by show h.2.1 - zs + 6 ≤ _; omega) f1 rfl fun H' kC hkC g1 g2 g3 => ?_
  have hkk : kC = k := Option.some.inj (hkC.symm.trans f2)
  subst hkk
  have hR' : jg_R G J (jm_new h t 0 6) H' := hR.push g2 g3 (jg_at.mk0 ht ht2 ⟨⟨nm, hnm⟩, by rw [g1]; show some ({ cls := _, slots := kC.instanceTypes.map defaultValue, vm := .none } : Cell) = _; rw [f3]⟩)
  have w := z H' locs arr hR' ⟨by show ns ≤ h.1 + 1; omega, by show zs ≤ h.2.1 + 6; omega, by show h.1 + 1 ≤ _; omega, by show h.2.1 + 6 ≤ _; omega⟩ hl hL
  have em : jg_mv G (.inr (.inl h.1)) = .ref H.size := by rw [jg_mv_obj G hR.1.1, hsz]
  have w' : W p l e R s m args below meth cd H' locs (h.1 + 1 - ns) (h.2.1 + 6 - zs) (jg_Z G J R s below ns zs Q) (F0 m (pc + 3) arr (jg_mv G (.inr (.inl h.1)) :: st.map (jg_mv G))) := w
  rw [em] at w'
  exact W.cs (by show h.1 - ns + 1 = h.1 + 1 - ns; omega) (by show h.2.1 - zs + 6 = h.2.1 + 6 - zs; omega) w'
theorem jw_xinit (hx : p.tables.exec = Jvm.exec) (hb : cd.code = bs) (hml : cd.maxLocals = nL) (h0 : jg_0 G) (hl0 : l.stackTraces = false) (hK : jg_K G J Wg s) {own cls : String} {names : List String} {ic t : Nat} {w0 : Nat × Nat} (hown : s.vm.findClass own = some m.cls) (ht : 200 ≤ t) (ht2 : t % 2 = 0) (hnm : J.2.2.2 t = some cls)
    (hcls : Bundle.fit cls = true) (hnames : ∀ n ∈ names, Bundle.fit n = true) (hnl : names.length = 2) (hat : ∀ a ∈ Bundle.ownAtoms0 own ic cls names, a ∈ Wg ∨ a ∈ jx_st) (hRf : w0.1 ≤ R.frames) (hRl : w0.2 ≤ R.locals) (hd : decode bs pc = .ok (.invokespecial ic, 3))
    (z : jo_xinit (jg_P p l e R s m args below meth cd G J nL ns zs Q) (pc + 3) ls st h t w0) : jg_P p l e R s m args below meth cd G J nL ns zs Q (pc, ls, st, h) := by
  intro H locs arr hR hn hl hL
  replace hR : jg_R G J h H := hR
  replace hL : jg_Ls G arr nL ls := hL
  unfold jo_xinit at z
  split at z
  · rename_i a st
    obtain ⟨hta, ⟨hw1, hw2⟩, z⟩ := z
    have hta' : (h.2.2 a).1 = t := hta
    obtain ⟨hp1, hp2⟩ := hR.pos hta (by omega) (by omega)
    obtain ⟨-, hc0⟩ := (hR.at hta (by omega) (by omega)).ex0 (by omega) (by omega)
    rw [hta'] at hc0
    have hsum := jg_catsum G st
    intro T hTH X
    have htr : e.platform.stackTraces = false := by rw [X.admits.platform]; exact hl0
    obtain ⟨k, f1, f2, f3⟩ := hK.2.2.2.2.2.2.1 t cls hnm
    have hplain := hK.2.2.2.2.2.2.2.2.2
    obtain ⟨vm', ce, L, e1, e2, e3, X', stp⟩ := jx_ctor X hx htr hown hcls hnames (fun a ha => by
        rcases hat a ha with hw | hw
        · exact hK.1 a hw args
        · exact jx_words h0 hK a hw) (fun x hx cell hc => by rw [hplain x.base cell (hl x hx) hc]; rfl) f1 f2 (a := G.2.1 + (a - 2)) (by rw [hTH, hc0, ← f3]) (fun cell hc => hplain _ cell (Nat.le_add_right _ _) hc)
        (g := F0 m pc arr (.ref (G.2.1 + (a - 2)) :: st.map (jg_mv G))) rfl (by rw [hml]; exact hL.1) (rest := st.map (jg_mv G)) rfl (by rw [hb]; exact hd) (by omega) (by show 2 * 0 + _ + _ ≤ _; omega)
    have hlt : G.2.1 + (a - 2) < H.size := (Array.getElem?_eq_some_iff.mp hc0).1
    have hheap : ((T.setVm vm').setCell (G.2.1 + (a - 2)) ce).heap = H.setIfInBounds (G.2.1 + (a - 2)) ce := by rw [← hTH]; rfl
    have ea : (jm_sT h a (t + 1)).2.2 a = (t + 1, (h.2.2 a).2) := jm_up_self _ _ _
    obtain ⟨t', s1, q1⟩ := z (H.setIfInBounds (G.2.1 + (a - 2)) ce) (locs ++ L) arr (hR.upd hp1 hp2 rfl (fun r hr => jm_up_ne _ _ hr) (by simp) (fun q hq => by simp [Array.getElem?_setIfInBounds, Ne.symm hq]) (jg_at.mk1 (by rw [ea]; show 200 ≤ t + 1; omega) (by rw [ea]; show ¬ (t + 1) % 2 = 0; omega) (by
        rw [ea]
        show (∃ nm, J.2.2.2 (t + 1 - 1) = some nm) ∧ ∃ cell, (H.setIfInBounds (G.2.1 + (a - 2)) ce)[G.2.1 + (a - 2)]? = some cell ∧ cell.cls = (G.2.2.2.2.2.2.2.1 (t + 1 - 1)).1 ∧ cell.vm = .none
        rw [Nat.add_sub_cancel]
        exact ⟨⟨cls, hnm⟩, ce, by simp [Array.getElem?_setIfInBounds, hlt], e1, e2⟩))) hn (fun q hq => by
        rcases List.mem_append.mp hq with h1 | h1
        · exact hl q h1
        · rw [e3 q h1]; exact Nat.le_add_right _ _) hL _ hheap X'
    refine ⟨t', ?_, q1⟩
    show Steps p.tables e below (T.setTop (F0 m pc arr (jg_mv G (.inr (.inl a)) :: st.map (jg_mv G)))) t'
    rw [jg_mv_obj G hp1]
    exact stp t' s1
  · exact z.elim
theorem jw_athrow (hx : p.tables.exec = Jvm.exec) (hb : cd.code = bs) {hd : Nat → Nat → Option Nat} (hdc : decode bs pc = .ok (.athrow, 1)) (hT : jg_T p l e R s m args below meth cd G J nL ns zs Q hd pc) (z : jo_athrow (jg_P p l e R s m args below meth cd G J nL ns zs Q) Q ls st h hd pc) : jg_P p l e R s m args below meth cd G J nL ns zs Q (pc, ls, st, h) := by
  intro H locs arr hR hn hl hL
  replace hR : jg_R G J h H := hR
  replace hn : ns ≤ h.1 ∧ zs ≤ h.2.1 ∧ h.1 ≤ R.cells + ns ∧ h.2.1 ≤ R.slots + zs := hn
  replace hL : jg_Ls G arr nL ls := hL
  unfold jo_athrow at z
  split at z
  · rename_i a st
    obtain ⟨t1, t2, z⟩ := z
    obtain ⟨hp1, hp2⟩ := hR.pos (rfl : jm_T h a = jm_T h a) (by omega) (by omega)
    intro T hTH X
    obtain ⟨t, s1, q1⟩ := hT a ls h T locs arr (st.map (jg_mv G)) z X (by rw [hTH]; exact hR) hn hl hL ⟨t1, t2⟩
    refine ⟨t, ?_, q1⟩
    have ead : jg_ad G a = G.2.1 + (a - 2) := by simp [jg_ad, show a ≠ 1 by omega]
    rw [ead] at s1
    show Steps p.tables e below (T.setTop (F0 m pc arr (jg_mv G (.inr (.inl a)) :: st.map (jg_mv G)))) t
    rw [jg_mv_obj G hp1]
    jvm_step X.here [hx, hb, hdc, athrow.wp_sem]
    exact s1
  · exact z.elim
theorem jw_T {M : jm_M} {nl : Nat → Nat} {mi : Nat} (hF : jg_Fr M nl mi p s m meth cd) (hK : jg_K G J Wg s) {ct : Nat → Nat → Bool}
    (hC : ∀ q ∈ (M mi).2.2.2, q.2.2.2 ≠ 0 ∧ ∃ C, Cond.classLink (M mi).1.cls q.2.2.2 C ∈ Wg ∧ ∀ t nm, J.2.2.2 t = some nm → ∃ c c', G.2.2.2.2.2.2.2.2.vm.findClass nm = some c ∧ G.2.2.2.2.2.2.2.2.vm.findClass C = some c' ∧ G.2.2.2.2.2.2.2.2.vm.assignable c c' = ct q.2.2.2 (t + 1)) :
    jg_T p l e R s m args below meth cd G J (nl mi) ns zs Q (jm_hf ct (M mi).2.2.2) pc := by
  obtain ⟨hx, hb, hml, hown, hr, hlk, hnm, htab⟩ := hF
  intro x ls h T locs arr rest z X hR hn hl hL hxx
  obtain ⟨hp1, hp2⟩ := hR.pos (rfl : jm_T h x = jm_T h x) (by omega) (by omega)
  have ead : jg_ad G x = G.2.1 + (x - 2) := by simp [jg_ad, show x ≠ 1 by omega]
  rw [ead]
  unfold jo_thr at z
  split at z
  · rename_i y hy
    obtain ⟨hy9, z⟩ := z
    obtain ⟨⟨nm, hnm'⟩, cell, hc, hcls, hvm⟩ := (hR.at (rfl : jm_T h x = jm_T h x) (by omega) (by omega)).ex1 hxx.1 (by show ¬ jm_T h x % 2 = 0; omega)
    have htx : (h.2.2 x).1 = jm_T h x := rfl
    rw [htx] at hnm' hcls
    obtain ⟨k, f1, f2, -⟩ := hK.2.2.2.2.2.2.1 _ nm hnm'
    have hal0 := hK.2.2.2.2.2.2.2.1.alike
    have hpl : e.platform.magicAccessors = ({} : Platform).magicAccessors := by rw [X.admits.platform]
    rw [← htab] at hy
    obtain ⟨vm', hw', hgo⟩ := jt_search (e := e) (args := args) (S := (T.setTop (F0 m pc arr rest)).pushFrame (.throwing (G.2.1 + (x - 2)))) (f := F0 m pc arr rest) (a := G.2.1 + (x - 2)) (cell := cell) (own := (M mi).1.cls) (ct := ct) (t := jm_T h x) (y := y) rfl hown hpl (by rw [Stand.throwing_heap]; exact hc) (fun k q => by rw [hvm] at q; cases q) ⟨k, by rw [hcls]; exact f2⟩ hy9 cd.exceptionTable.toList
      (fun z hz => by
        obtain ⟨g1, C, g2, g3⟩ := hC (z.startPc, z.endPc, z.handlerPc, z.catchType) (by rw [← htab]; exact List.mem_map.mpr ⟨z, hz, rfl⟩)
        refine ⟨g1, C, hK.1 _ g2 args, fun c hfc => ?_⟩
        obtain ⟨c1, c2, i1, i2, i3⟩ := g3 _ nm hnm'
        have j1 : c1 = cell.cls := by
          have : s.vm.findClass nm = some c1 := by rw [hal0.findClass]; exact i1
          rw [hcls]
          exact Option.some.inj (this.symm.trans f1)
        have j2 : c2 = c := by
          have : s.vm.findClass C = some c2 := by rw [hal0.findClass]; exact i2
          exact Option.some.inj (this.symm.trans hfc)
        rw [hal0.assignable, ← j1, ← j2, i3]
        show ct z.catchType (jm_T h x - 1 + 1) = _
        rw [show jm_T h x - 1 + 1 = jm_T h x by omega]) hy T.vm X.warmed
    have eS : ((T.setTop (F0 m pc arr rest)).pushFrame (.throwing (G.2.1 + (x - 2)))).setVm T.vm = (T.setTop (F0 m pc arr rest)).pushFrame (.throwing (G.2.1 + (x - 2))) := by
      conv => lhs; rw [← Stand.throwing_vm T (F0 m pc arr rest) (G.2.1 + (x - 2))]
      exact State.setVm_self _
    rw [eS] at hgo
    have X' := X.noted hw'
    obtain ⟨t, s1, q1⟩ := z T.heap locs arr hR hn hl hL (T.setVm vm') rfl X'
    refine ⟨t, jt_caught (cd := cd) (y := y) (vm' := vm') X.here (alike_of X.warmed hw') (fun QQ E d acts => ?_) ?_, q1⟩
    · rw [W.findHandler_eq (meth := meth) (code := cd) (by rw [Stand.throwing_vm]; exact X.method') X.code]
      exact hgo QQ E d acts
    · have e2 : List.map (jg_mv G) [.inr (.inl x)] = [Value.ref (G.2.1 + (x - 2))] := by rw [List.map_cons, jg_mv_obj G hp1]; rfl
      have s1' : Steps p.tables e below ((T.setVm vm').setTop (F0 m y arr (List.map (jg_mv G) [.inr (.inl x)]))) t := s1
      rw [e2] at s1'
      exact s1'
  · rename_i hy
    rw [← htab] at hy
    obtain ⟨hwalk, hrun, hend, hWe, hsame⟩ := X.leaveThrown (G.2.1 + (x - 2)) (g := F0 m pc arr rest) rfl rfl rfl (jt_none cd.exceptionTable.toList hy) hlk
    refine ⟨_, hwalk, .inr x, h, locs, hrun, ?_, hWe, hsame, hl, hn, hR, z, fun a q => by cases q; exact hxx⟩
    show Ended _ below (.threw (jg_ad G x))
    rw [ead]
    exact hend
end JX
end
section
/-! An array of thirteen arrays of thirteen numbers, in one instruction. -/
def jy_o (c : ClassId) (h0 i : Nat) : Cell := arrV c 13 (fun j => if j < i then .ref (h0 + 1 + j) else .null)
def jy_i (comp : ClassId) : Cell := arrV comp 13 (fun _ => .int 0)
def jy_f (S : State) (c comp : ClassId) : Nat → State
  | 0 => S.pushCell (jy_o c S.heap.size 0)
  | i + 1 => ((jy_f S c comp i).pushCell (jy_i comp)).setCell S.heap.size (jy_o c S.heap.size (i + 1))
theorem jy_o_set (c : ClassId) (h0 i : Nat) : (jy_o c h0 i).setSlot i (.ref (h0 + 1 + i)) = jy_o c h0 (i + 1) := by
  unfold jy_o
  rw [arrV_store]
  congr 1
  funext j
  unfold updV
  by_cases h : j = i
  · subst h; simp
  · rw [if_neg h]
    show (if j < i then Value.ref (h0 + 1 + j) else Value.null) = _
    by_cases h2 : j < i
    · rw [if_pos h2, if_pos (by omega)]
    · rw [if_neg h2, if_neg (by omega)]
theorem jy_o_zero (c : ClassId) (h0 : Nat) : ({ cls := c, slots := Array.replicate 13 .null, vm := .none } : Cell) = jy_o c h0 0 := by
  rw [arrV_new]
  unfold jy_o
  congr 1
theorem jy_facts (S : State) (c comp : ClassId) : ∀ i, (jy_f S c comp i).heap.size = S.heap.size + 1 + i ∧ (jy_f S c comp i).heap[S.heap.size]? = some (jy_o c S.heap.size i) ∧ (jy_f S c comp i).vm = S.vm ∧ (jy_f S c comp i).slotsUsed = S.slotsUsed + 13 + i * 13
  | 0 => ⟨by simp [jy_f], by simp [jy_f], rfl, by simp [jy_f, jy_o, arrV]⟩
  | i + 1 => by
    obtain ⟨a, b, d, u⟩ := jy_facts S c comp i
    have hlt : S.heap.size < (jy_f S c comp i).heap.size := by omega
    have hb' : ((jy_f S c comp i).pushCell (jy_i comp)).heap[S.heap.size]? = some (jy_o c S.heap.size i) := by rw [State.heap_pushCell_of_lt (h := hlt)]; exact b
    refine ⟨?_, State.heap_setCell_self hb', by simp [jy_f, d], ?_⟩
    · simp [jy_f, State.setCell, a]; omega
    · simp [jy_f, u, jy_i, arrV]; omega
theorem jy_old (S : State) (c comp : ClassId) {a : Addr} (ha : a < S.heap.size) : ∀ i, (jy_f S c comp i).heap[a]? = S.heap[a]?
  | 0 => State.heap_pushCell_of_lt _ _ ha
  | i + 1 => by
    have f1 := (jy_facts S c comp i).1
    show (((jy_f S c comp i).pushCell (jy_i comp)).setCell S.heap.size _).heap[a]? = _
    have hlt : a < (jy_f S c comp i).heap.size := Nat.lt_of_lt_of_le ha (by rw [f1]; omega)
    rw [State.heap_setCell_other (Nat.ne_of_gt ha), State.heap_pushCell_of_lt (h := hlt)]
    exact jy_old S c comp ha i
theorem jy_inner (S : State) (c comp : ClassId) : ∀ i j, j < i → (jy_f S c comp i).heap[S.heap.size + 1 + j]? = some (jy_i comp)
  | 0, _, h => absurd h (Nat.not_lt_zero _)
  | i + 1, j, h => by
    have f1 := (jy_facts S c comp i).1
    show (((jy_f S c comp i).pushCell (jy_i comp)).setCell S.heap.size _).heap[S.heap.size + 1 + j]? = _
    rw [State.heap_setCell_other (show S.heap.size ≠ S.heap.size + 1 + j by omega)]
    by_cases hj : j < i
    · have hlt : S.heap.size + 1 + j < (jy_f S c comp i).heap.size := by omega
      rw [State.heap_pushCell_of_lt (h := hlt)]
      exact jy_inner S c comp i j hj
    · rw [show S.heap.size + 1 + j = (jy_f S c comp i).heap.size by omega]
      exact State.heap_pushCell_size _ _
theorem jy_top (S : State) (f : JFrame) (c comp : ClassId) : ∀ i, jy_f (S.setTop f) c comp i = (jy_f S c comp i).setTop f
  | 0 => rfl
  | i + 1 => by
    show ((jy_f (S.setTop f) c comp i).pushCell _).setCell _ _ = _
    rw [jy_top S f c comp i]
    rfl
section JY
variable {E : CtlPost} {e : Env} {d : Bool} {acts : List Action} {s : State}
theorem jy_newA {c comp : ClassId} {k : Class} {ty : FieldType} {v : Value} (hk : s.vm.classes[c]? = some k) (hkind : k.kind = .array comp ty) (hlim : ¬ 13 > e.platform.arrayLengthLimit) (hheap : ¬ 13 * componentBytes ty > e.platform.maxHeapBytes) (hfit : fits ty v = true) (hdef : v.isDefault = true)
    (h1 : s.heap.size < e.platform.maxCells) (h2 : s.slotsUsed + 13 ≤ e.platform.maxSlots) {QQ : Addr → Pre} (hq : QQ s.heap.size d acts (s.pushCell { cls := c, slots := Array.replicate 13 v, vm := .none })) : wp (Jvm.newArray c 13 v) QQ E e d acts s := by
  have hfits : ∀ i w, (Array.replicate 13 v)[i]? = some w → s.fitsSlot c .none i w = true := by
    intro i w hw
    rw [Array.getElem?_replicate] at hw
    split at hw
    · cases hw; simp [State.fitsSlot, State.slotType?, hk, hkind, hfit]
    · cases hw
  have hda : allocActs (Array.replicate 13 v) s.heap.size acts = acts := by
    have hall : ((Array.replicate 13 v).all (·.isDefault)) = true := by
      rw [Array.all_replicate]; split <;> simp [hdef]
    unfold allocActs
    rw [if_pos hall]
  simp only [Jvm.newArray, Jvm.arrayFits, wp_bind', W.ask, W.ite, hlim, if_false, wp_pure', W.theClass, hk, hkind, hheap, W.alloc, W.stop, Option.some.injEq, exists_eq_left', Array.size_replicate, hda]
  rw [if_neg (by omega)]
  exact ⟨h1, h2, hfits, hq⟩
theorem jy_make {c comp cc : ClassId} {k kc : Class} (hk : s.vm.classes[c]? = some k) (hkind : k.kind = .array comp (.array .int)) (hkc : s.vm.classes[comp]? = some kc) (hkindc : kc.kind = .array cc .int)
    (hlim : ¬ 13 > e.platform.arrayLengthLimit) (hheap : ¬ 13 * 4 > e.platform.maxHeapBytes) (hc : s.heap.size + 14 ≤ e.platform.maxCells) (hs : s.slotsUsed + 182 ≤ e.platform.maxSlots)
    {QQ : Addr → Pre} (hq : ∀ d' acts', QQ s.heap.size d' acts' (jy_f s c comp 13)) : wp (multianewarray.make c [13, 13]) QQ E e d acts s := by
  have h13 : ¬ (13 : Int32) < 0 := by decide
  have hn13 : (13 : Int32).toNatClampNeg = 13 := by decide
  have hfind : ([(13 : Int32)].find? (· < 0)) = none := by decide
  rw [multianewarray.make]
  simp only [wp_bind', W.ite, h13, if_false, wp_pure', W.theClass, hk, hkind, Option.some.injEq, exists_eq_left', hn13]
  refine jy_newA hk hkind hlim hheap rfl rfl (by omega) (by omega) ?_
  simp only [hfind]
  rw [ite_self, wp_bind', Std.Legacy.Range.forIn_eq_forIn_range']
  have hsz : ([:13] : Std.Legacy.Range).size = 13 := by simp [Std.Legacy.Range.size]
  rw [hsz]
  show wp (forIn (List.range' 0 13 1) PUnit.unit _) _ E e d acts _
  refine wp_forIn_inv (fun rest s' => ∃ i, i ≤ 13 ∧ rest = List.range' i (13 - i) ∧ s' = jy_f s c comp i) _ _ ⟨0, Nat.zero_le _, rfl, by rw [jy_o_zero c s.heap.size]; rfl⟩ ?_ ?_
  · rintro x rest s' d' acts' Q' ⟨i, hi, hl, rfl⟩ hnext
    have hlt : i < 13 := by
      rcases Nat.lt_or_ge i 13 with h | h
      · exact h
      · rw [show 13 - i = 0 from by omega] at hl; simp at hl
    obtain ⟨rfl, hrest⟩ : x = i ∧ rest = List.range' (i + 1) (13 - (i + 1)) := by
      rw [show 13 - i = (13 - (i + 1)) + 1 from by omega, List.range'_succ] at hl
      exact ⟨(List.cons.inj hl).1, (List.cons.inj hl).2⟩
    obtain ⟨f1, f2, f3, f4⟩ := jy_facts s c comp x
    simp only [wp_bind']
    rw [multianewarray.make]
    simp only [wp_bind', W.ite, h13, if_false, wp_pure', W.theClass, f3, hkc, hkindc, Option.some.injEq, exists_eq_left', hn13]
    refine jy_newA (by rw [f3]; exact hkc) hkindc hlim hheap rfl rfl (by rw [f1]; omega) (by rw [f4]; omega) ?_
    have hlt0 : s.heap.size < (jy_f s c comp x).heap.size := by omega
    simp only [wp_bind', W.writeLoc, wp_pure']
    refine ⟨jy_o c s.heap.size x, by rw [State.heap_pushCell_of_lt (h := hlt0)]; exact f2, (fun q => by cases q), (by unfold jy_o; rw [arrV_size]; exact hlt), ?_, hnext _ _ _ ⟨x + 1, hlt, hrest, ?_⟩⟩
    · show State.fitsSlot _ c .none x _ = true
      simp [State.fitsSlot, State.slotType?, f3, hk, hkind, fits]
    · rw [f1, jy_o_set]
      show _ = ((jy_f s c comp x).pushCell (jy_i comp)).setCell s.heap.size _
      unfold jy_i
      rw [← arrV_new]
      rfl
  · rintro s' d' acts' ⟨i, hi, hl, rfl⟩
    have hiN : i = 13 := by
      rcases Nat.lt_or_ge i 13 with h | h
      · rw [show 13 - i = (13 - (i + 1)) + 1 from by omega, List.range'_succ] at hl; cases hl
      · omega
    subst hiN
    simp only [wp_pure']
    exact hq _ _
theorem jy_cold {f : JFrame} {index c : Nat} {vm' : Vm} {QQ : Unit → Pre} (hs : s.topJava?.isSome) (hg : (Jvm.resolveClass f.method.cls index).Gives e.toSetting s.vm (.ok c) vm') (hr : vm'.classReady f.method.cls index c) (hsz : vm'.classes.size ≤ s.vm.classes.size) :
    wp (multianewarray.sem index 2) QQ E e d acts (s.setTop f) ↔ wp (multianewarray.sem index 2) QQ E e d acts ((s.setVm vm').setTop f) := by
  simp only [multianewarray.sem, wp_bind']
  exact W.resolveClassAt_transfer (s := s.setTop f) (State.method?_setTop f hs) hg hr hsz
theorem jy_sem {f : JFrame} {index : Nat} {c comp cc : ClassId} {k kc : Class} {rest : List Value} (hs : s.topJava?.isSome) (hr : s.vm.classReady f.method.cls index c) (hk : s.vm.classes[c]? = some k) (hkind : k.kind = .array comp (.array .int)) (hkc : s.vm.classes[comp]? = some kc) (hkindc : kc.kind = .array cc .int)
    (hstack : f.stack = .int 13 :: .int 13 :: rest) (hlim : ¬ 13 > e.platform.arrayLengthLimit) (hheap : ¬ 13 * 4 > e.platform.maxHeapBytes) (hc : s.heap.size + 14 ≤ e.platform.maxCells) (hsl : s.slotsUsed + 182 ≤ e.platform.maxSlots)
    {QQ : Unit → Pre} (hq : ∀ d' acts', QQ () d' acts' ((jy_f s c comp 13).setTop { f with stack := .ref s.heap.size :: rest })) : wp (multianewarray.sem index 2) QQ E e d acts (s.setTop f) := by
  simp only [multianewarray.sem, wp_bind', W.resolveClassAt_ready (State.method?_setTop f hs) hr]
  refine (popN_top hs (args := [.int 13, .int 13]) (rest := rest) (by rw [hstack]; rfl)).mpr ?_
  simp only [List.mapM_cons, List.mapM_nil, wp_bind', wp_pure', W.mark]
  refine jy_make (s := s.setTop { f with stack := rest }) hk hkind hkc hkindc hlim hheap hc hsl (fun d' acts' => ?_)
  rw [jy_top]
  have ht : (jy_f s c comp 13).topJava?.isSome := by
    have key : ∀ i, (jy_f s c comp i).topJava?.isSome := fun i => by
      induction i with
      | zero => exact hs
      | succ i ih => exact ih
    exact key 13
  simp only [wp_bind', W.mark, W.pushRef, State.topJava?_setTop' _ ht, Option.some.injEq, exists_eq_left', State.setTop_setTop]
  exact hq _ _
end JY
section JZ
variable {p : Program} {l : Launch} {e : Env} {R : Room} {s : State} {m : MethodId} {args : Array Value} {below : List Frame} {meth : Method} {cd : Code} {G : jm_G} {J : jm_J} {nL ns zs : Nat} {Q : jm_Q} {bs : ByteArray} {pc n : Nat} {ins : Instr} {ls : jm_Ls} {st : List jm_V} {h : jm_H} {Wg : List Cond} {T : State} {locs : List Loc} {cells slots : Nat}
theorem jy_stand (X : Stand p l e R s m args below meth cd T locs cells slots) (c comp : ClassId) (hsz : s.heap.size ≤ T.heap.size) : ∀ i, Stand p l e R s m args below meth cd (jy_f T c comp i) locs (cells + 1 + i) (slots + 13 + i * 13)
  | 0 => by
    have e1 : (jy_o c T.heap.size 0).slots.size = 13 := by unfold jy_o; exact arrV_size _ _ _
    have X1 := X.pushed (jy_o c T.heap.size 0)
    rw [e1] at X1
    exact X1
  | i + 1 => by
    have X1 := (jy_stand X c comp hsz i).pushed (jy_i comp)
    obtain ⟨f1, f2, f3, f4⟩ := jy_facts T c comp i
    have hc : ((jy_f T c comp i).pushCell (jy_i comp)).heap[T.heap.size]? = some (jy_o c T.heap.size i) := by
      have hlt : T.heap.size < (jy_f T c comp i).heap.size := by omega
      rw [State.heap_pushCell_of_lt (h := hlt)]
      exact f2
    have X2 := X1.stored hc i (.ref (T.heap.size + 1 + i))
    rw [jy_o_set] at X2
    have X3 := Stand.forget X2 (fun q hq => by rw [List.mem_singleton.mp hq]; exact hsz)
    have e1 : (jy_i comp).slots.size = 13 := by unfold jy_i; exact arrV_size _ _ _
    rw [e1] at X3
    have e2 : cells + 1 + i + 1 = cells + 1 + (i + 1) := by omega
    have e3 : slots + 13 + i * 13 + 13 = slots + 13 + (i + 1) * 13 := by omega
    rw [e2, e3] at X3
    exact X3
theorem jw_multi (hx : p.tables.exec = Jvm.exec) (hb : cd.code = bs) (hK : jg_K G J Wg s) {own : String} {idx t c z0 : Nat} (hown : s.vm.findClass own = some m.cls) (h60 : 60 ≤ t) (h99 : t < 99) (hty : J.2.2.1 t = some (.array .int)) (hcl : Cond.classLink own idx "[[I" ∈ Wg)
    (hRc : c ≤ R.cells + ns) (hRz : z0 ≤ R.slots + zs) (hd : decode bs pc = .ok (.multianewarray idx 2, 4)) (z : jo_multi (jg_P p l e R s m args below meth cd G J nL ns zs Q) (pc + 4) ls st h t c z0) : jg_P p l e R s m args below meth cd G J nL ns zs Q (pc, ls, st, h) := by
  intro H locs arr hR hn hl hL
  replace hR : jg_R G J h H := hR
  replace hn : ns ≤ h.1 ∧ zs ≤ h.2.1 ∧ h.1 ≤ R.cells + ns ∧ h.2.1 ≤ R.slots + zs := hn
  replace hL : jg_Ls G arr nL ls := hL
  unfold jo_multi at z
  split at z
  · rename_i k1 k0 st
    obtain ⟨rfl, rfl, z1, z2, z⟩ := z
    obtain ⟨hn1, hn2, hn3, hn4⟩ := hn
    have hsz : H.size = G.2.1 + (h.1 - 2) := hR.1.2.1
    have em : jg_mv G (.inr (.inl h.1)) = .ref H.size := by rw [jg_mv_obj G hR.1.1, hsz]
    obtain ⟨-, hRA, -, hOv⟩ := hK.2.2.2.2.2.1 t _ hty
    obtain ⟨comp, cA, kA, hcomp, -, hkA, hkindA, hnA⟩ := arrayOverA_spec (hOv .int rfl)
    have e2 : (FieldType.array FieldType.int).toString = "[I" := by decide +kernel
    have e3 : "[" ++ (FieldType.array FieldType.int).toString = "[[I" := by decide +kernel
    rw [e2] at hcomp
    rw [e3] at hnA
    have ecomp : comp = G.2.2.2.2.1 := Option.some.inj (hcomp.symm.trans hK.2.2.1.2)
    have eA : cA = G.2.2.2.2.2.2.1 t := by
      have h1 : s.vm.findClass ("[" ++ (FieldType.array FieldType.int).toString) = some (G.2.2.2.2.2.2.1 t) := hRA
      rw [e3] at h1
      exact Option.some.inj (hnA.symm.trans h1)
    subst ecomp; subst eA
    obtain ⟨-, kc, hkc, cc, hkindc⟩ := hK.2.2.1.1 0 (fun _ => .null)
    replace hkc : s.vm.classes[G.2.2.2.2.1]? = some kc := hkc
    intro T hTH X
    subst hTH
    replace X : Stand p l e R s m args below meth cd T locs (h.1 - ns) (h.2.1 - zs) := X
    have hpl : e.platform.magicAccessors = ({} : Platform).magicAccessors := by rw [X.admits.platform]
    obtain ⟨c2, hfcc, hcl2⟩ := Cond.classLink_spec hown (hK.1 _ hcl args) e.platform hpl
    cases hnA.symm.trans hfcc
    obtain ⟨hg₁, hwarm₁, hready₁⟩ := State.classEntry (e := e) X.warmed hcl2
    generalize T.vm.noted m.cls idx (.cls (G.2.2.2.2.2.2.1 t)) = vm₁ at hg₁ hwarm₁ hready₁
    have hal : s.vm.Alike vm₁ := hwarm₁.alike
    obtain ⟨kA₁, hkA₁, heA⟩ := hal.2.2 _ _ hkA
    obtain ⟨kc₁, hkc₁, hec⟩ := hal.2.2 _ _ hkc
    have hszv : vm₁.classes.size ≤ T.vm.classes.size := by
      have i1 := hal.2.1
      have i2 := X.warmed.alike.2.1
      omega
    have X₁ := X.noted hwarm₁
    obtain ⟨hr1, hr2⟩ := X.roomAbove (a := 14) (b := 182) (by omega) (by omega)
    have hge : s.heap.size ≤ T.heap.size := X.same.2.1
    have X₂ := jy_stand X₁ (G.2.2.2.2.2.2.1 t) G.2.2.2.2.1 (show s.heap.size ≤ (T.setVm vm₁).heap.size from hge) 13
    obtain ⟨f1, f2, f3, f4⟩ := jy_facts (T.setVm vm₁) (G.2.2.2.2.2.2.1 t) G.2.2.2.2.1 13
    have f5 := fun {a : Addr} (ha : a < T.heap.size) => jy_old (T.setVm vm₁) (G.2.2.2.2.2.2.1 t) G.2.2.2.2.1 (show a < (T.setVm vm₁).heap.size from ha) 13
    have f6 := jy_inner (T.setVm vm₁) (G.2.2.2.2.2.2.1 t) G.2.2.2.2.1 13
    replace f1 : (jy_f (T.setVm vm₁) (G.2.2.2.2.2.2.1 t) G.2.2.2.2.1 13).heap.size = T.heap.size + 1 + 13 := f1
    replace f2 : (jy_f (T.setVm vm₁) (G.2.2.2.2.2.2.1 t) G.2.2.2.2.1 13).heap[T.heap.size]? = some (jy_o (G.2.2.2.2.2.2.1 t) T.heap.size 13) := f2
    replace f5 : ∀ a, a < T.heap.size → (jy_f (T.setVm vm₁) (G.2.2.2.2.2.2.1 t) G.2.2.2.2.1 13).heap[a]? = T.heap[a]? := fun a ha => f5 ha
    replace f6 : ∀ j, j < 13 → (jy_f (T.setVm vm₁) (G.2.2.2.2.2.2.1 t) G.2.2.2.2.1 13).heap[T.heap.size + 1 + j]? = some (jy_i G.2.2.2.2.1) := fun j hj => f6 j hj
    generalize hS3 : jy_f (T.setVm vm₁) (G.2.2.2.2.2.2.1 t) G.2.2.2.2.1 13 = S3 at X₂ f1 f2 f5 f6
    have hR' : jg_R G J (jm_mul h t 13 13) S3.heap := by
      obtain ⟨⟨p1, p2, p3, p4⟩, hz, hA, s1, s2, s3, s4, s5⟩ := id hR
      have ob : ∀ r, r ≠ h.1 → ¬ (h.1 < r ∧ r < h.1 + 1 + 13) → (jm_mul h t 13 13).2.2 r = h.2.2 r := fun r q1 q2 => by
        show (if r = h.1 then _ else if h.1 < r ∧ r < h.1 + 1 + 13 then _ else h.2.2 r) = _
        rw [if_neg q1, if_neg q2]
      have ex : (jm_mul h t 13 13).2.2 1 = h.2.2 1 := ob 1 (by omega) (by omega)
      refine ⟨⟨by show 2 ≤ h.1 + 1 + 13; omega, by show _ = G.2.1 + (h.1 + 1 + 13 - 2); omega, p3, fun q hq => (f5 q (by omega)).trans (p4 q hq)⟩, fun r hr => ?_, fun r h1 h3 => ?_, ?_, ?_, s3, ?_, ?_⟩
      · have hr' : r = 0 ∨ h.1 + 1 + 13 ≤ r := hr
        show ((jm_mul h t 13 13).2.2 r).1 = 0
        rw [ob r (by omega) (by omega)]
        exact hz r (by omega)
      · have h3' : r < h.1 + 1 + 13 := h3
        by_cases hr : r = h.1
        · subst hr
          have eo : (jm_mul h t 13 13).2.2 h.1 = (t, 13, fun _ => 0, fun j => if j < 13 then h.1 + 1 + j else 0, fun _ => 0) := if_pos rfl
          rw [eo, show G.2.1 + (h.1 - 2) = T.heap.size by omega]
          refine jg_at.mkR h60 h99 ?_
          rw [f2]
          unfold jy_o
          refine congrArg (fun f => some (arrV (G.2.2.2.2.2.2.1 t) 13 f)) (funext fun j => ?_)
          show _ = jg_mv G (.inr (.inl (if j < 13 then h.1 + 1 + j else 0)))
          by_cases hj : j < 13
          · rw [if_pos hj, if_pos hj, jg_mv_obj G (by omega), show T.heap.size + 1 + j = G.2.1 + (h.1 + 1 + j - 2) by omega]
          · rw [if_neg hj, if_neg hj]; rfl
        · by_cases hr2 : h.1 < r
          · have eo : (jm_mul h t 13 13).2.2 r = (100, 13, fun _ => 0, fun _ => 0, fun _ => 0) := by
              show (if r = h.1 then _ else if h.1 < r ∧ r < h.1 + 1 + 13 then _ else h.2.2 r) = _
              rw [if_neg hr, if_pos ⟨hr2, h3'⟩]
            rw [eo]
            refine jg_at.mkI rfl ?_
            rw [show G.2.1 + (r - 2) = T.heap.size + 1 + (r - h.1 - 1) by omega, f6 _ (by omega)]
            rfl
          · rw [ob r hr (by omega)]
            exact (hA r h1 (by omega)).kept (f5 _ (by omega))
      · show ((jm_mul h t 13 13).2.2 1).1 = 99
        rw [ex]; exact s1
      · rw [f5 _ (by omega)]; exact s2
      · show _ = ((jm_mul h t 13 13).2.2 1).2.1
        rw [ex]; exact s4
      · show ∀ j, j < ((jm_mul h t 13 13).2.2 1).2.1 → G.2.2.1.slots[j]? = some (Value.int (((jm_mul h t 13 13).2.2 1).2.2.1 j))
        rw [ex]; exact s5
    rw [show h.1 - ns + 1 + 13 = h.1 + 1 + 13 - ns by omega, show h.2.1 - zs + 13 + 13 * 13 = h.2.1 + 13 + 13 * 13 - zs by omega] at X₂
    obtain ⟨t', s1, q1⟩ := z _ locs arr hR' ⟨by show ns ≤ h.1 + 1 + 13; omega, by show zs ≤ h.2.1 + 13 + 13 * 13; omega, by show h.1 + 1 + 13 ≤ _; omega, by show h.2.1 + 13 + 13 * 13 ≤ _; omega⟩ hl hL _ rfl X₂
    refine ⟨t', ?_, q1⟩
    have s2 : Steps p.tables e below (S3.setTop (F0 m (pc + 4) arr (jg_mv G (.inr (.inl h.1)) :: st.map (jg_mv G)))) t' := s1
    rw [em, ← hS3] at s2
    have hlim : ¬ 13 > e.platform.arrayLengthLimit := by rw [Launch.admits_arrayLengthLimit X.admits]; omega
    have hhp : ¬ 13 * 4 > e.platform.maxHeapBytes := by rw [Launch.admits_maxHeapBytes X.admits]; omega
    show Steps p.tables e below (T.setTop (F0 m pc arr (.int 13 :: .int 13 :: st.map (jg_mv G)))) t'
    jvm_step X.here [hx, hb, hd, jy_cold (e := e) (s := T) (f := F0 m pc arr (.int 13 :: .int 13 :: st.map (jg_mv G))) X.here.top hg₁ hready₁ hszv]
    refine jy_sem (s := T.setVm vm₁) (f := F0 m pc arr (.int 13 :: .int 13 :: st.map (jg_mv G))) X.here.top hready₁ hkA₁ (by rw [heA]; exact hkindA) hkc₁ (by rw [hec]; exact hkindc) rfl hlim hhp hr1 hr2 (fun d' acts' => ?_)
    intro acts
    rw [afterInstr_ok]
    exact s2
  · exact z.elim
end JZ
end
section
/-! The abstract machine is sound, for code whose instructions pass a check. -/
/-- entries: owner, index, what it is (1 field, 2 virtual call, 3 static call, 4 constructor, 5 new, 6 array of references, 7 new exception, 8 its constructor, 9 Object's constructor, 10 max, 11 min, 12 arraycopy, 13 array of arrays), two numbers -/
abbrev jm_K5 : Type := List (Nat × Nat × Nat × Nat × Nat)
def jm_fin (J : jm_J) (x y : Nat) : Bool := match J.1[x]? with
  | some q => (q.2.1 y).2.2.2
  | none => true
def jm_isR : FieldType → Bool
  | .object _ => true
  | .array _ => true
  | _ => false
def jc_gf : Instr → Option Nat
  | .getfield i => some i
  | _ => none
theorem jc_gf_spec {ins : Instr} {f : Nat → Bool} (h : (jc_gf ins).any f = true) : ∃ i, ins = .getfield i ∧ f i = true := by
  unfold jc_gf at h
  split at h
  · exact ⟨_, rfl, h⟩
  · cases h
def jc_pf : Instr → Option Nat
  | .putfield i => some i
  | _ => none
theorem jc_pf_spec {ins : Instr} {f : Nat → Bool} (h : (jc_pf ins).any f = true) : ∃ i, ins = .putfield i ∧ f i = true := by
  unfold jc_pf at h
  split at h
  · exact ⟨_, rfl, h⟩
  · cases h
def jc_nw : Instr → Option Nat
  | .new i => some i
  | _ => none
theorem jc_nw_spec {ins : Instr} {f : Nat → Bool} (h : (jc_nw ins).any f = true) : ∃ i, ins = .new i ∧ f i = true := by
  unfold jc_nw at h
  split at h
  · exact ⟨_, rfl, h⟩
  · cases h
def jc_an : Instr → Option Nat
  | .anewarray i => some i
  | _ => none
theorem jc_an_spec {ins : Instr} {f : Nat → Bool} (h : (jc_an ins).any f = true) : ∃ i, ins = .anewarray i ∧ f i = true := by
  unfold jc_an at h
  split at h
  · exact ⟨_, rfl, h⟩
  · cases h
def jc_is : Instr → Option Nat
  | .invokestatic i => some i
  | _ => none
theorem jc_is_spec {ins : Instr} {f : Nat → Bool} (h : (jc_is ins).any f = true) : ∃ i, ins = .invokestatic i ∧ f i = true := by
  unfold jc_is at h
  split at h
  · exact ⟨_, rfl, h⟩
  · cases h
def jc_iv : Instr → Option Nat
  | .invokevirtual i => some i
  | _ => none
theorem jc_iv_spec {ins : Instr} {f : Nat → Bool} (h : (jc_iv ins).any f = true) : ∃ i, ins = .invokevirtual i ∧ f i = true := by
  unfold jc_iv at h
  split at h
  · exact ⟨_, rfl, h⟩
  · cases h
def jc_ip : Instr → Option Nat
  | .invokespecial i => some i
  | _ => none
theorem jc_ip_spec {ins : Instr} {f : Nat → Bool} (h : (jc_ip ins).any f = true) : ∃ i, ins = .invokespecial i ∧ f i = true := by
  unfold jc_ip at h
  split at h
  · exact ⟨_, rfl, h⟩
  · cases h
def jc_ma : Instr → Option Nat
  | .multianewarray i 2 => some i
  | _ => none
theorem jc_ma_spec {ins : Instr} {f : Nat → Bool} (h : (jc_ma ins).any f = true) : ∃ i, ins = .multianewarray i 2 ∧ f i = true := by
  unfold jc_ma at h
  split at h
  · exact ⟨_, rfl, h⟩
  · cases h
/-- K: the entries; oc: the owner; ini: is it a constructor -/
def jm_chk (K : jm_K5) (J : jm_J) (sw : Nat → List (Int32 × Nat) × Nat) (oc nL : Nat) (ini : Bool) (ret : Option FieldType) (pc : Nat) (ins : Instr) (i : jm_In) : Bool := match i.1 with
  | 1 => jc_const ins i.2.1 i.2.2.2.2
  | 2 => jc_iload ins i.2.1 i.2.2.1
  | 3 => jc_aload ins i.2.1 i.2.2.1
  | 4 => jc_istore ins i.2.1 i.2.2.1 && decide (i.2.2.1 < nL)
  | 5 => jc_astore ins i.2.1 i.2.2.1 && decide (i.2.2.1 < nL)
  | 6 => jc_iinc ins i.2.1 i.2.2.1 i.2.2.2.2 && decide (i.2.2.1 < nL)
  | 7 => jc_bin ins i.2.1 i.2.2.1
  | 8 => jc_if ins i.2.1 pc i.2.2.1 i.2.2.2.1
  | 9 => jc_icmp ins i.2.1 pc i.2.2.1 i.2.2.2.1
  | 10 => i.2.1 == 3 && jc_goto ins pc i.2.2.2.1
  | 11 => jc_switch ins pc (sw i.2.2.2.1)
  | 12 => i.2.1 == 3 && (jc_gf ins).any (fun idx => K.contains (oc, idx, 1, i.2.2.1, i.2.2.2.1)) && jm_isI (J.2.1 i.2.2.1 i.2.2.2.1)
  | 13 => i.2.1 == 3 && (jc_gf ins).any (fun idx => K.contains (oc, idx, 1, i.2.2.1, i.2.2.2.1)) && !jm_isI (J.2.1 i.2.2.1 i.2.2.2.1)
  | 14 => i.2.1 == 3 && (jc_pf ins).any (fun idx => K.contains (oc, idx, 1, i.2.2.1, i.2.2.2.1)) && decide (J.2.1 i.2.2.1 i.2.2.2.1 = .int) && (!jm_fin J i.2.2.1 i.2.2.2.1 || (ini && oc == i.2.2.1))
  | 15 => i.2.1 == 3 && (jc_pf ins).any (fun idx => K.contains (oc, idx, 1, i.2.2.1, i.2.2.2.1)) && decide (J.2.1 i.2.2.1 i.2.2.2.1 = .boolean) && (!jm_fin J i.2.2.1 i.2.2.2.1 || (ini && oc == i.2.2.1))
  | 16 => i.2.1 == 3 && (jc_pf ins).any (fun idx => K.contains (oc, idx, 1, i.2.2.1, i.2.2.2.1)) && jm_isR (J.2.1 i.2.2.1 i.2.2.2.1) && (!jm_fin J i.2.2.1 i.2.2.2.1 || (ini && oc == i.2.2.1))
  | 17 => decide (ins = .iaload) && i.2.1 == 1
  | 18 => decide (ins = .iaload) && i.2.1 == 1
  | 19 => decide (ins = .iastore) && i.2.1 == 1
  | 20 => decide (ins = .aaload) && i.2.1 == 1 && decide (60 ≤ i.2.2.1) && decide (i.2.2.1 < 99) && (J.2.2.1 i.2.2.1).any (fun t => t.isReference)
  | 21 => decide (ins = .aastore) && i.2.1 == 1 && decide (60 ≤ i.2.2.1) && decide (i.2.2.1 < 99) && decide (0 < i.2.2.2.1) && decide (i.2.2.2.1 < 60) && (J.1[i.2.2.2.1]?).any (fun q => decide (J.2.2.1 i.2.2.1 = some (.object q.1)))
  | 22 => decide (ins = .arraylength) && i.2.1 == 1 && (i.2.2.1 == 100 || (decide (60 ≤ i.2.2.1) && decide (i.2.2.1 < 99) && (J.2.2.1 i.2.2.1).isSome))
  | 23 => decide (ins = .arraylength) && i.2.1 == 1
  | 24 => i.2.1 == 2 && ((decide (ins = .newarray .int) && i.2.2.1 == 100) || (decide (ins = .newarray .long) && i.2.2.1 == 101))
  | 25 => i.2.1 == 3 && (jc_an ins).any (fun idx => K.contains (oc, idx, 6, i.2.2.1, 0))
  | 27 => i.2.1 == 4 && (jc_ma ins).any (fun idx => K.contains (oc, idx, 13, i.2.2.1, 0))
  | 28 => i.2.1 == 3 && (jc_nw ins).any (fun idx => K.contains (oc, idx, 5, i.2.2.1, i.2.2.2.1))
  | 29 => decide (ins = .dup) && i.2.1 == 1
  | 30 => decide (ins = .dup2) && i.2.1 == 1
  | 31 => decide (ins = .pop) && i.2.1 == 1
  | 32 => i.2.1 == 3 && ((jc_iv ins).any (fun idx => K.contains (oc, idx, 2, i.2.2.1, i.2.2.2.1)) || (jc_is ins).any (fun idx => K.contains (oc, idx, 3, i.2.2.1, i.2.2.2.1)) || (jc_ip ins).any (fun idx => K.contains (oc, idx, 4, i.2.2.1, i.2.2.2.1)))
  | 33 => i.2.1 == 3 && (jc_ip ins).any (fun idx => K.contains (oc, idx, 9, 0, 0))
  | 34 => i.2.1 == 3 && (jc_nw ins).any (fun idx => K.contains (oc, idx, 7, i.2.2.1, 0))
  | 35 => i.2.1 == 3 && (jc_ip ins).any (fun idx => K.contains (oc, idx, 8, i.2.2.1, 0))
  | 36 => decide (ins = .athrow) && i.2.1 == 1
  | 37 => decide (ins = .ireturn) && i.2.1 == 1 && decide (ret = some .int)
  | 38 => decide (ins = .ireturn) && i.2.1 == 1 && decide (ret = some .boolean)
  | 39 => decide (ins = .return_) && i.2.1 == 1 && decide (ret = none)
  | 41 => decide (ins = .i2l) && i.2.1 == 1
  | 42 => decide (ins = .laload) && i.2.1 == 1
  | 43 => decide (ins = .lastore) && i.2.1 == 1
  | 44 => decide (ins = .lcmp) && i.2.1 == 1
  | 45 => i.2.1 == 3 && (jc_is ins).any (fun idx => K.contains (oc, idx, 10, 0, 0))
  | 47 => i.2.1 == 3 && (jc_is ins).any (fun idx => K.contains (oc, idx, 12, 0, 0))
  | 48 => decide (ins = .dup_x1) && i.2.1 == 1
  | 50 => decide (ins = .irem) && i.2.1 == 1
  | _ => false
/-- the entries are what they say -/
def jm_kok (cn : Nat → String) (J : jm_J) (Wg : List Cond) (M : jm_M) (nl rc : Nat → Nat) (q : Nat × Nat × Nat × Nat × Nat) : Prop := match q.2.2.1 with
  | 1 => 0 < q.2.2.2.1 ∧ ∃ w, J.1[q.2.2.2.1]? = some w ∧ q.2.2.2.2 < w.2.2 ∧ (w.2.1 q.2.2.2.2).1 = w.1 ∧ Cond.fieldLink (cn q.1) q.2.1 w.1 (w.2.1 q.2.2.2.2).2.1 (w.2.1 q.2.2.2.2).2.2.1 ∈ Wg
  | 2 => 0 < rc q.2.2.2.1 ∧ (∃ w, J.1[rc q.2.2.2.1]? = some w ∧ w.1 = (M q.2.2.2.1).1.cls ∧ Cond.selects w.1 (M q.2.2.2.1).1 (M q.2.2.2.1).1 ∈ Wg) ∧ jg_cw M nl Wg q.2.2.2.1 ∧ Cond.methodLink (cn q.1) q.2.1 (M q.2.2.2.1).1 ∈ Wg ∧ Cond.instanceMethod (M q.2.2.2.1).1 ∈ Wg ∧ ((M q.2.2.2.1).1.cls ≠ "java/lang/invoke/MethodHandle" ∧ (M q.2.2.2.1).1.cls ≠ "java/lang/invoke/VarHandle") ∧ plainFor (M q.2.2.2.1).1 = true ∧ (parseMethodDescriptor (M q.2.2.2.1).1.desc).map (fun d => d.parameters.length + 1) = some q.2.2.2.2
  | 3 => rc q.2.2.2.1 = 0 ∧ jg_cw M nl Wg q.2.2.2.1 ∧ Cond.methodLink (cn q.1) q.2.1 (M q.2.2.2.1).1 ∈ Wg ∧ Cond.static (M q.2.2.2.1).1 ∈ Wg ∧ Cond.initialized (M q.2.2.2.1).1.cls ∈ Wg ∧ ((M q.2.2.2.1).1.cls ≠ "java/lang/invoke/MethodHandle" ∧ (M q.2.2.2.1).1.cls ≠ "java/lang/invoke/VarHandle") ∧ plainFor (M q.2.2.2.1).1 = true ∧ (parseMethodDescriptor (M q.2.2.2.1).1.desc).map (fun d => d.parameters.length) = some q.2.2.2.2
  | 4 => (0 < rc q.2.2.2.1 ∧ rc q.2.2.2.1 < 60) ∧ (M q.2.2.2.1).1.name = "<init>" ∧ Cond.code (M q.2.2.2.1).1 (M q.2.2.2.1).2.1 (nl q.2.2.2.1) none ∈ Wg ∧ jg_cw M nl Wg q.2.2.2.1 ∧ Cond.methodLink (cn q.1) q.2.1 (M q.2.2.2.1).1 ∈ Wg ∧ Cond.instanceMethod (M q.2.2.2.1).1 ∈ Wg ∧ ((M q.2.2.2.1).1.cls ≠ "java/lang/invoke/MethodHandle" ∧ (M q.2.2.2.1).1.cls ≠ "java/lang/invoke/VarHandle") ∧ plainFor (M q.2.2.2.1).1 = true ∧ (parseMethodDescriptor (M q.2.2.2.1).1.desc).map (fun d => d.parameters.length + 1) = some q.2.2.2.2
  | 5 => 0 < q.2.2.2.1 ∧ ∃ w, J.1[q.2.2.2.1]? = some w ∧ q.2.2.2.2 = w.2.2 ∧ Cond.classLink (cn q.1) q.2.1 w.1 ∈ Wg ∧ Cond.instantiable w.1 w.2.2 ∈ Wg ∧ Cond.initialized w.1 ∈ Wg ∧ ∀ k, k < w.2.2 → jm_isI (J.2.1 q.2.2.2.1 k) = true ∨ jm_isR (J.2.1 q.2.2.2.1 k) = true
  | 6 => (60 ≤ q.2.2.2.1 ∧ q.2.2.2.1 < 99) ∧ ∃ C, J.2.2.1 q.2.2.2.1 = some (.object C) ∧ Cond.classLink (cn q.1) q.2.1 C ∈ Wg
  | 7 => ∃ nm, J.2.2.2 q.2.2.2.1 = some nm ∧ 200 ≤ q.2.2.2.1 ∧ q.2.2.2.1 % 2 = 0 ∧ Cond.classLink (cn q.1) q.2.1 nm ∈ Wg ∧ Cond.instantiable nm 6 ∈ Wg ∧ Cond.initialized nm ∈ Wg
  | 8 => ∃ cls names, J.2.2.2 q.2.2.2.1 = some cls ∧ 200 ≤ q.2.2.2.1 ∧ q.2.2.2.1 % 2 = 0 ∧ Bundle.fit cls = true ∧ (∀ n ∈ names, Bundle.fit n = true) ∧ names.length = 2 ∧ ∀ a ∈ Bundle.ownAtoms0 (cn q.1) q.2.1 cls names, a ∈ Wg ∨ a ∈ jx_st
  | 9 => Cond.methodLink (cn q.1) q.2.1 objectInit ∈ Wg ∧ Cond.instanceMethod objectInit ∈ Wg ∧ Cond.code objectInit ⟨#[0xb1]⟩ 1 none ∈ Wg
  | 10 => Cond.methodLink (cn q.1) q.2.1 Lib.Math.max.name ∈ Wg ∧ Cond.static Lib.Math.max.name ∈ Wg ∧ Cond.initialized "java/lang/Math" ∈ Wg ∧ Cond.code Lib.Math.max.name Lib.Math.max.code 2 (some .int) ∈ Wg
  | 12 => Cond.methodLink (cn q.1) q.2.1 arraycopyName ∈ Wg ∧ Cond.native arraycopyName ∈ Wg ∧ Cond.static arraycopyName ∈ Wg ∧ Cond.initialized "java/lang/System" ∈ Wg
  | 13 => (60 ≤ q.2.2.2.1 ∧ q.2.2.2.1 < 99) ∧ J.2.2.1 q.2.2.2.1 = some (.array .int) ∧ Cond.classLink (cn q.1) q.2.1 "[[I" ∈ Wg
  | _ => True
theorem jm_dflt (G : jm_G) {J : jm_J} {x k : Nat} (h : jm_isI (J.2.1 x k) = true ∨ jm_isR (J.2.1 x k) = true) : defaultValue (J.2.1 x k) = jg_fv G (J.2.1 x) (x, 0, fun _ => 0, fun _ => 0, fun _ => 0) k := by
  unfold jg_fv
  generalize J.2.1 x k = ty at h ⊢
  cases ty <;> first | rfl | (rcases h with h | h <;> cases h)
theorem jm_isR_spec {ty : FieldType} (h : jm_isR ty = true) : (∃ c, ty = .object c) ∨ ∃ t, ty = .array t := by
  cases ty <;> first | exact Or.inl ⟨_, rfl⟩ | exact Or.inr ⟨_, rfl⟩ | cases h
theorem jm_lookup_mem {α : Type} {a : Nat} {b : α} : ∀ (l : List (Nat × α)), l.lookup a = some b → (a, b) ∈ l
  | [], h => by cases h
  | (c, d) :: r, h => by
    simp only [List.lookup] at h
    split at h
    · rename_i hc
      cases h
      rw [eq_of_beq hc]
      exact List.mem_cons_self
    · exact List.mem_cons_of_mem _ (jm_lookup_mem r h)
set_option maxHeartbeats 4000000 in
/-- one instruction that passes the check -/
theorem jm_close {p : Program} {l : Launch} {e : Env} {R : Room} {s : State} {m : MethodId} {args : Array Value} {below : List Frame} {meth : Method} {cd : Code} {G : jm_G} {J : jm_J} {Wg : List Cond} {M : jm_M} {pr : jm_Pr} {cn : Nat → String} {K : jm_K5} {oc mi ns zs : Nat} {ini : Bool} {Q : jm_Q} {E : Nat → List jm_V → jm_H → jm_Q → Prop}
    (hS : jg_Snd G J Wg M pr.2.2.1 pr.2.2.2.2.2.2.2 pr.2.2.2.2.2.1 pr.2.2.2.2.2.2.1 p l e E) (hg : ∀ w ∈ Wg, jm_goodW w = true) (hJ : jg_J J Wg) (h0 : jg_0 G) (hl0 : l.stackTraces = false) (hKok : ∀ q ∈ K, jm_kok cn J Wg M pr.2.2.1 pr.2.2.2.1 q) (hcn : cn oc = (M mi).1.cls) (hci : ini = true → (M mi).1.name = "<init>")
    (hcj : ∀ t q, 0 < t → J.1[t]? = some q → cn t = q.1) (hwI : Cond.arrayClass .int ∈ Wg) (hwL : Cond.arrayClass .long ∈ Wg)
    (hF : jg_Fr M pr.2.2.1 mi p s m meth cd) (hK : jg_K G J Wg s) (hRm : jg_Rm (pr.2.2.2.2.2.2.2 mi) R) (hcap : pr.2.2.2.2.2.1 ≤ R.cells + ns ∧ pr.2.2.2.2.2.2.1 ≤ R.slots + zs)
    (hT : ∀ pc, jg_T p l e R s m args below meth cd G J (pr.2.2.1 mi) ns zs Q (pr.2.1 mi) pc)
    {i : jm_In} {pc : Nat} {ls : jm_Ls} {st : List jm_V} {h : jm_H} {ins : Instr} (hd : decode (M mi).2.1 pc = .ok (ins, i.2.1)) (hc : jm_chk K J pr.2.2.2.2.1 oc (pr.2.2.1 mi) ini (M mi).2.2.1 pc ins i = true)
    (z : jm_step pr E mi (jg_P p l e R s m args below meth cd G J (pr.2.2.1 mi) ns zs Q) Q i pc ls st h) : jg_P p l e R s m args below meth cd G J (pr.2.2.1 mi) ns zs Q (pc, ls, st, h) := by
  obtain ⟨hx, hb, hml, hown, hr, hlk, hnm, htab⟩ := hF
  obtain ⟨op, n, x, y, k⟩ := i
  unfold jm_step at z
  unfold jm_chk at hc
  dsimp only at z hc hd
  split at z
  · exact jw_const hx hb hd hc z
  · exact jw_iload hx hb hd hc z
  · exact jw_aload hx hb hd hc z
  · simp only [Bool.and_eq_true, decide_eq_true_eq] at hc
    exact jw_istore hx hb hd hc.1 hc.2 z
  · simp only [Bool.and_eq_true, decide_eq_true_eq] at hc
    exact jw_astore hx hb hd hc.1 hc.2 z
  · simp only [Bool.and_eq_true, decide_eq_true_eq] at hc
    exact jw_iinc hx hb hd hc.1 hc.2 z
  · exact jw_bin hx hb hd hc z
  · exact jw_if hx hb hd hc z
  · exact jw_icmp hx hb hd hc z
  · simp only [Bool.and_eq_true, beq_iff_eq] at hc
    obtain ⟨rfl, hc⟩ := hc
    exact jw_goto hx hb hd hc z
  · exact jw_switch hx hb hd hc z
  · simp only [Bool.and_eq_true, beq_iff_eq, decide_eq_true_eq, Bool.or_eq_true, Bool.not_eq_true'] at hc
    obtain ⟨⟨rfl, hk0⟩, hty⟩ := hc
    obtain ⟨idx, rfl, hk⟩ := jc_gf_spec hk0
    rw [List.contains_iff_mem] at hk
    obtain ⟨q0, w, q1, q2, q3, q4⟩ := hKok _ hk
    rw [hcn] at q4
    exact jw_geti hx hb hK hJ hown q0 q1 q2 q3 q4 hty hd z
  · simp only [Bool.and_eq_true, beq_iff_eq, decide_eq_true_eq, Bool.or_eq_true, Bool.not_eq_true'] at hc
    obtain ⟨⟨rfl, hk0⟩, hty⟩ := hc
    obtain ⟨idx, rfl, hk⟩ := jc_gf_spec hk0
    rw [List.contains_iff_mem] at hk
    obtain ⟨q0, w, q1, q2, q3, q4⟩ := hKok _ hk
    rw [hcn] at q4
    exact jw_getr hx hb hK hJ hown q0 q1 q2 q3 q4 hty hd z
  · simp only [Bool.and_eq_true, beq_iff_eq, decide_eq_true_eq, Bool.or_eq_true, Bool.not_eq_true'] at hc
    obtain ⟨⟨⟨rfl, hk0⟩, hty⟩, hf⟩ := hc
    obtain ⟨idx, rfl, hk⟩ := jc_pf_spec hk0
    rw [List.contains_iff_mem] at hk
    obtain ⟨q0, w, q1, q2, q3, q4⟩ := hKok _ hk
    rw [hcn] at q4
    have hfin : (w.2.1 y).2.2.2 = false ∨ (w.1 = (M mi).1.cls ∧ meth.name = "<init>") := by
      rcases hf with hf | ⟨hf1, hf2⟩
      · left
        unfold jm_fin at hf
        rw [show J.1[x]? = some w from q1] at hf
        exact hf
      · right
        exact ⟨by rw [← hcj x w q0 q1, ← hf2]; exact hcn, by rw [hnm]; exact hci hf1⟩
    exact jw_puti hx hb hK hJ hown q0 q1 q2 q3 q4 hfin hty hd z
  · simp only [Bool.and_eq_true, beq_iff_eq, decide_eq_true_eq, Bool.or_eq_true, Bool.not_eq_true'] at hc
    obtain ⟨⟨⟨rfl, hk0⟩, hty⟩, hf⟩ := hc
    obtain ⟨idx, rfl, hk⟩ := jc_pf_spec hk0
    rw [List.contains_iff_mem] at hk
    obtain ⟨q0, w, q1, q2, q3, q4⟩ := hKok _ hk
    rw [hcn] at q4
    have hfin : (w.2.1 y).2.2.2 = false ∨ (w.1 = (M mi).1.cls ∧ meth.name = "<init>") := by
      rcases hf with hf | ⟨hf1, hf2⟩
      · left
        unfold jm_fin at hf
        rw [show J.1[x]? = some w from q1] at hf
        exact hf
      · right
        exact ⟨by rw [← hcj x w q0 q1, ← hf2]; exact hcn, by rw [hnm]; exact hci hf1⟩
    exact jw_putz hx hb hK hJ hown q0 q1 q2 q3 q4 hfin hty hd z
  · simp only [Bool.and_eq_true, beq_iff_eq, decide_eq_true_eq, Bool.or_eq_true, Bool.not_eq_true'] at hc
    obtain ⟨⟨⟨rfl, hk0⟩, hty⟩, hf⟩ := hc
    obtain ⟨idx, rfl, hk⟩ := jc_pf_spec hk0
    rw [List.contains_iff_mem] at hk
    obtain ⟨q0, w, q1, q2, q3, q4⟩ := hKok _ hk
    rw [hcn] at q4
    have hfin : (w.2.1 y).2.2.2 = false ∨ (w.1 = (M mi).1.cls ∧ meth.name = "<init>") := by
      rcases hf with hf | ⟨hf1, hf2⟩
      · left
        unfold jm_fin at hf
        rw [show J.1[x]? = some w from q1] at hf
        exact hf
      · right
        exact ⟨by rw [← hcj x w q0 q1, ← hf2]; exact hcn, by rw [hnm]; exact hci hf1⟩
    exact jw_putr hx hb hK hJ hown q0 q1 q2 q3 q4 hfin (jm_isR_spec hty) hd z
  · simp only [Bool.and_eq_true, beq_iff_eq, decide_eq_true_eq] at hc
    obtain ⟨rfl, rfl⟩ := hc
    exact jw_iald hx hb hK hd z
  · simp only [Bool.and_eq_true, beq_iff_eq, decide_eq_true_eq] at hc
    obtain ⟨rfl, rfl⟩ := hc
    exact jw_sald' hx hb hK hd z
  · simp only [Bool.and_eq_true, beq_iff_eq, decide_eq_true_eq] at hc
    obtain ⟨rfl, rfl⟩ := hc
    exact jw_iast hx hb hK hd z
  · simp only [Bool.and_eq_true, beq_iff_eq, decide_eq_true_eq] at hc
    obtain ⟨⟨⟨⟨rfl, rfl⟩, h1⟩, h2⟩, h3⟩ := hc
    cases hty : J.2.2.1 x with
    | none => rw [hty] at h3; cases h3
    | some ty => rw [hty] at h3; exact jw_aald hx hb hK hd h1 h2 hty h3 z
  · simp only [Bool.and_eq_true, beq_iff_eq, decide_eq_true_eq] at hc
    obtain ⟨⟨⟨⟨⟨⟨rfl, rfl⟩, h1⟩, h2⟩, h3⟩, h4⟩, h5⟩ := hc
    cases hq : J.1[y]? with
    | none => rw [hq] at h5; cases h5
    | some w =>
      rw [hq] at h5
      simp only [Option.any_some, decide_eq_true_eq] at h5
      exact jw_aast hx hb hK hd h1 h2 h3 h4 hq h5 z
  · simp only [Bool.and_eq_true, beq_iff_eq, decide_eq_true_eq, Bool.or_eq_true] at hc
    obtain ⟨⟨rfl, rfl⟩, h1⟩ := hc
    refine jw_alen hx hb hK hd ?_ z
    rcases h1 with h1 | ⟨⟨h1, h2⟩, h3⟩
    · exact Or.inl h1
    · exact Or.inr ⟨h1, h2, Option.isSome_iff_exists.mp h3⟩
  · simp only [Bool.and_eq_true, beq_iff_eq, decide_eq_true_eq] at hc
    obtain ⟨rfl, rfl⟩ := hc
    exact jw_slen hx hb hK hd z
  · simp only [Bool.and_eq_true, beq_iff_eq, decide_eq_true_eq, Bool.or_eq_true] at hc
    obtain ⟨rfl, hc⟩ := hc
    rcases hc with ⟨rfl, rfl⟩ | ⟨rfl, rfl⟩
    · exact jw_newa hx hb hK (ty := .int) (Or.inl ⟨rfl, rfl, hwI⟩) hcap.1 hcap.2 hd z
    · exact jw_newa hx hb hK (ty := .long) (Or.inr ⟨rfl, rfl, hwL⟩) hcap.1 hcap.2 hd z
  · simp only [Bool.and_eq_true, beq_iff_eq, decide_eq_true_eq, Bool.or_eq_true, Bool.not_eq_true'] at hc
    obtain ⟨rfl, hk0⟩ := hc
    obtain ⟨idx, rfl, hk⟩ := jc_an_spec hk0
    rw [List.contains_iff_mem] at hk
    obtain ⟨⟨q1, q2⟩, C, q3, q4⟩ := hKok _ hk
    rw [hcn] at q4
    exact jw_newq hx hb hK hown q1 q2 q3 q4 hcap.1 hcap.2 hd z
  · simp only [Bool.and_eq_true, beq_iff_eq, decide_eq_true_eq, Bool.or_eq_true, Bool.not_eq_true'] at hc
    obtain ⟨rfl, hk0⟩ := hc
    obtain ⟨idx, rfl, hk⟩ := jc_ma_spec hk0
    rw [List.contains_iff_mem] at hk
    obtain ⟨⟨q1, q2⟩, q3, q4⟩ := hKok _ hk
    rw [hcn] at q4
    exact jw_multi hx hb hK hown q1 q2 q3 q4 hcap.1 hcap.2 hd z
  · simp only [Bool.and_eq_true, beq_iff_eq, decide_eq_true_eq, Bool.or_eq_true, Bool.not_eq_true'] at hc
    obtain ⟨rfl, hk0⟩ := hc
    obtain ⟨idx, rfl, hk⟩ := jc_nw_spec hk0
    rw [List.contains_iff_mem] at hk
    obtain ⟨q0, w, q1, q2, q3, q4, q5, q6⟩ := hKok _ hk
    rw [hcn] at q3
    dsimp only at q2
    subst q2
    exact jw_new hx hb hK hJ hown q0 q1 q3 q4 q5 (fun k hk => jm_dflt G (q6 k hk)) hcap.1 hcap.2 hd z
  · simp only [Bool.and_eq_true, beq_iff_eq, decide_eq_true_eq] at hc
    obtain ⟨rfl, rfl⟩ := hc
    exact jw_dup hx hb hd z
  · simp only [Bool.and_eq_true, beq_iff_eq, decide_eq_true_eq] at hc
    obtain ⟨rfl, rfl⟩ := hc
    exact jw_dup2 hx hb hd z
  · simp only [Bool.and_eq_true, beq_iff_eq, decide_eq_true_eq] at hc
    obtain ⟨rfl, rfl⟩ := hc
    exact jw_pop hx hb hd z
  · simp only [Bool.and_eq_true, beq_iff_eq] at hc
    obtain ⟨rfl, hc⟩ := hc
    simp only [Bool.or_eq_true] at hc
    rcases hc with (hc | hc) | hc
    · obtain ⟨idx, rfl, hk⟩ := jc_iv_spec hc
      rw [List.contains_iff_mem] at hk
      obtain ⟨q0, ⟨w, q1, q2, q3⟩, q4, q5, q6, q7, q8, q9⟩ := hKok _ hk
      rw [hcn] at q5
      exact jw_callV hS hg hx hb hml hK hJ hRm hcap hown q0 q1 q2 q4 q5 q6 q3 q7 q8 q9 hd (hT pc) z
    · obtain ⟨idx, rfl, hk⟩ := jc_is_spec hc
      rw [List.contains_iff_mem] at hk
      obtain ⟨q0, q4, q5, q6, q6', q7, q8, q9⟩ := hKok _ hk
      rw [hcn] at q5
      have z' := z
      rw [show pr.2.2.2.1 x = 0 from q0] at z'
      exact jw_callS hS hg hx hb hml hK hRm hcap hown q4 q5 q6 q6' q7 q8 q9 hd (hT pc) z'
    · obtain ⟨idx, rfl, hk⟩ := jc_ip_spec hc
      rw [List.contains_iff_mem] at hk
      obtain ⟨⟨q0, q1⟩, q2, q3, q4, q5, q6, q7, q8, q9⟩ := hKok _ hk
      rw [hcn] at q5
      exact jw_callI hS hg hx hb hml hK hRm hcap hown q0 q1 q2 q3 q4 q5 q6 q7 q8 q9 hd (hT pc) z
  · simp only [Bool.and_eq_true, beq_iff_eq, decide_eq_true_eq, Bool.or_eq_true, Bool.not_eq_true'] at hc
    obtain ⟨rfl, hk0⟩ := hc
    obtain ⟨idx, rfl, hk⟩ := jc_ip_spec hk0
    rw [List.contains_iff_mem] at hk
    obtain ⟨q1, q2, q3⟩ := hKok _ hk
    rw [hcn] at q1
    exact jw_oinit hx hb hml hK hown q1 q2 q3 hRm.1 hRm.2 hd z
  · simp only [Bool.and_eq_true, beq_iff_eq, decide_eq_true_eq, Bool.or_eq_true, Bool.not_eq_true'] at hc
    obtain ⟨rfl, hk0⟩ := hc
    obtain ⟨idx, rfl, hk⟩ := jc_nw_spec hk0
    rw [List.contains_iff_mem] at hk
    obtain ⟨nm, q1, q2, q3, q4, q5, q6⟩ := hKok _ hk
    rw [hcn] at q4
    exact jw_xnew hx hb hK hown q2 q3 q1 q4 q5 q6 hcap.1 hcap.2 hd z
  · simp only [Bool.and_eq_true, beq_iff_eq, decide_eq_true_eq, Bool.or_eq_true, Bool.not_eq_true'] at hc
    obtain ⟨rfl, hk0⟩ := hc
    obtain ⟨idx, rfl, hk⟩ := jc_ip_spec hk0
    rw [List.contains_iff_mem] at hk
    obtain ⟨cls, names, q1, q2, q3, q4, q5, q6, q7⟩ := hKok _ hk
    rw [hcn] at q7
    exact jw_xinit hx hb hml h0 hl0 hK hown q2 q3 q1 q4 q5 q6 q7 hRm.1 hRm.2 hd z
  · simp only [Bool.and_eq_true, beq_iff_eq, decide_eq_true_eq] at hc
    obtain ⟨rfl, rfl⟩ := hc
    exact jw_athrow hx hb hd (hT pc) z
  · simp only [Bool.and_eq_true, beq_iff_eq, decide_eq_true_eq] at hc
    obtain ⟨⟨rfl, rfl⟩, h1⟩ := hc
    exact jw_iret hx hb (hr.trans h1) hlk hd z
  · simp only [Bool.and_eq_true, beq_iff_eq, decide_eq_true_eq] at hc
    obtain ⟨⟨rfl, rfl⟩, h1⟩ := hc
    exact jw_zret hx hb (hr.trans h1) hlk hd z
  · simp only [Bool.and_eq_true, beq_iff_eq, decide_eq_true_eq] at hc
    obtain ⟨⟨rfl, rfl⟩, h1⟩ := hc
    exact jw_vret hx hb (hr.trans h1) hlk hd z
  · cases hc
  · simp only [Bool.and_eq_true, beq_iff_eq, decide_eq_true_eq] at hc
    obtain ⟨rfl, rfl⟩ := hc
    exact jw_i2l hx hb hd z
  · simp only [Bool.and_eq_true, beq_iff_eq, decide_eq_true_eq] at hc
    obtain ⟨rfl, rfl⟩ := hc
    exact jw_lald hx hb hK hd z
  · simp only [Bool.and_eq_true, beq_iff_eq, decide_eq_true_eq] at hc
    obtain ⟨rfl, rfl⟩ := hc
    exact jw_last hx hb hK hd z
  · simp only [Bool.and_eq_true, beq_iff_eq, decide_eq_true_eq] at hc
    obtain ⟨rfl, rfl⟩ := hc
    exact jw_lcmp hx hb hd z
  · simp only [Bool.and_eq_true, beq_iff_eq, decide_eq_true_eq, Bool.or_eq_true, Bool.not_eq_true'] at hc
    obtain ⟨rfl, hk0⟩ := hc
    obtain ⟨idx, rfl, hk⟩ := jc_is_spec hk0
    rw [List.contains_iff_mem] at hk
    obtain ⟨q1, q2, q3, q4⟩ := hKok _ hk
    rw [hcn] at q1
    exact jw_max hx hb hml hK hown q1 q2 q3 q4 hRm.1 hRm.2 hd z
  · cases hc
  · simp only [Bool.and_eq_true, beq_iff_eq, decide_eq_true_eq, Bool.or_eq_true, Bool.not_eq_true'] at hc
    obtain ⟨rfl, hk0⟩ := hc
    obtain ⟨idx, rfl, hk⟩ := jc_is_spec hk0
    rw [List.contains_iff_mem] at hk
    obtain ⟨q1, q2, q3, q4⟩ := hKok _ hk
    rw [hcn] at q1
    exact jw_copy hx hb hml hK hown q1 q2 q3 q4 hRm.1 hRm.2 hd z
  · simp only [Bool.and_eq_true, beq_iff_eq, decide_eq_true_eq] at hc
    obtain ⟨rfl, rfl⟩ := hc
    exact jw_irem hx hb hd z
  · simp only [Bool.and_eq_true, beq_iff_eq, decide_eq_true_eq] at hc
    obtain ⟨rfl, rfl⟩ := hc
    exact jw_dupx1 hx hb hd z
  · exact z.elim
/-- **the abstract machine is sound** -/
theorem jm_sound {p : Program} {l : Launch} {e : Env} {G : jm_G} {J : jm_J} {Wg : List Cond} {M : jm_M} {pr : jm_Pr} {cn : Nat → String} {K : jm_K5} {oc : Nat → Nat} {ini : Nat → Bool} {ct : Nat → Nat → Nat → Bool}
    (hg : ∀ w ∈ Wg, jm_goodW w = true) (hJ : jg_J J Wg) (h0 : jg_0 G) (hl0 : l.stackTraces = false) (hKok : ∀ q ∈ K, jm_kok cn J Wg M pr.2.2.1 pr.2.2.2.1 q) (hcn : ∀ mi, cn (oc mi) = (M mi).1.cls) (hci : ∀ mi, ini mi = true → (M mi).1.name = "<init>")
    (hcj : ∀ t q, 0 < t → J.1[t]? = some q → cn t = q.1) (hwI : Cond.arrayClass .int ∈ Wg) (hwL : Cond.arrayClass .long ∈ Wg)
    (hcode : ∀ mi q, q ∈ pr.1 mi → ∃ ins, decode (M mi).2.1 q.1 = .ok (ins, q.2.2.1) ∧ jm_chk K J pr.2.2.2.2.1 (oc mi) (pr.2.2.1 mi) (ini mi) (M mi).2.2.1 q.1 ins q.2 = true)
    (hhd : ∀ mi, pr.2.1 mi = jm_hf (ct mi) (M mi).2.2.2)
    (hC : ∀ mi, ∀ q ∈ (M mi).2.2.2, q.2.2.2 ≠ 0 ∧ ∃ C, Cond.classLink (M mi).1.cls q.2.2.2 C ∈ Wg ∧ ∀ t nm, J.2.2.2 t = some nm → ∃ c c', G.2.2.2.2.2.2.2.2.vm.findClass nm = some c ∧ G.2.2.2.2.2.2.2.2.vm.findClass C = some c' ∧ G.2.2.2.2.2.2.2.2.vm.assignable c c' = ct mi q.2.2.2 (t + 1)) :
    ∀ d, jg_Snd G J Wg M pr.2.2.1 pr.2.2.2.2.2.2.2 pr.2.2.2.2.2.1 pr.2.2.2.2.2.2.1 p l e (jm_E pr d)
  | 0 => fun _ _ _ _ hE => hE.elim
  | d + 1 => by
    have hS := jm_sound (p := p) (l := l) (e := e) (pr := pr) (cn := cn) (K := K) (oc := oc) (ini := ini) (ct := ct) hg hJ h0 hl0 hKok hcn hci hcj hwI hwL hcode hhd hC d
    intro mi as h Q hE hc1 R s m below meth cd hF hK hRm hcap H hR hsH
    obtain ⟨hlen, hP⟩ := hE
    obtain ⟨arr, he, hLs⟩ := jg_Ls.entry (G := G) (n := pr.2.2.1 mi) hlen hc1 m
    rw [he]
    have key := hP (jg_P p l e R s m (as.map (jg_mv G)).toArray below meth cd G J (pr.2.2.1 mi) h.1 h.2.1 Q) (by
      rintro ⟨pc, ls, st, h'⟩ hc
      unfold jm_S at hc
      split at hc
      · rename_i i hi
        obtain ⟨ins, hd, hchk⟩ := hcode mi _ (jm_lookup_mem _ hi)
        exact jm_close (cn := cn) (oc := oc mi) (ini := ini mi) hS hg hJ h0 hl0 hKok (hcn mi) (hci mi) hcj hwI hwL hF hK hRm hcap (fun pc => by rw [hhd mi]; exact jw_T hF hK (hC mi)) hd hchk hc
      · exact hc.elim)
    have w := key H [] arr hR ⟨Nat.le_refl _, Nat.le_refl _, by show h.1 ≤ R.cells + h.1; omega, by show h.2.1 ≤ R.slots + h.2.1; omega⟩ (fun q hq => by cases hq) hLs
    have w' : W p l e R s m (as.map (jg_mv G)).toArray below meth cd H [] (h.1 - h.1) (h.2.1 - h.2.1) (jg_Z G J R s below h.1 h.2.1 Q) (F0 m 0 arr []) := w
    rw [Nat.sub_self, Nat.sub_self] at w'
    exact w'
end
section
/-! The checks as programs. -/
def jm_cb (K : jm_K5) (J : jm_J) (sw : Nat → List (Int32 × Nat) × Nat) (bs : ByteArray) (oc nL : Nat) (ini : Bool) (ret : Option FieldType) (q : Nat × jm_In) : Bool := match decode bs q.1 with
  | .ok r => r.2 == q.2.2.1 && jm_chk K J sw oc nL ini ret q.1 r.1 q.2
  | .error _ => false
theorem jm_cb_spec {K : jm_K5} {J : jm_J} {sw : Nat → List (Int32 × Nat) × Nat} {bs : ByteArray} {oc nL : Nat} {ini : Bool} {ret : Option FieldType} {q : Nat × jm_In} (h : jm_cb K J sw bs oc nL ini ret q = true) : ∃ ins, decode bs q.1 = .ok (ins, q.2.2.1) ∧ jm_chk K J sw oc nL ini ret q.1 ins q.2 = true := by
  unfold jm_cb at h
  split at h
  · rename_i r hr
    simp only [Bool.and_eq_true, beq_iff_eq] at h
    refine ⟨r.1, ?_, h.2⟩
    rw [hr, ← h.1]
  · cases h
def jg_cwb (M : jm_M) (nl : Nat → Nat) (inW : Cond → Bool) (x : Nat) : Bool := ((M x).2.2.2.isEmpty && inW (.code (M x).1 (M x).2.1 (nl x) (M x).2.2.1)) || inW (.codeWith (M x).1 (M x).2.1 (nl x) (M x).2.2.1 (M x).2.2.2)
theorem jg_cwb_spec {M : jm_M} {nl : Nat → Nat} {inW : Cond → Bool} {Wg : List Cond} (hW : ∀ w, inW w = true → w ∈ Wg) {x : Nat} (h : jg_cwb M nl inW x = true) : jg_cw M nl Wg x := by
  unfold jg_cwb at h
  simp only [Bool.or_eq_true, Bool.and_eq_true, List.isEmpty_iff] at h
  rcases h with ⟨h1, h2⟩ | h
  · exact Or.inl ⟨h1, hW _ h2⟩
  · exact Or.inr (hW _ h)
def jm_okc (y : MethodName) : Bool := decide (y.cls ≠ "java/lang/invoke/MethodHandle") && decide (y.cls ≠ "java/lang/invoke/VarHandle") && plainFor y
/-- names above an exception, up to Throwable's -/
def jm_up2 : List String := ["java/lang/RuntimeException", "java/lang/Exception"]
def jm_kb (cn : Nat → String) (J : jm_J) (inW inS : Cond → Bool) (M : jm_M) (nl rc : Nat → Nat) (q : Nat × Nat × Nat × Nat × Nat) : Bool := match q.2.2.1 with
  | 1 => decide (0 < q.2.2.2.1) && (J.1[q.2.2.2.1]?).any (fun w => decide (q.2.2.2.2 < w.2.2) && decide ((w.2.1 q.2.2.2.2).1 = w.1) && inW (.fieldLink (cn q.1) q.2.1 w.1 (w.2.1 q.2.2.2.2).2.1 (w.2.1 q.2.2.2.2).2.2.1))
  | 2 => decide (0 < rc q.2.2.2.1) && (J.1[rc q.2.2.2.1]?).any (fun w => decide (w.1 = (M q.2.2.2.1).1.cls) && inW (.selects w.1 (M q.2.2.2.1).1 (M q.2.2.2.1).1)) && jg_cwb M nl inW q.2.2.2.1 && inW (.methodLink (cn q.1) q.2.1 (M q.2.2.2.1).1) && inW (.instanceMethod (M q.2.2.2.1).1) && jm_okc (M q.2.2.2.1).1 && decide ((parseMethodDescriptor (M q.2.2.2.1).1.desc).map (fun d => d.parameters.length + 1) = some q.2.2.2.2)
  | 3 => decide (rc q.2.2.2.1 = 0) && jg_cwb M nl inW q.2.2.2.1 && inW (.methodLink (cn q.1) q.2.1 (M q.2.2.2.1).1) && inW (.static (M q.2.2.2.1).1) && inW (.initialized (M q.2.2.2.1).1.cls) && jm_okc (M q.2.2.2.1).1 && decide ((parseMethodDescriptor (M q.2.2.2.1).1.desc).map (fun d => d.parameters.length) = some q.2.2.2.2)
  | 4 => decide (0 < rc q.2.2.2.1) && decide (rc q.2.2.2.1 < 60) && decide ((M q.2.2.2.1).1.name = "<init>") && inW (.code (M q.2.2.2.1).1 (M q.2.2.2.1).2.1 (nl q.2.2.2.1) none) && jg_cwb M nl inW q.2.2.2.1 && inW (.methodLink (cn q.1) q.2.1 (M q.2.2.2.1).1) && inW (.instanceMethod (M q.2.2.2.1).1) && jm_okc (M q.2.2.2.1).1 && decide ((parseMethodDescriptor (M q.2.2.2.1).1.desc).map (fun d => d.parameters.length + 1) = some q.2.2.2.2)
  | 5 => decide (0 < q.2.2.2.1) && (J.1[q.2.2.2.1]?).any (fun w => decide (q.2.2.2.2 = w.2.2) && inW (.classLink (cn q.1) q.2.1 w.1) && inW (.instantiable w.1 w.2.2) && inW (.initialized w.1) && (List.range w.2.2).all (fun k => jm_isI (J.2.1 q.2.2.2.1 k) || jm_isR (J.2.1 q.2.2.2.1 k)))
  | 6 => decide (60 ≤ q.2.2.2.1) && decide (q.2.2.2.1 < 99) && (match J.2.2.1 q.2.2.2.1 with | some (.object C) => inW (.classLink (cn q.1) q.2.1 C) | _ => false)
  | 7 => (J.2.2.2 q.2.2.2.1).any (fun nm => decide (200 ≤ q.2.2.2.1) && decide (q.2.2.2.1 % 2 = 0) && inW (.classLink (cn q.1) q.2.1 nm) && inW (.instantiable nm 6) && inW (.initialized nm))
  | 8 => (J.2.2.2 q.2.2.2.1).any (fun nm => decide (200 ≤ q.2.2.2.1) && decide (q.2.2.2.1 % 2 = 0) && Bundle.fit nm && (Bundle.ownAtoms0 (cn q.1) q.2.1 nm jm_up2).all (fun a => inW a || inS a))
  | 9 => inW (.methodLink (cn q.1) q.2.1 objectInit) && inW (.instanceMethod objectInit) && inW (.code objectInit ⟨#[0xb1]⟩ 1 none)
  | 10 => inW (.methodLink (cn q.1) q.2.1 Lib.Math.max.name) && inW (.static Lib.Math.max.name) && inW (.initialized "java/lang/Math") && inW (.code Lib.Math.max.name Lib.Math.max.code 2 (some .int))
  | 12 => inW (.methodLink (cn q.1) q.2.1 arraycopyName) && inW (.native arraycopyName) && inW (.static arraycopyName) && inW (.initialized "java/lang/System")
  | 13 => decide (60 ≤ q.2.2.2.1) && decide (q.2.2.2.1 < 99) && decide (J.2.2.1 q.2.2.2.1 = some (.array .int)) && inW (.classLink (cn q.1) q.2.1 "[[I")
  | _ => true
theorem jm_up2_fit : ∀ n ∈ jm_up2, Bundle.fit n = true := by decide +kernel
theorem jm_okc_spec {y : MethodName} (h : jm_okc y = true) : (y.cls ≠ "java/lang/invoke/MethodHandle" ∧ y.cls ≠ "java/lang/invoke/VarHandle") ∧ plainFor y = true := by
  unfold jm_okc at h
  simp only [Bool.and_eq_true, decide_eq_true_eq] at h
  exact h
theorem jm_kb_spec {cn : Nat → String} {J : jm_J} {inW inS : Cond → Bool} {M : jm_M} {nl rc : Nat → Nat} {Wg : List Cond} (hW : ∀ w, inW w = true → w ∈ Wg) (hS : ∀ w, inS w = true → w ∈ jx_st) {q : Nat × Nat × Nat × Nat × Nat} (h : jm_kb cn J inW inS M nl rc q = true) : jm_kok cn J Wg M nl rc q := by
  obtain ⟨o, idx, code, x, y⟩ := q
  unfold jm_kb at h
  unfold jm_kok
  dsimp only at h ⊢
  split at h
  · simp only [Bool.and_eq_true, decide_eq_true_eq, Option.any_eq_true] at h
    obtain ⟨h0, w, h1, ⟨h2, h3⟩, h4⟩ := h
    exact ⟨h0, w, h1, h2, h3, hW _ h4⟩
  · simp only [Bool.and_eq_true, decide_eq_true_eq, Option.any_eq_true] at h
    obtain ⟨⟨⟨⟨⟨⟨h0, w, h1, h2, h3⟩, h4⟩, h5⟩, h6⟩, h7⟩, h8⟩ := h
    exact ⟨h0, ⟨w, h1, h2, hW _ h3⟩, jg_cwb_spec hW h4, hW _ h5, hW _ h6, (jm_okc_spec h7).1, (jm_okc_spec h7).2, h8⟩
  · simp only [Bool.and_eq_true, decide_eq_true_eq] at h
    obtain ⟨⟨⟨⟨⟨⟨h0, h4⟩, h5⟩, h6⟩, h6'⟩, h7⟩, h8⟩ := h
    exact ⟨h0, jg_cwb_spec hW h4, hW _ h5, hW _ h6, hW _ h6', (jm_okc_spec h7).1, (jm_okc_spec h7).2, h8⟩
  · simp only [Bool.and_eq_true, decide_eq_true_eq] at h
    obtain ⟨⟨⟨⟨⟨⟨⟨⟨h0, h0'⟩, h1⟩, h2⟩, h4⟩, h5⟩, h6⟩, h7⟩, h8⟩ := h
    exact ⟨⟨h0, h0'⟩, h1, hW _ h2, jg_cwb_spec hW h4, hW _ h5, hW _ h6, (jm_okc_spec h7).1, (jm_okc_spec h7).2, h8⟩
  · simp only [Bool.and_eq_true, decide_eq_true_eq, Option.any_eq_true, List.all_eq_true, Bool.or_eq_true, List.mem_range] at h
    obtain ⟨h0, w, h1, ⟨⟨⟨h2, h3⟩, h4⟩, h5⟩, h6⟩ := h
    exact ⟨h0, w, h1, h2, hW _ h3, hW _ h4, hW _ h5, h6⟩
  · simp only [Bool.and_eq_true, decide_eq_true_eq] at h
    obtain ⟨⟨h0, h1⟩, h2⟩ := h
    refine ⟨⟨h0, h1⟩, ?_⟩
    split at h2
    · rename_i C hC
      exact ⟨C, hC, hW _ h2⟩
    · cases h2
  · simp only [Bool.and_eq_true, decide_eq_true_eq, Option.any_eq_true] at h
    obtain ⟨nm, h1, ⟨⟨⟨h2, h3⟩, h4⟩, h5⟩, h6⟩ := h
    exact ⟨nm, h1, h2, h3, hW _ h4, hW _ h5, hW _ h6⟩
  · simp only [Bool.and_eq_true, decide_eq_true_eq, Option.any_eq_true, List.all_eq_true, Bool.or_eq_true] at h
    obtain ⟨nm, h1, ⟨⟨h2, h3⟩, h4⟩, h5⟩ := h
    exact ⟨nm, jm_up2, h1, h2, h3, h4, jm_up2_fit, rfl, fun a ha => (h5 a ha).imp (hW a) (hS a)⟩
  · simp only [Bool.and_eq_true] at h
    exact ⟨hW _ h.1.1, hW _ h.1.2, hW _ h.2⟩
  · simp only [Bool.and_eq_true] at h
    exact ⟨hW _ h.1.1.1, hW _ h.1.1.2, hW _ h.1.2, hW _ h.2⟩
  · simp only [Bool.and_eq_true] at h
    exact ⟨hW _ h.1.1.1, hW _ h.1.1.2, hW _ h.1.2, hW _ h.2⟩
  · simp only [Bool.and_eq_true, decide_eq_true_eq] at h
    exact ⟨⟨h.1.1.1, h.1.1.2⟩, h.1.2, hW _ h.2⟩
  · rename_i n1 n2 n3 n4 n5 n6 n7 n8 n9 n10 n11 n12
    split
    all_goals first | exact absurd rfl (by assumption) | trivial
/-- all methods' codes pass -/
def jm_allc (f : Nat → (Nat × jm_In) → Bool) : Nat → List (List (Nat × jm_In)) → Prop
  | _, [] => True
  | a, l :: r => l.all (f a) = true ∧ jm_allc f (a + 1) r
theorem jm_allc_spec {f : Nat → (Nat × jm_In) → Bool} : ∀ (L : List (List (Nat × jm_In))) (a : Nat), jm_allc f a L → ∀ i, ∀ q ∈ L.getD i [], f (a + i) q = true
  | [], _, _, i, q, hq => by simp at hq
  | l :: r, a, h, 0, q, hq => by
    have := List.all_eq_true.mp h.1 q (by simpa using hq)
    simpa using this
  | l :: r, a, h, i + 1, q, hq => by
    have := jm_allc_spec r (a + 1) h.2 i q (by simpa using hq)
    rwa [show a + (i + 1) = a + 1 + i by omega]
end
section
/-! The program, for the abstract machine: classes, methods, links. Written by program from the listing. -/
def dh_T1 : u_T := fun k => match k with
  | 0 => ("DeltaHistory", "deskText", "LDeltaHistory$Text;", true)
  | 1 => ("DeltaHistory", "typed", "LDeltaHistory$Text;", true)
  | 2 => ("DeltaHistory", "empty", "LDeltaHistory$Text;", true)
  | 3 => ("DeltaHistory", "compared", "LDeltaHistory$Delta;", true)
  | 4 => ("DeltaHistory", "file", "LDeltaHistory$Bytes;", true)
  | 5 => ("DeltaHistory", "fileAside", "LDeltaHistory$Bytes;", true)
  | 6 => ("DeltaHistory", "draft", "LDeltaHistory$Bytes;", true)
  | 7 => ("DeltaHistory", "writer", "LDeltaHistory$Writer;", true)
  | 8 => ("DeltaHistory", "reader", "LDeltaHistory$Reader;", true)
  | 9 => ("DeltaHistory", "current", "LDeltaHistory$History;", false)
  | 10 => ("DeltaHistory", "planned", "LDeltaHistory$History;", false)
  | _ => ("DeltaHistory", "crash", "I", false)
def dh_T2 : u_T := fun k => match k with
  | 0 => ("DeltaHistoryModel", "code", "I", false)
  | 1 => ("DeltaHistoryModel", "count", "I", false)
  | 2 => ("DeltaHistoryModel", "parent", "[I", true)
  | 3 => ("DeltaHistoryModel", "owner", "[I", true)
  | 4 => ("DeltaHistoryModel", "locked", "[I", true)
  | 5 => ("DeltaHistoryModel", "length", "[I", true)
  | 6 => ("DeltaHistoryModel", "text", "[I", true)
  | 7 => ("DeltaHistoryModel", "nameSize", "[I", true)
  | 8 => ("DeltaHistoryModel", "names", "[I", true)
  | 9 => ("DeltaHistoryModel", "desk", "[I", true)
  | 10 => ("DeltaHistoryModel", "deskSize", "I", false)
  | 11 => ("DeltaHistoryModel", "fileSize", "I", false)
  | 12 => ("DeltaHistoryModel", "file", "[I", true)
  | 13 => ("DeltaHistoryModel", "asideSize", "I", false)
  | 14 => ("DeltaHistoryModel", "aside", "[I", true)
  | 15 => ("DeltaHistoryModel", "crash", "I", false)
  | 16 => ("DeltaHistoryModel", "firstSize", "I", false)
  | 17 => ("DeltaHistoryModel", "first", "[I", true)
  | 18 => ("DeltaHistoryModel", "secondSize", "I", false)
  | 19 => ("DeltaHistoryModel", "second", "[I", true)
  | 20 => ("DeltaHistoryModel", "common", "[I", true)
  | 21 => ("DeltaHistoryModel", "steps", "I", false)
  | 22 => ("DeltaHistoryModel", "kind", "[I", true)
  | 23 => ("DeltaHistoryModel", "from", "[I", true)
  | 24 => ("DeltaHistoryModel", "many", "[I", true)
  | 25 => ("DeltaHistoryModel", "lineAt", "[I", true)
  | 26 => ("DeltaHistoryModel", "shownSteps", "I", false)
  | 27 => ("DeltaHistoryModel", "shownKind", "[I", true)
  | 28 => ("DeltaHistoryModel", "shownFrom", "[I", true)
  | 29 => ("DeltaHistoryModel", "shownMany", "[I", true)
  | 30 => ("DeltaHistoryModel", "shownAt", "[I", true)
  | 31 => ("DeltaHistoryModel", "shownText", "[I", true)
  | 32 => ("DeltaHistoryModel", "drafted", "I", false)
  | 33 => ("DeltaHistoryModel", "draft", "[I", true)
  | 34 => ("DeltaHistoryModel", "part", "[I", true)
  | 35 => ("DeltaHistoryModel", "place", "I", false)
  | 36 => ("DeltaHistoryModel", "good", "Z", false)
  | 37 => ("DeltaHistoryModel", "keptCount", "I", false)
  | 38 => ("DeltaHistoryModel", "keptParent", "[I", true)
  | 39 => ("DeltaHistoryModel", "keptOwner", "[I", true)
  | 40 => ("DeltaHistoryModel", "keptLocked", "[I", true)
  | 41 => ("DeltaHistoryModel", "keptLength", "[I", true)
  | _ => ("DeltaHistoryModel", "keptText", "[I", true)
def dh_T3 : u_T := fun k => match k with
  | 0 => ("DeltaHistory$Bytes", "row", "[I", true)
  | 1 => ("DeltaHistory$Bytes", "count", "I", false)
  | _ => ("DeltaHistory$Bytes", "position", "I", false)
def dh_T4 : u_T := fun k => match k with
  | 0 => ("DeltaHistory$Delta", "kind", "[I", true)
  | 1 => ("DeltaHistory$Delta", "place", "[I", true)
  | 2 => ("DeltaHistory$Delta", "many", "[I", true)
  | 3 => ("DeltaHistory$Delta", "firstAdded", "[I", true)
  | 4 => ("DeltaHistory$Delta", "added", "[I", true)
  | 5 => ("DeltaHistory$Delta", "common", "[[I", true)
  | 6 => ("DeltaHistory$Delta", "steps", "I", false)
  | 7 => ("DeltaHistory$Delta", "addedCount", "I", false)
  | _ => ("DeltaHistory$Delta", "stepIsOpen", "Z", false)
def dh_T5 : u_T := fun k => match k with
  | 0 => ("DeltaHistory$History", "all", "[LDeltaHistory$Revision;", true)
  | _ => ("DeltaHistory$History", "count", "I", false)
def dh_T6 : u_T := fun k => match k with
  | _ => ("DeltaHistory$Reader", "bodyStart", "[I", true)
def dh_T7 : u_T := fun k => match k with
  | 0 => ("DeltaHistory$Revision", "text", "LDeltaHistory$Text;", true)
  | 1 => ("DeltaHistory$Revision", "parent", "I", false)
  | 2 => ("DeltaHistory$Revision", "user", "I", false)
  | 3 => ("DeltaHistory$Revision", "lock", "I", false)
  | 4 => ("DeltaHistory$Revision", "next", "I", false)
  | 5 => ("DeltaHistory$Revision", "branches", "I", false)
  | 6 => ("DeltaHistory$Revision", "fork", "I", false)
  | 7 => ("DeltaHistory$Revision", "branch", "I", false)
  | 8 => ("DeltaHistory$Revision", "place", "I", false)
  | _ => ("DeltaHistory$Revision", "nameLength", "I", false)
def dh_T8 : u_T := fun k => match k with
  | 0 => ("DeltaHistory$Text", "row", "[I", true)
  | _ => ("DeltaHistory$Text", "count", "I", false)
def dh_T9 : u_T := fun k => match k with
  | _ => ("DeltaHistory$Writer", "delta", "LDeltaHistory$Delta;", true)
def dh_cl : List vw_C := [("", (fun _ => ("", "", "", false)), 0), ("DeltaHistory", dh_T1, 12), ("DeltaHistoryModel", dh_T2, 43), ("DeltaHistory$Bytes", dh_T3, 3), ("DeltaHistory$Delta", dh_T4, 9), ("DeltaHistory$History", dh_T5, 2), ("DeltaHistory$Reader", dh_T6, 1), ("DeltaHistory$Revision", dh_T7, 10), ("DeltaHistory$Text", dh_T8, 2), ("DeltaHistory$Writer", dh_T9, 1)]
def dh_tys : List (List FieldType) := [[], [(FieldType.object "DeltaHistory$Text"), (FieldType.object "DeltaHistory$Text"), (FieldType.object "DeltaHistory$Text"), (FieldType.object "DeltaHistory$Delta"), (FieldType.object "DeltaHistory$Bytes"), (FieldType.object "DeltaHistory$Bytes"), (FieldType.object "DeltaHistory$Bytes"), (FieldType.object "DeltaHistory$Writer"), (FieldType.object "DeltaHistory$Reader"), (FieldType.object "DeltaHistory$History"), (FieldType.object "DeltaHistory$History"), FieldType.int], [FieldType.int, FieldType.int, (FieldType.array .int), (FieldType.array .int), (FieldType.array .int), (FieldType.array .int), (FieldType.array .int), (FieldType.array .int), (FieldType.array .int), (FieldType.array .int), FieldType.int, FieldType.int, (FieldType.array .int), FieldType.int, (FieldType.array .int), FieldType.int, FieldType.int, (FieldType.array .int), FieldType.int, (FieldType.array .int), (FieldType.array .int), FieldType.int, (FieldType.array .int), (FieldType.array .int), (FieldType.array .int), (FieldType.array .int), FieldType.int, (FieldType.array .int), (FieldType.array .int), (FieldType.array .int), (FieldType.array .int), (FieldType.array .int), FieldType.int, (FieldType.array .int), (FieldType.array .int), FieldType.int, FieldType.boolean, FieldType.int, (FieldType.array .int), (FieldType.array .int), (FieldType.array .int), (FieldType.array .int), (FieldType.array .int)], [(FieldType.array .int), FieldType.int, FieldType.int], [(FieldType.array .int), (FieldType.array .int), (FieldType.array .int), (FieldType.array .int), (FieldType.array .int), (FieldType.array (FieldType.array .int)), FieldType.int, FieldType.int, FieldType.boolean], [(FieldType.array (FieldType.object "DeltaHistory$Revision")), FieldType.int], [(FieldType.array .int)], [(FieldType.object "DeltaHistory$Text"), FieldType.int, FieldType.int, FieldType.int, FieldType.int, FieldType.int, FieldType.int, FieldType.int, FieldType.int, FieldType.int], [(FieldType.array .int), FieldType.int], [(FieldType.object "DeltaHistory$Delta")]]
def dh_ty (t k : Nat) : FieldType := (dh_tys.getD t []).getD k .int
def dh_aq (t : Nat) : Option FieldType := if t = 61 then some (.array .int) else if t = 69 then some (.object "DeltaHistory$Revision") else none
def dh_ex (t : Nat) : Option String := if t = 200 then some "java/lang/IndexOutOfBoundsException" else if t = 202 then some "java/lang/IllegalStateException" else if t = 204 then some "java/lang/UnsupportedOperationException" else if t = 206 then some "java/lang/IllegalArgumentException" else none
def dh_J : jm_J := (dh_cl, dh_ty, dh_aq, dh_ex)
def dh_cn (t : Nat) : String := if t = 59 then "DeltaHistoryLaw" else ((dh_cl[t]?).map (fun q => q.1)).getD ""
def dh_Ms : List (MethodName × ByteArray × Option FieldType × List (Nat × Nat × Nat × Nat)) := [
  (⟨"DeltaHistory", "<init>", "()V"⟩, prog_1_method_1_code, none, []),
  (⟨"DeltaHistory", "desk", "(III)Z"⟩, prog_1_method_2_code, some .boolean, []),
  (⟨"DeltaHistory", "insert", "(II)Z"⟩, prog_1_method_3_code, some .boolean, []),
  (⟨"DeltaHistory", "remove", "(I)I"⟩, prog_1_method_4_code, some .int, []),
  (⟨"DeltaHistory", "lines", "()I"⟩, prog_1_method_5_code, some .int, []),
  (⟨"DeltaHistory", "line", "(I)I"⟩, prog_1_method_6_code, some .int, []),
  (⟨"DeltaHistory", "lock", "(II)I"⟩, prog_1_method_7_code, some .int, []),
  (⟨"DeltaHistory", "unlock", "(II)I"⟩, prog_1_method_8_code, some .int, []),
  (⟨"DeltaHistory", "checkIn", "(II)I"⟩, prog_1_method_9_code, some .int, []),
  (⟨"DeltaHistory", "checkOut", "(I)I"⟩, prog_1_method_10_code, some .int, []),
  (⟨"DeltaHistory", "crashAfter", "(I)Z"⟩, prog_1_method_11_code, some .boolean, []),
  (⟨"DeltaHistory", "corrupt", "(II)V"⟩, prog_1_method_12_code, none, []),
  (⟨"DeltaHistory", "load", "()I"⟩, prog_1_method_13_code, some .int, []),
  (⟨"DeltaHistory", "revisions", "()I"⟩, prog_1_method_14_code, some .int, []),
  (⟨"DeltaHistory", "about", "(II)I"⟩, prog_1_method_15_code, some .int, []),
  (⟨"DeltaHistory", "name", "(II)I"⟩, prog_1_method_16_code, some .int, []),
  (⟨"DeltaHistory", "root", "(II)I"⟩, prog_1_method_17_code, some .int, []),
  (⟨"DeltaHistory", "compare", "(I)I"⟩, prog_1_method_18_code, some .int, []),
  (⟨"DeltaHistory", "step", "(II)I"⟩, prog_1_method_19_code, some .int, []),
  (⟨"DeltaHistory", "size", "(Z)I"⟩, prog_1_method_20_code, some .int, []),
  (⟨"DeltaHistory", "at", "(IZ)I"⟩, prog_1_method_21_code, some .int, []),
  (⟨"DeltaHistory", "requireUser", "(I)V"⟩, prog_1_method_22_code, none, []),
  (⟨"DeltaHistory", "requireRevision", "(I)V"⟩, prog_1_method_23_code, none, []),
  (⟨"DeltaHistory", "requireLock", "(II)V"⟩, prog_1_method_24_code, none, []),
  (⟨"DeltaHistory", "changeLock", "(II)I"⟩, prog_1_method_25_code, some .int, []),
  (⟨"DeltaHistory", "carryOut", "(I)I"⟩, prog_1_method_26_code, some .int, []),
  (⟨"DeltaHistory", "takePlanned", "()V"⟩, prog_1_method_27_code, none, []),
  (⟨"DeltaHistoryModel", "<init>", "()V"⟩, prog_10_method_1_code, none, []),
  (⟨"DeltaHistoryModel", "thrown", "()I"⟩, prog_10_method_2_code, some .int, []),
  (⟨"DeltaHistoryModel", "isLine", "(I)Z"⟩, prog_10_method_3_code, some .boolean, []),
  (⟨"DeltaHistoryModel", "byteOf", "(IIII)I"⟩, prog_10_method_4_code, some .int, []),
  (⟨"DeltaHistoryModel", "desk", "(III)Z"⟩, prog_10_method_5_code, some .boolean, []),
  (⟨"DeltaHistoryModel", "insert", "(II)Z"⟩, prog_10_method_6_code, some .boolean, []),
  (⟨"DeltaHistoryModel", "remove", "(I)I"⟩, prog_10_method_7_code, some .int, []),
  (⟨"DeltaHistoryModel", "lines", "()I"⟩, prog_10_method_8_code, some .int, []),
  (⟨"DeltaHistoryModel", "line", "(I)I"⟩, prog_10_method_9_code, some .int, []),
  (⟨"DeltaHistoryModel", "nextOf", "(I)I"⟩, prog_10_method_10_code, some .int, []),
  (⟨"DeltaHistoryModel", "onTrunk", "(I)Z"⟩, prog_10_method_11_code, some .boolean, []),
  (⟨"DeltaHistoryModel", "head", "()I"⟩, prog_10_method_12_code, some .int, []),
  (⟨"DeltaHistoryModel", "branch", "(I)I"⟩, prog_10_method_13_code, some .int, []),
  (⟨"DeltaHistoryModel", "nameIt", "(I)V"⟩, prog_10_method_14_code, none, []),
  (⟨"DeltaHistoryModel", "firstIs", "(I)V"⟩, prog_10_method_15_code, none, []),
  (⟨"DeltaHistoryModel", "secondIs", "(I)V"⟩, prog_10_method_16_code, none, []),
  (⟨"DeltaHistoryModel", "findCommon", "()V"⟩, prog_10_method_17_code, none, []),
  (⟨"DeltaHistoryModel", "note", "(IIIZ)V"⟩, prog_10_method_18_code, none, []),
  (⟨"DeltaHistoryModel", "makeDelta", "()V"⟩, prog_10_method_19_code, none, []),
  (⟨"DeltaHistoryModel", "put", "(I)V"⟩, prog_10_method_20_code, none, []),
  (⟨"DeltaHistoryModel", "putDelta", "()V"⟩, prog_10_method_21_code, none, []),
  (⟨"DeltaHistoryModel", "write", "()V"⟩, prog_10_method_22_code, none, []),
  (⟨"DeltaHistoryModel", "isCut", "()Z"⟩, prog_10_method_23_code, some .boolean, []),
  (⟨"DeltaHistoryModel", "putAside", "()V"⟩, prog_10_method_24_code, none, []),
  (⟨"DeltaHistoryModel", "replace", "()Z"⟩, prog_10_method_25_code, some .boolean, []),
  (⟨"DeltaHistoryModel", "noUser", "(I)Z"⟩, prog_10_method_26_code, some .boolean, []),
  (⟨"DeltaHistoryModel", "noRevision", "(I)Z"⟩, prog_10_method_27_code, some .boolean, []),
  (⟨"DeltaHistoryModel", "setLock", "(II)I"⟩, prog_10_method_28_code, some .int, []),
  (⟨"DeltaHistoryModel", "lock", "(II)I"⟩, prog_10_method_29_code, some .int, []),
  (⟨"DeltaHistoryModel", "unlock", "(II)I"⟩, prog_10_method_30_code, some .int, []),
  (⟨"DeltaHistoryModel", "checkIn", "(II)I"⟩, prog_10_method_31_code, some .int, []),
  (⟨"DeltaHistoryModel", "checkOut", "(I)I"⟩, prog_10_method_32_code, some .int, []),
  (⟨"DeltaHistoryModel", "crashAfter", "(I)Z"⟩, prog_10_method_33_code, some .boolean, []),
  (⟨"DeltaHistoryModel", "corrupt", "(II)V"⟩, prog_10_method_34_code, none, []),
  (⟨"DeltaHistoryModel", "keep", "()V"⟩, prog_10_method_35_code, none, []),
  (⟨"DeltaHistoryModel", "giveBack", "()V"⟩, prog_10_method_36_code, none, []),
  (⟨"DeltaHistoryModel", "take", "(II)I"⟩, prog_10_method_37_code, some .int, []),
  (⟨"DeltaHistoryModel", "readHeads", "()V"⟩, prog_10_method_38_code, none, []),
  (⟨"DeltaHistoryModel", "findParts", "()V"⟩, prog_10_method_39_code, none, []),
  (⟨"DeltaHistoryModel", "addLine", "(II)V"⟩, prog_10_method_40_code, none, []),
  (⟨"DeltaHistoryModel", "apply", "(II)V"⟩, prog_10_method_41_code, none, []),
  (⟨"DeltaHistoryModel", "makeTexts", "()V"⟩, prog_10_method_42_code, none, []),
  (⟨"DeltaHistoryModel", "isWritten", "()Z"⟩, prog_10_method_43_code, some .boolean, []),
  (⟨"DeltaHistoryModel", "load", "()I"⟩, prog_10_method_44_code, some .int, []),
  (⟨"DeltaHistoryModel", "revisions", "()I"⟩, prog_10_method_45_code, some .int, []),
  (⟨"DeltaHistoryModel", "about", "(II)I"⟩, prog_10_method_46_code, some .int, []),
  (⟨"DeltaHistoryModel", "name", "(II)I"⟩, prog_10_method_47_code, some .int, []),
  (⟨"DeltaHistoryModel", "root", "(II)I"⟩, prog_10_method_48_code, some .int, []),
  (⟨"DeltaHistoryModel", "compare", "(I)I"⟩, prog_10_method_49_code, some .int, []),
  (⟨"DeltaHistoryModel", "step", "(II)I"⟩, prog_10_method_50_code, some .int, []),
  (⟨"DeltaHistoryModel", "size", "(Z)I"⟩, prog_10_method_51_code, some .int, []),
  (⟨"DeltaHistoryModel", "at", "(IZ)I"⟩, prog_10_method_52_code, some .int, []),
  (⟨"DeltaHistory$Bytes", "<init>", "()V"⟩, prog_2_method_1_code, none, []),
  (⟨"DeltaHistory$Bytes", "clear", "()V"⟩, prog_2_method_2_code, none, []),
  (⟨"DeltaHistory$Bytes", "put", "(I)V"⟩, prog_2_method_3_code, none, []),
  (⟨"DeltaHistory$Bytes", "fits", "()Z"⟩, prog_2_method_4_code, some .boolean, []),
  (⟨"DeltaHistory$Bytes", "has", "(I)Z"⟩, prog_2_method_5_code, some .boolean, []),
  (⟨"DeltaHistory$Bytes", "byteAt", "(I)I"⟩, prog_2_method_6_code, some .int, []),
  (⟨"DeltaHistory$Bytes", "becomeFirst", "(LDeltaHistory$Bytes;I)V"⟩, prog_2_method_7_code, none, []),
  (⟨"DeltaHistory$Bytes", "isSameAs", "(LDeltaHistory$Bytes;)Z"⟩, prog_2_method_8_code, some .boolean, []),
  (⟨"DeltaHistory$Bytes", "take", "()I"⟩, prog_2_method_9_code, some .int, []),
  (⟨"DeltaHistory$Delta", "<init>", "()V"⟩, prog_3_method_1_code, none, []),
  (⟨"DeltaHistory$Delta", "make", "(LDeltaHistory$Text;LDeltaHistory$Text;)V"⟩, prog_3_method_2_code, none, []),
  (⟨"DeltaHistory$Delta", "countCommon", "(LDeltaHistory$Text;LDeltaHistory$Text;)V"⟩, prog_3_method_3_code, none, []),
  (⟨"DeltaHistory$Delta", "countLine", "(II)V"⟩, prog_3_method_4_code, none, []),
  (⟨"DeltaHistory$Delta", "numberOf", "(II)I"⟩, prog_3_method_5_code, some .int, []),
  (⟨"DeltaHistory$Delta", "addedLine", "(II)I"⟩, prog_3_method_6_code, some .int, []),
  (⟨"DeltaHistory$History", "<init>", "()V"⟩, prog_4_method_1_code, none, []),
  (⟨"DeltaHistory$History", "clear", "()V"⟩, prog_4_method_2_code, none, []),
  (⟨"DeltaHistory$History", "has", "(I)Z"⟩, prog_4_method_3_code, some .boolean, []),
  (⟨"DeltaHistory$History", "become", "(LDeltaHistory$History;)V"⟩, prog_4_method_4_code, none, []),
  (⟨"DeltaHistory$History", "append", "(II)I"⟩, prog_4_method_5_code, some .int, []),
  (⟨"DeltaHistory$History", "nameNumber", "(II)I"⟩, prog_4_method_6_code, some .int, []),
  (⟨"DeltaHistory$History", "commonOrigin", "(II)I"⟩, prog_4_method_7_code, some .int, []),
  (⟨"DeltaHistory$Reader", "<init>", "()V"⟩, prog_5_method_1_code, none, []),
  (⟨"DeltaHistory$Reader", "read", "(LDeltaHistory$Bytes;LDeltaHistory$History;)Z"⟩, prog_5_method_2_code, some .boolean, []),
  (⟨"DeltaHistory$Reader", "readHeads", "(LDeltaHistory$Bytes;LDeltaHistory$History;)Z"⟩, prog_5_method_3_code, some .boolean, []),
  (⟨"DeltaHistory$Reader", "findBodies", "(LDeltaHistory$Bytes;LDeltaHistory$History;)Z"⟩, prog_5_method_4_code, some .boolean, []),
  (⟨"DeltaHistory$Reader", "passText", "(LDeltaHistory$Bytes;)Z"⟩, prog_5_method_5_code, some .boolean, []),
  (⟨"DeltaHistory$Reader", "passSteps", "(LDeltaHistory$Bytes;)Z"⟩, prog_5_method_6_code, some .boolean, []),
  (⟨"DeltaHistory$Reader", "readBodies", "(LDeltaHistory$Bytes;LDeltaHistory$History;)Z"⟩, prog_5_method_7_code, some .boolean, []),
  (⟨"DeltaHistory$Reader", "readBody", "(LDeltaHistory$Bytes;LDeltaHistory$History;I)Z"⟩, prog_5_method_8_code, some .boolean, []),
  (⟨"DeltaHistory$Reader", "readLines", "(LDeltaHistory$Bytes;LDeltaHistory$Text;)Z"⟩, prog_5_method_9_code, some .boolean, []),
  (⟨"DeltaHistory$Reader", "applySteps", "(LDeltaHistory$Bytes;LDeltaHistory$Text;LDeltaHistory$Text;)Z"⟩, prog_5_method_10_code, some .boolean, []),
  (⟨"DeltaHistory$Revision", "<init>", "()V"⟩, prog_6_method_1_code, none, []),
  (⟨"DeltaHistory$Revision", "become", "(LDeltaHistory$Revision;)V"⟩, prog_6_method_2_code, none, []),
  (⟨"DeltaHistory$Revision", "begin", "(II)V"⟩, prog_6_method_3_code, none, []),
  (⟨"DeltaHistory$Revision", "follow", "(LDeltaHistory$Revision;)V"⟩, prog_6_method_4_code, none, []),
  (⟨"DeltaHistory$Revision", "branchOff", "(LDeltaHistory$Revision;)V"⟩, prog_6_method_5_code, none, []),
  (⟨"DeltaHistory$Revision", "isOnTrunk", "()Z"⟩, prog_6_method_6_code, some .boolean, []),
  (⟨"DeltaHistory$Revision", "source", "()I"⟩, prog_6_method_7_code, some .int, []),
  (⟨"DeltaHistory$Text", "<init>", "()V"⟩, prog_7_method_1_code, none, []),
  (⟨"DeltaHistory$Text", "clear", "()V"⟩, prog_7_method_2_code, none, []),
  (⟨"DeltaHistory$Text", "become", "(LDeltaHistory$Text;)V"⟩, prog_7_method_3_code, none, []),
  (⟨"DeltaHistory$Text", "lineAt", "(I)I"⟩, prog_7_method_4_code, some .int, []),
  (⟨"DeltaHistory$Text", "append", "(I)Z"⟩, prog_7_method_5_code, some .boolean, []),
  (⟨"DeltaHistory$Text", "putIn", "(II)Z"⟩, prog_7_method_6_code, some .boolean, []),
  (⟨"DeltaHistory$Text", "takeOut", "(I)I"⟩, prog_7_method_7_code, some .int, []),
  (⟨"DeltaHistory$Text", "appendBytes", "(I)Z"⟩, prog_7_method_8_code, some .boolean, []),
  (⟨"DeltaHistory$Text", "appendPart", "(LDeltaHistory$Text;II)Z"⟩, prog_7_method_9_code, some .boolean, []),
  (⟨"DeltaHistory$Writer", "<init>", "()V"⟩, prog_8_method_1_code, none, []),
  (⟨"DeltaHistory$Writer", "write", "(LDeltaHistory$History;LDeltaHistory$Bytes;)V"⟩, prog_8_method_2_code, none, []),
  (⟨"DeltaHistory$Writer", "writeText", "(LDeltaHistory$Text;LDeltaHistory$Bytes;)V"⟩, prog_8_method_3_code, none, []),
  (⟨"DeltaHistory$Writer", "writeDelta", "(LDeltaHistory$Bytes;)V"⟩, prog_8_method_4_code, none, []),
  (⟨"DeltaHistoryLaw", "lock", "(LDeltaHistory;II[J)I"⟩, method_3_code, some .int, [(0, 10, 13, 13), (0, 10, 17, 15)]),
  (⟨"DeltaHistoryLaw", "unlock", "(LDeltaHistory;II[J)I"⟩, method_4_code, some .int, [(0, 10, 13, 13), (0, 10, 17, 15)]),
  (⟨"DeltaHistoryLaw", "checkIn", "(LDeltaHistory;II[J)I"⟩, method_5_code, some .int, [(0, 10, 13, 13), (0, 10, 17, 15), (0, 10, 21, 23)]),
  (⟨"DeltaHistoryLaw", "checkOut", "(LDeltaHistory;I[J)I"⟩, method_6_code, some .int, [(0, 9, 12, 13)]),
  (⟨"DeltaHistoryLaw", "corrupt", "(LDeltaHistory;II)I"⟩, method_7_code, some .int, [(0, 6, 9, 13), (0, 6, 12, 33)]),
  (⟨"DeltaHistoryLaw", "about", "(LDeltaHistory;II[J)I"⟩, method_8_code, some .int, [(0, 10, 13, 13)]),
  (⟨"DeltaHistoryLaw", "name", "(LDeltaHistory;II[J)I"⟩, method_9_code, some .int, [(0, 10, 13, 13)]),
  (⟨"DeltaHistoryLaw", "root", "(LDeltaHistory;II[J)I"⟩, method_10_code, some .int, [(0, 10, 13, 13)]),
  (⟨"DeltaHistoryLaw", "compare", "(LDeltaHistory;I[J)I"⟩, method_11_code, some .int, [(0, 9, 12, 13)]),
  (⟨"DeltaHistoryLaw", "law", "([I)Z"⟩, code, some .boolean, [])]
def dh_M : jm_M := fun i => dh_Ms.getD i (⟨"", "", ""⟩, ⟨#[]⟩, none, [])
def dh_nls : List Nat := [1, 4, 3, 2, 1, 2, 3, 3, 5, 2, 2, 3, 1, 1, 4, 3, 3, 2, 3, 2, 3, 1, 2, 3, 3, 3, 2, 1, 1, 1, 5, 6, 4, 4, 1, 2, 3, 3, 2, 4, 5, 3, 3, 6, 5, 4, 2, 3, 3, 1, 2, 2, 1, 2, 4, 3, 3, 6, 3, 2, 3, 2, 2, 4, 2, 9, 3, 10, 4, 3, 2, 1, 5, 3, 5, 3, 3, 2, 3, 1, 1, 2, 1, 2, 2, 4, 3, 2, 1, 6, 5, 3, 3, 3, 2, 1, 2, 3, 6, 5, 6, 1, 3, 9, 5, 3, 6, 4, 6, 5, 9, 1, 2, 3, 2, 2, 1, 1, 1, 1, 2, 2, 2, 3, 3, 4, 5, 1, 6, 4, 5, 5, 5, 5, 4, 4, 5, 5, 5, 4, 7]
def dh_nl (i : Nat) : Nat := dh_nls.getD i 0
def dh_rcs : List Nat := [1, 1, 1, 1, 1, 1, 1, 1, 1, 1, 1, 1, 1, 1, 1, 1, 1, 1, 1, 1, 1, 0, 1, 1, 1, 1, 1, 2, 2, 0, 0, 2, 2, 2, 2, 2, 2, 2, 2, 2, 2, 2, 2, 2, 2, 2, 2, 2, 2, 2, 2, 2, 0, 2, 2, 2, 2, 2, 2, 2, 2, 2, 2, 2, 2, 2, 2, 2, 2, 2, 2, 2, 2, 2, 2, 2, 2, 2, 2, 3, 3, 3, 3, 3, 3, 3, 3, 3, 4, 4, 4, 4, 4, 4, 5, 5, 5, 5, 5, 5, 5, 6, 6, 6, 6, 6, 6, 6, 6, 6, 6, 7, 7, 7, 7, 7, 7, 7, 8, 8, 8, 8, 8, 8, 8, 8, 8, 9, 9, 9, 9, 0, 0, 0, 0, 0, 0, 0, 0, 0, 0]
def dh_rc (i : Nat) : Nat := dh_rcs.getD i 0
def dh_ocs : List Nat := [1, 1, 1, 1, 1, 1, 1, 1, 1, 1, 1, 1, 1, 1, 1, 1, 1, 1, 1, 1, 1, 1, 1, 1, 1, 1, 1, 2, 2, 2, 2, 2, 2, 2, 2, 2, 2, 2, 2, 2, 2, 2, 2, 2, 2, 2, 2, 2, 2, 2, 2, 2, 2, 2, 2, 2, 2, 2, 2, 2, 2, 2, 2, 2, 2, 2, 2, 2, 2, 2, 2, 2, 2, 2, 2, 2, 2, 2, 2, 3, 3, 3, 3, 3, 3, 3, 3, 3, 4, 4, 4, 4, 4, 4, 5, 5, 5, 5, 5, 5, 5, 6, 6, 6, 6, 6, 6, 6, 6, 6, 6, 7, 7, 7, 7, 7, 7, 7, 8, 8, 8, 8, 8, 8, 8, 8, 8, 9, 9, 9, 9, 59, 59, 59, 59, 59, 59, 59, 59, 59, 59]
def dh_oc (i : Nat) : Nat := dh_ocs.getD i 0
def dh_rms : List (Nat × Nat) := [(4, 56), (2, 31), (2, 32), (2, 32), (0, 0), (1, 13), (7, 94), (7, 95), (7, 95), (7, 94), (0, 0), (6, 81), (7, 109), (0, 0), (7, 94), (7, 94), (7, 94), (7, 94), (2, 28), (0, 0), (2, 26), (6, 81), (6, 81), (6, 81), (4, 65), (2, 28), (0, 0), (1, 12), (0, 0), (0, 0), (0, 0), (1, 16), (1, 12), (0, 0), (0, 0), (0, 0), (0, 0), (1, 14), (1, 14), (0, 0), (1, 15), (0, 0), (0, 0), (0, 0), (0, 0), (1, 17), (0, 0), (1, 13), (2, 32), (0, 0), (0, 0), (0, 0), (0, 0), (0, 0), (3, 46), (4, 61), (4, 61), (3, 46), (1, 14), (0, 0), (0, 0), (0, 0), (0, 0), (0, 0), (1, 17), (2, 28), (0, 0), (1, 17), (2, 38), (3, 46), (4, 60), (0, 0), (1, 14), (1, 14), (1, 14), (2, 32), (0, 0), (0, 0), (0, 0), (1, 12), (0, 0), (0, 0), (0, 0), (0, 0), (1, 13), (1, 13), (2, 27), (1, 13), (1, 12), (2, 31), (1, 15), (0, 0), (1, 14), (0, 0), (3, 41), (0, 0), (0, 0), (3, 44), (2, 26), (1, 13), (0, 0), (1, 12), (6, 95), (3, 43), (3, 43), (2, 26), (2, 26), (5, 80), (4, 63), (2, 27), (3, 43), (2, 26), (2, 31), (1, 12), (0, 0), (0, 0), (0, 0), (1, 12), (1, 12), (0, 0), (1, 18), (0, 0), (0, 0), (1, 18), (1, 18), (1, 13), (1, 13), (2, 26), (3, 48), (1, 13), (1, 15), (8, 110), (8, 111), (8, 113), (8, 109), (7, 95), (8, 111), (8, 110), (8, 110), (8, 109), (9, 129)]
def dh_rm (i : Nat) : Nat × Nat := dh_rms.getD i (0, 0)
def dh_ini (i : Nat) : Bool := decide ((dh_M i).1.name = "<init>")
/-- the class that a catch clause of the law names -/
def dh_ctc (i : Nat) : Nat := if i = 13 then 201 else if i = 15 then 203 else if i = 23 then 205 else if i = 33 then 207 else 0
def dh_ct (_ i t : Nat) : Bool := decide (dh_ctc i = t)
def dh_hd (i : Nat) : Nat → Nat → Option Nat := jm_hf (dh_ct i) (dh_M i).2.2.2
def dh_sws : List (List (Int32 × Nat) × Nat) := [([(0, 56), (1, 61), (2, 66), (3, 71), (4, 76), (5, 81)], 86), ([(0, 104), (1, 111), (2, 118), (3, 125), (4, 132), (5, 138)], 150), ([(0, 40), (1, 47), (2, 54)], 61), ([(0, 132), (1, 181), (2, 218), (3, 243), (4, 256), (5, 281), (6, 349), (7, 417), (8, 485), (9, 541), (10, 566), (11, 614), (12, 627), (13, 640), (14, 708), (15, 776), (16, 844), (17, 900), (18, 937), (19, 978)], 1031)]
def dh_sw (i : Nat) : List (Int32 × Nat) × Nat := dh_sws.getD i ([], 0)
end
section
/-! The code, with its links resolved. Written by program from the listing. -/
def dh_c0_0 : List (Nat × jm_In) := [(0, 3, 1, 0, 0, 0), (1, 33, 3, 0, 0, 0), (4, 3, 1, 0, 0, 0), (5, 28, 3, 8, 2, 0), (8, 29, 1, 0, 0, 0), (9, 32, 3, 118, 1, 0), (12, 16, 3, 1, 0, 0), (15, 3, 1, 0, 0, 0), (16, 28, 3, 8, 2, 0), (19, 29, 1, 0, 0, 0), (20, 32, 3, 118, 1, 0), (23, 16, 3, 1, 1, 0), (26, 3, 1, 0, 0, 0), (27, 28, 3, 8, 2, 0), (30, 29, 1, 0, 0, 0), (31, 32, 3, 118, 1, 0), (34, 16, 3, 1, 2, 0), (37, 3, 1, 0, 0, 0), (38, 28, 3, 4, 9, 0), (41, 29, 1, 0, 0, 0), (42, 32, 3, 88, 1, 0), (45, 16, 3, 1, 3, 0), (48, 3, 1, 0, 0, 0), (49, 28, 3, 3, 3, 0), (52, 29, 1, 0, 0, 0), (53, 32, 3, 79, 1, 0), (56, 16, 3, 1, 4, 0), (59, 3, 1, 0, 0, 0), (60, 28, 3, 3, 3, 0), (63, 29, 1, 0, 0, 0), (64, 32, 3, 79, 1, 0), (67, 16, 3, 1, 5, 0), (70, 3, 1, 0, 0, 0), (71, 28, 3, 3, 3, 0), (74, 29, 1, 0, 0, 0), (75, 32, 3, 79, 1, 0), (78, 16, 3, 1, 6, 0), (81, 3, 1, 0, 0, 0), (82, 28, 3, 9, 1, 0), (85, 29, 1, 0, 0, 0), (86, 32, 3, 127, 1, 0), (89, 16, 3, 1, 7, 0), (92, 3, 1, 0, 0, 0), (93, 28, 3, 6, 1, 0), (96, 29, 1, 0, 0, 0), (97, 32, 3, 101, 1, 0), (100, 16, 3, 1, 8, 0), (103, 3, 1, 0, 0, 0), (104, 28, 3, 5, 2, 0), (107, 29, 1, 0, 0, 0), (108, 32, 3, 94, 1, 0), (111, 16, 3, 1, 9, 0), (114, 3, 1, 0, 0, 0), (115, 28, 3, 5, 2, 0), (118, 29, 1, 0, 0, 0), (119, 32, 3, 94, 1, 0), (122, 16, 3, 1, 10, 0), (125, 3, 1, 0, 0, 0), (126, 13, 3, 1, 4, 0), (129, 1, 1, 0, 0, 0)]
def dh_c0_1 : List (Nat × jm_In) := [(130, 32, 3, 81, 2, 0), (133, 3, 1, 0, 0, 0), (134, 1, 1, 0, 0, -1), (135, 14, 3, 1, 11, 0), (138, 39, 1, 0, 0, 0)]
/-- DeltaHistory.<init>()V -/
def dh_c0 : List (Nat × jm_In) := dh_c0_0 ++ (dh_c0_1)
/-- DeltaHistory.desk(III)Z -/
def dh_c1 : List (Nat × jm_In) := [(0, 3, 1, 0, 0, 0), (1, 13, 3, 1, 1, 0), (4, 32, 3, 119, 1, 0), (7, 3, 1, 0, 0, 0), (8, 13, 3, 1, 1, 0), (11, 2, 1, 1, 0, 0), (12, 32, 3, 125, 2, 0), (15, 8, 3, 0, 40, 0), (18, 3, 1, 0, 0, 0), (19, 13, 3, 1, 1, 0), (22, 2, 1, 2, 0, 0), (23, 32, 3, 125, 2, 0), (26, 8, 3, 0, 40, 0), (29, 3, 1, 0, 0, 0), (30, 13, 3, 1, 1, 0), (33, 2, 1, 3, 0, 0), (34, 32, 3, 125, 2, 0), (37, 8, 3, 1, 42, 0), (40, 1, 1, 0, 0, 0), (41, 38, 1, 0, 0, 0), (42, 3, 1, 0, 0, 0), (43, 13, 3, 1, 0, 0), (46, 3, 1, 0, 0, 0), (47, 13, 3, 1, 1, 0), (50, 32, 3, 120, 2, 0), (53, 1, 1, 0, 0, 1), (54, 38, 1, 0, 0, 0)]
/-- DeltaHistory.insert(II)Z -/
def dh_c2 : List (Nat × jm_In) := [(0, 3, 1, 0, 0, 0), (1, 13, 3, 1, 0, 0), (4, 2, 1, 1, 0, 0), (5, 2, 1, 2, 0, 0), (6, 32, 3, 123, 3, 0), (9, 38, 1, 0, 0, 0)]
/-- DeltaHistory.remove(I)I -/
def dh_c3 : List (Nat × jm_In) := [(0, 3, 1, 0, 0, 0), (1, 13, 3, 1, 0, 0), (4, 2, 1, 1, 0, 0), (5, 32, 3, 124, 2, 0), (8, 37, 1, 0, 0, 0)]
/-- DeltaHistory.lines()I -/
def dh_c4 : List (Nat × jm_In) := [(0, 3, 1, 0, 0, 0), (1, 13, 3, 1, 0, 0), (4, 12, 3, 8, 1, 0), (7, 37, 1, 0, 0, 0)]
/-- DeltaHistory.line(I)I -/
def dh_c5 : List (Nat × jm_In) := [(0, 3, 1, 0, 0, 0), (1, 13, 3, 1, 0, 0), (4, 2, 1, 1, 0, 0), (5, 32, 3, 121, 2, 0), (8, 37, 1, 0, 0, 0)]
/-- DeltaHistory.lock(II)I -/
def dh_c6 : List (Nat × jm_In) := [(0, 2, 1, 1, 0, 0), (1, 32, 3, 21, 1, 0), (4, 3, 1, 0, 0, 0), (5, 2, 1, 2, 0, 0), (6, 32, 3, 22, 2, 0), (9, 3, 1, 0, 0, 0), (10, 13, 3, 1, 9, 0), (13, 13, 3, 5, 0, 0), (16, 2, 1, 2, 0, 0), (17, 20, 1, 69, 0, 0), (18, 12, 3, 7, 3, 0), (21, 1, 1, 0, 0, -1), (22, 9, 3, 0, 33, 0), (25, 34, 3, 202, 0, 0), (28, 29, 1, 0, 0, 0), (29, 35, 3, 202, 0, 0), (32, 36, 1, 0, 0, 0), (33, 3, 1, 0, 0, 0), (34, 2, 1, 2, 0, 0), (35, 2, 1, 1, 0, 0), (36, 32, 3, 24, 3, 0), (39, 37, 1, 0, 0, 0)]
/-- DeltaHistory.unlock(II)I -/
def dh_c7 : List (Nat × jm_In) := [(0, 2, 1, 1, 0, 0), (1, 32, 3, 21, 1, 0), (4, 3, 1, 0, 0, 0), (5, 2, 1, 2, 0, 0), (6, 32, 3, 22, 2, 0), (9, 3, 1, 0, 0, 0), (10, 2, 1, 1, 0, 0), (11, 2, 1, 2, 0, 0), (12, 32, 3, 23, 3, 0), (15, 3, 1, 0, 0, 0), (16, 2, 1, 2, 0, 0), (17, 1, 1, 0, 0, -1), (18, 32, 3, 24, 3, 0), (21, 37, 1, 0, 0, 0)]
def dh_c8_0 : List (Nat × jm_In) := [(0, 2, 1, 1, 0, 0), (1, 32, 3, 21, 1, 0), (4, 2, 1, 2, 0, 0), (5, 1, 1, 0, 0, -1), (6, 9, 3, 1, 23, 0), (9, 3, 1, 0, 0, 0), (10, 13, 3, 1, 9, 0), (13, 12, 3, 5, 1, 0), (16, 8, 3, 1, 23, 0), (19, 1, 1, 0, 0, 1), (20, 10, 3, 0, 24, 0), (23, 1, 1, 0, 0, 0), (24, 4, 1, 3, 0, 0), (25, 2, 1, 3, 0, 0), (26, 8, 3, 1, 40, 0), (29, 3, 1, 0, 0, 0), (30, 2, 1, 2, 0, 0), (31, 32, 3, 22, 2, 0), (34, 3, 1, 0, 0, 0), (35, 2, 1, 1, 0, 0), (36, 2, 1, 2, 0, 0), (37, 32, 3, 23, 3, 0), (40, 3, 1, 0, 0, 0), (41, 13, 3, 1, 9, 0), (44, 12, 3, 5, 1, 0), (47, 1, 2, 0, 0, 20), (49, 9, 3, 2, 60, 0), (52, 34, 3, 204, 0, 0), (55, 29, 1, 0, 0, 0), (56, 35, 3, 204, 0, 0), (59, 36, 1, 0, 0, 0), (60, 3, 1, 0, 0, 0), (61, 13, 3, 1, 10, 0), (64, 3, 1, 0, 0, 0), (65, 13, 3, 1, 9, 0), (68, 32, 3, 97, 2, 0), (71, 3, 1, 0, 0, 0), (72, 13, 3, 1, 10, 0), (75, 2, 1, 2, 0, 0), (76, 2, 1, 1, 0, 0), (77, 32, 3, 98, 3, 0), (80, 4, 2, 4, 0, 0), (82, 3, 1, 0, 0, 0), (83, 13, 3, 1, 10, 0), (86, 13, 3, 5, 0, 0), (89, 2, 2, 4, 0, 0), (91, 20, 1, 69, 0, 0), (92, 13, 3, 7, 0, 0), (95, 3, 1, 0, 0, 0), (96, 13, 3, 1, 0, 0), (99, 32, 3, 120, 2, 0), (102, 2, 1, 3, 0, 0), (103, 8, 3, 1, 119, 0), (106, 3, 1, 0, 0, 0), (107, 13, 3, 1, 10, 0), (110, 13, 3, 5, 0, 0), (113, 2, 1, 2, 0, 0), (114, 20, 1, 69, 0, 0), (115, 1, 1, 0, 0, -1), (116, 14, 3, 7, 3, 0)]
def dh_c8_1 : List (Nat × jm_In) := [(119, 3, 1, 0, 0, 0), (120, 13, 3, 1, 7, 0), (123, 3, 1, 0, 0, 0), (124, 13, 3, 1, 10, 0), (127, 3, 1, 0, 0, 0), (128, 13, 3, 1, 6, 0), (131, 32, 3, 128, 3, 0), (134, 3, 1, 0, 0, 0), (135, 13, 3, 1, 6, 0), (138, 32, 3, 82, 1, 0), (141, 8, 3, 1, 152, 0), (144, 34, 3, 204, 0, 0), (147, 29, 1, 0, 0, 0), (148, 35, 3, 204, 0, 0), (151, 36, 1, 0, 0, 0), (152, 3, 1, 0, 0, 0), (153, 2, 2, 4, 0, 0), (155, 32, 3, 25, 2, 0), (158, 37, 1, 0, 0, 0)]
/-- DeltaHistory.checkIn(II)I -/
def dh_c8 : List (Nat × jm_In) := dh_c8_0 ++ (dh_c8_1)
/-- DeltaHistory.checkOut(I)I -/
def dh_c9 : List (Nat × jm_In) := [(0, 3, 1, 0, 0, 0), (1, 2, 1, 1, 0, 0), (2, 32, 3, 22, 2, 0), (5, 3, 1, 0, 0, 0), (6, 13, 3, 1, 0, 0), (9, 3, 1, 0, 0, 0), (10, 13, 3, 1, 9, 0), (13, 13, 3, 5, 0, 0), (16, 2, 1, 1, 0, 0), (17, 20, 1, 69, 0, 0), (18, 13, 3, 7, 0, 0), (21, 32, 3, 120, 2, 0), (24, 3, 1, 0, 0, 0), (25, 13, 3, 1, 0, 0), (28, 12, 3, 8, 1, 0), (31, 37, 1, 0, 0, 0)]
/-- DeltaHistory.crashAfter(I)Z -/
def dh_c10 : List (Nat × jm_In) := [(0, 2, 1, 1, 0, 0), (1, 1, 1, 0, 0, -1), (2, 9, 3, 3, 7, 0), (5, 1, 1, 0, 0, 0), (6, 38, 1, 0, 0, 0), (7, 3, 1, 0, 0, 0), (8, 2, 1, 1, 0, 0), (9, 14, 3, 1, 11, 0), (12, 1, 1, 0, 0, 1), (13, 38, 1, 0, 0, 0)]
/-- DeltaHistory.corrupt(II)V -/
def dh_c11 : List (Nat × jm_In) := [(0, 3, 1, 0, 0, 0), (1, 13, 3, 1, 4, 0), (4, 2, 1, 1, 0, 0), (5, 32, 3, 83, 2, 0), (8, 8, 3, 1, 19, 0), (11, 34, 3, 200, 0, 0), (14, 29, 1, 0, 0, 0), (15, 35, 3, 200, 0, 0), (18, 36, 1, 0, 0, 0), (19, 2, 1, 2, 0, 0), (20, 8, 3, 2, 30, 0), (23, 2, 1, 2, 0, 0), (24, 1, 3, 0, 0, 255), (27, 9, 3, 5, 38, 0), (30, 34, 3, 206, 0, 0), (33, 29, 1, 0, 0, 0), (34, 35, 3, 206, 0, 0), (37, 36, 1, 0, 0, 0), (38, 3, 1, 0, 0, 0), (39, 13, 3, 1, 4, 0), (42, 13, 3, 3, 0, 0), (45, 2, 1, 1, 0, 0), (46, 2, 1, 2, 0, 0), (47, 19, 1, 0, 0, 0), (48, 39, 1, 0, 0, 0)]
/-- DeltaHistory.load()I -/
def dh_c12 : List (Nat × jm_In) := [(0, 3, 1, 0, 0, 0), (1, 13, 3, 1, 8, 0), (4, 3, 1, 0, 0, 0), (5, 13, 3, 1, 4, 0), (8, 3, 1, 0, 0, 0), (9, 13, 3, 1, 10, 0), (12, 32, 3, 102, 3, 0), (15, 8, 3, 1, 20, 0), (18, 1, 1, 0, 0, -1), (19, 37, 1, 0, 0, 0), (20, 3, 1, 0, 0, 0), (21, 13, 3, 1, 7, 0), (24, 3, 1, 0, 0, 0), (25, 13, 3, 1, 10, 0), (28, 3, 1, 0, 0, 0), (29, 13, 3, 1, 6, 0), (32, 32, 3, 128, 3, 0), (35, 3, 1, 0, 0, 0), (36, 13, 3, 1, 6, 0), (39, 3, 1, 0, 0, 0), (40, 13, 3, 1, 4, 0), (43, 32, 3, 86, 2, 0), (46, 8, 3, 1, 51, 0), (49, 1, 1, 0, 0, -1), (50, 37, 1, 0, 0, 0), (51, 3, 1, 0, 0, 0), (52, 32, 3, 26, 1, 0), (55, 3, 1, 0, 0, 0), (56, 13, 3, 1, 9, 0), (59, 12, 3, 5, 1, 0), (62, 37, 1, 0, 0, 0)]
/-- DeltaHistory.revisions()I -/
def dh_c13 : List (Nat × jm_In) := [(0, 3, 1, 0, 0, 0), (1, 13, 3, 1, 9, 0), (4, 12, 3, 5, 1, 0), (7, 37, 1, 0, 0, 0)]
/-- DeltaHistory.about(II)I -/
def dh_c14 : List (Nat × jm_In) := [(0, 3, 1, 0, 0, 0), (1, 2, 1, 1, 0, 0), (2, 32, 3, 22, 2, 0), (5, 3, 1, 0, 0, 0), (6, 13, 3, 1, 9, 0), (9, 13, 3, 5, 0, 0), (12, 2, 1, 1, 0, 0), (13, 20, 1, 69, 0, 0), (14, 5, 1, 3, 0, 0), (15, 2, 1, 2, 0, 0), (16, 11, 40, 0, 0, 0), (56, 3, 1, 3, 0, 0), (57, 12, 3, 7, 1, 0), (60, 37, 1, 0, 0, 0), (61, 3, 1, 3, 0, 0), (62, 12, 3, 7, 2, 0), (65, 37, 1, 0, 0, 0), (66, 3, 1, 3, 0, 0), (67, 12, 3, 7, 3, 0), (70, 37, 1, 0, 0, 0), (71, 3, 1, 3, 0, 0), (72, 12, 3, 7, 9, 0), (75, 37, 1, 0, 0, 0), (76, 3, 1, 3, 0, 0), (77, 12, 3, 7, 4, 0), (80, 37, 1, 0, 0, 0), (81, 3, 1, 3, 0, 0), (82, 12, 3, 7, 5, 0), (85, 37, 1, 0, 0, 0), (86, 1, 1, 0, 0, -1), (87, 37, 1, 0, 0, 0)]
/-- DeltaHistory.name(II)I -/
def dh_c15 : List (Nat × jm_In) := [(0, 3, 1, 0, 0, 0), (1, 2, 1, 1, 0, 0), (2, 32, 3, 22, 2, 0), (5, 3, 1, 0, 0, 0), (6, 13, 3, 1, 9, 0), (9, 2, 1, 1, 0, 0), (10, 2, 1, 2, 0, 0), (11, 32, 3, 99, 3, 0), (14, 37, 1, 0, 0, 0)]
/-- DeltaHistory.root(II)I -/
def dh_c16 : List (Nat × jm_In) := [(0, 3, 1, 0, 0, 0), (1, 2, 1, 1, 0, 0), (2, 32, 3, 22, 2, 0), (5, 3, 1, 0, 0, 0), (6, 2, 1, 2, 0, 0), (7, 32, 3, 22, 2, 0), (10, 3, 1, 0, 0, 0), (11, 13, 3, 1, 9, 0), (14, 2, 1, 1, 0, 0), (15, 2, 1, 2, 0, 0), (16, 32, 3, 100, 3, 0), (19, 37, 1, 0, 0, 0)]
/-- DeltaHistory.compare(I)I -/
def dh_c17 : List (Nat × jm_In) := [(0, 2, 1, 1, 0, 0), (1, 1, 1, 0, 0, -1), (2, 9, 3, 1, 23, 0), (5, 3, 1, 0, 0, 0), (6, 13, 3, 1, 3, 0), (9, 3, 1, 0, 0, 0), (10, 13, 3, 1, 2, 0), (13, 3, 1, 0, 0, 0), (14, 13, 3, 1, 0, 0), (17, 32, 3, 89, 3, 0), (20, 10, 3, 0, 51, 0), (23, 3, 1, 0, 0, 0), (24, 2, 1, 1, 0, 0), (25, 32, 3, 22, 2, 0), (28, 3, 1, 0, 0, 0), (29, 13, 3, 1, 3, 0), (32, 3, 1, 0, 0, 0), (33, 13, 3, 1, 9, 0), (36, 13, 3, 5, 0, 0), (39, 2, 1, 1, 0, 0), (40, 20, 1, 69, 0, 0), (41, 13, 3, 7, 0, 0), (44, 3, 1, 0, 0, 0), (45, 13, 3, 1, 0, 0), (48, 32, 3, 89, 3, 0), (51, 3, 1, 0, 0, 0), (52, 13, 3, 1, 3, 0), (55, 12, 3, 4, 6, 0), (58, 37, 1, 0, 0, 0)]
/-- DeltaHistory.step(II)I -/
def dh_c18 : List (Nat × jm_In) := [(0, 3, 1, 0, 0, 0), (1, 13, 3, 1, 3, 0), (4, 2, 1, 1, 0, 0), (5, 2, 1, 2, 0, 0), (6, 32, 3, 92, 3, 0), (9, 37, 1, 0, 0, 0)]
/-- DeltaHistory.size(Z)I -/
def dh_c19 : List (Nat × jm_In) := [(0, 2, 1, 1, 0, 0), (1, 8, 3, 0, 14, 0), (4, 3, 1, 0, 0, 0), (5, 13, 3, 1, 5, 0), (8, 12, 3, 3, 1, 0), (11, 10, 3, 0, 21, 0), (14, 3, 1, 0, 0, 0), (15, 13, 3, 1, 4, 0), (18, 12, 3, 3, 1, 0), (21, 37, 1, 0, 0, 0)]
/-- DeltaHistory.at(IZ)I -/
def dh_c20 : List (Nat × jm_In) := [(0, 2, 1, 2, 0, 0), (1, 8, 3, 0, 15, 0), (4, 3, 1, 0, 0, 0), (5, 13, 3, 1, 5, 0), (8, 2, 1, 1, 0, 0), (9, 32, 3, 84, 2, 0), (12, 10, 3, 0, 23, 0), (15, 3, 1, 0, 0, 0), (16, 13, 3, 1, 4, 0), (19, 2, 1, 1, 0, 0), (20, 32, 3, 84, 2, 0), (23, 37, 1, 0, 0, 0)]
/-- DeltaHistory.requireUser(I)V -/
def dh_c21 : List (Nat × jm_In) := [(0, 2, 1, 0, 0, 0), (1, 8, 3, 2, 9, 0), (4, 2, 1, 0, 0, 0), (5, 1, 1, 0, 0, 4), (6, 9, 3, 2, 17, 0), (9, 34, 3, 200, 0, 0), (12, 29, 1, 0, 0, 0), (13, 35, 3, 200, 0, 0), (16, 36, 1, 0, 0, 0), (17, 39, 1, 0, 0, 0)]
/-- DeltaHistory.requireRevision(I)V -/
def dh_c22 : List (Nat × jm_In) := [(0, 3, 1, 0, 0, 0), (1, 13, 3, 1, 9, 0), (4, 2, 1, 1, 0, 0), (5, 32, 3, 96, 2, 0), (8, 8, 3, 1, 19, 0), (11, 34, 3, 200, 0, 0), (14, 29, 1, 0, 0, 0), (15, 35, 3, 200, 0, 0), (18, 36, 1, 0, 0, 0), (19, 39, 1, 0, 0, 0)]
/-- DeltaHistory.requireLock(II)V -/
def dh_c23 : List (Nat × jm_In) := [(0, 3, 1, 0, 0, 0), (1, 13, 3, 1, 9, 0), (4, 13, 3, 5, 0, 0), (7, 2, 1, 2, 0, 0), (8, 20, 1, 69, 0, 0), (9, 12, 3, 7, 3, 0), (12, 2, 1, 1, 0, 0), (13, 9, 3, 0, 24, 0), (16, 34, 3, 202, 0, 0), (19, 29, 1, 0, 0, 0), (20, 35, 3, 202, 0, 0), (23, 36, 1, 0, 0, 0), (24, 39, 1, 0, 0, 0)]
/-- DeltaHistory.changeLock(II)I -/
def dh_c24 : List (Nat × jm_In) := [(0, 3, 1, 0, 0, 0), (1, 13, 3, 1, 10, 0), (4, 3, 1, 0, 0, 0), (5, 13, 3, 1, 9, 0), (8, 32, 3, 97, 2, 0), (11, 3, 1, 0, 0, 0), (12, 13, 3, 1, 10, 0), (15, 13, 3, 5, 0, 0), (18, 2, 1, 1, 0, 0), (19, 20, 1, 69, 0, 0), (20, 2, 1, 2, 0, 0), (21, 14, 3, 7, 3, 0), (24, 3, 1, 0, 0, 0), (25, 13, 3, 1, 7, 0), (28, 3, 1, 0, 0, 0), (29, 13, 3, 1, 10, 0), (32, 3, 1, 0, 0, 0), (33, 13, 3, 1, 6, 0), (36, 32, 3, 128, 3, 0), (39, 3, 1, 0, 0, 0), (40, 3, 1, 0, 0, 0), (41, 13, 3, 1, 6, 0), (44, 12, 3, 3, 1, 0), (47, 32, 3, 25, 2, 0), (50, 37, 1, 0, 0, 0)]
/-- DeltaHistory.carryOut(I)I -/
def dh_c25 : List (Nat × jm_In) := [(0, 3, 1, 0, 0, 0), (1, 12, 3, 1, 11, 0), (4, 4, 1, 2, 0, 0), (5, 3, 1, 0, 0, 0), (6, 1, 1, 0, 0, -1), (7, 14, 3, 1, 11, 0), (10, 2, 1, 2, 0, 0), (11, 1, 1, 0, 0, -1), (12, 9, 3, 0, 41, 0), (15, 2, 1, 2, 0, 0), (16, 3, 1, 0, 0, 0), (17, 13, 3, 1, 6, 0), (20, 12, 3, 3, 1, 0), (23, 9, 3, 4, 41, 0), (26, 3, 1, 0, 0, 0), (27, 13, 3, 1, 5, 0), (30, 3, 1, 0, 0, 0), (31, 13, 3, 1, 6, 0), (34, 2, 1, 2, 0, 0), (35, 32, 3, 85, 3, 0), (38, 1, 2, 0, 0, -2), (40, 37, 1, 0, 0, 0), (41, 3, 1, 0, 0, 0), (42, 13, 3, 1, 4, 0), (45, 3, 1, 0, 0, 0), (46, 13, 3, 1, 6, 0), (49, 3, 1, 0, 0, 0), (50, 13, 3, 1, 6, 0), (53, 12, 3, 3, 1, 0), (56, 32, 3, 85, 3, 0), (59, 3, 1, 0, 0, 0), (60, 13, 3, 1, 5, 0), (63, 32, 3, 80, 1, 0), (66, 3, 1, 0, 0, 0), (67, 32, 3, 26, 1, 0), (70, 2, 1, 2, 0, 0), (71, 3, 1, 0, 0, 0), (72, 13, 3, 1, 6, 0), (75, 12, 3, 3, 1, 0), (78, 1, 1, 0, 0, 1), (79, 7, 1, 0, 0, 0), (80, 9, 3, 1, 88, 0), (83, 1, 2, 0, 0, -2), (85, 10, 3, 0, 89, 0), (88, 2, 1, 1, 0, 0), (89, 37, 1, 0, 0, 0)]
/-- DeltaHistory.takePlanned()V -/
def dh_c26 : List (Nat × jm_In) := [(0, 3, 1, 0, 0, 0), (1, 13, 3, 1, 9, 0), (4, 5, 1, 1, 0, 0), (5, 3, 1, 0, 0, 0), (6, 3, 1, 0, 0, 0), (7, 13, 3, 1, 10, 0), (10, 16, 3, 1, 9, 0), (13, 3, 1, 0, 0, 0), (14, 3, 1, 1, 0, 0), (15, 16, 3, 1, 10, 0), (18, 39, 1, 0, 0, 0)]
def dh_c27_0 : List (Nat × jm_In) := [(0, 3, 1, 0, 0, 0), (1, 33, 3, 0, 0, 0), (4, 3, 1, 0, 0, 0), (5, 1, 2, 0, 0, 20), (7, 24, 2, 100, 0, 0), (9, 16, 3, 2, 2, 0), (12, 3, 1, 0, 0, 0), (13, 1, 2, 0, 0, 20), (15, 24, 2, 100, 0, 0), (17, 16, 3, 2, 3, 0), (20, 3, 1, 0, 0, 0), (21, 1, 2, 0, 0, 20), (23, 24, 2, 100, 0, 0), (25, 16, 3, 2, 4, 0), (28, 3, 1, 0, 0, 0), (29, 1, 2, 0, 0, 20), (31, 24, 2, 100, 0, 0), (33, 16, 3, 2, 5, 0), (36, 3, 1, 0, 0, 0), (37, 1, 3, 0, 0, 240), (40, 24, 2, 100, 0, 0), (42, 16, 3, 2, 6, 0), (45, 3, 1, 0, 0, 0), (46, 1, 2, 0, 0, 20), (48, 24, 2, 100, 0, 0), (50, 16, 3, 2, 7, 0), (53, 3, 1, 0, 0, 0), (54, 1, 3, 0, 0, 840), (57, 24, 2, 100, 0, 0), (59, 16, 3, 2, 8, 0), (62, 3, 1, 0, 0, 0), (63, 1, 2, 0, 0, 12), (65, 24, 2, 100, 0, 0), (67, 16, 3, 2, 9, 0), (70, 3, 1, 0, 0, 0), (71, 1, 1, 0, 0, 1), (72, 14, 3, 2, 11, 0), (75, 3, 1, 0, 0, 0), (76, 1, 3, 0, 0, 400), (79, 24, 2, 100, 0, 0), (81, 16, 3, 2, 12, 0), (84, 3, 1, 0, 0, 0), (85, 1, 3, 0, 0, 400), (88, 24, 2, 100, 0, 0), (90, 16, 3, 2, 14, 0), (93, 3, 1, 0, 0, 0), (94, 1, 1, 0, 0, -1), (95, 14, 3, 2, 15, 0), (98, 3, 1, 0, 0, 0), (99, 1, 2, 0, 0, 12), (101, 24, 2, 100, 0, 0), (103, 16, 3, 2, 17, 0), (106, 3, 1, 0, 0, 0), (107, 1, 2, 0, 0, 12), (109, 24, 2, 100, 0, 0), (111, 16, 3, 2, 19, 0), (114, 3, 1, 0, 0, 0), (115, 1, 3, 0, 0, 196), (118, 24, 2, 100, 0, 0), (120, 16, 3, 2, 20, 0)]
def dh_c27_1 : List (Nat × jm_In) := [(123, 3, 1, 0, 0, 0), (124, 1, 2, 0, 0, 24), (126, 24, 2, 100, 0, 0), (128, 16, 3, 2, 22, 0), (131, 3, 1, 0, 0, 0), (132, 1, 2, 0, 0, 24), (134, 24, 2, 100, 0, 0), (136, 16, 3, 2, 23, 0), (139, 3, 1, 0, 0, 0), (140, 1, 2, 0, 0, 24), (142, 24, 2, 100, 0, 0), (144, 16, 3, 2, 24, 0), (147, 3, 1, 0, 0, 0), (148, 1, 2, 0, 0, 24), (150, 24, 2, 100, 0, 0), (152, 16, 3, 2, 25, 0), (155, 3, 1, 0, 0, 0), (156, 1, 2, 0, 0, 24), (158, 24, 2, 100, 0, 0), (160, 16, 3, 2, 27, 0), (163, 3, 1, 0, 0, 0), (164, 1, 2, 0, 0, 24), (166, 24, 2, 100, 0, 0), (168, 16, 3, 2, 28, 0), (171, 3, 1, 0, 0, 0), (172, 1, 2, 0, 0, 24), (174, 24, 2, 100, 0, 0), (176, 16, 3, 2, 29, 0), (179, 3, 1, 0, 0, 0), (180, 1, 2, 0, 0, 24), (182, 24, 2, 100, 0, 0), (184, 16, 3, 2, 30, 0), (187, 3, 1, 0, 0, 0), (188, 1, 2, 0, 0, 12), (190, 24, 2, 100, 0, 0), (192, 16, 3, 2, 31, 0), (195, 3, 1, 0, 0, 0), (196, 1, 3, 0, 0, 2400), (199, 24, 2, 100, 0, 0), (201, 16, 3, 2, 33, 0), (204, 3, 1, 0, 0, 0), (205, 1, 2, 0, 0, 20), (207, 24, 2, 100, 0, 0), (209, 16, 3, 2, 34, 0), (212, 3, 1, 0, 0, 0), (213, 1, 2, 0, 0, 20), (215, 24, 2, 100, 0, 0), (217, 16, 3, 2, 38, 0), (220, 3, 1, 0, 0, 0), (221, 1, 2, 0, 0, 20), (223, 24, 2, 100, 0, 0), (225, 16, 3, 2, 39, 0), (228, 3, 1, 0, 0, 0), (229, 1, 2, 0, 0, 20), (231, 24, 2, 100, 0, 0), (233, 16, 3, 2, 40, 0), (236, 3, 1, 0, 0, 0), (237, 1, 2, 0, 0, 20), (239, 24, 2, 100, 0, 0), (241, 16, 3, 2, 41, 0)]
def dh_c27_2 : List (Nat × jm_In) := [(244, 3, 1, 0, 0, 0), (245, 1, 3, 0, 0, 240), (248, 24, 2, 100, 0, 0), (250, 16, 3, 2, 42, 0), (253, 39, 1, 0, 0, 0)]
/-- DeltaHistoryModel.<init>()V -/
def dh_c27 : List (Nat × jm_In) := dh_c27_0 ++ (dh_c27_1 ++ (dh_c27_2))
/-- DeltaHistoryModel.thrown()I -/
def dh_c28 : List (Nat × jm_In) := [(0, 3, 1, 0, 0, 0), (1, 12, 3, 2, 0, 0), (4, 37, 1, 0, 0, 0)]
/-- DeltaHistoryModel.isLine(I)Z -/
def dh_c29 : List (Nat × jm_In) := [(0, 2, 1, 0, 0, 0), (1, 1, 1, 0, 0, 1), (2, 9, 3, 2, 15, 0), (5, 2, 1, 0, 0, 0), (6, 1, 2, 0, 0, 99), (8, 9, 3, 4, 15, 0), (11, 1, 1, 0, 0, 1), (12, 10, 3, 0, 16, 0), (15, 1, 1, 0, 0, 0), (16, 38, 1, 0, 0, 0)]
/-- DeltaHistoryModel.byteOf(IIII)I -/
def dh_c30 : List (Nat × jm_In) := [(0, 2, 1, 0, 0, 0), (1, 1, 1, 0, 0, 4), (2, 9, 3, 3, 9, 0), (5, 2, 1, 1, 0, 0), (6, 10, 3, 0, 20, 0), (9, 2, 1, 0, 0, 0), (10, 1, 2, 0, 0, 8), (12, 9, 3, 3, 19, 0), (15, 2, 1, 2, 0, 0), (16, 10, 3, 0, 20, 0), (19, 2, 1, 3, 0, 0), (20, 4, 2, 4, 0, 0), (22, 2, 2, 4, 0, 0), (24, 1, 2, 0, 0, 24), (26, 1, 2, 0, 0, 8), (28, 2, 1, 0, 0, 0), (29, 1, 1, 0, 0, 4), (30, 50, 1, 0, 0, 0), (31, 7, 1, 2, 0, 0), (32, 7, 1, 1, 0, 0), (33, 7, 1, 7, 0, 0), (34, 1, 3, 0, 0, 255), (37, 7, 1, 3, 0, 0), (38, 37, 1, 0, 0, 0)]
/-- DeltaHistoryModel.desk(III)Z -/
def dh_c31 : List (Nat × jm_In) := [(0, 3, 1, 0, 0, 0), (1, 1, 1, 0, 0, 0), (2, 14, 3, 2, 0, 0), (5, 1, 1, 0, 0, 0), (6, 4, 2, 4, 0, 0), (8, 2, 2, 4, 0, 0), (10, 1, 2, 0, 0, 12), (12, 9, 3, 3, 46, 0), (15, 2, 2, 4, 0, 0), (17, 2, 1, 1, 0, 0), (18, 2, 1, 2, 0, 0), (19, 2, 1, 3, 0, 0), (20, 32, 3, 30, 4, 0), (23, 4, 2, 5, 0, 0), (25, 2, 2, 5, 0, 0), (27, 8, 3, 0, 40, 0), (30, 2, 2, 5, 0, 0), (32, 32, 3, 29, 1, 0), (35, 8, 3, 1, 40, 0), (38, 1, 1, 0, 0, 0), (39, 38, 1, 0, 0, 0), (40, 6, 3, 4, 0, 1), (43, 10, 3, 0, 8, 0), (46, 3, 1, 0, 0, 0), (47, 1, 1, 0, 0, 0), (48, 14, 3, 2, 10, 0), (51, 1, 1, 0, 0, 0), (52, 4, 2, 4, 0, 0), (54, 2, 2, 4, 0, 0), (56, 1, 2, 0, 0, 12), (58, 9, 3, 3, 103, 0), (61, 2, 2, 4, 0, 0), (63, 2, 1, 1, 0, 0), (64, 2, 1, 2, 0, 0), (65, 2, 1, 3, 0, 0), (66, 32, 3, 30, 4, 0), (69, 4, 2, 5, 0, 0), (71, 2, 2, 5, 0, 0), (73, 8, 3, 0, 97, 0), (76, 3, 1, 0, 0, 0), (77, 13, 3, 2, 9, 0), (80, 3, 1, 0, 0, 0), (81, 12, 3, 2, 10, 0), (84, 2, 2, 5, 0, 0), (86, 19, 1, 0, 0, 0), (87, 3, 1, 0, 0, 0), (88, 29, 1, 0, 0, 0), (89, 12, 3, 2, 10, 0), (92, 1, 1, 0, 0, 1), (93, 7, 1, 0, 0, 0), (94, 14, 3, 2, 10, 0), (97, 6, 3, 4, 0, 1), (100, 10, 3, 0, 54, 0), (103, 1, 1, 0, 0, 1), (104, 38, 1, 0, 0, 0)]
/-- DeltaHistoryModel.insert(II)Z -/
def dh_c32 : List (Nat × jm_In) := [(0, 3, 1, 0, 0, 0), (1, 1, 1, 0, 0, 0), (2, 14, 3, 2, 0, 0), (5, 2, 1, 2, 0, 0), (6, 32, 3, 29, 1, 0), (9, 8, 3, 0, 33, 0), (12, 3, 1, 0, 0, 0), (13, 12, 3, 2, 10, 0), (16, 1, 2, 0, 0, 12), (18, 9, 3, 0, 33, 0), (21, 2, 1, 1, 0, 0), (22, 8, 3, 2, 33, 0), (25, 2, 1, 1, 0, 0), (26, 3, 1, 0, 0, 0), (27, 12, 3, 2, 10, 0), (30, 9, 3, 5, 35, 0), (33, 1, 1, 0, 0, 0), (34, 38, 1, 0, 0, 0), (35, 3, 1, 0, 0, 0), (36, 12, 3, 2, 10, 0), (39, 4, 1, 3, 0, 0), (40, 2, 1, 3, 0, 0), (41, 2, 1, 1, 0, 0), (42, 9, 3, 5, 65, 0), (45, 3, 1, 0, 0, 0), (46, 13, 3, 2, 9, 0), (49, 2, 1, 3, 0, 0), (50, 3, 1, 0, 0, 0), (51, 13, 3, 2, 9, 0), (54, 2, 1, 3, 0, 0), (55, 1, 1, 0, 0, 1), (56, 7, 1, 1, 0, 0), (57, 17, 1, 0, 0, 0), (58, 19, 1, 0, 0, 0), (59, 6, 3, 3, 0, -1), (62, 10, 3, 0, 40, 0), (65, 3, 1, 0, 0, 0), (66, 13, 3, 2, 9, 0), (69, 2, 1, 1, 0, 0), (70, 2, 1, 2, 0, 0), (71, 19, 1, 0, 0, 0), (72, 3, 1, 0, 0, 0), (73, 29, 1, 0, 0, 0), (74, 12, 3, 2, 10, 0), (77, 1, 1, 0, 0, 1), (78, 7, 1, 0, 0, 0), (79, 14, 3, 2, 10, 0), (82, 1, 1, 0, 0, 1), (83, 38, 1, 0, 0, 0)]
/-- DeltaHistoryModel.remove(I)I -/
def dh_c33 : List (Nat × jm_In) := [(0, 3, 1, 0, 0, 0), (1, 1, 1, 0, 0, 0), (2, 14, 3, 2, 0, 0), (5, 2, 1, 1, 0, 0), (6, 8, 3, 2, 17, 0), (9, 2, 1, 1, 0, 0), (10, 3, 1, 0, 0, 0), (11, 12, 3, 2, 10, 0), (14, 9, 3, 2, 19, 0), (17, 1, 1, 0, 0, -1), (18, 37, 1, 0, 0, 0), (19, 3, 1, 0, 0, 0), (20, 13, 3, 2, 9, 0), (23, 2, 1, 1, 0, 0), (24, 17, 1, 0, 0, 0), (25, 4, 1, 2, 0, 0), (26, 3, 1, 0, 0, 0), (27, 29, 1, 0, 0, 0), (28, 12, 3, 2, 10, 0), (31, 1, 1, 0, 0, 1), (32, 7, 1, 1, 0, 0), (33, 14, 3, 2, 10, 0), (36, 2, 1, 1, 0, 0), (37, 4, 1, 3, 0, 0), (38, 2, 1, 3, 0, 0), (39, 3, 1, 0, 0, 0), (40, 12, 3, 2, 10, 0), (43, 9, 3, 3, 66, 0), (46, 3, 1, 0, 0, 0), (47, 13, 3, 2, 9, 0), (50, 2, 1, 3, 0, 0), (51, 3, 1, 0, 0, 0), (52, 13, 3, 2, 9, 0), (55, 2, 1, 3, 0, 0), (56, 1, 1, 0, 0, 1), (57, 7, 1, 0, 0, 0), (58, 17, 1, 0, 0, 0), (59, 19, 1, 0, 0, 0), (60, 6, 3, 3, 0, 1), (63, 10, 3, 0, 38, 0), (66, 2, 1, 2, 0, 0), (67, 37, 1, 0, 0, 0)]
/-- DeltaHistoryModel.lines()I -/
def dh_c34 : List (Nat × jm_In) := [(0, 3, 1, 0, 0, 0), (1, 1, 1, 0, 0, 0), (2, 14, 3, 2, 0, 0), (5, 3, 1, 0, 0, 0), (6, 12, 3, 2, 10, 0), (9, 37, 1, 0, 0, 0)]
/-- DeltaHistoryModel.line(I)I -/
def dh_c35 : List (Nat × jm_In) := [(0, 3, 1, 0, 0, 0), (1, 1, 1, 0, 0, 0), (2, 14, 3, 2, 0, 0), (5, 2, 1, 1, 0, 0), (6, 8, 3, 2, 17, 0), (9, 2, 1, 1, 0, 0), (10, 3, 1, 0, 0, 0), (11, 12, 3, 2, 10, 0), (14, 9, 3, 2, 21, 0), (17, 1, 1, 0, 0, -1), (18, 10, 3, 0, 27, 0), (21, 3, 1, 0, 0, 0), (22, 13, 3, 2, 9, 0), (25, 2, 1, 1, 0, 0), (26, 17, 1, 0, 0, 0), (27, 37, 1, 0, 0, 0)]
/-- DeltaHistoryModel.nextOf(I)I -/
def dh_c36 : List (Nat × jm_In) := [(0, 2, 1, 1, 0, 0), (1, 1, 1, 0, 0, 1), (2, 7, 1, 0, 0, 0), (3, 4, 1, 2, 0, 0), (4, 2, 1, 2, 0, 0), (5, 3, 1, 0, 0, 0), (6, 12, 3, 2, 1, 0), (9, 9, 3, 3, 30, 0), (12, 3, 1, 0, 0, 0), (13, 13, 3, 2, 2, 0), (16, 2, 1, 2, 0, 0), (17, 17, 1, 0, 0, 0), (18, 2, 1, 1, 0, 0), (19, 9, 3, 1, 24, 0), (22, 2, 1, 2, 0, 0), (23, 37, 1, 0, 0, 0), (24, 6, 3, 2, 0, 1), (27, 10, 3, 0, 4, 0), (30, 1, 1, 0, 0, -1), (31, 37, 1, 0, 0, 0)]
/-- DeltaHistoryModel.onTrunk(I)Z -/
def dh_c37 : List (Nat × jm_In) := [(0, 1, 1, 0, 0, 0), (1, 4, 1, 2, 0, 0), (2, 2, 1, 2, 0, 0), (3, 8, 3, 2, 20, 0), (6, 2, 1, 2, 0, 0), (7, 2, 1, 1, 0, 0), (8, 9, 3, 0, 20, 0), (11, 3, 1, 0, 0, 0), (12, 2, 1, 2, 0, 0), (13, 32, 3, 36, 2, 0), (16, 4, 1, 2, 0, 0), (17, 10, 3, 0, 2, 0), (20, 2, 1, 2, 0, 0), (21, 2, 1, 1, 0, 0), (22, 9, 3, 1, 29, 0), (25, 1, 1, 0, 0, 1), (26, 10, 3, 0, 30, 0), (29, 1, 1, 0, 0, 0), (30, 38, 1, 0, 0, 0)]
/-- DeltaHistoryModel.head()I -/
def dh_c38 : List (Nat × jm_In) := [(0, 1, 1, 0, 0, 0), (1, 4, 1, 1, 0, 0), (2, 3, 1, 0, 0, 0), (3, 2, 1, 1, 0, 0), (4, 32, 3, 36, 2, 0), (7, 8, 3, 2, 19, 0), (10, 3, 1, 0, 0, 0), (11, 2, 1, 1, 0, 0), (12, 32, 3, 36, 2, 0), (15, 4, 1, 1, 0, 0), (16, 10, 3, 0, 2, 0), (19, 2, 1, 1, 0, 0), (20, 37, 1, 0, 0, 0)]
/-- DeltaHistoryModel.branch(I)I -/
def dh_c39 : List (Nat × jm_In) := [(0, 1, 1, 0, 0, 0), (1, 4, 1, 2, 0, 0), (2, 3, 1, 0, 0, 0), (3, 13, 3, 2, 2, 0), (6, 2, 1, 1, 0, 0), (7, 17, 1, 0, 0, 0), (8, 1, 1, 0, 0, 1), (9, 7, 1, 0, 0, 0), (10, 4, 1, 3, 0, 0), (11, 2, 1, 3, 0, 0), (12, 2, 1, 1, 0, 0), (13, 9, 3, 3, 45, 0), (16, 3, 1, 0, 0, 0), (17, 13, 3, 2, 2, 0), (20, 2, 1, 3, 0, 0), (21, 17, 1, 0, 0, 0), (22, 3, 1, 0, 0, 0), (23, 13, 3, 2, 2, 0), (26, 2, 1, 1, 0, 0), (27, 17, 1, 0, 0, 0), (28, 9, 3, 1, 37, 0), (31, 2, 1, 2, 0, 0), (32, 1, 1, 0, 0, 1), (33, 7, 1, 0, 0, 0), (34, 10, 3, 0, 38, 0), (37, 2, 1, 2, 0, 0), (38, 4, 1, 2, 0, 0), (39, 6, 3, 3, 0, 1), (42, 10, 3, 0, 11, 0), (45, 2, 1, 2, 0, 0), (46, 37, 1, 0, 0, 0)]
def dh_c40_0 : List (Nat × jm_In) := [(0, 3, 1, 0, 0, 0), (1, 13, 3, 2, 2, 0), (4, 2, 1, 1, 0, 0), (5, 17, 1, 0, 0, 0), (6, 4, 1, 2, 0, 0), (7, 2, 1, 2, 0, 0), (8, 8, 3, 3, 15, 0), (11, 1, 1, 0, 0, 2), (12, 10, 3, 0, 21, 0), (15, 3, 1, 0, 0, 0), (16, 13, 3, 2, 7, 0), (19, 2, 1, 2, 0, 0), (20, 17, 1, 0, 0, 0), (21, 4, 1, 3, 0, 0), (22, 1, 1, 0, 0, 0), (23, 4, 2, 4, 0, 0), (25, 2, 2, 4, 0, 0), (27, 2, 1, 3, 0, 0), (28, 9, 3, 3, 69, 0), (31, 3, 1, 0, 0, 0), (32, 13, 3, 2, 8, 0), (35, 1, 2, 0, 0, 42), (37, 2, 1, 1, 0, 0), (38, 7, 1, 2, 0, 0), (39, 2, 2, 4, 0, 0), (41, 7, 1, 0, 0, 0), (42, 2, 1, 2, 0, 0), (43, 8, 3, 3, 50, 0), (46, 1, 1, 0, 0, 1), (47, 10, 3, 0, 62, 0), (50, 3, 1, 0, 0, 0), (51, 13, 3, 2, 8, 0), (54, 1, 2, 0, 0, 42), (56, 2, 1, 2, 0, 0), (57, 7, 1, 2, 0, 0), (58, 2, 2, 4, 0, 0), (60, 7, 1, 0, 0, 0), (61, 17, 1, 0, 0, 0), (62, 19, 1, 0, 0, 0), (63, 6, 3, 4, 0, 1), (66, 10, 3, 0, 25, 0), (69, 2, 1, 2, 0, 0), (70, 8, 3, 3, 77, 0), (73, 1, 1, 0, 0, 0), (74, 10, 3, 0, 82, 0), (77, 3, 1, 0, 0, 0), (78, 2, 1, 1, 0, 0), (79, 32, 3, 39, 2, 0), (82, 4, 2, 4, 0, 0), (84, 2, 1, 2, 0, 0), (85, 8, 3, 2, 110, 0), (88, 2, 2, 4, 0, 0), (90, 8, 3, 1, 110, 0), (93, 3, 1, 0, 0, 0), (94, 13, 3, 2, 8, 0), (97, 1, 2, 0, 0, 42), (99, 2, 1, 1, 0, 0), (100, 7, 1, 2, 0, 0), (101, 2, 1, 3, 0, 0), (102, 7, 1, 0, 0, 0)]
def dh_c40_1 : List (Nat × jm_In) := [(103, 1, 1, 0, 0, 1), (104, 7, 1, 1, 0, 0), (105, 30, 1, 0, 0, 0), (106, 17, 1, 0, 0, 0), (107, 1, 1, 0, 0, 1), (108, 7, 1, 0, 0, 0), (109, 19, 1, 0, 0, 0), (110, 2, 2, 4, 0, 0), (112, 8, 3, 5, 146, 0), (115, 3, 1, 0, 0, 0), (116, 13, 3, 2, 8, 0), (119, 1, 2, 0, 0, 42), (121, 2, 1, 1, 0, 0), (122, 7, 1, 2, 0, 0), (123, 2, 1, 3, 0, 0), (124, 7, 1, 0, 0, 0), (125, 2, 2, 4, 0, 0), (127, 19, 1, 0, 0, 0), (128, 3, 1, 0, 0, 0), (129, 13, 3, 2, 8, 0), (132, 1, 2, 0, 0, 42), (134, 2, 1, 1, 0, 0), (135, 7, 1, 2, 0, 0), (136, 2, 1, 3, 0, 0), (137, 7, 1, 0, 0, 0), (138, 1, 1, 0, 0, 1), (139, 7, 1, 0, 0, 0), (140, 1, 1, 0, 0, 1), (141, 19, 1, 0, 0, 0), (142, 2, 1, 3, 0, 0), (143, 1, 1, 0, 0, 2), (144, 7, 1, 0, 0, 0), (145, 4, 1, 3, 0, 0), (146, 3, 1, 0, 0, 0), (147, 13, 3, 2, 7, 0), (150, 2, 1, 1, 0, 0), (151, 2, 1, 3, 0, 0), (152, 19, 1, 0, 0, 0), (153, 39, 1, 0, 0, 0)]
/-- DeltaHistoryModel.nameIt(I)V -/
def dh_c40 : List (Nat × jm_In) := dh_c40_0 ++ (dh_c40_1)
/-- DeltaHistoryModel.firstIs(I)V -/
def dh_c41 : List (Nat × jm_In) := [(0, 3, 1, 0, 0, 0), (1, 2, 1, 1, 0, 0), (2, 8, 3, 3, 9, 0), (5, 1, 1, 0, 0, 0), (6, 10, 3, 0, 15, 0), (9, 3, 1, 0, 0, 0), (10, 13, 3, 2, 5, 0), (13, 2, 1, 1, 0, 0), (14, 17, 1, 0, 0, 0), (15, 14, 3, 2, 16, 0), (18, 1, 1, 0, 0, 0), (19, 4, 1, 2, 0, 0), (20, 2, 1, 2, 0, 0), (21, 3, 1, 0, 0, 0), (22, 12, 3, 2, 16, 0), (25, 9, 3, 3, 51, 0), (28, 3, 1, 0, 0, 0), (29, 13, 3, 2, 17, 0), (32, 2, 1, 2, 0, 0), (33, 3, 1, 0, 0, 0), (34, 13, 3, 2, 6, 0), (37, 1, 2, 0, 0, 12), (39, 2, 1, 1, 0, 0), (40, 7, 1, 2, 0, 0), (41, 2, 1, 2, 0, 0), (42, 7, 1, 0, 0, 0), (43, 17, 1, 0, 0, 0), (44, 19, 1, 0, 0, 0), (45, 6, 3, 2, 0, 1), (48, 10, 3, 0, 20, 0), (51, 39, 1, 0, 0, 0)]
/-- DeltaHistoryModel.secondIs(I)V -/
def dh_c42 : List (Nat × jm_In) := [(0, 3, 1, 0, 0, 0), (1, 3, 1, 0, 0, 0), (2, 13, 3, 2, 5, 0), (5, 2, 1, 1, 0, 0), (6, 17, 1, 0, 0, 0), (7, 14, 3, 2, 18, 0), (10, 1, 1, 0, 0, 0), (11, 4, 1, 2, 0, 0), (12, 2, 1, 2, 0, 0), (13, 3, 1, 0, 0, 0), (14, 12, 3, 2, 18, 0), (17, 9, 3, 3, 43, 0), (20, 3, 1, 0, 0, 0), (21, 13, 3, 2, 19, 0), (24, 2, 1, 2, 0, 0), (25, 3, 1, 0, 0, 0), (26, 13, 3, 2, 6, 0), (29, 1, 2, 0, 0, 12), (31, 2, 1, 1, 0, 0), (32, 7, 1, 2, 0, 0), (33, 2, 1, 2, 0, 0), (34, 7, 1, 0, 0, 0), (35, 17, 1, 0, 0, 0), (36, 19, 1, 0, 0, 0), (37, 6, 3, 2, 0, 1), (40, 10, 3, 0, 12, 0), (43, 39, 1, 0, 0, 0)]
def dh_c43_0 : List (Nat × jm_In) := [(0, 3, 1, 0, 0, 0), (1, 12, 3, 2, 16, 0), (4, 4, 1, 1, 0, 0), (5, 2, 1, 1, 0, 0), (6, 8, 3, 2, 159, 0), (9, 3, 1, 0, 0, 0), (10, 12, 3, 2, 18, 0), (13, 4, 1, 2, 0, 0), (14, 2, 1, 2, 0, 0), (15, 8, 3, 2, 153, 0), (18, 1, 1, 0, 0, 0), (19, 4, 1, 3, 0, 0), (20, 2, 1, 1, 0, 0), (21, 3, 1, 0, 0, 0), (22, 12, 3, 2, 16, 0), (25, 9, 3, 3, 135, 0), (28, 2, 1, 2, 0, 0), (29, 3, 1, 0, 0, 0), (30, 12, 3, 2, 18, 0), (33, 9, 3, 3, 135, 0), (36, 3, 1, 0, 0, 0), (37, 13, 3, 2, 20, 0), (40, 1, 2, 0, 0, 14), (42, 2, 1, 1, 0, 0), (43, 1, 1, 0, 0, 1), (44, 7, 1, 0, 0, 0), (45, 7, 1, 2, 0, 0), (46, 2, 1, 2, 0, 0), (47, 7, 1, 0, 0, 0), (48, 17, 1, 0, 0, 0), (49, 4, 2, 4, 0, 0), (51, 3, 1, 0, 0, 0), (52, 13, 3, 2, 20, 0), (55, 1, 2, 0, 0, 14), (57, 2, 1, 1, 0, 0), (58, 7, 1, 2, 0, 0), (59, 2, 1, 2, 0, 0), (60, 7, 1, 0, 0, 0), (61, 1, 1, 0, 0, 1), (62, 7, 1, 0, 0, 0), (63, 17, 1, 0, 0, 0), (64, 4, 2, 5, 0, 0), (66, 2, 2, 4, 0, 0), (68, 2, 2, 5, 0, 0), (70, 9, 3, 5, 78, 0), (73, 2, 2, 4, 0, 0), (75, 10, 3, 0, 80, 0), (78, 2, 2, 5, 0, 0), (80, 4, 1, 3, 0, 0), (81, 3, 1, 0, 0, 0), (82, 13, 3, 2, 17, 0), (85, 2, 1, 1, 0, 0), (86, 17, 1, 0, 0, 0), (87, 3, 1, 0, 0, 0), (88, 13, 3, 2, 19, 0), (91, 2, 1, 2, 0, 0), (92, 17, 1, 0, 0, 0), (93, 9, 3, 1, 135, 0), (96, 3, 1, 0, 0, 0), (97, 13, 3, 2, 20, 0)]
def dh_c43_1 : List (Nat × jm_In) := [(100, 1, 2, 0, 0, 14), (102, 2, 1, 1, 0, 0), (103, 1, 1, 0, 0, 1), (104, 7, 1, 0, 0, 0), (105, 7, 1, 2, 0, 0), (106, 2, 1, 2, 0, 0), (107, 7, 1, 0, 0, 0), (108, 1, 1, 0, 0, 1), (109, 7, 1, 0, 0, 0), (110, 17, 1, 0, 0, 0), (111, 1, 1, 0, 0, 1), (112, 7, 1, 0, 0, 0), (113, 2, 1, 3, 0, 0), (114, 9, 3, 5, 135, 0), (117, 3, 1, 0, 0, 0), (118, 13, 3, 2, 20, 0), (121, 1, 2, 0, 0, 14), (123, 2, 1, 1, 0, 0), (124, 1, 1, 0, 0, 1), (125, 7, 1, 0, 0, 0), (126, 7, 1, 2, 0, 0), (127, 2, 1, 2, 0, 0), (128, 7, 1, 0, 0, 0), (129, 1, 1, 0, 0, 1), (130, 7, 1, 0, 0, 0), (131, 17, 1, 0, 0, 0), (132, 1, 1, 0, 0, 1), (133, 7, 1, 0, 0, 0), (134, 4, 1, 3, 0, 0), (135, 3, 1, 0, 0, 0), (136, 13, 3, 2, 20, 0), (139, 1, 2, 0, 0, 14), (141, 2, 1, 1, 0, 0), (142, 7, 1, 2, 0, 0), (143, 2, 1, 2, 0, 0), (144, 7, 1, 0, 0, 0), (145, 2, 1, 3, 0, 0), (146, 19, 1, 0, 0, 0), (147, 6, 3, 2, 0, -1), (150, 10, 3, 0, 14, 0), (153, 6, 3, 1, 0, -1), (156, 10, 3, 0, 5, 0), (159, 39, 1, 0, 0, 0)]
/-- DeltaHistoryModel.findCommon()V -/
def dh_c43 : List (Nat × jm_In) := dh_c43_0 ++ (dh_c43_1)
/-- DeltaHistoryModel.note(IIIZ)V -/
def dh_c44 : List (Nat × jm_In) := [(0, 2, 2, 4, 0, 0), (2, 8, 3, 0, 36, 0), (5, 3, 1, 0, 0, 0), (6, 13, 3, 2, 22, 0), (9, 3, 1, 0, 0, 0), (10, 12, 3, 2, 21, 0), (13, 1, 1, 0, 0, 1), (14, 7, 1, 1, 0, 0), (15, 17, 1, 0, 0, 0), (16, 2, 1, 1, 0, 0), (17, 9, 3, 1, 36, 0), (20, 3, 1, 0, 0, 0), (21, 13, 3, 2, 24, 0), (24, 3, 1, 0, 0, 0), (25, 12, 3, 2, 21, 0), (28, 1, 1, 0, 0, 1), (29, 7, 1, 1, 0, 0), (30, 30, 1, 0, 0, 0), (31, 17, 1, 0, 0, 0), (32, 1, 1, 0, 0, 1), (33, 7, 1, 0, 0, 0), (34, 19, 1, 0, 0, 0), (35, 39, 1, 0, 0, 0), (36, 3, 1, 0, 0, 0), (37, 13, 3, 2, 22, 0), (40, 3, 1, 0, 0, 0), (41, 12, 3, 2, 21, 0), (44, 2, 1, 1, 0, 0), (45, 19, 1, 0, 0, 0), (46, 3, 1, 0, 0, 0), (47, 13, 3, 2, 23, 0), (50, 3, 1, 0, 0, 0), (51, 12, 3, 2, 21, 0), (54, 2, 1, 2, 0, 0), (55, 19, 1, 0, 0, 0), (56, 3, 1, 0, 0, 0), (57, 13, 3, 2, 24, 0), (60, 3, 1, 0, 0, 0), (61, 12, 3, 2, 21, 0), (64, 1, 1, 0, 0, 1), (65, 19, 1, 0, 0, 0), (66, 3, 1, 0, 0, 0), (67, 13, 3, 2, 25, 0), (70, 3, 1, 0, 0, 0), (71, 12, 3, 2, 21, 0), (74, 2, 1, 3, 0, 0), (75, 19, 1, 0, 0, 0), (76, 3, 1, 0, 0, 0), (77, 29, 1, 0, 0, 0), (78, 12, 3, 2, 21, 0), (81, 1, 1, 0, 0, 1), (82, 7, 1, 0, 0, 0), (83, 14, 3, 2, 21, 0), (86, 39, 1, 0, 0, 0)]
def dh_c45_0 : List (Nat × jm_In) := [(0, 3, 1, 0, 0, 0), (1, 32, 3, 43, 1, 0), (4, 3, 1, 0, 0, 0), (5, 1, 1, 0, 0, 0), (6, 14, 3, 2, 21, 0), (9, 1, 1, 0, 0, 0), (10, 4, 1, 1, 0, 0), (11, 1, 1, 0, 0, 0), (12, 4, 1, 2, 0, 0), (13, 1, 1, 0, 0, 0), (14, 4, 1, 3, 0, 0), (15, 2, 1, 1, 0, 0), (16, 3, 1, 0, 0, 0), (17, 12, 3, 2, 16, 0), (20, 9, 3, 2, 31, 0), (23, 2, 1, 2, 0, 0), (24, 3, 1, 0, 0, 0), (25, 12, 3, 2, 18, 0), (28, 9, 3, 3, 150, 0), (31, 2, 1, 1, 0, 0), (32, 3, 1, 0, 0, 0), (33, 12, 3, 2, 16, 0), (36, 9, 3, 3, 73, 0), (39, 2, 1, 2, 0, 0), (40, 3, 1, 0, 0, 0), (41, 12, 3, 2, 18, 0), (44, 9, 3, 3, 73, 0), (47, 3, 1, 0, 0, 0), (48, 13, 3, 2, 17, 0), (51, 2, 1, 1, 0, 0), (52, 17, 1, 0, 0, 0), (53, 3, 1, 0, 0, 0), (54, 13, 3, 2, 19, 0), (57, 2, 1, 2, 0, 0), (58, 17, 1, 0, 0, 0), (59, 9, 3, 1, 73, 0), (62, 6, 3, 1, 0, 1), (65, 6, 3, 2, 0, 1), (68, 1, 1, 0, 0, 0), (69, 4, 1, 3, 0, 0), (70, 10, 3, 0, 15, 0), (73, 2, 1, 1, 0, 0), (74, 3, 1, 0, 0, 0), (75, 12, 3, 2, 16, 0), (78, 9, 3, 3, 134, 0), (81, 2, 1, 2, 0, 0), (82, 3, 1, 0, 0, 0), (83, 12, 3, 2, 18, 0), (86, 9, 3, 0, 118, 0), (89, 3, 1, 0, 0, 0), (90, 13, 3, 2, 20, 0), (93, 1, 2, 0, 0, 14), (95, 2, 1, 1, 0, 0), (96, 1, 1, 0, 0, 1), (97, 7, 1, 0, 0, 0), (98, 7, 1, 2, 0, 0), (99, 2, 1, 2, 0, 0), (100, 7, 1, 0, 0, 0), (101, 17, 1, 0, 0, 0), (102, 3, 1, 0, 0, 0)]
def dh_c45_1 : List (Nat × jm_In) := [(103, 13, 3, 2, 20, 0), (106, 1, 2, 0, 0, 14), (108, 2, 1, 1, 0, 0), (109, 7, 1, 2, 0, 0), (110, 2, 1, 2, 0, 0), (111, 7, 1, 0, 0, 0), (112, 1, 1, 0, 0, 1), (113, 7, 1, 0, 0, 0), (114, 17, 1, 0, 0, 0), (115, 9, 3, 2, 134, 0), (118, 3, 1, 0, 0, 0), (119, 1, 1, 0, 0, 0), (120, 2, 1, 1, 0, 0), (121, 2, 1, 2, 0, 0), (122, 2, 1, 3, 0, 0), (123, 32, 3, 44, 5, 0), (126, 6, 3, 1, 0, 1), (129, 1, 1, 0, 0, 1), (130, 4, 1, 3, 0, 0), (131, 10, 3, 0, 15, 0), (134, 3, 1, 0, 0, 0), (135, 1, 1, 0, 0, 1), (136, 2, 1, 1, 0, 0), (137, 2, 1, 2, 0, 0), (138, 2, 1, 3, 0, 0), (139, 32, 3, 44, 5, 0), (142, 6, 3, 2, 0, 1), (145, 1, 1, 0, 0, 1), (146, 4, 1, 3, 0, 0), (147, 10, 3, 0, 15, 0), (150, 39, 1, 0, 0, 0)]
/-- DeltaHistoryModel.makeDelta()V -/
def dh_c45 : List (Nat × jm_In) := dh_c45_0 ++ (dh_c45_1)
/-- DeltaHistoryModel.put(I)V -/
def dh_c46 : List (Nat × jm_In) := [(0, 3, 1, 0, 0, 0), (1, 13, 3, 2, 33, 0), (4, 3, 1, 0, 0, 0), (5, 12, 3, 2, 32, 0), (8, 2, 1, 1, 0, 0), (9, 19, 1, 0, 0, 0), (10, 3, 1, 0, 0, 0), (11, 29, 1, 0, 0, 0), (12, 12, 3, 2, 32, 0), (15, 1, 1, 0, 0, 1), (16, 7, 1, 0, 0, 0), (17, 14, 3, 2, 32, 0), (20, 39, 1, 0, 0, 0)]
/-- DeltaHistoryModel.putDelta()V -/
def dh_c47 : List (Nat × jm_In) := [(0, 3, 1, 0, 0, 0), (1, 3, 1, 0, 0, 0), (2, 12, 3, 2, 21, 0), (5, 32, 3, 46, 2, 0), (8, 1, 1, 0, 0, 0), (9, 4, 1, 1, 0, 0), (10, 2, 1, 1, 0, 0), (11, 3, 1, 0, 0, 0), (12, 12, 3, 2, 21, 0), (15, 9, 3, 3, 99, 0), (18, 3, 1, 0, 0, 0), (19, 3, 1, 0, 0, 0), (20, 13, 3, 2, 22, 0), (23, 2, 1, 1, 0, 0), (24, 17, 1, 0, 0, 0), (25, 32, 3, 46, 2, 0), (28, 3, 1, 0, 0, 0), (29, 3, 1, 0, 0, 0), (30, 13, 3, 2, 23, 0), (33, 2, 1, 1, 0, 0), (34, 17, 1, 0, 0, 0), (35, 32, 3, 46, 2, 0), (38, 3, 1, 0, 0, 0), (39, 3, 1, 0, 0, 0), (40, 13, 3, 2, 24, 0), (43, 2, 1, 1, 0, 0), (44, 17, 1, 0, 0, 0), (45, 32, 3, 46, 2, 0), (48, 1, 1, 0, 0, 0), (49, 4, 1, 2, 0, 0), (50, 2, 1, 2, 0, 0), (51, 3, 1, 0, 0, 0), (52, 13, 3, 2, 24, 0), (55, 2, 1, 1, 0, 0), (56, 17, 1, 0, 0, 0), (57, 9, 3, 3, 93, 0), (60, 3, 1, 0, 0, 0), (61, 13, 3, 2, 22, 0), (64, 2, 1, 1, 0, 0), (65, 17, 1, 0, 0, 0), (66, 1, 1, 0, 0, 1), (67, 9, 3, 1, 93, 0), (70, 3, 1, 0, 0, 0), (71, 3, 1, 0, 0, 0), (72, 13, 3, 2, 19, 0), (75, 3, 1, 0, 0, 0), (76, 13, 3, 2, 25, 0), (79, 2, 1, 1, 0, 0), (80, 17, 1, 0, 0, 0), (81, 2, 1, 2, 0, 0), (82, 7, 1, 0, 0, 0), (83, 17, 1, 0, 0, 0), (84, 32, 3, 46, 2, 0), (87, 6, 3, 2, 0, 1), (90, 10, 3, 0, 50, 0), (93, 6, 3, 1, 0, 1), (96, 10, 3, 0, 10, 0), (99, 39, 1, 0, 0, 0)]
def dh_c48_0 : List (Nat × jm_In) := [(0, 3, 1, 0, 0, 0), (1, 1, 1, 0, 0, 0), (2, 14, 3, 2, 32, 0), (5, 3, 1, 0, 0, 0), (6, 3, 1, 0, 0, 0), (7, 12, 3, 2, 1, 0), (10, 32, 3, 46, 2, 0), (13, 1, 1, 0, 0, 0), (14, 4, 1, 1, 0, 0), (15, 2, 1, 1, 0, 0), (16, 3, 1, 0, 0, 0), (17, 12, 3, 2, 1, 0), (20, 9, 3, 3, 63, 0), (23, 3, 1, 0, 0, 0), (24, 3, 1, 0, 0, 0), (25, 13, 3, 2, 2, 0), (28, 2, 1, 1, 0, 0), (29, 17, 1, 0, 0, 0), (30, 1, 1, 0, 0, 1), (31, 7, 1, 0, 0, 0), (32, 32, 3, 46, 2, 0), (35, 3, 1, 0, 0, 0), (36, 3, 1, 0, 0, 0), (37, 13, 3, 2, 3, 0), (40, 2, 1, 1, 0, 0), (41, 17, 1, 0, 0, 0), (42, 32, 3, 46, 2, 0), (45, 3, 1, 0, 0, 0), (46, 3, 1, 0, 0, 0), (47, 13, 3, 2, 4, 0), (50, 2, 1, 1, 0, 0), (51, 17, 1, 0, 0, 0), (52, 1, 1, 0, 0, 1), (53, 7, 1, 0, 0, 0), (54, 32, 3, 46, 2, 0), (57, 6, 3, 1, 0, 1), (60, 10, 3, 0, 15, 0), (63, 1, 1, 0, 0, 0), (64, 4, 1, 1, 0, 0), (65, 2, 1, 1, 0, 0), (66, 3, 1, 0, 0, 0), (67, 12, 3, 2, 1, 0), (70, 9, 3, 3, 172, 0), (73, 2, 1, 1, 0, 0), (74, 3, 1, 0, 0, 0), (75, 32, 3, 38, 1, 0), (78, 9, 3, 1, 127, 0), (81, 3, 1, 0, 0, 0), (82, 3, 1, 0, 0, 0), (83, 13, 3, 2, 5, 0), (86, 2, 1, 1, 0, 0), (87, 17, 1, 0, 0, 0), (88, 32, 3, 46, 2, 0), (91, 1, 1, 0, 0, 0), (92, 4, 1, 2, 0, 0), (93, 2, 1, 2, 0, 0), (94, 3, 1, 0, 0, 0), (95, 13, 3, 2, 5, 0), (98, 2, 1, 1, 0, 0), (99, 17, 1, 0, 0, 0)]
def dh_c48_1 : List (Nat × jm_In) := [(100, 9, 3, 3, 124, 0), (103, 3, 1, 0, 0, 0), (104, 3, 1, 0, 0, 0), (105, 13, 3, 2, 6, 0), (108, 1, 2, 0, 0, 12), (110, 2, 1, 1, 0, 0), (111, 7, 1, 2, 0, 0), (112, 2, 1, 2, 0, 0), (113, 7, 1, 0, 0, 0), (114, 17, 1, 0, 0, 0), (115, 32, 3, 46, 2, 0), (118, 6, 3, 2, 0, 1), (121, 10, 3, 0, 93, 0), (124, 10, 3, 0, 166, 0), (127, 3, 1, 0, 0, 0), (128, 3, 1, 0, 0, 0), (129, 2, 1, 1, 0, 0), (130, 32, 3, 37, 2, 0), (133, 8, 3, 0, 144, 0), (136, 3, 1, 0, 0, 0), (137, 2, 1, 1, 0, 0), (138, 32, 3, 36, 2, 0), (141, 10, 3, 0, 150, 0), (144, 3, 1, 0, 0, 0), (145, 13, 3, 2, 2, 0), (148, 2, 1, 1, 0, 0), (149, 17, 1, 0, 0, 0), (150, 32, 3, 41, 2, 0), (153, 3, 1, 0, 0, 0), (154, 2, 1, 1, 0, 0), (155, 32, 3, 42, 2, 0), (158, 3, 1, 0, 0, 0), (159, 32, 3, 45, 1, 0), (162, 3, 1, 0, 0, 0), (163, 32, 3, 47, 1, 0), (166, 6, 3, 1, 0, 1), (169, 10, 3, 0, 65, 0), (172, 39, 1, 0, 0, 0)]
/-- DeltaHistoryModel.write()V -/
def dh_c48 : List (Nat × jm_In) := dh_c48_0 ++ (dh_c48_1)
/-- DeltaHistoryModel.isCut()Z -/
def dh_c49 : List (Nat × jm_In) := [(0, 3, 1, 0, 0, 0), (1, 12, 3, 2, 15, 0), (4, 8, 3, 2, 22, 0), (7, 3, 1, 0, 0, 0), (8, 12, 3, 2, 15, 0), (11, 3, 1, 0, 0, 0), (12, 12, 3, 2, 32, 0), (15, 9, 3, 4, 22, 0), (18, 1, 1, 0, 0, 1), (19, 10, 3, 0, 23, 0), (22, 1, 1, 0, 0, 0), (23, 38, 1, 0, 0, 0)]
/-- DeltaHistoryModel.putAside()V -/
def dh_c50 : List (Nat × jm_In) := [(0, 3, 1, 0, 0, 0), (1, 3, 1, 0, 0, 0), (2, 12, 3, 2, 15, 0), (5, 14, 3, 2, 13, 0), (8, 1, 1, 0, 0, 0), (9, 4, 1, 1, 0, 0), (10, 2, 1, 1, 0, 0), (11, 3, 1, 0, 0, 0), (12, 12, 3, 2, 13, 0), (15, 9, 3, 3, 36, 0), (18, 3, 1, 0, 0, 0), (19, 13, 3, 2, 14, 0), (22, 2, 1, 1, 0, 0), (23, 3, 1, 0, 0, 0), (24, 13, 3, 2, 33, 0), (27, 2, 1, 1, 0, 0), (28, 17, 1, 0, 0, 0), (29, 19, 1, 0, 0, 0), (30, 6, 3, 1, 0, 1), (33, 10, 3, 0, 10, 0), (36, 3, 1, 0, 0, 0), (37, 1, 1, 0, 0, -1), (38, 14, 3, 2, 15, 0), (41, 39, 1, 0, 0, 0)]
/-- DeltaHistoryModel.replace()Z -/
def dh_c51 : List (Nat × jm_In) := [(0, 3, 1, 0, 0, 0), (1, 3, 1, 0, 0, 0), (2, 12, 3, 2, 32, 0), (5, 14, 3, 2, 11, 0), (8, 1, 1, 0, 0, 0), (9, 4, 1, 1, 0, 0), (10, 2, 1, 1, 0, 0), (11, 3, 1, 0, 0, 0), (12, 12, 3, 2, 11, 0), (15, 9, 3, 3, 36, 0), (18, 3, 1, 0, 0, 0), (19, 13, 3, 2, 12, 0), (22, 2, 1, 1, 0, 0), (23, 3, 1, 0, 0, 0), (24, 13, 3, 2, 33, 0), (27, 2, 1, 1, 0, 0), (28, 17, 1, 0, 0, 0), (29, 19, 1, 0, 0, 0), (30, 6, 3, 1, 0, 1), (33, 10, 3, 0, 10, 0), (36, 3, 1, 0, 0, 0), (37, 1, 1, 0, 0, 0), (38, 14, 3, 2, 13, 0), (41, 3, 1, 0, 0, 0), (42, 12, 3, 2, 15, 0), (45, 3, 1, 0, 0, 0), (46, 12, 3, 2, 32, 0), (49, 1, 1, 0, 0, 1), (50, 7, 1, 0, 0, 0), (51, 9, 3, 1, 58, 0), (54, 1, 1, 0, 0, 1), (55, 10, 3, 0, 59, 0), (58, 1, 1, 0, 0, 0), (59, 4, 1, 1, 0, 0), (60, 3, 1, 0, 0, 0), (61, 1, 1, 0, 0, -1), (62, 14, 3, 2, 15, 0), (65, 2, 1, 1, 0, 0), (66, 38, 1, 0, 0, 0)]
/-- DeltaHistoryModel.noUser(I)Z -/
def dh_c52 : List (Nat × jm_In) := [(0, 2, 1, 0, 0, 0), (1, 8, 3, 2, 9, 0), (4, 2, 1, 0, 0, 0), (5, 1, 1, 0, 0, 3), (6, 9, 3, 5, 13, 0), (9, 1, 1, 0, 0, 1), (10, 10, 3, 0, 14, 0), (13, 1, 1, 0, 0, 0), (14, 38, 1, 0, 0, 0)]
/-- DeltaHistoryModel.noRevision(I)Z -/
def dh_c53 : List (Nat × jm_In) := [(0, 2, 1, 1, 0, 0), (1, 8, 3, 2, 12, 0), (4, 2, 1, 1, 0, 0), (5, 3, 1, 0, 0, 0), (6, 12, 3, 2, 1, 0), (9, 9, 3, 2, 16, 0), (12, 1, 1, 0, 0, 1), (13, 10, 3, 0, 17, 0), (16, 1, 1, 0, 0, 0), (17, 38, 1, 0, 0, 0)]
/-- DeltaHistoryModel.setLock(II)I -/
def dh_c54 : List (Nat × jm_In) := [(0, 3, 1, 0, 0, 0), (1, 13, 3, 2, 4, 0), (4, 2, 1, 1, 0, 0), (5, 17, 1, 0, 0, 0), (6, 4, 1, 3, 0, 0), (7, 3, 1, 0, 0, 0), (8, 13, 3, 2, 4, 0), (11, 2, 1, 1, 0, 0), (12, 2, 1, 2, 0, 0), (13, 19, 1, 0, 0, 0), (14, 3, 1, 0, 0, 0), (15, 32, 3, 48, 1, 0), (18, 3, 1, 0, 0, 0), (19, 32, 3, 49, 1, 0), (22, 8, 3, 0, 39, 0), (25, 3, 1, 0, 0, 0), (26, 13, 3, 2, 4, 0), (29, 2, 1, 1, 0, 0), (30, 2, 1, 3, 0, 0), (31, 19, 1, 0, 0, 0), (32, 3, 1, 0, 0, 0), (33, 32, 3, 50, 1, 0), (36, 1, 2, 0, 0, -2), (38, 37, 1, 0, 0, 0), (39, 3, 1, 0, 0, 0), (40, 32, 3, 51, 1, 0), (43, 8, 3, 0, 51, 0), (46, 1, 2, 0, 0, -2), (48, 10, 3, 0, 55, 0), (51, 3, 1, 0, 0, 0), (52, 12, 3, 2, 11, 0), (55, 37, 1, 0, 0, 0)]
/-- DeltaHistoryModel.lock(II)I -/
def dh_c55 : List (Nat × jm_In) := [(0, 3, 1, 0, 0, 0), (1, 2, 1, 1, 0, 0), (2, 32, 3, 52, 1, 0), (5, 8, 3, 1, 16, 0), (8, 3, 1, 0, 0, 0), (9, 2, 1, 2, 0, 0), (10, 32, 3, 53, 2, 0), (13, 8, 3, 0, 20, 0), (16, 1, 1, 0, 0, 1), (17, 10, 3, 0, 34, 0), (20, 3, 1, 0, 0, 0), (21, 13, 3, 2, 4, 0), (24, 2, 1, 2, 0, 0), (25, 17, 1, 0, 0, 0), (26, 8, 3, 2, 33, 0), (29, 1, 1, 0, 0, 2), (30, 10, 3, 0, 34, 0), (33, 1, 1, 0, 0, 0), (34, 14, 3, 2, 0, 0), (37, 3, 1, 0, 0, 0), (38, 12, 3, 2, 0, 0), (41, 8, 3, 5, 48, 0), (44, 1, 1, 0, 0, 0), (45, 10, 3, 0, 54, 0), (48, 3, 1, 0, 0, 0), (49, 2, 1, 2, 0, 0), (50, 2, 1, 1, 0, 0), (51, 32, 3, 54, 3, 0), (54, 37, 1, 0, 0, 0)]
/-- DeltaHistoryModel.unlock(II)I -/
def dh_c56 : List (Nat × jm_In) := [(0, 3, 1, 0, 0, 0), (1, 2, 1, 1, 0, 0), (2, 32, 3, 52, 1, 0), (5, 8, 3, 1, 16, 0), (8, 3, 1, 0, 0, 0), (9, 2, 1, 2, 0, 0), (10, 32, 3, 53, 2, 0), (13, 8, 3, 0, 20, 0), (16, 1, 1, 0, 0, 1), (17, 10, 3, 0, 35, 0), (20, 3, 1, 0, 0, 0), (21, 13, 3, 2, 4, 0), (24, 2, 1, 2, 0, 0), (25, 17, 1, 0, 0, 0), (26, 2, 1, 1, 0, 0), (27, 9, 3, 0, 34, 0), (30, 1, 1, 0, 0, 2), (31, 10, 3, 0, 35, 0), (34, 1, 1, 0, 0, 0), (35, 14, 3, 2, 0, 0), (38, 3, 1, 0, 0, 0), (39, 12, 3, 2, 0, 0), (42, 8, 3, 5, 49, 0), (45, 1, 1, 0, 0, 0), (46, 10, 3, 0, 55, 0), (49, 3, 1, 0, 0, 0), (50, 2, 1, 2, 0, 0), (51, 1, 1, 0, 0, -1), (52, 32, 3, 54, 3, 0), (55, 37, 1, 0, 0, 0)]
def dh_c57_0 : List (Nat × jm_In) := [(0, 3, 1, 0, 0, 0), (1, 12, 3, 2, 1, 0), (4, 8, 3, 1, 16, 0), (7, 2, 1, 2, 0, 0), (8, 1, 1, 0, 0, -1), (9, 9, 3, 1, 16, 0), (12, 1, 1, 0, 0, 1), (13, 10, 3, 0, 17, 0), (16, 1, 1, 0, 0, 0), (17, 4, 1, 3, 0, 0), (18, 3, 1, 0, 0, 0), (19, 2, 1, 1, 0, 0), (20, 32, 3, 52, 1, 0), (23, 8, 3, 1, 38, 0), (26, 2, 1, 3, 0, 0), (27, 8, 3, 1, 42, 0), (30, 3, 1, 0, 0, 0), (31, 2, 1, 2, 0, 0), (32, 32, 3, 53, 2, 0), (35, 8, 3, 0, 42, 0), (38, 1, 1, 0, 0, 1), (39, 10, 3, 0, 74, 0), (42, 2, 1, 3, 0, 0), (43, 8, 3, 1, 60, 0), (46, 3, 1, 0, 0, 0), (47, 13, 3, 2, 4, 0), (50, 2, 1, 2, 0, 0), (51, 17, 1, 0, 0, 0), (52, 2, 1, 1, 0, 0), (53, 9, 3, 0, 60, 0), (56, 1, 1, 0, 0, 2), (57, 10, 3, 0, 74, 0), (60, 3, 1, 0, 0, 0), (61, 12, 3, 2, 1, 0), (64, 1, 2, 0, 0, 20), (66, 9, 3, 1, 73, 0), (69, 1, 1, 0, 0, 3), (70, 10, 3, 0, 74, 0), (73, 1, 1, 0, 0, 0), (74, 14, 3, 2, 0, 0), (77, 3, 1, 0, 0, 0), (78, 12, 3, 2, 0, 0), (81, 8, 3, 5, 86, 0), (84, 1, 1, 0, 0, 0), (85, 37, 1, 0, 0, 0), (86, 3, 1, 0, 0, 0), (87, 12, 3, 2, 1, 0), (90, 4, 2, 4, 0, 0), (92, 3, 1, 0, 0, 0), (93, 13, 3, 2, 2, 0), (96, 2, 2, 4, 0, 0), (98, 2, 1, 2, 0, 0), (99, 19, 1, 0, 0, 0), (100, 3, 1, 0, 0, 0), (101, 13, 3, 2, 3, 0), (104, 2, 2, 4, 0, 0), (106, 2, 1, 1, 0, 0), (107, 19, 1, 0, 0, 0), (108, 3, 1, 0, 0, 0), (109, 13, 3, 2, 4, 0)]
def dh_c57_1 : List (Nat × jm_In) := [(112, 2, 2, 4, 0, 0), (114, 1, 1, 0, 0, -1), (115, 19, 1, 0, 0, 0), (116, 3, 1, 0, 0, 0), (117, 13, 3, 2, 5, 0), (120, 2, 2, 4, 0, 0), (122, 3, 1, 0, 0, 0), (123, 12, 3, 2, 10, 0), (126, 19, 1, 0, 0, 0), (127, 1, 1, 0, 0, 0), (128, 4, 2, 5, 0, 0), (130, 2, 2, 5, 0, 0), (132, 3, 1, 0, 0, 0), (133, 12, 3, 2, 10, 0), (136, 9, 3, 3, 165, 0), (139, 3, 1, 0, 0, 0), (140, 13, 3, 2, 6, 0), (143, 1, 2, 0, 0, 12), (145, 2, 2, 4, 0, 0), (147, 7, 1, 2, 0, 0), (148, 2, 2, 5, 0, 0), (150, 7, 1, 0, 0, 0), (151, 3, 1, 0, 0, 0), (152, 13, 3, 2, 9, 0), (155, 2, 2, 5, 0, 0), (157, 17, 1, 0, 0, 0), (158, 19, 1, 0, 0, 0), (159, 6, 3, 5, 0, 1), (162, 10, 3, 0, 130, 0), (165, 2, 1, 3, 0, 0), (166, 8, 3, 1, 176, 0), (169, 3, 1, 0, 0, 0), (170, 13, 3, 2, 4, 0), (173, 2, 1, 2, 0, 0), (174, 1, 1, 0, 0, -1), (175, 19, 1, 0, 0, 0), (176, 3, 1, 0, 0, 0), (177, 29, 1, 0, 0, 0), (178, 12, 3, 2, 1, 0), (181, 1, 1, 0, 0, 1), (182, 7, 1, 0, 0, 0), (183, 14, 3, 2, 1, 0), (186, 3, 1, 0, 0, 0), (187, 32, 3, 48, 1, 0), (190, 3, 1, 0, 0, 0), (191, 32, 3, 49, 1, 0), (194, 4, 2, 5, 0, 0), (196, 3, 1, 0, 0, 0), (197, 12, 3, 2, 32, 0), (200, 1, 3, 0, 0, 400), (203, 9, 3, 4, 211, 0), (206, 2, 2, 5, 0, 0), (208, 8, 3, 0, 276, 0), (211, 3, 1, 0, 0, 0), (212, 29, 1, 0, 0, 0), (213, 12, 3, 2, 1, 0), (216, 1, 1, 0, 0, 1), (217, 7, 1, 1, 0, 0), (218, 14, 3, 2, 1, 0), (221, 2, 1, 3, 0, 0)]
def dh_c57_2 : List (Nat × jm_In) := [(222, 8, 3, 1, 232, 0), (225, 3, 1, 0, 0, 0), (226, 13, 3, 2, 4, 0), (229, 2, 1, 2, 0, 0), (230, 2, 1, 1, 0, 0), (231, 19, 1, 0, 0, 0), (232, 3, 1, 0, 0, 0), (233, 3, 1, 0, 0, 0), (234, 12, 3, 2, 32, 0), (237, 1, 3, 0, 0, 400), (240, 9, 3, 5, 247, 0), (243, 1, 1, 0, 0, 3), (244, 10, 3, 0, 248, 0), (247, 1, 1, 0, 0, 0), (248, 14, 3, 2, 0, 0), (251, 3, 1, 0, 0, 0), (252, 12, 3, 2, 0, 0), (255, 8, 3, 1, 262, 0), (258, 3, 1, 0, 0, 0), (259, 32, 3, 50, 1, 0), (262, 3, 1, 0, 0, 0), (263, 12, 3, 2, 0, 0), (266, 8, 3, 5, 273, 0), (269, 1, 1, 0, 0, 0), (270, 10, 3, 0, 275, 0), (273, 1, 2, 0, 0, -2), (275, 37, 1, 0, 0, 0), (276, 3, 1, 0, 0, 0), (277, 2, 2, 4, 0, 0), (279, 32, 3, 40, 2, 0), (282, 3, 1, 0, 0, 0), (283, 32, 3, 51, 1, 0), (286, 8, 3, 0, 294, 0), (289, 1, 2, 0, 0, -2), (291, 10, 3, 0, 296, 0), (294, 2, 2, 4, 0, 0), (296, 37, 1, 0, 0, 0)]
/-- DeltaHistoryModel.checkIn(II)I -/
def dh_c57 : List (Nat × jm_In) := dh_c57_0 ++ (dh_c57_1 ++ (dh_c57_2))
/-- DeltaHistoryModel.checkOut(I)I -/
def dh_c58 : List (Nat × jm_In) := [(0, 3, 1, 0, 0, 0), (1, 3, 1, 0, 0, 0), (2, 2, 1, 1, 0, 0), (3, 32, 3, 53, 2, 0), (6, 8, 3, 0, 13, 0), (9, 1, 1, 0, 0, 1), (10, 10, 3, 0, 14, 0), (13, 1, 1, 0, 0, 0), (14, 14, 3, 2, 0, 0), (17, 3, 1, 0, 0, 0), (18, 12, 3, 2, 0, 0), (21, 8, 3, 5, 26, 0), (24, 1, 1, 0, 0, 0), (25, 37, 1, 0, 0, 0), (26, 3, 1, 0, 0, 0), (27, 3, 1, 0, 0, 0), (28, 13, 3, 2, 5, 0), (31, 2, 1, 1, 0, 0), (32, 17, 1, 0, 0, 0), (33, 14, 3, 2, 10, 0), (36, 1, 1, 0, 0, 0), (37, 4, 1, 2, 0, 0), (38, 2, 1, 2, 0, 0), (39, 3, 1, 0, 0, 0), (40, 12, 3, 2, 10, 0), (43, 9, 3, 3, 69, 0), (46, 3, 1, 0, 0, 0), (47, 13, 3, 2, 9, 0), (50, 2, 1, 2, 0, 0), (51, 3, 1, 0, 0, 0), (52, 13, 3, 2, 6, 0), (55, 1, 2, 0, 0, 12), (57, 2, 1, 1, 0, 0), (58, 7, 1, 2, 0, 0), (59, 2, 1, 2, 0, 0), (60, 7, 1, 0, 0, 0), (61, 17, 1, 0, 0, 0), (62, 19, 1, 0, 0, 0), (63, 6, 3, 2, 0, 1), (66, 10, 3, 0, 38, 0), (69, 3, 1, 0, 0, 0), (70, 12, 3, 2, 10, 0), (73, 37, 1, 0, 0, 0)]
/-- DeltaHistoryModel.crashAfter(I)Z -/
def dh_c59 : List (Nat × jm_In) := [(0, 3, 1, 0, 0, 0), (1, 1, 1, 0, 0, 0), (2, 14, 3, 2, 0, 0), (5, 2, 1, 1, 0, 0), (6, 1, 1, 0, 0, -1), (7, 9, 3, 3, 12, 0), (10, 1, 1, 0, 0, 0), (11, 38, 1, 0, 0, 0), (12, 3, 1, 0, 0, 0), (13, 2, 1, 1, 0, 0), (14, 14, 3, 2, 15, 0), (17, 1, 1, 0, 0, 1), (18, 38, 1, 0, 0, 0)]
/-- DeltaHistoryModel.corrupt(II)V -/
def dh_c60 : List (Nat × jm_In) := [(0, 3, 1, 0, 0, 0), (1, 2, 1, 1, 0, 0), (2, 8, 3, 2, 13, 0), (5, 2, 1, 1, 0, 0), (6, 3, 1, 0, 0, 0), (7, 12, 3, 2, 11, 0), (10, 9, 3, 2, 17, 0), (13, 1, 1, 0, 0, 1), (14, 10, 3, 0, 33, 0), (17, 2, 1, 2, 0, 0), (18, 8, 3, 2, 28, 0), (21, 2, 1, 2, 0, 0), (22, 1, 3, 0, 0, 255), (25, 9, 3, 5, 32, 0), (28, 1, 1, 0, 0, 2), (29, 10, 3, 0, 33, 0), (32, 1, 1, 0, 0, 0), (33, 14, 3, 2, 0, 0), (36, 3, 1, 0, 0, 0), (37, 12, 3, 2, 0, 0), (40, 8, 3, 1, 50, 0), (43, 3, 1, 0, 0, 0), (44, 13, 3, 2, 12, 0), (47, 2, 1, 1, 0, 0), (48, 2, 1, 2, 0, 0), (49, 19, 1, 0, 0, 0), (50, 39, 1, 0, 0, 0)]
/-- DeltaHistoryModel.keep()V -/
def dh_c61 : List (Nat × jm_In) := [(0, 3, 1, 0, 0, 0), (1, 3, 1, 0, 0, 0), (2, 12, 3, 2, 1, 0), (5, 14, 3, 2, 37, 0), (8, 1, 1, 0, 0, 0), (9, 4, 1, 1, 0, 0), (10, 2, 1, 1, 0, 0), (11, 1, 2, 0, 0, 20), (13, 9, 3, 3, 70, 0), (16, 3, 1, 0, 0, 0), (17, 13, 3, 2, 38, 0), (20, 2, 1, 1, 0, 0), (21, 3, 1, 0, 0, 0), (22, 13, 3, 2, 2, 0), (25, 2, 1, 1, 0, 0), (26, 17, 1, 0, 0, 0), (27, 19, 1, 0, 0, 0), (28, 3, 1, 0, 0, 0), (29, 13, 3, 2, 39, 0), (32, 2, 1, 1, 0, 0), (33, 3, 1, 0, 0, 0), (34, 13, 3, 2, 3, 0), (37, 2, 1, 1, 0, 0), (38, 17, 1, 0, 0, 0), (39, 19, 1, 0, 0, 0), (40, 3, 1, 0, 0, 0), (41, 13, 3, 2, 40, 0), (44, 2, 1, 1, 0, 0), (45, 3, 1, 0, 0, 0), (46, 13, 3, 2, 4, 0), (49, 2, 1, 1, 0, 0), (50, 17, 1, 0, 0, 0), (51, 19, 1, 0, 0, 0), (52, 3, 1, 0, 0, 0), (53, 13, 3, 2, 41, 0), (56, 2, 1, 1, 0, 0), (57, 3, 1, 0, 0, 0), (58, 13, 3, 2, 5, 0), (61, 2, 1, 1, 0, 0), (62, 17, 1, 0, 0, 0), (63, 19, 1, 0, 0, 0), (64, 6, 3, 1, 0, 1), (67, 10, 3, 0, 10, 0), (70, 1, 1, 0, 0, 0), (71, 4, 1, 1, 0, 0), (72, 2, 1, 1, 0, 0), (73, 1, 3, 0, 0, 240), (76, 9, 3, 3, 97, 0), (79, 3, 1, 0, 0, 0), (80, 13, 3, 2, 42, 0), (83, 2, 1, 1, 0, 0), (84, 3, 1, 0, 0, 0), (85, 13, 3, 2, 6, 0), (88, 2, 1, 1, 0, 0), (89, 17, 1, 0, 0, 0), (90, 19, 1, 0, 0, 0), (91, 6, 3, 1, 0, 1), (94, 10, 3, 0, 72, 0), (97, 39, 1, 0, 0, 0)]
/-- DeltaHistoryModel.giveBack()V -/
def dh_c62 : List (Nat × jm_In) := [(0, 3, 1, 0, 0, 0), (1, 3, 1, 0, 0, 0), (2, 12, 3, 2, 37, 0), (5, 14, 3, 2, 1, 0), (8, 1, 1, 0, 0, 0), (9, 4, 1, 1, 0, 0), (10, 2, 1, 1, 0, 0), (11, 1, 2, 0, 0, 20), (13, 9, 3, 3, 70, 0), (16, 3, 1, 0, 0, 0), (17, 13, 3, 2, 2, 0), (20, 2, 1, 1, 0, 0), (21, 3, 1, 0, 0, 0), (22, 13, 3, 2, 38, 0), (25, 2, 1, 1, 0, 0), (26, 17, 1, 0, 0, 0), (27, 19, 1, 0, 0, 0), (28, 3, 1, 0, 0, 0), (29, 13, 3, 2, 3, 0), (32, 2, 1, 1, 0, 0), (33, 3, 1, 0, 0, 0), (34, 13, 3, 2, 39, 0), (37, 2, 1, 1, 0, 0), (38, 17, 1, 0, 0, 0), (39, 19, 1, 0, 0, 0), (40, 3, 1, 0, 0, 0), (41, 13, 3, 2, 4, 0), (44, 2, 1, 1, 0, 0), (45, 3, 1, 0, 0, 0), (46, 13, 3, 2, 40, 0), (49, 2, 1, 1, 0, 0), (50, 17, 1, 0, 0, 0), (51, 19, 1, 0, 0, 0), (52, 3, 1, 0, 0, 0), (53, 13, 3, 2, 5, 0), (56, 2, 1, 1, 0, 0), (57, 3, 1, 0, 0, 0), (58, 13, 3, 2, 41, 0), (61, 2, 1, 1, 0, 0), (62, 17, 1, 0, 0, 0), (63, 19, 1, 0, 0, 0), (64, 6, 3, 1, 0, 1), (67, 10, 3, 0, 10, 0), (70, 1, 1, 0, 0, 0), (71, 4, 1, 1, 0, 0), (72, 2, 1, 1, 0, 0), (73, 1, 3, 0, 0, 240), (76, 9, 3, 3, 97, 0), (79, 3, 1, 0, 0, 0), (80, 13, 3, 2, 6, 0), (83, 2, 1, 1, 0, 0), (84, 3, 1, 0, 0, 0), (85, 13, 3, 2, 42, 0), (88, 2, 1, 1, 0, 0), (89, 17, 1, 0, 0, 0), (90, 19, 1, 0, 0, 0), (91, 6, 3, 1, 0, 1), (94, 10, 3, 0, 72, 0), (97, 39, 1, 0, 0, 0)]
/-- DeltaHistoryModel.take(II)I -/
def dh_c63 : List (Nat × jm_In) := [(0, 3, 1, 0, 0, 0), (1, 3, 1, 0, 0, 0), (2, 12, 3, 2, 36, 0), (5, 8, 3, 0, 49, 0), (8, 3, 1, 0, 0, 0), (9, 12, 3, 2, 35, 0), (12, 3, 1, 0, 0, 0), (13, 12, 3, 2, 11, 0), (16, 9, 3, 3, 49, 0), (19, 3, 1, 0, 0, 0), (20, 13, 3, 2, 12, 0), (23, 3, 1, 0, 0, 0), (24, 12, 3, 2, 35, 0), (27, 17, 1, 0, 0, 0), (28, 2, 1, 1, 0, 0), (29, 9, 3, 2, 49, 0), (32, 3, 1, 0, 0, 0), (33, 13, 3, 2, 12, 0), (36, 3, 1, 0, 0, 0), (37, 12, 3, 2, 35, 0), (40, 17, 1, 0, 0, 0), (41, 2, 1, 2, 0, 0), (42, 9, 3, 4, 49, 0), (45, 1, 1, 0, 0, 1), (46, 10, 3, 0, 50, 0), (49, 1, 1, 0, 0, 0), (50, 15, 3, 2, 36, 0), (53, 3, 1, 0, 0, 0), (54, 12, 3, 2, 36, 0), (57, 8, 3, 0, 72, 0), (60, 3, 1, 0, 0, 0), (61, 13, 3, 2, 12, 0), (64, 3, 1, 0, 0, 0), (65, 12, 3, 2, 35, 0), (68, 17, 1, 0, 0, 0), (69, 10, 3, 0, 73, 0), (72, 1, 1, 0, 0, 0), (73, 4, 1, 3, 0, 0), (74, 3, 1, 0, 0, 0), (75, 29, 1, 0, 0, 0), (76, 12, 3, 2, 35, 0), (79, 1, 1, 0, 0, 1), (80, 7, 1, 0, 0, 0), (81, 14, 3, 2, 35, 0), (84, 2, 1, 3, 0, 0), (85, 37, 1, 0, 0, 0)]
/-- DeltaHistoryModel.readHeads()V -/
def dh_c64 : List (Nat × jm_In) := [(0, 3, 1, 0, 0, 0), (1, 1, 1, 0, 0, 1), (2, 15, 3, 2, 36, 0), (5, 3, 1, 0, 0, 0), (6, 1, 1, 0, 0, 0), (7, 14, 3, 2, 35, 0), (10, 3, 1, 0, 0, 0), (11, 3, 1, 0, 0, 0), (12, 1, 1, 0, 0, 0), (13, 1, 2, 0, 0, 20), (15, 32, 3, 63, 3, 0), (18, 14, 3, 2, 1, 0), (21, 1, 1, 0, 0, 0), (22, 4, 1, 1, 0, 0), (23, 2, 1, 1, 0, 0), (24, 3, 1, 0, 0, 0), (25, 12, 3, 2, 1, 0), (28, 9, 3, 3, 85, 0), (31, 3, 1, 0, 0, 0), (32, 13, 3, 2, 2, 0), (35, 2, 1, 1, 0, 0), (36, 3, 1, 0, 0, 0), (37, 2, 1, 1, 0, 0), (38, 8, 3, 1, 45, 0), (41, 1, 1, 0, 0, 0), (42, 10, 3, 0, 46, 0), (45, 1, 1, 0, 0, 1), (46, 2, 1, 1, 0, 0), (47, 32, 3, 63, 3, 0), (50, 1, 1, 0, 0, 1), (51, 7, 1, 1, 0, 0), (52, 19, 1, 0, 0, 0), (53, 3, 1, 0, 0, 0), (54, 13, 3, 2, 3, 0), (57, 2, 1, 1, 0, 0), (58, 3, 1, 0, 0, 0), (59, 1, 1, 0, 0, 0), (60, 1, 1, 0, 0, 3), (61, 32, 3, 63, 3, 0), (64, 19, 1, 0, 0, 0), (65, 3, 1, 0, 0, 0), (66, 13, 3, 2, 4, 0), (69, 2, 1, 1, 0, 0), (70, 3, 1, 0, 0, 0), (71, 1, 1, 0, 0, 0), (72, 1, 1, 0, 0, 4), (73, 32, 3, 63, 3, 0), (76, 1, 1, 0, 0, 1), (77, 7, 1, 1, 0, 0), (78, 19, 1, 0, 0, 0), (79, 6, 3, 1, 0, 1), (82, 10, 3, 0, 23, 0), (85, 39, 1, 0, 0, 0)]
def dh_c65_0 : List (Nat × jm_In) := [(0, 1, 1, 0, 0, 0), (1, 4, 1, 1, 0, 0), (2, 2, 1, 1, 0, 0), (3, 3, 1, 0, 0, 0), (4, 12, 3, 2, 1, 0), (7, 9, 3, 3, 159, 0), (10, 3, 1, 0, 0, 0), (11, 12, 3, 2, 36, 0), (14, 8, 3, 0, 159, 0), (17, 3, 1, 0, 0, 0), (18, 13, 3, 2, 34, 0), (21, 2, 1, 1, 0, 0), (22, 3, 1, 0, 0, 0), (23, 12, 3, 2, 35, 0), (26, 19, 1, 0, 0, 0), (27, 2, 1, 1, 0, 0), (28, 3, 1, 0, 0, 0), (29, 32, 3, 38, 1, 0), (32, 9, 3, 1, 68, 0), (35, 3, 1, 0, 0, 0), (36, 1, 1, 0, 0, 0), (37, 1, 2, 0, 0, 12), (39, 32, 3, 63, 3, 0), (42, 4, 1, 2, 0, 0), (43, 1, 1, 0, 0, 0), (44, 4, 1, 3, 0, 0), (45, 2, 1, 3, 0, 0), (46, 2, 1, 2, 0, 0), (47, 9, 3, 3, 65, 0), (50, 3, 1, 0, 0, 0), (51, 1, 1, 0, 0, 1), (52, 1, 2, 0, 0, 99), (54, 32, 3, 63, 3, 0), (57, 4, 2, 4, 0, 0), (59, 6, 3, 3, 0, 1), (62, 10, 3, 0, 45, 0), (65, 10, 3, 0, 153, 0), (68, 3, 1, 0, 0, 0), (69, 1, 1, 0, 0, 0), (70, 1, 2, 0, 0, 24), (72, 32, 3, 63, 3, 0), (75, 4, 1, 2, 0, 0), (76, 1, 1, 0, 0, 0), (77, 4, 1, 3, 0, 0), (78, 2, 1, 3, 0, 0), (79, 2, 1, 2, 0, 0), (80, 9, 3, 3, 153, 0), (83, 3, 1, 0, 0, 0), (84, 12, 3, 2, 36, 0), (87, 8, 3, 0, 153, 0), (90, 3, 1, 0, 0, 0), (91, 1, 1, 0, 0, 0), (92, 1, 1, 0, 0, 1), (93, 32, 3, 63, 3, 0), (96, 4, 2, 4, 0, 0), (98, 3, 1, 0, 0, 0), (99, 1, 1, 0, 0, 0), (100, 1, 2, 0, 0, 12), (102, 32, 3, 63, 3, 0), (105, 4, 2, 5, 0, 0)]
def dh_c65_1 : List (Nat × jm_In) := [(107, 3, 1, 0, 0, 0), (108, 1, 1, 0, 0, 1), (109, 1, 2, 0, 0, 12), (111, 32, 3, 63, 3, 0), (114, 4, 2, 6, 0, 0), (116, 1, 1, 0, 0, 0), (117, 4, 2, 7, 0, 0), (119, 2, 2, 7, 0, 0), (121, 2, 2, 6, 0, 0), (123, 9, 3, 3, 147, 0), (126, 2, 2, 4, 0, 0), (128, 1, 1, 0, 0, 1), (129, 9, 3, 1, 147, 0), (132, 3, 1, 0, 0, 0), (133, 1, 1, 0, 0, 1), (134, 1, 2, 0, 0, 99), (136, 32, 3, 63, 3, 0), (139, 4, 2, 8, 0, 0), (141, 6, 3, 7, 0, 1), (144, 10, 3, 0, 119, 0), (147, 6, 3, 3, 0, 1), (150, 10, 3, 0, 78, 0), (153, 6, 3, 1, 0, 1), (156, 10, 3, 0, 2, 0), (159, 3, 1, 0, 0, 0), (160, 3, 1, 0, 0, 0), (161, 12, 3, 2, 36, 0), (164, 8, 3, 0, 182, 0), (167, 3, 1, 0, 0, 0), (168, 12, 3, 2, 35, 0), (171, 3, 1, 0, 0, 0), (172, 12, 3, 2, 11, 0), (175, 9, 3, 1, 182, 0), (178, 1, 1, 0, 0, 1), (179, 10, 3, 0, 183, 0), (182, 1, 1, 0, 0, 0), (183, 15, 3, 2, 36, 0), (186, 39, 1, 0, 0, 0)]
/-- DeltaHistoryModel.findParts()V -/
def dh_c65 : List (Nat × jm_In) := dh_c65_0 ++ (dh_c65_1)
/-- DeltaHistoryModel.addLine(II)V -/
def dh_c66 : List (Nat × jm_In) := [(0, 3, 1, 0, 0, 0), (1, 3, 1, 0, 0, 0), (2, 12, 3, 2, 36, 0), (5, 8, 3, 0, 23, 0), (8, 3, 1, 0, 0, 0), (9, 13, 3, 2, 5, 0), (12, 2, 1, 1, 0, 0), (13, 17, 1, 0, 0, 0), (14, 1, 2, 0, 0, 12), (16, 9, 3, 3, 23, 0), (19, 1, 1, 0, 0, 1), (20, 10, 3, 0, 24, 0), (23, 1, 1, 0, 0, 0), (24, 15, 3, 2, 36, 0), (27, 3, 1, 0, 0, 0), (28, 12, 3, 2, 36, 0), (31, 8, 3, 0, 61, 0), (34, 3, 1, 0, 0, 0), (35, 13, 3, 2, 6, 0), (38, 1, 2, 0, 0, 12), (40, 2, 1, 1, 0, 0), (41, 7, 1, 2, 0, 0), (42, 3, 1, 0, 0, 0), (43, 13, 3, 2, 5, 0), (46, 2, 1, 1, 0, 0), (47, 17, 1, 0, 0, 0), (48, 7, 1, 0, 0, 0), (49, 2, 1, 2, 0, 0), (50, 19, 1, 0, 0, 0), (51, 3, 1, 0, 0, 0), (52, 13, 3, 2, 5, 0), (55, 2, 1, 1, 0, 0), (56, 30, 1, 0, 0, 0), (57, 17, 1, 0, 0, 0), (58, 1, 1, 0, 0, 1), (59, 7, 1, 0, 0, 0), (60, 19, 1, 0, 0, 0), (61, 39, 1, 0, 0, 0)]
def dh_c67_0 : List (Nat × jm_In) := [(0, 3, 1, 0, 0, 0), (1, 3, 1, 0, 0, 0), (2, 13, 3, 2, 34, 0), (5, 2, 1, 1, 0, 0), (6, 17, 1, 0, 0, 0), (7, 14, 3, 2, 35, 0), (10, 3, 1, 0, 0, 0), (11, 13, 3, 2, 5, 0), (14, 2, 1, 1, 0, 0), (15, 1, 1, 0, 0, 0), (16, 19, 1, 0, 0, 0), (17, 1, 1, 0, 0, 0), (18, 4, 1, 3, 0, 0), (19, 3, 1, 0, 0, 0), (20, 1, 1, 0, 0, 0), (21, 1, 2, 0, 0, 24), (23, 32, 3, 63, 3, 0), (26, 4, 2, 4, 0, 0), (28, 1, 1, 0, 0, 0), (29, 4, 2, 5, 0, 0), (31, 2, 2, 5, 0, 0), (33, 2, 2, 4, 0, 0), (35, 9, 3, 3, 226, 0), (38, 3, 1, 0, 0, 0), (39, 12, 3, 2, 36, 0), (42, 8, 3, 0, 226, 0), (45, 3, 1, 0, 0, 0), (46, 1, 1, 0, 0, 0), (47, 1, 1, 0, 0, 1), (48, 32, 3, 63, 3, 0), (51, 4, 2, 6, 0, 0), (53, 3, 1, 0, 0, 0), (54, 1, 1, 0, 0, 0), (55, 1, 2, 0, 0, 12), (57, 32, 3, 63, 3, 0), (60, 4, 2, 7, 0, 0), (62, 3, 1, 0, 0, 0), (63, 1, 1, 0, 0, 1), (64, 1, 2, 0, 0, 12), (66, 32, 3, 63, 3, 0), (69, 4, 2, 8, 0, 0), (71, 3, 1, 0, 0, 0), (72, 3, 1, 0, 0, 0), (73, 12, 3, 2, 36, 0), (76, 8, 3, 0, 100, 0), (79, 2, 2, 7, 0, 0), (81, 2, 1, 3, 0, 0), (82, 9, 3, 2, 100, 0), (85, 2, 2, 7, 0, 0), (87, 3, 1, 0, 0, 0), (88, 13, 3, 2, 5, 0), (91, 2, 1, 2, 0, 0), (92, 17, 1, 0, 0, 0), (93, 9, 3, 4, 100, 0), (96, 1, 1, 0, 0, 1), (97, 10, 3, 0, 101, 0), (100, 1, 1, 0, 0, 0), (101, 15, 3, 2, 36, 0), (104, 3, 1, 0, 0, 0), (105, 12, 3, 2, 36, 0)]
def dh_c67_1 : List (Nat × jm_In) := [(108, 8, 3, 0, 139, 0), (111, 2, 1, 3, 0, 0), (112, 2, 2, 7, 0, 0), (114, 9, 3, 3, 139, 0), (117, 3, 1, 0, 0, 0), (118, 2, 1, 1, 0, 0), (119, 3, 1, 0, 0, 0), (120, 13, 3, 2, 6, 0), (123, 1, 2, 0, 0, 12), (125, 2, 1, 2, 0, 0), (126, 7, 1, 2, 0, 0), (127, 2, 1, 3, 0, 0), (128, 7, 1, 0, 0, 0), (129, 17, 1, 0, 0, 0), (130, 32, 3, 66, 3, 0), (133, 6, 3, 3, 0, 1), (136, 10, 3, 0, 104, 0), (139, 1, 1, 0, 0, 0), (140, 4, 2, 9, 0, 0), (142, 2, 2, 9, 0, 0), (144, 2, 2, 8, 0, 0), (146, 9, 3, 3, 180, 0), (149, 3, 1, 0, 0, 0), (150, 12, 3, 2, 36, 0), (153, 8, 3, 0, 180, 0), (156, 2, 2, 6, 0, 0), (158, 1, 1, 0, 0, 1), (159, 9, 3, 1, 180, 0), (162, 3, 1, 0, 0, 0), (163, 2, 1, 1, 0, 0), (164, 3, 1, 0, 0, 0), (165, 1, 1, 0, 0, 1), (166, 1, 2, 0, 0, 99), (168, 32, 3, 63, 3, 0), (171, 32, 3, 66, 3, 0), (174, 6, 3, 9, 0, 1), (177, 10, 3, 0, 142, 0), (180, 2, 2, 6, 0, 0), (182, 8, 3, 1, 192, 0), (185, 2, 1, 3, 0, 0), (186, 2, 2, 8, 0, 0), (188, 7, 1, 0, 0, 0), (189, 10, 3, 0, 193, 0), (192, 2, 1, 3, 0, 0), (193, 4, 1, 3, 0, 0), (194, 3, 1, 0, 0, 0), (195, 3, 1, 0, 0, 0), (196, 12, 3, 2, 36, 0), (199, 8, 3, 0, 216, 0), (202, 2, 1, 3, 0, 0), (203, 3, 1, 0, 0, 0), (204, 13, 3, 2, 5, 0), (207, 2, 1, 2, 0, 0), (208, 17, 1, 0, 0, 0), (209, 9, 3, 4, 216, 0), (212, 1, 1, 0, 0, 1), (213, 10, 3, 0, 217, 0), (216, 1, 1, 0, 0, 0), (217, 15, 3, 2, 36, 0), (220, 6, 3, 5, 0, 1)]
def dh_c67_2 : List (Nat × jm_In) := [(223, 10, 3, 0, 31, 0), (226, 3, 1, 0, 0, 0), (227, 12, 3, 2, 36, 0), (230, 8, 3, 0, 265, 0), (233, 2, 1, 3, 0, 0), (234, 3, 1, 0, 0, 0), (235, 13, 3, 2, 5, 0), (238, 2, 1, 2, 0, 0), (239, 17, 1, 0, 0, 0), (240, 9, 3, 3, 265, 0), (243, 3, 1, 0, 0, 0), (244, 2, 1, 1, 0, 0), (245, 3, 1, 0, 0, 0), (246, 13, 3, 2, 6, 0), (249, 1, 2, 0, 0, 12), (251, 2, 1, 2, 0, 0), (252, 7, 1, 2, 0, 0), (253, 2, 1, 3, 0, 0), (254, 7, 1, 0, 0, 0), (255, 17, 1, 0, 0, 0), (256, 32, 3, 66, 3, 0), (259, 6, 3, 3, 0, 1), (262, 10, 3, 0, 226, 0), (265, 39, 1, 0, 0, 0)]
/-- DeltaHistoryModel.apply(II)V -/
def dh_c67 : List (Nat × jm_In) := dh_c67_0 ++ (dh_c67_1 ++ (dh_c67_2))
def dh_c68_0 : List (Nat × jm_In) := [(0, 3, 1, 0, 0, 0), (1, 32, 3, 38, 1, 0), (4, 4, 1, 1, 0, 0), (5, 3, 1, 0, 0, 0), (6, 3, 1, 0, 0, 0), (7, 13, 3, 2, 34, 0), (10, 2, 1, 1, 0, 0), (11, 17, 1, 0, 0, 0), (12, 14, 3, 2, 35, 0), (15, 3, 1, 0, 0, 0), (16, 1, 1, 0, 0, 0), (17, 1, 2, 0, 0, 12), (19, 32, 3, 63, 3, 0), (22, 4, 1, 2, 0, 0), (23, 3, 1, 0, 0, 0), (24, 13, 3, 2, 5, 0), (27, 2, 1, 1, 0, 0), (28, 1, 1, 0, 0, 0), (29, 19, 1, 0, 0, 0), (30, 1, 1, 0, 0, 0), (31, 4, 1, 3, 0, 0), (32, 2, 1, 3, 0, 0), (33, 2, 1, 2, 0, 0), (34, 9, 3, 3, 55, 0), (37, 3, 1, 0, 0, 0), (38, 2, 1, 1, 0, 0), (39, 3, 1, 0, 0, 0), (40, 1, 1, 0, 0, 1), (41, 1, 2, 0, 0, 99), (43, 32, 3, 63, 3, 0), (46, 32, 3, 66, 3, 0), (49, 6, 3, 3, 0, 1), (52, 10, 3, 0, 32, 0), (55, 2, 1, 1, 0, 0), (56, 4, 1, 3, 0, 0), (57, 2, 1, 3, 0, 0), (58, 8, 3, 5, 89, 0), (61, 3, 1, 0, 0, 0), (62, 12, 3, 2, 36, 0), (65, 8, 3, 0, 89, 0), (68, 3, 1, 0, 0, 0), (69, 3, 1, 0, 0, 0), (70, 13, 3, 2, 2, 0), (73, 2, 1, 3, 0, 0), (74, 17, 1, 0, 0, 0), (75, 2, 1, 3, 0, 0), (76, 32, 3, 67, 3, 0), (79, 3, 1, 0, 0, 0), (80, 13, 3, 2, 2, 0), (83, 2, 1, 3, 0, 0), (84, 17, 1, 0, 0, 0), (85, 4, 1, 3, 0, 0), (86, 10, 3, 0, 57, 0), (89, 1, 1, 0, 0, 0), (90, 4, 1, 3, 0, 0), (91, 2, 1, 3, 0, 0), (92, 3, 1, 0, 0, 0), (93, 12, 3, 2, 1, 0), (96, 9, 3, 3, 131, 0), (99, 3, 1, 0, 0, 0)]
def dh_c68_1 : List (Nat × jm_In) := [(100, 12, 3, 2, 36, 0), (103, 8, 3, 0, 131, 0), (106, 3, 1, 0, 0, 0), (107, 2, 1, 3, 0, 0), (108, 32, 3, 37, 2, 0), (111, 8, 3, 1, 125, 0), (114, 3, 1, 0, 0, 0), (115, 2, 1, 3, 0, 0), (116, 3, 1, 0, 0, 0), (117, 13, 3, 2, 2, 0), (120, 2, 1, 3, 0, 0), (121, 17, 1, 0, 0, 0), (122, 32, 3, 67, 3, 0), (125, 6, 3, 3, 0, 1), (128, 10, 3, 0, 91, 0), (131, 39, 1, 0, 0, 0)]
/-- DeltaHistoryModel.makeTexts()V -/
def dh_c68 : List (Nat × jm_In) := dh_c68_0 ++ (dh_c68_1)
/-- DeltaHistoryModel.isWritten()Z -/
def dh_c69 : List (Nat × jm_In) := [(0, 3, 1, 0, 0, 0), (1, 32, 3, 48, 1, 0), (4, 3, 1, 0, 0, 0), (5, 12, 3, 2, 32, 0), (8, 3, 1, 0, 0, 0), (9, 12, 3, 2, 11, 0), (12, 9, 3, 1, 19, 0), (15, 1, 1, 0, 0, 1), (16, 10, 3, 0, 20, 0), (19, 1, 1, 0, 0, 0), (20, 4, 1, 1, 0, 0), (21, 1, 1, 0, 0, 0), (22, 4, 1, 2, 0, 0), (23, 2, 1, 2, 0, 0), (24, 3, 1, 0, 0, 0), (25, 12, 3, 2, 32, 0), (28, 9, 3, 3, 62, 0), (31, 2, 1, 1, 0, 0), (32, 8, 3, 0, 62, 0), (35, 3, 1, 0, 0, 0), (36, 13, 3, 2, 33, 0), (39, 2, 1, 2, 0, 0), (40, 17, 1, 0, 0, 0), (41, 3, 1, 0, 0, 0), (42, 13, 3, 2, 12, 0), (45, 2, 1, 2, 0, 0), (46, 17, 1, 0, 0, 0), (47, 9, 3, 1, 54, 0), (50, 1, 1, 0, 0, 1), (51, 10, 3, 0, 55, 0), (54, 1, 1, 0, 0, 0), (55, 4, 1, 1, 0, 0), (56, 6, 3, 2, 0, 1), (59, 10, 3, 0, 23, 0), (62, 2, 1, 1, 0, 0), (63, 38, 1, 0, 0, 0)]
/-- DeltaHistoryModel.load()I -/
def dh_c70 : List (Nat × jm_In) := [(0, 3, 1, 0, 0, 0), (1, 1, 1, 0, 0, 0), (2, 14, 3, 2, 0, 0), (5, 3, 1, 0, 0, 0), (6, 32, 3, 61, 1, 0), (9, 3, 1, 0, 0, 0), (10, 32, 3, 64, 1, 0), (13, 3, 1, 0, 0, 0), (14, 12, 3, 2, 36, 0), (17, 8, 3, 0, 24, 0), (20, 3, 1, 0, 0, 0), (21, 32, 3, 65, 1, 0), (24, 3, 1, 0, 0, 0), (25, 12, 3, 2, 36, 0), (28, 8, 3, 0, 42, 0), (31, 3, 1, 0, 0, 0), (32, 12, 3, 2, 1, 0), (35, 8, 3, 5, 42, 0), (38, 3, 1, 0, 0, 0), (39, 32, 3, 68, 1, 0), (42, 3, 1, 0, 0, 0), (43, 12, 3, 2, 36, 0), (46, 8, 3, 0, 56, 0), (49, 3, 1, 0, 0, 0), (50, 32, 3, 69, 1, 0), (53, 8, 3, 1, 62, 0), (56, 3, 1, 0, 0, 0), (57, 32, 3, 62, 1, 0), (60, 1, 1, 0, 0, -1), (61, 37, 1, 0, 0, 0), (62, 1, 1, 0, 0, 0), (63, 4, 1, 1, 0, 0), (64, 2, 1, 1, 0, 0), (65, 3, 1, 0, 0, 0), (66, 12, 3, 2, 1, 0), (69, 9, 3, 3, 83, 0), (72, 3, 1, 0, 0, 0), (73, 2, 1, 1, 0, 0), (74, 32, 3, 40, 2, 0), (77, 6, 3, 1, 0, 1), (80, 10, 3, 0, 64, 0), (83, 3, 1, 0, 0, 0), (84, 12, 3, 2, 1, 0), (87, 37, 1, 0, 0, 0)]
/-- DeltaHistoryModel.revisions()I -/
def dh_c71 : List (Nat × jm_In) := [(0, 3, 1, 0, 0, 0), (1, 1, 1, 0, 0, 0), (2, 14, 3, 2, 0, 0), (5, 3, 1, 0, 0, 0), (6, 12, 3, 2, 1, 0), (9, 37, 1, 0, 0, 0)]
def dh_c72_0 : List (Nat × jm_In) := [(0, 3, 1, 0, 0, 0), (1, 3, 1, 0, 0, 0), (2, 2, 1, 1, 0, 0), (3, 32, 3, 53, 2, 0), (6, 8, 3, 0, 13, 0), (9, 1, 1, 0, 0, 1), (10, 10, 3, 0, 14, 0), (13, 1, 1, 0, 0, 0), (14, 14, 3, 2, 0, 0), (17, 3, 1, 0, 0, 0), (18, 12, 3, 2, 0, 0), (21, 8, 3, 5, 26, 0), (24, 1, 1, 0, 0, 0), (25, 37, 1, 0, 0, 0), (26, 1, 1, 0, 0, 0), (27, 4, 1, 3, 0, 0), (28, 1, 1, 0, 0, 0), (29, 4, 2, 4, 0, 0), (31, 2, 2, 4, 0, 0), (33, 3, 1, 0, 0, 0), (34, 12, 3, 2, 1, 0), (37, 9, 3, 3, 65, 0), (40, 3, 1, 0, 0, 0), (41, 13, 3, 2, 2, 0), (44, 2, 2, 4, 0, 0), (46, 17, 1, 0, 0, 0), (47, 2, 1, 1, 0, 0), (48, 9, 3, 1, 57, 0), (51, 2, 1, 3, 0, 0), (52, 1, 1, 0, 0, 1), (53, 7, 1, 0, 0, 0), (54, 10, 3, 0, 58, 0), (57, 2, 1, 3, 0, 0), (58, 4, 1, 3, 0, 0), (59, 6, 3, 4, 0, 1), (62, 10, 3, 0, 31, 0), (65, 2, 1, 2, 0, 0), (66, 11, 38, 0, 1, 0), (104, 3, 1, 0, 0, 0), (105, 13, 3, 2, 2, 0), (108, 2, 1, 1, 0, 0), (109, 17, 1, 0, 0, 0), (110, 37, 1, 0, 0, 0), (111, 3, 1, 0, 0, 0), (112, 13, 3, 2, 3, 0), (115, 2, 1, 1, 0, 0), (116, 17, 1, 0, 0, 0), (117, 37, 1, 0, 0, 0), (118, 3, 1, 0, 0, 0), (119, 13, 3, 2, 4, 0), (122, 2, 1, 1, 0, 0), (123, 17, 1, 0, 0, 0), (124, 37, 1, 0, 0, 0), (125, 3, 1, 0, 0, 0), (126, 13, 3, 2, 7, 0), (129, 2, 1, 1, 0, 0), (130, 17, 1, 0, 0, 0), (131, 37, 1, 0, 0, 0), (132, 3, 1, 0, 0, 0), (133, 2, 1, 1, 0, 0)]
def dh_c72_1 : List (Nat × jm_In) := [(134, 32, 3, 36, 2, 0), (137, 37, 1, 0, 0, 0), (138, 2, 1, 3, 0, 0), (139, 8, 3, 5, 148, 0), (142, 2, 1, 3, 0, 0), (143, 1, 1, 0, 0, 1), (144, 7, 1, 1, 0, 0), (145, 10, 3, 0, 149, 0), (148, 1, 1, 0, 0, 0), (149, 37, 1, 0, 0, 0), (150, 1, 1, 0, 0, -1), (151, 37, 1, 0, 0, 0)]
/-- DeltaHistoryModel.about(II)I -/
def dh_c72 : List (Nat × jm_In) := dh_c72_0 ++ (dh_c72_1)
/-- DeltaHistoryModel.name(II)I -/
def dh_c73 : List (Nat × jm_In) := [(0, 3, 1, 0, 0, 0), (1, 3, 1, 0, 0, 0), (2, 2, 1, 1, 0, 0), (3, 32, 3, 53, 2, 0), (6, 8, 3, 0, 13, 0), (9, 1, 1, 0, 0, 1), (10, 10, 3, 0, 14, 0), (13, 1, 1, 0, 0, 0), (14, 14, 3, 2, 0, 0), (17, 3, 1, 0, 0, 0), (18, 12, 3, 2, 0, 0), (21, 8, 3, 4, 38, 0), (24, 2, 1, 2, 0, 0), (25, 8, 3, 2, 38, 0), (28, 2, 1, 2, 0, 0), (29, 3, 1, 0, 0, 0), (30, 13, 3, 2, 7, 0), (33, 2, 1, 1, 0, 0), (34, 17, 1, 0, 0, 0), (35, 9, 3, 2, 42, 0), (38, 1, 1, 0, 0, 0), (39, 10, 3, 0, 53, 0), (42, 3, 1, 0, 0, 0), (43, 13, 3, 2, 8, 0), (46, 1, 2, 0, 0, 42), (48, 2, 1, 1, 0, 0), (49, 7, 1, 2, 0, 0), (50, 2, 1, 2, 0, 0), (51, 7, 1, 0, 0, 0), (52, 17, 1, 0, 0, 0), (53, 37, 1, 0, 0, 0)]
/-- DeltaHistoryModel.root(II)I -/
def dh_c74 : List (Nat × jm_In) := [(0, 3, 1, 0, 0, 0), (1, 3, 1, 0, 0, 0), (2, 2, 1, 1, 0, 0), (3, 32, 3, 53, 2, 0), (6, 8, 3, 1, 17, 0), (9, 3, 1, 0, 0, 0), (10, 2, 1, 2, 0, 0), (11, 32, 3, 53, 2, 0), (14, 8, 3, 0, 21, 0), (17, 1, 1, 0, 0, 1), (18, 10, 3, 0, 22, 0), (21, 1, 1, 0, 0, 0), (22, 14, 3, 2, 0, 0), (25, 3, 1, 0, 0, 0), (26, 12, 3, 2, 0, 0), (29, 8, 3, 5, 34, 0), (32, 1, 1, 0, 0, 0), (33, 37, 1, 0, 0, 0), (34, 2, 1, 1, 0, 0), (35, 4, 1, 3, 0, 0), (36, 2, 1, 2, 0, 0), (37, 4, 2, 4, 0, 0), (39, 2, 1, 3, 0, 0), (40, 2, 2, 4, 0, 0), (42, 9, 3, 0, 73, 0), (45, 2, 1, 3, 0, 0), (46, 2, 2, 4, 0, 0), (48, 9, 3, 5, 61, 0), (51, 3, 1, 0, 0, 0), (52, 13, 3, 2, 2, 0), (55, 2, 1, 3, 0, 0), (56, 17, 1, 0, 0, 0), (57, 4, 1, 3, 0, 0), (58, 10, 3, 0, 39, 0), (61, 3, 1, 0, 0, 0), (62, 13, 3, 2, 2, 0), (65, 2, 2, 4, 0, 0), (67, 17, 1, 0, 0, 0), (68, 4, 2, 4, 0, 0), (70, 10, 3, 0, 39, 0), (73, 2, 1, 3, 0, 0), (74, 37, 1, 0, 0, 0)]
def dh_c75_0 : List (Nat × jm_In) := [(0, 3, 1, 0, 0, 0), (1, 2, 1, 1, 0, 0), (2, 1, 1, 0, 0, -1), (3, 9, 3, 0, 18, 0), (6, 3, 1, 0, 0, 0), (7, 2, 1, 1, 0, 0), (8, 32, 3, 53, 2, 0), (11, 8, 3, 0, 18, 0), (14, 1, 1, 0, 0, 1), (15, 10, 3, 0, 19, 0), (18, 1, 1, 0, 0, 0), (19, 14, 3, 2, 0, 0), (22, 3, 1, 0, 0, 0), (23, 12, 3, 2, 0, 0), (26, 8, 3, 5, 31, 0), (29, 1, 1, 0, 0, 0), (30, 37, 1, 0, 0, 0), (31, 3, 1, 0, 0, 0), (32, 2, 1, 1, 0, 0), (33, 32, 3, 41, 2, 0), (36, 3, 1, 0, 0, 0), (37, 3, 1, 0, 0, 0), (38, 12, 3, 2, 10, 0), (41, 14, 3, 2, 18, 0), (44, 1, 1, 0, 0, 0), (45, 4, 1, 2, 0, 0), (46, 2, 1, 2, 0, 0), (47, 3, 1, 0, 0, 0), (48, 12, 3, 2, 10, 0), (51, 9, 3, 3, 84, 0), (54, 3, 1, 0, 0, 0), (55, 13, 3, 2, 19, 0), (58, 2, 1, 2, 0, 0), (59, 3, 1, 0, 0, 0), (60, 13, 3, 2, 9, 0), (63, 2, 1, 2, 0, 0), (64, 17, 1, 0, 0, 0), (65, 19, 1, 0, 0, 0), (66, 3, 1, 0, 0, 0), (67, 13, 3, 2, 31, 0), (70, 2, 1, 2, 0, 0), (71, 3, 1, 0, 0, 0), (72, 13, 3, 2, 9, 0), (75, 2, 1, 2, 0, 0), (76, 17, 1, 0, 0, 0), (77, 19, 1, 0, 0, 0), (78, 6, 3, 2, 0, 1), (81, 10, 3, 0, 46, 0), (84, 3, 1, 0, 0, 0), (85, 32, 3, 45, 1, 0), (88, 3, 1, 0, 0, 0), (89, 3, 1, 0, 0, 0), (90, 12, 3, 2, 21, 0), (93, 14, 3, 2, 26, 0), (96, 1, 1, 0, 0, 0), (97, 4, 1, 2, 0, 0), (98, 2, 1, 2, 0, 0), (99, 3, 1, 0, 0, 0), (100, 12, 3, 2, 21, 0), (103, 9, 3, 3, 160, 0)]
def dh_c75_1 : List (Nat × jm_In) := [(106, 3, 1, 0, 0, 0), (107, 13, 3, 2, 27, 0), (110, 2, 1, 2, 0, 0), (111, 3, 1, 0, 0, 0), (112, 13, 3, 2, 22, 0), (115, 2, 1, 2, 0, 0), (116, 17, 1, 0, 0, 0), (117, 19, 1, 0, 0, 0), (118, 3, 1, 0, 0, 0), (119, 13, 3, 2, 28, 0), (122, 2, 1, 2, 0, 0), (123, 3, 1, 0, 0, 0), (124, 13, 3, 2, 23, 0), (127, 2, 1, 2, 0, 0), (128, 17, 1, 0, 0, 0), (129, 19, 1, 0, 0, 0), (130, 3, 1, 0, 0, 0), (131, 13, 3, 2, 29, 0), (134, 2, 1, 2, 0, 0), (135, 3, 1, 0, 0, 0), (136, 13, 3, 2, 24, 0), (139, 2, 1, 2, 0, 0), (140, 17, 1, 0, 0, 0), (141, 19, 1, 0, 0, 0), (142, 3, 1, 0, 0, 0), (143, 13, 3, 2, 30, 0), (146, 2, 1, 2, 0, 0), (147, 3, 1, 0, 0, 0), (148, 13, 3, 2, 25, 0), (151, 2, 1, 2, 0, 0), (152, 17, 1, 0, 0, 0), (153, 19, 1, 0, 0, 0), (154, 6, 3, 2, 0, 1), (157, 10, 3, 0, 98, 0), (160, 3, 1, 0, 0, 0), (161, 12, 3, 2, 21, 0), (164, 37, 1, 0, 0, 0)]
/-- DeltaHistoryModel.compare(I)I -/
def dh_c75 : List (Nat × jm_In) := dh_c75_0 ++ (dh_c75_1)
def dh_c76_0 : List (Nat × jm_In) := [(0, 3, 1, 0, 0, 0), (1, 1, 1, 0, 0, 0), (2, 14, 3, 2, 0, 0), (5, 2, 1, 1, 0, 0), (6, 8, 3, 2, 21, 0), (9, 2, 1, 1, 0, 0), (10, 3, 1, 0, 0, 0), (11, 12, 3, 2, 26, 0), (14, 9, 3, 3, 21, 0), (17, 2, 1, 2, 0, 0), (18, 8, 3, 3, 23, 0), (21, 1, 1, 0, 0, -1), (22, 37, 1, 0, 0, 0), (23, 2, 1, 2, 0, 0), (24, 1, 1, 0, 0, 3), (25, 9, 3, 3, 62, 0), (28, 2, 1, 2, 0, 0), (29, 8, 3, 1, 41, 0), (32, 3, 1, 0, 0, 0), (33, 13, 3, 2, 27, 0), (36, 2, 1, 1, 0, 0), (37, 17, 1, 0, 0, 0), (38, 10, 3, 0, 61, 0), (41, 2, 1, 2, 0, 0), (42, 1, 1, 0, 0, 1), (43, 9, 3, 1, 55, 0), (46, 3, 1, 0, 0, 0), (47, 13, 3, 2, 28, 0), (50, 2, 1, 1, 0, 0), (51, 17, 1, 0, 0, 0), (52, 10, 3, 0, 61, 0), (55, 3, 1, 0, 0, 0), (56, 13, 3, 2, 29, 0), (59, 2, 1, 1, 0, 0), (60, 17, 1, 0, 0, 0), (61, 37, 1, 0, 0, 0), (62, 3, 1, 0, 0, 0), (63, 13, 3, 2, 27, 0), (66, 2, 1, 1, 0, 0), (67, 17, 1, 0, 0, 0), (68, 1, 1, 0, 0, 1), (69, 9, 3, 1, 102, 0), (72, 2, 1, 2, 0, 0), (73, 1, 1, 0, 0, 3), (74, 7, 1, 1, 0, 0), (75, 3, 1, 0, 0, 0), (76, 13, 3, 2, 29, 0), (79, 2, 1, 1, 0, 0), (80, 17, 1, 0, 0, 0), (81, 9, 3, 3, 102, 0), (84, 3, 1, 0, 0, 0), (85, 13, 3, 2, 31, 0), (88, 3, 1, 0, 0, 0), (89, 13, 3, 2, 30, 0), (92, 2, 1, 1, 0, 0), (93, 17, 1, 0, 0, 0), (94, 2, 1, 2, 0, 0), (95, 7, 1, 0, 0, 0), (96, 1, 1, 0, 0, 3), (97, 7, 1, 1, 0, 0)]
def dh_c76_1 : List (Nat × jm_In) := [(98, 17, 1, 0, 0, 0), (99, 10, 3, 0, 103, 0), (102, 1, 1, 0, 0, -1), (103, 37, 1, 0, 0, 0)]
/-- DeltaHistoryModel.step(II)I -/
def dh_c76 : List (Nat × jm_In) := dh_c76_0 ++ (dh_c76_1)
/-- DeltaHistoryModel.size(Z)I -/
def dh_c77 : List (Nat × jm_In) := [(0, 3, 1, 0, 0, 0), (1, 1, 1, 0, 0, 0), (2, 14, 3, 2, 0, 0), (5, 2, 1, 1, 0, 0), (6, 8, 3, 0, 16, 0), (9, 3, 1, 0, 0, 0), (10, 12, 3, 2, 13, 0), (13, 10, 3, 0, 20, 0), (16, 3, 1, 0, 0, 0), (17, 12, 3, 2, 11, 0), (20, 37, 1, 0, 0, 0)]
/-- DeltaHistoryModel.at(IZ)I -/
def dh_c78 : List (Nat × jm_In) := [(0, 3, 1, 0, 0, 0), (1, 1, 1, 0, 0, 0), (2, 14, 3, 2, 0, 0), (5, 2, 1, 1, 0, 0), (6, 8, 3, 2, 28, 0), (9, 2, 1, 1, 0, 0), (10, 2, 1, 2, 0, 0), (11, 8, 3, 0, 21, 0), (14, 3, 1, 0, 0, 0), (15, 12, 3, 2, 13, 0), (18, 10, 3, 0, 25, 0), (21, 3, 1, 0, 0, 0), (22, 12, 3, 2, 11, 0), (25, 9, 3, 2, 30, 0), (28, 1, 1, 0, 0, -1), (29, 37, 1, 0, 0, 0), (30, 2, 1, 2, 0, 0), (31, 8, 3, 0, 43, 0), (34, 3, 1, 0, 0, 0), (35, 13, 3, 2, 14, 0), (38, 2, 1, 1, 0, 0), (39, 17, 1, 0, 0, 0), (40, 10, 3, 0, 49, 0), (43, 3, 1, 0, 0, 0), (44, 13, 3, 2, 12, 0), (47, 2, 1, 1, 0, 0), (48, 17, 1, 0, 0, 0), (49, 37, 1, 0, 0, 0)]
/-- DeltaHistory$Bytes.<init>()V -/
def dh_c79 : List (Nat × jm_In) := [(0, 3, 1, 0, 0, 0), (1, 33, 3, 0, 0, 0), (4, 3, 1, 0, 0, 0), (5, 1, 3, 0, 0, 400), (8, 24, 2, 100, 0, 0), (10, 16, 3, 3, 0, 0), (13, 39, 1, 0, 0, 0)]
/-- DeltaHistory$Bytes.clear()V -/
def dh_c80 : List (Nat × jm_In) := [(0, 3, 1, 0, 0, 0), (1, 1, 1, 0, 0, 0), (2, 14, 3, 3, 1, 0), (5, 39, 1, 0, 0, 0)]
/-- DeltaHistory$Bytes.put(I)V -/
def dh_c81 : List (Nat × jm_In) := [(0, 3, 1, 0, 0, 0), (1, 12, 3, 3, 1, 0), (4, 1, 3, 0, 0, 400), (7, 9, 3, 3, 20, 0), (10, 3, 1, 0, 0, 0), (11, 13, 3, 3, 0, 0), (14, 3, 1, 0, 0, 0), (15, 12, 3, 3, 1, 0), (18, 2, 1, 1, 0, 0), (19, 19, 1, 0, 0, 0), (20, 3, 1, 0, 0, 0), (21, 29, 1, 0, 0, 0), (22, 12, 3, 3, 1, 0), (25, 1, 1, 0, 0, 1), (26, 7, 1, 0, 0, 0), (27, 14, 3, 3, 1, 0), (30, 39, 1, 0, 0, 0)]
/-- DeltaHistory$Bytes.fits()Z -/
def dh_c82 : List (Nat × jm_In) := [(0, 3, 1, 0, 0, 0), (1, 12, 3, 3, 1, 0), (4, 1, 3, 0, 0, 400), (7, 9, 3, 4, 14, 0), (10, 1, 1, 0, 0, 1), (11, 10, 3, 0, 15, 0), (14, 1, 1, 0, 0, 0), (15, 38, 1, 0, 0, 0)]
/-- DeltaHistory$Bytes.has(I)Z -/
def dh_c83 : List (Nat × jm_In) := [(0, 2, 1, 1, 0, 0), (1, 8, 3, 2, 23, 0), (4, 2, 1, 1, 0, 0), (5, 3, 1, 0, 0, 0), (6, 12, 3, 3, 1, 0), (9, 9, 3, 3, 23, 0), (12, 2, 1, 1, 0, 0), (13, 1, 3, 0, 0, 400), (16, 9, 3, 3, 23, 0), (19, 1, 1, 0, 0, 1), (20, 10, 3, 0, 24, 0), (23, 1, 1, 0, 0, 0), (24, 38, 1, 0, 0, 0)]
/-- DeltaHistory$Bytes.byteAt(I)I -/
def dh_c84 : List (Nat × jm_In) := [(0, 3, 1, 0, 0, 0), (1, 2, 1, 1, 0, 0), (2, 32, 3, 83, 2, 0), (5, 8, 3, 0, 17, 0), (8, 3, 1, 0, 0, 0), (9, 13, 3, 3, 0, 0), (12, 2, 1, 1, 0, 0), (13, 17, 1, 0, 0, 0), (14, 10, 3, 0, 18, 0), (17, 1, 1, 0, 0, -1), (18, 37, 1, 0, 0, 0)]
/-- DeltaHistory$Bytes.becomeFirst(LDeltaHistory$Bytes;I)V -/
def dh_c85 : List (Nat × jm_In) := [(0, 3, 1, 0, 0, 0), (1, 32, 3, 80, 1, 0), (4, 1, 1, 0, 0, 0), (5, 4, 1, 3, 0, 0), (6, 2, 1, 3, 0, 0), (7, 2, 1, 2, 0, 0), (8, 9, 3, 3, 35, 0), (11, 3, 1, 1, 0, 0), (12, 2, 1, 3, 0, 0), (13, 32, 3, 83, 2, 0), (16, 8, 3, 0, 35, 0), (19, 3, 1, 0, 0, 0), (20, 3, 1, 1, 0, 0), (21, 13, 3, 3, 0, 0), (24, 2, 1, 3, 0, 0), (25, 17, 1, 0, 0, 0), (26, 32, 3, 81, 2, 0), (29, 6, 3, 3, 0, 1), (32, 10, 3, 0, 6, 0), (35, 39, 1, 0, 0, 0)]
/-- DeltaHistory$Bytes.isSameAs(LDeltaHistory$Bytes;)Z -/
def dh_c86 : List (Nat × jm_In) := [(0, 3, 1, 0, 0, 0), (1, 12, 3, 3, 1, 0), (4, 3, 1, 1, 0, 0), (5, 12, 3, 3, 1, 0), (8, 9, 3, 0, 13, 0), (11, 1, 1, 0, 0, 0), (12, 38, 1, 0, 0, 0), (13, 1, 1, 0, 0, 0), (14, 4, 1, 2, 0, 0), (15, 2, 1, 2, 0, 0), (16, 3, 1, 0, 0, 0), (17, 12, 3, 3, 1, 0), (20, 9, 3, 3, 44, 0), (23, 3, 1, 0, 0, 0), (24, 2, 1, 2, 0, 0), (25, 32, 3, 84, 2, 0), (28, 3, 1, 1, 0, 0), (29, 2, 1, 2, 0, 0), (30, 32, 3, 84, 2, 0), (33, 9, 3, 0, 38, 0), (36, 1, 1, 0, 0, 0), (37, 38, 1, 0, 0, 0), (38, 6, 3, 2, 0, 1), (41, 10, 3, 0, 15, 0), (44, 1, 1, 0, 0, 1), (45, 38, 1, 0, 0, 0)]
/-- DeltaHistory$Bytes.take()I -/
def dh_c87 : List (Nat × jm_In) := [(0, 3, 1, 0, 0, 0), (1, 3, 1, 0, 0, 0), (2, 12, 3, 3, 2, 0), (5, 32, 3, 83, 2, 0), (8, 8, 3, 1, 13, 0), (11, 1, 1, 0, 0, -1), (12, 37, 1, 0, 0, 0), (13, 3, 1, 0, 0, 0), (14, 13, 3, 3, 0, 0), (17, 3, 1, 0, 0, 0), (18, 12, 3, 3, 2, 0), (21, 17, 1, 0, 0, 0), (22, 4, 1, 1, 0, 0), (23, 3, 1, 0, 0, 0), (24, 29, 1, 0, 0, 0), (25, 12, 3, 3, 2, 0), (28, 1, 1, 0, 0, 1), (29, 7, 1, 0, 0, 0), (30, 14, 3, 3, 2, 0), (33, 2, 1, 1, 0, 0), (34, 37, 1, 0, 0, 0)]
/-- DeltaHistory$Delta.<init>()V -/
def dh_c88 : List (Nat × jm_In) := [(0, 3, 1, 0, 0, 0), (1, 33, 3, 0, 0, 0), (4, 3, 1, 0, 0, 0), (5, 1, 2, 0, 0, 24), (7, 24, 2, 100, 0, 0), (9, 16, 3, 4, 0, 0), (12, 3, 1, 0, 0, 0), (13, 1, 2, 0, 0, 24), (15, 24, 2, 100, 0, 0), (17, 16, 3, 4, 1, 0), (20, 3, 1, 0, 0, 0), (21, 1, 2, 0, 0, 24), (23, 24, 2, 100, 0, 0), (25, 16, 3, 4, 2, 0), (28, 3, 1, 0, 0, 0), (29, 1, 2, 0, 0, 24), (31, 24, 2, 100, 0, 0), (33, 16, 3, 4, 3, 0), (36, 3, 1, 0, 0, 0), (37, 1, 2, 0, 0, 12), (39, 24, 2, 100, 0, 0), (41, 16, 3, 4, 4, 0), (44, 3, 1, 0, 0, 0), (45, 1, 2, 0, 0, 13), (47, 1, 2, 0, 0, 13), (49, 27, 4, 61, 0, 0), (53, 16, 3, 4, 5, 0), (56, 39, 1, 0, 0, 0)]
def dh_c89_0 : List (Nat × jm_In) := [(0, 3, 1, 0, 0, 0), (1, 3, 1, 1, 0, 0), (2, 3, 1, 2, 0, 0), (3, 32, 3, 90, 3, 0), (6, 3, 1, 0, 0, 0), (7, 1, 1, 0, 0, 0), (8, 14, 3, 4, 6, 0), (11, 3, 1, 0, 0, 0), (12, 1, 1, 0, 0, 0), (13, 14, 3, 4, 7, 0), (16, 3, 1, 0, 0, 0), (17, 1, 1, 0, 0, 0), (18, 15, 3, 4, 8, 0), (21, 1, 1, 0, 0, 0), (22, 4, 1, 3, 0, 0), (23, 1, 1, 0, 0, 0), (24, 4, 2, 4, 0, 0), (26, 1, 1, 0, 0, 0), (27, 4, 2, 5, 0, 0), (29, 2, 2, 5, 0, 0), (31, 1, 2, 0, 0, 24), (33, 9, 3, 3, 195, 0), (36, 2, 1, 3, 0, 0), (37, 3, 1, 1, 0, 0), (38, 12, 3, 8, 1, 0), (41, 9, 3, 2, 53, 0), (44, 2, 2, 4, 0, 0), (46, 3, 1, 2, 0, 0), (47, 12, 3, 8, 1, 0), (50, 9, 3, 3, 195, 0), (53, 2, 1, 3, 0, 0), (54, 3, 1, 1, 0, 0), (55, 12, 3, 8, 1, 0), (58, 9, 3, 3, 100, 0), (61, 2, 2, 4, 0, 0), (63, 3, 1, 2, 0, 0), (64, 12, 3, 8, 1, 0), (67, 9, 3, 3, 100, 0), (70, 3, 1, 1, 0, 0), (71, 13, 3, 8, 0, 0), (74, 2, 1, 3, 0, 0), (75, 17, 1, 0, 0, 0), (76, 3, 1, 2, 0, 0), (77, 13, 3, 8, 0, 0), (80, 2, 2, 4, 0, 0), (82, 17, 1, 0, 0, 0), (83, 9, 3, 1, 100, 0), (86, 3, 1, 0, 0, 0), (87, 1, 1, 0, 0, 0), (88, 15, 3, 4, 8, 0), (91, 6, 3, 3, 0, 1), (94, 6, 3, 4, 0, 1), (97, 10, 3, 0, 189, 0), (100, 2, 1, 3, 0, 0), (101, 3, 1, 1, 0, 0), (102, 12, 3, 8, 1, 0), (105, 9, 3, 3, 154, 0), (108, 2, 2, 4, 0, 0), (110, 3, 1, 2, 0, 0), (111, 12, 3, 8, 1, 0)]
def dh_c89_1 : List (Nat × jm_In) := [(114, 9, 3, 0, 142, 0), (117, 3, 1, 0, 0, 0), (118, 13, 3, 4, 5, 0), (121, 2, 1, 3, 0, 0), (122, 1, 1, 0, 0, 1), (123, 7, 1, 0, 0, 0), (124, 20, 1, 61, 0, 0), (125, 2, 2, 4, 0, 0), (127, 17, 1, 0, 0, 0), (128, 3, 1, 0, 0, 0), (129, 13, 3, 4, 5, 0), (132, 2, 1, 3, 0, 0), (133, 20, 1, 61, 0, 0), (134, 2, 2, 4, 0, 0), (136, 1, 1, 0, 0, 1), (137, 7, 1, 0, 0, 0), (138, 17, 1, 0, 0, 0), (139, 9, 3, 2, 154, 0), (142, 3, 1, 0, 0, 0), (143, 1, 1, 0, 0, 0), (144, 2, 1, 3, 0, 0), (145, 32, 3, 91, 3, 0), (148, 6, 3, 3, 0, 1), (151, 10, 3, 0, 189, 0), (154, 3, 1, 0, 0, 0), (155, 1, 1, 0, 0, 1), (156, 2, 1, 3, 0, 0), (157, 32, 3, 91, 3, 0), (160, 3, 1, 0, 0, 0), (161, 13, 3, 4, 4, 0), (164, 3, 1, 0, 0, 0), (165, 12, 3, 4, 7, 0), (168, 3, 1, 2, 0, 0), (169, 13, 3, 8, 0, 0), (172, 2, 2, 4, 0, 0), (174, 17, 1, 0, 0, 0), (175, 19, 1, 0, 0, 0), (176, 3, 1, 0, 0, 0), (177, 29, 1, 0, 0, 0), (178, 12, 3, 4, 7, 0), (181, 1, 1, 0, 0, 1), (182, 7, 1, 0, 0, 0), (183, 14, 3, 4, 7, 0), (186, 6, 3, 4, 0, 1), (189, 6, 3, 5, 0, 1), (192, 10, 3, 0, 29, 0), (195, 39, 1, 0, 0, 0)]
/-- DeltaHistory$Delta.make(LDeltaHistory$Text;LDeltaHistory$Text;)V -/
def dh_c89 : List (Nat × jm_In) := dh_c89_0 ++ (dh_c89_1)
def dh_c90_0 : List (Nat × jm_In) := [(0, 3, 1, 1, 0, 0), (1, 12, 3, 8, 1, 0), (4, 4, 1, 3, 0, 0), (5, 2, 1, 3, 0, 0), (6, 8, 3, 2, 139, 0), (9, 3, 1, 2, 0, 0), (10, 12, 3, 8, 1, 0), (13, 4, 2, 4, 0, 0), (15, 2, 2, 4, 0, 0), (17, 8, 3, 2, 133, 0), (20, 2, 1, 3, 0, 0), (21, 3, 1, 1, 0, 0), (22, 12, 3, 8, 1, 0), (25, 9, 3, 0, 37, 0), (28, 2, 2, 4, 0, 0), (30, 3, 1, 2, 0, 0), (31, 12, 3, 8, 1, 0), (34, 9, 3, 1, 50, 0), (37, 3, 1, 0, 0, 0), (38, 13, 3, 4, 5, 0), (41, 2, 1, 3, 0, 0), (42, 20, 1, 61, 0, 0), (43, 2, 2, 4, 0, 0), (45, 1, 1, 0, 0, 0), (46, 19, 1, 0, 0, 0), (47, 10, 3, 0, 127, 0), (50, 3, 1, 1, 0, 0), (51, 13, 3, 8, 0, 0), (54, 2, 1, 3, 0, 0), (55, 17, 1, 0, 0, 0), (56, 3, 1, 2, 0, 0), (57, 13, 3, 8, 0, 0), (60, 2, 2, 4, 0, 0), (62, 17, 1, 0, 0, 0), (63, 9, 3, 1, 93, 0), (66, 3, 1, 0, 0, 0), (67, 13, 3, 4, 5, 0), (70, 2, 1, 3, 0, 0), (71, 20, 1, 61, 0, 0), (72, 2, 2, 4, 0, 0), (74, 3, 1, 0, 0, 0), (75, 13, 3, 4, 5, 0), (78, 2, 1, 3, 0, 0), (79, 1, 1, 0, 0, 1), (80, 7, 1, 0, 0, 0), (81, 20, 1, 61, 0, 0), (82, 2, 2, 4, 0, 0), (84, 1, 1, 0, 0, 1), (85, 7, 1, 0, 0, 0), (86, 17, 1, 0, 0, 0), (87, 1, 1, 0, 0, 1), (88, 7, 1, 0, 0, 0), (89, 19, 1, 0, 0, 0), (90, 10, 3, 0, 127, 0), (93, 3, 1, 0, 0, 0), (94, 13, 3, 4, 5, 0), (97, 2, 1, 3, 0, 0), (98, 20, 1, 61, 0, 0), (99, 2, 2, 4, 0, 0), (101, 3, 1, 0, 0, 0)]
def dh_c90_1 : List (Nat × jm_In) := [(102, 13, 3, 4, 5, 0), (105, 2, 1, 3, 0, 0), (106, 1, 1, 0, 0, 1), (107, 7, 1, 0, 0, 0), (108, 20, 1, 61, 0, 0), (109, 2, 2, 4, 0, 0), (111, 17, 1, 0, 0, 0), (112, 3, 1, 0, 0, 0), (113, 13, 3, 4, 5, 0), (116, 2, 1, 3, 0, 0), (117, 20, 1, 61, 0, 0), (118, 2, 2, 4, 0, 0), (120, 1, 1, 0, 0, 1), (121, 7, 1, 0, 0, 0), (122, 17, 1, 0, 0, 0), (123, 45, 3, 0, 0, 0), (126, 19, 1, 0, 0, 0), (127, 6, 3, 4, 0, -1), (130, 10, 3, 0, 15, 0), (133, 6, 3, 3, 0, -1), (136, 10, 3, 0, 5, 0), (139, 39, 1, 0, 0, 0)]
/-- DeltaHistory$Delta.countCommon(LDeltaHistory$Text;LDeltaHistory$Text;)V -/
def dh_c90 : List (Nat × jm_In) := dh_c90_0 ++ (dh_c90_1)
/-- DeltaHistory$Delta.countLine(II)V -/
def dh_c91 : List (Nat × jm_In) := [(0, 3, 1, 0, 0, 0), (1, 12, 3, 4, 8, 0), (4, 8, 3, 0, 38, 0), (7, 3, 1, 0, 0, 0), (8, 13, 3, 4, 0, 0), (11, 3, 1, 0, 0, 0), (12, 12, 3, 4, 6, 0), (15, 1, 1, 0, 0, 1), (16, 7, 1, 1, 0, 0), (17, 17, 1, 0, 0, 0), (18, 2, 1, 1, 0, 0), (19, 9, 3, 1, 38, 0), (22, 3, 1, 0, 0, 0), (23, 13, 3, 4, 2, 0), (26, 3, 1, 0, 0, 0), (27, 12, 3, 4, 6, 0), (30, 1, 1, 0, 0, 1), (31, 7, 1, 1, 0, 0), (32, 30, 1, 0, 0, 0), (33, 17, 1, 0, 0, 0), (34, 1, 1, 0, 0, 1), (35, 7, 1, 0, 0, 0), (36, 19, 1, 0, 0, 0), (37, 39, 1, 0, 0, 0), (38, 3, 1, 0, 0, 0), (39, 13, 3, 4, 0, 0), (42, 3, 1, 0, 0, 0), (43, 12, 3, 4, 6, 0), (46, 2, 1, 1, 0, 0), (47, 19, 1, 0, 0, 0), (48, 3, 1, 0, 0, 0), (49, 13, 3, 4, 1, 0), (52, 3, 1, 0, 0, 0), (53, 12, 3, 4, 6, 0), (56, 2, 1, 2, 0, 0), (57, 19, 1, 0, 0, 0), (58, 3, 1, 0, 0, 0), (59, 13, 3, 4, 2, 0), (62, 3, 1, 0, 0, 0), (63, 12, 3, 4, 6, 0), (66, 1, 1, 0, 0, 1), (67, 19, 1, 0, 0, 0), (68, 3, 1, 0, 0, 0), (69, 13, 3, 4, 3, 0), (72, 3, 1, 0, 0, 0), (73, 12, 3, 4, 6, 0), (76, 3, 1, 0, 0, 0), (77, 12, 3, 4, 7, 0), (80, 19, 1, 0, 0, 0), (81, 3, 1, 0, 0, 0), (82, 29, 1, 0, 0, 0), (83, 12, 3, 4, 6, 0), (86, 1, 1, 0, 0, 1), (87, 7, 1, 0, 0, 0), (88, 14, 3, 4, 6, 0), (91, 3, 1, 0, 0, 0), (92, 1, 1, 0, 0, 1), (93, 15, 3, 4, 8, 0), (96, 39, 1, 0, 0, 0)]
/-- DeltaHistory$Delta.numberOf(II)I -/
def dh_c92 : List (Nat × jm_In) := [(0, 2, 1, 1, 0, 0), (1, 8, 3, 2, 12, 0), (4, 2, 1, 1, 0, 0), (5, 3, 1, 0, 0, 0), (6, 12, 3, 4, 6, 0), (9, 9, 3, 2, 14, 0), (12, 1, 1, 0, 0, -1), (13, 37, 1, 0, 0, 0), (14, 2, 1, 2, 0, 0), (15, 11, 25, 0, 2, 0), (40, 3, 1, 0, 0, 0), (41, 13, 3, 4, 0, 0), (44, 2, 1, 1, 0, 0), (45, 17, 1, 0, 0, 0), (46, 37, 1, 0, 0, 0), (47, 3, 1, 0, 0, 0), (48, 13, 3, 4, 1, 0), (51, 2, 1, 1, 0, 0), (52, 17, 1, 0, 0, 0), (53, 37, 1, 0, 0, 0), (54, 3, 1, 0, 0, 0), (55, 13, 3, 4, 2, 0), (58, 2, 1, 1, 0, 0), (59, 17, 1, 0, 0, 0), (60, 37, 1, 0, 0, 0), (61, 3, 1, 0, 0, 0), (62, 2, 1, 1, 0, 0), (63, 2, 1, 2, 0, 0), (64, 1, 1, 0, 0, 3), (65, 7, 1, 1, 0, 0), (66, 32, 3, 93, 3, 0), (69, 37, 1, 0, 0, 0)]
/-- DeltaHistory$Delta.addedLine(II)I -/
def dh_c93 : List (Nat × jm_In) := [(0, 3, 1, 0, 0, 0), (1, 13, 3, 4, 0, 0), (4, 2, 1, 1, 0, 0), (5, 17, 1, 0, 0, 0), (6, 1, 1, 0, 0, 1), (7, 9, 3, 1, 24, 0), (10, 2, 1, 2, 0, 0), (11, 8, 3, 2, 24, 0), (14, 2, 1, 2, 0, 0), (15, 3, 1, 0, 0, 0), (16, 13, 3, 4, 2, 0), (19, 2, 1, 1, 0, 0), (20, 17, 1, 0, 0, 0), (21, 9, 3, 2, 26, 0), (24, 1, 1, 0, 0, -1), (25, 37, 1, 0, 0, 0), (26, 3, 1, 0, 0, 0), (27, 13, 3, 4, 4, 0), (30, 3, 1, 0, 0, 0), (31, 13, 3, 4, 3, 0), (34, 2, 1, 1, 0, 0), (35, 17, 1, 0, 0, 0), (36, 2, 1, 2, 0, 0), (37, 7, 1, 0, 0, 0), (38, 17, 1, 0, 0, 0), (39, 37, 1, 0, 0, 0)]
/-- DeltaHistory$History.<init>()V -/
def dh_c94 : List (Nat × jm_In) := [(0, 3, 1, 0, 0, 0), (1, 33, 3, 0, 0, 0), (4, 3, 1, 0, 0, 0), (5, 1, 2, 0, 0, 20), (7, 25, 3, 69, 0, 0), (10, 16, 3, 5, 0, 0), (13, 1, 1, 0, 0, 0), (14, 4, 1, 1, 0, 0), (15, 2, 1, 1, 0, 0), (16, 1, 2, 0, 0, 20), (18, 9, 3, 3, 40, 0), (21, 3, 1, 0, 0, 0), (22, 13, 3, 5, 0, 0), (25, 2, 1, 1, 0, 0), (26, 28, 3, 7, 10, 0), (29, 29, 1, 0, 0, 0), (30, 32, 3, 111, 1, 0), (33, 21, 1, 69, 7, 0), (34, 6, 3, 1, 0, 1), (37, 10, 3, 0, 15, 0), (40, 39, 1, 0, 0, 0)]
/-- DeltaHistory$History.clear()V -/
def dh_c95 : List (Nat × jm_In) := [(0, 3, 1, 0, 0, 0), (1, 1, 1, 0, 0, 0), (2, 14, 3, 5, 1, 0), (5, 39, 1, 0, 0, 0)]
/-- DeltaHistory$History.has(I)Z -/
def dh_c96 : List (Nat × jm_In) := [(0, 2, 1, 1, 0, 0), (1, 8, 3, 2, 16, 0), (4, 2, 1, 1, 0, 0), (5, 3, 1, 0, 0, 0), (6, 12, 3, 5, 1, 0), (9, 9, 3, 3, 16, 0), (12, 1, 1, 0, 0, 1), (13, 10, 3, 0, 17, 0), (16, 1, 1, 0, 0, 0), (17, 38, 1, 0, 0, 0)]
/-- DeltaHistory$History.become(LDeltaHistory$History;)V -/
def dh_c97 : List (Nat × jm_In) := [(0, 3, 1, 0, 0, 0), (1, 3, 1, 1, 0, 0), (2, 12, 3, 5, 1, 0), (5, 14, 3, 5, 1, 0), (8, 1, 1, 0, 0, 0), (9, 4, 1, 2, 0, 0), (10, 2, 1, 2, 0, 0), (11, 3, 1, 0, 0, 0), (12, 12, 3, 5, 1, 0), (15, 9, 3, 3, 39, 0), (18, 3, 1, 0, 0, 0), (19, 13, 3, 5, 0, 0), (22, 2, 1, 2, 0, 0), (23, 20, 1, 69, 0, 0), (24, 3, 1, 1, 0, 0), (25, 13, 3, 5, 0, 0), (28, 2, 1, 2, 0, 0), (29, 20, 1, 69, 0, 0), (30, 32, 3, 112, 2, 0), (33, 6, 3, 2, 0, 1), (36, 10, 3, 0, 10, 0), (39, 39, 1, 0, 0, 0)]
/-- DeltaHistory$History.append(II)I -/
def dh_c98 : List (Nat × jm_In) := [(0, 3, 1, 0, 0, 0), (1, 12, 3, 5, 1, 0), (4, 4, 1, 3, 0, 0), (5, 3, 1, 0, 0, 0), (6, 13, 3, 5, 0, 0), (9, 2, 1, 3, 0, 0), (10, 20, 1, 69, 0, 0), (11, 5, 2, 4, 0, 0), (13, 3, 2, 4, 0, 0), (15, 2, 1, 1, 0, 0), (16, 2, 1, 2, 0, 0), (17, 32, 3, 113, 3, 0), (20, 3, 1, 0, 0, 0), (21, 2, 1, 1, 0, 0), (22, 32, 3, 96, 2, 0), (25, 8, 3, 0, 79, 0), (28, 3, 1, 0, 0, 0), (29, 13, 3, 5, 0, 0), (32, 2, 1, 1, 0, 0), (33, 20, 1, 69, 0, 0), (34, 5, 2, 5, 0, 0), (36, 3, 2, 5, 0, 0), (38, 12, 3, 7, 4, 0), (41, 1, 1, 0, 0, -1), (42, 9, 3, 1, 61, 0), (45, 3, 2, 5, 0, 0), (47, 2, 1, 3, 0, 0), (48, 14, 3, 7, 4, 0), (51, 3, 2, 4, 0, 0), (53, 3, 2, 5, 0, 0), (55, 32, 3, 114, 2, 0), (58, 10, 3, 0, 79, 0), (61, 3, 2, 5, 0, 0), (63, 29, 1, 0, 0, 0), (64, 12, 3, 7, 5, 0), (67, 1, 1, 0, 0, 1), (68, 7, 1, 0, 0, 0), (69, 14, 3, 7, 5, 0), (72, 3, 2, 4, 0, 0), (74, 3, 2, 5, 0, 0), (76, 32, 3, 115, 2, 0), (79, 3, 1, 0, 0, 0), (80, 29, 1, 0, 0, 0), (81, 12, 3, 5, 1, 0), (84, 1, 1, 0, 0, 1), (85, 7, 1, 0, 0, 0), (86, 14, 3, 5, 1, 0), (89, 2, 1, 3, 0, 0), (90, 37, 1, 0, 0, 0)]
/-- DeltaHistory$History.nameNumber(II)I -/
def dh_c99 : List (Nat × jm_In) := [(0, 3, 1, 0, 0, 0), (1, 13, 3, 5, 0, 0), (4, 2, 1, 1, 0, 0), (5, 20, 1, 69, 0, 0), (6, 5, 1, 3, 0, 0), (7, 2, 1, 2, 0, 0), (8, 8, 3, 2, 19, 0), (11, 2, 1, 2, 0, 0), (12, 3, 1, 3, 0, 0), (13, 12, 3, 7, 9, 0), (16, 9, 3, 2, 21, 0), (19, 1, 1, 0, 0, 0), (20, 37, 1, 0, 0, 0), (21, 1, 1, 0, 0, 0), (22, 4, 2, 4, 0, 0), (24, 2, 2, 4, 0, 0), (26, 1, 2, 0, 0, 20), (28, 9, 3, 3, 68, 0), (31, 2, 1, 2, 0, 0), (32, 3, 1, 3, 0, 0), (33, 12, 3, 7, 9, 0), (36, 1, 1, 0, 0, 2), (37, 7, 1, 1, 0, 0), (38, 9, 3, 3, 68, 0), (41, 3, 1, 0, 0, 0), (42, 3, 1, 3, 0, 0), (43, 12, 3, 7, 6, 0), (46, 32, 3, 96, 2, 0), (49, 8, 3, 0, 68, 0), (52, 3, 1, 0, 0, 0), (53, 13, 3, 5, 0, 0), (56, 3, 1, 3, 0, 0), (57, 12, 3, 7, 6, 0), (60, 20, 1, 69, 0, 0), (61, 5, 1, 3, 0, 0), (62, 6, 3, 4, 0, 1), (65, 10, 3, 0, 24, 0), (68, 2, 1, 2, 0, 0), (69, 3, 1, 3, 0, 0), (70, 12, 3, 7, 9, 0), (73, 1, 1, 0, 0, 1), (74, 7, 1, 1, 0, 0), (75, 9, 3, 1, 85, 0), (78, 3, 1, 3, 0, 0), (79, 12, 3, 7, 8, 0), (82, 10, 3, 0, 89, 0), (85, 3, 1, 3, 0, 0), (86, 12, 3, 7, 7, 0), (89, 37, 1, 0, 0, 0)]
/-- DeltaHistory$History.commonOrigin(II)I -/
def dh_c100 : List (Nat × jm_In) := [(0, 2, 1, 1, 0, 0), (1, 4, 1, 3, 0, 0), (2, 2, 1, 2, 0, 0), (3, 4, 2, 4, 0, 0), (5, 1, 1, 0, 0, 0), (6, 4, 2, 5, 0, 0), (8, 2, 2, 5, 0, 0), (10, 1, 2, 0, 0, 40), (12, 9, 3, 3, 58, 0), (15, 2, 1, 3, 0, 0), (16, 2, 2, 4, 0, 0), (18, 9, 3, 0, 58, 0), (21, 2, 1, 3, 0, 0), (22, 2, 2, 4, 0, 0), (24, 9, 3, 5, 40, 0), (27, 3, 1, 0, 0, 0), (28, 13, 3, 5, 0, 0), (31, 2, 1, 3, 0, 0), (32, 20, 1, 69, 0, 0), (33, 12, 3, 7, 1, 0), (36, 4, 1, 3, 0, 0), (37, 10, 3, 0, 52, 0), (40, 3, 1, 0, 0, 0), (41, 13, 3, 5, 0, 0), (44, 2, 2, 4, 0, 0), (46, 20, 1, 69, 0, 0), (47, 12, 3, 7, 1, 0), (50, 4, 2, 4, 0, 0), (52, 6, 3, 5, 0, 1), (55, 10, 3, 0, 8, 0), (58, 2, 1, 3, 0, 0), (59, 37, 1, 0, 0, 0)]
/-- DeltaHistory$Reader.<init>()V -/
def dh_c101 : List (Nat × jm_In) := [(0, 3, 1, 0, 0, 0), (1, 33, 3, 0, 0, 0), (4, 3, 1, 0, 0, 0), (5, 1, 2, 0, 0, 20), (7, 24, 2, 100, 0, 0), (9, 16, 3, 6, 0, 0), (12, 39, 1, 0, 0, 0)]
/-- DeltaHistory$Reader.read(LDeltaHistory$Bytes;LDeltaHistory$History;)Z -/
def dh_c102 : List (Nat × jm_In) := [(0, 3, 1, 1, 0, 0), (1, 1, 1, 0, 0, 0), (2, 14, 3, 3, 2, 0), (5, 3, 1, 2, 0, 0), (6, 32, 3, 95, 1, 0), (9, 3, 1, 0, 0, 0), (10, 3, 1, 1, 0, 0), (11, 3, 1, 2, 0, 0), (12, 32, 3, 103, 3, 0), (15, 8, 3, 0, 40, 0), (18, 3, 1, 0, 0, 0), (19, 3, 1, 1, 0, 0), (20, 3, 1, 2, 0, 0), (21, 32, 3, 104, 3, 0), (24, 8, 3, 0, 40, 0), (27, 3, 1, 0, 0, 0), (28, 3, 1, 1, 0, 0), (29, 3, 1, 2, 0, 0), (30, 32, 3, 107, 3, 0), (33, 8, 3, 0, 40, 0), (36, 1, 1, 0, 0, 1), (37, 10, 3, 0, 41, 0), (40, 1, 1, 0, 0, 0), (41, 38, 1, 0, 0, 0)]
def dh_c103_0 : List (Nat × jm_In) := [(0, 3, 1, 1, 0, 0), (1, 32, 3, 87, 1, 0), (4, 4, 1, 3, 0, 0), (5, 2, 1, 3, 0, 0), (6, 8, 3, 2, 15, 0), (9, 2, 1, 3, 0, 0), (10, 1, 2, 0, 0, 20), (12, 9, 3, 5, 17, 0), (15, 1, 1, 0, 0, 0), (16, 38, 1, 0, 0, 0), (17, 1, 1, 0, 0, 0), (18, 4, 2, 4, 0, 0), (20, 2, 2, 4, 0, 0), (22, 2, 1, 3, 0, 0), (23, 9, 3, 3, 132, 0), (26, 3, 1, 1, 0, 0), (27, 32, 3, 87, 1, 0), (30, 1, 1, 0, 0, 1), (31, 7, 1, 1, 0, 0), (32, 4, 2, 5, 0, 0), (34, 3, 1, 1, 0, 0), (35, 32, 3, 87, 1, 0), (38, 4, 2, 6, 0, 0), (40, 3, 1, 1, 0, 0), (41, 32, 3, 87, 1, 0), (44, 1, 1, 0, 0, 1), (45, 7, 1, 1, 0, 0), (46, 4, 2, 7, 0, 0), (48, 2, 2, 4, 0, 0), (50, 8, 3, 1, 67, 0), (53, 2, 2, 5, 0, 0), (55, 1, 1, 0, 0, -1), (56, 9, 3, 1, 63, 0), (59, 1, 1, 0, 0, 1), (60, 10, 3, 0, 73, 0), (63, 1, 1, 0, 0, 0), (64, 10, 3, 0, 73, 0), (67, 3, 1, 2, 0, 0), (68, 2, 2, 5, 0, 0), (70, 32, 3, 96, 2, 0), (73, 4, 2, 8, 0, 0), (75, 2, 2, 8, 0, 0), (77, 8, 3, 0, 103, 0), (80, 2, 2, 6, 0, 0), (82, 8, 3, 2, 103, 0), (85, 2, 2, 6, 0, 0), (87, 1, 1, 0, 0, 4), (88, 9, 3, 3, 103, 0), (91, 2, 2, 7, 0, 0), (93, 1, 1, 0, 0, -1), (94, 9, 3, 2, 103, 0), (97, 2, 2, 7, 0, 0), (99, 1, 1, 0, 0, 4), (100, 9, 3, 2, 105, 0), (103, 1, 1, 0, 0, 0), (104, 38, 1, 0, 0, 0), (105, 3, 1, 2, 0, 0), (106, 2, 2, 5, 0, 0), (108, 2, 2, 6, 0, 0), (110, 32, 3, 98, 3, 0)]
def dh_c103_1 : List (Nat × jm_In) := [(113, 31, 1, 0, 0, 0), (114, 3, 1, 2, 0, 0), (115, 13, 3, 5, 0, 0), (118, 2, 2, 4, 0, 0), (120, 20, 1, 69, 0, 0), (121, 2, 2, 7, 0, 0), (123, 14, 3, 7, 3, 0), (126, 6, 3, 4, 0, 1), (129, 10, 3, 0, 20, 0), (132, 1, 1, 0, 0, 1), (133, 38, 1, 0, 0, 0)]
/-- DeltaHistory$Reader.readHeads(LDeltaHistory$Bytes;LDeltaHistory$History;)Z -/
def dh_c103 : List (Nat × jm_In) := dh_c103_0 ++ (dh_c103_1)
/-- DeltaHistory$Reader.findBodies(LDeltaHistory$Bytes;LDeltaHistory$History;)Z -/
def dh_c104 : List (Nat × jm_In) := [(0, 1, 1, 0, 0, 0), (1, 4, 1, 3, 0, 0), (2, 2, 1, 3, 0, 0), (3, 3, 1, 2, 0, 0), (4, 12, 3, 5, 1, 0), (7, 9, 3, 3, 72, 0), (10, 3, 1, 0, 0, 0), (11, 13, 3, 6, 0, 0), (14, 2, 1, 3, 0, 0), (15, 3, 1, 1, 0, 0), (16, 12, 3, 3, 2, 0), (19, 19, 1, 0, 0, 0), (20, 3, 1, 2, 0, 0), (21, 13, 3, 5, 0, 0), (24, 2, 1, 3, 0, 0), (25, 20, 1, 69, 0, 0), (26, 32, 3, 117, 1, 0), (29, 1, 1, 0, 0, -1), (30, 9, 3, 1, 37, 0), (33, 1, 1, 0, 0, 1), (34, 10, 3, 0, 38, 0), (37, 1, 1, 0, 0, 0), (38, 4, 2, 4, 0, 0), (40, 2, 2, 4, 0, 0), (42, 8, 3, 0, 56, 0), (45, 3, 1, 0, 0, 0), (46, 3, 1, 1, 0, 0), (47, 32, 3, 105, 2, 0), (50, 8, 3, 0, 64, 0), (53, 10, 3, 0, 66, 0), (56, 3, 1, 0, 0, 0), (57, 3, 1, 1, 0, 0), (58, 32, 3, 106, 2, 0), (61, 8, 3, 1, 66, 0), (64, 1, 1, 0, 0, 0), (65, 38, 1, 0, 0, 0), (66, 6, 3, 3, 0, 1), (69, 10, 3, 0, 2, 0), (72, 3, 1, 1, 0, 0), (73, 12, 3, 3, 2, 0), (76, 3, 1, 1, 0, 0), (77, 12, 3, 3, 1, 0), (80, 9, 3, 1, 87, 0), (83, 1, 1, 0, 0, 1), (84, 10, 3, 0, 88, 0), (87, 1, 1, 0, 0, 0), (88, 38, 1, 0, 0, 0)]
/-- DeltaHistory$Reader.passText(LDeltaHistory$Bytes;)Z -/
def dh_c105 : List (Nat × jm_In) := [(0, 3, 1, 1, 0, 0), (1, 32, 3, 87, 1, 0), (4, 4, 1, 2, 0, 0), (5, 2, 1, 2, 0, 0), (6, 1, 1, 0, 0, -1), (7, 9, 3, 1, 12, 0), (10, 1, 1, 0, 0, 0), (11, 38, 1, 0, 0, 0), (12, 3, 1, 1, 0, 0), (13, 29, 1, 0, 0, 0), (14, 12, 3, 3, 2, 0), (17, 2, 1, 2, 0, 0), (18, 7, 1, 0, 0, 0), (19, 14, 3, 3, 2, 0), (22, 1, 1, 0, 0, 1), (23, 38, 1, 0, 0, 0)]
/-- DeltaHistory$Reader.passSteps(LDeltaHistory$Bytes;)Z -/
def dh_c106 : List (Nat × jm_In) := [(0, 3, 1, 1, 0, 0), (1, 32, 3, 87, 1, 0), (4, 4, 1, 2, 0, 0), (5, 1, 1, 0, 0, 0), (6, 4, 1, 3, 0, 0), (7, 2, 1, 3, 0, 0), (8, 2, 1, 2, 0, 0), (9, 9, 3, 3, 66, 0), (12, 3, 1, 1, 0, 0), (13, 32, 3, 87, 1, 0), (16, 4, 2, 4, 0, 0), (18, 3, 1, 1, 0, 0), (19, 32, 3, 87, 1, 0), (22, 31, 1, 0, 0, 0), (23, 3, 1, 1, 0, 0), (24, 32, 3, 87, 1, 0), (27, 4, 2, 5, 0, 0), (29, 2, 2, 4, 0, 0), (31, 1, 1, 0, 0, 1), (32, 9, 3, 4, 41, 0), (35, 2, 2, 5, 0, 0), (37, 1, 1, 0, 0, -1), (38, 9, 3, 1, 43, 0), (41, 1, 1, 0, 0, 0), (42, 38, 1, 0, 0, 0), (43, 2, 2, 4, 0, 0), (45, 1, 1, 0, 0, 1), (46, 9, 3, 1, 60, 0), (49, 3, 1, 1, 0, 0), (50, 29, 1, 0, 0, 0), (51, 12, 3, 3, 2, 0), (54, 2, 2, 5, 0, 0), (56, 7, 1, 0, 0, 0), (57, 14, 3, 3, 2, 0), (60, 6, 3, 3, 0, 1), (63, 10, 3, 0, 7, 0), (66, 2, 1, 2, 0, 0), (67, 1, 1, 0, 0, -1), (68, 9, 3, 0, 75, 0), (71, 1, 1, 0, 0, 1), (72, 10, 3, 0, 76, 0), (75, 1, 1, 0, 0, 0), (76, 38, 1, 0, 0, 0)]
/-- DeltaHistory$Reader.readBodies(LDeltaHistory$Bytes;LDeltaHistory$History;)Z -/
def dh_c107 : List (Nat × jm_In) := [(0, 3, 1, 2, 0, 0), (1, 12, 3, 5, 1, 0), (4, 1, 1, 0, 0, 1), (5, 7, 1, 1, 0, 0), (6, 4, 1, 3, 0, 0), (7, 2, 1, 3, 0, 0), (8, 8, 3, 2, 41, 0), (11, 3, 1, 2, 0, 0), (12, 13, 3, 5, 0, 0), (15, 2, 1, 3, 0, 0), (16, 20, 1, 69, 0, 0), (17, 32, 3, 116, 1, 0), (20, 8, 3, 0, 35, 0), (23, 3, 1, 0, 0, 0), (24, 3, 1, 1, 0, 0), (25, 3, 1, 2, 0, 0), (26, 2, 1, 3, 0, 0), (27, 32, 3, 108, 4, 0), (30, 8, 3, 1, 35, 0), (33, 1, 1, 0, 0, 0), (34, 38, 1, 0, 0, 0), (35, 6, 3, 3, 0, -1), (38, 10, 3, 0, 7, 0), (41, 1, 1, 0, 0, 0), (42, 4, 1, 3, 0, 0), (43, 2, 1, 3, 0, 0), (44, 3, 1, 2, 0, 0), (45, 12, 3, 5, 1, 0), (48, 9, 3, 3, 81, 0), (51, 3, 1, 2, 0, 0), (52, 13, 3, 5, 0, 0), (55, 2, 1, 3, 0, 0), (56, 20, 1, 69, 0, 0), (57, 32, 3, 116, 1, 0), (60, 8, 3, 1, 75, 0), (63, 3, 1, 0, 0, 0), (64, 3, 1, 1, 0, 0), (65, 3, 1, 2, 0, 0), (66, 2, 1, 3, 0, 0), (67, 32, 3, 108, 4, 0), (70, 8, 3, 1, 75, 0), (73, 1, 1, 0, 0, 0), (74, 38, 1, 0, 0, 0), (75, 6, 3, 3, 0, 1), (78, 10, 3, 0, 43, 0), (81, 1, 1, 0, 0, 1), (82, 38, 1, 0, 0, 0)]
/-- DeltaHistory$Reader.readBody(LDeltaHistory$Bytes;LDeltaHistory$History;I)Z -/
def dh_c108 : List (Nat × jm_In) := [(0, 3, 1, 2, 0, 0), (1, 13, 3, 5, 0, 0), (4, 2, 1, 3, 0, 0), (5, 20, 1, 69, 0, 0), (6, 13, 3, 7, 0, 0), (9, 5, 2, 4, 0, 0), (11, 3, 1, 2, 0, 0), (12, 13, 3, 5, 0, 0), (15, 2, 1, 3, 0, 0), (16, 20, 1, 69, 0, 0), (17, 32, 3, 117, 1, 0), (20, 4, 2, 5, 0, 0), (22, 3, 1, 1, 0, 0), (23, 3, 1, 0, 0, 0), (24, 13, 3, 6, 0, 0), (27, 2, 1, 3, 0, 0), (28, 17, 1, 0, 0, 0), (29, 14, 3, 3, 2, 0), (32, 3, 1, 2, 0, 0), (33, 2, 2, 5, 0, 0), (35, 32, 3, 96, 2, 0), (38, 8, 3, 0, 61, 0), (41, 3, 1, 0, 0, 0), (42, 3, 1, 1, 0, 0), (43, 3, 1, 2, 0, 0), (44, 13, 3, 5, 0, 0), (47, 2, 2, 5, 0, 0), (49, 20, 1, 69, 0, 0), (50, 13, 3, 7, 0, 0), (53, 3, 2, 4, 0, 0), (55, 32, 3, 110, 4, 0), (58, 10, 3, 0, 68, 0), (61, 3, 1, 0, 0, 0), (62, 3, 1, 1, 0, 0), (63, 3, 2, 4, 0, 0), (65, 32, 3, 109, 3, 0), (68, 38, 1, 0, 0, 0)]
/-- DeltaHistory$Reader.readLines(LDeltaHistory$Bytes;LDeltaHistory$Text;)Z -/
def dh_c109 : List (Nat × jm_In) := [(0, 3, 1, 1, 0, 0), (1, 32, 3, 87, 1, 0), (4, 4, 1, 3, 0, 0), (5, 1, 1, 0, 0, 0), (6, 4, 2, 4, 0, 0), (8, 2, 2, 4, 0, 0), (10, 2, 1, 3, 0, 0), (11, 9, 3, 3, 33, 0), (14, 3, 1, 2, 0, 0), (15, 3, 1, 1, 0, 0), (16, 32, 3, 87, 1, 0), (19, 32, 3, 122, 2, 0), (22, 8, 3, 1, 27, 0), (25, 1, 1, 0, 0, 0), (26, 38, 1, 0, 0, 0), (27, 6, 3, 4, 0, 1), (30, 10, 3, 0, 8, 0), (33, 1, 1, 0, 0, 1), (34, 38, 1, 0, 0, 0)]
/-- DeltaHistory$Reader.applySteps(LDeltaHistory$Bytes;LDeltaHistory$Text;LDeltaHistory$Text;)Z -/
def dh_c110 : List (Nat × jm_In) := [(0, 3, 1, 1, 0, 0), (1, 32, 3, 87, 1, 0), (4, 4, 2, 4, 0, 0), (6, 1, 1, 0, 0, 0), (7, 4, 2, 5, 0, 0), (9, 1, 1, 0, 0, 0), (10, 4, 2, 6, 0, 0), (12, 2, 2, 6, 0, 0), (14, 2, 2, 4, 0, 0), (16, 9, 3, 3, 83, 0), (19, 3, 1, 1, 0, 0), (20, 32, 3, 87, 1, 0), (23, 4, 2, 7, 0, 0), (25, 3, 1, 1, 0, 0), (26, 32, 3, 87, 1, 0), (29, 4, 2, 8, 0, 0), (31, 3, 1, 3, 0, 0), (32, 3, 1, 2, 0, 0), (33, 2, 2, 5, 0, 0), (35, 2, 2, 8, 0, 0), (37, 32, 3, 126, 4, 0), (40, 8, 3, 1, 45, 0), (43, 1, 1, 0, 0, 0), (44, 38, 1, 0, 0, 0), (45, 2, 2, 8, 0, 0), (47, 4, 2, 5, 0, 0), (49, 2, 2, 7, 0, 0), (51, 8, 3, 1, 66, 0), (54, 2, 2, 5, 0, 0), (56, 3, 1, 1, 0, 0), (57, 32, 3, 87, 1, 0), (60, 7, 1, 0, 0, 0), (61, 4, 2, 5, 0, 0), (63, 10, 3, 0, 77, 0), (66, 3, 1, 0, 0, 0), (67, 3, 1, 1, 0, 0), (68, 3, 1, 3, 0, 0), (69, 32, 3, 109, 3, 0), (72, 8, 3, 1, 77, 0), (75, 1, 1, 0, 0, 0), (76, 38, 1, 0, 0, 0), (77, 6, 3, 6, 0, 1), (80, 10, 3, 0, 12, 0), (83, 3, 1, 3, 0, 0), (84, 3, 1, 2, 0, 0), (85, 2, 2, 5, 0, 0), (87, 3, 1, 2, 0, 0), (88, 12, 3, 8, 1, 0), (91, 32, 3, 126, 4, 0), (94, 38, 1, 0, 0, 0)]
/-- DeltaHistory$Revision.<init>()V -/
def dh_c111 : List (Nat × jm_In) := [(0, 3, 1, 0, 0, 0), (1, 33, 3, 0, 0, 0), (4, 3, 1, 0, 0, 0), (5, 28, 3, 8, 2, 0), (8, 29, 1, 0, 0, 0), (9, 32, 3, 118, 1, 0), (12, 16, 3, 7, 0, 0), (15, 39, 1, 0, 0, 0)]
/-- DeltaHistory$Revision.become(LDeltaHistory$Revision;)V -/
def dh_c112 : List (Nat × jm_In) := [(0, 3, 1, 0, 0, 0), (1, 13, 3, 7, 0, 0), (4, 3, 1, 1, 0, 0), (5, 13, 3, 7, 0, 0), (8, 32, 3, 120, 2, 0), (11, 3, 1, 0, 0, 0), (12, 3, 1, 1, 0, 0), (13, 12, 3, 7, 1, 0), (16, 14, 3, 7, 1, 0), (19, 3, 1, 0, 0, 0), (20, 3, 1, 1, 0, 0), (21, 12, 3, 7, 2, 0), (24, 14, 3, 7, 2, 0), (27, 3, 1, 0, 0, 0), (28, 3, 1, 1, 0, 0), (29, 12, 3, 7, 3, 0), (32, 14, 3, 7, 3, 0), (35, 3, 1, 0, 0, 0), (36, 3, 1, 1, 0, 0), (37, 12, 3, 7, 4, 0), (40, 14, 3, 7, 4, 0), (43, 3, 1, 0, 0, 0), (44, 3, 1, 1, 0, 0), (45, 12, 3, 7, 5, 0), (48, 14, 3, 7, 5, 0), (51, 3, 1, 0, 0, 0), (52, 3, 1, 1, 0, 0), (53, 12, 3, 7, 6, 0), (56, 14, 3, 7, 6, 0), (59, 3, 1, 0, 0, 0), (60, 3, 1, 1, 0, 0), (61, 12, 3, 7, 7, 0), (64, 14, 3, 7, 7, 0), (67, 3, 1, 0, 0, 0), (68, 3, 1, 1, 0, 0), (69, 12, 3, 7, 8, 0), (72, 14, 3, 7, 8, 0), (75, 3, 1, 0, 0, 0), (76, 3, 1, 1, 0, 0), (77, 12, 3, 7, 9, 0), (80, 14, 3, 7, 9, 0), (83, 39, 1, 0, 0, 0)]
/-- DeltaHistory$Revision.begin(II)V -/
def dh_c113 : List (Nat × jm_In) := [(0, 3, 1, 0, 0, 0), (1, 13, 3, 7, 0, 0), (4, 32, 3, 119, 1, 0), (7, 3, 1, 0, 0, 0), (8, 2, 1, 1, 0, 0), (9, 14, 3, 7, 1, 0), (12, 3, 1, 0, 0, 0), (13, 2, 1, 2, 0, 0), (14, 14, 3, 7, 2, 0), (17, 3, 1, 0, 0, 0), (18, 1, 1, 0, 0, -1), (19, 14, 3, 7, 3, 0), (22, 3, 1, 0, 0, 0), (23, 1, 1, 0, 0, -1), (24, 14, 3, 7, 4, 0), (27, 3, 1, 0, 0, 0), (28, 1, 1, 0, 0, 0), (29, 14, 3, 7, 5, 0), (32, 3, 1, 0, 0, 0), (33, 1, 1, 0, 0, -1), (34, 14, 3, 7, 6, 0), (37, 3, 1, 0, 0, 0), (38, 1, 1, 0, 0, 1), (39, 14, 3, 7, 7, 0), (42, 3, 1, 0, 0, 0), (43, 1, 1, 0, 0, 1), (44, 14, 3, 7, 8, 0), (47, 3, 1, 0, 0, 0), (48, 1, 1, 0, 0, 2), (49, 14, 3, 7, 9, 0), (52, 39, 1, 0, 0, 0)]
/-- DeltaHistory$Revision.follow(LDeltaHistory$Revision;)V -/
def dh_c114 : List (Nat × jm_In) := [(0, 3, 1, 0, 0, 0), (1, 3, 1, 1, 0, 0), (2, 12, 3, 7, 6, 0), (5, 14, 3, 7, 6, 0), (8, 3, 1, 0, 0, 0), (9, 3, 1, 1, 0, 0), (10, 12, 3, 7, 7, 0), (13, 14, 3, 7, 7, 0), (16, 3, 1, 0, 0, 0), (17, 3, 1, 1, 0, 0), (18, 12, 3, 7, 8, 0), (21, 1, 1, 0, 0, 1), (22, 7, 1, 0, 0, 0), (23, 14, 3, 7, 8, 0), (26, 3, 1, 0, 0, 0), (27, 3, 1, 1, 0, 0), (28, 12, 3, 7, 9, 0), (31, 14, 3, 7, 9, 0), (34, 39, 1, 0, 0, 0)]
/-- DeltaHistory$Revision.branchOff(LDeltaHistory$Revision;)V -/
def dh_c115 : List (Nat × jm_In) := [(0, 3, 1, 0, 0, 0), (1, 3, 1, 0, 0, 0), (2, 12, 3, 7, 1, 0), (5, 14, 3, 7, 6, 0), (8, 3, 1, 0, 0, 0), (9, 3, 1, 1, 0, 0), (10, 12, 3, 7, 5, 0), (13, 14, 3, 7, 7, 0), (16, 3, 1, 0, 0, 0), (17, 1, 1, 0, 0, 1), (18, 14, 3, 7, 8, 0), (21, 3, 1, 0, 0, 0), (22, 3, 1, 1, 0, 0), (23, 12, 3, 7, 9, 0), (26, 1, 1, 0, 0, 2), (27, 7, 1, 0, 0, 0), (28, 14, 3, 7, 9, 0), (31, 39, 1, 0, 0, 0)]
/-- DeltaHistory$Revision.isOnTrunk()Z -/
def dh_c116 : List (Nat × jm_In) := [(0, 3, 1, 0, 0, 0), (1, 12, 3, 7, 6, 0), (4, 1, 1, 0, 0, -1), (5, 9, 3, 1, 12, 0), (8, 1, 1, 0, 0, 1), (9, 10, 3, 0, 13, 0), (12, 1, 1, 0, 0, 0), (13, 38, 1, 0, 0, 0)]
/-- DeltaHistory$Revision.source()I -/
def dh_c117 : List (Nat × jm_In) := [(0, 3, 1, 0, 0, 0), (1, 32, 3, 116, 1, 0), (4, 8, 3, 0, 14, 0), (7, 3, 1, 0, 0, 0), (8, 12, 3, 7, 4, 0), (11, 10, 3, 0, 18, 0), (14, 3, 1, 0, 0, 0), (15, 12, 3, 7, 1, 0), (18, 37, 1, 0, 0, 0)]
/-- DeltaHistory$Text.<init>()V -/
def dh_c118 : List (Nat × jm_In) := [(0, 3, 1, 0, 0, 0), (1, 33, 3, 0, 0, 0), (4, 3, 1, 0, 0, 0), (5, 1, 2, 0, 0, 12), (7, 24, 2, 100, 0, 0), (9, 16, 3, 8, 0, 0), (12, 39, 1, 0, 0, 0)]
/-- DeltaHistory$Text.clear()V -/
def dh_c119 : List (Nat × jm_In) := [(0, 3, 1, 0, 0, 0), (1, 1, 1, 0, 0, 0), (2, 14, 3, 8, 1, 0), (5, 39, 1, 0, 0, 0)]
/-- DeltaHistory$Text.become(LDeltaHistory$Text;)V -/
def dh_c120 : List (Nat × jm_In) := [(0, 3, 1, 1, 0, 0), (1, 13, 3, 8, 0, 0), (4, 1, 1, 0, 0, 0), (5, 3, 1, 0, 0, 0), (6, 13, 3, 8, 0, 0), (9, 1, 1, 0, 0, 0), (10, 3, 1, 1, 0, 0), (11, 12, 3, 8, 1, 0), (14, 47, 3, 0, 0, 0), (17, 3, 1, 0, 0, 0), (18, 3, 1, 1, 0, 0), (19, 12, 3, 8, 1, 0), (22, 14, 3, 8, 1, 0), (25, 39, 1, 0, 0, 0)]
/-- DeltaHistory$Text.lineAt(I)I -/
def dh_c121 : List (Nat × jm_In) := [(0, 2, 1, 1, 0, 0), (1, 8, 3, 2, 21, 0), (4, 2, 1, 1, 0, 0), (5, 3, 1, 0, 0, 0), (6, 12, 3, 8, 1, 0), (9, 9, 3, 3, 21, 0), (12, 3, 1, 0, 0, 0), (13, 13, 3, 8, 0, 0), (16, 2, 1, 1, 0, 0), (17, 17, 1, 0, 0, 0), (18, 10, 3, 0, 22, 0), (21, 1, 1, 0, 0, -1), (22, 37, 1, 0, 0, 0)]
/-- DeltaHistory$Text.append(I)Z -/
def dh_c122 : List (Nat × jm_In) := [(0, 2, 1, 1, 0, 0), (1, 1, 1, 0, 0, 1), (2, 9, 3, 2, 20, 0), (5, 2, 1, 1, 0, 0), (6, 1, 2, 0, 0, 99), (8, 9, 3, 4, 20, 0), (11, 3, 1, 0, 0, 0), (12, 12, 3, 8, 1, 0), (15, 1, 2, 0, 0, 12), (17, 9, 3, 2, 22, 0), (20, 1, 1, 0, 0, 0), (21, 38, 1, 0, 0, 0), (22, 3, 1, 0, 0, 0), (23, 13, 3, 8, 0, 0), (26, 3, 1, 0, 0, 0), (27, 12, 3, 8, 1, 0), (30, 2, 1, 1, 0, 0), (31, 19, 1, 0, 0, 0), (32, 3, 1, 0, 0, 0), (33, 29, 1, 0, 0, 0), (34, 12, 3, 8, 1, 0), (37, 1, 1, 0, 0, 1), (38, 7, 1, 0, 0, 0), (39, 14, 3, 8, 1, 0), (42, 1, 1, 0, 0, 1), (43, 38, 1, 0, 0, 0)]
/-- DeltaHistory$Text.putIn(II)Z -/
def dh_c123 : List (Nat × jm_In) := [(0, 2, 1, 1, 0, 0), (1, 8, 3, 2, 20, 0), (4, 2, 1, 1, 0, 0), (5, 3, 1, 0, 0, 0), (6, 12, 3, 8, 1, 0), (9, 9, 3, 4, 20, 0), (12, 3, 1, 0, 0, 0), (13, 2, 1, 2, 0, 0), (14, 32, 3, 122, 2, 0), (17, 8, 3, 1, 22, 0), (20, 1, 1, 0, 0, 0), (21, 38, 1, 0, 0, 0), (22, 3, 1, 0, 0, 0), (23, 13, 3, 8, 0, 0), (26, 2, 1, 1, 0, 0), (27, 3, 1, 0, 0, 0), (28, 13, 3, 8, 0, 0), (31, 2, 1, 1, 0, 0), (32, 1, 1, 0, 0, 1), (33, 7, 1, 0, 0, 0), (34, 3, 1, 0, 0, 0), (35, 12, 3, 8, 1, 0), (38, 1, 1, 0, 0, 1), (39, 7, 1, 1, 0, 0), (40, 2, 1, 1, 0, 0), (41, 7, 1, 1, 0, 0), (42, 47, 3, 0, 0, 0), (45, 3, 1, 0, 0, 0), (46, 13, 3, 8, 0, 0), (49, 2, 1, 1, 0, 0), (50, 2, 1, 2, 0, 0), (51, 19, 1, 0, 0, 0), (52, 1, 1, 0, 0, 1), (53, 38, 1, 0, 0, 0)]
/-- DeltaHistory$Text.takeOut(I)I -/
def dh_c124 : List (Nat × jm_In) := [(0, 2, 1, 1, 0, 0), (1, 8, 3, 2, 12, 0), (4, 2, 1, 1, 0, 0), (5, 3, 1, 0, 0, 0), (6, 12, 3, 8, 1, 0), (9, 9, 3, 2, 14, 0), (12, 1, 1, 0, 0, -1), (13, 37, 1, 0, 0, 0), (14, 3, 1, 0, 0, 0), (15, 13, 3, 8, 0, 0), (18, 2, 1, 1, 0, 0), (19, 17, 1, 0, 0, 0), (20, 4, 1, 2, 0, 0), (21, 3, 1, 0, 0, 0), (22, 13, 3, 8, 0, 0), (25, 2, 1, 1, 0, 0), (26, 1, 1, 0, 0, 1), (27, 7, 1, 0, 0, 0), (28, 3, 1, 0, 0, 0), (29, 13, 3, 8, 0, 0), (32, 2, 1, 1, 0, 0), (33, 3, 1, 0, 0, 0), (34, 12, 3, 8, 1, 0), (37, 2, 1, 1, 0, 0), (38, 7, 1, 1, 0, 0), (39, 1, 1, 0, 0, 1), (40, 7, 1, 1, 0, 0), (41, 47, 3, 0, 0, 0), (44, 3, 1, 0, 0, 0), (45, 29, 1, 0, 0, 0), (46, 12, 3, 8, 1, 0), (49, 1, 1, 0, 0, 1), (50, 7, 1, 1, 0, 0), (51, 14, 3, 8, 1, 0), (54, 2, 1, 2, 0, 0), (55, 37, 1, 0, 0, 0)]
/-- DeltaHistory$Text.appendBytes(I)Z -/
def dh_c125 : List (Nat × jm_In) := [(0, 1, 2, 0, 0, 24), (2, 4, 1, 2, 0, 0), (3, 2, 1, 2, 0, 0), (4, 8, 3, 2, 35, 0), (7, 2, 1, 1, 0, 0), (8, 2, 1, 2, 0, 0), (9, 7, 1, 7, 0, 0), (10, 1, 3, 0, 0, 255), (13, 7, 1, 3, 0, 0), (14, 4, 1, 3, 0, 0), (15, 2, 1, 3, 0, 0), (16, 8, 3, 0, 29, 0), (19, 3, 1, 0, 0, 0), (20, 2, 1, 3, 0, 0), (21, 32, 3, 122, 2, 0), (24, 8, 3, 1, 29, 0), (27, 1, 1, 0, 0, 0), (28, 38, 1, 0, 0, 0), (29, 6, 3, 2, 0, -8), (32, 10, 3, 0, 3, 0), (35, 1, 1, 0, 0, 1), (36, 38, 1, 0, 0, 0)]
/-- DeltaHistory$Text.appendPart(LDeltaHistory$Text;II)Z -/
def dh_c126 : List (Nat × jm_In) := [(0, 2, 1, 2, 0, 0), (1, 8, 3, 2, 17, 0), (4, 2, 1, 2, 0, 0), (5, 2, 1, 3, 0, 0), (6, 9, 3, 4, 17, 0), (9, 2, 1, 3, 0, 0), (10, 3, 1, 1, 0, 0), (11, 12, 3, 8, 1, 0), (14, 9, 3, 5, 19, 0), (17, 1, 1, 0, 0, 0), (18, 38, 1, 0, 0, 0), (19, 2, 1, 2, 0, 0), (20, 4, 2, 4, 0, 0), (22, 2, 2, 4, 0, 0), (24, 2, 1, 3, 0, 0), (25, 9, 3, 3, 50, 0), (28, 3, 1, 0, 0, 0), (29, 3, 1, 1, 0, 0), (30, 13, 3, 8, 0, 0), (33, 2, 2, 4, 0, 0), (35, 17, 1, 0, 0, 0), (36, 32, 3, 122, 2, 0), (39, 8, 3, 1, 44, 0), (42, 1, 1, 0, 0, 0), (43, 38, 1, 0, 0, 0), (44, 6, 3, 4, 0, 1), (47, 10, 3, 0, 22, 0), (50, 1, 1, 0, 0, 1), (51, 38, 1, 0, 0, 0)]
/-- DeltaHistory$Writer.<init>()V -/
def dh_c127 : List (Nat × jm_In) := [(0, 3, 1, 0, 0, 0), (1, 33, 3, 0, 0, 0), (4, 3, 1, 0, 0, 0), (5, 28, 3, 4, 9, 0), (8, 29, 1, 0, 0, 0), (9, 32, 3, 88, 1, 0), (12, 16, 3, 9, 0, 0), (15, 39, 1, 0, 0, 0)]
def dh_c128_0 : List (Nat × jm_In) := [(0, 3, 1, 2, 0, 0), (1, 32, 3, 80, 1, 0), (4, 3, 1, 2, 0, 0), (5, 3, 1, 1, 0, 0), (6, 12, 3, 5, 1, 0), (9, 32, 3, 81, 2, 0), (12, 1, 1, 0, 0, 0), (13, 4, 1, 3, 0, 0), (14, 2, 1, 3, 0, 0), (15, 3, 1, 1, 0, 0), (16, 12, 3, 5, 1, 0), (19, 9, 3, 3, 67, 0), (22, 3, 1, 1, 0, 0), (23, 13, 3, 5, 0, 0), (26, 2, 1, 3, 0, 0), (27, 20, 1, 69, 0, 0), (28, 5, 2, 4, 0, 0), (30, 3, 1, 2, 0, 0), (31, 3, 2, 4, 0, 0), (33, 12, 3, 7, 1, 0), (36, 1, 1, 0, 0, 1), (37, 7, 1, 0, 0, 0), (38, 32, 3, 81, 2, 0), (41, 3, 1, 2, 0, 0), (42, 3, 2, 4, 0, 0), (44, 12, 3, 7, 2, 0), (47, 32, 3, 81, 2, 0), (50, 3, 1, 2, 0, 0), (51, 3, 2, 4, 0, 0), (53, 12, 3, 7, 3, 0), (56, 1, 1, 0, 0, 1), (57, 7, 1, 0, 0, 0), (58, 32, 3, 81, 2, 0), (61, 6, 3, 3, 0, 1), (64, 10, 3, 0, 14, 0), (67, 1, 1, 0, 0, 0), (68, 4, 1, 3, 0, 0), (69, 2, 1, 3, 0, 0), (70, 3, 1, 1, 0, 0), (71, 12, 3, 5, 1, 0), (74, 9, 3, 3, 148, 0), (77, 3, 1, 1, 0, 0), (78, 13, 3, 5, 0, 0), (81, 2, 1, 3, 0, 0), (82, 20, 1, 69, 0, 0), (83, 13, 3, 7, 0, 0), (86, 5, 2, 4, 0, 0), (88, 3, 1, 1, 0, 0), (89, 13, 3, 5, 0, 0), (92, 2, 1, 3, 0, 0), (93, 20, 1, 69, 0, 0), (94, 32, 3, 117, 1, 0), (97, 4, 2, 5, 0, 0), (99, 3, 1, 1, 0, 0), (100, 2, 2, 5, 0, 0), (102, 32, 3, 96, 2, 0), (105, 8, 3, 0, 135, 0), (108, 3, 1, 0, 0, 0), (109, 13, 3, 9, 0, 0), (112, 3, 1, 1, 0, 0)]
def dh_c128_1 : List (Nat × jm_In) := [(113, 13, 3, 5, 0, 0), (116, 2, 2, 5, 0, 0), (118, 20, 1, 69, 0, 0), (119, 13, 3, 7, 0, 0), (122, 3, 2, 4, 0, 0), (124, 32, 3, 89, 3, 0), (127, 3, 1, 0, 0, 0), (128, 3, 1, 2, 0, 0), (129, 32, 3, 130, 2, 0), (132, 10, 3, 0, 142, 0), (135, 3, 1, 0, 0, 0), (136, 3, 2, 4, 0, 0), (138, 3, 1, 2, 0, 0), (139, 32, 3, 129, 3, 0), (142, 6, 3, 3, 0, 1), (145, 10, 3, 0, 69, 0), (148, 39, 1, 0, 0, 0)]
/-- DeltaHistory$Writer.write(LDeltaHistory$History;LDeltaHistory$Bytes;)V -/
def dh_c128 : List (Nat × jm_In) := dh_c128_0 ++ (dh_c128_1)
/-- DeltaHistory$Writer.writeText(LDeltaHistory$Text;LDeltaHistory$Bytes;)V -/
def dh_c129 : List (Nat × jm_In) := [(0, 3, 1, 2, 0, 0), (1, 3, 1, 1, 0, 0), (2, 12, 3, 8, 1, 0), (5, 32, 3, 81, 2, 0), (8, 1, 1, 0, 0, 0), (9, 4, 1, 3, 0, 0), (10, 2, 1, 3, 0, 0), (11, 3, 1, 1, 0, 0), (12, 12, 3, 8, 1, 0), (15, 9, 3, 3, 34, 0), (18, 3, 1, 2, 0, 0), (19, 3, 1, 1, 0, 0), (20, 13, 3, 8, 0, 0), (23, 2, 1, 3, 0, 0), (24, 17, 1, 0, 0, 0), (25, 32, 3, 81, 2, 0), (28, 6, 3, 3, 0, 1), (31, 10, 3, 0, 10, 0), (34, 39, 1, 0, 0, 0)]
def dh_c130_0 : List (Nat × jm_In) := [(0, 3, 1, 1, 0, 0), (1, 3, 1, 0, 0, 0), (2, 13, 3, 9, 0, 0), (5, 12, 3, 4, 6, 0), (8, 32, 3, 81, 2, 0), (11, 1, 1, 0, 0, 0), (12, 4, 1, 2, 0, 0), (13, 2, 1, 2, 0, 0), (14, 3, 1, 0, 0, 0), (15, 13, 3, 9, 0, 0), (18, 12, 3, 4, 6, 0), (21, 9, 3, 3, 125, 0), (24, 3, 1, 1, 0, 0), (25, 3, 1, 0, 0, 0), (26, 13, 3, 9, 0, 0), (29, 13, 3, 4, 0, 0), (32, 2, 1, 2, 0, 0), (33, 17, 1, 0, 0, 0), (34, 32, 3, 81, 2, 0), (37, 3, 1, 1, 0, 0), (38, 3, 1, 0, 0, 0), (39, 13, 3, 9, 0, 0), (42, 13, 3, 4, 1, 0), (45, 2, 1, 2, 0, 0), (46, 17, 1, 0, 0, 0), (47, 32, 3, 81, 2, 0), (50, 3, 1, 1, 0, 0), (51, 3, 1, 0, 0, 0), (52, 13, 3, 9, 0, 0), (55, 13, 3, 4, 2, 0), (58, 2, 1, 2, 0, 0), (59, 17, 1, 0, 0, 0), (60, 32, 3, 81, 2, 0), (63, 3, 1, 0, 0, 0), (64, 13, 3, 9, 0, 0), (67, 13, 3, 4, 0, 0), (70, 2, 1, 2, 0, 0), (71, 17, 1, 0, 0, 0), (72, 1, 1, 0, 0, 1), (73, 9, 3, 1, 88, 0), (76, 3, 1, 0, 0, 0), (77, 13, 3, 9, 0, 0), (80, 13, 3, 4, 2, 0), (83, 2, 1, 2, 0, 0), (84, 17, 1, 0, 0, 0), (85, 10, 3, 0, 89, 0), (88, 1, 1, 0, 0, 0), (89, 4, 1, 3, 0, 0), (90, 1, 1, 0, 0, 0), (91, 4, 2, 4, 0, 0), (93, 2, 2, 4, 0, 0), (95, 2, 1, 3, 0, 0), (96, 9, 3, 3, 119, 0), (99, 3, 1, 1, 0, 0), (100, 3, 1, 0, 0, 0), (101, 13, 3, 9, 0, 0), (104, 2, 1, 2, 0, 0), (105, 2, 2, 4, 0, 0), (107, 32, 3, 93, 3, 0), (110, 32, 3, 81, 2, 0)]
def dh_c130_1 : List (Nat × jm_In) := [(113, 6, 3, 4, 0, 1), (116, 10, 3, 0, 93, 0), (119, 6, 3, 2, 0, 1), (122, 10, 3, 0, 13, 0), (125, 39, 1, 0, 0, 0)]
/-- DeltaHistory$Writer.writeDelta(LDeltaHistory$Bytes;)V -/
def dh_c130 : List (Nat × jm_In) := dh_c130_0 ++ (dh_c130_1)
/-- DeltaHistoryLaw.lock(LDeltaHistory;II[J)I -/
def dh_c131 : List (Nat × jm_In) := [(0, 3, 1, 3, 0, 0), (1, 1, 1, 0, 0, 0), (2, 3, 1, 0, 0, 0), (3, 2, 1, 1, 0, 0), (4, 2, 1, 2, 0, 0), (5, 32, 3, 6, 3, 0), (8, 41, 1, 0, 0, 0), (9, 43, 1, 0, 0, 0), (10, 10, 3, 0, 21, 0), (13, 5, 2, 4, 0, 0), (15, 1, 1, 0, 0, 1), (16, 37, 1, 0, 0, 0), (17, 5, 2, 4, 0, 0), (19, 1, 1, 0, 0, 2), (20, 37, 1, 0, 0, 0), (21, 1, 1, 0, 0, 0), (22, 37, 1, 0, 0, 0)]
/-- DeltaHistoryLaw.unlock(LDeltaHistory;II[J)I -/
def dh_c132 : List (Nat × jm_In) := [(0, 3, 1, 3, 0, 0), (1, 1, 1, 0, 0, 0), (2, 3, 1, 0, 0, 0), (3, 2, 1, 1, 0, 0), (4, 2, 1, 2, 0, 0), (5, 32, 3, 7, 3, 0), (8, 41, 1, 0, 0, 0), (9, 43, 1, 0, 0, 0), (10, 10, 3, 0, 21, 0), (13, 5, 2, 4, 0, 0), (15, 1, 1, 0, 0, 1), (16, 37, 1, 0, 0, 0), (17, 5, 2, 4, 0, 0), (19, 1, 1, 0, 0, 2), (20, 37, 1, 0, 0, 0), (21, 1, 1, 0, 0, 0), (22, 37, 1, 0, 0, 0)]
/-- DeltaHistoryLaw.checkIn(LDeltaHistory;II[J)I -/
def dh_c133 : List (Nat × jm_In) := [(0, 3, 1, 3, 0, 0), (1, 1, 1, 0, 0, 0), (2, 3, 1, 0, 0, 0), (3, 2, 1, 1, 0, 0), (4, 2, 1, 2, 0, 0), (5, 32, 3, 8, 3, 0), (8, 41, 1, 0, 0, 0), (9, 43, 1, 0, 0, 0), (10, 10, 3, 0, 25, 0), (13, 5, 2, 4, 0, 0), (15, 1, 1, 0, 0, 1), (16, 37, 1, 0, 0, 0), (17, 5, 2, 4, 0, 0), (19, 1, 1, 0, 0, 2), (20, 37, 1, 0, 0, 0), (21, 5, 2, 4, 0, 0), (23, 1, 1, 0, 0, 3), (24, 37, 1, 0, 0, 0), (25, 1, 1, 0, 0, 0), (26, 37, 1, 0, 0, 0)]
/-- DeltaHistoryLaw.checkOut(LDeltaHistory;I[J)I -/
def dh_c134 : List (Nat × jm_In) := [(0, 3, 1, 2, 0, 0), (1, 1, 1, 0, 0, 0), (2, 3, 1, 0, 0, 0), (3, 2, 1, 1, 0, 0), (4, 32, 3, 9, 2, 0), (7, 41, 1, 0, 0, 0), (8, 43, 1, 0, 0, 0), (9, 10, 3, 0, 15, 0), (12, 5, 1, 3, 0, 0), (13, 1, 1, 0, 0, 1), (14, 37, 1, 0, 0, 0), (15, 1, 1, 0, 0, 0), (16, 37, 1, 0, 0, 0)]
/-- DeltaHistoryLaw.corrupt(LDeltaHistory;II)I -/
def dh_c135 : List (Nat × jm_In) := [(0, 3, 1, 0, 0, 0), (1, 2, 1, 1, 0, 0), (2, 2, 1, 2, 0, 0), (3, 32, 3, 11, 3, 0), (6, 10, 3, 0, 15, 0), (9, 5, 1, 3, 0, 0), (10, 1, 1, 0, 0, 1), (11, 37, 1, 0, 0, 0), (12, 5, 1, 3, 0, 0), (13, 1, 1, 0, 0, 2), (14, 37, 1, 0, 0, 0), (15, 1, 1, 0, 0, 0), (16, 37, 1, 0, 0, 0)]
/-- DeltaHistoryLaw.about(LDeltaHistory;II[J)I -/
def dh_c136 : List (Nat × jm_In) := [(0, 3, 1, 3, 0, 0), (1, 1, 1, 0, 0, 0), (2, 3, 1, 0, 0, 0), (3, 2, 1, 1, 0, 0), (4, 2, 1, 2, 0, 0), (5, 32, 3, 14, 3, 0), (8, 41, 1, 0, 0, 0), (9, 43, 1, 0, 0, 0), (10, 10, 3, 0, 17, 0), (13, 5, 2, 4, 0, 0), (15, 1, 1, 0, 0, 1), (16, 37, 1, 0, 0, 0), (17, 1, 1, 0, 0, 0), (18, 37, 1, 0, 0, 0)]
/-- DeltaHistoryLaw.name(LDeltaHistory;II[J)I -/
def dh_c137 : List (Nat × jm_In) := [(0, 3, 1, 3, 0, 0), (1, 1, 1, 0, 0, 0), (2, 3, 1, 0, 0, 0), (3, 2, 1, 1, 0, 0), (4, 2, 1, 2, 0, 0), (5, 32, 3, 15, 3, 0), (8, 41, 1, 0, 0, 0), (9, 43, 1, 0, 0, 0), (10, 10, 3, 0, 17, 0), (13, 5, 2, 4, 0, 0), (15, 1, 1, 0, 0, 1), (16, 37, 1, 0, 0, 0), (17, 1, 1, 0, 0, 0), (18, 37, 1, 0, 0, 0)]
/-- DeltaHistoryLaw.root(LDeltaHistory;II[J)I -/
def dh_c138 : List (Nat × jm_In) := [(0, 3, 1, 3, 0, 0), (1, 1, 1, 0, 0, 0), (2, 3, 1, 0, 0, 0), (3, 2, 1, 1, 0, 0), (4, 2, 1, 2, 0, 0), (5, 32, 3, 16, 3, 0), (8, 41, 1, 0, 0, 0), (9, 43, 1, 0, 0, 0), (10, 10, 3, 0, 17, 0), (13, 5, 2, 4, 0, 0), (15, 1, 1, 0, 0, 1), (16, 37, 1, 0, 0, 0), (17, 1, 1, 0, 0, 0), (18, 37, 1, 0, 0, 0)]
/-- DeltaHistoryLaw.compare(LDeltaHistory;I[J)I -/
def dh_c139 : List (Nat × jm_In) := [(0, 3, 1, 2, 0, 0), (1, 1, 1, 0, 0, 0), (2, 3, 1, 0, 0, 0), (3, 2, 1, 1, 0, 0), (4, 32, 3, 17, 2, 0), (7, 41, 1, 0, 0, 0), (8, 43, 1, 0, 0, 0), (9, 10, 3, 0, 15, 0), (12, 5, 1, 3, 0, 0), (13, 1, 1, 0, 0, 1), (14, 37, 1, 0, 0, 0), (15, 1, 1, 0, 0, 0), (16, 37, 1, 0, 0, 0)]
def dh_c140_0 : List (Nat × jm_In) := [(0, 28, 3, 1, 12, 0), (3, 29, 1, 0, 0, 0), (4, 32, 3, 0, 1, 0), (7, 5, 1, 1, 0, 0), (8, 28, 3, 2, 43, 0), (11, 29, 1, 0, 0, 0), (12, 32, 3, 27, 1, 0), (15, 5, 1, 2, 0, 0), (16, 1, 1, 0, 0, 1), (17, 24, 2, 101, 0, 0), (19, 5, 1, 3, 0, 0), (20, 1, 1, 0, 0, 0), (21, 4, 2, 4, 0, 0), (23, 2, 2, 4, 0, 0), (25, 3, 1, 0, 0, 0), (26, 23, 1, 0, 0, 0), (27, 1, 1, 0, 0, 4), (28, 7, 1, 1, 0, 0), (29, 9, 3, 4, 1037, 0), (32, 3, 1, 0, 0, 0), (33, 2, 2, 4, 0, 0), (35, 18, 1, 0, 0, 0), (36, 1, 2, 0, 0, 31), (38, 7, 1, 3, 0, 0), (39, 11, 93, 0, 3, 0), (132, 3, 1, 1, 0, 0), (133, 3, 1, 0, 0, 0), (134, 2, 2, 4, 0, 0), (136, 1, 1, 0, 0, 1), (137, 7, 1, 0, 0, 0), (138, 18, 1, 0, 0, 0), (139, 3, 1, 0, 0, 0), (140, 2, 2, 4, 0, 0), (142, 1, 1, 0, 0, 2), (143, 7, 1, 0, 0, 0), (144, 18, 1, 0, 0, 0), (145, 3, 1, 0, 0, 0), (146, 2, 2, 4, 0, 0), (148, 1, 1, 0, 0, 3), (149, 7, 1, 0, 0, 0), (150, 18, 1, 0, 0, 0), (151, 32, 3, 1, 4, 0), (154, 3, 1, 2, 0, 0), (155, 3, 1, 0, 0, 0), (156, 2, 2, 4, 0, 0), (158, 1, 1, 0, 0, 1), (159, 7, 1, 0, 0, 0), (160, 18, 1, 0, 0, 0), (161, 3, 1, 0, 0, 0), (162, 2, 2, 4, 0, 0), (164, 1, 1, 0, 0, 2), (165, 7, 1, 0, 0, 0), (166, 18, 1, 0, 0, 0), (167, 3, 1, 0, 0, 0), (168, 2, 2, 4, 0, 0), (170, 1, 1, 0, 0, 3), (171, 7, 1, 0, 0, 0), (172, 18, 1, 0, 0, 0), (173, 32, 3, 31, 4, 0), (176, 9, 3, 0, 1031, 0)]
def dh_c140_1 : List (Nat × jm_In) := [(179, 1, 1, 0, 0, 0), (180, 38, 1, 0, 0, 0), (181, 3, 1, 1, 0, 0), (182, 3, 1, 0, 0, 0), (183, 2, 2, 4, 0, 0), (185, 1, 1, 0, 0, 1), (186, 7, 1, 0, 0, 0), (187, 18, 1, 0, 0, 0), (188, 3, 1, 0, 0, 0), (189, 2, 2, 4, 0, 0), (191, 1, 1, 0, 0, 2), (192, 7, 1, 0, 0, 0), (193, 18, 1, 0, 0, 0), (194, 32, 3, 2, 3, 0), (197, 3, 1, 2, 0, 0), (198, 3, 1, 0, 0, 0), (199, 2, 2, 4, 0, 0), (201, 1, 1, 0, 0, 1), (202, 7, 1, 0, 0, 0), (203, 18, 1, 0, 0, 0), (204, 3, 1, 0, 0, 0), (205, 2, 2, 4, 0, 0), (207, 1, 1, 0, 0, 2), (208, 7, 1, 0, 0, 0), (209, 18, 1, 0, 0, 0), (210, 32, 3, 32, 3, 0), (213, 9, 3, 0, 1031, 0), (216, 1, 1, 0, 0, 0), (217, 38, 1, 0, 0, 0), (218, 3, 1, 1, 0, 0), (219, 3, 1, 0, 0, 0), (220, 2, 2, 4, 0, 0), (222, 1, 1, 0, 0, 1), (223, 7, 1, 0, 0, 0), (224, 18, 1, 0, 0, 0), (225, 32, 3, 3, 2, 0), (228, 3, 1, 2, 0, 0), (229, 3, 1, 0, 0, 0), (230, 2, 2, 4, 0, 0), (232, 1, 1, 0, 0, 1), (233, 7, 1, 0, 0, 0), (234, 18, 1, 0, 0, 0), (235, 32, 3, 33, 2, 0), (238, 9, 3, 0, 1031, 0), (241, 1, 1, 0, 0, 0), (242, 38, 1, 0, 0, 0), (243, 3, 1, 1, 0, 0), (244, 32, 3, 4, 1, 0), (247, 3, 1, 2, 0, 0), (248, 32, 3, 34, 1, 0), (251, 9, 3, 0, 1031, 0), (254, 1, 1, 0, 0, 0), (255, 38, 1, 0, 0, 0), (256, 3, 1, 1, 0, 0), (257, 3, 1, 0, 0, 0), (258, 2, 2, 4, 0, 0), (260, 1, 1, 0, 0, 1), (261, 7, 1, 0, 0, 0), (262, 18, 1, 0, 0, 0), (263, 32, 3, 5, 2, 0)]
def dh_c140_2 : List (Nat × jm_In) := [(266, 3, 1, 2, 0, 0), (267, 3, 1, 0, 0, 0), (268, 2, 2, 4, 0, 0), (270, 1, 1, 0, 0, 1), (271, 7, 1, 0, 0, 0), (272, 18, 1, 0, 0, 0), (273, 32, 3, 35, 2, 0), (276, 9, 3, 0, 1031, 0), (279, 1, 1, 0, 0, 0), (280, 38, 1, 0, 0, 0), (281, 3, 1, 1, 0, 0), (282, 3, 1, 0, 0, 0), (283, 2, 2, 4, 0, 0), (285, 1, 1, 0, 0, 1), (286, 7, 1, 0, 0, 0), (287, 18, 1, 0, 0, 0), (288, 3, 1, 0, 0, 0), (289, 2, 2, 4, 0, 0), (291, 1, 1, 0, 0, 2), (292, 7, 1, 0, 0, 0), (293, 18, 1, 0, 0, 0), (294, 3, 1, 3, 0, 0), (295, 32, 3, 131, 4, 0), (298, 4, 2, 5, 0, 0), (300, 3, 1, 2, 0, 0), (301, 3, 1, 0, 0, 0), (302, 2, 2, 4, 0, 0), (304, 1, 1, 0, 0, 1), (305, 7, 1, 0, 0, 0), (306, 18, 1, 0, 0, 0), (307, 3, 1, 0, 0, 0), (308, 2, 2, 4, 0, 0), (310, 1, 1, 0, 0, 2), (311, 7, 1, 0, 0, 0), (312, 18, 1, 0, 0, 0), (313, 32, 3, 55, 3, 0), (316, 4, 2, 6, 0, 0), (318, 3, 1, 2, 0, 0), (319, 32, 3, 28, 1, 0), (322, 2, 2, 5, 0, 0), (324, 9, 3, 0, 329, 0), (327, 1, 1, 0, 0, 0), (328, 38, 1, 0, 0, 0), (329, 2, 2, 5, 0, 0), (331, 8, 3, 1, 346, 0), (334, 3, 1, 3, 0, 0), (335, 1, 1, 0, 0, 0), (336, 42, 1, 0, 0, 0), (337, 2, 2, 6, 0, 0), (339, 41, 1, 0, 0, 0), (340, 44, 1, 0, 0, 0), (341, 8, 3, 0, 346, 0), (344, 1, 1, 0, 0, 0), (345, 38, 1, 0, 0, 0), (346, 10, 3, 0, 1031, 0), (349, 3, 1, 1, 0, 0), (350, 3, 1, 0, 0, 0), (351, 2, 2, 4, 0, 0), (353, 1, 1, 0, 0, 1), (354, 7, 1, 0, 0, 0)]
def dh_c140_3 : List (Nat × jm_In) := [(355, 18, 1, 0, 0, 0), (356, 3, 1, 0, 0, 0), (357, 2, 2, 4, 0, 0), (359, 1, 1, 0, 0, 2), (360, 7, 1, 0, 0, 0), (361, 18, 1, 0, 0, 0), (362, 3, 1, 3, 0, 0), (363, 32, 3, 132, 4, 0), (366, 4, 2, 5, 0, 0), (368, 3, 1, 2, 0, 0), (369, 3, 1, 0, 0, 0), (370, 2, 2, 4, 0, 0), (372, 1, 1, 0, 0, 1), (373, 7, 1, 0, 0, 0), (374, 18, 1, 0, 0, 0), (375, 3, 1, 0, 0, 0), (376, 2, 2, 4, 0, 0), (378, 1, 1, 0, 0, 2), (379, 7, 1, 0, 0, 0), (380, 18, 1, 0, 0, 0), (381, 32, 3, 56, 3, 0), (384, 4, 2, 6, 0, 0), (386, 3, 1, 2, 0, 0), (387, 32, 3, 28, 1, 0), (390, 2, 2, 5, 0, 0), (392, 9, 3, 0, 397, 0), (395, 1, 1, 0, 0, 0), (396, 38, 1, 0, 0, 0), (397, 2, 2, 5, 0, 0), (399, 8, 3, 1, 414, 0), (402, 3, 1, 3, 0, 0), (403, 1, 1, 0, 0, 0), (404, 42, 1, 0, 0, 0), (405, 2, 2, 6, 0, 0), (407, 41, 1, 0, 0, 0), (408, 44, 1, 0, 0, 0), (409, 8, 3, 0, 414, 0), (412, 1, 1, 0, 0, 0), (413, 38, 1, 0, 0, 0), (414, 10, 3, 0, 1031, 0), (417, 3, 1, 1, 0, 0), (418, 3, 1, 0, 0, 0), (419, 2, 2, 4, 0, 0), (421, 1, 1, 0, 0, 1), (422, 7, 1, 0, 0, 0), (423, 18, 1, 0, 0, 0), (424, 3, 1, 0, 0, 0), (425, 2, 2, 4, 0, 0), (427, 1, 1, 0, 0, 2), (428, 7, 1, 0, 0, 0), (429, 18, 1, 0, 0, 0), (430, 3, 1, 3, 0, 0), (431, 32, 3, 133, 4, 0), (434, 4, 2, 5, 0, 0), (436, 3, 1, 2, 0, 0), (437, 3, 1, 0, 0, 0), (438, 2, 2, 4, 0, 0), (440, 1, 1, 0, 0, 1), (441, 7, 1, 0, 0, 0), (442, 18, 1, 0, 0, 0)]
def dh_c140_4 : List (Nat × jm_In) := [(443, 3, 1, 0, 0, 0), (444, 2, 2, 4, 0, 0), (446, 1, 1, 0, 0, 2), (447, 7, 1, 0, 0, 0), (448, 18, 1, 0, 0, 0), (449, 32, 3, 57, 3, 0), (452, 4, 2, 6, 0, 0), (454, 3, 1, 2, 0, 0), (455, 32, 3, 28, 1, 0), (458, 2, 2, 5, 0, 0), (460, 9, 3, 0, 465, 0), (463, 1, 1, 0, 0, 0), (464, 38, 1, 0, 0, 0), (465, 2, 2, 5, 0, 0), (467, 8, 3, 1, 482, 0), (470, 3, 1, 3, 0, 0), (471, 1, 1, 0, 0, 0), (472, 42, 1, 0, 0, 0), (473, 2, 2, 6, 0, 0), (475, 41, 1, 0, 0, 0), (476, 44, 1, 0, 0, 0), (477, 8, 3, 0, 482, 0), (480, 1, 1, 0, 0, 0), (481, 38, 1, 0, 0, 0), (482, 10, 3, 0, 1031, 0), (485, 3, 1, 1, 0, 0), (486, 3, 1, 0, 0, 0), (487, 2, 2, 4, 0, 0), (489, 1, 1, 0, 0, 1), (490, 7, 1, 0, 0, 0), (491, 18, 1, 0, 0, 0), (492, 3, 1, 3, 0, 0), (493, 32, 3, 134, 3, 0), (496, 4, 2, 5, 0, 0), (498, 3, 1, 2, 0, 0), (499, 3, 1, 0, 0, 0), (500, 2, 2, 4, 0, 0), (502, 1, 1, 0, 0, 1), (503, 7, 1, 0, 0, 0), (504, 18, 1, 0, 0, 0), (505, 32, 3, 58, 2, 0), (508, 4, 2, 6, 0, 0), (510, 3, 1, 2, 0, 0), (511, 32, 3, 28, 1, 0), (514, 2, 2, 5, 0, 0), (516, 9, 3, 0, 521, 0), (519, 1, 1, 0, 0, 0), (520, 38, 1, 0, 0, 0), (521, 2, 2, 5, 0, 0), (523, 8, 3, 1, 538, 0), (526, 3, 1, 3, 0, 0), (527, 1, 1, 0, 0, 0), (528, 42, 1, 0, 0, 0), (529, 2, 2, 6, 0, 0), (531, 41, 1, 0, 0, 0), (532, 44, 1, 0, 0, 0), (533, 8, 3, 0, 538, 0), (536, 1, 1, 0, 0, 0), (537, 38, 1, 0, 0, 0), (538, 10, 3, 0, 1031, 0)]
def dh_c140_5 : List (Nat × jm_In) := [(541, 3, 1, 1, 0, 0), (542, 3, 1, 0, 0, 0), (543, 2, 2, 4, 0, 0), (545, 1, 1, 0, 0, 1), (546, 7, 1, 0, 0, 0), (547, 18, 1, 0, 0, 0), (548, 32, 3, 10, 2, 0), (551, 3, 1, 2, 0, 0), (552, 3, 1, 0, 0, 0), (553, 2, 2, 4, 0, 0), (555, 1, 1, 0, 0, 1), (556, 7, 1, 0, 0, 0), (557, 18, 1, 0, 0, 0), (558, 32, 3, 59, 2, 0), (561, 9, 3, 0, 1031, 0), (564, 1, 1, 0, 0, 0), (565, 38, 1, 0, 0, 0), (566, 3, 1, 1, 0, 0), (567, 3, 1, 0, 0, 0), (568, 2, 2, 4, 0, 0), (570, 1, 1, 0, 0, 1), (571, 7, 1, 0, 0, 0), (572, 18, 1, 0, 0, 0), (573, 3, 1, 0, 0, 0), (574, 2, 2, 4, 0, 0), (576, 1, 1, 0, 0, 2), (577, 7, 1, 0, 0, 0), (578, 18, 1, 0, 0, 0), (579, 32, 3, 135, 3, 0), (582, 4, 2, 5, 0, 0), (584, 3, 1, 2, 0, 0), (585, 3, 1, 0, 0, 0), (586, 2, 2, 4, 0, 0), (588, 1, 1, 0, 0, 1), (589, 7, 1, 0, 0, 0), (590, 18, 1, 0, 0, 0), (591, 3, 1, 0, 0, 0), (592, 2, 2, 4, 0, 0), (594, 1, 1, 0, 0, 2), (595, 7, 1, 0, 0, 0), (596, 18, 1, 0, 0, 0), (597, 32, 3, 60, 3, 0), (600, 3, 1, 2, 0, 0), (601, 32, 3, 28, 1, 0), (604, 2, 2, 5, 0, 0), (606, 9, 3, 0, 611, 0), (609, 1, 1, 0, 0, 0), (610, 38, 1, 0, 0, 0), (611, 10, 3, 0, 1031, 0), (614, 3, 1, 1, 0, 0), (615, 32, 3, 12, 1, 0), (618, 3, 1, 2, 0, 0), (619, 32, 3, 70, 1, 0), (622, 9, 3, 0, 1031, 0), (625, 1, 1, 0, 0, 0), (626, 38, 1, 0, 0, 0), (627, 3, 1, 1, 0, 0), (628, 32, 3, 13, 1, 0), (631, 3, 1, 2, 0, 0), (632, 32, 3, 71, 1, 0)]
def dh_c140_6 : List (Nat × jm_In) := [(635, 9, 3, 0, 1031, 0), (638, 1, 1, 0, 0, 0), (639, 38, 1, 0, 0, 0), (640, 3, 1, 1, 0, 0), (641, 3, 1, 0, 0, 0), (642, 2, 2, 4, 0, 0), (644, 1, 1, 0, 0, 1), (645, 7, 1, 0, 0, 0), (646, 18, 1, 0, 0, 0), (647, 3, 1, 0, 0, 0), (648, 2, 2, 4, 0, 0), (650, 1, 1, 0, 0, 2), (651, 7, 1, 0, 0, 0), (652, 18, 1, 0, 0, 0), (653, 3, 1, 3, 0, 0), (654, 32, 3, 136, 4, 0), (657, 4, 2, 5, 0, 0), (659, 3, 1, 2, 0, 0), (660, 3, 1, 0, 0, 0), (661, 2, 2, 4, 0, 0), (663, 1, 1, 0, 0, 1), (664, 7, 1, 0, 0, 0), (665, 18, 1, 0, 0, 0), (666, 3, 1, 0, 0, 0), (667, 2, 2, 4, 0, 0), (669, 1, 1, 0, 0, 2), (670, 7, 1, 0, 0, 0), (671, 18, 1, 0, 0, 0), (672, 32, 3, 72, 3, 0), (675, 4, 2, 6, 0, 0), (677, 3, 1, 2, 0, 0), (678, 32, 3, 28, 1, 0), (681, 2, 2, 5, 0, 0), (683, 9, 3, 0, 688, 0), (686, 1, 1, 0, 0, 0), (687, 38, 1, 0, 0, 0), (688, 2, 2, 5, 0, 0), (690, 8, 3, 1, 705, 0), (693, 3, 1, 3, 0, 0), (694, 1, 1, 0, 0, 0), (695, 42, 1, 0, 0, 0), (696, 2, 2, 6, 0, 0), (698, 41, 1, 0, 0, 0), (699, 44, 1, 0, 0, 0), (700, 8, 3, 0, 705, 0), (703, 1, 1, 0, 0, 0), (704, 38, 1, 0, 0, 0), (705, 10, 3, 0, 1031, 0), (708, 3, 1, 1, 0, 0), (709, 3, 1, 0, 0, 0), (710, 2, 2, 4, 0, 0), (712, 1, 1, 0, 0, 1), (713, 7, 1, 0, 0, 0), (714, 18, 1, 0, 0, 0), (715, 3, 1, 0, 0, 0), (716, 2, 2, 4, 0, 0), (718, 1, 1, 0, 0, 2), (719, 7, 1, 0, 0, 0), (720, 18, 1, 0, 0, 0), (721, 3, 1, 3, 0, 0)]
def dh_c140_7 : List (Nat × jm_In) := [(722, 32, 3, 137, 4, 0), (725, 4, 2, 5, 0, 0), (727, 3, 1, 2, 0, 0), (728, 3, 1, 0, 0, 0), (729, 2, 2, 4, 0, 0), (731, 1, 1, 0, 0, 1), (732, 7, 1, 0, 0, 0), (733, 18, 1, 0, 0, 0), (734, 3, 1, 0, 0, 0), (735, 2, 2, 4, 0, 0), (737, 1, 1, 0, 0, 2), (738, 7, 1, 0, 0, 0), (739, 18, 1, 0, 0, 0), (740, 32, 3, 73, 3, 0), (743, 4, 2, 6, 0, 0), (745, 3, 1, 2, 0, 0), (746, 32, 3, 28, 1, 0), (749, 2, 2, 5, 0, 0), (751, 9, 3, 0, 756, 0), (754, 1, 1, 0, 0, 0), (755, 38, 1, 0, 0, 0), (756, 2, 2, 5, 0, 0), (758, 8, 3, 1, 773, 0), (761, 3, 1, 3, 0, 0), (762, 1, 1, 0, 0, 0), (763, 42, 1, 0, 0, 0), (764, 2, 2, 6, 0, 0), (766, 41, 1, 0, 0, 0), (767, 44, 1, 0, 0, 0), (768, 8, 3, 0, 773, 0), (771, 1, 1, 0, 0, 0), (772, 38, 1, 0, 0, 0), (773, 10, 3, 0, 1031, 0), (776, 3, 1, 1, 0, 0), (777, 3, 1, 0, 0, 0), (778, 2, 2, 4, 0, 0), (780, 1, 1, 0, 0, 1), (781, 7, 1, 0, 0, 0), (782, 18, 1, 0, 0, 0), (783, 3, 1, 0, 0, 0), (784, 2, 2, 4, 0, 0), (786, 1, 1, 0, 0, 2), (787, 7, 1, 0, 0, 0), (788, 18, 1, 0, 0, 0), (789, 3, 1, 3, 0, 0), (790, 32, 3, 138, 4, 0), (793, 4, 2, 5, 0, 0), (795, 3, 1, 2, 0, 0), (796, 3, 1, 0, 0, 0), (797, 2, 2, 4, 0, 0), (799, 1, 1, 0, 0, 1), (800, 7, 1, 0, 0, 0), (801, 18, 1, 0, 0, 0), (802, 3, 1, 0, 0, 0), (803, 2, 2, 4, 0, 0), (805, 1, 1, 0, 0, 2), (806, 7, 1, 0, 0, 0), (807, 18, 1, 0, 0, 0), (808, 32, 3, 74, 3, 0), (811, 4, 2, 6, 0, 0)]
def dh_c140_8 : List (Nat × jm_In) := [(813, 3, 1, 2, 0, 0), (814, 32, 3, 28, 1, 0), (817, 2, 2, 5, 0, 0), (819, 9, 3, 0, 824, 0), (822, 1, 1, 0, 0, 0), (823, 38, 1, 0, 0, 0), (824, 2, 2, 5, 0, 0), (826, 8, 3, 1, 841, 0), (829, 3, 1, 3, 0, 0), (830, 1, 1, 0, 0, 0), (831, 42, 1, 0, 0, 0), (832, 2, 2, 6, 0, 0), (834, 41, 1, 0, 0, 0), (835, 44, 1, 0, 0, 0), (836, 8, 3, 0, 841, 0), (839, 1, 1, 0, 0, 0), (840, 38, 1, 0, 0, 0), (841, 10, 3, 0, 1031, 0), (844, 3, 1, 1, 0, 0), (845, 3, 1, 0, 0, 0), (846, 2, 2, 4, 0, 0), (848, 1, 1, 0, 0, 1), (849, 7, 1, 0, 0, 0), (850, 18, 1, 0, 0, 0), (851, 3, 1, 3, 0, 0), (852, 32, 3, 139, 3, 0), (855, 4, 2, 5, 0, 0), (857, 3, 1, 2, 0, 0), (858, 3, 1, 0, 0, 0), (859, 2, 2, 4, 0, 0), (861, 1, 1, 0, 0, 1), (862, 7, 1, 0, 0, 0), (863, 18, 1, 0, 0, 0), (864, 32, 3, 75, 2, 0), (867, 4, 2, 6, 0, 0), (869, 3, 1, 2, 0, 0), (870, 32, 3, 28, 1, 0), (873, 2, 2, 5, 0, 0), (875, 9, 3, 0, 880, 0), (878, 1, 1, 0, 0, 0), (879, 38, 1, 0, 0, 0), (880, 2, 2, 5, 0, 0), (882, 8, 3, 1, 897, 0), (885, 3, 1, 3, 0, 0), (886, 1, 1, 0, 0, 0), (887, 42, 1, 0, 0, 0), (888, 2, 2, 6, 0, 0), (890, 41, 1, 0, 0, 0), (891, 44, 1, 0, 0, 0), (892, 8, 3, 0, 897, 0), (895, 1, 1, 0, 0, 0), (896, 38, 1, 0, 0, 0), (897, 10, 3, 0, 1031, 0), (900, 3, 1, 1, 0, 0), (901, 3, 1, 0, 0, 0), (902, 2, 2, 4, 0, 0), (904, 1, 1, 0, 0, 1), (905, 7, 1, 0, 0, 0), (906, 18, 1, 0, 0, 0), (907, 3, 1, 0, 0, 0)]
def dh_c140_9 : List (Nat × jm_In) := [(908, 2, 2, 4, 0, 0), (910, 1, 1, 0, 0, 2), (911, 7, 1, 0, 0, 0), (912, 18, 1, 0, 0, 0), (913, 32, 3, 18, 3, 0), (916, 3, 1, 2, 0, 0), (917, 3, 1, 0, 0, 0), (918, 2, 2, 4, 0, 0), (920, 1, 1, 0, 0, 1), (921, 7, 1, 0, 0, 0), (922, 18, 1, 0, 0, 0), (923, 3, 1, 0, 0, 0), (924, 2, 2, 4, 0, 0), (926, 1, 1, 0, 0, 2), (927, 7, 1, 0, 0, 0), (928, 18, 1, 0, 0, 0), (929, 32, 3, 76, 3, 0), (932, 9, 3, 0, 1031, 0), (935, 1, 1, 0, 0, 0), (936, 38, 1, 0, 0, 0), (937, 3, 1, 1, 0, 0), (938, 3, 1, 0, 0, 0), (939, 2, 2, 4, 0, 0), (941, 1, 1, 0, 0, 1), (942, 7, 1, 0, 0, 0), (943, 18, 1, 0, 0, 0), (944, 8, 3, 0, 951, 0), (947, 1, 1, 0, 0, 1), (948, 10, 3, 0, 952, 0), (951, 1, 1, 0, 0, 0), (952, 32, 3, 19, 2, 0), (955, 3, 1, 2, 0, 0), (956, 3, 1, 0, 0, 0), (957, 2, 2, 4, 0, 0), (959, 1, 1, 0, 0, 1), (960, 7, 1, 0, 0, 0), (961, 18, 1, 0, 0, 0), (962, 8, 3, 0, 969, 0), (965, 1, 1, 0, 0, 1), (966, 10, 3, 0, 970, 0), (969, 1, 1, 0, 0, 0), (970, 32, 3, 77, 2, 0), (973, 9, 3, 0, 1031, 0), (976, 1, 1, 0, 0, 0), (977, 38, 1, 0, 0, 0), (978, 3, 1, 1, 0, 0), (979, 3, 1, 0, 0, 0), (980, 2, 2, 4, 0, 0), (982, 1, 1, 0, 0, 1), (983, 7, 1, 0, 0, 0), (984, 18, 1, 0, 0, 0), (985, 3, 1, 0, 0, 0), (986, 2, 2, 4, 0, 0), (988, 1, 1, 0, 0, 2), (989, 7, 1, 0, 0, 0), (990, 18, 1, 0, 0, 0), (991, 8, 3, 0, 998, 0), (994, 1, 1, 0, 0, 1), (995, 10, 3, 0, 999, 0), (998, 1, 1, 0, 0, 0)]
def dh_c140_10 : List (Nat × jm_In) := [(999, 32, 3, 20, 3, 0), (1002, 3, 1, 2, 0, 0), (1003, 3, 1, 0, 0, 0), (1004, 2, 2, 4, 0, 0), (1006, 1, 1, 0, 0, 1), (1007, 7, 1, 0, 0, 0), (1008, 18, 1, 0, 0, 0), (1009, 3, 1, 0, 0, 0), (1010, 2, 2, 4, 0, 0), (1012, 1, 1, 0, 0, 2), (1013, 7, 1, 0, 0, 0), (1014, 18, 1, 0, 0, 0), (1015, 8, 3, 0, 1022, 0), (1018, 1, 1, 0, 0, 1), (1019, 10, 3, 0, 1023, 0), (1022, 1, 1, 0, 0, 0), (1023, 32, 3, 78, 3, 0), (1026, 9, 3, 0, 1031, 0), (1029, 1, 1, 0, 0, 0), (1030, 38, 1, 0, 0, 0), (1031, 6, 3, 4, 0, 4), (1034, 10, 3, 0, 23, 0), (1037, 1, 1, 0, 0, 1), (1038, 38, 1, 0, 0, 0)]
/-- DeltaHistoryLaw.law([I)Z -/
def dh_c140 : List (Nat × jm_In) := dh_c140_0 ++ (dh_c140_1 ++ (dh_c140_2 ++ (dh_c140_3 ++ (dh_c140_4 ++ (dh_c140_5 ++ (dh_c140_6 ++ (dh_c140_7 ++ (dh_c140_8 ++ (dh_c140_9 ++ (dh_c140_10))))))))))
def dh_codes : List (List (Nat × jm_In)) := [dh_c0, dh_c1, dh_c2, dh_c3, dh_c4, dh_c5, dh_c6, dh_c7, dh_c8, dh_c9, dh_c10, dh_c11, dh_c12, dh_c13, dh_c14, dh_c15, dh_c16, dh_c17, dh_c18, dh_c19, dh_c20, dh_c21, dh_c22, dh_c23, dh_c24, dh_c25, dh_c26, dh_c27, dh_c28, dh_c29, dh_c30, dh_c31, dh_c32, dh_c33, dh_c34, dh_c35, dh_c36, dh_c37, dh_c38, dh_c39, dh_c40, dh_c41, dh_c42, dh_c43, dh_c44, dh_c45, dh_c46, dh_c47, dh_c48, dh_c49, dh_c50, dh_c51, dh_c52, dh_c53, dh_c54, dh_c55, dh_c56, dh_c57, dh_c58, dh_c59, dh_c60, dh_c61, dh_c62, dh_c63, dh_c64, dh_c65, dh_c66, dh_c67, dh_c68, dh_c69, dh_c70, dh_c71, dh_c72, dh_c73, dh_c74, dh_c75, dh_c76, dh_c77, dh_c78, dh_c79, dh_c80, dh_c81, dh_c82, dh_c83, dh_c84, dh_c85, dh_c86, dh_c87, dh_c88, dh_c89, dh_c90, dh_c91, dh_c92, dh_c93, dh_c94, dh_c95, dh_c96, dh_c97, dh_c98, dh_c99, dh_c100, dh_c101, dh_c102, dh_c103, dh_c104, dh_c105, dh_c106, dh_c107, dh_c108, dh_c109, dh_c110, dh_c111, dh_c112, dh_c113, dh_c114, dh_c115, dh_c116, dh_c117, dh_c118, dh_c119, dh_c120, dh_c121, dh_c122, dh_c123, dh_c124, dh_c125, dh_c126, dh_c127, dh_c128, dh_c129, dh_c130, dh_c131, dh_c132, dh_c133, dh_c134, dh_c135, dh_c136, dh_c137, dh_c138, dh_c139, dh_c140]
def dh_code (i : Nat) : List (Nat × jm_In) := dh_codes.getD i []
def dh_K_0 : jm_K5 := [(1, 1, 9, 0, 0), (1, 7, 5, 8, 2), (1, 9, 4, 118, 1), (1, 10, 1, 1, 0), (1, 16, 1, 1, 1), (1, 19, 1, 1, 2), (1, 22, 5, 4, 9), (1, 24, 4, 88, 1), (1, 25, 1, 1, 3), (1, 29, 5, 3, 3), (1, 31, 4, 79, 1), (1, 32, 1, 1, 4), (1, 36, 1, 1, 5), (1, 39, 1, 1, 6), (1, 42, 5, 9, 1), (1, 44, 4, 127, 1), (1, 45, 1, 1, 7), (1, 49, 5, 6, 1), (1, 51, 4, 101, 1), (1, 52, 1, 1, 8), (1, 56, 5, 5, 2), (1, 58, 4, 94, 1), (1, 59, 1, 1, 9), (1, 63, 1, 1, 10), (1, 66, 2, 81, 2), (1, 70, 1, 1, 11), (1, 74, 2, 119, 1), (1, 77, 2, 125, 2), (1, 81, 2, 120, 2), (1, 85, 2, 123, 3)]
def dh_K_1 : jm_K5 := [(1, 89, 2, 124, 2), (1, 93, 1, 8, 1), (1, 96, 2, 121, 2), (1, 99, 3, 21, 1), (1, 102, 2, 22, 2), (1, 105, 1, 5, 0), (1, 109, 1, 7, 3), (1, 114, 7, 202, 0), (1, 116, 8, 202, 0), (1, 117, 2, 24, 3), (1, 121, 2, 23, 3), (1, 125, 1, 5, 1), (1, 126, 7, 204, 0), (1, 128, 8, 204, 0), (1, 129, 2, 97, 2), (1, 132, 2, 98, 3), (1, 135, 1, 7, 0), (1, 138, 2, 128, 3), (1, 142, 2, 82, 1), (1, 146, 2, 25, 2), (1, 149, 2, 83, 2), (1, 152, 7, 200, 0), (1, 154, 8, 200, 0), (1, 155, 7, 206, 0), (1, 157, 8, 206, 0), (1, 158, 1, 3, 0), (1, 162, 2, 102, 3), (1, 166, 2, 86, 2), (1, 170, 2, 26, 1), (1, 173, 1, 7, 1)]
def dh_K_2 : jm_K5 := [(1, 176, 1, 7, 2), (1, 179, 1, 7, 9), (1, 182, 1, 7, 4), (1, 185, 1, 7, 5), (1, 188, 2, 99, 3), (1, 191, 2, 100, 3), (1, 194, 2, 89, 3), (1, 198, 1, 4, 6), (1, 201, 2, 92, 3), (1, 204, 1, 3, 1), (1, 205, 2, 84, 2), (1, 208, 2, 96, 2), (1, 209, 2, 85, 3), (1, 213, 2, 80, 1), (2, 1, 9, 0, 0), (2, 7, 1, 2, 2), (2, 13, 1, 2, 3), (2, 16, 1, 2, 4), (2, 19, 1, 2, 5), (2, 22, 1, 2, 6), (2, 25, 1, 2, 7), (2, 28, 1, 2, 8), (2, 31, 1, 2, 9), (2, 34, 1, 2, 11), (2, 38, 1, 2, 12), (2, 41, 1, 2, 14), (2, 44, 1, 2, 15), (2, 47, 1, 2, 17), (2, 50, 1, 2, 19), (2, 53, 1, 2, 20)]
def dh_K_3 : jm_K5 := [(2, 56, 1, 2, 22), (2, 59, 1, 2, 23), (2, 62, 1, 2, 24), (2, 65, 1, 2, 25), (2, 68, 1, 2, 27), (2, 71, 1, 2, 28), (2, 74, 1, 2, 29), (2, 77, 1, 2, 30), (2, 80, 1, 2, 31), (2, 83, 1, 2, 33), (2, 86, 1, 2, 34), (2, 89, 1, 2, 38), (2, 92, 1, 2, 39), (2, 95, 1, 2, 40), (2, 98, 1, 2, 41), (2, 101, 1, 2, 42), (2, 104, 1, 2, 0), (2, 107, 3, 30, 4), (2, 111, 3, 29, 1), (2, 115, 1, 2, 10), (2, 118, 1, 2, 1), (2, 121, 2, 36, 2), (2, 125, 2, 39, 2), (2, 128, 1, 2, 16), (2, 131, 1, 2, 18), (2, 134, 1, 2, 21), (2, 137, 2, 43, 1), (2, 140, 2, 44, 5), (2, 144, 1, 2, 32), (2, 147, 2, 46, 2)]
def dh_K_4 : jm_K5 := [(2, 151, 2, 38, 1), (2, 155, 2, 37, 2), (2, 158, 2, 41, 2), (2, 161, 2, 42, 2), (2, 164, 2, 45, 1), (2, 167, 2, 47, 1), (2, 170, 1, 2, 13), (2, 173, 2, 48, 1), (2, 176, 2, 49, 1), (2, 180, 2, 50, 1), (2, 183, 2, 51, 1), (2, 186, 3, 52, 1), (2, 189, 2, 53, 2), (2, 192, 2, 54, 3), (2, 196, 2, 40, 2), (2, 199, 1, 2, 37), (2, 202, 1, 2, 36), (2, 206, 1, 2, 35), (2, 209, 2, 63, 3), (2, 212, 2, 66, 3), (2, 216, 2, 67, 3), (2, 219, 2, 61, 1), (2, 222, 2, 64, 1), (2, 225, 2, 65, 1), (2, 228, 2, 68, 1), (2, 231, 2, 69, 1), (2, 234, 2, 62, 1), (2, 237, 1, 2, 26), (3, 3, 9, 0, 0), (3, 9, 1, 3, 0)]
def dh_K_5 : jm_K5 := [(3, 15, 1, 3, 1), (3, 19, 2, 83, 2), (3, 23, 2, 80, 1), (3, 26, 2, 81, 2), (3, 30, 2, 84, 2), (3, 34, 1, 3, 2), (4, 3, 9, 0, 0), (4, 11, 1, 4, 0), (4, 15, 1, 4, 1), (4, 18, 1, 4, 2), (4, 21, 1, 4, 3), (4, 24, 1, 4, 4), (4, 27, 13, 61, 0), (4, 29, 1, 4, 5), (4, 32, 2, 90, 3), (4, 36, 1, 4, 6), (4, 40, 1, 4, 7), (4, 43, 1, 4, 8), (4, 47, 1, 8, 1), (4, 52, 1, 8, 0), (4, 55, 2, 91, 3), (4, 59, 10, 0, 0), (4, 65, 2, 93, 3), (5, 3, 9, 0, 0), (5, 9, 5, 7, 10), (5, 9, 6, 69, 0), (5, 11, 1, 5, 0), (5, 17, 4, 111, 1), (5, 18, 1, 5, 1), (5, 22, 2, 112, 2)]
def dh_K_6 : jm_K5 := [(5, 26, 2, 113, 3), (5, 30, 2, 96, 2), (5, 34, 1, 7, 4), (5, 37, 2, 114, 2), (5, 40, 1, 7, 5), (5, 43, 2, 115, 2), (5, 46, 1, 7, 9), (5, 49, 1, 7, 6), (5, 52, 1, 7, 8), (5, 55, 1, 7, 7), (5, 58, 1, 7, 1), (6, 3, 9, 0, 0), (6, 9, 1, 6, 0), (6, 15, 1, 3, 2), (6, 21, 2, 95, 1), (6, 26, 2, 103, 3), (6, 30, 2, 104, 3), (6, 33, 2, 107, 3), (6, 36, 2, 87, 1), (6, 40, 2, 96, 2), (6, 44, 2, 98, 3), (6, 48, 1, 5, 0), (6, 52, 1, 7, 3), (6, 57, 1, 5, 1), (6, 60, 2, 117, 1), (6, 63, 2, 105, 2), (6, 67, 2, 106, 2), (6, 70, 1, 3, 1), (6, 71, 2, 116, 1), (6, 75, 2, 108, 4)]
def dh_K_7 : jm_K5 := [(6, 79, 1, 7, 0), (6, 83, 2, 110, 4), (6, 87, 2, 109, 3), (6, 91, 2, 122, 2), (6, 95, 2, 126, 4), (6, 99, 1, 8, 1), (7, 3, 9, 0, 0), (7, 9, 5, 8, 2), (7, 11, 4, 118, 1), (7, 12, 1, 7, 0), (7, 18, 2, 120, 2), (7, 22, 1, 7, 1), (7, 26, 1, 7, 2), (7, 29, 1, 7, 3), (7, 32, 1, 7, 4), (7, 35, 1, 7, 5), (7, 38, 1, 7, 6), (7, 41, 1, 7, 7), (7, 44, 1, 7, 8), (7, 47, 1, 7, 9), (7, 50, 2, 119, 1), (7, 53, 2, 116, 1), (8, 3, 9, 0, 0), (8, 9, 1, 8, 0), (8, 15, 1, 8, 1), (8, 19, 12, 0, 0), (8, 25, 2, 122, 2), (9, 3, 9, 0, 0), (9, 9, 5, 4, 9), (9, 11, 4, 88, 1)]
def dh_K_8 : jm_K5 := [(9, 12, 1, 9, 0), (9, 18, 2, 80, 1), (9, 23, 1, 5, 1), (9, 29, 2, 81, 2), (9, 33, 1, 5, 0), (9, 37, 1, 7, 1), (9, 42, 1, 7, 2), (9, 45, 1, 7, 3), (9, 48, 1, 7, 0), (9, 52, 2, 117, 1), (9, 56, 2, 96, 2), (9, 60, 2, 89, 3), (9, 64, 2, 130, 2), (9, 68, 2, 129, 3), (9, 72, 1, 8, 1), (9, 75, 1, 8, 0), (9, 79, 1, 4, 6), (9, 82, 1, 4, 0), (9, 85, 1, 4, 1), (9, 88, 1, 4, 2), (9, 91, 2, 93, 3), (59, 7, 2, 6, 3), (59, 8, 5, 1, 12), (59, 17, 2, 7, 3), (59, 20, 2, 8, 3), (59, 25, 2, 9, 2), (59, 29, 2, 11, 3), (59, 35, 2, 14, 3), (59, 38, 2, 15, 3), (59, 41, 2, 16, 3)]
def dh_K_9 : jm_K5 := [(59, 44, 2, 17, 2), (59, 47, 4, 0, 1), (59, 48, 5, 2, 43), (59, 50, 4, 27, 1), (59, 51, 2, 1, 4), (59, 55, 2, 31, 4), (59, 56, 2, 2, 3), (59, 60, 2, 32, 3), (59, 61, 2, 3, 2), (59, 64, 2, 33, 2), (59, 65, 2, 4, 1), (59, 69, 2, 34, 1), (59, 70, 2, 5, 2), (59, 73, 2, 35, 2), (59, 74, 3, 131, 4), (59, 79, 2, 55, 3), (59, 80, 2, 28, 1), (59, 83, 3, 132, 4), (59, 85, 2, 56, 3), (59, 86, 3, 133, 4), (59, 88, 2, 57, 3), (59, 89, 3, 134, 3), (59, 92, 2, 58, 2), (59, 93, 2, 10, 2), (59, 97, 2, 59, 2), (59, 98, 3, 135, 3), (59, 101, 2, 60, 3), (59, 102, 2, 12, 1), (59, 105, 2, 70, 1), (59, 106, 2, 13, 1)]
def dh_K_10 : jm_K5 := [(59, 109, 2, 71, 1), (59, 110, 3, 136, 4), (59, 112, 2, 72, 3), (59, 113, 3, 137, 4), (59, 115, 2, 73, 3), (59, 116, 3, 138, 4), (59, 118, 2, 74, 3), (59, 119, 3, 139, 3), (59, 121, 2, 75, 2), (59, 122, 2, 18, 3), (59, 125, 2, 76, 3), (59, 126, 2, 19, 2), (59, 130, 2, 77, 2), (59, 131, 2, 20, 3), (59, 135, 2, 78, 3)]
def dh_K : jm_K5 := dh_K_0 ++ (dh_K_1 ++ (dh_K_2 ++ (dh_K_3 ++ (dh_K_4 ++ (dh_K_5 ++ (dh_K_6 ++ (dh_K_7 ++ (dh_K_8 ++ (dh_K_9 ++ (dh_K_10))))))))))
def dh_pr : jm_Pr := (dh_code, dh_hd, dh_nl, dh_rc, dh_sw, 601026, 7293034, dh_rm)
end
section
/-! Each link is a word of the tables: by its place. Written by program. -/
def dh_W : List Cond := lw_tbl.filter jm_goodW
theorem dh_m0 {i : Nat} {w : Cond} (h : (k2_sels lw_privs)[i]? = some w) (g : jm_goodW w = true) : w ∈ dh_W := List.mem_filter.mpr ⟨List.mem_append_left _ (List.mem_of_getElem? h), g⟩
theorem dh_m1 {i : Nat} {w : Cond} (h : tables_1_1[i]? = some w) (g : jm_goodW w = true) : w ∈ dh_W := by
  refine List.mem_filter.mpr ⟨List.mem_append_right _ ?_, g⟩
  show w ∈ tables_1_1 ++ (tables_1_2 ++ (tables_1_3 ++ (tables_1_4 ++ tables_1_5)))
  exact List.mem_append_left _ (List.mem_of_getElem? h)
theorem dh_m2 {i : Nat} {w : Cond} (h : tables_1_2[i]? = some w) (g : jm_goodW w = true) : w ∈ dh_W := by
  refine List.mem_filter.mpr ⟨List.mem_append_right _ ?_, g⟩
  show w ∈ tables_1_1 ++ (tables_1_2 ++ (tables_1_3 ++ (tables_1_4 ++ tables_1_5)))
  exact List.mem_append_right _ (List.mem_append_left _ (List.mem_of_getElem? h))
theorem dh_m3 {i : Nat} {w : Cond} (h : tables_1_3[i]? = some w) (g : jm_goodW w = true) : w ∈ dh_W := by
  refine List.mem_filter.mpr ⟨List.mem_append_right _ ?_, g⟩
  show w ∈ tables_1_1 ++ (tables_1_2 ++ (tables_1_3 ++ (tables_1_4 ++ tables_1_5)))
  exact List.mem_append_right _ (List.mem_append_right _ (List.mem_append_left _ (List.mem_of_getElem? h)))
theorem dh_m4 {i : Nat} {w : Cond} (h : tables_1_4[i]? = some w) (g : jm_goodW w = true) : w ∈ dh_W := by
  refine List.mem_filter.mpr ⟨List.mem_append_right _ ?_, g⟩
  show w ∈ tables_1_1 ++ (tables_1_2 ++ (tables_1_3 ++ (tables_1_4 ++ tables_1_5)))
  exact List.mem_append_right _ (List.mem_append_right _ (List.mem_append_right _ (List.mem_append_left _ (List.mem_of_getElem? h))))
theorem dh_m5 {i : Nat} {w : Cond} (h : tables_1_5[i]? = some w) (g : jm_goodW w = true) : w ∈ dh_W := by
  refine List.mem_filter.mpr ⟨List.mem_append_right _ ?_, g⟩
  show w ∈ tables_1_1 ++ (tables_1_2 ++ (tables_1_3 ++ (tables_1_4 ++ tables_1_5)))
  exact List.mem_append_right _ (List.mem_append_right _ (List.mem_append_right _ (List.mem_append_right _ (List.mem_of_getElem? h))))
section JK
variable {cn : Nat → String} {J : jm_J} {Wg : List Cond} {M : jm_M} {nl rc : Nat → Nat} {o idx x y : Nat}
theorem jk_1 (w : vw_C) (h0 : 0 < x) (h1 : J.1[x]? = some w) (h2 : y < w.2.2) (h3 : (w.2.1 y).1 = w.1) (h4 : Cond.fieldLink (cn o) idx w.1 (w.2.1 y).2.1 (w.2.1 y).2.2.1 ∈ Wg) : jm_kok cn J Wg M nl rc (o, idx, 1, x, y) := by
  unfold jm_kok; exact ⟨h0, w, h1, h2, h3, h4⟩
def jk_ok (M : jm_M) (x n : Nat) : Prop := ((M x).1.cls ≠ "java/lang/invoke/MethodHandle" ∧ (M x).1.cls ≠ "java/lang/invoke/VarHandle") ∧ plainFor (M x).1 = true ∧ (parseMethodDescriptor (M x).1.desc).map (fun d => d.parameters.length) = some n
theorem jk_2 (w : vw_C) (h0 : 0 < rc x) (h1 : J.1[rc x]? = some w) (h2 : w.1 = (M x).1.cls) (h3 : Cond.selects w.1 (M x).1 (M x).1 ∈ Wg) (h4 : jg_cw M nl Wg x) (h5 : Cond.methodLink (cn o) idx (M x).1 ∈ Wg) (h6 : Cond.instanceMethod (M x).1 ∈ Wg) (h7 : jk_ok M x y) : jm_kok cn J Wg M nl rc (o, idx, 2, x, y + 1) := by
  unfold jm_kok
  refine ⟨h0, ⟨w, h1, h2, h3⟩, h4, h5, h6, h7.1, h7.2.1, ?_⟩
  obtain ⟨-, -, h8⟩ := h7
  dsimp only
  cases hp : parseMethodDescriptor (M x).1.desc with
  | none => rw [hp] at h8; cases h8
  | some d => rw [hp] at h8; simp only [Option.map_some, Option.some.injEq] at h8 ⊢; rw [h8]
theorem jk_3 (h0 : rc x = 0) (h4 : jg_cw M nl Wg x) (h5 : Cond.methodLink (cn o) idx (M x).1 ∈ Wg) (h6 : Cond.static (M x).1 ∈ Wg) (h6' : Cond.initialized (M x).1.cls ∈ Wg) (h7 : jk_ok M x y) : jm_kok cn J Wg M nl rc (o, idx, 3, x, y) := by
  unfold jm_kok
  exact ⟨h0, h4, h5, h6, h6', h7.1, h7.2.1, h7.2.2⟩
theorem jk_4 (h0 : 0 < rc x ∧ rc x < 60) (h1 : (M x).1.name = "<init>") (h2 : Cond.code (M x).1 (M x).2.1 (nl x) none ∈ Wg) (h4 : jg_cw M nl Wg x) (h5 : Cond.methodLink (cn o) idx (M x).1 ∈ Wg) (h6 : Cond.instanceMethod (M x).1 ∈ Wg) (h7 : jk_ok M x y) : jm_kok cn J Wg M nl rc (o, idx, 4, x, y + 1) := by
  unfold jm_kok
  refine ⟨h0, h1, h2, h4, h5, h6, h7.1, h7.2.1, ?_⟩
  obtain ⟨-, -, h8⟩ := h7
  dsimp only
  cases hp : parseMethodDescriptor (M x).1.desc with
  | none => rw [hp] at h8; cases h8
  | some d => rw [hp] at h8; simp only [Option.map_some, Option.some.injEq] at h8 ⊢; rw [h8]
theorem jk_5 (w : vw_C) (h0 : 0 < x) (h1 : J.1[x]? = some w) (h2 : y = w.2.2) (h3 : Cond.classLink (cn o) idx w.1 ∈ Wg) (h4 : Cond.instantiable w.1 w.2.2 ∈ Wg) (h5 : Cond.initialized w.1 ∈ Wg) (h6 : (List.range w.2.2).all (fun k => jm_isI (J.2.1 x k) || jm_isR (J.2.1 x k)) = true) : jm_kok cn J Wg M nl rc (o, idx, 5, x, y) := by
  unfold jm_kok
  refine ⟨h0, w, h1, h2, h3, h4, h5, fun k hk => ?_⟩
  have := List.all_eq_true.mp h6 k (List.mem_range.mpr hk)
  simpa only [Bool.or_eq_true] using this
theorem jk_6 (C : String) (h0 : 60 ≤ x ∧ x < 99) (h1 : J.2.2.1 x = some (.object C)) (h2 : Cond.classLink (cn o) idx C ∈ Wg) : jm_kok cn J Wg M nl rc (o, idx, 6, x, 0) := by
  unfold jm_kok; exact ⟨h0, C, h1, h2⟩
theorem jk_7 (nm : String) (h0 : J.2.2.2 x = some nm) (h1 : 200 ≤ x) (h2 : x % 2 = 0) (h3 : Cond.classLink (cn o) idx nm ∈ Wg) (h4 : Cond.instantiable nm 6 ∈ Wg) (h5 : Cond.initialized nm ∈ Wg) : jm_kok cn J Wg M nl rc (o, idx, 7, x, 0) := by
  unfold jm_kok; exact ⟨nm, h0, h1, h2, h3, h4, h5⟩
theorem jk_8 (nm : String) (h0 : J.2.2.2 x = some nm) (h1 : 200 ≤ x) (h2 : x % 2 = 0) (h3 : Bundle.fit nm = true) (h4 : ∀ a ∈ Bundle.ownAtoms0 (cn o) idx nm jm_up2, a ∈ Wg ∨ a ∈ jx_st) : jm_kok cn J Wg M nl rc (o, idx, 8, x, 0) := by
  unfold jm_kok; exact ⟨nm, jm_up2, h0, h1, h2, h3, jm_up2_fit, rfl, h4⟩
theorem jk_9 (h1 : Cond.methodLink (cn o) idx objectInit ∈ Wg) (h2 : Cond.instanceMethod objectInit ∈ Wg) (h3 : Cond.code objectInit ⟨#[0xb1]⟩ 1 none ∈ Wg) : jm_kok cn J Wg M nl rc (o, idx, 9, 0, 0) := by
  unfold jm_kok; exact ⟨h1, h2, h3⟩
theorem jk_10 (h1 : Cond.methodLink (cn o) idx Lib.Math.max.name ∈ Wg) (h2 : Cond.static Lib.Math.max.name ∈ Wg) (h3 : Cond.initialized "java/lang/Math" ∈ Wg) (h4 : Cond.code Lib.Math.max.name Lib.Math.max.code 2 (some .int) ∈ Wg) : jm_kok cn J Wg M nl rc (o, idx, 10, 0, 0) := by
  unfold jm_kok; exact ⟨h1, h2, h3, h4⟩
theorem jk_12 (h1 : Cond.methodLink (cn o) idx arraycopyName ∈ Wg) (h2 : Cond.native arraycopyName ∈ Wg) (h3 : Cond.static arraycopyName ∈ Wg) (h4 : Cond.initialized "java/lang/System" ∈ Wg) : jm_kok cn J Wg M nl rc (o, idx, 12, 0, 0) := by
  unfold jm_kok; exact ⟨h1, h2, h3, h4⟩
theorem jk_13 (h0 : 60 ≤ x ∧ x < 99) (h1 : J.2.2.1 x = some (.array .int)) (h2 : Cond.classLink (cn o) idx "[[I" ∈ Wg) : jm_kok cn J Wg M nl rc (o, idx, 13, x, 0) := by
  unfold jm_kok; exact ⟨h0, h1, h2⟩
end JK
theorem dh_cw_0 : jg_cw dh_M dh_nl dh_W 0 := Or.inl ⟨rfl, dh_m1 (i := 23) rfl rfl⟩
theorem dh_ok_0 : jk_ok dh_M 0 0 := ⟨⟨by decide +kernel, by decide +kernel⟩, by decide +kernel, by decide +kernel⟩
theorem dh_cw_1 : jg_cw dh_M dh_nl dh_W 1 := Or.inl ⟨rfl, dh_m2 (i := 13) rfl rfl⟩
theorem dh_ok_1 : jk_ok dh_M 1 3 := ⟨⟨by decide +kernel, by decide +kernel⟩, by decide +kernel, by decide +kernel⟩
theorem dh_cw_2 : jg_cw dh_M dh_nl dh_W 2 := Or.inl ⟨rfl, dh_m2 (i := 36) rfl rfl⟩
theorem dh_ok_2 : jk_ok dh_M 2 2 := ⟨⟨by decide +kernel, by decide +kernel⟩, by decide +kernel, by decide +kernel⟩
theorem dh_cw_3 : jg_cw dh_M dh_nl dh_W 3 := Or.inl ⟨rfl, dh_m2 (i := 44) rfl rfl⟩
theorem dh_ok_3 : jk_ok dh_M 3 1 := ⟨⟨by decide +kernel, by decide +kernel⟩, by decide +kernel, by decide +kernel⟩
theorem dh_cw_4 : jg_cw dh_M dh_nl dh_W 4 := Or.inl ⟨rfl, dh_m2 (i := 52) rfl rfl⟩
theorem dh_ok_4 : jk_ok dh_M 4 0 := ⟨⟨by decide +kernel, by decide +kernel⟩, by decide +kernel, by decide +kernel⟩
theorem dh_cw_5 : jg_cw dh_M dh_nl dh_W 5 := Or.inl ⟨rfl, dh_m2 (i := 56) rfl rfl⟩
theorem dh_ok_5 : jk_ok dh_M 5 1 := ⟨⟨by decide +kernel, by decide +kernel⟩, by decide +kernel, by decide +kernel⟩
theorem dh_cw_6 : jg_cw dh_M dh_nl dh_W 6 := Or.inl ⟨rfl, dh_m2 (i := 233) rfl rfl⟩
theorem dh_ok_6 : jk_ok dh_M 6 2 := ⟨⟨by decide +kernel, by decide +kernel⟩, by decide +kernel, by decide +kernel⟩
theorem dh_cw_7 : jg_cw dh_M dh_nl dh_W 7 := Or.inl ⟨rfl, dh_m3 (i := 111) rfl rfl⟩
theorem dh_ok_7 : jk_ok dh_M 7 2 := ⟨⟨by decide +kernel, by decide +kernel⟩, by decide +kernel, by decide +kernel⟩
theorem dh_cw_8 : jg_cw dh_M dh_nl dh_W 8 := Or.inl ⟨rfl, dh_m3 (i := 123) rfl rfl⟩
theorem dh_ok_8 : jk_ok dh_M 8 2 := ⟨⟨by decide +kernel, by decide +kernel⟩, by decide +kernel, by decide +kernel⟩
theorem dh_cw_9 : jg_cw dh_M dh_nl dh_W 9 := Or.inl ⟨rfl, dh_m3 (i := 150) rfl rfl⟩
theorem dh_ok_9 : jk_ok dh_M 9 1 := ⟨⟨by decide +kernel, by decide +kernel⟩, by decide +kernel, by decide +kernel⟩
theorem dh_cw_10 : jg_cw dh_M dh_nl dh_W 10 := Or.inl ⟨rfl, dh_m2 (i := 64) rfl rfl⟩
theorem dh_ok_10 : jk_ok dh_M 10 1 := ⟨⟨by decide +kernel, by decide +kernel⟩, by decide +kernel, by decide +kernel⟩
theorem dh_cw_11 : jg_cw dh_M dh_nl dh_W 11 := Or.inl ⟨rfl, dh_m3 (i := 158) rfl rfl⟩
theorem dh_ok_11 : jk_ok dh_M 11 2 := ⟨⟨by decide +kernel, by decide +kernel⟩, by decide +kernel, by decide +kernel⟩
theorem dh_cw_12 : jg_cw dh_M dh_nl dh_W 12 := Or.inl ⟨rfl, dh_m2 (i := 68) rfl rfl⟩
theorem dh_ok_12 : jk_ok dh_M 12 0 := ⟨⟨by decide +kernel, by decide +kernel⟩, by decide +kernel, by decide +kernel⟩
theorem dh_cw_13 : jg_cw dh_M dh_nl dh_W 13 := Or.inl ⟨rfl, dh_m2 (i := 206) rfl rfl⟩
theorem dh_ok_13 : jk_ok dh_M 13 0 := ⟨⟨by decide +kernel, by decide +kernel⟩, by decide +kernel, by decide +kernel⟩
theorem dh_cw_14 : jg_cw dh_M dh_nl dh_W 14 := Or.inl ⟨rfl, dh_m3 (i := 181) rfl rfl⟩
theorem dh_ok_14 : jk_ok dh_M 14 2 := ⟨⟨by decide +kernel, by decide +kernel⟩, by decide +kernel, by decide +kernel⟩
theorem dh_cw_15 : jg_cw dh_M dh_nl dh_W 15 := Or.inl ⟨rfl, dh_m3 (i := 188) rfl rfl⟩
theorem dh_ok_15 : jk_ok dh_M 15 2 := ⟨⟨by decide +kernel, by decide +kernel⟩, by decide +kernel, by decide +kernel⟩
theorem dh_cw_16 : jg_cw dh_M dh_nl dh_W 16 := Or.inl ⟨rfl, dh_m3 (i := 199) rfl rfl⟩
theorem dh_ok_16 : jk_ok dh_M 16 2 := ⟨⟨by decide +kernel, by decide +kernel⟩, by decide +kernel, by decide +kernel⟩
theorem dh_cw_17 : jg_cw dh_M dh_nl dh_W 17 := Or.inl ⟨rfl, dh_m3 (i := 210) rfl rfl⟩
theorem dh_ok_17 : jk_ok dh_M 17 1 := ⟨⟨by decide +kernel, by decide +kernel⟩, by decide +kernel, by decide +kernel⟩
theorem dh_cw_18 : jg_cw dh_M dh_nl dh_W 18 := Or.inl ⟨rfl, dh_m2 (i := 210) rfl rfl⟩
theorem dh_ok_18 : jk_ok dh_M 18 2 := ⟨⟨by decide +kernel, by decide +kernel⟩, by decide +kernel, by decide +kernel⟩
theorem dh_cw_19 : jg_cw dh_M dh_nl dh_W 19 := Or.inl ⟨rfl, dh_m2 (i := 219) rfl rfl⟩
theorem dh_ok_19 : jk_ok dh_M 19 1 := ⟨⟨by decide +kernel, by decide +kernel⟩, by decide +kernel, by decide +kernel⟩
theorem dh_cw_20 : jg_cw dh_M dh_nl dh_W 20 := Or.inl ⟨rfl, dh_m2 (i := 223) rfl rfl⟩
theorem dh_ok_20 : jk_ok dh_M 20 2 := ⟨⟨by decide +kernel, by decide +kernel⟩, by decide +kernel, by decide +kernel⟩
theorem dh_cw_21 : jg_cw dh_M dh_nl dh_W 21 := Or.inl ⟨rfl, dh_m2 (i := 236) rfl rfl⟩
theorem dh_ok_21 : jk_ok dh_M 21 1 := ⟨⟨by decide +kernel, by decide +kernel⟩, by decide +kernel, by decide +kernel⟩
theorem dh_cw_22 : jg_cw dh_M dh_nl dh_W 22 := Or.inl ⟨rfl, dh_m3 (i := 64) rfl rfl⟩
theorem dh_ok_22 : jk_ok dh_M 22 1 := ⟨⟨by decide +kernel, by decide +kernel⟩, by decide +kernel, by decide +kernel⟩
theorem dh_cw_23 : jg_cw dh_M dh_nl dh_W 23 := Or.inl ⟨rfl, dh_m3 (i := 115) rfl rfl⟩
theorem dh_ok_23 : jk_ok dh_M 23 2 := ⟨⟨by decide +kernel, by decide +kernel⟩, by decide +kernel, by decide +kernel⟩
theorem dh_cw_24 : jg_cw dh_M dh_nl dh_W 24 := Or.inl ⟨rfl, dh_m3 (i := 84) rfl rfl⟩
theorem dh_ok_24 : jk_ok dh_M 24 2 := ⟨⟨by decide +kernel, by decide +kernel⟩, by decide +kernel, by decide +kernel⟩
theorem dh_cw_25 : jg_cw dh_M dh_nl dh_W 25 := Or.inl ⟨rfl, dh_m3 (i := 97) rfl rfl⟩
theorem dh_ok_25 : jk_ok dh_M 25 1 := ⟨⟨by decide +kernel, by decide +kernel⟩, by decide +kernel, by decide +kernel⟩
theorem dh_cw_26 : jg_cw dh_M dh_nl dh_W 26 := Or.inl ⟨rfl, dh_m2 (i := 202) rfl rfl⟩
theorem dh_ok_26 : jk_ok dh_M 26 0 := ⟨⟨by decide +kernel, by decide +kernel⟩, by decide +kernel, by decide +kernel⟩
theorem dh_cw_27 : jg_cw dh_M dh_nl dh_W 27 := Or.inl ⟨rfl, dh_m3 (i := 216) rfl rfl⟩
theorem dh_ok_27 : jk_ok dh_M 27 0 := ⟨⟨by decide +kernel, by decide +kernel⟩, by decide +kernel, by decide +kernel⟩
theorem dh_cw_28 : jg_cw dh_M dh_nl dh_W 28 := Or.inl ⟨rfl, dh_m4 (i := 111) rfl rfl⟩
theorem dh_ok_28 : jk_ok dh_M 28 0 := ⟨⟨by decide +kernel, by decide +kernel⟩, by decide +kernel, by decide +kernel⟩
theorem dh_cw_29 : jg_cw dh_M dh_nl dh_W 29 := Or.inl ⟨rfl, dh_m4 (i := 121) rfl rfl⟩
theorem dh_ok_29 : jk_ok dh_M 29 1 := ⟨⟨by decide +kernel, by decide +kernel⟩, by decide +kernel, by decide +kernel⟩
theorem dh_cw_30 : jg_cw dh_M dh_nl dh_W 30 := Or.inl ⟨rfl, dh_m4 (i := 118) rfl rfl⟩
theorem dh_ok_30 : jk_ok dh_M 30 4 := ⟨⟨by decide +kernel, by decide +kernel⟩, by decide +kernel, by decide +kernel⟩
theorem dh_cw_31 : jg_cw dh_M dh_nl dh_W 31 := Or.inl ⟨rfl, dh_m4 (i := 115) rfl rfl⟩
theorem dh_ok_31 : jk_ok dh_M 31 3 := ⟨⟨by decide +kernel, by decide +kernel⟩, by decide +kernel, by decide +kernel⟩
theorem dh_cw_32 : jg_cw dh_M dh_nl dh_W 32 := Or.inl ⟨rfl, dh_m4 (i := 125) rfl rfl⟩
theorem dh_ok_32 : jk_ok dh_M 32 2 := ⟨⟨by decide +kernel, by decide +kernel⟩, by decide +kernel, by decide +kernel⟩
theorem dh_cw_33 : jg_cw dh_M dh_nl dh_W 33 := Or.inl ⟨rfl, dh_m4 (i := 129) rfl rfl⟩
theorem dh_ok_33 : jk_ok dh_M 33 1 := ⟨⟨by decide +kernel, by decide +kernel⟩, by decide +kernel, by decide +kernel⟩
theorem dh_cw_34 : jg_cw dh_M dh_nl dh_W 34 := Or.inl ⟨rfl, dh_m4 (i := 133) rfl rfl⟩
theorem dh_ok_34 : jk_ok dh_M 34 0 := ⟨⟨by decide +kernel, by decide +kernel⟩, by decide +kernel, by decide +kernel⟩
theorem dh_cw_35 : jg_cw dh_M dh_nl dh_W 35 := Or.inl ⟨rfl, dh_m4 (i := 137) rfl rfl⟩
theorem dh_ok_35 : jk_ok dh_M 35 1 := ⟨⟨by decide +kernel, by decide +kernel⟩, by decide +kernel, by decide +kernel⟩
theorem dh_cw_36 : jg_cw dh_M dh_nl dh_W 36 := Or.inl ⟨rfl, dh_m4 (i := 168) rfl rfl⟩
theorem dh_ok_36 : jk_ok dh_M 36 1 := ⟨⟨by decide +kernel, by decide +kernel⟩, by decide +kernel, by decide +kernel⟩
theorem dh_cw_37 : jg_cw dh_M dh_nl dh_W 37 := Or.inl ⟨rfl, dh_m4 (i := 172) rfl rfl⟩
theorem dh_ok_37 : jk_ok dh_M 37 1 := ⟨⟨by decide +kernel, by decide +kernel⟩, by decide +kernel, by decide +kernel⟩
theorem dh_cw_38 : jg_cw dh_M dh_nl dh_W 38 := Or.inl ⟨rfl, dh_m4 (i := 164) rfl rfl⟩
theorem dh_ok_38 : jk_ok dh_M 38 0 := ⟨⟨by decide +kernel, by decide +kernel⟩, by decide +kernel, by decide +kernel⟩
theorem dh_cw_39 : jg_cw dh_M dh_nl dh_W 39 := Or.inl ⟨rfl, dh_m4 (i := 224) rfl rfl⟩
theorem dh_ok_39 : jk_ok dh_M 39 1 := ⟨⟨by decide +kernel, by decide +kernel⟩, by decide +kernel, by decide +kernel⟩
theorem dh_cw_40 : jg_cw dh_M dh_nl dh_W 40 := Or.inl ⟨rfl, dh_m4 (i := 220) rfl rfl⟩
theorem dh_ok_40 : jk_ok dh_M 40 1 := ⟨⟨by decide +kernel, by decide +kernel⟩, by decide +kernel, by decide +kernel⟩
theorem dh_cw_41 : jg_cw dh_M dh_nl dh_W 41 := Or.inl ⟨rfl, dh_m4 (i := 176) rfl rfl⟩
theorem dh_ok_41 : jk_ok dh_M 41 1 := ⟨⟨by decide +kernel, by decide +kernel⟩, by decide +kernel, by decide +kernel⟩
theorem dh_cw_42 : jg_cw dh_M dh_nl dh_W 42 := Or.inl ⟨rfl, dh_m4 (i := 180) rfl rfl⟩
theorem dh_ok_42 : jk_ok dh_M 42 1 := ⟨⟨by decide +kernel, by decide +kernel⟩, by decide +kernel, by decide +kernel⟩
theorem dh_cw_43 : jg_cw dh_M dh_nl dh_W 43 := Or.inl ⟨rfl, dh_m4 (i := 188) rfl rfl⟩
theorem dh_ok_43 : jk_ok dh_M 43 0 := ⟨⟨by decide +kernel, by decide +kernel⟩, by decide +kernel, by decide +kernel⟩
theorem dh_cw_44 : jg_cw dh_M dh_nl dh_W 44 := Or.inl ⟨rfl, dh_m4 (i := 192) rfl rfl⟩
theorem dh_ok_44 : jk_ok dh_M 44 4 := ⟨⟨by decide +kernel, by decide +kernel⟩, by decide +kernel, by decide +kernel⟩
theorem dh_cw_45 : jg_cw dh_M dh_nl dh_W 45 := Or.inl ⟨rfl, dh_m4 (i := 184) rfl rfl⟩
theorem dh_ok_45 : jk_ok dh_M 45 0 := ⟨⟨by decide +kernel, by decide +kernel⟩, by decide +kernel, by decide +kernel⟩
theorem dh_cw_46 : jg_cw dh_M dh_nl dh_W 46 := Or.inl ⟨rfl, dh_m4 (i := 160) rfl rfl⟩
theorem dh_ok_46 : jk_ok dh_M 46 1 := ⟨⟨by decide +kernel, by decide +kernel⟩, by decide +kernel, by decide +kernel⟩
theorem dh_cw_47 : jg_cw dh_M dh_nl dh_W 47 := Or.inl ⟨rfl, dh_m4 (i := 196) rfl rfl⟩
theorem dh_ok_47 : jk_ok dh_M 47 0 := ⟨⟨by decide +kernel, by decide +kernel⟩, by decide +kernel, by decide +kernel⟩
theorem dh_cw_48 : jg_cw dh_M dh_nl dh_W 48 := Or.inl ⟨rfl, dh_m4 (i := 156) rfl rfl⟩
theorem dh_ok_48 : jk_ok dh_M 48 0 := ⟨⟨by decide +kernel, by decide +kernel⟩, by decide +kernel, by decide +kernel⟩
theorem dh_cw_49 : jg_cw dh_M dh_nl dh_W 49 := Or.inl ⟨rfl, dh_m4 (i := 200) rfl rfl⟩
theorem dh_ok_49 : jk_ok dh_M 49 0 := ⟨⟨by decide +kernel, by decide +kernel⟩, by decide +kernel, by decide +kernel⟩
theorem dh_cw_50 : jg_cw dh_M dh_nl dh_W 50 := Or.inl ⟨rfl, dh_m4 (i := 204) rfl rfl⟩
theorem dh_ok_50 : jk_ok dh_M 50 0 := ⟨⟨by decide +kernel, by decide +kernel⟩, by decide +kernel, by decide +kernel⟩
theorem dh_cw_51 : jg_cw dh_M dh_nl dh_W 51 := Or.inl ⟨rfl, dh_m4 (i := 208) rfl rfl⟩
theorem dh_ok_51 : jk_ok dh_M 51 0 := ⟨⟨by decide +kernel, by decide +kernel⟩, by decide +kernel, by decide +kernel⟩
theorem dh_cw_52 : jg_cw dh_M dh_nl dh_W 52 := Or.inl ⟨rfl, dh_m4 (i := 144) rfl rfl⟩
theorem dh_ok_52 : jk_ok dh_M 52 1 := ⟨⟨by decide +kernel, by decide +kernel⟩, by decide +kernel, by decide +kernel⟩
theorem dh_cw_53 : jg_cw dh_M dh_nl dh_W 53 := Or.inl ⟨rfl, dh_m4 (i := 148) rfl rfl⟩
theorem dh_ok_53 : jk_ok dh_M 53 1 := ⟨⟨by decide +kernel, by decide +kernel⟩, by decide +kernel, by decide +kernel⟩
theorem dh_cw_54 : jg_cw dh_M dh_nl dh_W 54 := Or.inl ⟨rfl, dh_m4 (i := 152) rfl rfl⟩
theorem dh_ok_54 : jk_ok dh_M 54 2 := ⟨⟨by decide +kernel, by decide +kernel⟩, by decide +kernel, by decide +kernel⟩
theorem dh_cw_55 : jg_cw dh_M dh_nl dh_W 55 := Or.inl ⟨rfl, dh_m4 (i := 141) rfl rfl⟩
theorem dh_ok_55 : jk_ok dh_M 55 2 := ⟨⟨by decide +kernel, by decide +kernel⟩, by decide +kernel, by decide +kernel⟩
theorem dh_cw_56 : jg_cw dh_M dh_nl dh_W 56 := Or.inl ⟨rfl, dh_m4 (i := 212) rfl rfl⟩
theorem dh_ok_56 : jk_ok dh_M 56 2 := ⟨⟨by decide +kernel, by decide +kernel⟩, by decide +kernel, by decide +kernel⟩
theorem dh_cw_57 : jg_cw dh_M dh_nl dh_W 57 := Or.inl ⟨rfl, dh_m4 (i := 216) rfl rfl⟩
theorem dh_ok_57 : jk_ok dh_M 57 2 := ⟨⟨by decide +kernel, by decide +kernel⟩, by decide +kernel, by decide +kernel⟩
theorem dh_cw_58 : jg_cw dh_M dh_nl dh_W 58 := Or.inl ⟨rfl, dh_m4 (i := 228) rfl rfl⟩
theorem dh_ok_58 : jk_ok dh_M 58 1 := ⟨⟨by decide +kernel, by decide +kernel⟩, by decide +kernel, by decide +kernel⟩
theorem dh_cw_59 : jg_cw dh_M dh_nl dh_W 59 := Or.inl ⟨rfl, dh_m4 (i := 232) rfl rfl⟩
theorem dh_ok_59 : jk_ok dh_M 59 1 := ⟨⟨by decide +kernel, by decide +kernel⟩, by decide +kernel, by decide +kernel⟩
theorem dh_cw_60 : jg_cw dh_M dh_nl dh_W 60 := Or.inl ⟨rfl, dh_m4 (i := 236) rfl rfl⟩
theorem dh_ok_60 : jk_ok dh_M 60 2 := ⟨⟨by decide +kernel, by decide +kernel⟩, by decide +kernel, by decide +kernel⟩
theorem dh_cw_61 : jg_cw dh_M dh_nl dh_W 61 := Or.inl ⟨rfl, dh_m5 (i := 4) rfl rfl⟩
theorem dh_ok_61 : jk_ok dh_M 61 0 := ⟨⟨by decide +kernel, by decide +kernel⟩, by decide +kernel, by decide +kernel⟩
theorem dh_cw_62 : jg_cw dh_M dh_nl dh_W 62 := Or.inl ⟨rfl, dh_m5 (i := 36) rfl rfl⟩
theorem dh_ok_62 : jk_ok dh_M 62 0 := ⟨⟨by decide +kernel, by decide +kernel⟩, by decide +kernel, by decide +kernel⟩
theorem dh_cw_63 : jg_cw dh_M dh_nl dh_W 63 := Or.inl ⟨rfl, dh_m5 (i := 12) rfl rfl⟩
theorem dh_ok_63 : jk_ok dh_M 63 2 := ⟨⟨by decide +kernel, by decide +kernel⟩, by decide +kernel, by decide +kernel⟩
theorem dh_cw_64 : jg_cw dh_M dh_nl dh_W 64 := Or.inl ⟨rfl, dh_m5 (i := 8) rfl rfl⟩
theorem dh_ok_64 : jk_ok dh_M 64 0 := ⟨⟨by decide +kernel, by decide +kernel⟩, by decide +kernel, by decide +kernel⟩
theorem dh_cw_65 : jg_cw dh_M dh_nl dh_W 65 := Or.inl ⟨rfl, dh_m5 (i := 16) rfl rfl⟩
theorem dh_ok_65 : jk_ok dh_M 65 0 := ⟨⟨by decide +kernel, by decide +kernel⟩, by decide +kernel, by decide +kernel⟩
theorem dh_cw_66 : jg_cw dh_M dh_nl dh_W 66 := Or.inl ⟨rfl, dh_m5 (i := 24) rfl rfl⟩
theorem dh_ok_66 : jk_ok dh_M 66 2 := ⟨⟨by decide +kernel, by decide +kernel⟩, by decide +kernel, by decide +kernel⟩
theorem dh_cw_67 : jg_cw dh_M dh_nl dh_W 67 := Or.inl ⟨rfl, dh_m5 (i := 28) rfl rfl⟩
theorem dh_ok_67 : jk_ok dh_M 67 2 := ⟨⟨by decide +kernel, by decide +kernel⟩, by decide +kernel, by decide +kernel⟩
theorem dh_cw_68 : jg_cw dh_M dh_nl dh_W 68 := Or.inl ⟨rfl, dh_m5 (i := 20) rfl rfl⟩
theorem dh_ok_68 : jk_ok dh_M 68 0 := ⟨⟨by decide +kernel, by decide +kernel⟩, by decide +kernel, by decide +kernel⟩
theorem dh_cw_69 : jg_cw dh_M dh_nl dh_W 69 := Or.inl ⟨rfl, dh_m5 (i := 32) rfl rfl⟩
theorem dh_ok_69 : jk_ok dh_M 69 0 := ⟨⟨by decide +kernel, by decide +kernel⟩, by decide +kernel, by decide +kernel⟩
theorem dh_cw_70 : jg_cw dh_M dh_nl dh_W 70 := Or.inl ⟨rfl, dh_m5 (i := 0) rfl rfl⟩
theorem dh_ok_70 : jk_ok dh_M 70 0 := ⟨⟨by decide +kernel, by decide +kernel⟩, by decide +kernel, by decide +kernel⟩
theorem dh_cw_71 : jg_cw dh_M dh_nl dh_W 71 := Or.inl ⟨rfl, dh_m5 (i := 40) rfl rfl⟩
theorem dh_ok_71 : jk_ok dh_M 71 0 := ⟨⟨by decide +kernel, by decide +kernel⟩, by decide +kernel, by decide +kernel⟩
theorem dh_cw_72 : jg_cw dh_M dh_nl dh_W 72 := Or.inl ⟨rfl, dh_m5 (i := 44) rfl rfl⟩
theorem dh_ok_72 : jk_ok dh_M 72 2 := ⟨⟨by decide +kernel, by decide +kernel⟩, by decide +kernel, by decide +kernel⟩
theorem dh_cw_73 : jg_cw dh_M dh_nl dh_W 73 := Or.inl ⟨rfl, dh_m5 (i := 48) rfl rfl⟩
theorem dh_ok_73 : jk_ok dh_M 73 2 := ⟨⟨by decide +kernel, by decide +kernel⟩, by decide +kernel, by decide +kernel⟩
theorem dh_cw_74 : jg_cw dh_M dh_nl dh_W 74 := Or.inl ⟨rfl, dh_m5 (i := 52) rfl rfl⟩
theorem dh_ok_74 : jk_ok dh_M 74 2 := ⟨⟨by decide +kernel, by decide +kernel⟩, by decide +kernel, by decide +kernel⟩
theorem dh_cw_75 : jg_cw dh_M dh_nl dh_W 75 := Or.inl ⟨rfl, dh_m5 (i := 56) rfl rfl⟩
theorem dh_ok_75 : jk_ok dh_M 75 1 := ⟨⟨by decide +kernel, by decide +kernel⟩, by decide +kernel, by decide +kernel⟩
theorem dh_cw_76 : jg_cw dh_M dh_nl dh_W 76 := Or.inl ⟨rfl, dh_m5 (i := 60) rfl rfl⟩
theorem dh_ok_76 : jk_ok dh_M 76 2 := ⟨⟨by decide +kernel, by decide +kernel⟩, by decide +kernel, by decide +kernel⟩
theorem dh_cw_77 : jg_cw dh_M dh_nl dh_W 77 := Or.inl ⟨rfl, dh_m5 (i := 64) rfl rfl⟩
theorem dh_ok_77 : jk_ok dh_M 77 1 := ⟨⟨by decide +kernel, by decide +kernel⟩, by decide +kernel, by decide +kernel⟩
theorem dh_cw_78 : jg_cw dh_M dh_nl dh_W 78 := Or.inl ⟨rfl, dh_m5 (i := 68) rfl rfl⟩
theorem dh_ok_78 : jk_ok dh_M 78 2 := ⟨⟨by decide +kernel, by decide +kernel⟩, by decide +kernel, by decide +kernel⟩
theorem dh_cw_79 : jg_cw dh_M dh_nl dh_W 79 := Or.inl ⟨rfl, dh_m1 (i := 92) rfl rfl⟩
theorem dh_ok_79 : jk_ok dh_M 79 0 := ⟨⟨by decide +kernel, by decide +kernel⟩, by decide +kernel, by decide +kernel⟩
theorem dh_cw_80 : jg_cw dh_M dh_nl dh_W 80 := Or.inl ⟨rfl, dh_m2 (i := 160) rfl rfl⟩
theorem dh_ok_80 : jk_ok dh_M 80 0 := ⟨⟨by decide +kernel, by decide +kernel⟩, by decide +kernel, by decide +kernel⟩
theorem dh_cw_81 : jg_cw dh_M dh_nl dh_W 81 := Or.inl ⟨rfl, dh_m1 (i := 212) rfl rfl⟩
theorem dh_ok_81 : jk_ok dh_M 81 1 := ⟨⟨by decide +kernel, by decide +kernel⟩, by decide +kernel, by decide +kernel⟩
theorem dh_cw_82 : jg_cw dh_M dh_nl dh_W 82 := Or.inl ⟨rfl, dh_m3 (i := 143) rfl rfl⟩
theorem dh_ok_82 : jk_ok dh_M 82 0 := ⟨⟨by decide +kernel, by decide +kernel⟩, by decide +kernel, by decide +kernel⟩
theorem dh_cw_83 : jg_cw dh_M dh_nl dh_W 83 := Or.inl ⟨rfl, dh_m2 (i := 88) rfl rfl⟩
theorem dh_ok_83 : jk_ok dh_M 83 1 := ⟨⟨by decide +kernel, by decide +kernel⟩, by decide +kernel, by decide +kernel⟩
theorem dh_cw_84 : jg_cw dh_M dh_nl dh_W 84 := Or.inl ⟨rfl, dh_m2 (i := 198) rfl rfl⟩
theorem dh_ok_84 : jk_ok dh_M 84 1 := ⟨⟨by decide +kernel, by decide +kernel⟩, by decide +kernel, by decide +kernel⟩
theorem dh_cw_85 : jg_cw dh_M dh_nl dh_W 85 := Or.inl ⟨rfl, dh_m3 (i := 101) rfl rfl⟩
theorem dh_ok_85 : jk_ok dh_M 85 2 := ⟨⟨by decide +kernel, by decide +kernel⟩, by decide +kernel, by decide +kernel⟩
theorem dh_cw_86 : jg_cw dh_M dh_nl dh_W 86 := Or.inl ⟨rfl, dh_m2 (i := 194) rfl rfl⟩
theorem dh_ok_86 : jk_ok dh_M 86 1 := ⟨⟨by decide +kernel, by decide +kernel⟩, by decide +kernel, by decide +kernel⟩
theorem dh_cw_87 : jg_cw dh_M dh_nl dh_W 87 := Or.inl ⟨rfl, dh_m2 (i := 84) rfl rfl⟩
theorem dh_ok_87 : jk_ok dh_M 87 0 := ⟨⟨by decide +kernel, by decide +kernel⟩, by decide +kernel, by decide +kernel⟩
theorem dh_cw_88 : jg_cw dh_M dh_nl dh_W 88 := Or.inl ⟨rfl, dh_m1 (i := 51) rfl rfl⟩
theorem dh_ok_88 : jk_ok dh_M 88 0 := ⟨⟨by decide +kernel, by decide +kernel⟩, by decide +kernel, by decide +kernel⟩
theorem dh_cw_89 : jg_cw dh_M dh_nl dh_W 89 := Or.inl ⟨rfl, dh_m2 (i := 167) rfl rfl⟩
theorem dh_ok_89 : jk_ok dh_M 89 2 := ⟨⟨by decide +kernel, by decide +kernel⟩, by decide +kernel, by decide +kernel⟩
theorem dh_cw_90 : jg_cw dh_M dh_nl dh_W 90 := Or.inl ⟨rfl, dh_m2 (i := 171) rfl rfl⟩
theorem dh_ok_90 : jk_ok dh_M 90 2 := ⟨⟨by decide +kernel, by decide +kernel⟩, by decide +kernel, by decide +kernel⟩
theorem dh_cw_91 : jg_cw dh_M dh_nl dh_W 91 := Or.inl ⟨rfl, dh_m2 (i := 178) rfl rfl⟩
theorem dh_ok_91 : jk_ok dh_M 91 2 := ⟨⟨by decide +kernel, by decide +kernel⟩, by decide +kernel, by decide +kernel⟩
theorem dh_cw_92 : jg_cw dh_M dh_nl dh_W 92 := Or.inl ⟨rfl, dh_m2 (i := 214) rfl rfl⟩
theorem dh_ok_92 : jk_ok dh_M 92 2 := ⟨⟨by decide +kernel, by decide +kernel⟩, by decide +kernel, by decide +kernel⟩
theorem dh_cw_93 : jg_cw dh_M dh_nl dh_W 93 := Or.inl ⟨rfl, dh_m2 (i := 186) rfl rfl⟩
theorem dh_ok_93 : jk_ok dh_M 93 2 := ⟨⟨by decide +kernel, by decide +kernel⟩, by decide +kernel, by decide +kernel⟩
theorem dh_cw_94 : jg_cw dh_M dh_nl dh_W 94 := Or.inl ⟨rfl, dh_m1 (i := 134) rfl rfl⟩
theorem dh_ok_94 : jk_ok dh_M 94 0 := ⟨⟨by decide +kernel, by decide +kernel⟩, by decide +kernel, by decide +kernel⟩
theorem dh_cw_95 : jg_cw dh_M dh_nl dh_W 95 := Or.inl ⟨rfl, dh_m2 (i := 76) rfl rfl⟩
theorem dh_ok_95 : jk_ok dh_M 95 0 := ⟨⟨by decide +kernel, by decide +kernel⟩, by decide +kernel, by decide +kernel⟩
theorem dh_cw_96 : jg_cw dh_M dh_nl dh_W 96 := Or.inl ⟨rfl, dh_m2 (i := 92) rfl rfl⟩
theorem dh_ok_96 : jk_ok dh_M 96 1 := ⟨⟨by decide +kernel, by decide +kernel⟩, by decide +kernel, by decide +kernel⟩
theorem dh_cw_97 : jg_cw dh_M dh_nl dh_W 97 := Or.inl ⟨rfl, dh_m3 (i := 88) rfl rfl⟩
theorem dh_ok_97 : jk_ok dh_M 97 1 := ⟨⟨by decide +kernel, by decide +kernel⟩, by decide +kernel, by decide +kernel⟩
theorem dh_cw_98 : jg_cw dh_M dh_nl dh_W 98 := Or.inl ⟨rfl, dh_m2 (i := 96) rfl rfl⟩
theorem dh_ok_98 : jk_ok dh_M 98 2 := ⟨⟨by decide +kernel, by decide +kernel⟩, by decide +kernel, by decide +kernel⟩
theorem dh_cw_99 : jg_cw dh_M dh_nl dh_W 99 := Or.inl ⟨rfl, dh_m3 (i := 192) rfl rfl⟩
theorem dh_ok_99 : jk_ok dh_M 99 2 := ⟨⟨by decide +kernel, by decide +kernel⟩, by decide +kernel, by decide +kernel⟩
theorem dh_cw_100 : jg_cw dh_M dh_nl dh_W 100 := Or.inl ⟨rfl, dh_m3 (i := 203) rfl rfl⟩
theorem dh_ok_100 : jk_ok dh_M 100 2 := ⟨⟨by decide +kernel, by decide +kernel⟩, by decide +kernel, by decide +kernel⟩
theorem dh_cw_101 : jg_cw dh_M dh_nl dh_W 101 := Or.inl ⟨rfl, dh_m1 (i := 124) rfl rfl⟩
theorem dh_ok_101 : jk_ok dh_M 101 0 := ⟨⟨by decide +kernel, by decide +kernel⟩, by decide +kernel, by decide +kernel⟩
theorem dh_cw_102 : jg_cw dh_M dh_nl dh_W 102 := Or.inl ⟨rfl, dh_m2 (i := 72) rfl rfl⟩
theorem dh_ok_102 : jk_ok dh_M 102 2 := ⟨⟨by decide +kernel, by decide +kernel⟩, by decide +kernel, by decide +kernel⟩
theorem dh_cw_103 : jg_cw dh_M dh_nl dh_W 103 := Or.inl ⟨rfl, dh_m2 (i := 80) rfl rfl⟩
theorem dh_ok_103 : jk_ok dh_M 103 2 := ⟨⟨by decide +kernel, by decide +kernel⟩, by decide +kernel, by decide +kernel⟩
theorem dh_cw_104 : jg_cw dh_M dh_nl dh_W 104 := Or.inl ⟨rfl, dh_m2 (i := 114) rfl rfl⟩
theorem dh_ok_104 : jk_ok dh_M 104 2 := ⟨⟨by decide +kernel, by decide +kernel⟩, by decide +kernel, by decide +kernel⟩
theorem dh_cw_105 : jg_cw dh_M dh_nl dh_W 105 := Or.inl ⟨rfl, dh_m2 (i := 126) rfl rfl⟩
theorem dh_ok_105 : jk_ok dh_M 105 1 := ⟨⟨by decide +kernel, by decide +kernel⟩, by decide +kernel, by decide +kernel⟩
theorem dh_cw_106 : jg_cw dh_M dh_nl dh_W 106 := Or.inl ⟨rfl, dh_m2 (i := 130) rfl rfl⟩
theorem dh_ok_106 : jk_ok dh_M 106 1 := ⟨⟨by decide +kernel, by decide +kernel⟩, by decide +kernel, by decide +kernel⟩
theorem dh_cw_107 : jg_cw dh_M dh_nl dh_W 107 := Or.inl ⟨rfl, dh_m2 (i := 134) rfl rfl⟩
theorem dh_ok_107 : jk_ok dh_M 107 2 := ⟨⟨by decide +kernel, by decide +kernel⟩, by decide +kernel, by decide +kernel⟩
theorem dh_cw_108 : jg_cw dh_M dh_nl dh_W 108 := Or.inl ⟨rfl, dh_m2 (i := 139) rfl rfl⟩
theorem dh_ok_108 : jk_ok dh_M 108 3 := ⟨⟨by decide +kernel, by decide +kernel⟩, by decide +kernel, by decide +kernel⟩
theorem dh_cw_109 : jg_cw dh_M dh_nl dh_W 109 := Or.inl ⟨rfl, dh_m2 (i := 151) rfl rfl⟩
theorem dh_ok_109 : jk_ok dh_M 109 2 := ⟨⟨by decide +kernel, by decide +kernel⟩, by decide +kernel, by decide +kernel⟩
theorem dh_cw_110 : jg_cw dh_M dh_nl dh_W 110 := Or.inl ⟨rfl, dh_m2 (i := 143) rfl rfl⟩
theorem dh_ok_110 : jk_ok dh_M 110 3 := ⟨⟨by decide +kernel, by decide +kernel⟩, by decide +kernel, by decide +kernel⟩
theorem dh_cw_111 : jg_cw dh_M dh_nl dh_W 111 := Or.inl ⟨rfl, dh_m1 (i := 141) rfl rfl⟩
theorem dh_ok_111 : jk_ok dh_M 111 0 := ⟨⟨by decide +kernel, by decide +kernel⟩, by decide +kernel, by decide +kernel⟩
theorem dh_cw_112 : jg_cw dh_M dh_nl dh_W 112 := Or.inl ⟨rfl, dh_m3 (i := 92) rfl rfl⟩
theorem dh_ok_112 : jk_ok dh_M 112 1 := ⟨⟨by decide +kernel, by decide +kernel⟩, by decide +kernel, by decide +kernel⟩
theorem dh_cw_113 : jg_cw dh_M dh_nl dh_W 113 := Or.inl ⟨rfl, dh_m2 (i := 100) rfl rfl⟩
theorem dh_ok_113 : jk_ok dh_M 113 2 := ⟨⟨by decide +kernel, by decide +kernel⟩, by decide +kernel, by decide +kernel⟩
theorem dh_cw_114 : jg_cw dh_M dh_nl dh_W 114 := Or.inl ⟨rfl, dh_m2 (i := 106) rfl rfl⟩
theorem dh_ok_114 : jk_ok dh_M 114 1 := ⟨⟨by decide +kernel, by decide +kernel⟩, by decide +kernel, by decide +kernel⟩
theorem dh_cw_115 : jg_cw dh_M dh_nl dh_W 115 := Or.inl ⟨rfl, dh_m2 (i := 110) rfl rfl⟩
theorem dh_ok_115 : jk_ok dh_M 115 1 := ⟨⟨by decide +kernel, by decide +kernel⟩, by decide +kernel, by decide +kernel⟩
theorem dh_cw_116 : jg_cw dh_M dh_nl dh_W 116 := Or.inl ⟨rfl, dh_m2 (i := 122) rfl rfl⟩
theorem dh_ok_116 : jk_ok dh_M 116 0 := ⟨⟨by decide +kernel, by decide +kernel⟩, by decide +kernel, by decide +kernel⟩
theorem dh_cw_117 : jg_cw dh_M dh_nl dh_W 117 := Or.inl ⟨rfl, dh_m2 (i := 118) rfl rfl⟩
theorem dh_ok_117 : jk_ok dh_M 117 0 := ⟨⟨by decide +kernel, by decide +kernel⟩, by decide +kernel, by decide +kernel⟩
theorem dh_cw_118 : jg_cw dh_M dh_nl dh_W 118 := Or.inl ⟨rfl, dh_m1 (i := 31) rfl rfl⟩
theorem dh_ok_118 : jk_ok dh_M 118 0 := ⟨⟨by decide +kernel, by decide +kernel⟩, by decide +kernel, by decide +kernel⟩
theorem dh_cw_119 : jg_cw dh_M dh_nl dh_W 119 := Or.inl ⟨rfl, dh_m2 (i := 17) rfl rfl⟩
theorem dh_ok_119 : jk_ok dh_M 119 0 := ⟨⟨by decide +kernel, by decide +kernel⟩, by decide +kernel, by decide +kernel⟩
theorem dh_cw_120 : jg_cw dh_M dh_nl dh_W 120 := Or.inl ⟨rfl, dh_m2 (i := 29) rfl rfl⟩
theorem dh_ok_120 : jk_ok dh_M 120 1 := ⟨⟨by decide +kernel, by decide +kernel⟩, by decide +kernel, by decide +kernel⟩
theorem dh_cw_121 : jg_cw dh_M dh_nl dh_W 121 := Or.inl ⟨rfl, dh_m2 (i := 60) rfl rfl⟩
theorem dh_ok_121 : jk_ok dh_M 121 1 := ⟨⟨by decide +kernel, by decide +kernel⟩, by decide +kernel, by decide +kernel⟩
theorem dh_cw_122 : jg_cw dh_M dh_nl dh_W 122 := Or.inl ⟨rfl, dh_m2 (i := 25) rfl rfl⟩
theorem dh_ok_122 : jk_ok dh_M 122 1 := ⟨⟨by decide +kernel, by decide +kernel⟩, by decide +kernel, by decide +kernel⟩
theorem dh_cw_123 : jg_cw dh_M dh_nl dh_W 123 := Or.inl ⟨rfl, dh_m2 (i := 40) rfl rfl⟩
theorem dh_ok_123 : jk_ok dh_M 123 2 := ⟨⟨by decide +kernel, by decide +kernel⟩, by decide +kernel, by decide +kernel⟩
theorem dh_cw_124 : jg_cw dh_M dh_nl dh_W 124 := Or.inl ⟨rfl, dh_m2 (i := 48) rfl rfl⟩
theorem dh_ok_124 : jk_ok dh_M 124 1 := ⟨⟨by decide +kernel, by decide +kernel⟩, by decide +kernel, by decide +kernel⟩
theorem dh_cw_125 : jg_cw dh_M dh_nl dh_W 125 := Or.inl ⟨rfl, dh_m2 (i := 21) rfl rfl⟩
theorem dh_ok_125 : jk_ok dh_M 125 1 := ⟨⟨by decide +kernel, by decide +kernel⟩, by decide +kernel, by decide +kernel⟩
theorem dh_cw_126 : jg_cw dh_M dh_nl dh_W 126 := Or.inl ⟨rfl, dh_m2 (i := 147) rfl rfl⟩
theorem dh_ok_126 : jk_ok dh_M 126 3 := ⟨⟨by decide +kernel, by decide +kernel⟩, by decide +kernel, by decide +kernel⟩
theorem dh_cw_127 : jg_cw dh_M dh_nl dh_W 127 := Or.inl ⟨rfl, dh_m1 (i := 112) rfl rfl⟩
theorem dh_ok_127 : jk_ok dh_M 127 0 := ⟨⟨by decide +kernel, by decide +kernel⟩, by decide +kernel, by decide +kernel⟩
theorem dh_cw_128 : jg_cw dh_M dh_nl dh_W 128 := Or.inl ⟨rfl, dh_m2 (i := 156) rfl rfl⟩
theorem dh_ok_128 : jk_ok dh_M 128 2 := ⟨⟨by decide +kernel, by decide +kernel⟩, by decide +kernel, by decide +kernel⟩
theorem dh_cw_129 : jg_cw dh_M dh_nl dh_W 129 := Or.inl ⟨rfl, dh_m2 (i := 190) rfl rfl⟩
theorem dh_ok_129 : jk_ok dh_M 129 2 := ⟨⟨by decide +kernel, by decide +kernel⟩, by decide +kernel, by decide +kernel⟩
theorem dh_cw_130 : jg_cw dh_M dh_nl dh_W 130 := Or.inl ⟨rfl, dh_m2 (i := 182) rfl rfl⟩
theorem dh_ok_130 : jk_ok dh_M 130 1 := ⟨⟨by decide +kernel, by decide +kernel⟩, by decide +kernel, by decide +kernel⟩
theorem dh_cw_131 : jg_cw dh_M dh_nl dh_W 131 := Or.inr (dh_m2 (i := 227) rfl rfl)
theorem dh_ok_131 : jk_ok dh_M 131 4 := ⟨⟨by decide +kernel, by decide +kernel⟩, by decide +kernel, by decide +kernel⟩
theorem dh_cw_132 : jg_cw dh_M dh_nl dh_W 132 := Or.inr (dh_m3 (i := 107) rfl rfl)
theorem dh_ok_132 : jk_ok dh_M 132 4 := ⟨⟨by decide +kernel, by decide +kernel⟩, by decide +kernel, by decide +kernel⟩
theorem dh_cw_133 : jg_cw dh_M dh_nl dh_W 133 := Or.inr (dh_m3 (i := 118) rfl rfl)
theorem dh_ok_133 : jk_ok dh_M 133 4 := ⟨⟨by decide +kernel, by decide +kernel⟩, by decide +kernel, by decide +kernel⟩
theorem dh_cw_134 : jg_cw dh_M dh_nl dh_W 134 := Or.inr (dh_m3 (i := 146) rfl rfl)
theorem dh_ok_134 : jk_ok dh_M 134 3 := ⟨⟨by decide +kernel, by decide +kernel⟩, by decide +kernel, by decide +kernel⟩
theorem dh_cw_135 : jg_cw dh_M dh_nl dh_W 135 := Or.inr (dh_m3 (i := 153) rfl rfl)
theorem dh_ok_135 : jk_ok dh_M 135 3 := ⟨⟨by decide +kernel, by decide +kernel⟩, by decide +kernel, by decide +kernel⟩
theorem dh_cw_136 : jg_cw dh_M dh_nl dh_W 136 := Or.inr (dh_m3 (i := 177) rfl rfl)
theorem dh_ok_136 : jk_ok dh_M 136 4 := ⟨⟨by decide +kernel, by decide +kernel⟩, by decide +kernel, by decide +kernel⟩
theorem dh_cw_137 : jg_cw dh_M dh_nl dh_W 137 := Or.inr (dh_m3 (i := 184) rfl rfl)
theorem dh_ok_137 : jk_ok dh_M 137 4 := ⟨⟨by decide +kernel, by decide +kernel⟩, by decide +kernel, by decide +kernel⟩
theorem dh_cw_138 : jg_cw dh_M dh_nl dh_W 138 := Or.inr (dh_m3 (i := 195) rfl rfl)
theorem dh_ok_138 : jk_ok dh_M 138 4 := ⟨⟨by decide +kernel, by decide +kernel⟩, by decide +kernel, by decide +kernel⟩
theorem dh_cw_139 : jg_cw dh_M dh_nl dh_W 139 := Or.inr (dh_m3 (i := 206) rfl rfl)
theorem dh_ok_139 : jk_ok dh_M 139 3 := ⟨⟨by decide +kernel, by decide +kernel⟩, by decide +kernel, by decide +kernel⟩
theorem dh_xs {L : List Cond} (h : L.all (fun a => (decide (a ∈ lw_tbl) && jm_goodW a) || decide (a ∈ jx_st)) = true) : ∀ a ∈ L, a ∈ dh_W ∨ a ∈ jx_st := fun a ha => by
  have h1 := List.all_eq_true.mp h a ha
  simp only [Bool.or_eq_true, Bool.and_eq_true, decide_eq_true_eq] at h1
  exact h1.imp (fun z => List.mem_filter.mpr z) id
theorem dh_e_0 : jm_kok dh_cn dh_J dh_W dh_M dh_nl dh_rc (1, 1, 9, 0, 0) := jk_9 (dh_m1 (i := 24) rfl rfl) (dh_m1 (i := 25) rfl rfl) (dh_m1 (i := 26) rfl rfl)
theorem dh_e_1 : jm_kok dh_cn dh_J dh_W dh_M dh_nl dh_rc (1, 7, 5, 8, 2) := jk_5 ("DeltaHistory$Text", dh_T8, 2) (by decide) rfl rfl (dh_m1 (i := 27) rfl rfl) (dh_m1 (i := 28) rfl rfl) (dh_m1 (i := 2) rfl rfl) (by decide +kernel)
theorem dh_e_2 : jm_kok dh_cn dh_J dh_W dh_M dh_nl dh_rc (1, 9, 4, 118, 1) := jk_4 (y := 0) (by decide) rfl (dh_m1 (i := 31) rfl rfl) dh_cw_118 (dh_m1 (i := 29) rfl rfl) (dh_m1 (i := 30) rfl rfl) dh_ok_118
theorem dh_e_3 : jm_kok dh_cn dh_J dh_W dh_M dh_nl dh_rc (1, 10, 1, 1, 0) := jk_1 ("DeltaHistory", dh_T1, 12) (by decide) rfl (by decide) rfl (dh_m1 (i := 213) rfl rfl)
theorem dh_e_4 : jm_kok dh_cn dh_J dh_W dh_M dh_nl dh_rc (1, 16, 1, 1, 1) := jk_1 ("DeltaHistory", dh_T1, 12) (by decide) rfl (by decide) rfl (dh_m1 (i := 214) rfl rfl)
theorem dh_e_5 : jm_kok dh_cn dh_J dh_W dh_M dh_nl dh_rc (1, 19, 1, 1, 2) := jk_1 ("DeltaHistory", dh_T1, 12) (by decide) rfl (by decide) rfl (dh_m1 (i := 215) rfl rfl)
theorem dh_e_6 : jm_kok dh_cn dh_J dh_W dh_M dh_nl dh_rc (1, 22, 5, 4, 9) := jk_5 ("DeltaHistory$Delta", dh_T4, 9) (by decide) rfl rfl (dh_m1 (i := 47) rfl rfl) (dh_m1 (i := 48) rfl rfl) (dh_m1 (i := 3) rfl rfl) (by decide +kernel)
theorem dh_e_7 : jm_kok dh_cn dh_J dh_W dh_M dh_nl dh_rc (1, 24, 4, 88, 1) := jk_4 (y := 0) (by decide) rfl (dh_m1 (i := 51) rfl rfl) dh_cw_88 (dh_m1 (i := 49) rfl rfl) (dh_m1 (i := 50) rfl rfl) dh_ok_88
theorem dh_e_8 : jm_kok dh_cn dh_J dh_W dh_M dh_nl dh_rc (1, 25, 1, 1, 3) := jk_1 ("DeltaHistory", dh_T1, 12) (by decide) rfl (by decide) rfl (dh_m1 (i := 216) rfl rfl)
theorem dh_e_9 : jm_kok dh_cn dh_J dh_W dh_M dh_nl dh_rc (1, 29, 5, 3, 3) := jk_5 ("DeltaHistory$Bytes", dh_T3, 3) (by decide) rfl rfl (dh_m1 (i := 88) rfl rfl) (dh_m1 (i := 89) rfl rfl) (dh_m1 (i := 4) rfl rfl) (by decide +kernel)
theorem dh_e_10 : jm_kok dh_cn dh_J dh_W dh_M dh_nl dh_rc (1, 31, 4, 79, 1) := jk_4 (y := 0) (by decide) rfl (dh_m1 (i := 92) rfl rfl) dh_cw_79 (dh_m1 (i := 90) rfl rfl) (dh_m1 (i := 91) rfl rfl) dh_ok_79
theorem dh_e_11 : jm_kok dh_cn dh_J dh_W dh_M dh_nl dh_rc (1, 32, 1, 1, 4) := jk_1 ("DeltaHistory", dh_T1, 12) (by decide) rfl (by decide) rfl (dh_m1 (i := 217) rfl rfl)
theorem dh_e_12 : jm_kok dh_cn dh_J dh_W dh_M dh_nl dh_rc (1, 36, 1, 1, 5) := jk_1 ("DeltaHistory", dh_T1, 12) (by decide) rfl (by decide) rfl (dh_m1 (i := 218) rfl rfl)
theorem dh_e_13 : jm_kok dh_cn dh_J dh_W dh_M dh_nl dh_rc (1, 39, 1, 1, 6) := jk_1 ("DeltaHistory", dh_T1, 12) (by decide) rfl (by decide) rfl (dh_m1 (i := 219) rfl rfl)
theorem dh_e_14 : jm_kok dh_cn dh_J dh_W dh_M dh_nl dh_rc (1, 42, 5, 9, 1) := jk_5 ("DeltaHistory$Writer", dh_T9, 1) (by decide) rfl rfl (dh_m1 (i := 108) rfl rfl) (dh_m1 (i := 109) rfl rfl) (dh_m1 (i := 5) rfl rfl) (by decide +kernel)
theorem dh_e_15 : jm_kok dh_cn dh_J dh_W dh_M dh_nl dh_rc (1, 44, 4, 127, 1) := jk_4 (y := 0) (by decide) rfl (dh_m1 (i := 112) rfl rfl) dh_cw_127 (dh_m1 (i := 110) rfl rfl) (dh_m1 (i := 111) rfl rfl) dh_ok_127
theorem dh_e_16 : jm_kok dh_cn dh_J dh_W dh_M dh_nl dh_rc (1, 45, 1, 1, 7) := jk_1 ("DeltaHistory", dh_T1, 12) (by decide) rfl (by decide) rfl (dh_m1 (i := 220) rfl rfl)
theorem dh_e_17 : jm_kok dh_cn dh_J dh_W dh_M dh_nl dh_rc (1, 49, 5, 6, 1) := jk_5 ("DeltaHistory$Reader", dh_T6, 1) (by decide) rfl rfl (dh_m1 (i := 120) rfl rfl) (dh_m1 (i := 121) rfl rfl) (dh_m1 (i := 6) rfl rfl) (by decide +kernel)
theorem dh_e_18 : jm_kok dh_cn dh_J dh_W dh_M dh_nl dh_rc (1, 51, 4, 101, 1) := jk_4 (y := 0) (by decide) rfl (dh_m1 (i := 124) rfl rfl) dh_cw_101 (dh_m1 (i := 122) rfl rfl) (dh_m1 (i := 123) rfl rfl) dh_ok_101
theorem dh_e_19 : jm_kok dh_cn dh_J dh_W dh_M dh_nl dh_rc (1, 52, 1, 1, 8) := jk_1 ("DeltaHistory", dh_T1, 12) (by decide) rfl (by decide) rfl (dh_m1 (i := 221) rfl rfl)
theorem dh_e_20 : jm_kok dh_cn dh_J dh_W dh_M dh_nl dh_rc (1, 56, 5, 5, 2) := jk_5 ("DeltaHistory$History", dh_T5, 2) (by decide) rfl rfl (dh_m1 (i := 130) rfl rfl) (dh_m1 (i := 131) rfl rfl) (dh_m1 (i := 7) rfl rfl) (by decide +kernel)
theorem dh_e_21 : jm_kok dh_cn dh_J dh_W dh_M dh_nl dh_rc (1, 58, 4, 94, 1) := jk_4 (y := 0) (by decide) rfl (dh_m1 (i := 134) rfl rfl) dh_cw_94 (dh_m1 (i := 132) rfl rfl) (dh_m1 (i := 133) rfl rfl) dh_ok_94
theorem dh_e_22 : jm_kok dh_cn dh_J dh_W dh_M dh_nl dh_rc (1, 59, 1, 1, 9) := jk_1 ("DeltaHistory", dh_T1, 12) (by decide) rfl (by decide) rfl (dh_m1 (i := 222) rfl rfl)
theorem dh_e_23 : jm_kok dh_cn dh_J dh_W dh_M dh_nl dh_rc (1, 63, 1, 1, 10) := jk_1 ("DeltaHistory", dh_T1, 12) (by decide) rfl (by decide) rfl (dh_m1 (i := 223) rfl rfl)
theorem dh_e_24 : jm_kok dh_cn dh_J dh_W dh_M dh_nl dh_rc (1, 66, 2, 81, 2) := jk_2 (y := 1) ("DeltaHistory$Bytes", dh_T3, 3) (by decide) rfl rfl (dh_m1 (i := 211) rfl rfl) dh_cw_81 (dh_m1 (i := 209) rfl rfl) (dh_m1 (i := 210) rfl rfl) dh_ok_81
theorem dh_e_25 : jm_kok dh_cn dh_J dh_W dh_M dh_nl dh_rc (1, 70, 1, 1, 11) := jk_1 ("DeltaHistory", dh_T1, 12) (by decide) rfl (by decide) rfl (dh_m1 (i := 224) rfl rfl)
theorem dh_e_26 : jm_kok dh_cn dh_J dh_W dh_M dh_nl dh_rc (1, 74, 2, 119, 1) := jk_2 (y := 0) ("DeltaHistory$Text", dh_T8, 2) (by decide) rfl rfl (dh_m2 (i := 16) rfl rfl) dh_cw_119 (dh_m2 (i := 14) rfl rfl) (dh_m2 (i := 15) rfl rfl) dh_ok_119
theorem dh_e_27 : jm_kok dh_cn dh_J dh_W dh_M dh_nl dh_rc (1, 77, 2, 125, 2) := jk_2 (y := 1) ("DeltaHistory$Text", dh_T8, 2) (by decide) rfl rfl (dh_m2 (i := 20) rfl rfl) dh_cw_125 (dh_m2 (i := 18) rfl rfl) (dh_m2 (i := 19) rfl rfl) dh_ok_125
theorem dh_e_28 : jm_kok dh_cn dh_J dh_W dh_M dh_nl dh_rc (1, 81, 2, 120, 2) := jk_2 (y := 1) ("DeltaHistory$Text", dh_T8, 2) (by decide) rfl rfl (dh_m2 (i := 28) rfl rfl) dh_cw_120 (dh_m2 (i := 26) rfl rfl) (dh_m2 (i := 27) rfl rfl) dh_ok_120
theorem dh_e_29 : jm_kok dh_cn dh_J dh_W dh_M dh_nl dh_rc (1, 85, 2, 123, 3) := jk_2 (y := 2) ("DeltaHistory$Text", dh_T8, 2) (by decide) rfl rfl (dh_m2 (i := 39) rfl rfl) dh_cw_123 (dh_m2 (i := 37) rfl rfl) (dh_m2 (i := 38) rfl rfl) dh_ok_123
theorem dh_e_30 : jm_kok dh_cn dh_J dh_W dh_M dh_nl dh_rc (1, 89, 2, 124, 2) := jk_2 (y := 1) ("DeltaHistory$Text", dh_T8, 2) (by decide) rfl rfl (dh_m2 (i := 47) rfl rfl) dh_cw_124 (dh_m2 (i := 45) rfl rfl) (dh_m2 (i := 46) rfl rfl) dh_ok_124
theorem dh_e_31 : jm_kok dh_cn dh_J dh_W dh_M dh_nl dh_rc (1, 93, 1, 8, 1) := jk_1 ("DeltaHistory$Text", dh_T8, 2) (by decide) rfl (by decide) rfl (dh_m1 (i := 39) rfl rfl)
theorem dh_e_32 : jm_kok dh_cn dh_J dh_W dh_M dh_nl dh_rc (1, 96, 2, 121, 2) := jk_2 (y := 1) ("DeltaHistory$Text", dh_T8, 2) (by decide) rfl rfl (dh_m2 (i := 59) rfl rfl) dh_cw_121 (dh_m2 (i := 57) rfl rfl) (dh_m2 (i := 58) rfl rfl) dh_ok_121
theorem dh_e_33 : jm_kok dh_cn dh_J dh_W dh_M dh_nl dh_rc (1, 99, 3, 21, 1) := jk_3 rfl dh_cw_21 (dh_m2 (i := 234) rfl rfl) (dh_m2 (i := 235) rfl rfl) (dh_m1 (i := 1) rfl rfl) dh_ok_21
theorem dh_e_34 : jm_kok dh_cn dh_J dh_W dh_M dh_nl dh_rc (1, 102, 2, 22, 2) := jk_2 (y := 1) ("DeltaHistory", dh_T1, 12) (by decide) rfl rfl (dh_m0 (i := 14) rfl rfl) dh_cw_22 (dh_m3 (i := 61) rfl rfl) (dh_m3 (i := 63) rfl rfl) dh_ok_22
theorem dh_e_35 : jm_kok dh_cn dh_J dh_W dh_M dh_nl dh_rc (1, 105, 1, 5, 0) := jk_1 ("DeltaHistory$History", dh_T5, 2) (by decide) rfl (by decide) rfl (dh_m1 (i := 199) rfl rfl)
theorem dh_e_36 : jm_kok dh_cn dh_J dh_W dh_M dh_nl dh_rc (1, 109, 1, 7, 3) := jk_1 ("DeltaHistory$Revision", dh_T7, 10) (by decide) rfl (by decide) rfl (dh_m1 (i := 159) rfl rfl)
theorem dh_e_37 : jm_kok dh_cn dh_J dh_W dh_M dh_nl dh_rc (1, 114, 7, 202, 0) := jk_7 "java/lang/IllegalStateException" rfl (by decide) (by decide) (dh_m3 (i := 66) rfl rfl) (dh_m3 (i := 67) rfl rfl) (dh_m1 (i := 15) rfl rfl)
set_option maxRecDepth 100000 in
theorem dh_x_38 : (Bundle.ownAtoms0 "DeltaHistory" 116 "java/lang/IllegalStateException" jm_up2).all (fun a => (decide (a ∈ lw_tbl) && jm_goodW a) || decide (a ∈ jx_st)) = true := by decide +kernel
theorem dh_e_38 : jm_kok dh_cn dh_J dh_W dh_M dh_nl dh_rc (1, 116, 8, 202, 0) := jk_8 "java/lang/IllegalStateException" rfl (by decide) (by decide) (by decide +kernel) (dh_xs dh_x_38)
theorem dh_e_39 : jm_kok dh_cn dh_J dh_W dh_M dh_nl dh_rc (1, 117, 2, 24, 3) := jk_2 (y := 2) ("DeltaHistory", dh_T1, 12) (by decide) rfl rfl (dh_m0 (i := 15) rfl rfl) dh_cw_24 (dh_m3 (i := 81) rfl rfl) (dh_m3 (i := 83) rfl rfl) dh_ok_24
theorem dh_e_40 : jm_kok dh_cn dh_J dh_W dh_M dh_nl dh_rc (1, 121, 2, 23, 3) := jk_2 (y := 2) ("DeltaHistory", dh_T1, 12) (by decide) rfl rfl (dh_m0 (i := 17) rfl rfl) dh_cw_23 (dh_m3 (i := 112) rfl rfl) (dh_m3 (i := 114) rfl rfl) dh_ok_23
theorem dh_e_41 : jm_kok dh_cn dh_J dh_W dh_M dh_nl dh_rc (1, 125, 1, 5, 1) := jk_1 ("DeltaHistory$History", dh_T5, 2) (by decide) rfl (by decide) rfl (dh_m1 (i := 203) rfl rfl)
theorem dh_e_42 : jm_kok dh_cn dh_J dh_W dh_M dh_nl dh_rc (1, 126, 7, 204, 0) := jk_7 "java/lang/UnsupportedOperationException" rfl (by decide) (by decide) (dh_m3 (i := 124) rfl rfl) (dh_m3 (i := 125) rfl rfl) (dh_m1 (i := 17) rfl rfl)
set_option maxRecDepth 100000 in
theorem dh_x_43 : (Bundle.ownAtoms0 "DeltaHistory" 128 "java/lang/UnsupportedOperationException" jm_up2).all (fun a => (decide (a ∈ lw_tbl) && jm_goodW a) || decide (a ∈ jx_st)) = true := by decide +kernel
theorem dh_e_43 : jm_kok dh_cn dh_J dh_W dh_M dh_nl dh_rc (1, 128, 8, 204, 0) := jk_8 "java/lang/UnsupportedOperationException" rfl (by decide) (by decide) (by decide +kernel) (dh_xs dh_x_43)
theorem dh_e_44 : jm_kok dh_cn dh_J dh_W dh_M dh_nl dh_rc (1, 129, 2, 97, 2) := jk_2 (y := 1) ("DeltaHistory$History", dh_T5, 2) (by decide) rfl rfl (dh_m3 (i := 87) rfl rfl) dh_cw_97 (dh_m3 (i := 85) rfl rfl) (dh_m3 (i := 86) rfl rfl) dh_ok_97
theorem dh_e_45 : jm_kok dh_cn dh_J dh_W dh_M dh_nl dh_rc (1, 132, 2, 98, 3) := jk_2 (y := 2) ("DeltaHistory$History", dh_T5, 2) (by decide) rfl rfl (dh_m2 (i := 95) rfl rfl) dh_cw_98 (dh_m3 (i := 139) rfl rfl) (dh_m2 (i := 94) rfl rfl) dh_ok_98
theorem dh_e_46 : jm_kok dh_cn dh_J dh_W dh_M dh_nl dh_rc (1, 135, 1, 7, 0) := jk_1 ("DeltaHistory$Revision", dh_T7, 10) (by decide) rfl (by decide) rfl (dh_m1 (i := 148) rfl rfl)
theorem dh_e_47 : jm_kok dh_cn dh_J dh_W dh_M dh_nl dh_rc (1, 138, 2, 128, 3) := jk_2 (y := 2) ("DeltaHistory$Writer", dh_T9, 1) (by decide) rfl rfl (dh_m2 (i := 155) rfl rfl) dh_cw_128 (dh_m2 (i := 153) rfl rfl) (dh_m2 (i := 154) rfl rfl) dh_ok_128
theorem dh_e_48 : jm_kok dh_cn dh_J dh_W dh_M dh_nl dh_rc (1, 142, 2, 82, 1) := jk_2 (y := 0) ("DeltaHistory$Bytes", dh_T3, 3) (by decide) rfl rfl (dh_m3 (i := 142) rfl rfl) dh_cw_82 (dh_m3 (i := 140) rfl rfl) (dh_m3 (i := 141) rfl rfl) dh_ok_82
theorem dh_e_49 : jm_kok dh_cn dh_J dh_W dh_M dh_nl dh_rc (1, 146, 2, 25, 2) := jk_2 (y := 1) ("DeltaHistory", dh_T1, 12) (by decide) rfl rfl (dh_m0 (i := 16) rfl rfl) dh_cw_25 (dh_m3 (i := 94) rfl rfl) (dh_m3 (i := 96) rfl rfl) dh_ok_25
theorem dh_e_50 : jm_kok dh_cn dh_J dh_W dh_M dh_nl dh_rc (1, 149, 2, 83, 2) := jk_2 (y := 1) ("DeltaHistory$Bytes", dh_T3, 3) (by decide) rfl rfl (dh_m2 (i := 87) rfl rfl) dh_cw_83 (dh_m3 (i := 159) rfl rfl) (dh_m2 (i := 86) rfl rfl) dh_ok_83
theorem dh_e_51 : jm_kok dh_cn dh_J dh_W dh_M dh_nl dh_rc (1, 152, 7, 200, 0) := jk_7 "java/lang/IndexOutOfBoundsException" rfl (by decide) (by decide) (dh_m2 (i := 237) rfl rfl) (dh_m2 (i := 238) rfl rfl) (dh_m1 (i := 14) rfl rfl)
set_option maxRecDepth 100000 in
theorem dh_x_52 : (Bundle.ownAtoms0 "DeltaHistory" 154 "java/lang/IndexOutOfBoundsException" jm_up2).all (fun a => (decide (a ∈ lw_tbl) && jm_goodW a) || decide (a ∈ jx_st)) = true := by decide +kernel
theorem dh_e_52 : jm_kok dh_cn dh_J dh_W dh_M dh_nl dh_rc (1, 154, 8, 200, 0) := jk_8 "java/lang/IndexOutOfBoundsException" rfl (by decide) (by decide) (by decide +kernel) (dh_xs dh_x_52)
theorem dh_e_53 : jm_kok dh_cn dh_J dh_W dh_M dh_nl dh_rc (1, 155, 7, 206, 0) := jk_7 "java/lang/IllegalArgumentException" rfl (by decide) (by decide) (dh_m3 (i := 160) rfl rfl) (dh_m3 (i := 161) rfl rfl) (dh_m1 (i := 18) rfl rfl)
set_option maxRecDepth 100000 in
theorem dh_x_54 : (Bundle.ownAtoms0 "DeltaHistory" 157 "java/lang/IllegalArgumentException" jm_up2).all (fun a => (decide (a ∈ lw_tbl) && jm_goodW a) || decide (a ∈ jx_st)) = true := by decide +kernel
theorem dh_e_54 : jm_kok dh_cn dh_J dh_W dh_M dh_nl dh_rc (1, 157, 8, 206, 0) := jk_8 "java/lang/IllegalArgumentException" rfl (by decide) (by decide) (by decide +kernel) (dh_xs dh_x_54)
theorem dh_e_55 : jm_kok dh_cn dh_J dh_W dh_M dh_nl dh_rc (1, 158, 1, 3, 0) := jk_1 ("DeltaHistory$Bytes", dh_T3, 3) (by decide) rfl (by decide) rfl (dh_m1 (i := 95) rfl rfl)
theorem dh_e_56 : jm_kok dh_cn dh_J dh_W dh_M dh_nl dh_rc (1, 162, 2, 102, 3) := jk_2 (y := 2) ("DeltaHistory$Reader", dh_T6, 1) (by decide) rfl rfl (dh_m2 (i := 71) rfl rfl) dh_cw_102 (dh_m2 (i := 69) rfl rfl) (dh_m2 (i := 70) rfl rfl) dh_ok_102
theorem dh_e_57 : jm_kok dh_cn dh_J dh_W dh_M dh_nl dh_rc (1, 166, 2, 86, 2) := jk_2 (y := 1) ("DeltaHistory$Bytes", dh_T3, 3) (by decide) rfl rfl (dh_m2 (i := 193) rfl rfl) dh_cw_86 (dh_m2 (i := 191) rfl rfl) (dh_m2 (i := 192) rfl rfl) dh_ok_86
theorem dh_e_58 : jm_kok dh_cn dh_J dh_W dh_M dh_nl dh_rc (1, 170, 2, 26, 1) := jk_2 (y := 0) ("DeltaHistory", dh_T1, 12) (by decide) rfl rfl (dh_m0 (i := 12) rfl rfl) dh_cw_26 (dh_m2 (i := 199) rfl rfl) (dh_m2 (i := 201) rfl rfl) dh_ok_26
theorem dh_e_59 : jm_kok dh_cn dh_J dh_W dh_M dh_nl dh_rc (1, 173, 1, 7, 1) := jk_1 ("DeltaHistory$Revision", dh_T7, 10) (by decide) rfl (by decide) rfl (dh_m1 (i := 152) rfl rfl)
theorem dh_e_60 : jm_kok dh_cn dh_J dh_W dh_M dh_nl dh_rc (1, 176, 1, 7, 2) := jk_1 ("DeltaHistory$Revision", dh_T7, 10) (by decide) rfl (by decide) rfl (dh_m1 (i := 155) rfl rfl)
theorem dh_e_61 : jm_kok dh_cn dh_J dh_W dh_M dh_nl dh_rc (1, 179, 1, 7, 9) := jk_1 ("DeltaHistory$Revision", dh_T7, 10) (by decide) rfl (by decide) rfl (dh_m1 (i := 174) rfl rfl)
theorem dh_e_62 : jm_kok dh_cn dh_J dh_W dh_M dh_nl dh_rc (1, 182, 1, 7, 4) := jk_1 ("DeltaHistory$Revision", dh_T7, 10) (by decide) rfl (by decide) rfl (dh_m1 (i := 162) rfl rfl)
theorem dh_e_63 : jm_kok dh_cn dh_J dh_W dh_M dh_nl dh_rc (1, 185, 1, 7, 5) := jk_1 ("DeltaHistory$Revision", dh_T7, 10) (by decide) rfl (by decide) rfl (dh_m1 (i := 165) rfl rfl)
theorem dh_e_64 : jm_kok dh_cn dh_J dh_W dh_M dh_nl dh_rc (1, 188, 2, 99, 3) := jk_2 (y := 2) ("DeltaHistory$History", dh_T5, 2) (by decide) rfl rfl (dh_m3 (i := 191) rfl rfl) dh_cw_99 (dh_m3 (i := 189) rfl rfl) (dh_m3 (i := 190) rfl rfl) dh_ok_99
theorem dh_e_65 : jm_kok dh_cn dh_J dh_W dh_M dh_nl dh_rc (1, 191, 2, 100, 3) := jk_2 (y := 2) ("DeltaHistory$History", dh_T5, 2) (by decide) rfl rfl (dh_m3 (i := 202) rfl rfl) dh_cw_100 (dh_m3 (i := 200) rfl rfl) (dh_m3 (i := 201) rfl rfl) dh_ok_100
theorem dh_e_66 : jm_kok dh_cn dh_J dh_W dh_M dh_nl dh_rc (1, 194, 2, 89, 3) := jk_2 (y := 2) ("DeltaHistory$Delta", dh_T4, 9) (by decide) rfl rfl (dh_m2 (i := 166) rfl rfl) dh_cw_89 (dh_m3 (i := 211) rfl rfl) (dh_m2 (i := 165) rfl rfl) dh_ok_89
theorem dh_e_67 : jm_kok dh_cn dh_J dh_W dh_M dh_nl dh_rc (1, 198, 1, 4, 6) := jk_1 ("DeltaHistory$Delta", dh_T4, 9) (by decide) rfl (by decide) rfl (dh_m1 (i := 66) rfl rfl)
theorem dh_e_68 : jm_kok dh_cn dh_J dh_W dh_M dh_nl dh_rc (1, 201, 2, 92, 3) := jk_2 (y := 2) ("DeltaHistory$Delta", dh_T4, 9) (by decide) rfl rfl (dh_m2 (i := 213) rfl rfl) dh_cw_92 (dh_m2 (i := 211) rfl rfl) (dh_m2 (i := 212) rfl rfl) dh_ok_92
theorem dh_e_69 : jm_kok dh_cn dh_J dh_W dh_M dh_nl dh_rc (1, 204, 1, 3, 1) := jk_1 ("DeltaHistory$Bytes", dh_T3, 3) (by decide) rfl (by decide) rfl (dh_m1 (i := 98) rfl rfl)
theorem dh_e_70 : jm_kok dh_cn dh_J dh_W dh_M dh_nl dh_rc (1, 205, 2, 84, 2) := jk_2 (y := 1) ("DeltaHistory$Bytes", dh_T3, 3) (by decide) rfl rfl (dh_m2 (i := 197) rfl rfl) dh_cw_84 (dh_m2 (i := 224) rfl rfl) (dh_m2 (i := 196) rfl rfl) dh_ok_84
theorem dh_e_71 : jm_kok dh_cn dh_J dh_W dh_M dh_nl dh_rc (1, 208, 2, 96, 2) := jk_2 (y := 1) ("DeltaHistory$History", dh_T5, 2) (by decide) rfl rfl (dh_m2 (i := 91) rfl rfl) dh_cw_96 (dh_m3 (i := 65) rfl rfl) (dh_m2 (i := 90) rfl rfl) dh_ok_96
theorem dh_e_72 : jm_kok dh_cn dh_J dh_W dh_M dh_nl dh_rc (1, 209, 2, 85, 3) := jk_2 (y := 2) ("DeltaHistory$Bytes", dh_T3, 3) (by decide) rfl rfl (dh_m3 (i := 100) rfl rfl) dh_cw_85 (dh_m3 (i := 98) rfl rfl) (dh_m3 (i := 99) rfl rfl) dh_ok_85
theorem dh_e_73 : jm_kok dh_cn dh_J dh_W dh_M dh_nl dh_rc (1, 213, 2, 80, 1) := jk_2 (y := 0) ("DeltaHistory$Bytes", dh_T3, 3) (by decide) rfl rfl (dh_m2 (i := 159) rfl rfl) dh_cw_80 (dh_m3 (i := 104) rfl rfl) (dh_m2 (i := 158) rfl rfl) dh_ok_80
theorem dh_e_74 : jm_kok dh_cn dh_J dh_W dh_M dh_nl dh_rc (2, 1, 9, 0, 0) := jk_9 (dh_m3 (i := 217) rfl rfl) (dh_m1 (i := 25) rfl rfl) (dh_m1 (i := 26) rfl rfl)
theorem dh_e_75 : jm_kok dh_cn dh_J dh_W dh_M dh_nl dh_rc (2, 7, 1, 2, 2) := jk_1 ("DeltaHistoryModel", dh_T2, 43) (by decide) rfl (by decide) rfl (dh_m3 (i := 220) rfl rfl)
theorem dh_e_76 : jm_kok dh_cn dh_J dh_W dh_M dh_nl dh_rc (2, 13, 1, 2, 3) := jk_1 ("DeltaHistoryModel", dh_T2, 43) (by decide) rfl (by decide) rfl (dh_m3 (i := 221) rfl rfl)
theorem dh_e_77 : jm_kok dh_cn dh_J dh_W dh_M dh_nl dh_rc (2, 16, 1, 2, 4) := jk_1 ("DeltaHistoryModel", dh_T2, 43) (by decide) rfl (by decide) rfl (dh_m3 (i := 222) rfl rfl)
theorem dh_e_78 : jm_kok dh_cn dh_J dh_W dh_M dh_nl dh_rc (2, 19, 1, 2, 5) := jk_1 ("DeltaHistoryModel", dh_T2, 43) (by decide) rfl (by decide) rfl (dh_m3 (i := 223) rfl rfl)
theorem dh_e_79 : jm_kok dh_cn dh_J dh_W dh_M dh_nl dh_rc (2, 22, 1, 2, 6) := jk_1 ("DeltaHistoryModel", dh_T2, 43) (by decide) rfl (by decide) rfl (dh_m3 (i := 224) rfl rfl)
theorem dh_e_80 : jm_kok dh_cn dh_J dh_W dh_M dh_nl dh_rc (2, 25, 1, 2, 7) := jk_1 ("DeltaHistoryModel", dh_T2, 43) (by decide) rfl (by decide) rfl (dh_m3 (i := 225) rfl rfl)
theorem dh_e_81 : jm_kok dh_cn dh_J dh_W dh_M dh_nl dh_rc (2, 28, 1, 2, 8) := jk_1 ("DeltaHistoryModel", dh_T2, 43) (by decide) rfl (by decide) rfl (dh_m3 (i := 226) rfl rfl)
theorem dh_e_82 : jm_kok dh_cn dh_J dh_W dh_M dh_nl dh_rc (2, 31, 1, 2, 9) := jk_1 ("DeltaHistoryModel", dh_T2, 43) (by decide) rfl (by decide) rfl (dh_m3 (i := 227) rfl rfl)
theorem dh_e_83 : jm_kok dh_cn dh_J dh_W dh_M dh_nl dh_rc (2, 34, 1, 2, 11) := jk_1 ("DeltaHistoryModel", dh_T2, 43) (by decide) rfl (by decide) rfl (dh_m3 (i := 229) rfl rfl)
theorem dh_e_84 : jm_kok dh_cn dh_J dh_W dh_M dh_nl dh_rc (2, 38, 1, 2, 12) := jk_1 ("DeltaHistoryModel", dh_T2, 43) (by decide) rfl (by decide) rfl (dh_m3 (i := 230) rfl rfl)
theorem dh_e_85 : jm_kok dh_cn dh_J dh_W dh_M dh_nl dh_rc (2, 41, 1, 2, 14) := jk_1 ("DeltaHistoryModel", dh_T2, 43) (by decide) rfl (by decide) rfl (dh_m3 (i := 232) rfl rfl)
theorem dh_e_86 : jm_kok dh_cn dh_J dh_W dh_M dh_nl dh_rc (2, 44, 1, 2, 15) := jk_1 ("DeltaHistoryModel", dh_T2, 43) (by decide) rfl (by decide) rfl (dh_m3 (i := 233) rfl rfl)
theorem dh_e_87 : jm_kok dh_cn dh_J dh_W dh_M dh_nl dh_rc (2, 47, 1, 2, 17) := jk_1 ("DeltaHistoryModel", dh_T2, 43) (by decide) rfl (by decide) rfl (dh_m3 (i := 235) rfl rfl)
theorem dh_e_88 : jm_kok dh_cn dh_J dh_W dh_M dh_nl dh_rc (2, 50, 1, 2, 19) := jk_1 ("DeltaHistoryModel", dh_T2, 43) (by decide) rfl (by decide) rfl (dh_m3 (i := 237) rfl rfl)
theorem dh_e_89 : jm_kok dh_cn dh_J dh_W dh_M dh_nl dh_rc (2, 53, 1, 2, 20) := jk_1 ("DeltaHistoryModel", dh_T2, 43) (by decide) rfl (by decide) rfl (dh_m3 (i := 238) rfl rfl)
theorem dh_e_90 : jm_kok dh_cn dh_J dh_W dh_M dh_nl dh_rc (2, 56, 1, 2, 22) := jk_1 ("DeltaHistoryModel", dh_T2, 43) (by decide) rfl (by decide) rfl (dh_m4 (i := 0) rfl rfl)
theorem dh_e_91 : jm_kok dh_cn dh_J dh_W dh_M dh_nl dh_rc (2, 59, 1, 2, 23) := jk_1 ("DeltaHistoryModel", dh_T2, 43) (by decide) rfl (by decide) rfl (dh_m4 (i := 1) rfl rfl)
theorem dh_e_92 : jm_kok dh_cn dh_J dh_W dh_M dh_nl dh_rc (2, 62, 1, 2, 24) := jk_1 ("DeltaHistoryModel", dh_T2, 43) (by decide) rfl (by decide) rfl (dh_m4 (i := 2) rfl rfl)
theorem dh_e_93 : jm_kok dh_cn dh_J dh_W dh_M dh_nl dh_rc (2, 65, 1, 2, 25) := jk_1 ("DeltaHistoryModel", dh_T2, 43) (by decide) rfl (by decide) rfl (dh_m4 (i := 3) rfl rfl)
theorem dh_e_94 : jm_kok dh_cn dh_J dh_W dh_M dh_nl dh_rc (2, 68, 1, 2, 27) := jk_1 ("DeltaHistoryModel", dh_T2, 43) (by decide) rfl (by decide) rfl (dh_m4 (i := 5) rfl rfl)
theorem dh_e_95 : jm_kok dh_cn dh_J dh_W dh_M dh_nl dh_rc (2, 71, 1, 2, 28) := jk_1 ("DeltaHistoryModel", dh_T2, 43) (by decide) rfl (by decide) rfl (dh_m4 (i := 6) rfl rfl)
theorem dh_e_96 : jm_kok dh_cn dh_J dh_W dh_M dh_nl dh_rc (2, 74, 1, 2, 29) := jk_1 ("DeltaHistoryModel", dh_T2, 43) (by decide) rfl (by decide) rfl (dh_m4 (i := 7) rfl rfl)
theorem dh_e_97 : jm_kok dh_cn dh_J dh_W dh_M dh_nl dh_rc (2, 77, 1, 2, 30) := jk_1 ("DeltaHistoryModel", dh_T2, 43) (by decide) rfl (by decide) rfl (dh_m4 (i := 8) rfl rfl)
theorem dh_e_98 : jm_kok dh_cn dh_J dh_W dh_M dh_nl dh_rc (2, 80, 1, 2, 31) := jk_1 ("DeltaHistoryModel", dh_T2, 43) (by decide) rfl (by decide) rfl (dh_m4 (i := 9) rfl rfl)
theorem dh_e_99 : jm_kok dh_cn dh_J dh_W dh_M dh_nl dh_rc (2, 83, 1, 2, 33) := jk_1 ("DeltaHistoryModel", dh_T2, 43) (by decide) rfl (by decide) rfl (dh_m4 (i := 11) rfl rfl)
theorem dh_e_100 : jm_kok dh_cn dh_J dh_W dh_M dh_nl dh_rc (2, 86, 1, 2, 34) := jk_1 ("DeltaHistoryModel", dh_T2, 43) (by decide) rfl (by decide) rfl (dh_m4 (i := 12) rfl rfl)
theorem dh_e_101 : jm_kok dh_cn dh_J dh_W dh_M dh_nl dh_rc (2, 89, 1, 2, 38) := jk_1 ("DeltaHistoryModel", dh_T2, 43) (by decide) rfl (by decide) rfl (dh_m4 (i := 16) rfl rfl)
theorem dh_e_102 : jm_kok dh_cn dh_J dh_W dh_M dh_nl dh_rc (2, 92, 1, 2, 39) := jk_1 ("DeltaHistoryModel", dh_T2, 43) (by decide) rfl (by decide) rfl (dh_m4 (i := 17) rfl rfl)
theorem dh_e_103 : jm_kok dh_cn dh_J dh_W dh_M dh_nl dh_rc (2, 95, 1, 2, 40) := jk_1 ("DeltaHistoryModel", dh_T2, 43) (by decide) rfl (by decide) rfl (dh_m4 (i := 18) rfl rfl)
theorem dh_e_104 : jm_kok dh_cn dh_J dh_W dh_M dh_nl dh_rc (2, 98, 1, 2, 41) := jk_1 ("DeltaHistoryModel", dh_T2, 43) (by decide) rfl (by decide) rfl (dh_m4 (i := 19) rfl rfl)
theorem dh_e_105 : jm_kok dh_cn dh_J dh_W dh_M dh_nl dh_rc (2, 101, 1, 2, 42) := jk_1 ("DeltaHistoryModel", dh_T2, 43) (by decide) rfl (by decide) rfl (dh_m4 (i := 20) rfl rfl)
theorem dh_e_106 : jm_kok dh_cn dh_J dh_W dh_M dh_nl dh_rc (2, 104, 1, 2, 0) := jk_1 ("DeltaHistoryModel", dh_T2, 43) (by decide) rfl (by decide) rfl (dh_m3 (i := 218) rfl rfl)
theorem dh_e_107 : jm_kok dh_cn dh_J dh_W dh_M dh_nl dh_rc (2, 107, 3, 30, 4) := jk_3 rfl dh_cw_30 (dh_m4 (i := 116) rfl rfl) (dh_m4 (i := 117) rfl rfl) (dh_m1 (i := 9) rfl rfl) dh_ok_30
theorem dh_e_108 : jm_kok dh_cn dh_J dh_W dh_M dh_nl dh_rc (2, 111, 3, 29, 1) := jk_3 rfl dh_cw_29 (dh_m4 (i := 119) rfl rfl) (dh_m4 (i := 120) rfl rfl) (dh_m1 (i := 9) rfl rfl) dh_ok_29
theorem dh_e_109 : jm_kok dh_cn dh_J dh_W dh_M dh_nl dh_rc (2, 115, 1, 2, 10) := jk_1 ("DeltaHistoryModel", dh_T2, 43) (by decide) rfl (by decide) rfl (dh_m3 (i := 228) rfl rfl)
theorem dh_e_110 : jm_kok dh_cn dh_J dh_W dh_M dh_nl dh_rc (2, 118, 1, 2, 1) := jk_1 ("DeltaHistoryModel", dh_T2, 43) (by decide) rfl (by decide) rfl (dh_m3 (i := 219) rfl rfl)
theorem dh_e_111 : jm_kok dh_cn dh_J dh_W dh_M dh_nl dh_rc (2, 121, 2, 36, 2) := jk_2 (y := 1) ("DeltaHistoryModel", dh_T2, 43) (by decide) rfl rfl (dh_m0 (i := 23) rfl rfl) dh_cw_36 (dh_m4 (i := 165) rfl rfl) (dh_m4 (i := 167) rfl rfl) dh_ok_36
theorem dh_e_112 : jm_kok dh_cn dh_J dh_W dh_M dh_nl dh_rc (2, 125, 2, 39, 2) := jk_2 (y := 1) ("DeltaHistoryModel", dh_T2, 43) (by decide) rfl rfl (dh_m0 (i := 35) rfl rfl) dh_cw_39 (dh_m4 (i := 221) rfl rfl) (dh_m4 (i := 223) rfl rfl) dh_ok_39
theorem dh_e_113 : jm_kok dh_cn dh_J dh_W dh_M dh_nl dh_rc (2, 128, 1, 2, 16) := jk_1 ("DeltaHistoryModel", dh_T2, 43) (by decide) rfl (by decide) rfl (dh_m3 (i := 234) rfl rfl)
theorem dh_e_114 : jm_kok dh_cn dh_J dh_W dh_M dh_nl dh_rc (2, 131, 1, 2, 18) := jk_1 ("DeltaHistoryModel", dh_T2, 43) (by decide) rfl (by decide) rfl (dh_m3 (i := 236) rfl rfl)
theorem dh_e_115 : jm_kok dh_cn dh_J dh_W dh_M dh_nl dh_rc (2, 134, 1, 2, 21) := jk_1 ("DeltaHistoryModel", dh_T2, 43) (by decide) rfl (by decide) rfl (dh_m3 (i := 239) rfl rfl)
theorem dh_e_116 : jm_kok dh_cn dh_J dh_W dh_M dh_nl dh_rc (2, 137, 2, 43, 1) := jk_2 (y := 0) ("DeltaHistoryModel", dh_T2, 43) (by decide) rfl rfl (dh_m0 (i := 28) rfl rfl) dh_cw_43 (dh_m4 (i := 185) rfl rfl) (dh_m4 (i := 187) rfl rfl) dh_ok_43
theorem dh_e_117 : jm_kok dh_cn dh_J dh_W dh_M dh_nl dh_rc (2, 140, 2, 44, 5) := jk_2 (y := 4) ("DeltaHistoryModel", dh_T2, 43) (by decide) rfl rfl (dh_m0 (i := 29) rfl rfl) dh_cw_44 (dh_m4 (i := 189) rfl rfl) (dh_m4 (i := 191) rfl rfl) dh_ok_44
theorem dh_e_118 : jm_kok dh_cn dh_J dh_W dh_M dh_nl dh_rc (2, 144, 1, 2, 32) := jk_1 ("DeltaHistoryModel", dh_T2, 43) (by decide) rfl (by decide) rfl (dh_m4 (i := 10) rfl rfl)
theorem dh_e_119 : jm_kok dh_cn dh_J dh_W dh_M dh_nl dh_rc (2, 147, 2, 46, 2) := jk_2 (y := 1) ("DeltaHistoryModel", dh_T2, 43) (by decide) rfl rfl (dh_m0 (i := 21) rfl rfl) dh_cw_46 (dh_m4 (i := 157) rfl rfl) (dh_m4 (i := 159) rfl rfl) dh_ok_46
theorem dh_e_120 : jm_kok dh_cn dh_J dh_W dh_M dh_nl dh_rc (2, 151, 2, 38, 1) := jk_2 (y := 0) ("DeltaHistoryModel", dh_T2, 43) (by decide) rfl rfl (dh_m0 (i := 22) rfl rfl) dh_cw_38 (dh_m4 (i := 161) rfl rfl) (dh_m4 (i := 163) rfl rfl) dh_ok_38
theorem dh_e_121 : jm_kok dh_cn dh_J dh_W dh_M dh_nl dh_rc (2, 155, 2, 37, 2) := jk_2 (y := 1) ("DeltaHistoryModel", dh_T2, 43) (by decide) rfl rfl (dh_m0 (i := 24) rfl rfl) dh_cw_37 (dh_m4 (i := 169) rfl rfl) (dh_m4 (i := 171) rfl rfl) dh_ok_37
theorem dh_e_122 : jm_kok dh_cn dh_J dh_W dh_M dh_nl dh_rc (2, 158, 2, 41, 2) := jk_2 (y := 1) ("DeltaHistoryModel", dh_T2, 43) (by decide) rfl rfl (dh_m0 (i := 25) rfl rfl) dh_cw_41 (dh_m4 (i := 173) rfl rfl) (dh_m4 (i := 175) rfl rfl) dh_ok_41
theorem dh_e_123 : jm_kok dh_cn dh_J dh_W dh_M dh_nl dh_rc (2, 161, 2, 42, 2) := jk_2 (y := 1) ("DeltaHistoryModel", dh_T2, 43) (by decide) rfl rfl (dh_m0 (i := 26) rfl rfl) dh_cw_42 (dh_m4 (i := 177) rfl rfl) (dh_m4 (i := 179) rfl rfl) dh_ok_42
theorem dh_e_124 : jm_kok dh_cn dh_J dh_W dh_M dh_nl dh_rc (2, 164, 2, 45, 1) := jk_2 (y := 0) ("DeltaHistoryModel", dh_T2, 43) (by decide) rfl rfl (dh_m0 (i := 27) rfl rfl) dh_cw_45 (dh_m4 (i := 181) rfl rfl) (dh_m4 (i := 183) rfl rfl) dh_ok_45
theorem dh_e_125 : jm_kok dh_cn dh_J dh_W dh_M dh_nl dh_rc (2, 167, 2, 47, 1) := jk_2 (y := 0) ("DeltaHistoryModel", dh_T2, 43) (by decide) rfl rfl (dh_m0 (i := 30) rfl rfl) dh_cw_47 (dh_m4 (i := 193) rfl rfl) (dh_m4 (i := 195) rfl rfl) dh_ok_47
theorem dh_e_126 : jm_kok dh_cn dh_J dh_W dh_M dh_nl dh_rc (2, 170, 1, 2, 13) := jk_1 ("DeltaHistoryModel", dh_T2, 43) (by decide) rfl (by decide) rfl (dh_m3 (i := 231) rfl rfl)
theorem dh_e_127 : jm_kok dh_cn dh_J dh_W dh_M dh_nl dh_rc (2, 173, 2, 48, 1) := jk_2 (y := 0) ("DeltaHistoryModel", dh_T2, 43) (by decide) rfl rfl (dh_m0 (i := 20) rfl rfl) dh_cw_48 (dh_m4 (i := 153) rfl rfl) (dh_m4 (i := 155) rfl rfl) dh_ok_48
theorem dh_e_128 : jm_kok dh_cn dh_J dh_W dh_M dh_nl dh_rc (2, 176, 2, 49, 1) := jk_2 (y := 0) ("DeltaHistoryModel", dh_T2, 43) (by decide) rfl rfl (dh_m0 (i := 31) rfl rfl) dh_cw_49 (dh_m4 (i := 197) rfl rfl) (dh_m4 (i := 199) rfl rfl) dh_ok_49
theorem dh_e_129 : jm_kok dh_cn dh_J dh_W dh_M dh_nl dh_rc (2, 180, 2, 50, 1) := jk_2 (y := 0) ("DeltaHistoryModel", dh_T2, 43) (by decide) rfl rfl (dh_m0 (i := 32) rfl rfl) dh_cw_50 (dh_m4 (i := 201) rfl rfl) (dh_m4 (i := 203) rfl rfl) dh_ok_50
theorem dh_e_130 : jm_kok dh_cn dh_J dh_W dh_M dh_nl dh_rc (2, 183, 2, 51, 1) := jk_2 (y := 0) ("DeltaHistoryModel", dh_T2, 43) (by decide) rfl rfl (dh_m0 (i := 33) rfl rfl) dh_cw_51 (dh_m4 (i := 205) rfl rfl) (dh_m4 (i := 207) rfl rfl) dh_ok_51
theorem dh_e_131 : jm_kok dh_cn dh_J dh_W dh_M dh_nl dh_rc (2, 186, 3, 52, 1) := jk_3 rfl dh_cw_52 (dh_m4 (i := 142) rfl rfl) (dh_m4 (i := 143) rfl rfl) (dh_m1 (i := 9) rfl rfl) dh_ok_52
theorem dh_e_132 : jm_kok dh_cn dh_J dh_W dh_M dh_nl dh_rc (2, 189, 2, 53, 2) := jk_2 (y := 1) ("DeltaHistoryModel", dh_T2, 43) (by decide) rfl rfl (dh_m0 (i := 18) rfl rfl) dh_cw_53 (dh_m4 (i := 145) rfl rfl) (dh_m4 (i := 147) rfl rfl) dh_ok_53
theorem dh_e_133 : jm_kok dh_cn dh_J dh_W dh_M dh_nl dh_rc (2, 192, 2, 54, 3) := jk_2 (y := 2) ("DeltaHistoryModel", dh_T2, 43) (by decide) rfl rfl (dh_m0 (i := 19) rfl rfl) dh_cw_54 (dh_m4 (i := 149) rfl rfl) (dh_m4 (i := 151) rfl rfl) dh_ok_54
theorem dh_e_134 : jm_kok dh_cn dh_J dh_W dh_M dh_nl dh_rc (2, 196, 2, 40, 2) := jk_2 (y := 1) ("DeltaHistoryModel", dh_T2, 43) (by decide) rfl rfl (dh_m0 (i := 34) rfl rfl) dh_cw_40 (dh_m4 (i := 217) rfl rfl) (dh_m4 (i := 219) rfl rfl) dh_ok_40
theorem dh_e_135 : jm_kok dh_cn dh_J dh_W dh_M dh_nl dh_rc (2, 199, 1, 2, 37) := jk_1 ("DeltaHistoryModel", dh_T2, 43) (by decide) rfl (by decide) rfl (dh_m4 (i := 15) rfl rfl)
theorem dh_e_136 : jm_kok dh_cn dh_J dh_W dh_M dh_nl dh_rc (2, 202, 1, 2, 36) := jk_1 ("DeltaHistoryModel", dh_T2, 43) (by decide) rfl (by decide) rfl (dh_m4 (i := 14) rfl rfl)
theorem dh_e_137 : jm_kok dh_cn dh_J dh_W dh_M dh_nl dh_rc (2, 206, 1, 2, 35) := jk_1 ("DeltaHistoryModel", dh_T2, 43) (by decide) rfl (by decide) rfl (dh_m4 (i := 13) rfl rfl)
theorem dh_e_138 : jm_kok dh_cn dh_J dh_W dh_M dh_nl dh_rc (2, 209, 2, 63, 3) := jk_2 (y := 2) ("DeltaHistoryModel", dh_T2, 43) (by decide) rfl rfl (dh_m0 (i := 38) rfl rfl) dh_cw_63 (dh_m5 (i := 9) rfl rfl) (dh_m5 (i := 11) rfl rfl) dh_ok_63
theorem dh_e_139 : jm_kok dh_cn dh_J dh_W dh_M dh_nl dh_rc (2, 212, 2, 66, 3) := jk_2 (y := 2) ("DeltaHistoryModel", dh_T2, 43) (by decide) rfl rfl (dh_m0 (i := 41) rfl rfl) dh_cw_66 (dh_m5 (i := 21) rfl rfl) (dh_m5 (i := 23) rfl rfl) dh_ok_66
theorem dh_e_140 : jm_kok dh_cn dh_J dh_W dh_M dh_nl dh_rc (2, 216, 2, 67, 3) := jk_2 (y := 2) ("DeltaHistoryModel", dh_T2, 43) (by decide) rfl rfl (dh_m0 (i := 42) rfl rfl) dh_cw_67 (dh_m5 (i := 25) rfl rfl) (dh_m5 (i := 27) rfl rfl) dh_ok_67
theorem dh_e_141 : jm_kok dh_cn dh_J dh_W dh_M dh_nl dh_rc (2, 219, 2, 61, 1) := jk_2 (y := 0) ("DeltaHistoryModel", dh_T2, 43) (by decide) rfl rfl (dh_m0 (i := 36) rfl rfl) dh_cw_61 (dh_m5 (i := 1) rfl rfl) (dh_m5 (i := 3) rfl rfl) dh_ok_61
theorem dh_e_142 : jm_kok dh_cn dh_J dh_W dh_M dh_nl dh_rc (2, 222, 2, 64, 1) := jk_2 (y := 0) ("DeltaHistoryModel", dh_T2, 43) (by decide) rfl rfl (dh_m0 (i := 37) rfl rfl) dh_cw_64 (dh_m5 (i := 5) rfl rfl) (dh_m5 (i := 7) rfl rfl) dh_ok_64
theorem dh_e_143 : jm_kok dh_cn dh_J dh_W dh_M dh_nl dh_rc (2, 225, 2, 65, 1) := jk_2 (y := 0) ("DeltaHistoryModel", dh_T2, 43) (by decide) rfl rfl (dh_m0 (i := 39) rfl rfl) dh_cw_65 (dh_m5 (i := 13) rfl rfl) (dh_m5 (i := 15) rfl rfl) dh_ok_65
theorem dh_e_144 : jm_kok dh_cn dh_J dh_W dh_M dh_nl dh_rc (2, 228, 2, 68, 1) := jk_2 (y := 0) ("DeltaHistoryModel", dh_T2, 43) (by decide) rfl rfl (dh_m0 (i := 40) rfl rfl) dh_cw_68 (dh_m5 (i := 17) rfl rfl) (dh_m5 (i := 19) rfl rfl) dh_ok_68
theorem dh_e_145 : jm_kok dh_cn dh_J dh_W dh_M dh_nl dh_rc (2, 231, 2, 69, 1) := jk_2 (y := 0) ("DeltaHistoryModel", dh_T2, 43) (by decide) rfl rfl (dh_m0 (i := 43) rfl rfl) dh_cw_69 (dh_m5 (i := 29) rfl rfl) (dh_m5 (i := 31) rfl rfl) dh_ok_69
theorem dh_e_146 : jm_kok dh_cn dh_J dh_W dh_M dh_nl dh_rc (2, 234, 2, 62, 1) := jk_2 (y := 0) ("DeltaHistoryModel", dh_T2, 43) (by decide) rfl rfl (dh_m0 (i := 44) rfl rfl) dh_cw_62 (dh_m5 (i := 33) rfl rfl) (dh_m5 (i := 35) rfl rfl) dh_ok_62
theorem dh_e_147 : jm_kok dh_cn dh_J dh_W dh_M dh_nl dh_rc (2, 237, 1, 2, 26) := jk_1 ("DeltaHistoryModel", dh_T2, 43) (by decide) rfl (by decide) rfl (dh_m4 (i := 4) rfl rfl)
theorem dh_e_148 : jm_kok dh_cn dh_J dh_W dh_M dh_nl dh_rc (3, 3, 9, 0, 0) := jk_9 (dh_m1 (i := 93) rfl rfl) (dh_m1 (i := 25) rfl rfl) (dh_m1 (i := 26) rfl rfl)
theorem dh_e_149 : jm_kok dh_cn dh_J dh_W dh_M dh_nl dh_rc (3, 9, 1, 3, 0) := jk_1 ("DeltaHistory$Bytes", dh_T3, 3) (by decide) rfl (by decide) rfl (dh_m1 (i := 94) rfl rfl)
theorem dh_e_150 : jm_kok dh_cn dh_J dh_W dh_M dh_nl dh_rc (3, 15, 1, 3, 1) := jk_1 ("DeltaHistory$Bytes", dh_T3, 3) (by decide) rfl (by decide) rfl (dh_m1 (i := 96) rfl rfl)
theorem dh_e_151 : jm_kok dh_cn dh_J dh_W dh_M dh_nl dh_rc (3, 19, 2, 83, 2) := jk_2 (y := 1) ("DeltaHistory$Bytes", dh_T3, 3) (by decide) rfl rfl (dh_m2 (i := 87) rfl rfl) dh_cw_83 (dh_m2 (i := 85) rfl rfl) (dh_m2 (i := 86) rfl rfl) dh_ok_83
theorem dh_e_152 : jm_kok dh_cn dh_J dh_W dh_M dh_nl dh_rc (3, 23, 2, 80, 1) := jk_2 (y := 0) ("DeltaHistory$Bytes", dh_T3, 3) (by decide) rfl rfl (dh_m2 (i := 159) rfl rfl) dh_cw_80 (dh_m3 (i := 102) rfl rfl) (dh_m2 (i := 158) rfl rfl) dh_ok_80
theorem dh_e_153 : jm_kok dh_cn dh_J dh_W dh_M dh_nl dh_rc (3, 26, 2, 81, 2) := jk_2 (y := 1) ("DeltaHistory$Bytes", dh_T3, 3) (by decide) rfl rfl (dh_m1 (i := 211) rfl rfl) dh_cw_81 (dh_m3 (i := 103) rfl rfl) (dh_m1 (i := 210) rfl rfl) dh_ok_81
theorem dh_e_154 : jm_kok dh_cn dh_J dh_W dh_M dh_nl dh_rc (3, 30, 2, 84, 2) := jk_2 (y := 1) ("DeltaHistory$Bytes", dh_T3, 3) (by decide) rfl rfl (dh_m2 (i := 197) rfl rfl) dh_cw_84 (dh_m2 (i := 195) rfl rfl) (dh_m2 (i := 196) rfl rfl) dh_ok_84
theorem dh_e_155 : jm_kok dh_cn dh_J dh_W dh_M dh_nl dh_rc (3, 34, 1, 3, 2) := jk_1 ("DeltaHistory$Bytes", dh_T3, 3) (by decide) rfl (by decide) rfl (dh_m1 (i := 100) rfl rfl)
theorem dh_e_156 : jm_kok dh_cn dh_J dh_W dh_M dh_nl dh_rc (4, 3, 9, 0, 0) := jk_9 (dh_m1 (i := 52) rfl rfl) (dh_m1 (i := 25) rfl rfl) (dh_m1 (i := 26) rfl rfl)
theorem dh_e_157 : jm_kok dh_cn dh_J dh_W dh_M dh_nl dh_rc (4, 11, 1, 4, 0) := jk_1 ("DeltaHistory$Delta", dh_T4, 9) (by decide) rfl (by decide) rfl (dh_m1 (i := 55) rfl rfl)
theorem dh_e_158 : jm_kok dh_cn dh_J dh_W dh_M dh_nl dh_rc (4, 15, 1, 4, 1) := jk_1 ("DeltaHistory$Delta", dh_T4, 9) (by decide) rfl (by decide) rfl (dh_m1 (i := 57) rfl rfl)
theorem dh_e_159 : jm_kok dh_cn dh_J dh_W dh_M dh_nl dh_rc (4, 18, 1, 4, 2) := jk_1 ("DeltaHistory$Delta", dh_T4, 9) (by decide) rfl (by decide) rfl (dh_m1 (i := 59) rfl rfl)
theorem dh_e_160 : jm_kok dh_cn dh_J dh_W dh_M dh_nl dh_rc (4, 21, 1, 4, 3) := jk_1 ("DeltaHistory$Delta", dh_T4, 9) (by decide) rfl (by decide) rfl (dh_m1 (i := 61) rfl rfl)
theorem dh_e_161 : jm_kok dh_cn dh_J dh_W dh_M dh_nl dh_rc (4, 24, 1, 4, 4) := jk_1 ("DeltaHistory$Delta", dh_T4, 9) (by decide) rfl (by decide) rfl (dh_m1 (i := 62) rfl rfl)
theorem dh_e_162 : jm_kok dh_cn dh_J dh_W dh_M dh_nl dh_rc (4, 27, 13, 61, 0) := jk_13 (by decide) rfl (dh_m1 (i := 53) rfl rfl)
theorem dh_e_163 : jm_kok dh_cn dh_J dh_W dh_M dh_nl dh_rc (4, 29, 1, 4, 5) := jk_1 ("DeltaHistory$Delta", dh_T4, 9) (by decide) rfl (by decide) rfl (dh_m1 (i := 63) rfl rfl)
theorem dh_e_164 : jm_kok dh_cn dh_J dh_W dh_M dh_nl dh_rc (4, 32, 2, 90, 3) := jk_2 (y := 2) ("DeltaHistory$Delta", dh_T4, 9) (by decide) rfl rfl (dh_m0 (i := 8) rfl rfl) dh_cw_90 (dh_m2 (i := 168) rfl rfl) (dh_m2 (i := 170) rfl rfl) dh_ok_90
theorem dh_e_165 : jm_kok dh_cn dh_J dh_W dh_M dh_nl dh_rc (4, 36, 1, 4, 6) := jk_1 ("DeltaHistory$Delta", dh_T4, 9) (by decide) rfl (by decide) rfl (dh_m1 (i := 64) rfl rfl)
theorem dh_e_166 : jm_kok dh_cn dh_J dh_W dh_M dh_nl dh_rc (4, 40, 1, 4, 7) := jk_1 ("DeltaHistory$Delta", dh_T4, 9) (by decide) rfl (by decide) rfl (dh_m1 (i := 67) rfl rfl)
theorem dh_e_167 : jm_kok dh_cn dh_J dh_W dh_M dh_nl dh_rc (4, 43, 1, 4, 8) := jk_1 ("DeltaHistory$Delta", dh_T4, 9) (by decide) rfl (by decide) rfl (dh_m1 (i := 68) rfl rfl)
theorem dh_e_168 : jm_kok dh_cn dh_J dh_W dh_M dh_nl dh_rc (4, 47, 1, 8, 1) := jk_1 ("DeltaHistory$Text", dh_T8, 2) (by decide) rfl (by decide) rfl (dh_m1 (i := 37) rfl rfl)
theorem dh_e_169 : jm_kok dh_cn dh_J dh_W dh_M dh_nl dh_rc (4, 52, 1, 8, 0) := jk_1 ("DeltaHistory$Text", dh_T8, 2) (by decide) rfl (by decide) rfl (dh_m1 (i := 34) rfl rfl)
theorem dh_e_170 : jm_kok dh_cn dh_J dh_W dh_M dh_nl dh_rc (4, 55, 2, 91, 3) := jk_2 (y := 2) ("DeltaHistory$Delta", dh_T4, 9) (by decide) rfl rfl (dh_m0 (i := 9) rfl rfl) dh_cw_91 (dh_m2 (i := 175) rfl rfl) (dh_m2 (i := 177) rfl rfl) dh_ok_91
theorem dh_e_171 : jm_kok dh_cn dh_J dh_W dh_M dh_nl dh_rc (4, 59, 10, 0, 0) := jk_10 (dh_m2 (i := 172) rfl rfl) (dh_m2 (i := 173) rfl rfl) (dh_m1 (i := 16) rfl rfl) (dh_m2 (i := 174) rfl rfl)
theorem dh_e_172 : jm_kok dh_cn dh_J dh_W dh_M dh_nl dh_rc (4, 65, 2, 93, 3) := jk_2 (y := 2) ("DeltaHistory$Delta", dh_T4, 9) (by decide) rfl rfl (dh_m2 (i := 185) rfl rfl) dh_cw_93 (dh_m2 (i := 215) rfl rfl) (dh_m2 (i := 184) rfl rfl) dh_ok_93
theorem dh_e_173 : jm_kok dh_cn dh_J dh_W dh_M dh_nl dh_rc (5, 3, 9, 0, 0) := jk_9 (dh_m1 (i := 135) rfl rfl) (dh_m1 (i := 25) rfl rfl) (dh_m1 (i := 26) rfl rfl)
theorem dh_e_174 : jm_kok dh_cn dh_J dh_W dh_M dh_nl dh_rc (5, 9, 5, 7, 10) := jk_5 ("DeltaHistory$Revision", dh_T7, 10) (by decide) rfl rfl (dh_m1 (i := 136) rfl rfl) (dh_m1 (i := 138) rfl rfl) (dh_m1 (i := 8) rfl rfl) (by decide +kernel)
theorem dh_e_175 : jm_kok dh_cn dh_J dh_W dh_M dh_nl dh_rc (5, 9, 6, 69, 0) := jk_6 "DeltaHistory$Revision" (by decide) rfl (dh_m1 (i := 136) rfl rfl)
theorem dh_e_176 : jm_kok dh_cn dh_J dh_W dh_M dh_nl dh_rc (5, 11, 1, 5, 0) := jk_1 ("DeltaHistory$History", dh_T5, 2) (by decide) rfl (by decide) rfl (dh_m1 (i := 196) rfl rfl)
theorem dh_e_177 : jm_kok dh_cn dh_J dh_W dh_M dh_nl dh_rc (5, 17, 4, 111, 1) := jk_4 (y := 0) (by decide) rfl (dh_m1 (i := 141) rfl rfl) dh_cw_111 (dh_m1 (i := 139) rfl rfl) (dh_m1 (i := 140) rfl rfl) dh_ok_111
theorem dh_e_178 : jm_kok dh_cn dh_J dh_W dh_M dh_nl dh_rc (5, 18, 1, 5, 1) := jk_1 ("DeltaHistory$History", dh_T5, 2) (by decide) rfl (by decide) rfl (dh_m1 (i := 200) rfl rfl)
theorem dh_e_179 : jm_kok dh_cn dh_J dh_W dh_M dh_nl dh_rc (5, 22, 2, 112, 2) := jk_2 (y := 1) ("DeltaHistory$Revision", dh_T7, 10) (by decide) rfl rfl (dh_m3 (i := 91) rfl rfl) dh_cw_112 (dh_m3 (i := 89) rfl rfl) (dh_m3 (i := 90) rfl rfl) dh_ok_112
theorem dh_e_180 : jm_kok dh_cn dh_J dh_W dh_M dh_nl dh_rc (5, 26, 2, 113, 3) := jk_2 (y := 2) ("DeltaHistory$Revision", dh_T7, 10) (by decide) rfl rfl (dh_m2 (i := 99) rfl rfl) dh_cw_113 (dh_m2 (i := 97) rfl rfl) (dh_m2 (i := 98) rfl rfl) dh_ok_113
theorem dh_e_181 : jm_kok dh_cn dh_J dh_W dh_M dh_nl dh_rc (5, 30, 2, 96, 2) := jk_2 (y := 1) ("DeltaHistory$History", dh_T5, 2) (by decide) rfl rfl (dh_m2 (i := 91) rfl rfl) dh_cw_96 (dh_m2 (i := 102) rfl rfl) (dh_m2 (i := 90) rfl rfl) dh_ok_96
theorem dh_e_182 : jm_kok dh_cn dh_J dh_W dh_M dh_nl dh_rc (5, 34, 1, 7, 4) := jk_1 ("DeltaHistory$Revision", dh_T7, 10) (by decide) rfl (by decide) rfl (dh_m1 (i := 161) rfl rfl)
theorem dh_e_183 : jm_kok dh_cn dh_J dh_W dh_M dh_nl dh_rc (5, 37, 2, 114, 2) := jk_2 (y := 1) ("DeltaHistory$Revision", dh_T7, 10) (by decide) rfl rfl (dh_m2 (i := 105) rfl rfl) dh_cw_114 (dh_m2 (i := 103) rfl rfl) (dh_m2 (i := 104) rfl rfl) dh_ok_114
theorem dh_e_184 : jm_kok dh_cn dh_J dh_W dh_M dh_nl dh_rc (5, 40, 1, 7, 5) := jk_1 ("DeltaHistory$Revision", dh_T7, 10) (by decide) rfl (by decide) rfl (dh_m1 (i := 164) rfl rfl)
theorem dh_e_185 : jm_kok dh_cn dh_J dh_W dh_M dh_nl dh_rc (5, 43, 2, 115, 2) := jk_2 (y := 1) ("DeltaHistory$Revision", dh_T7, 10) (by decide) rfl rfl (dh_m2 (i := 109) rfl rfl) dh_cw_115 (dh_m2 (i := 107) rfl rfl) (dh_m2 (i := 108) rfl rfl) dh_ok_115
theorem dh_e_186 : jm_kok dh_cn dh_J dh_W dh_M dh_nl dh_rc (5, 46, 1, 7, 9) := jk_1 ("DeltaHistory$Revision", dh_T7, 10) (by decide) rfl (by decide) rfl (dh_m1 (i := 173) rfl rfl)
theorem dh_e_187 : jm_kok dh_cn dh_J dh_W dh_M dh_nl dh_rc (5, 49, 1, 7, 6) := jk_1 ("DeltaHistory$Revision", dh_T7, 10) (by decide) rfl (by decide) rfl (dh_m1 (i := 167) rfl rfl)
theorem dh_e_188 : jm_kok dh_cn dh_J dh_W dh_M dh_nl dh_rc (5, 52, 1, 7, 8) := jk_1 ("DeltaHistory$Revision", dh_T7, 10) (by decide) rfl (by decide) rfl (dh_m1 (i := 171) rfl rfl)
theorem dh_e_189 : jm_kok dh_cn dh_J dh_W dh_M dh_nl dh_rc (5, 55, 1, 7, 7) := jk_1 ("DeltaHistory$Revision", dh_T7, 10) (by decide) rfl (by decide) rfl (dh_m1 (i := 169) rfl rfl)
theorem dh_e_190 : jm_kok dh_cn dh_J dh_W dh_M dh_nl dh_rc (5, 58, 1, 7, 1) := jk_1 ("DeltaHistory$Revision", dh_T7, 10) (by decide) rfl (by decide) rfl (dh_m1 (i := 151) rfl rfl)
theorem dh_e_191 : jm_kok dh_cn dh_J dh_W dh_M dh_nl dh_rc (6, 3, 9, 0, 0) := jk_9 (dh_m1 (i := 125) rfl rfl) (dh_m1 (i := 25) rfl rfl) (dh_m1 (i := 26) rfl rfl)
theorem dh_e_192 : jm_kok dh_cn dh_J dh_W dh_M dh_nl dh_rc (6, 9, 1, 6, 0) := jk_1 ("DeltaHistory$Reader", dh_T6, 1) (by decide) rfl (by decide) rfl (dh_m1 (i := 126) rfl rfl)
theorem dh_e_193 : jm_kok dh_cn dh_J dh_W dh_M dh_nl dh_rc (6, 15, 1, 3, 2) := jk_1 ("DeltaHistory$Bytes", dh_T3, 3) (by decide) rfl (by decide) rfl (dh_m1 (i := 99) rfl rfl)
theorem dh_e_194 : jm_kok dh_cn dh_J dh_W dh_M dh_nl dh_rc (6, 21, 2, 95, 1) := jk_2 (y := 0) ("DeltaHistory$History", dh_T5, 2) (by decide) rfl rfl (dh_m2 (i := 75) rfl rfl) dh_cw_95 (dh_m2 (i := 73) rfl rfl) (dh_m2 (i := 74) rfl rfl) dh_ok_95
theorem dh_e_195 : jm_kok dh_cn dh_J dh_W dh_M dh_nl dh_rc (6, 26, 2, 103, 3) := jk_2 (y := 2) ("DeltaHistory$Reader", dh_T6, 1) (by decide) rfl rfl (dh_m0 (i := 0) rfl rfl) dh_cw_103 (dh_m2 (i := 77) rfl rfl) (dh_m2 (i := 79) rfl rfl) dh_ok_103
theorem dh_e_196 : jm_kok dh_cn dh_J dh_W dh_M dh_nl dh_rc (6, 30, 2, 104, 3) := jk_2 (y := 2) ("DeltaHistory$Reader", dh_T6, 1) (by decide) rfl rfl (dh_m0 (i := 1) rfl rfl) dh_cw_104 (dh_m2 (i := 111) rfl rfl) (dh_m2 (i := 113) rfl rfl) dh_ok_104
theorem dh_e_197 : jm_kok dh_cn dh_J dh_W dh_M dh_nl dh_rc (6, 33, 2, 107, 3) := jk_2 (y := 2) ("DeltaHistory$Reader", dh_T6, 1) (by decide) rfl rfl (dh_m0 (i := 4) rfl rfl) dh_cw_107 (dh_m2 (i := 131) rfl rfl) (dh_m2 (i := 133) rfl rfl) dh_ok_107
theorem dh_e_198 : jm_kok dh_cn dh_J dh_W dh_M dh_nl dh_rc (6, 36, 2, 87, 1) := jk_2 (y := 0) ("DeltaHistory$Bytes", dh_T3, 3) (by decide) rfl rfl (dh_m2 (i := 83) rfl rfl) dh_cw_87 (dh_m2 (i := 81) rfl rfl) (dh_m2 (i := 82) rfl rfl) dh_ok_87
theorem dh_e_199 : jm_kok dh_cn dh_J dh_W dh_M dh_nl dh_rc (6, 40, 2, 96, 2) := jk_2 (y := 1) ("DeltaHistory$History", dh_T5, 2) (by decide) rfl rfl (dh_m2 (i := 91) rfl rfl) dh_cw_96 (dh_m2 (i := 89) rfl rfl) (dh_m2 (i := 90) rfl rfl) dh_ok_96
theorem dh_e_200 : jm_kok dh_cn dh_J dh_W dh_M dh_nl dh_rc (6, 44, 2, 98, 3) := jk_2 (y := 2) ("DeltaHistory$History", dh_T5, 2) (by decide) rfl rfl (dh_m2 (i := 95) rfl rfl) dh_cw_98 (dh_m2 (i := 93) rfl rfl) (dh_m2 (i := 94) rfl rfl) dh_ok_98
theorem dh_e_201 : jm_kok dh_cn dh_J dh_W dh_M dh_nl dh_rc (6, 48, 1, 5, 0) := jk_1 ("DeltaHistory$History", dh_T5, 2) (by decide) rfl (by decide) rfl (dh_m1 (i := 198) rfl rfl)
theorem dh_e_202 : jm_kok dh_cn dh_J dh_W dh_M dh_nl dh_rc (6, 52, 1, 7, 3) := jk_1 ("DeltaHistory$Revision", dh_T7, 10) (by decide) rfl (by decide) rfl (dh_m1 (i := 158) rfl rfl)
theorem dh_e_203 : jm_kok dh_cn dh_J dh_W dh_M dh_nl dh_rc (6, 57, 1, 5, 1) := jk_1 ("DeltaHistory$History", dh_T5, 2) (by decide) rfl (by decide) rfl (dh_m1 (i := 202) rfl rfl)
theorem dh_e_204 : jm_kok dh_cn dh_J dh_W dh_M dh_nl dh_rc (6, 60, 2, 117, 1) := jk_2 (y := 0) ("DeltaHistory$Revision", dh_T7, 10) (by decide) rfl rfl (dh_m2 (i := 117) rfl rfl) dh_cw_117 (dh_m2 (i := 115) rfl rfl) (dh_m2 (i := 116) rfl rfl) dh_ok_117
theorem dh_e_205 : jm_kok dh_cn dh_J dh_W dh_M dh_nl dh_rc (6, 63, 2, 105, 2) := jk_2 (y := 1) ("DeltaHistory$Reader", dh_T6, 1) (by decide) rfl rfl (dh_m0 (i := 2) rfl rfl) dh_cw_105 (dh_m2 (i := 123) rfl rfl) (dh_m2 (i := 125) rfl rfl) dh_ok_105
theorem dh_e_206 : jm_kok dh_cn dh_J dh_W dh_M dh_nl dh_rc (6, 67, 2, 106, 2) := jk_2 (y := 1) ("DeltaHistory$Reader", dh_T6, 1) (by decide) rfl rfl (dh_m0 (i := 3) rfl rfl) dh_cw_106 (dh_m2 (i := 127) rfl rfl) (dh_m2 (i := 129) rfl rfl) dh_ok_106
theorem dh_e_207 : jm_kok dh_cn dh_J dh_W dh_M dh_nl dh_rc (6, 70, 1, 3, 1) := jk_1 ("DeltaHistory$Bytes", dh_T3, 3) (by decide) rfl (by decide) rfl (dh_m1 (i := 97) rfl rfl)
theorem dh_e_208 : jm_kok dh_cn dh_J dh_W dh_M dh_nl dh_rc (6, 71, 2, 116, 1) := jk_2 (y := 0) ("DeltaHistory$Revision", dh_T7, 10) (by decide) rfl rfl (dh_m2 (i := 121) rfl rfl) dh_cw_116 (dh_m2 (i := 135) rfl rfl) (dh_m2 (i := 120) rfl rfl) dh_ok_116
theorem dh_e_209 : jm_kok dh_cn dh_J dh_W dh_M dh_nl dh_rc (6, 75, 2, 108, 4) := jk_2 (y := 3) ("DeltaHistory$Reader", dh_T6, 1) (by decide) rfl rfl (dh_m0 (i := 5) rfl rfl) dh_cw_108 (dh_m2 (i := 136) rfl rfl) (dh_m2 (i := 138) rfl rfl) dh_ok_108
theorem dh_e_210 : jm_kok dh_cn dh_J dh_W dh_M dh_nl dh_rc (6, 79, 1, 7, 0) := jk_1 ("DeltaHistory$Revision", dh_T7, 10) (by decide) rfl (by decide) rfl (dh_m1 (i := 147) rfl rfl)
theorem dh_e_211 : jm_kok dh_cn dh_J dh_W dh_M dh_nl dh_rc (6, 83, 2, 110, 4) := jk_2 (y := 3) ("DeltaHistory$Reader", dh_T6, 1) (by decide) rfl rfl (dh_m0 (i := 6) rfl rfl) dh_cw_110 (dh_m2 (i := 140) rfl rfl) (dh_m2 (i := 142) rfl rfl) dh_ok_110
theorem dh_e_212 : jm_kok dh_cn dh_J dh_W dh_M dh_nl dh_rc (6, 87, 2, 109, 3) := jk_2 (y := 2) ("DeltaHistory$Reader", dh_T6, 1) (by decide) rfl rfl (dh_m0 (i := 7) rfl rfl) dh_cw_109 (dh_m2 (i := 148) rfl rfl) (dh_m2 (i := 150) rfl rfl) dh_ok_109
theorem dh_e_213 : jm_kok dh_cn dh_J dh_W dh_M dh_nl dh_rc (6, 91, 2, 122, 2) := jk_2 (y := 1) ("DeltaHistory$Text", dh_T8, 2) (by decide) rfl rfl (dh_m2 (i := 24) rfl rfl) dh_cw_122 (dh_m2 (i := 152) rfl rfl) (dh_m2 (i := 23) rfl rfl) dh_ok_122
theorem dh_e_214 : jm_kok dh_cn dh_J dh_W dh_M dh_nl dh_rc (6, 95, 2, 126, 4) := jk_2 (y := 3) ("DeltaHistory$Text", dh_T8, 2) (by decide) rfl rfl (dh_m2 (i := 146) rfl rfl) dh_cw_126 (dh_m2 (i := 144) rfl rfl) (dh_m2 (i := 145) rfl rfl) dh_ok_126
theorem dh_e_215 : jm_kok dh_cn dh_J dh_W dh_M dh_nl dh_rc (6, 99, 1, 8, 1) := jk_1 ("DeltaHistory$Text", dh_T8, 2) (by decide) rfl (by decide) rfl (dh_m1 (i := 40) rfl rfl)
theorem dh_e_216 : jm_kok dh_cn dh_J dh_W dh_M dh_nl dh_rc (7, 3, 9, 0, 0) := jk_9 (dh_m1 (i := 142) rfl rfl) (dh_m1 (i := 25) rfl rfl) (dh_m1 (i := 26) rfl rfl)
theorem dh_e_217 : jm_kok dh_cn dh_J dh_W dh_M dh_nl dh_rc (7, 9, 5, 8, 2) := jk_5 ("DeltaHistory$Text", dh_T8, 2) (by decide) rfl rfl (dh_m1 (i := 143) rfl rfl) (dh_m1 (i := 28) rfl rfl) (dh_m1 (i := 2) rfl rfl) (by decide +kernel)
theorem dh_e_218 : jm_kok dh_cn dh_J dh_W dh_M dh_nl dh_rc (7, 11, 4, 118, 1) := jk_4 (y := 0) (by decide) rfl (dh_m1 (i := 31) rfl rfl) dh_cw_118 (dh_m1 (i := 144) rfl rfl) (dh_m1 (i := 30) rfl rfl) dh_ok_118
theorem dh_e_219 : jm_kok dh_cn dh_J dh_W dh_M dh_nl dh_rc (7, 12, 1, 7, 0) := jk_1 ("DeltaHistory$Revision", dh_T7, 10) (by decide) rfl (by decide) rfl (dh_m1 (i := 145) rfl rfl)
theorem dh_e_220 : jm_kok dh_cn dh_J dh_W dh_M dh_nl dh_rc (7, 18, 2, 120, 2) := jk_2 (y := 1) ("DeltaHistory$Text", dh_T8, 2) (by decide) rfl rfl (dh_m2 (i := 28) rfl rfl) dh_cw_120 (dh_m3 (i := 93) rfl rfl) (dh_m2 (i := 27) rfl rfl) dh_ok_120
theorem dh_e_221 : jm_kok dh_cn dh_J dh_W dh_M dh_nl dh_rc (7, 22, 1, 7, 1) := jk_1 ("DeltaHistory$Revision", dh_T7, 10) (by decide) rfl (by decide) rfl (dh_m1 (i := 149) rfl rfl)
theorem dh_e_222 : jm_kok dh_cn dh_J dh_W dh_M dh_nl dh_rc (7, 26, 1, 7, 2) := jk_1 ("DeltaHistory$Revision", dh_T7, 10) (by decide) rfl (by decide) rfl (dh_m1 (i := 153) rfl rfl)
theorem dh_e_223 : jm_kok dh_cn dh_J dh_W dh_M dh_nl dh_rc (7, 29, 1, 7, 3) := jk_1 ("DeltaHistory$Revision", dh_T7, 10) (by decide) rfl (by decide) rfl (dh_m1 (i := 156) rfl rfl)
theorem dh_e_224 : jm_kok dh_cn dh_J dh_W dh_M dh_nl dh_rc (7, 32, 1, 7, 4) := jk_1 ("DeltaHistory$Revision", dh_T7, 10) (by decide) rfl (by decide) rfl (dh_m1 (i := 160) rfl rfl)
theorem dh_e_225 : jm_kok dh_cn dh_J dh_W dh_M dh_nl dh_rc (7, 35, 1, 7, 5) := jk_1 ("DeltaHistory$Revision", dh_T7, 10) (by decide) rfl (by decide) rfl (dh_m1 (i := 163) rfl rfl)
theorem dh_e_226 : jm_kok dh_cn dh_J dh_W dh_M dh_nl dh_rc (7, 38, 1, 7, 6) := jk_1 ("DeltaHistory$Revision", dh_T7, 10) (by decide) rfl (by decide) rfl (dh_m1 (i := 166) rfl rfl)
theorem dh_e_227 : jm_kok dh_cn dh_J dh_W dh_M dh_nl dh_rc (7, 41, 1, 7, 7) := jk_1 ("DeltaHistory$Revision", dh_T7, 10) (by decide) rfl (by decide) rfl (dh_m1 (i := 168) rfl rfl)
theorem dh_e_228 : jm_kok dh_cn dh_J dh_W dh_M dh_nl dh_rc (7, 44, 1, 7, 8) := jk_1 ("DeltaHistory$Revision", dh_T7, 10) (by decide) rfl (by decide) rfl (dh_m1 (i := 170) rfl rfl)
theorem dh_e_229 : jm_kok dh_cn dh_J dh_W dh_M dh_nl dh_rc (7, 47, 1, 7, 9) := jk_1 ("DeltaHistory$Revision", dh_T7, 10) (by decide) rfl (by decide) rfl (dh_m1 (i := 172) rfl rfl)
theorem dh_e_230 : jm_kok dh_cn dh_J dh_W dh_M dh_nl dh_rc (7, 50, 2, 119, 1) := jk_2 (y := 0) ("DeltaHistory$Text", dh_T8, 2) (by decide) rfl rfl (dh_m2 (i := 16) rfl rfl) dh_cw_119 (dh_m2 (i := 101) rfl rfl) (dh_m2 (i := 15) rfl rfl) dh_ok_119
theorem dh_e_231 : jm_kok dh_cn dh_J dh_W dh_M dh_nl dh_rc (7, 53, 2, 116, 1) := jk_2 (y := 0) ("DeltaHistory$Revision", dh_T7, 10) (by decide) rfl rfl (dh_m2 (i := 121) rfl rfl) dh_cw_116 (dh_m2 (i := 119) rfl rfl) (dh_m2 (i := 120) rfl rfl) dh_ok_116
theorem dh_e_232 : jm_kok dh_cn dh_J dh_W dh_M dh_nl dh_rc (8, 3, 9, 0, 0) := jk_9 (dh_m1 (i := 32) rfl rfl) (dh_m1 (i := 25) rfl rfl) (dh_m1 (i := 26) rfl rfl)
theorem dh_e_233 : jm_kok dh_cn dh_J dh_W dh_M dh_nl dh_rc (8, 9, 1, 8, 0) := jk_1 ("DeltaHistory$Text", dh_T8, 2) (by decide) rfl (by decide) rfl (dh_m1 (i := 33) rfl rfl)
theorem dh_e_234 : jm_kok dh_cn dh_J dh_W dh_M dh_nl dh_rc (8, 15, 1, 8, 1) := jk_1 ("DeltaHistory$Text", dh_T8, 2) (by decide) rfl (by decide) rfl (dh_m1 (i := 36) rfl rfl)
theorem dh_e_235 : jm_kok dh_cn dh_J dh_W dh_M dh_nl dh_rc (8, 19, 12, 0, 0) := jk_12 (dh_m2 (i := 30) rfl rfl) (dh_m2 (i := 32) rfl rfl) (dh_m2 (i := 31) rfl rfl) (dh_m1 (i := 10) rfl rfl)
theorem dh_e_236 : jm_kok dh_cn dh_J dh_W dh_M dh_nl dh_rc (8, 25, 2, 122, 2) := jk_2 (y := 1) ("DeltaHistory$Text", dh_T8, 2) (by decide) rfl rfl (dh_m2 (i := 24) rfl rfl) dh_cw_122 (dh_m2 (i := 22) rfl rfl) (dh_m2 (i := 23) rfl rfl) dh_ok_122
theorem dh_e_237 : jm_kok dh_cn dh_J dh_W dh_M dh_nl dh_rc (9, 3, 9, 0, 0) := jk_9 (dh_m1 (i := 113) rfl rfl) (dh_m1 (i := 25) rfl rfl) (dh_m1 (i := 26) rfl rfl)
theorem dh_e_238 : jm_kok dh_cn dh_J dh_W dh_M dh_nl dh_rc (9, 9, 5, 4, 9) := jk_5 ("DeltaHistory$Delta", dh_T4, 9) (by decide) rfl rfl (dh_m1 (i := 114) rfl rfl) (dh_m1 (i := 48) rfl rfl) (dh_m1 (i := 3) rfl rfl) (by decide +kernel)
theorem dh_e_239 : jm_kok dh_cn dh_J dh_W dh_M dh_nl dh_rc (9, 11, 4, 88, 1) := jk_4 (y := 0) (by decide) rfl (dh_m1 (i := 51) rfl rfl) dh_cw_88 (dh_m1 (i := 115) rfl rfl) (dh_m1 (i := 50) rfl rfl) dh_ok_88
theorem dh_e_240 : jm_kok dh_cn dh_J dh_W dh_M dh_nl dh_rc (9, 12, 1, 9, 0) := jk_1 ("DeltaHistory$Writer", dh_T9, 1) (by decide) rfl (by decide) rfl (dh_m1 (i := 116) rfl rfl)
theorem dh_e_241 : jm_kok dh_cn dh_J dh_W dh_M dh_nl dh_rc (9, 18, 2, 80, 1) := jk_2 (y := 0) ("DeltaHistory$Bytes", dh_T3, 3) (by decide) rfl rfl (dh_m2 (i := 159) rfl rfl) dh_cw_80 (dh_m2 (i := 157) rfl rfl) (dh_m2 (i := 158) rfl rfl) dh_ok_80
theorem dh_e_242 : jm_kok dh_cn dh_J dh_W dh_M dh_nl dh_rc (9, 23, 1, 5, 1) := jk_1 ("DeltaHistory$History", dh_T5, 2) (by decide) rfl (by decide) rfl (dh_m1 (i := 201) rfl rfl)
theorem dh_e_243 : jm_kok dh_cn dh_J dh_W dh_M dh_nl dh_rc (9, 29, 2, 81, 2) := jk_2 (y := 1) ("DeltaHistory$Bytes", dh_T3, 3) (by decide) rfl rfl (dh_m1 (i := 211) rfl rfl) dh_cw_81 (dh_m2 (i := 161) rfl rfl) (dh_m1 (i := 210) rfl rfl) dh_ok_81
theorem dh_e_244 : jm_kok dh_cn dh_J dh_W dh_M dh_nl dh_rc (9, 33, 1, 5, 0) := jk_1 ("DeltaHistory$History", dh_T5, 2) (by decide) rfl (by decide) rfl (dh_m1 (i := 197) rfl rfl)
theorem dh_e_245 : jm_kok dh_cn dh_J dh_W dh_M dh_nl dh_rc (9, 37, 1, 7, 1) := jk_1 ("DeltaHistory$Revision", dh_T7, 10) (by decide) rfl (by decide) rfl (dh_m1 (i := 150) rfl rfl)
theorem dh_e_246 : jm_kok dh_cn dh_J dh_W dh_M dh_nl dh_rc (9, 42, 1, 7, 2) := jk_1 ("DeltaHistory$Revision", dh_T7, 10) (by decide) rfl (by decide) rfl (dh_m1 (i := 154) rfl rfl)
theorem dh_e_247 : jm_kok dh_cn dh_J dh_W dh_M dh_nl dh_rc (9, 45, 1, 7, 3) := jk_1 ("DeltaHistory$Revision", dh_T7, 10) (by decide) rfl (by decide) rfl (dh_m1 (i := 157) rfl rfl)
theorem dh_e_248 : jm_kok dh_cn dh_J dh_W dh_M dh_nl dh_rc (9, 48, 1, 7, 0) := jk_1 ("DeltaHistory$Revision", dh_T7, 10) (by decide) rfl (by decide) rfl (dh_m1 (i := 146) rfl rfl)
theorem dh_e_249 : jm_kok dh_cn dh_J dh_W dh_M dh_nl dh_rc (9, 52, 2, 117, 1) := jk_2 (y := 0) ("DeltaHistory$Revision", dh_T7, 10) (by decide) rfl rfl (dh_m2 (i := 117) rfl rfl) dh_cw_117 (dh_m2 (i := 162) rfl rfl) (dh_m2 (i := 116) rfl rfl) dh_ok_117
theorem dh_e_250 : jm_kok dh_cn dh_J dh_W dh_M dh_nl dh_rc (9, 56, 2, 96, 2) := jk_2 (y := 1) ("DeltaHistory$History", dh_T5, 2) (by decide) rfl rfl (dh_m2 (i := 91) rfl rfl) dh_cw_96 (dh_m2 (i := 163) rfl rfl) (dh_m2 (i := 90) rfl rfl) dh_ok_96
theorem dh_e_251 : jm_kok dh_cn dh_J dh_W dh_M dh_nl dh_rc (9, 60, 2, 89, 3) := jk_2 (y := 2) ("DeltaHistory$Delta", dh_T4, 9) (by decide) rfl rfl (dh_m2 (i := 166) rfl rfl) dh_cw_89 (dh_m2 (i := 164) rfl rfl) (dh_m2 (i := 165) rfl rfl) dh_ok_89
theorem dh_e_252 : jm_kok dh_cn dh_J dh_W dh_M dh_nl dh_rc (9, 64, 2, 130, 2) := jk_2 (y := 1) ("DeltaHistory$Writer", dh_T9, 1) (by decide) rfl rfl (dh_m0 (i := 10) rfl rfl) dh_cw_130 (dh_m2 (i := 179) rfl rfl) (dh_m2 (i := 181) rfl rfl) dh_ok_130
theorem dh_e_253 : jm_kok dh_cn dh_J dh_W dh_M dh_nl dh_rc (9, 68, 2, 129, 3) := jk_2 (y := 2) ("DeltaHistory$Writer", dh_T9, 1) (by decide) rfl rfl (dh_m0 (i := 11) rfl rfl) dh_cw_129 (dh_m2 (i := 187) rfl rfl) (dh_m2 (i := 189) rfl rfl) dh_ok_129
theorem dh_e_254 : jm_kok dh_cn dh_J dh_W dh_M dh_nl dh_rc (9, 72, 1, 8, 1) := jk_1 ("DeltaHistory$Text", dh_T8, 2) (by decide) rfl (by decide) rfl (dh_m1 (i := 38) rfl rfl)
theorem dh_e_255 : jm_kok dh_cn dh_J dh_W dh_M dh_nl dh_rc (9, 75, 1, 8, 0) := jk_1 ("DeltaHistory$Text", dh_T8, 2) (by decide) rfl (by decide) rfl (dh_m1 (i := 35) rfl rfl)
theorem dh_e_256 : jm_kok dh_cn dh_J dh_W dh_M dh_nl dh_rc (9, 79, 1, 4, 6) := jk_1 ("DeltaHistory$Delta", dh_T4, 9) (by decide) rfl (by decide) rfl (dh_m1 (i := 65) rfl rfl)
theorem dh_e_257 : jm_kok dh_cn dh_J dh_W dh_M dh_nl dh_rc (9, 82, 1, 4, 0) := jk_1 ("DeltaHistory$Delta", dh_T4, 9) (by decide) rfl (by decide) rfl (dh_m1 (i := 56) rfl rfl)
theorem dh_e_258 : jm_kok dh_cn dh_J dh_W dh_M dh_nl dh_rc (9, 85, 1, 4, 1) := jk_1 ("DeltaHistory$Delta", dh_T4, 9) (by decide) rfl (by decide) rfl (dh_m1 (i := 58) rfl rfl)
theorem dh_e_259 : jm_kok dh_cn dh_J dh_W dh_M dh_nl dh_rc (9, 88, 1, 4, 2) := jk_1 ("DeltaHistory$Delta", dh_T4, 9) (by decide) rfl (by decide) rfl (dh_m1 (i := 60) rfl rfl)
theorem dh_e_260 : jm_kok dh_cn dh_J dh_W dh_M dh_nl dh_rc (9, 91, 2, 93, 3) := jk_2 (y := 2) ("DeltaHistory$Delta", dh_T4, 9) (by decide) rfl rfl (dh_m2 (i := 185) rfl rfl) dh_cw_93 (dh_m2 (i := 183) rfl rfl) (dh_m2 (i := 184) rfl rfl) dh_ok_93
theorem dh_e_261 : jm_kok dh_cn dh_J dh_W dh_M dh_nl dh_rc (59, 7, 2, 6, 3) := jk_2 (y := 2) ("DeltaHistory", dh_T1, 12) (by decide) rfl rfl (dh_m2 (i := 232) rfl rfl) dh_cw_6 (dh_m2 (i := 230) rfl rfl) (dh_m2 (i := 231) rfl rfl) dh_ok_6
theorem dh_e_262 : jm_kok dh_cn dh_J dh_W dh_M dh_nl dh_rc (59, 8, 5, 1, 12) := jk_5 ("DeltaHistory", dh_T1, 12) (by decide) rfl rfl (dh_m1 (i := 19) rfl rfl) (dh_m1 (i := 20) rfl rfl) (dh_m1 (i := 1) rfl rfl) (by decide +kernel)
theorem dh_e_263 : jm_kok dh_cn dh_J dh_W dh_M dh_nl dh_rc (59, 17, 2, 7, 3) := jk_2 (y := 2) ("DeltaHistory", dh_T1, 12) (by decide) rfl rfl (dh_m3 (i := 110) rfl rfl) dh_cw_7 (dh_m3 (i := 108) rfl rfl) (dh_m3 (i := 109) rfl rfl) dh_ok_7
theorem dh_e_264 : jm_kok dh_cn dh_J dh_W dh_M dh_nl dh_rc (59, 20, 2, 8, 3) := jk_2 (y := 2) ("DeltaHistory", dh_T1, 12) (by decide) rfl rfl (dh_m3 (i := 122) rfl rfl) dh_cw_8 (dh_m3 (i := 120) rfl rfl) (dh_m3 (i := 121) rfl rfl) dh_ok_8
theorem dh_e_265 : jm_kok dh_cn dh_J dh_W dh_M dh_nl dh_rc (59, 25, 2, 9, 2) := jk_2 (y := 1) ("DeltaHistory", dh_T1, 12) (by decide) rfl rfl (dh_m3 (i := 149) rfl rfl) dh_cw_9 (dh_m3 (i := 147) rfl rfl) (dh_m3 (i := 148) rfl rfl) dh_ok_9
theorem dh_e_266 : jm_kok dh_cn dh_J dh_W dh_M dh_nl dh_rc (59, 29, 2, 11, 3) := jk_2 (y := 2) ("DeltaHistory", dh_T1, 12) (by decide) rfl rfl (dh_m3 (i := 157) rfl rfl) dh_cw_11 (dh_m3 (i := 155) rfl rfl) (dh_m3 (i := 156) rfl rfl) dh_ok_11
theorem dh_e_267 : jm_kok dh_cn dh_J dh_W dh_M dh_nl dh_rc (59, 35, 2, 14, 3) := jk_2 (y := 2) ("DeltaHistory", dh_T1, 12) (by decide) rfl rfl (dh_m3 (i := 180) rfl rfl) dh_cw_14 (dh_m3 (i := 178) rfl rfl) (dh_m3 (i := 179) rfl rfl) dh_ok_14
theorem dh_e_268 : jm_kok dh_cn dh_J dh_W dh_M dh_nl dh_rc (59, 38, 2, 15, 3) := jk_2 (y := 2) ("DeltaHistory", dh_T1, 12) (by decide) rfl rfl (dh_m3 (i := 187) rfl rfl) dh_cw_15 (dh_m3 (i := 185) rfl rfl) (dh_m3 (i := 186) rfl rfl) dh_ok_15
theorem dh_e_269 : jm_kok dh_cn dh_J dh_W dh_M dh_nl dh_rc (59, 41, 2, 16, 3) := jk_2 (y := 2) ("DeltaHistory", dh_T1, 12) (by decide) rfl rfl (dh_m3 (i := 198) rfl rfl) dh_cw_16 (dh_m3 (i := 196) rfl rfl) (dh_m3 (i := 197) rfl rfl) dh_ok_16
theorem dh_e_270 : jm_kok dh_cn dh_J dh_W dh_M dh_nl dh_rc (59, 44, 2, 17, 2) := jk_2 (y := 1) ("DeltaHistory", dh_T1, 12) (by decide) rfl rfl (dh_m3 (i := 209) rfl rfl) dh_cw_17 (dh_m3 (i := 207) rfl rfl) (dh_m3 (i := 208) rfl rfl) dh_ok_17
theorem dh_e_271 : jm_kok dh_cn dh_J dh_W dh_M dh_nl dh_rc (59, 47, 4, 0, 1) := jk_4 (y := 0) (by decide) rfl (dh_m1 (i := 23) rfl rfl) dh_cw_0 (dh_m1 (i := 21) rfl rfl) (dh_m1 (i := 22) rfl rfl) dh_ok_0
theorem dh_e_272 : jm_kok dh_cn dh_J dh_W dh_M dh_nl dh_rc (59, 48, 5, 2, 43) := jk_5 ("DeltaHistoryModel", dh_T2, 43) (by decide) rfl rfl (dh_m3 (i := 212) rfl rfl) (dh_m3 (i := 213) rfl rfl) (dh_m1 (i := 9) rfl rfl) (by decide +kernel)
theorem dh_e_273 : jm_kok dh_cn dh_J dh_W dh_M dh_nl dh_rc (59, 50, 4, 27, 1) := jk_4 (y := 0) (by decide) rfl (dh_m3 (i := 216) rfl rfl) dh_cw_27 (dh_m3 (i := 214) rfl rfl) (dh_m3 (i := 215) rfl rfl) dh_ok_27
theorem dh_e_274 : jm_kok dh_cn dh_J dh_W dh_M dh_nl dh_rc (59, 51, 2, 1, 4) := jk_2 (y := 3) ("DeltaHistory", dh_T1, 12) (by decide) rfl rfl (dh_m2 (i := 12) rfl rfl) dh_cw_1 (dh_m2 (i := 10) rfl rfl) (dh_m2 (i := 11) rfl rfl) dh_ok_1
theorem dh_e_275 : jm_kok dh_cn dh_J dh_W dh_M dh_nl dh_rc (59, 55, 2, 31, 4) := jk_2 (y := 3) ("DeltaHistoryModel", dh_T2, 43) (by decide) rfl rfl (dh_m4 (i := 114) rfl rfl) dh_cw_31 (dh_m4 (i := 112) rfl rfl) (dh_m4 (i := 113) rfl rfl) dh_ok_31
theorem dh_e_276 : jm_kok dh_cn dh_J dh_W dh_M dh_nl dh_rc (59, 56, 2, 2, 3) := jk_2 (y := 2) ("DeltaHistory", dh_T1, 12) (by decide) rfl rfl (dh_m2 (i := 35) rfl rfl) dh_cw_2 (dh_m2 (i := 33) rfl rfl) (dh_m2 (i := 34) rfl rfl) dh_ok_2
theorem dh_e_277 : jm_kok dh_cn dh_J dh_W dh_M dh_nl dh_rc (59, 60, 2, 32, 3) := jk_2 (y := 2) ("DeltaHistoryModel", dh_T2, 43) (by decide) rfl rfl (dh_m4 (i := 124) rfl rfl) dh_cw_32 (dh_m4 (i := 122) rfl rfl) (dh_m4 (i := 123) rfl rfl) dh_ok_32
theorem dh_e_278 : jm_kok dh_cn dh_J dh_W dh_M dh_nl dh_rc (59, 61, 2, 3, 2) := jk_2 (y := 1) ("DeltaHistory", dh_T1, 12) (by decide) rfl rfl (dh_m2 (i := 43) rfl rfl) dh_cw_3 (dh_m2 (i := 41) rfl rfl) (dh_m2 (i := 42) rfl rfl) dh_ok_3
theorem dh_e_279 : jm_kok dh_cn dh_J dh_W dh_M dh_nl dh_rc (59, 64, 2, 33, 2) := jk_2 (y := 1) ("DeltaHistoryModel", dh_T2, 43) (by decide) rfl rfl (dh_m4 (i := 128) rfl rfl) dh_cw_33 (dh_m4 (i := 126) rfl rfl) (dh_m4 (i := 127) rfl rfl) dh_ok_33
theorem dh_e_280 : jm_kok dh_cn dh_J dh_W dh_M dh_nl dh_rc (59, 65, 2, 4, 1) := jk_2 (y := 0) ("DeltaHistory", dh_T1, 12) (by decide) rfl rfl (dh_m2 (i := 51) rfl rfl) dh_cw_4 (dh_m2 (i := 49) rfl rfl) (dh_m2 (i := 50) rfl rfl) dh_ok_4
theorem dh_e_281 : jm_kok dh_cn dh_J dh_W dh_M dh_nl dh_rc (59, 69, 2, 34, 1) := jk_2 (y := 0) ("DeltaHistoryModel", dh_T2, 43) (by decide) rfl rfl (dh_m4 (i := 132) rfl rfl) dh_cw_34 (dh_m4 (i := 130) rfl rfl) (dh_m4 (i := 131) rfl rfl) dh_ok_34
theorem dh_e_282 : jm_kok dh_cn dh_J dh_W dh_M dh_nl dh_rc (59, 70, 2, 5, 2) := jk_2 (y := 1) ("DeltaHistory", dh_T1, 12) (by decide) rfl rfl (dh_m2 (i := 55) rfl rfl) dh_cw_5 (dh_m2 (i := 53) rfl rfl) (dh_m2 (i := 54) rfl rfl) dh_ok_5
theorem dh_e_283 : jm_kok dh_cn dh_J dh_W dh_M dh_nl dh_rc (59, 73, 2, 35, 2) := jk_2 (y := 1) ("DeltaHistoryModel", dh_T2, 43) (by decide) rfl rfl (dh_m4 (i := 136) rfl rfl) dh_cw_35 (dh_m4 (i := 134) rfl rfl) (dh_m4 (i := 135) rfl rfl) dh_ok_35
theorem dh_e_284 : jm_kok dh_cn dh_J dh_W dh_M dh_nl dh_rc (59, 74, 3, 131, 4) := jk_3 rfl dh_cw_131 (dh_m2 (i := 225) rfl rfl) (dh_m2 (i := 226) rfl rfl) (dh_m1 (i := 0) rfl rfl) dh_ok_131
theorem dh_e_285 : jm_kok dh_cn dh_J dh_W dh_M dh_nl dh_rc (59, 79, 2, 55, 3) := jk_2 (y := 2) ("DeltaHistoryModel", dh_T2, 43) (by decide) rfl rfl (dh_m4 (i := 140) rfl rfl) dh_cw_55 (dh_m4 (i := 138) rfl rfl) (dh_m4 (i := 139) rfl rfl) dh_ok_55
theorem dh_e_286 : jm_kok dh_cn dh_J dh_W dh_M dh_nl dh_rc (59, 80, 2, 28, 1) := jk_2 (y := 0) ("DeltaHistoryModel", dh_T2, 43) (by decide) rfl rfl (dh_m4 (i := 110) rfl rfl) dh_cw_28 (dh_m4 (i := 108) rfl rfl) (dh_m4 (i := 109) rfl rfl) dh_ok_28
theorem dh_e_287 : jm_kok dh_cn dh_J dh_W dh_M dh_nl dh_rc (59, 83, 3, 132, 4) := jk_3 rfl dh_cw_132 (dh_m3 (i := 105) rfl rfl) (dh_m3 (i := 106) rfl rfl) (dh_m1 (i := 0) rfl rfl) dh_ok_132
theorem dh_e_288 : jm_kok dh_cn dh_J dh_W dh_M dh_nl dh_rc (59, 85, 2, 56, 3) := jk_2 (y := 2) ("DeltaHistoryModel", dh_T2, 43) (by decide) rfl rfl (dh_m4 (i := 211) rfl rfl) dh_cw_56 (dh_m4 (i := 209) rfl rfl) (dh_m4 (i := 210) rfl rfl) dh_ok_56
theorem dh_e_289 : jm_kok dh_cn dh_J dh_W dh_M dh_nl dh_rc (59, 86, 3, 133, 4) := jk_3 rfl dh_cw_133 (dh_m3 (i := 116) rfl rfl) (dh_m3 (i := 117) rfl rfl) (dh_m1 (i := 0) rfl rfl) dh_ok_133
theorem dh_e_290 : jm_kok dh_cn dh_J dh_W dh_M dh_nl dh_rc (59, 88, 2, 57, 3) := jk_2 (y := 2) ("DeltaHistoryModel", dh_T2, 43) (by decide) rfl rfl (dh_m4 (i := 215) rfl rfl) dh_cw_57 (dh_m4 (i := 213) rfl rfl) (dh_m4 (i := 214) rfl rfl) dh_ok_57
theorem dh_e_291 : jm_kok dh_cn dh_J dh_W dh_M dh_nl dh_rc (59, 89, 3, 134, 3) := jk_3 rfl dh_cw_134 (dh_m3 (i := 144) rfl rfl) (dh_m3 (i := 145) rfl rfl) (dh_m1 (i := 0) rfl rfl) dh_ok_134
theorem dh_e_292 : jm_kok dh_cn dh_J dh_W dh_M dh_nl dh_rc (59, 92, 2, 58, 2) := jk_2 (y := 1) ("DeltaHistoryModel", dh_T2, 43) (by decide) rfl rfl (dh_m4 (i := 227) rfl rfl) dh_cw_58 (dh_m4 (i := 225) rfl rfl) (dh_m4 (i := 226) rfl rfl) dh_ok_58
theorem dh_e_293 : jm_kok dh_cn dh_J dh_W dh_M dh_nl dh_rc (59, 93, 2, 10, 2) := jk_2 (y := 1) ("DeltaHistory", dh_T1, 12) (by decide) rfl rfl (dh_m2 (i := 63) rfl rfl) dh_cw_10 (dh_m2 (i := 61) rfl rfl) (dh_m2 (i := 62) rfl rfl) dh_ok_10
theorem dh_e_294 : jm_kok dh_cn dh_J dh_W dh_M dh_nl dh_rc (59, 97, 2, 59, 2) := jk_2 (y := 1) ("DeltaHistoryModel", dh_T2, 43) (by decide) rfl rfl (dh_m4 (i := 231) rfl rfl) dh_cw_59 (dh_m4 (i := 229) rfl rfl) (dh_m4 (i := 230) rfl rfl) dh_ok_59
theorem dh_e_295 : jm_kok dh_cn dh_J dh_W dh_M dh_nl dh_rc (59, 98, 3, 135, 3) := jk_3 rfl dh_cw_135 (dh_m3 (i := 151) rfl rfl) (dh_m3 (i := 152) rfl rfl) (dh_m1 (i := 0) rfl rfl) dh_ok_135
theorem dh_e_296 : jm_kok dh_cn dh_J dh_W dh_M dh_nl dh_rc (59, 101, 2, 60, 3) := jk_2 (y := 2) ("DeltaHistoryModel", dh_T2, 43) (by decide) rfl rfl (dh_m4 (i := 235) rfl rfl) dh_cw_60 (dh_m4 (i := 233) rfl rfl) (dh_m4 (i := 234) rfl rfl) dh_ok_60
theorem dh_e_297 : jm_kok dh_cn dh_J dh_W dh_M dh_nl dh_rc (59, 102, 2, 12, 1) := jk_2 (y := 0) ("DeltaHistory", dh_T1, 12) (by decide) rfl rfl (dh_m2 (i := 67) rfl rfl) dh_cw_12 (dh_m2 (i := 65) rfl rfl) (dh_m2 (i := 66) rfl rfl) dh_ok_12
theorem dh_e_298 : jm_kok dh_cn dh_J dh_W dh_M dh_nl dh_rc (59, 105, 2, 70, 1) := jk_2 (y := 0) ("DeltaHistoryModel", dh_T2, 43) (by decide) rfl rfl (dh_m4 (i := 239) rfl rfl) dh_cw_70 (dh_m4 (i := 237) rfl rfl) (dh_m4 (i := 238) rfl rfl) dh_ok_70
theorem dh_e_299 : jm_kok dh_cn dh_J dh_W dh_M dh_nl dh_rc (59, 106, 2, 13, 1) := jk_2 (y := 0) ("DeltaHistory", dh_T1, 12) (by decide) rfl rfl (dh_m2 (i := 205) rfl rfl) dh_cw_13 (dh_m2 (i := 203) rfl rfl) (dh_m2 (i := 204) rfl rfl) dh_ok_13
theorem dh_e_300 : jm_kok dh_cn dh_J dh_W dh_M dh_nl dh_rc (59, 109, 2, 71, 1) := jk_2 (y := 0) ("DeltaHistoryModel", dh_T2, 43) (by decide) rfl rfl (dh_m5 (i := 39) rfl rfl) dh_cw_71 (dh_m5 (i := 37) rfl rfl) (dh_m5 (i := 38) rfl rfl) dh_ok_71
theorem dh_e_301 : jm_kok dh_cn dh_J dh_W dh_M dh_nl dh_rc (59, 110, 3, 136, 4) := jk_3 rfl dh_cw_136 (dh_m3 (i := 175) rfl rfl) (dh_m3 (i := 176) rfl rfl) (dh_m1 (i := 0) rfl rfl) dh_ok_136
theorem dh_e_302 : jm_kok dh_cn dh_J dh_W dh_M dh_nl dh_rc (59, 112, 2, 72, 3) := jk_2 (y := 2) ("DeltaHistoryModel", dh_T2, 43) (by decide) rfl rfl (dh_m5 (i := 43) rfl rfl) dh_cw_72 (dh_m5 (i := 41) rfl rfl) (dh_m5 (i := 42) rfl rfl) dh_ok_72
theorem dh_e_303 : jm_kok dh_cn dh_J dh_W dh_M dh_nl dh_rc (59, 113, 3, 137, 4) := jk_3 rfl dh_cw_137 (dh_m3 (i := 182) rfl rfl) (dh_m3 (i := 183) rfl rfl) (dh_m1 (i := 0) rfl rfl) dh_ok_137
theorem dh_e_304 : jm_kok dh_cn dh_J dh_W dh_M dh_nl dh_rc (59, 115, 2, 73, 3) := jk_2 (y := 2) ("DeltaHistoryModel", dh_T2, 43) (by decide) rfl rfl (dh_m5 (i := 47) rfl rfl) dh_cw_73 (dh_m5 (i := 45) rfl rfl) (dh_m5 (i := 46) rfl rfl) dh_ok_73
theorem dh_e_305 : jm_kok dh_cn dh_J dh_W dh_M dh_nl dh_rc (59, 116, 3, 138, 4) := jk_3 rfl dh_cw_138 (dh_m3 (i := 193) rfl rfl) (dh_m3 (i := 194) rfl rfl) (dh_m1 (i := 0) rfl rfl) dh_ok_138
theorem dh_e_306 : jm_kok dh_cn dh_J dh_W dh_M dh_nl dh_rc (59, 118, 2, 74, 3) := jk_2 (y := 2) ("DeltaHistoryModel", dh_T2, 43) (by decide) rfl rfl (dh_m5 (i := 51) rfl rfl) dh_cw_74 (dh_m5 (i := 49) rfl rfl) (dh_m5 (i := 50) rfl rfl) dh_ok_74
theorem dh_e_307 : jm_kok dh_cn dh_J dh_W dh_M dh_nl dh_rc (59, 119, 3, 139, 3) := jk_3 rfl dh_cw_139 (dh_m3 (i := 204) rfl rfl) (dh_m3 (i := 205) rfl rfl) (dh_m1 (i := 0) rfl rfl) dh_ok_139
theorem dh_e_308 : jm_kok dh_cn dh_J dh_W dh_M dh_nl dh_rc (59, 121, 2, 75, 2) := jk_2 (y := 1) ("DeltaHistoryModel", dh_T2, 43) (by decide) rfl rfl (dh_m5 (i := 55) rfl rfl) dh_cw_75 (dh_m5 (i := 53) rfl rfl) (dh_m5 (i := 54) rfl rfl) dh_ok_75
theorem dh_e_309 : jm_kok dh_cn dh_J dh_W dh_M dh_nl dh_rc (59, 122, 2, 18, 3) := jk_2 (y := 2) ("DeltaHistory", dh_T1, 12) (by decide) rfl rfl (dh_m2 (i := 209) rfl rfl) dh_cw_18 (dh_m2 (i := 207) rfl rfl) (dh_m2 (i := 208) rfl rfl) dh_ok_18
theorem dh_e_310 : jm_kok dh_cn dh_J dh_W dh_M dh_nl dh_rc (59, 125, 2, 76, 3) := jk_2 (y := 2) ("DeltaHistoryModel", dh_T2, 43) (by decide) rfl rfl (dh_m5 (i := 59) rfl rfl) dh_cw_76 (dh_m5 (i := 57) rfl rfl) (dh_m5 (i := 58) rfl rfl) dh_ok_76
theorem dh_e_311 : jm_kok dh_cn dh_J dh_W dh_M dh_nl dh_rc (59, 126, 2, 19, 2) := jk_2 (y := 1) ("DeltaHistory", dh_T1, 12) (by decide) rfl rfl (dh_m2 (i := 218) rfl rfl) dh_cw_19 (dh_m2 (i := 216) rfl rfl) (dh_m2 (i := 217) rfl rfl) dh_ok_19
theorem dh_e_312 : jm_kok dh_cn dh_J dh_W dh_M dh_nl dh_rc (59, 130, 2, 77, 2) := jk_2 (y := 1) ("DeltaHistoryModel", dh_T2, 43) (by decide) rfl rfl (dh_m5 (i := 63) rfl rfl) dh_cw_77 (dh_m5 (i := 61) rfl rfl) (dh_m5 (i := 62) rfl rfl) dh_ok_77
theorem dh_e_313 : jm_kok dh_cn dh_J dh_W dh_M dh_nl dh_rc (59, 131, 2, 20, 3) := jk_2 (y := 2) ("DeltaHistory", dh_T1, 12) (by decide) rfl rfl (dh_m2 (i := 222) rfl rfl) dh_cw_20 (dh_m2 (i := 220) rfl rfl) (dh_m2 (i := 221) rfl rfl) dh_ok_20
theorem dh_e_314 : jm_kok dh_cn dh_J dh_W dh_M dh_nl dh_rc (59, 135, 2, 78, 3) := jk_2 (y := 2) ("DeltaHistoryModel", dh_T2, 43) (by decide) rfl rfl (dh_m5 (i := 67) rfl rfl) dh_cw_78 (dh_m5 (i := 65) rfl rfl) (dh_m5 (i := 66) rfl rfl) dh_ok_78
theorem dh_kk_0 : ∀ q ∈ dh_K_0, jm_kok dh_cn dh_J dh_W dh_M dh_nl dh_rc q := List.forall_mem_cons.mpr ⟨dh_e_0, List.forall_mem_cons.mpr ⟨dh_e_1, List.forall_mem_cons.mpr ⟨dh_e_2, List.forall_mem_cons.mpr ⟨dh_e_3, List.forall_mem_cons.mpr ⟨dh_e_4, List.forall_mem_cons.mpr ⟨dh_e_5, List.forall_mem_cons.mpr ⟨dh_e_6, List.forall_mem_cons.mpr ⟨dh_e_7, List.forall_mem_cons.mpr ⟨dh_e_8, List.forall_mem_cons.mpr ⟨dh_e_9, List.forall_mem_cons.mpr ⟨dh_e_10, List.forall_mem_cons.mpr ⟨dh_e_11, List.forall_mem_cons.mpr ⟨dh_e_12, List.forall_mem_cons.mpr ⟨dh_e_13, List.forall_mem_cons.mpr ⟨dh_e_14, List.forall_mem_cons.mpr ⟨dh_e_15, List.forall_mem_cons.mpr ⟨dh_e_16, List.forall_mem_cons.mpr ⟨dh_e_17, List.forall_mem_cons.mpr ⟨dh_e_18, List.forall_mem_cons.mpr ⟨dh_e_19, List.forall_mem_cons.mpr ⟨dh_e_20, List.forall_mem_cons.mpr ⟨dh_e_21, List.forall_mem_cons.mpr ⟨dh_e_22, List.forall_mem_cons.mpr ⟨dh_e_23, List.forall_mem_cons.mpr ⟨dh_e_24, List.forall_mem_cons.mpr ⟨dh_e_25, List.forall_mem_cons.mpr ⟨dh_e_26, List.forall_mem_cons.mpr ⟨dh_e_27, List.forall_mem_cons.mpr ⟨dh_e_28, List.forall_mem_cons.mpr ⟨dh_e_29, fun _ h => absurd h List.not_mem_nil⟩⟩⟩⟩⟩⟩⟩⟩⟩⟩⟩⟩⟩⟩⟩⟩⟩⟩⟩⟩⟩⟩⟩⟩⟩⟩⟩⟩⟩⟩
theorem dh_kk_1 : ∀ q ∈ dh_K_1, jm_kok dh_cn dh_J dh_W dh_M dh_nl dh_rc q := List.forall_mem_cons.mpr ⟨dh_e_30, List.forall_mem_cons.mpr ⟨dh_e_31, List.forall_mem_cons.mpr ⟨dh_e_32, List.forall_mem_cons.mpr ⟨dh_e_33, List.forall_mem_cons.mpr ⟨dh_e_34, List.forall_mem_cons.mpr ⟨dh_e_35, List.forall_mem_cons.mpr ⟨dh_e_36, List.forall_mem_cons.mpr ⟨dh_e_37, List.forall_mem_cons.mpr ⟨dh_e_38, List.forall_mem_cons.mpr ⟨dh_e_39, List.forall_mem_cons.mpr ⟨dh_e_40, List.forall_mem_cons.mpr ⟨dh_e_41, List.forall_mem_cons.mpr ⟨dh_e_42, List.forall_mem_cons.mpr ⟨dh_e_43, List.forall_mem_cons.mpr ⟨dh_e_44, List.forall_mem_cons.mpr ⟨dh_e_45, List.forall_mem_cons.mpr ⟨dh_e_46, List.forall_mem_cons.mpr ⟨dh_e_47, List.forall_mem_cons.mpr ⟨dh_e_48, List.forall_mem_cons.mpr ⟨dh_e_49, List.forall_mem_cons.mpr ⟨dh_e_50, List.forall_mem_cons.mpr ⟨dh_e_51, List.forall_mem_cons.mpr ⟨dh_e_52, List.forall_mem_cons.mpr ⟨dh_e_53, List.forall_mem_cons.mpr ⟨dh_e_54, List.forall_mem_cons.mpr ⟨dh_e_55, List.forall_mem_cons.mpr ⟨dh_e_56, List.forall_mem_cons.mpr ⟨dh_e_57, List.forall_mem_cons.mpr ⟨dh_e_58, List.forall_mem_cons.mpr ⟨dh_e_59, fun _ h => absurd h List.not_mem_nil⟩⟩⟩⟩⟩⟩⟩⟩⟩⟩⟩⟩⟩⟩⟩⟩⟩⟩⟩⟩⟩⟩⟩⟩⟩⟩⟩⟩⟩⟩
theorem dh_kk_2 : ∀ q ∈ dh_K_2, jm_kok dh_cn dh_J dh_W dh_M dh_nl dh_rc q := List.forall_mem_cons.mpr ⟨dh_e_60, List.forall_mem_cons.mpr ⟨dh_e_61, List.forall_mem_cons.mpr ⟨dh_e_62, List.forall_mem_cons.mpr ⟨dh_e_63, List.forall_mem_cons.mpr ⟨dh_e_64, List.forall_mem_cons.mpr ⟨dh_e_65, List.forall_mem_cons.mpr ⟨dh_e_66, List.forall_mem_cons.mpr ⟨dh_e_67, List.forall_mem_cons.mpr ⟨dh_e_68, List.forall_mem_cons.mpr ⟨dh_e_69, List.forall_mem_cons.mpr ⟨dh_e_70, List.forall_mem_cons.mpr ⟨dh_e_71, List.forall_mem_cons.mpr ⟨dh_e_72, List.forall_mem_cons.mpr ⟨dh_e_73, List.forall_mem_cons.mpr ⟨dh_e_74, List.forall_mem_cons.mpr ⟨dh_e_75, List.forall_mem_cons.mpr ⟨dh_e_76, List.forall_mem_cons.mpr ⟨dh_e_77, List.forall_mem_cons.mpr ⟨dh_e_78, List.forall_mem_cons.mpr ⟨dh_e_79, List.forall_mem_cons.mpr ⟨dh_e_80, List.forall_mem_cons.mpr ⟨dh_e_81, List.forall_mem_cons.mpr ⟨dh_e_82, List.forall_mem_cons.mpr ⟨dh_e_83, List.forall_mem_cons.mpr ⟨dh_e_84, List.forall_mem_cons.mpr ⟨dh_e_85, List.forall_mem_cons.mpr ⟨dh_e_86, List.forall_mem_cons.mpr ⟨dh_e_87, List.forall_mem_cons.mpr ⟨dh_e_88, List.forall_mem_cons.mpr ⟨dh_e_89, fun _ h => absurd h List.not_mem_nil⟩⟩⟩⟩⟩⟩⟩⟩⟩⟩⟩⟩⟩⟩⟩⟩⟩⟩⟩⟩⟩⟩⟩⟩⟩⟩⟩⟩⟩⟩
theorem dh_kk_3 : ∀ q ∈ dh_K_3, jm_kok dh_cn dh_J dh_W dh_M dh_nl dh_rc q := List.forall_mem_cons.mpr ⟨dh_e_90, List.forall_mem_cons.mpr ⟨dh_e_91, List.forall_mem_cons.mpr ⟨dh_e_92, List.forall_mem_cons.mpr ⟨dh_e_93, List.forall_mem_cons.mpr ⟨dh_e_94, List.forall_mem_cons.mpr ⟨dh_e_95, List.forall_mem_cons.mpr ⟨dh_e_96, List.forall_mem_cons.mpr ⟨dh_e_97, List.forall_mem_cons.mpr ⟨dh_e_98, List.forall_mem_cons.mpr ⟨dh_e_99, List.forall_mem_cons.mpr ⟨dh_e_100, List.forall_mem_cons.mpr ⟨dh_e_101, List.forall_mem_cons.mpr ⟨dh_e_102, List.forall_mem_cons.mpr ⟨dh_e_103, List.forall_mem_cons.mpr ⟨dh_e_104, List.forall_mem_cons.mpr ⟨dh_e_105, List.forall_mem_cons.mpr ⟨dh_e_106, List.forall_mem_cons.mpr ⟨dh_e_107, List.forall_mem_cons.mpr ⟨dh_e_108, List.forall_mem_cons.mpr ⟨dh_e_109, List.forall_mem_cons.mpr ⟨dh_e_110, List.forall_mem_cons.mpr ⟨dh_e_111, List.forall_mem_cons.mpr ⟨dh_e_112, List.forall_mem_cons.mpr ⟨dh_e_113, List.forall_mem_cons.mpr ⟨dh_e_114, List.forall_mem_cons.mpr ⟨dh_e_115, List.forall_mem_cons.mpr ⟨dh_e_116, List.forall_mem_cons.mpr ⟨dh_e_117, List.forall_mem_cons.mpr ⟨dh_e_118, List.forall_mem_cons.mpr ⟨dh_e_119, fun _ h => absurd h List.not_mem_nil⟩⟩⟩⟩⟩⟩⟩⟩⟩⟩⟩⟩⟩⟩⟩⟩⟩⟩⟩⟩⟩⟩⟩⟩⟩⟩⟩⟩⟩⟩
theorem dh_kk_4 : ∀ q ∈ dh_K_4, jm_kok dh_cn dh_J dh_W dh_M dh_nl dh_rc q := List.forall_mem_cons.mpr ⟨dh_e_120, List.forall_mem_cons.mpr ⟨dh_e_121, List.forall_mem_cons.mpr ⟨dh_e_122, List.forall_mem_cons.mpr ⟨dh_e_123, List.forall_mem_cons.mpr ⟨dh_e_124, List.forall_mem_cons.mpr ⟨dh_e_125, List.forall_mem_cons.mpr ⟨dh_e_126, List.forall_mem_cons.mpr ⟨dh_e_127, List.forall_mem_cons.mpr ⟨dh_e_128, List.forall_mem_cons.mpr ⟨dh_e_129, List.forall_mem_cons.mpr ⟨dh_e_130, List.forall_mem_cons.mpr ⟨dh_e_131, List.forall_mem_cons.mpr ⟨dh_e_132, List.forall_mem_cons.mpr ⟨dh_e_133, List.forall_mem_cons.mpr ⟨dh_e_134, List.forall_mem_cons.mpr ⟨dh_e_135, List.forall_mem_cons.mpr ⟨dh_e_136, List.forall_mem_cons.mpr ⟨dh_e_137, List.forall_mem_cons.mpr ⟨dh_e_138, List.forall_mem_cons.mpr ⟨dh_e_139, List.forall_mem_cons.mpr ⟨dh_e_140, List.forall_mem_cons.mpr ⟨dh_e_141, List.forall_mem_cons.mpr ⟨dh_e_142, List.forall_mem_cons.mpr ⟨dh_e_143, List.forall_mem_cons.mpr ⟨dh_e_144, List.forall_mem_cons.mpr ⟨dh_e_145, List.forall_mem_cons.mpr ⟨dh_e_146, List.forall_mem_cons.mpr ⟨dh_e_147, List.forall_mem_cons.mpr ⟨dh_e_148, List.forall_mem_cons.mpr ⟨dh_e_149, fun _ h => absurd h List.not_mem_nil⟩⟩⟩⟩⟩⟩⟩⟩⟩⟩⟩⟩⟩⟩⟩⟩⟩⟩⟩⟩⟩⟩⟩⟩⟩⟩⟩⟩⟩⟩
theorem dh_kk_5 : ∀ q ∈ dh_K_5, jm_kok dh_cn dh_J dh_W dh_M dh_nl dh_rc q := List.forall_mem_cons.mpr ⟨dh_e_150, List.forall_mem_cons.mpr ⟨dh_e_151, List.forall_mem_cons.mpr ⟨dh_e_152, List.forall_mem_cons.mpr ⟨dh_e_153, List.forall_mem_cons.mpr ⟨dh_e_154, List.forall_mem_cons.mpr ⟨dh_e_155, List.forall_mem_cons.mpr ⟨dh_e_156, List.forall_mem_cons.mpr ⟨dh_e_157, List.forall_mem_cons.mpr ⟨dh_e_158, List.forall_mem_cons.mpr ⟨dh_e_159, List.forall_mem_cons.mpr ⟨dh_e_160, List.forall_mem_cons.mpr ⟨dh_e_161, List.forall_mem_cons.mpr ⟨dh_e_162, List.forall_mem_cons.mpr ⟨dh_e_163, List.forall_mem_cons.mpr ⟨dh_e_164, List.forall_mem_cons.mpr ⟨dh_e_165, List.forall_mem_cons.mpr ⟨dh_e_166, List.forall_mem_cons.mpr ⟨dh_e_167, List.forall_mem_cons.mpr ⟨dh_e_168, List.forall_mem_cons.mpr ⟨dh_e_169, List.forall_mem_cons.mpr ⟨dh_e_170, List.forall_mem_cons.mpr ⟨dh_e_171, List.forall_mem_cons.mpr ⟨dh_e_172, List.forall_mem_cons.mpr ⟨dh_e_173, List.forall_mem_cons.mpr ⟨dh_e_174, List.forall_mem_cons.mpr ⟨dh_e_175, List.forall_mem_cons.mpr ⟨dh_e_176, List.forall_mem_cons.mpr ⟨dh_e_177, List.forall_mem_cons.mpr ⟨dh_e_178, List.forall_mem_cons.mpr ⟨dh_e_179, fun _ h => absurd h List.not_mem_nil⟩⟩⟩⟩⟩⟩⟩⟩⟩⟩⟩⟩⟩⟩⟩⟩⟩⟩⟩⟩⟩⟩⟩⟩⟩⟩⟩⟩⟩⟩
theorem dh_kk_6 : ∀ q ∈ dh_K_6, jm_kok dh_cn dh_J dh_W dh_M dh_nl dh_rc q := List.forall_mem_cons.mpr ⟨dh_e_180, List.forall_mem_cons.mpr ⟨dh_e_181, List.forall_mem_cons.mpr ⟨dh_e_182, List.forall_mem_cons.mpr ⟨dh_e_183, List.forall_mem_cons.mpr ⟨dh_e_184, List.forall_mem_cons.mpr ⟨dh_e_185, List.forall_mem_cons.mpr ⟨dh_e_186, List.forall_mem_cons.mpr ⟨dh_e_187, List.forall_mem_cons.mpr ⟨dh_e_188, List.forall_mem_cons.mpr ⟨dh_e_189, List.forall_mem_cons.mpr ⟨dh_e_190, List.forall_mem_cons.mpr ⟨dh_e_191, List.forall_mem_cons.mpr ⟨dh_e_192, List.forall_mem_cons.mpr ⟨dh_e_193, List.forall_mem_cons.mpr ⟨dh_e_194, List.forall_mem_cons.mpr ⟨dh_e_195, List.forall_mem_cons.mpr ⟨dh_e_196, List.forall_mem_cons.mpr ⟨dh_e_197, List.forall_mem_cons.mpr ⟨dh_e_198, List.forall_mem_cons.mpr ⟨dh_e_199, List.forall_mem_cons.mpr ⟨dh_e_200, List.forall_mem_cons.mpr ⟨dh_e_201, List.forall_mem_cons.mpr ⟨dh_e_202, List.forall_mem_cons.mpr ⟨dh_e_203, List.forall_mem_cons.mpr ⟨dh_e_204, List.forall_mem_cons.mpr ⟨dh_e_205, List.forall_mem_cons.mpr ⟨dh_e_206, List.forall_mem_cons.mpr ⟨dh_e_207, List.forall_mem_cons.mpr ⟨dh_e_208, List.forall_mem_cons.mpr ⟨dh_e_209, fun _ h => absurd h List.not_mem_nil⟩⟩⟩⟩⟩⟩⟩⟩⟩⟩⟩⟩⟩⟩⟩⟩⟩⟩⟩⟩⟩⟩⟩⟩⟩⟩⟩⟩⟩⟩
theorem dh_kk_7 : ∀ q ∈ dh_K_7, jm_kok dh_cn dh_J dh_W dh_M dh_nl dh_rc q := List.forall_mem_cons.mpr ⟨dh_e_210, List.forall_mem_cons.mpr ⟨dh_e_211, List.forall_mem_cons.mpr ⟨dh_e_212, List.forall_mem_cons.mpr ⟨dh_e_213, List.forall_mem_cons.mpr ⟨dh_e_214, List.forall_mem_cons.mpr ⟨dh_e_215, List.forall_mem_cons.mpr ⟨dh_e_216, List.forall_mem_cons.mpr ⟨dh_e_217, List.forall_mem_cons.mpr ⟨dh_e_218, List.forall_mem_cons.mpr ⟨dh_e_219, List.forall_mem_cons.mpr ⟨dh_e_220, List.forall_mem_cons.mpr ⟨dh_e_221, List.forall_mem_cons.mpr ⟨dh_e_222, List.forall_mem_cons.mpr ⟨dh_e_223, List.forall_mem_cons.mpr ⟨dh_e_224, List.forall_mem_cons.mpr ⟨dh_e_225, List.forall_mem_cons.mpr ⟨dh_e_226, List.forall_mem_cons.mpr ⟨dh_e_227, List.forall_mem_cons.mpr ⟨dh_e_228, List.forall_mem_cons.mpr ⟨dh_e_229, List.forall_mem_cons.mpr ⟨dh_e_230, List.forall_mem_cons.mpr ⟨dh_e_231, List.forall_mem_cons.mpr ⟨dh_e_232, List.forall_mem_cons.mpr ⟨dh_e_233, List.forall_mem_cons.mpr ⟨dh_e_234, List.forall_mem_cons.mpr ⟨dh_e_235, List.forall_mem_cons.mpr ⟨dh_e_236, List.forall_mem_cons.mpr ⟨dh_e_237, List.forall_mem_cons.mpr ⟨dh_e_238, List.forall_mem_cons.mpr ⟨dh_e_239, fun _ h => absurd h List.not_mem_nil⟩⟩⟩⟩⟩⟩⟩⟩⟩⟩⟩⟩⟩⟩⟩⟩⟩⟩⟩⟩⟩⟩⟩⟩⟩⟩⟩⟩⟩⟩
theorem dh_kk_8 : ∀ q ∈ dh_K_8, jm_kok dh_cn dh_J dh_W dh_M dh_nl dh_rc q := List.forall_mem_cons.mpr ⟨dh_e_240, List.forall_mem_cons.mpr ⟨dh_e_241, List.forall_mem_cons.mpr ⟨dh_e_242, List.forall_mem_cons.mpr ⟨dh_e_243, List.forall_mem_cons.mpr ⟨dh_e_244, List.forall_mem_cons.mpr ⟨dh_e_245, List.forall_mem_cons.mpr ⟨dh_e_246, List.forall_mem_cons.mpr ⟨dh_e_247, List.forall_mem_cons.mpr ⟨dh_e_248, List.forall_mem_cons.mpr ⟨dh_e_249, List.forall_mem_cons.mpr ⟨dh_e_250, List.forall_mem_cons.mpr ⟨dh_e_251, List.forall_mem_cons.mpr ⟨dh_e_252, List.forall_mem_cons.mpr ⟨dh_e_253, List.forall_mem_cons.mpr ⟨dh_e_254, List.forall_mem_cons.mpr ⟨dh_e_255, List.forall_mem_cons.mpr ⟨dh_e_256, List.forall_mem_cons.mpr ⟨dh_e_257, List.forall_mem_cons.mpr ⟨dh_e_258, List.forall_mem_cons.mpr ⟨dh_e_259, List.forall_mem_cons.mpr ⟨dh_e_260, List.forall_mem_cons.mpr ⟨dh_e_261, List.forall_mem_cons.mpr ⟨dh_e_262, List.forall_mem_cons.mpr ⟨dh_e_263, List.forall_mem_cons.mpr ⟨dh_e_264, List.forall_mem_cons.mpr ⟨dh_e_265, List.forall_mem_cons.mpr ⟨dh_e_266, List.forall_mem_cons.mpr ⟨dh_e_267, List.forall_mem_cons.mpr ⟨dh_e_268, List.forall_mem_cons.mpr ⟨dh_e_269, fun _ h => absurd h List.not_mem_nil⟩⟩⟩⟩⟩⟩⟩⟩⟩⟩⟩⟩⟩⟩⟩⟩⟩⟩⟩⟩⟩⟩⟩⟩⟩⟩⟩⟩⟩⟩
theorem dh_kk_9 : ∀ q ∈ dh_K_9, jm_kok dh_cn dh_J dh_W dh_M dh_nl dh_rc q := List.forall_mem_cons.mpr ⟨dh_e_270, List.forall_mem_cons.mpr ⟨dh_e_271, List.forall_mem_cons.mpr ⟨dh_e_272, List.forall_mem_cons.mpr ⟨dh_e_273, List.forall_mem_cons.mpr ⟨dh_e_274, List.forall_mem_cons.mpr ⟨dh_e_275, List.forall_mem_cons.mpr ⟨dh_e_276, List.forall_mem_cons.mpr ⟨dh_e_277, List.forall_mem_cons.mpr ⟨dh_e_278, List.forall_mem_cons.mpr ⟨dh_e_279, List.forall_mem_cons.mpr ⟨dh_e_280, List.forall_mem_cons.mpr ⟨dh_e_281, List.forall_mem_cons.mpr ⟨dh_e_282, List.forall_mem_cons.mpr ⟨dh_e_283, List.forall_mem_cons.mpr ⟨dh_e_284, List.forall_mem_cons.mpr ⟨dh_e_285, List.forall_mem_cons.mpr ⟨dh_e_286, List.forall_mem_cons.mpr ⟨dh_e_287, List.forall_mem_cons.mpr ⟨dh_e_288, List.forall_mem_cons.mpr ⟨dh_e_289, List.forall_mem_cons.mpr ⟨dh_e_290, List.forall_mem_cons.mpr ⟨dh_e_291, List.forall_mem_cons.mpr ⟨dh_e_292, List.forall_mem_cons.mpr ⟨dh_e_293, List.forall_mem_cons.mpr ⟨dh_e_294, List.forall_mem_cons.mpr ⟨dh_e_295, List.forall_mem_cons.mpr ⟨dh_e_296, List.forall_mem_cons.mpr ⟨dh_e_297, List.forall_mem_cons.mpr ⟨dh_e_298, List.forall_mem_cons.mpr ⟨dh_e_299, fun _ h => absurd h List.not_mem_nil⟩⟩⟩⟩⟩⟩⟩⟩⟩⟩⟩⟩⟩⟩⟩⟩⟩⟩⟩⟩⟩⟩⟩⟩⟩⟩⟩⟩⟩⟩
theorem dh_kk_10 : ∀ q ∈ dh_K_10, jm_kok dh_cn dh_J dh_W dh_M dh_nl dh_rc q := List.forall_mem_cons.mpr ⟨dh_e_300, List.forall_mem_cons.mpr ⟨dh_e_301, List.forall_mem_cons.mpr ⟨dh_e_302, List.forall_mem_cons.mpr ⟨dh_e_303, List.forall_mem_cons.mpr ⟨dh_e_304, List.forall_mem_cons.mpr ⟨dh_e_305, List.forall_mem_cons.mpr ⟨dh_e_306, List.forall_mem_cons.mpr ⟨dh_e_307, List.forall_mem_cons.mpr ⟨dh_e_308, List.forall_mem_cons.mpr ⟨dh_e_309, List.forall_mem_cons.mpr ⟨dh_e_310, List.forall_mem_cons.mpr ⟨dh_e_311, List.forall_mem_cons.mpr ⟨dh_e_312, List.forall_mem_cons.mpr ⟨dh_e_313, List.forall_mem_cons.mpr ⟨dh_e_314, fun _ h => absurd h List.not_mem_nil⟩⟩⟩⟩⟩⟩⟩⟩⟩⟩⟩⟩⟩⟩⟩
theorem dh_kok : ∀ q ∈ dh_K, jm_kok dh_cn dh_J dh_W dh_M dh_nl dh_rc q := by
  unfold dh_K
  exact List.forall_mem_append.mpr ⟨dh_kk_0, List.forall_mem_append.mpr ⟨dh_kk_1, List.forall_mem_append.mpr ⟨dh_kk_2, List.forall_mem_append.mpr ⟨dh_kk_3, List.forall_mem_append.mpr ⟨dh_kk_4, List.forall_mem_append.mpr ⟨dh_kk_5, List.forall_mem_append.mpr ⟨dh_kk_6, List.forall_mem_append.mpr ⟨dh_kk_7, List.forall_mem_append.mpr ⟨dh_kk_8, List.forall_mem_append.mpr ⟨dh_kk_9, dh_kk_10⟩⟩⟩⟩⟩⟩⟩⟩⟩⟩
end
section
/-! The code passes the check. -/
def dh_cb (i : Nat) (q : Nat × jm_In) : Bool := jm_cb dh_K dh_J dh_sw (dh_M i).2.1 (dh_oc i) (dh_nl i) (dh_ini i) (dh_M i).2.2.1 q
set_option maxRecDepth 100000 in
theorem dh_c0_0_ok : dh_c0_0.all (dh_cb 0) = true := by decide +kernel
set_option maxRecDepth 100000 in
theorem dh_c0_1_ok : dh_c0_1.all (dh_cb 0) = true := by decide +kernel
theorem dh_c0_ok : dh_c0.all (dh_cb 0) = true := by
  unfold dh_c0
  simp only [List.all_append, dh_c0_0_ok, dh_c0_1_ok, Bool.and_self]
set_option maxRecDepth 100000 in
theorem dh_c1_ok : dh_c1.all (dh_cb 1) = true := by decide +kernel
set_option maxRecDepth 100000 in
theorem dh_c2_ok : dh_c2.all (dh_cb 2) = true := by decide +kernel
set_option maxRecDepth 100000 in
theorem dh_c3_ok : dh_c3.all (dh_cb 3) = true := by decide +kernel
set_option maxRecDepth 100000 in
theorem dh_c4_ok : dh_c4.all (dh_cb 4) = true := by decide +kernel
set_option maxRecDepth 100000 in
theorem dh_c5_ok : dh_c5.all (dh_cb 5) = true := by decide +kernel
set_option maxRecDepth 100000 in
theorem dh_c6_ok : dh_c6.all (dh_cb 6) = true := by decide +kernel
set_option maxRecDepth 100000 in
theorem dh_c7_ok : dh_c7.all (dh_cb 7) = true := by decide +kernel
set_option maxRecDepth 100000 in
theorem dh_c8_0_ok : dh_c8_0.all (dh_cb 8) = true := by decide +kernel
set_option maxRecDepth 100000 in
theorem dh_c8_1_ok : dh_c8_1.all (dh_cb 8) = true := by decide +kernel
theorem dh_c8_ok : dh_c8.all (dh_cb 8) = true := by
  unfold dh_c8
  simp only [List.all_append, dh_c8_0_ok, dh_c8_1_ok, Bool.and_self]
set_option maxRecDepth 100000 in
theorem dh_c9_ok : dh_c9.all (dh_cb 9) = true := by decide +kernel
set_option maxRecDepth 100000 in
theorem dh_c10_ok : dh_c10.all (dh_cb 10) = true := by decide +kernel
set_option maxRecDepth 100000 in
theorem dh_c11_ok : dh_c11.all (dh_cb 11) = true := by decide +kernel
set_option maxRecDepth 100000 in
theorem dh_c12_ok : dh_c12.all (dh_cb 12) = true := by decide +kernel
set_option maxRecDepth 100000 in
theorem dh_c13_ok : dh_c13.all (dh_cb 13) = true := by decide +kernel
set_option maxRecDepth 100000 in
theorem dh_c14_ok : dh_c14.all (dh_cb 14) = true := by decide +kernel
set_option maxRecDepth 100000 in
theorem dh_c15_ok : dh_c15.all (dh_cb 15) = true := by decide +kernel
set_option maxRecDepth 100000 in
theorem dh_c16_ok : dh_c16.all (dh_cb 16) = true := by decide +kernel
set_option maxRecDepth 100000 in
theorem dh_c17_ok : dh_c17.all (dh_cb 17) = true := by decide +kernel
set_option maxRecDepth 100000 in
theorem dh_c18_ok : dh_c18.all (dh_cb 18) = true := by decide +kernel
set_option maxRecDepth 100000 in
theorem dh_c19_ok : dh_c19.all (dh_cb 19) = true := by decide +kernel
set_option maxRecDepth 100000 in
theorem dh_c20_ok : dh_c20.all (dh_cb 20) = true := by decide +kernel
set_option maxRecDepth 100000 in
theorem dh_c21_ok : dh_c21.all (dh_cb 21) = true := by decide +kernel
set_option maxRecDepth 100000 in
theorem dh_c22_ok : dh_c22.all (dh_cb 22) = true := by decide +kernel
set_option maxRecDepth 100000 in
theorem dh_c23_ok : dh_c23.all (dh_cb 23) = true := by decide +kernel
set_option maxRecDepth 100000 in
theorem dh_c24_ok : dh_c24.all (dh_cb 24) = true := by decide +kernel
set_option maxRecDepth 100000 in
theorem dh_c25_ok : dh_c25.all (dh_cb 25) = true := by decide +kernel
end
section
/-! The code passes the check. -/
set_option maxRecDepth 100000 in
theorem dh_c26_ok : dh_c26.all (dh_cb 26) = true := by decide +kernel
set_option maxRecDepth 100000 in
theorem dh_c27_0_ok : dh_c27_0.all (dh_cb 27) = true := by decide +kernel
set_option maxRecDepth 100000 in
theorem dh_c27_1_ok : dh_c27_1.all (dh_cb 27) = true := by decide +kernel
set_option maxRecDepth 100000 in
theorem dh_c27_2_ok : dh_c27_2.all (dh_cb 27) = true := by decide +kernel
theorem dh_c27_ok : dh_c27.all (dh_cb 27) = true := by
  unfold dh_c27
  simp only [List.all_append, dh_c27_0_ok, dh_c27_1_ok, dh_c27_2_ok, Bool.and_self]
set_option maxRecDepth 100000 in
theorem dh_c28_ok : dh_c28.all (dh_cb 28) = true := by decide +kernel
set_option maxRecDepth 100000 in
theorem dh_c29_ok : dh_c29.all (dh_cb 29) = true := by decide +kernel
set_option maxRecDepth 100000 in
theorem dh_c30_ok : dh_c30.all (dh_cb 30) = true := by decide +kernel
set_option maxRecDepth 100000 in
theorem dh_c31_ok : dh_c31.all (dh_cb 31) = true := by decide +kernel
set_option maxRecDepth 100000 in
theorem dh_c32_ok : dh_c32.all (dh_cb 32) = true := by decide +kernel
set_option maxRecDepth 100000 in
theorem dh_c33_ok : dh_c33.all (dh_cb 33) = true := by decide +kernel
set_option maxRecDepth 100000 in
theorem dh_c34_ok : dh_c34.all (dh_cb 34) = true := by decide +kernel
set_option maxRecDepth 100000 in
theorem dh_c35_ok : dh_c35.all (dh_cb 35) = true := by decide +kernel
set_option maxRecDepth 100000 in
theorem dh_c36_ok : dh_c36.all (dh_cb 36) = true := by decide +kernel
set_option maxRecDepth 100000 in
theorem dh_c37_ok : dh_c37.all (dh_cb 37) = true := by decide +kernel
set_option maxRecDepth 100000 in
theorem dh_c38_ok : dh_c38.all (dh_cb 38) = true := by decide +kernel
set_option maxRecDepth 100000 in
theorem dh_c39_ok : dh_c39.all (dh_cb 39) = true := by decide +kernel
set_option maxRecDepth 100000 in
theorem dh_c40_0_ok : dh_c40_0.all (dh_cb 40) = true := by decide +kernel
set_option maxRecDepth 100000 in
theorem dh_c40_1_ok : dh_c40_1.all (dh_cb 40) = true := by decide +kernel
theorem dh_c40_ok : dh_c40.all (dh_cb 40) = true := by
  unfold dh_c40
  simp only [List.all_append, dh_c40_0_ok, dh_c40_1_ok, Bool.and_self]
set_option maxRecDepth 100000 in
theorem dh_c41_ok : dh_c41.all (dh_cb 41) = true := by decide +kernel
set_option maxRecDepth 100000 in
theorem dh_c42_ok : dh_c42.all (dh_cb 42) = true := by decide +kernel
set_option maxRecDepth 100000 in
theorem dh_c43_0_ok : dh_c43_0.all (dh_cb 43) = true := by decide +kernel
set_option maxRecDepth 100000 in
theorem dh_c43_1_ok : dh_c43_1.all (dh_cb 43) = true := by decide +kernel
theorem dh_c43_ok : dh_c43.all (dh_cb 43) = true := by
  unfold dh_c43
  simp only [List.all_append, dh_c43_0_ok, dh_c43_1_ok, Bool.and_self]
set_option maxRecDepth 100000 in
theorem dh_c44_ok : dh_c44.all (dh_cb 44) = true := by decide +kernel
set_option maxRecDepth 100000 in
theorem dh_c45_0_ok : dh_c45_0.all (dh_cb 45) = true := by decide +kernel
set_option maxRecDepth 100000 in
theorem dh_c45_1_ok : dh_c45_1.all (dh_cb 45) = true := by decide +kernel
theorem dh_c45_ok : dh_c45.all (dh_cb 45) = true := by
  unfold dh_c45
  simp only [List.all_append, dh_c45_0_ok, dh_c45_1_ok, Bool.and_self]
set_option maxRecDepth 100000 in
theorem dh_c46_ok : dh_c46.all (dh_cb 46) = true := by decide +kernel
end
section
/-! The code passes the check. -/
set_option maxRecDepth 100000 in
theorem dh_c47_ok : dh_c47.all (dh_cb 47) = true := by decide +kernel
set_option maxRecDepth 100000 in
theorem dh_c48_0_ok : dh_c48_0.all (dh_cb 48) = true := by decide +kernel
set_option maxRecDepth 100000 in
theorem dh_c48_1_ok : dh_c48_1.all (dh_cb 48) = true := by decide +kernel
theorem dh_c48_ok : dh_c48.all (dh_cb 48) = true := by
  unfold dh_c48
  simp only [List.all_append, dh_c48_0_ok, dh_c48_1_ok, Bool.and_self]
set_option maxRecDepth 100000 in
theorem dh_c49_ok : dh_c49.all (dh_cb 49) = true := by decide +kernel
set_option maxRecDepth 100000 in
theorem dh_c50_ok : dh_c50.all (dh_cb 50) = true := by decide +kernel
set_option maxRecDepth 100000 in
theorem dh_c51_ok : dh_c51.all (dh_cb 51) = true := by decide +kernel
set_option maxRecDepth 100000 in
theorem dh_c52_ok : dh_c52.all (dh_cb 52) = true := by decide +kernel
set_option maxRecDepth 100000 in
theorem dh_c53_ok : dh_c53.all (dh_cb 53) = true := by decide +kernel
set_option maxRecDepth 100000 in
theorem dh_c54_ok : dh_c54.all (dh_cb 54) = true := by decide +kernel
set_option maxRecDepth 100000 in
theorem dh_c55_ok : dh_c55.all (dh_cb 55) = true := by decide +kernel
set_option maxRecDepth 100000 in
theorem dh_c56_ok : dh_c56.all (dh_cb 56) = true := by decide +kernel
set_option maxRecDepth 100000 in
theorem dh_c57_0_ok : dh_c57_0.all (dh_cb 57) = true := by decide +kernel
set_option maxRecDepth 100000 in
theorem dh_c57_1_ok : dh_c57_1.all (dh_cb 57) = true := by decide +kernel
set_option maxRecDepth 100000 in
theorem dh_c57_2_ok : dh_c57_2.all (dh_cb 57) = true := by decide +kernel
theorem dh_c57_ok : dh_c57.all (dh_cb 57) = true := by
  unfold dh_c57
  simp only [List.all_append, dh_c57_0_ok, dh_c57_1_ok, dh_c57_2_ok, Bool.and_self]
set_option maxRecDepth 100000 in
theorem dh_c58_ok : dh_c58.all (dh_cb 58) = true := by decide +kernel
set_option maxRecDepth 100000 in
theorem dh_c59_ok : dh_c59.all (dh_cb 59) = true := by decide +kernel
set_option maxRecDepth 100000 in
theorem dh_c60_ok : dh_c60.all (dh_cb 60) = true := by decide +kernel
set_option maxRecDepth 100000 in
theorem dh_c61_ok : dh_c61.all (dh_cb 61) = true := by decide +kernel
set_option maxRecDepth 100000 in
theorem dh_c62_ok : dh_c62.all (dh_cb 62) = true := by decide +kernel
set_option maxRecDepth 100000 in
theorem dh_c63_ok : dh_c63.all (dh_cb 63) = true := by decide +kernel
set_option maxRecDepth 100000 in
theorem dh_c64_ok : dh_c64.all (dh_cb 64) = true := by decide +kernel
set_option maxRecDepth 100000 in
theorem dh_c65_0_ok : dh_c65_0.all (dh_cb 65) = true := by decide +kernel
set_option maxRecDepth 100000 in
theorem dh_c65_1_ok : dh_c65_1.all (dh_cb 65) = true := by decide +kernel
theorem dh_c65_ok : dh_c65.all (dh_cb 65) = true := by
  unfold dh_c65
  simp only [List.all_append, dh_c65_0_ok, dh_c65_1_ok, Bool.and_self]
set_option maxRecDepth 100000 in
theorem dh_c66_ok : dh_c66.all (dh_cb 66) = true := by decide +kernel
set_option maxRecDepth 100000 in
theorem dh_c67_0_ok : dh_c67_0.all (dh_cb 67) = true := by decide +kernel
set_option maxRecDepth 100000 in
theorem dh_c67_1_ok : dh_c67_1.all (dh_cb 67) = true := by decide +kernel
set_option maxRecDepth 100000 in
theorem dh_c67_2_ok : dh_c67_2.all (dh_cb 67) = true := by decide +kernel
end
section
/-! The code passes the check. -/
theorem dh_c67_ok : dh_c67.all (dh_cb 67) = true := by
  unfold dh_c67
  simp only [List.all_append, dh_c67_0_ok, dh_c67_1_ok, dh_c67_2_ok, Bool.and_self]
set_option maxRecDepth 100000 in
theorem dh_c68_0_ok : dh_c68_0.all (dh_cb 68) = true := by decide +kernel
set_option maxRecDepth 100000 in
theorem dh_c68_1_ok : dh_c68_1.all (dh_cb 68) = true := by decide +kernel
theorem dh_c68_ok : dh_c68.all (dh_cb 68) = true := by
  unfold dh_c68
  simp only [List.all_append, dh_c68_0_ok, dh_c68_1_ok, Bool.and_self]
set_option maxRecDepth 100000 in
theorem dh_c69_ok : dh_c69.all (dh_cb 69) = true := by decide +kernel
set_option maxRecDepth 100000 in
theorem dh_c70_ok : dh_c70.all (dh_cb 70) = true := by decide +kernel
set_option maxRecDepth 100000 in
theorem dh_c71_ok : dh_c71.all (dh_cb 71) = true := by decide +kernel
set_option maxRecDepth 100000 in
theorem dh_c72_0_ok : dh_c72_0.all (dh_cb 72) = true := by decide +kernel
set_option maxRecDepth 100000 in
theorem dh_c72_1_ok : dh_c72_1.all (dh_cb 72) = true := by decide +kernel
theorem dh_c72_ok : dh_c72.all (dh_cb 72) = true := by
  unfold dh_c72
  simp only [List.all_append, dh_c72_0_ok, dh_c72_1_ok, Bool.and_self]
set_option maxRecDepth 100000 in
theorem dh_c73_ok : dh_c73.all (dh_cb 73) = true := by decide +kernel
set_option maxRecDepth 100000 in
theorem dh_c74_ok : dh_c74.all (dh_cb 74) = true := by decide +kernel
set_option maxRecDepth 100000 in
theorem dh_c75_0_ok : dh_c75_0.all (dh_cb 75) = true := by decide +kernel
set_option maxRecDepth 100000 in
theorem dh_c75_1_ok : dh_c75_1.all (dh_cb 75) = true := by decide +kernel
theorem dh_c75_ok : dh_c75.all (dh_cb 75) = true := by
  unfold dh_c75
  simp only [List.all_append, dh_c75_0_ok, dh_c75_1_ok, Bool.and_self]
set_option maxRecDepth 100000 in
theorem dh_c76_0_ok : dh_c76_0.all (dh_cb 76) = true := by decide +kernel
set_option maxRecDepth 100000 in
theorem dh_c76_1_ok : dh_c76_1.all (dh_cb 76) = true := by decide +kernel
theorem dh_c76_ok : dh_c76.all (dh_cb 76) = true := by
  unfold dh_c76
  simp only [List.all_append, dh_c76_0_ok, dh_c76_1_ok, Bool.and_self]
set_option maxRecDepth 100000 in
theorem dh_c77_ok : dh_c77.all (dh_cb 77) = true := by decide +kernel
set_option maxRecDepth 100000 in
theorem dh_c78_ok : dh_c78.all (dh_cb 78) = true := by decide +kernel
set_option maxRecDepth 100000 in
theorem dh_c79_ok : dh_c79.all (dh_cb 79) = true := by decide +kernel
set_option maxRecDepth 100000 in
theorem dh_c80_ok : dh_c80.all (dh_cb 80) = true := by decide +kernel
set_option maxRecDepth 100000 in
theorem dh_c81_ok : dh_c81.all (dh_cb 81) = true := by decide +kernel
set_option maxRecDepth 100000 in
theorem dh_c82_ok : dh_c82.all (dh_cb 82) = true := by decide +kernel
set_option maxRecDepth 100000 in
theorem dh_c83_ok : dh_c83.all (dh_cb 83) = true := by decide +kernel
set_option maxRecDepth 100000 in
theorem dh_c84_ok : dh_c84.all (dh_cb 84) = true := by decide +kernel
set_option maxRecDepth 100000 in
theorem dh_c85_ok : dh_c85.all (dh_cb 85) = true := by decide +kernel
set_option maxRecDepth 100000 in
theorem dh_c86_ok : dh_c86.all (dh_cb 86) = true := by decide +kernel
set_option maxRecDepth 100000 in
theorem dh_c87_ok : dh_c87.all (dh_cb 87) = true := by decide +kernel
set_option maxRecDepth 100000 in
theorem dh_c88_ok : dh_c88.all (dh_cb 88) = true := by decide +kernel
end
section
/-! The code passes the check. -/
set_option maxRecDepth 100000 in
theorem dh_c89_0_ok : dh_c89_0.all (dh_cb 89) = true := by decide +kernel
set_option maxRecDepth 100000 in
theorem dh_c89_1_ok : dh_c89_1.all (dh_cb 89) = true := by decide +kernel
theorem dh_c89_ok : dh_c89.all (dh_cb 89) = true := by
  unfold dh_c89
  simp only [List.all_append, dh_c89_0_ok, dh_c89_1_ok, Bool.and_self]
set_option maxRecDepth 100000 in
theorem dh_c90_0_ok : dh_c90_0.all (dh_cb 90) = true := by decide +kernel
set_option maxRecDepth 100000 in
theorem dh_c90_1_ok : dh_c90_1.all (dh_cb 90) = true := by decide +kernel
theorem dh_c90_ok : dh_c90.all (dh_cb 90) = true := by
  unfold dh_c90
  simp only [List.all_append, dh_c90_0_ok, dh_c90_1_ok, Bool.and_self]
set_option maxRecDepth 100000 in
theorem dh_c91_ok : dh_c91.all (dh_cb 91) = true := by decide +kernel
set_option maxRecDepth 100000 in
theorem dh_c92_ok : dh_c92.all (dh_cb 92) = true := by decide +kernel
set_option maxRecDepth 100000 in
theorem dh_c93_ok : dh_c93.all (dh_cb 93) = true := by decide +kernel
set_option maxRecDepth 100000 in
theorem dh_c94_ok : dh_c94.all (dh_cb 94) = true := by decide +kernel
set_option maxRecDepth 100000 in
theorem dh_c95_ok : dh_c95.all (dh_cb 95) = true := by decide +kernel
set_option maxRecDepth 100000 in
theorem dh_c96_ok : dh_c96.all (dh_cb 96) = true := by decide +kernel
set_option maxRecDepth 100000 in
theorem dh_c97_ok : dh_c97.all (dh_cb 97) = true := by decide +kernel
set_option maxRecDepth 100000 in
theorem dh_c98_ok : dh_c98.all (dh_cb 98) = true := by decide +kernel
set_option maxRecDepth 100000 in
theorem dh_c99_ok : dh_c99.all (dh_cb 99) = true := by decide +kernel
set_option maxRecDepth 100000 in
theorem dh_c100_ok : dh_c100.all (dh_cb 100) = true := by decide +kernel
set_option maxRecDepth 100000 in
theorem dh_c101_ok : dh_c101.all (dh_cb 101) = true := by decide +kernel
set_option maxRecDepth 100000 in
theorem dh_c102_ok : dh_c102.all (dh_cb 102) = true := by decide +kernel
set_option maxRecDepth 100000 in
theorem dh_c103_0_ok : dh_c103_0.all (dh_cb 103) = true := by decide +kernel
set_option maxRecDepth 100000 in
theorem dh_c103_1_ok : dh_c103_1.all (dh_cb 103) = true := by decide +kernel
theorem dh_c103_ok : dh_c103.all (dh_cb 103) = true := by
  unfold dh_c103
  simp only [List.all_append, dh_c103_0_ok, dh_c103_1_ok, Bool.and_self]
set_option maxRecDepth 100000 in
theorem dh_c104_ok : dh_c104.all (dh_cb 104) = true := by decide +kernel
set_option maxRecDepth 100000 in
theorem dh_c105_ok : dh_c105.all (dh_cb 105) = true := by decide +kernel
set_option maxRecDepth 100000 in
theorem dh_c106_ok : dh_c106.all (dh_cb 106) = true := by decide +kernel
set_option maxRecDepth 100000 in
theorem dh_c107_ok : dh_c107.all (dh_cb 107) = true := by decide +kernel
set_option maxRecDepth 100000 in
theorem dh_c108_ok : dh_c108.all (dh_cb 108) = true := by decide +kernel
set_option maxRecDepth 100000 in
theorem dh_c109_ok : dh_c109.all (dh_cb 109) = true := by decide +kernel
set_option maxRecDepth 100000 in
theorem dh_c110_ok : dh_c110.all (dh_cb 110) = true := by decide +kernel
set_option maxRecDepth 100000 in
theorem dh_c111_ok : dh_c111.all (dh_cb 111) = true := by decide +kernel
set_option maxRecDepth 100000 in
theorem dh_c112_ok : dh_c112.all (dh_cb 112) = true := by decide +kernel
end
section
/-! The code passes the check. -/
set_option maxRecDepth 100000 in
theorem dh_c113_ok : dh_c113.all (dh_cb 113) = true := by decide +kernel
set_option maxRecDepth 100000 in
theorem dh_c114_ok : dh_c114.all (dh_cb 114) = true := by decide +kernel
set_option maxRecDepth 100000 in
theorem dh_c115_ok : dh_c115.all (dh_cb 115) = true := by decide +kernel
set_option maxRecDepth 100000 in
theorem dh_c116_ok : dh_c116.all (dh_cb 116) = true := by decide +kernel
set_option maxRecDepth 100000 in
theorem dh_c117_ok : dh_c117.all (dh_cb 117) = true := by decide +kernel
set_option maxRecDepth 100000 in
theorem dh_c118_ok : dh_c118.all (dh_cb 118) = true := by decide +kernel
set_option maxRecDepth 100000 in
theorem dh_c119_ok : dh_c119.all (dh_cb 119) = true := by decide +kernel
set_option maxRecDepth 100000 in
theorem dh_c120_ok : dh_c120.all (dh_cb 120) = true := by decide +kernel
set_option maxRecDepth 100000 in
theorem dh_c121_ok : dh_c121.all (dh_cb 121) = true := by decide +kernel
set_option maxRecDepth 100000 in
theorem dh_c122_ok : dh_c122.all (dh_cb 122) = true := by decide +kernel
set_option maxRecDepth 100000 in
theorem dh_c123_ok : dh_c123.all (dh_cb 123) = true := by decide +kernel
set_option maxRecDepth 100000 in
theorem dh_c124_ok : dh_c124.all (dh_cb 124) = true := by decide +kernel
set_option maxRecDepth 100000 in
theorem dh_c125_ok : dh_c125.all (dh_cb 125) = true := by decide +kernel
set_option maxRecDepth 100000 in
theorem dh_c126_ok : dh_c126.all (dh_cb 126) = true := by decide +kernel
set_option maxRecDepth 100000 in
theorem dh_c127_ok : dh_c127.all (dh_cb 127) = true := by decide +kernel
set_option maxRecDepth 100000 in
theorem dh_c128_0_ok : dh_c128_0.all (dh_cb 128) = true := by decide +kernel
set_option maxRecDepth 100000 in
theorem dh_c128_1_ok : dh_c128_1.all (dh_cb 128) = true := by decide +kernel
theorem dh_c128_ok : dh_c128.all (dh_cb 128) = true := by
  unfold dh_c128
  simp only [List.all_append, dh_c128_0_ok, dh_c128_1_ok, Bool.and_self]
set_option maxRecDepth 100000 in
theorem dh_c129_ok : dh_c129.all (dh_cb 129) = true := by decide +kernel
set_option maxRecDepth 100000 in
theorem dh_c130_0_ok : dh_c130_0.all (dh_cb 130) = true := by decide +kernel
set_option maxRecDepth 100000 in
theorem dh_c130_1_ok : dh_c130_1.all (dh_cb 130) = true := by decide +kernel
theorem dh_c130_ok : dh_c130.all (dh_cb 130) = true := by
  unfold dh_c130
  simp only [List.all_append, dh_c130_0_ok, dh_c130_1_ok, Bool.and_self]
set_option maxRecDepth 100000 in
theorem dh_c131_ok : dh_c131.all (dh_cb 131) = true := by decide +kernel
set_option maxRecDepth 100000 in
theorem dh_c132_ok : dh_c132.all (dh_cb 132) = true := by decide +kernel
set_option maxRecDepth 100000 in
theorem dh_c133_ok : dh_c133.all (dh_cb 133) = true := by decide +kernel
set_option maxRecDepth 100000 in
theorem dh_c134_ok : dh_c134.all (dh_cb 134) = true := by decide +kernel
set_option maxRecDepth 100000 in
theorem dh_c135_ok : dh_c135.all (dh_cb 135) = true := by decide +kernel
set_option maxRecDepth 100000 in
theorem dh_c136_ok : dh_c136.all (dh_cb 136) = true := by decide +kernel
set_option maxRecDepth 100000 in
theorem dh_c137_ok : dh_c137.all (dh_cb 137) = true := by decide +kernel
set_option maxRecDepth 100000 in
theorem dh_c138_ok : dh_c138.all (dh_cb 138) = true := by decide +kernel
end
section
/-! The code passes the check. -/
set_option maxRecDepth 100000 in
theorem dh_c139_ok : dh_c139.all (dh_cb 139) = true := by decide +kernel
set_option maxRecDepth 100000 in
theorem dh_c140_0_ok : dh_c140_0.all (dh_cb 140) = true := by decide +kernel
set_option maxRecDepth 100000 in
theorem dh_c140_1_ok : dh_c140_1.all (dh_cb 140) = true := by decide +kernel
set_option maxRecDepth 100000 in
theorem dh_c140_2_ok : dh_c140_2.all (dh_cb 140) = true := by decide +kernel
set_option maxRecDepth 100000 in
theorem dh_c140_3_ok : dh_c140_3.all (dh_cb 140) = true := by decide +kernel
set_option maxRecDepth 100000 in
theorem dh_c140_4_ok : dh_c140_4.all (dh_cb 140) = true := by decide +kernel
set_option maxRecDepth 100000 in
theorem dh_c140_5_ok : dh_c140_5.all (dh_cb 140) = true := by decide +kernel
set_option maxRecDepth 100000 in
theorem dh_c140_6_ok : dh_c140_6.all (dh_cb 140) = true := by decide +kernel
set_option maxRecDepth 100000 in
theorem dh_c140_7_ok : dh_c140_7.all (dh_cb 140) = true := by decide +kernel
set_option maxRecDepth 100000 in
theorem dh_c140_8_ok : dh_c140_8.all (dh_cb 140) = true := by decide +kernel
set_option maxRecDepth 100000 in
theorem dh_c140_9_ok : dh_c140_9.all (dh_cb 140) = true := by decide +kernel
set_option maxRecDepth 100000 in
theorem dh_c140_10_ok : dh_c140_10.all (dh_cb 140) = true := by decide +kernel
theorem dh_c140_ok : dh_c140.all (dh_cb 140) = true := by
  unfold dh_c140
  simp only [List.all_append, dh_c140_0_ok, dh_c140_1_ok, dh_c140_2_ok, dh_c140_3_ok, dh_c140_4_ok, dh_c140_5_ok, dh_c140_6_ok, dh_c140_7_ok, dh_c140_8_ok, dh_c140_9_ok, dh_c140_10_ok, Bool.and_self]
end
section
/-! All codes pass. -/
theorem dh_allc : jm_allc dh_cb 0 dh_codes := ⟨dh_c0_ok, dh_c1_ok, dh_c2_ok, dh_c3_ok, dh_c4_ok, dh_c5_ok, dh_c6_ok, dh_c7_ok, dh_c8_ok, dh_c9_ok, dh_c10_ok, dh_c11_ok, dh_c12_ok, dh_c13_ok, dh_c14_ok, dh_c15_ok, dh_c16_ok, dh_c17_ok, dh_c18_ok, dh_c19_ok, dh_c20_ok, dh_c21_ok, dh_c22_ok, dh_c23_ok, dh_c24_ok, dh_c25_ok, dh_c26_ok, dh_c27_ok, dh_c28_ok, dh_c29_ok, dh_c30_ok, dh_c31_ok, dh_c32_ok, dh_c33_ok, dh_c34_ok, dh_c35_ok, dh_c36_ok, dh_c37_ok, dh_c38_ok, dh_c39_ok, dh_c40_ok, dh_c41_ok, dh_c42_ok, dh_c43_ok, dh_c44_ok, dh_c45_ok, dh_c46_ok, dh_c47_ok, dh_c48_ok, dh_c49_ok, dh_c50_ok, dh_c51_ok, dh_c52_ok, dh_c53_ok, dh_c54_ok, dh_c55_ok, dh_c56_ok, dh_c57_ok, dh_c58_ok, dh_c59_ok, dh_c60_ok, dh_c61_ok, dh_c62_ok, dh_c63_ok, dh_c64_ok, dh_c65_ok, dh_c66_ok, dh_c67_ok, dh_c68_ok, dh_c69_ok, dh_c70_ok, dh_c71_ok, dh_c72_ok, dh_c73_ok, dh_c74_ok, dh_c75_ok, dh_c76_ok, dh_c77_ok, dh_c78_ok, dh_c79_ok, dh_c80_ok, dh_c81_ok, dh_c82_ok, dh_c83_ok, dh_c84_ok, dh_c85_ok, dh_c86_ok, dh_c87_ok, dh_c88_ok, dh_c89_ok, dh_c90_ok, dh_c91_ok, dh_c92_ok, dh_c93_ok, dh_c94_ok, dh_c95_ok, dh_c96_ok, dh_c97_ok, dh_c98_ok, dh_c99_ok, dh_c100_ok, dh_c101_ok, dh_c102_ok, dh_c103_ok, dh_c104_ok, dh_c105_ok, dh_c106_ok, dh_c107_ok, dh_c108_ok, dh_c109_ok, dh_c110_ok, dh_c111_ok, dh_c112_ok, dh_c113_ok, dh_c114_ok, dh_c115_ok, dh_c116_ok, dh_c117_ok, dh_c118_ok, dh_c119_ok, dh_c120_ok, dh_c121_ok, dh_c122_ok, dh_c123_ok, dh_c124_ok, dh_c125_ok, dh_c126_ok, dh_c127_ok, dh_c128_ok, dh_c129_ok, dh_c130_ok, dh_c131_ok, dh_c132_ok, dh_c133_ok, dh_c134_ok, dh_c135_ok, dh_c136_ok, dh_c137_ok, dh_c138_ok, dh_c139_ok, dh_c140_ok, trivial⟩
end
section
/-! The fields of the classes are words of the tables. Written by program. -/
theorem dh_u1 : ∀ k, k < 12 → u_lay "DeltaHistory" dh_T1 k ∈ dh_W
  | 0, _ => dh_m1 (i := 225) rfl rfl
  | 1, _ => dh_m1 (i := 227) rfl rfl
  | 2, _ => dh_m1 (i := 229) rfl rfl
  | 3, _ => dh_m1 (i := 231) rfl rfl
  | 4, _ => dh_m1 (i := 233) rfl rfl
  | 5, _ => dh_m1 (i := 235) rfl rfl
  | 6, _ => dh_m1 (i := 237) rfl rfl
  | 7, _ => dh_m1 (i := 239) rfl rfl
  | 8, _ => dh_m2 (i := 1) rfl rfl
  | 9, _ => dh_m2 (i := 3) rfl rfl
  | 10, _ => dh_m2 (i := 5) rfl rfl
  | 11, _ => dh_m2 (i := 7) rfl rfl
  | k + 12, h => absurd h (by omega)
theorem dh_u1i : Cond.instantiable "DeltaHistory" 12 ∈ dh_W := dh_m1 (i := 20) rfl rfl
theorem dh_u2 : ∀ k, k < 43 → u_lay "DeltaHistoryModel" dh_T2 k ∈ dh_W
  | 0, _ => dh_m4 (i := 21) rfl rfl
  | 1, _ => dh_m4 (i := 23) rfl rfl
  | 2, _ => dh_m4 (i := 25) rfl rfl
  | 3, _ => dh_m4 (i := 27) rfl rfl
  | 4, _ => dh_m4 (i := 29) rfl rfl
  | 5, _ => dh_m4 (i := 31) rfl rfl
  | 6, _ => dh_m4 (i := 33) rfl rfl
  | 7, _ => dh_m4 (i := 35) rfl rfl
  | 8, _ => dh_m4 (i := 37) rfl rfl
  | 9, _ => dh_m4 (i := 39) rfl rfl
  | 10, _ => dh_m4 (i := 41) rfl rfl
  | 11, _ => dh_m4 (i := 43) rfl rfl
  | 12, _ => dh_m4 (i := 45) rfl rfl
  | 13, _ => dh_m4 (i := 47) rfl rfl
  | 14, _ => dh_m4 (i := 49) rfl rfl
  | 15, _ => dh_m4 (i := 51) rfl rfl
  | 16, _ => dh_m4 (i := 53) rfl rfl
  | 17, _ => dh_m4 (i := 55) rfl rfl
  | 18, _ => dh_m4 (i := 57) rfl rfl
  | 19, _ => dh_m4 (i := 59) rfl rfl
  | 20, _ => dh_m4 (i := 61) rfl rfl
  | 21, _ => dh_m4 (i := 63) rfl rfl
  | 22, _ => dh_m4 (i := 65) rfl rfl
  | 23, _ => dh_m4 (i := 67) rfl rfl
  | 24, _ => dh_m4 (i := 69) rfl rfl
  | 25, _ => dh_m4 (i := 71) rfl rfl
  | 26, _ => dh_m4 (i := 73) rfl rfl
  | 27, _ => dh_m4 (i := 75) rfl rfl
  | 28, _ => dh_m4 (i := 77) rfl rfl
  | 29, _ => dh_m4 (i := 79) rfl rfl
  | 30, _ => dh_m4 (i := 81) rfl rfl
  | 31, _ => dh_m4 (i := 83) rfl rfl
  | 32, _ => dh_m4 (i := 85) rfl rfl
  | 33, _ => dh_m4 (i := 87) rfl rfl
  | 34, _ => dh_m4 (i := 89) rfl rfl
  | 35, _ => dh_m4 (i := 91) rfl rfl
  | 36, _ => dh_m4 (i := 93) rfl rfl
  | 37, _ => dh_m4 (i := 95) rfl rfl
  | 38, _ => dh_m4 (i := 97) rfl rfl
  | 39, _ => dh_m4 (i := 99) rfl rfl
  | 40, _ => dh_m4 (i := 101) rfl rfl
  | 41, _ => dh_m4 (i := 103) rfl rfl
  | 42, _ => dh_m4 (i := 105) rfl rfl
  | k + 43, h => absurd h (by omega)
theorem dh_u2i : Cond.instantiable "DeltaHistoryModel" 43 ∈ dh_W := dh_m3 (i := 213) rfl rfl
theorem dh_u3 : ∀ k, k < 3 → u_lay "DeltaHistory$Bytes" dh_T3 k ∈ dh_W
  | 0, _ => dh_m1 (i := 101) rfl rfl
  | 1, _ => dh_m1 (i := 103) rfl rfl
  | 2, _ => dh_m1 (i := 105) rfl rfl
  | k + 3, h => absurd h (by omega)
theorem dh_u3i : Cond.instantiable "DeltaHistory$Bytes" 3 ∈ dh_W := dh_m1 (i := 89) rfl rfl
theorem dh_u4 : ∀ k, k < 9 → u_lay "DeltaHistory$Delta" dh_T4 k ∈ dh_W
  | 0, _ => dh_m1 (i := 69) rfl rfl
  | 1, _ => dh_m1 (i := 71) rfl rfl
  | 2, _ => dh_m1 (i := 73) rfl rfl
  | 3, _ => dh_m1 (i := 75) rfl rfl
  | 4, _ => dh_m1 (i := 77) rfl rfl
  | 5, _ => dh_m1 (i := 79) rfl rfl
  | 6, _ => dh_m1 (i := 81) rfl rfl
  | 7, _ => dh_m1 (i := 83) rfl rfl
  | 8, _ => dh_m1 (i := 85) rfl rfl
  | k + 9, h => absurd h (by omega)
theorem dh_u4i : Cond.instantiable "DeltaHistory$Delta" 9 ∈ dh_W := dh_m1 (i := 48) rfl rfl
theorem dh_u5 : ∀ k, k < 2 → u_lay "DeltaHistory$History" dh_T5 k ∈ dh_W
  | 0, _ => dh_m1 (i := 204) rfl rfl
  | 1, _ => dh_m1 (i := 206) rfl rfl
  | k + 2, h => absurd h (by omega)
theorem dh_u5i : Cond.instantiable "DeltaHistory$History" 2 ∈ dh_W := dh_m1 (i := 131) rfl rfl
theorem dh_u6 : ∀ k, k < 1 → u_lay "DeltaHistory$Reader" dh_T6 k ∈ dh_W
  | 0, _ => dh_m1 (i := 127) rfl rfl
  | k + 1, h => absurd h (by omega)
theorem dh_u6i : Cond.instantiable "DeltaHistory$Reader" 1 ∈ dh_W := dh_m1 (i := 121) rfl rfl
theorem dh_u7 : ∀ k, k < 10 → u_lay "DeltaHistory$Revision" dh_T7 k ∈ dh_W
  | 0, _ => dh_m1 (i := 175) rfl rfl
  | 1, _ => dh_m1 (i := 177) rfl rfl
  | 2, _ => dh_m1 (i := 179) rfl rfl
  | 3, _ => dh_m1 (i := 181) rfl rfl
  | 4, _ => dh_m1 (i := 183) rfl rfl
  | 5, _ => dh_m1 (i := 185) rfl rfl
  | 6, _ => dh_m1 (i := 187) rfl rfl
  | 7, _ => dh_m1 (i := 189) rfl rfl
  | 8, _ => dh_m1 (i := 191) rfl rfl
  | 9, _ => dh_m1 (i := 193) rfl rfl
  | k + 10, h => absurd h (by omega)
theorem dh_u7i : Cond.instantiable "DeltaHistory$Revision" 10 ∈ dh_W := dh_m1 (i := 138) rfl rfl
theorem dh_u8 : ∀ k, k < 2 → u_lay "DeltaHistory$Text" dh_T8 k ∈ dh_W
  | 0, _ => dh_m1 (i := 41) rfl rfl
  | 1, _ => dh_m1 (i := 43) rfl rfl
  | k + 2, h => absurd h (by omega)
theorem dh_u8i : Cond.instantiable "DeltaHistory$Text" 2 ∈ dh_W := dh_m1 (i := 28) rfl rfl
theorem dh_u9 : ∀ k, k < 1 → u_lay "DeltaHistory$Writer" dh_T9 k ∈ dh_W
  | 0, _ => dh_m1 (i := 117) rfl rfl
  | k + 1, h => absurd h (by omega)
theorem dh_u9i : Cond.instantiable "DeltaHistory$Writer" 1 ∈ dh_W := dh_m1 (i := 109) rfl rfl
/-- a class's fields: their types, their names apart -/
def dh_fok (t : Nat) (q : vw_C) : Bool := (List.range q.2.2).all (fun k => decide (parseFieldDescriptor (q.2.1 k).2.2.1 = some (dh_ty t k))) && (List.range q.2.2).all (fun a => (List.range q.2.2).all (fun b => decide (a = b) || decide ((q.2.1 a).2.1 ≠ (q.2.1 b).2.1)))
theorem dh_fok_spec {t : Nat} {q : vw_C} (h : dh_fok t q = true) : (∀ k, k < q.2.2 → parseFieldDescriptor (q.2.1 k).2.2.1 = some (dh_ty t k)) ∧ (∀ a, a < q.2.2 → ∀ b, b < q.2.2 → a ≠ b → (q.2.1 a).2.1 ≠ (q.2.1 b).2.1) := by
  unfold dh_fok at h
  simp only [Bool.and_eq_true, List.all_eq_true, List.mem_range, decide_eq_true_eq, Bool.or_eq_true] at h
  exact ⟨h.1, fun a ha b hb hne => (h.2 a ha b hb).resolve_left hne⟩
def dh_clsP (t : Nat) (q : vw_C) : Prop := t < 60 ∧ ((∀ w ∈ u_ws q.1 q.2.1 q.2.2, w ∈ dh_W) ∧ (∀ k, k < q.2.2 → parseFieldDescriptor (q.2.1 k).2.2.1 = some (dh_ty t k)) ∧ (∀ a, a < q.2.2 → ∀ b, b < q.2.2 → a ≠ b → (q.2.1 a).2.1 ≠ (q.2.1 b).2.1)) ∧ Cond.instantiable q.1 q.2.2 ∈ dh_W ∧ dh_cn t = q.1
theorem dh_clsP_of {t : Nat} {q : vw_C} (h1 : t < 60) (h2 : ∀ k, k < q.2.2 → u_lay q.1 q.2.1 k ∈ dh_W) (h3 : dh_fok t q = true) (h4 : Cond.instantiable q.1 q.2.2 ∈ dh_W) (h5 : dh_cn t = q.1) : dh_clsP t q := by
  refine ⟨h1, ⟨fun w hw => ?_, dh_fok_spec h3⟩, h4, h5⟩
  obtain ⟨k, hk, rfl⟩ := List.mem_map.mp hw
  exact h2 k (List.mem_range.mp hk)
theorem dh_k1 : dh_clsP 1 ("DeltaHistory", dh_T1, 12) := dh_clsP_of (by decide) dh_u1 (by decide +kernel) dh_u1i (by decide +kernel)
theorem dh_k2 : dh_clsP 2 ("DeltaHistoryModel", dh_T2, 43) := dh_clsP_of (by decide) dh_u2 (by decide +kernel) dh_u2i (by decide +kernel)
theorem dh_k3 : dh_clsP 3 ("DeltaHistory$Bytes", dh_T3, 3) := dh_clsP_of (by decide) dh_u3 (by decide +kernel) dh_u3i (by decide +kernel)
theorem dh_k4 : dh_clsP 4 ("DeltaHistory$Delta", dh_T4, 9) := dh_clsP_of (by decide) dh_u4 (by decide +kernel) dh_u4i (by decide +kernel)
theorem dh_k5 : dh_clsP 5 ("DeltaHistory$History", dh_T5, 2) := dh_clsP_of (by decide) dh_u5 (by decide +kernel) dh_u5i (by decide +kernel)
theorem dh_k6 : dh_clsP 6 ("DeltaHistory$Reader", dh_T6, 1) := dh_clsP_of (by decide) dh_u6 (by decide +kernel) dh_u6i (by decide +kernel)
theorem dh_k7 : dh_clsP 7 ("DeltaHistory$Revision", dh_T7, 10) := dh_clsP_of (by decide) dh_u7 (by decide +kernel) dh_u7i (by decide +kernel)
theorem dh_k8 : dh_clsP 8 ("DeltaHistory$Text", dh_T8, 2) := dh_clsP_of (by decide) dh_u8 (by decide +kernel) dh_u8i (by decide +kernel)
theorem dh_k9 : dh_clsP 9 ("DeltaHistory$Writer", dh_T9, 1) := dh_clsP_of (by decide) dh_u9 (by decide +kernel) dh_u9i (by decide +kernel)
theorem dh_cls : ∀ t q, 0 < t → dh_cl[t]? = some q → dh_clsP t q
  | 0, _, h, _ => absurd h (by decide)
  | 1, q, _, h => by cases h; exact dh_k1
  | 2, q, _, h => by cases h; exact dh_k2
  | 3, q, _, h => by cases h; exact dh_k3
  | 4, q, _, h => by cases h; exact dh_k4
  | 5, q, _, h => by cases h; exact dh_k5
  | 6, q, _, h => by cases h; exact dh_k6
  | 7, q, _, h => by cases h; exact dh_k7
  | 8, q, _, h => by cases h; exact dh_k8
  | 9, q, _, h => by cases h; exact dh_k9
  | t + 10, q, _, h => by cases h
end
section
/-! The claim out of the abstract run of the law. -/
theorem dh_getD {α : Type} (l : List α) (d : α) {i : Nat} (h : l.length ≤ i) : l.getD i d = d := by
  rw [List.getD_eq_getElem?_getD, List.getElem?_eq_none h]; rfl
theorem dh_hcn : ∀ mi, dh_cn (dh_oc mi) = (dh_M mi).1.cls := by
  intro mi
  by_cases h : mi < 141
  · have := List.all_eq_true.mp (show (List.range 141).all (fun i => decide (dh_cn (dh_oc i) = (dh_M i).1.cls)) = true by decide +kernel) mi (List.mem_range.mpr h)
    simpa using this
  · have e1 : dh_oc mi = 0 := dh_getD _ _ (show dh_ocs.length ≤ mi from Nat.le_trans (by decide +kernel) (Nat.not_lt.mp h))
    have e2 : dh_M mi = (⟨"", "", ""⟩, ⟨#[]⟩, none, []) := dh_getD _ _ (show dh_Ms.length ≤ mi from Nat.le_trans (Nat.le_of_eq (show dh_Ms.length = 141 from rfl)) (Nat.not_lt.mp h))
    rw [e1, e2]
    decide +kernel
theorem dh_hct : ∀ mi, ∀ q ∈ (dh_M mi).2.2.2, (dh_M mi).1.cls = "DeltaHistoryLaw" ∧ (q.2.2.2 = 13 ∨ q.2.2.2 = 15 ∨ q.2.2.2 = 23 ∨ q.2.2.2 = 33) := by
  intro mi q hq
  by_cases h : mi < 141
  · have := List.all_eq_true.mp (show (List.range 141).all (fun i => (dh_M i).2.2.2.all (fun q => decide ((dh_M i).1.cls = "DeltaHistoryLaw") && (decide (q.2.2.2 = 13) || (decide (q.2.2.2 = 15) || (decide (q.2.2.2 = 23) || decide (q.2.2.2 = 33)))))) = true by decide +kernel) mi (List.mem_range.mpr h)
    have := List.all_eq_true.mp this q hq
    simpa using this
  · have e2 : dh_M mi = (⟨"", "", ""⟩, ⟨#[]⟩, none, []) := dh_getD _ _ (show dh_Ms.length ≤ mi from Nat.le_trans (Nat.le_of_eq (show dh_Ms.length = 141 from rfl)) (Nat.not_lt.mp h))
    rw [e2] at hq
    cases hq
theorem dh_hcode : ∀ mi q, q ∈ dh_code mi → ∃ ins, decode (dh_M mi).2.1 q.1 = .ok (ins, q.2.2.1) ∧ jm_chk dh_K dh_J dh_sw (dh_oc mi) (dh_nl mi) (dh_ini mi) (dh_M mi).2.2.1 q.1 ins q.2 = true := by
  intro mi q hq
  have := jm_allc_spec dh_codes 0 dh_allc mi q hq
  rw [Nat.zero_add] at this
  exact jm_cb_spec this
theorem dh_mt1 {i : Nat} {w : Cond} (h : tables_1_1[i]? = some w) : w ∈ lw_tbl := by
  refine List.mem_append_right _ ?_
  show w ∈ tables_1_1 ++ (tables_1_2 ++ (tables_1_3 ++ (tables_1_4 ++ tables_1_5)))
  exact List.mem_append_left _ (List.mem_of_getElem? h)
theorem dh_mt3 {i : Nat} {w : Cond} (h : tables_1_3[i]? = some w) : w ∈ lw_tbl := by
  refine List.mem_append_right _ ?_
  show w ∈ tables_1_1 ++ (tables_1_2 ++ (tables_1_3 ++ (tables_1_4 ++ tables_1_5)))
  exact List.mem_append_right _ (List.mem_append_right _ (List.mem_append_left _ (List.mem_of_getElem? h)))
theorem dh_ca {args : Array Value} {s : State} (hts : ∀ w ∈ dh_W, w.before args s = true) {x y : String} (h : Cond.castable x y ∈ dh_W) : ∃ c c', s.vm.findClass x = some c ∧ s.vm.findClass y = some c' ∧ s.vm.assignable c c' = true := Cond.castable_spec (hts _ h)
theorem dh_nc {args : Array Value} {s : State} (hgv : (Jvm.Cond.and given_1 narrow_1).before args s = true) {x y : String} (h : Cond.not (.castable x y) ∈ flatC (Jvm.Cond.and given_1 narrow_1)) : ∃ c c', s.vm.findClass x = some c ∧ s.vm.findClass y = some c' ∧ s.vm.assignable c c' = false := va_Nc.of (flat_of_before _ hgv _ h)
def dh_cC (i : Nat) : String := if i = 13 then "java/lang/IndexOutOfBoundsException" else if i = 15 then "java/lang/IllegalStateException" else if i = 23 then "java/lang/UnsupportedOperationException" else "java/lang/IllegalArgumentException"
theorem dh_cast {args : Array Value} {s : State} (hts : ∀ w ∈ dh_W, w.before args s = true) (hgv : (Jvm.Cond.and given_1 narrow_1).before args s = true) {i : Nat} (hi : i = 13 ∨ i = 15 ∨ i = 23 ∨ i = 33) {t : Nat} {nm : String} (ht : dh_ex t = some nm) :
    ∃ c c', s.vm.findClass nm = some c ∧ s.vm.findClass (dh_cC i) = some c' ∧ s.vm.assignable c c' = decide (dh_ctc i = t + 1) := by
  have c1 := dh_ca hts (x := "java/lang/IndexOutOfBoundsException") (y := "java/lang/IndexOutOfBoundsException") (dh_m2 (i := 239) rfl rfl)
  have c2 := dh_ca hts (x := "java/lang/IllegalStateException") (y := "java/lang/IllegalStateException") (dh_m3 (i := 68) rfl rfl)
  have c3 := dh_ca hts (x := "java/lang/UnsupportedOperationException") (y := "java/lang/UnsupportedOperationException") (dh_m3 (i := 126) rfl rfl)
  have c4 := dh_ca hts (x := "java/lang/IllegalArgumentException") (y := "java/lang/IllegalArgumentException") (dh_m3 (i := 162) rfl rfl)
  unfold dh_ex at ht
  split at ht
  · rename_i e; subst e; cases ht
    rcases hi with rfl | rfl | rfl | rfl
    · exact c1
    · exact dh_nc hgv (by decide +kernel)
    · exact dh_nc hgv (by decide +kernel)
    · exact dh_nc hgv (by decide +kernel)
  · split at ht
    · rename_i e; subst e; cases ht
      rcases hi with rfl | rfl | rfl | rfl
      · exact dh_nc hgv (by decide +kernel)
      · exact c2
      · exact dh_nc hgv (by decide +kernel)
      · exact dh_nc hgv (by decide +kernel)
    · split at ht
      · rename_i e; subst e; cases ht
        rcases hi with rfl | rfl | rfl | rfl
        · exact dh_nc hgv (by decide +kernel)
        · exact dh_nc hgv (by decide +kernel)
        · exact c3
        · exact dh_nc hgv (by decide +kernel)
      · split at ht
        · rename_i e; subst e; cases ht
          rcases hi with rfl | rfl | rfl | rfl
          · exact dh_nc hgv (by decide +kernel)
          · exact dh_nc hgv (by decide +kernel)
          · exact dh_nc hgv (by decide +kernel)
          · exact c4
        · cases ht
theorem dh_clk {i : Nat} (hi : i = 13 ∨ i = 15 ∨ i = 23 ∨ i = 33) : Cond.classLink "DeltaHistoryLaw" i (dh_cC i) ∈ dh_W := by
  rcases hi with rfl | rfl | rfl | rfl
  · exact dh_m2 (i := 228) rfl rfl
  · exact dh_m2 (i := 229) rfl rfl
  · exact dh_m3 (i := 119) rfl rfl
  · exact dh_m3 (i := 154) rfl rfl
theorem dh_exi {args : Array Value} {s : State} (hts : ∀ w ∈ dh_W, w.before args s = true) (t : Nat) : ∃ x : ClassId × Array FieldType, ∀ nm, dh_ex t = some nm → ∃ k, s.vm.findClass nm = some x.1 ∧ s.vm.classes[x.1]? = some k ∧ k.instanceTypes = x.2 := by
  have key : ∀ {nm : String}, Cond.instantiable nm 6 ∈ dh_W → ∃ x : ClassId × Array FieldType, ∃ k, s.vm.findClass nm = some x.1 ∧ s.vm.classes[x.1]? = some k ∧ k.instanceTypes = x.2 := by
    intro nm h
    obtain ⟨c, k, h1, h2, -⟩ := Cond.instantiable_spec (hts _ h)
    exact ⟨(c, k.instanceTypes), k, h1, h2, rfl⟩
  unfold dh_ex
  split
  · obtain ⟨x, hx⟩ := key (nm := "java/lang/IndexOutOfBoundsException") (dh_m2 (i := 238) rfl rfl)
    exact ⟨x, fun nm h => by cases h; exact hx⟩
  · split
    · obtain ⟨x, hx⟩ := key (nm := "java/lang/IllegalStateException") (dh_m3 (i := 67) rfl rfl)
      exact ⟨x, fun nm h => by cases h; exact hx⟩
    · split
      · obtain ⟨x, hx⟩ := key (nm := "java/lang/UnsupportedOperationException") (dh_m3 (i := 125) rfl rfl)
        exact ⟨x, fun nm h => by cases h; exact hx⟩
      · split
        · obtain ⟨x, hx⟩ := key (nm := "java/lang/IllegalArgumentException") (dh_m3 (i := 161) rfl rfl)
          exact ⟨x, fun nm h => by cases h; exact hx⟩
        · exact ⟨(0, #[]), fun nm h => by cases h⟩
theorem dh_cli {args : Array Value} {s : State} (hts : ∀ w ∈ dh_W, w.before args s = true) (t : Nat) : ∃ (c : ClassId) (i : Nat → Nat), ∀ q, 0 < t → dh_cl[t]? = some q → u_Kn s q.1 q.2.1 q.2.2 c i := by
  by_cases h0 : 0 < t
  · cases hq : dh_cl[t]? with
    | none => exact ⟨0, fun _ => 0, fun q _ h => by cases h⟩
    | some q =>
      obtain ⟨-, ⟨hw, -, -⟩, hi, -⟩ := dh_cls t q h0 hq
      obtain ⟨c, i, h⟩ := u_known hts hw (hts _ hi)
      exact ⟨c, i, fun q' _ h' => by cases h'; exact h⟩
  · exact ⟨0, fun _ => 0, fun q h => absurd h h0⟩
theorem dh_arr {s : State} {c : ClassId} {k : Class} {comp : ClassId} {ty : FieldType} (h1 : s.vm.classes[c]? = some k) (h2 : k.kind = .array comp ty) : ArrOfT s c ty := fun _ _ => ⟨fun _ h => (by cases h), k, h1, comp, h2⟩
/-- the abstract heap at the law's start: the script alone -/
def dh_H0 (L : Nat) (xs : Nat → Int32) : jm_H := (2, 0, fun a => if a = 1 then (99, L, xs, fun _ => 0, fun _ => 0) else (0, 0, fun _ => 0, fun _ => 0, fun _ => 0))
/-- what is left: the abstract run of the law returns 1 -/
def dh_Run : Prop := ∀ (L : Nat) (xs : Nat → Int32), L ≤ 2048 → jm_E dh_pr 12 140 [.inr (.inl 1)] (dh_H0 L xs) (fun o _ => o = .inl (some (.inl 1)))
theorem dh_R0 {b L : Nat} {xs : Nat → Int32} {s : State} {scr : Cell} {D : va_G} {cI cJ : ClassId} {cq : Nat → ClassId} {cx : Nat → ClassId × Array FieldType} (hb : b < s.heap.size) (h1 : s.heap[b]? = some scr) (h2 : scr.vm ≠ .unknown) (h3 : scr.slots.size = L) (h4 : ∀ j : Nat, j < L → scr.slots[j]? = some (.int (xs j))) :
    jg_R (b, s.heap.size, scr, D, cI, cJ, cq, cx, s) dh_J (dh_H0 L xs) s.heap := by
  refine ⟨⟨Nat.le_refl 2, rfl, hb, fun q _ => rfl⟩, fun r hr => ?_, fun r h2 h3 => ?_, rfl, h1, h2, h3, h4⟩
  · have hr' : r = 0 ∨ 2 ≤ r := hr
    show ((if r = 1 then _ else _ : jm_O)).1 = 0
    rw [if_neg (by omega)]
  · have h3' : r < 2 := h3
    omega
def R_law : String := "DeltaHistoryLaw"
def lw_P (b : Addr) (xs : List Int32) (args : Array Value) (s : State) : Prop := args = #[.ref b] ∧ s.IntsAt b xs ∧ xs.length ≤ 2048 ∧ (Jvm.Cond.and given_1 narrow_1).before args s = true
def lw_Q (_ : Array Value) (s : State) (o : Outcome) (t : State) : Prop := o = .returned (some (.int 1)) ∧ Framed s o t [] 601024 7293034
def lw_Z (below : List Frame) (a : Array Value) (s : State) : State → Prop := fun t => ∃ o, t.status = .running ∧ Ended t below o ∧ lw_Q a s o t
theorem whole_start (run : dh_Run) {p : Program} {e : Env} {s : State} {m : MethodId} {below : List Frame} {meth : Method} {c : Code} (l : Launch) {b L : Nat} {xs : Nat → Int32} (hL : L ≤ 2048) (hl0 : l.stackTraces = false) (hF : jg_Fr dh_M dh_nl 140 p s m meth c)
    (hts0 : ∀ w ∈ lw_tbl, w.before #[Value.ref b] s = true) (hX : va_X b L xs s s.heap) (hb : b < s.heap.size) (hgv : (Jvm.Cond.and given_1 narrow_1).before #[Value.ref b] s = true) :
    W p l e room_1 s m #[Value.ref b] below meth c s.heap [] 0 0 (lw_Z below #[Value.ref b] s) (entryFrame m ([Value.ref b] : List Value).toArray 7) := by
  have hts : ∀ w ∈ dh_W, w.before #[Value.ref b] s = true := fun w hw => hts0 w (List.mem_filter.mp hw).1
  have hg : ∀ w ∈ dh_W, jm_goodW w = true := fun w hw => (List.mem_filter.mp hw).2
  obtain ⟨scr, x1, x2, x3, x4, x5⟩ := hX
  have hwI : Cond.arrayClass .int ∈ dh_W := dh_m1 (i := 46) rfl rfl
  have hwL : Cond.arrayClass .long ∈ dh_W := dh_m5 (i := 69) rfl rfl
  obtain ⟨cI, kI, compI, i1, i2, i3⟩ := Cond.arrayClass_spec (hts _ hwI)
  obtain ⟨cJ, kJ, compJ, j1, j2, j3⟩ := Cond.arrayClass_spec (hts _ hwL)
  have hov : (Cond.arrayOver (.array .int)).before #[Value.ref b] s = true := hts0 _ (dh_mt1 (i := 54) rfl)
  have hor : (Cond.arrayOver (.object "DeltaHistory$Revision")).before #[Value.ref b] s = true := hts0 _ (dh_mt1 (i := 137) rfl)
  obtain ⟨comp2, c61, k61, v1, -, v3, v4, v5⟩ := arrayOverA_spec hov
  obtain ⟨comp3, c69, k69, r1, -, r3, r4, r5⟩ := Cond.arrayOver_spec hor
  let G : jm_G := (b, s.heap.size, scr, (fun t => Classical.choose (dh_cli hts t), fun t => Classical.choose (Classical.choose_spec (dh_cli hts t))), cI, cJ, (fun t => if t = 61 then c61 else c69), (fun t => Classical.choose (dh_exi hts t)), s)
  have hK : jg_K G dh_J dh_W s := by
    refine ⟨fun w hw a => jm_goodW_moved (hg w hw) (State.WarmedH.refl s) (hts w hw), fun t q h0 hq => Classical.choose_spec (Classical.choose_spec (dh_cli hts t)) q h0 hq, ⟨dh_arr i2 i3, i1⟩, ⟨dh_arr j2 j3, j1⟩, x2, fun t ty hty => ?_, fun t x hx => Classical.choose_spec (dh_exi hts t) x hx, State.WarmedH.refl s, fun _ _ => rfl, fun q cell hq hc => ?_⟩
    · replace hty : dh_aq t = some ty := hty
      unfold dh_aq at hty
      split at hty
      · rename_i e; subst e; cases hty
        exact ⟨dh_arr v3 v4, v5, fun C h => (by cases h), fun C h => (by cases h; exact hov)⟩
      · split at hty
        · rename_i e; subst e; cases hty
          exact ⟨dh_arr r3 r4, ⟨k69, comp3, r3, r4, r1, r5⟩, fun C h => (by cases h; exact va_AO.of hor), fun C h => (by cases h)⟩
        · cases hty
    · have := (Array.getElem?_eq_some_iff.mp hc).1
      replace hq : s.heap.size ≤ q := hq
      omega
  have h0 : jg_0 G := by
    refine ⟨rfl, #[Value.ref b], fun w hm => ?_⟩
    have hs := flat_of_before _ hgv
    simp only [jx_st, List.mem_cons, List.not_mem_nil, or_false] at hm
    rcases hm with rfl | rfl | rfl | rfl
    · exact hts0 _ (dh_mt3 (i := 24) rfl)
    · exact hts0 _ (dh_mt3 (i := 26) rfl)
    · exact hs _ (by decide +kernel)
    · exact hs _ (by decide +kernel)
  have snd := jm_sound (p := p) (l := l) (e := e) (pr := dh_pr) (G := G) (J := dh_J) (Wg := dh_W) (M := dh_M) (cn := dh_cn) (K := dh_K) (oc := dh_oc) (ini := dh_ini) (ct := dh_ct) hg
    (fun t q h0 hq => ⟨(dh_cls t q h0 hq).1, (dh_cls t q h0 hq).2.1⟩) h0 hl0 dh_kok dh_hcn (fun mi h => of_decide_eq_true h) (fun t q h0 hq => (dh_cls t q h0 hq).2.2.2) hwI hwL dh_hcode (fun mi => rfl)
    (fun mi q hq => by
      obtain ⟨g1, g2⟩ := dh_hct mi q hq
      refine ⟨by omega, dh_cC q.2.2.2, by rw [g1]; exact dh_clk g2, fun t nm ht => ?_⟩
      obtain ⟨c, c', e1, e2, e3⟩ := dh_cast hts hgv g2 ht
      exact ⟨c, c', e1, e2, e3⟩) 12
  have w := snd 140 [.inr (.inl 1)] (dh_H0 L xs) (fun o _ => o = .inl (some (.inl 1))) (run L xs hL) (fun v hv z => by
      rw [List.mem_singleton.mp hv]; intro h; cases h) room_1 s m below meth c hF hK ⟨by decide, by decide⟩ ⟨Nat.le_refl _, Nat.le_refl _⟩ s.heap (dh_R0 hb x1 x3 x4 x5) rfl
  intro T hT X
  obtain ⟨t, a1, o, h, Lc, z1, z2, z3, z4, z5, z6, z7, z8, -⟩ := w T hT X
  subst z8
  refine ⟨t, a1, _, z1, z2, rfl, ⟨_, rfl⟩, z3, ?_⟩
  have z9 : s.sameButNew ({ t with vm := s.vm } : State) [] (h.1 - 2) (h.2.1 - 0) := State.sameButNew.drop_fresh (L := []) z4 z5
  refine z9.mono ?_ ?_
  · have := z6.2.2.1
    show h.1 - 2 ≤ 601024
    replace this : h.1 ≤ 601024 + 2 := this
    omega
  · have := z6.2.2.2
    replace this : h.2.1 ≤ 7293034 + 0 := this
    omega
end
section
/-! The claim, out of the abstract run (after the kit's skeleton, with the launch's flags). -/
theorem dh_traces {l : Launch} (h : l.flags = flags0) : l.stackTraces = false := by
  show (!l.flags.contains noTraceFlag) = false
  rw [h]
  decide +kernel
set_option maxHeartbeats 4000000 in
theorem lw_walk (run : dh_Run) (l : Launch) (hfl : l.flags = flags0) (b : Addr) (xs : List Int32) : MetFree l x (headSpec (Jvm.Cond.code x code maxLocals ret :: tables_1) room_1) (lw_P b xs) (fun _ _ _ _ _ => True) lw_Q := by
  refine MetFree.of_bodyS (code := code) (maxLocals := maxLocals) (ret := ret) (by decide) ?_ ?_
  · intro args s m h hn
    obtain ⟨meth, c, h1, h2, h3, h4, h5, h6, -, -⟩ := Cond.code_spec hn (atoms_spec (ws := Jvm.Cond.code x code maxLocals ret :: tables_1) h _ List.mem_cons_self)
    exact ⟨meth, c, h1, h2, h3, h4, h5, h6⟩
  · intro p e s m args below meth c s₁ B hml0 hP _
    obtain ⟨rfl, hx, hbd, hgv⟩ := hP
    obtain ⟨scr, harrAt, hlist, hof, hsmall⟩ := hx
    obtain ⟨hcb, hkn, -, -⟩ := State.arrayAt?_spec harrAt
    have hown : s.vm.findClass R_law = some m.cls := findClass_of_methodNamed B.named
    have hts0 : ∀ c ∈ (Jvm.Cond.code x code maxLocals ret :: tables_1), c.before #[Value.ref b] s = true := atoms_spec (ws := Jvm.Cond.code x code maxLocals ret :: tables_1) B.pre
    have hts : ∀ w ∈ lw_tbl, w.before #[Value.ref b] s = true := k2_hts_sels lw_privs (fun w hw => hts0 w (List.mem_cons_of_mem _ hw)) lw_privs_ok
    have hml : c.maxLocals = 7 := B.maxLocals_eq (hts0 _ List.mem_cons_self)
    have hnoh : c.exceptionTable.isEmpty = true := B.noHandlers (hts0 _ List.mem_cons_self)
    have X₀ : Stand p l e room_1 s m #[Value.ref b] below meth c s₁ [] 0 0 := Stand.of_body B
    have hh0 : s₁.heap = s.heap := by rw [B.state]; rfl
    have hsz : scr.slots.size = xs.length := by rw [← Array.length_toList, hlist, List.length_map]
    have hval : ∀ j : Nat, j < xs.length → scr.slots[j]? = some (.int (xs.getD j 0)) := fun j hj => by
      rw [← Array.getElem?_toList, hlist]
      simp [hj]
    have hbl : b < s.heap.size := (Array.getElem?_eq_some_iff.mp hcb).1
    have hX : va_X b xs.length (fun j => xs.getD j 0) s s.heap := ⟨scr, hcb, hof, hkn, hsz, hval⟩
    have hF : jg_Fr dh_M dh_nl 140 p s m meth c := by
      refine ⟨B.exec, B.bytes, hml, hown, B.returns, B.notSynchronized, (name_of_methodNamed B.named B.method).1, ?_⟩
      rw [Array.isEmpty_iff.mp hnoh]
      rfl
    have K : W p l e room_1 s m #[Value.ref b] below meth c s₁.heap [] 0 0 (lw_Z below #[Value.ref b] s) (entryFrame m ([Value.ref b] : List Value).toArray 7) := by
      rw [hh0]
      exact whole_start run l hbd (dh_traces hfl) hF hts hX hbl hgv
    obtain ⟨t, a1, o, b1, b2, b3⟩ := K s₁ rfl X₀
    exact ⟨t, o, a1, b1, b2, b3⟩
theorem lw_pre_spec {args : Array Value} {s : State} (h : (Jvm.Cond.and given_1 narrow_1).before args s = true) (hr : rest_1_c.before args s = true) : ∃ (b : Addr) (xs : List Int32), lw_P b xs args s := by
  have hs := flat_of_before _ h
  have hq := flat_of_before _ hr
  have hc : (Cond.count 1).before args s = true := hs _ (by decide +kernel)
  have harr : (Cond.arrayOf (.arg 0) .int).before args s = true := hs _ (by decide +kernel)
  have hle : (Cond.le (.length (.arg 0)) (.int 2048)).before args s = true := hs _ (by decide +kernel)
  have hlen : (Cond.isInt (.length (.arg 0))).before args s = true := hq _ (by decide +kernel)
  have hall : (Cond.all (.arg 0) (.isInt (.elem (.arg 0) (.index 0)))).before args s = true := hq _ (by decide +kernel)
  obtain ⟨b, xs, hb, hx⟩ := State.ints_of_pre rfl harr hlen hall
  have hsm : xs.length < 2 ^ 31 := hx.choose_spec.2.2.2
  have hev : (Term.length (.arg 0)).eval args s none [] s = some (.int xs.length.toInt32) := hx.length_eval hb
  have hv := Cond.le_ints hev (show (Term.int 2048).eval args s none [] s = some (.int 2048) from rfl)
  have hd : xs.length.toInt32 ≤ 2048 := by
    simpa [Cond.before, Cond.holds, hv] using hle
  have hN : xs.length ≤ 2048 := (Int32.ofNat_le_ofNat hsm (by decide)).mp (show Int32.ofNat xs.length ≤ Int32.ofNat 2048 from hd)
  exact ⟨b, xs, Cond.one_arg hc (show args[0]? = some (.ref b) from hb), hx, hN, h⟩
theorem lw_comes (run : dh_Run) (l : Launch) (hfl : l.flags = flags0) : Comes l x (Jvm.Cond.code x code maxLocals ret :: tables_1) room_1 (fun tb e args s => Calls_1 tb e args s ∧ rest_1 tb e args s ∧ Pre_1 tb e args s)
    (fun _ _ args s o t => lw_Q args s o t) := by
  intro p e ha hc hk s m args below hf hfit hheap happ hpre
  obtain ⟨b, xs, hP⟩ := lw_pre_spec hpre.2.2 hpre.2.1
  obtain ⟨k, o, h1, h2, h3, hQ⟩ := lw_walk run l hfl b xs p e ha hc hk s m args below hf ((Spec.applies_iff_loose hf).mp happ).1 hP trivial
  exact ⟨k, o, h1, h2, h3, hQ⟩
theorem lw_frame {s t : State} {o : Outcome} {args : Array Value} (h : Framed s o t [] 601024 7293034) :
    Framed s o t (fieldLocs frame_1_writes args s ++ arrayLocs frame_1_arrays args s ++ staticLocs frame_1_statics s) 601024 7293034 := h
theorem lw_limb (run : dh_Run) (L : Cond) (hL : ∀ (args : Array Value) (s t : State), L.after args s (.returned (some (.int 1))) t = true) :
    ArmFor flags0 classFile x code maxLocals ret World_1 tables_1 room_1 Calls_1 rest_1 Pre_1
      (fun tb e a s o t => postC L tb e a s o t ∧ Framed s o t (fieldLocs frame_1_writes a s ++ arrayLocs frame_1_arrays a s ++ staticLocs frame_1_statics s) 601024 7293034) := by
  intro l hfl _ _ p e ha hc hk s m args below hf hfit hheap happ hpre
  obtain ⟨k, o, h1, h2, h3, rfl, hF⟩ := lw_comes run l hfl p e ha hc hk s m args below hf hfit hheap happ hpre
  exact ⟨k, _, h1, h2, h3, hL args s _, lw_frame hF⟩
theorem dh_claim (run : dh_Run) : Claimed_1_1 ∧ Claimed_1_2 := ⟨lw_limb run limb_1_1 (fun args s t => by simp [limb_1_1, Cond.after, Cond.holds, Cond.value]), lw_limb run limb_1_2 (fun args s t => Cond.after_iff.mpr (by
  first | (rw [show limb_1_2 = Cond.eq .result (.int 1) from rfl, Cond.eq_ints (x := 1) (y := 1) rfl rfl]; simp; done) | (simp [limb_1_2, Cond.value, Term.eval]; done)))⟩
end
section
/-! Numbers: the 32-bit numbers as images of whole numbers; calls and switches of the abstract machine. -/
def jz (z : Int) : Int32 := Int32.ofInt z
def jR (z : Int) : Prop := -2147483648 ≤ z ∧ z < 2147483648
theorem jz_add (a b : Int) : jz a + jz b = jz (a + b) := (Int32.ofInt_add a b).symm
theorem jz_sub (a b : Int) : jz a - jz b = jz (a - b) := (Int32.ofInt_sub a b).symm
theorem jz_mul (a b : Int) : jz a * jz b = jz (a * b) := (Int32.ofInt_mul a b).symm
theorem jz_toInt {z : Int} (h : jR z) : (jz z).toInt = z := Int32.toInt_ofInt_of_le h.1 h.2
theorem jz_self (x : Int32) : jz x.toInt = x := Int32.ofInt_toInt x
theorem jR_toInt (x : Int32) : jR x.toInt := ⟨Int32.le_toInt x, Int32.toInt_lt x⟩
theorem jz_lt {a b : Int} (ha : jR a) (hb : jR b) : jz a < jz b ↔ a < b := by
  rw [Int32.lt_iff_toInt_lt, jz_toInt ha, jz_toInt hb]
theorem jz_le {a b : Int} (ha : jR a) (hb : jR b) : jz a ≤ jz b ↔ a ≤ b := by
  rw [Int32.le_iff_toInt_le, jz_toInt ha, jz_toInt hb]
theorem jz_eq {a b : Int} (ha : jR a) (hb : jR b) : jz a = jz b ↔ a = b := by
  refine ⟨fun h => ?_, fun h => by rw [h]⟩
  rw [← jz_toInt ha, ← jz_toInt hb, h]
theorem jz_ofNat (n : Nat) : Int32.ofNat n = jz n := by
  show Int32.ofNat n = Int32.ofInt (n : Int)
  exact (Int32.ofInt_eq_ofNat).symm
theorem jz_lit (n : Nat) : (OfNat.ofNat n : Int32) = jz (n : Int) := jz_ofNat n
/-- an index into an array of n -/
def jzi (z : Int) (n : Nat) : Prop := 0 ≤ z ∧ z < (n : Int) ∧ n ≤ 100000
theorem jzi.r {z : Int} {n : Nat} (h : jzi z n) : jR z := by
  obtain ⟨h1, h2, h3⟩ := h
  constructor <;> omega
theorem jz_in {z : Int} {n : Nat} (h : jzi z n) : jm_in (jz z) n := by
  show 0 ≤ (jz z).toInt ∧ (jz z).toInt < (n : Int)
  rw [jz_toInt h.r]
  exact ⟨h.1, h.2.1⟩
theorem jz_ix {z : Int} (h : jR z) : jm_ix (jz z) = z.toNat := by
  show (jz z).toInt.toNat = z.toNat
  rw [jz_toInt h]
theorem jz_max {a b : Int} (ha : jR a) (hb : jR b) : (if jz a < jz b then jz b else jz a) = jz (if a < b then b else a) := by
  by_cases h : a < b
  · rw [if_pos ((jz_lt ha hb).mpr h), if_pos h]
  · rw [if_neg (fun q => h ((jz_lt ha hb).mp q)), if_neg h]
theorem jz_b {z : Int} (h : z = 0 ∨ z = 1) : jz z = 0 ∨ jz z = 1 := by
  rcases h with rfl | rfl
  · exact Or.inl rfl
  · exact Or.inr rfl
/-- what follows a call -/
def jm_k (pr : jm_Pr) (d mi : Nat) (Q : jm_Q) (q : Nat) (ls : jm_Ls) (rest : List jm_V) (pc : Nat) : jm_Q := fun o h' => match o with
  | .inl none => jm_W pr d mi (q, ls, rest, h') Q
  | .inl (some v) => jm_W pr d mi (q, ls, v :: rest, h') Q
  | .inr a => jo_thr (fun c => jm_W pr d mi c Q) Q ls h' (pr.2.1 mi) pc a
def jm_nl (l : List jm_V) : Bool := l.all (fun v => match v with
  | .inr (.inr _) => false
  | _ => true)
theorem jm_nl_spec {l : List jm_V} (h : jm_nl l = true) : ∀ v ∈ l, ∀ z, v ≠ .inr (.inr z) := by
  intro v hv z hz
  subst hz
  have := List.all_eq_true.mp h _ hv
  cases this
theorem jm_callB {pr : jm_Pr} {d mi : Nat} {Q : jm_Q} {q : Nat} {ls : jm_Ls} {st : List jm_V} {h : jm_H} {pc x y t nx : Nat} {wx w : Nat × Nat} (h1 : Nat.ble y st.length = true) (h2 : Nat.ble (wx.1 + 1) w.1 = true) (h2' : Nat.ble (jm_cs (st.drop y) + (nx + 11) + wx.2) w.2 = true) (h3 : jm_nl (st.take y) = true)
    (h4 : match t with
    | 0 => True
    | t + 1 => ∃ a, (st.take y).getLast? = some (.inr (.inl a)) ∧ jm_T h a = t + 1)
    (h5 : jm_E pr d x (st.take y).reverse h (jm_k pr d mi Q q ls (st.drop y) pc)) : jo_call (jm_B pr d mi Q 0) Q q ls st h (jm_E pr d) (pr.2.1 mi) pc x y t nx wx w := by
  refine ⟨Nat.le_of_ble_eq_true h1, ⟨Nat.le_of_ble_eq_true h2, Nat.le_of_ble_eq_true h2'⟩, jm_nl_spec h3, h4, jm_E_mono _ _ _ _ _ _ ?_ h5⟩
  intro o h' z
  rcases o with o | a
  · cases o with
    | none => exact z
    | some v => exact z
  · exact z
theorem jm_callO {pr : jm_Pr} {d mi : Nat} {Q : jm_Q} {q : Nat} {ls : jm_Ls} {st : List jm_V} {h : jm_H} {pc x y t nx a : Nat} {wx w : Nat × Nat} (h1 : Nat.ble y st.length = true) (h2 : Nat.ble (wx.1 + 1) w.1 = true) (h2' : Nat.ble (jm_cs (st.drop y) + (nx + 11) + wx.2) w.2 = true) (h3 : jm_nl (st.take y) = true)
    (h4 : (st.take y).getLast? = some (.inr (.inl a))) (h4' : jm_T h a = t + 1)
    (h5 : jm_E pr d x (st.take y).reverse h (jm_k pr d mi Q q ls (st.drop y) pc)) : jo_call (jm_B pr d mi Q 0) Q q ls st h (jm_E pr d) (pr.2.1 mi) pc x y (t + 1) nx wx w := jm_callB h1 h2 h2' h3 ⟨a, h4, h4'⟩ h5
theorem jm_callS {pr : jm_Pr} {d mi : Nat} {Q : jm_Q} {q : Nat} {ls : jm_Ls} {st : List jm_V} {h : jm_H} {pc x y nx : Nat} {wx w : Nat × Nat} (h1 : Nat.ble y st.length = true) (h2 : Nat.ble (wx.1 + 1) w.1 = true) (h2' : Nat.ble (jm_cs (st.drop y) + (nx + 11) + wx.2) w.2 = true) (h3 : jm_nl (st.take y) = true)
    (h5 : jm_E pr d x (st.take y).reverse h (jm_k pr d mi Q q ls (st.drop y) pc)) : jo_call (jm_B pr d mi Q 0) Q q ls st h (jm_E pr d) (pr.2.1 mi) pc x y 0 nx wx w := jm_callB h1 h2 h2' h3 trivial h5
theorem jm_sw0 {P : Nat → Prop} {d : Nat} {a : Int32} (k : P d) : P (jm_sl [] d a) := k
theorem jm_sw1 {P : Nat → Prop} {q : Int32 × Nat} {r : List (Int32 × Nat)} {d : Nat} {a : Int32} (k1 : a = q.1 → P q.2) (k2 : ¬ a = q.1 → P (jm_sl r d a)) : P (jm_sl (q :: r) d a) := by
  show P (if a = q.1 then q.2 else jm_sl r d a)
  by_cases h : a = q.1
  · rw [if_pos h]; exact k1 h
  · rw [if_neg h]; exact k2 h
/-- after a call that returns no value, or a number -/
theorem jm_callV {pr : jm_Pr} {d mi x : Nat} {as : List jm_V} {h : jm_H} {R : jm_H → Prop} {Q : jm_Q} {q : Nat} {ls : jm_Ls} {rest : List jm_V} {pc : Nat} (s : jm_E pr d x as h (fun o h' => o = .inl none ∧ R h')) (k : ∀ h', R h' → jm_W pr d mi (q, ls, rest, h') Q) : jm_E pr d x as h (jm_k pr d mi Q q ls rest pc) := by
  refine jm_E_mono _ _ _ _ _ _ ?_ s
  rintro o h' ⟨rfl, hr⟩
  exact k h' hr
theorem jm_callI {pr : jm_Pr} {d mi x : Nat} {as : List jm_V} {h : jm_H} {R : Int → jm_H → Prop} {Q : jm_Q} {q : Nat} {ls : jm_Ls} {rest : List jm_V} {pc : Nat} (s : jm_E pr d x as h (fun o h' => ∃ z, o = .inl (some (.inl (jz z))) ∧ R z h')) (k : ∀ z h', R z h' → jm_W pr d mi (q, ls, .inl (jz z) :: rest, h') Q) : jm_E pr d x as h (jm_k pr d mi Q q ls rest pc) := by
  refine jm_E_mono _ _ _ _ _ _ ?_ s
  rintro o h' ⟨z, rfl, hr⟩
  exact k z h' hr
/-- a read of another kind of object -/
theorem jr_I_ne {h : jm_H} {a k b j s t : Nat} {x : Int32} (hb : jm_T h b = s) (ha : jm_T h a = t) (hst : s ≠ t) : jm_I (jm_sI h a k x) b j = jm_I h b j := by
  rw [jr_I_sI, if_neg]
  rintro ⟨rfl, -⟩
  exact hst (hb.symm.trans ha)
theorem jr_I_neA {h : jm_H} {a b j s t : Nat} {f : Nat → Int32} (hb : jm_T h b = s) (ha : jm_T h a = t) (hst : s ≠ t) : jm_I (jm_sA h a f) b j = jm_I h b j := by
  rw [jr_I_sA, if_neg]
  rintro rfl
  exact hst (hb.symm.trans ha)
theorem jr_I_self {h : jm_H} {a k : Nat} {x : Int32} : jm_I (jm_sI h a k x) a k = x := by
  rw [jr_I_sI, if_pos ⟨rfl, rfl⟩]
theorem jr_I_fld {h : jm_H} {a k j : Nat} {x : Int32} (hk : j ≠ k) : jm_I (jm_sI h a k x) a j = jm_I h a j := by
  rw [jr_I_sI, if_neg (fun q => hk q.2)]
theorem jr_F_self {h : jm_H} {a k x : Nat} : jm_F (jm_sF h a k x) a k = x := by
  rw [jr_F_sF, if_pos ⟨rfl, rfl⟩]
theorem jr_F_fld {h : jm_H} {a k j x : Nat} (hk : j ≠ k) : jm_F (jm_sF h a k x) a j = jm_F h a j := by
  rw [jr_F_sF, if_neg (fun q => hk q.2)]
section JZC
variable {a b : Int}
theorem jz_c0 (ha : jR a) (hb : jR b) (p : jz a = jz b) : a = b := (jz_eq ha hb).mp p
theorem jz_n0 (_ : jR a) (_ : jR b) (p : ¬ jz a = jz b) : ¬ a = b := fun q => p (by rw [q])
theorem jz_c1 (_ : jR a) (_ : jR b) (p : ¬ jz a = jz b) : ¬ a = b := fun q => p (by rw [q])
theorem jz_n1 (ha : jR a) (hb : jR b) (p : ¬ ¬ jz a = jz b) : a = b := (jz_eq ha hb).mp (Classical.byContradiction p)
theorem jz_c2 (ha : jR a) (hb : jR b) (p : jz a < jz b) : a < b := (jz_lt ha hb).mp p
theorem jz_n2 (ha : jR a) (hb : jR b) (p : ¬ jz a < jz b) : b ≤ a := Int.not_lt.mp (fun q => p ((jz_lt ha hb).mpr q))
theorem jz_c3 (ha : jR a) (hb : jR b) (p : jz b ≤ jz a) : b ≤ a := (jz_le hb ha).mp p
theorem jz_n3 (ha : jR a) (hb : jR b) (p : ¬ jz b ≤ jz a) : a < b := Int.not_le.mp (fun q => p ((jz_le hb ha).mpr q))
theorem jz_c4 (ha : jR a) (hb : jR b) (p : jz b < jz a) : b < a := (jz_lt hb ha).mp p
theorem jz_n4 (ha : jR a) (hb : jR b) (p : ¬ jz b < jz a) : a ≤ b := Int.not_lt.mp (fun q => p ((jz_lt hb ha).mpr q))
theorem jz_c5 (ha : jR a) (hb : jR b) (p : jz a ≤ jz b) : a ≤ b := (jz_le ha hb).mp p
theorem jz_n5 (ha : jR a) (hb : jR b) (p : ¬ jz a ≤ jz b) : b < a := Int.not_le.mp (fun q => p ((jz_le ha hb).mpr q))
end JZC
end
section
/-! 118 DeltaHistory$Text.<init>()V -/
theorem b118_0 {d : Nat} {Q : jm_Q} {h : jm_H} {a0 : Nat} {y2 : Int32} {x5 : Nat} (c1 : ¬ jm_T h a0 = 0) (q2 : (12 : Int32) = y2) (c3 : 0 ≤ y2.toInt) (c4 : y2.toInt ≤ 100000) (q5 : jm_ix y2 = x5) (c6 : h.1 + 1 ≤ 601026) (c7 : h.2.1 + x5 ≤ 7293034) (k : jm_W dh_pr d 118 (9, [some (.inr (.inl a0))], [.inr (.inl h.1), .inr (.inl a0)], jm_new h 100 x5 x5) Q) : jm_W dh_pr d 118 (0, [some (.inr (.inl a0))], [], h) Q := by
  subst q2 q5
  exact jm_blk 5 (And.intro c1 (And.intro ⟨Nat.le_of_ble_eq_true rfl, Nat.le_of_ble_eq_true rfl⟩ (And.intro c3 (And.intro c4 (And.intro c6 (And.intro c7 (k)))))))
theorem b118_9 {d : Nat} {Q : jm_Q} {h : jm_H} {l0 : Option jm_V} {r0 : Nat} {r1 : Nat} (c1 : jm_T h r0 = 8) (k : jm_W dh_pr d 118 (12, [l0], [], jm_sF h r0 0 r1) Q) : jm_W dh_pr d 118 (9, [l0], [.inr (.inl r1), .inr (.inl r0)], h) Q := jm_blk 1 (And.intro c1 (k))
theorem b118_12 {d : Nat} {Q : jm_Q} {h : jm_H} {l0 : Option jm_V} (k : Q (.inl none) h) : jm_W dh_pr d 118 (12, [l0], [], h) Q := jm_blk 1 (k)
theorem e118 {d : Nat} {Q : jm_Q} {h : jm_H} {a0 : Nat} (w : jm_W dh_pr d 118 (0, [some (.inr (.inl a0))], [], h) Q) : jm_E dh_pr (d + 1) 118 [.inr (.inl a0)] h Q := jm_E_in (Nat.le_of_ble_eq_true rfl) w
theorem r118_0 {d : Nat} {Q : jm_Q} {h : jm_H} {a0 : Nat} (w : (¬ jm_T h a0 = 0 ∧ h.1 + 1 ≤ 601026 ∧ h.2.1 + 12 ≤ 7293034 ∧ (jm_T (jm_new h 100 12 12) a0 = 8 ∧ (Q (.inl none) (jm_sF (jm_new h 100 12 12) a0 0 h.1))))) : jm_W dh_pr d 118 (0, [some (.inr (.inl a0))], [], h) Q :=
  (b118_0 w.1 (show (12 : Int32) = jz 12 from rfl) (show 0 ≤ (jz 12).toInt by decide) (show (jz 12).toInt ≤ 100000 by decide) (show jm_ix (jz 12) = 12 from jz_ix ⟨by decide, by decide⟩) w.2.1 w.2.2.1 (b118_9 w.2.2.2.1 (b118_12 w.2.2.2.2)))
/-! 119 DeltaHistory$Text.clear()V -/
theorem b119_0 {d : Nat} {Q : jm_Q} {h : jm_H} {a0 : Nat} {y1 : Int32} (q1 : (0 : Int32) = y1) (c2 : jm_T h a0 = 8) (k : jm_W dh_pr d 119 (5, [some (.inr (.inl a0))], [], jm_sI h a0 1 y1) Q) : jm_W dh_pr d 119 (0, [some (.inr (.inl a0))], [], h) Q := by
  subst q1
  exact jm_blk 3 (And.intro c2 (k))
theorem b119_5 {d : Nat} {Q : jm_Q} {h : jm_H} {l0 : Option jm_V} (k : Q (.inl none) h) : jm_W dh_pr d 119 (5, [l0], [], h) Q := jm_blk 1 (k)
theorem e119 {d : Nat} {Q : jm_Q} {h : jm_H} {a0 : Nat} (w : jm_W dh_pr d 119 (0, [some (.inr (.inl a0))], [], h) Q) : jm_E dh_pr (d + 1) 119 [.inr (.inl a0)] h Q := jm_E_in (Nat.le_of_ble_eq_true rfl) w
theorem r119_0 {d : Nat} {Q : jm_Q} {h : jm_H} {a0 : Nat} (w : (jm_T h a0 = 8 ∧ (Q (.inl none) (jm_sI h a0 1 (jz 0))))) : jm_W dh_pr d 119 (0, [some (.inr (.inl a0))], [], h) Q :=
  (b119_0 (show (0 : Int32) = jz 0 from rfl) w.1 (b119_5 w.2))
/-! 120 DeltaHistory$Text.become(LDeltaHistory$Text;)V -/
theorem b120_0 {d : Nat} {Q : jm_Q} {h : jm_H} {a0 : Nat} {a1 : Nat} {f2 : Nat} {y3 : Int32} {f5 : Nat} {y6 : Int32} {y8 : Int32} {n14 : Nat} {n15 : Nat} {x18 : Nat} {x19 : Nat} {x20 : Nat} (c1 : jm_T h a1 = 8) (q2 : jm_F h a1 0 = f2) (q3 : (0 : Int32) = y3) (c4 : jm_T h a0 = 8) (q5 : jm_F h a0 0 = f5) (q6 : (0 : Int32) = y6) (c7 : jm_T h a1 = 8) (q8 : jm_I h a1 1 = y8) (c9 : jm_T h f2 = 100) (c10 : jm_T h f5 = 100) (c11 : 0 ≤ y8.toInt) (c12 : 0 ≤ y3.toInt) (c13 : 0 ≤ y6.toInt) (q14 : jm_N h f2 = n14) (q15 : jm_N h f5 = n15) (c16 : y3.toInt + y8.toInt ≤ (n14 : Int)) (c17 : y6.toInt + y8.toInt ≤ (n15 : Int)) (q18 : jm_ix y3 = x18) (q19 : jm_ix y6 = x19) (q20 : jm_ix y8 = x20) (k : jm_W dh_pr d 120 (17, [some (.inr (.inl a0)), some (.inr (.inl a1))], [], jm_sA h f5 (jm_cpy (jm_I h f2) (jm_I h f5) x18 x19 x20)) Q) : jm_W dh_pr d 120 (0, [some (.inr (.inl a0)), some (.inr (.inl a1))], [], h) Q := by
  subst q2 q3 q5 q6 q8 q14 q15 q18 q19 q20
  exact jm_blk 9 (And.intro c1 (And.intro c4 (And.intro c7 (And.intro c9 (And.intro c10 (And.intro c11 (And.intro c12 (And.intro c13 (And.intro c16 (And.intro c17 (And.intro ⟨Nat.le_of_ble_eq_true rfl, Nat.le_of_ble_eq_true rfl⟩ (k))))))))))))
theorem b120_17 {d : Nat} {Q : jm_Q} {h : jm_H} {a0 : Nat} {a1 : Nat} {y2 : Int32} (c1 : jm_T h a1 = 8) (q2 : jm_I h a1 1 = y2) (c3 : jm_T h a0 = 8) (k : jm_W dh_pr d 120 (25, [some (.inr (.inl a0)), some (.inr (.inl a1))], [], jm_sI h a0 1 y2) Q) : jm_W dh_pr d 120 (17, [some (.inr (.inl a0)), some (.inr (.inl a1))], [], h) Q := by
  subst q2
  exact jm_blk 4 (And.intro c1 (And.intro c3 (k)))
theorem b120_25 {d : Nat} {Q : jm_Q} {h : jm_H} {l0 : Option jm_V} {l1 : Option jm_V} (k : Q (.inl none) h) : jm_W dh_pr d 120 (25, [l0, l1], [], h) Q := jm_blk 1 (k)
theorem e120 {d : Nat} {Q : jm_Q} {h : jm_H} {a0 : Nat} {a1 : Nat} (w : jm_W dh_pr d 120 (0, [some (.inr (.inl a0)), some (.inr (.inl a1))], [], h) Q) : jm_E dh_pr (d + 1) 120 [.inr (.inl a0), .inr (.inl a1)] h Q := jm_E_in (Nat.le_of_ble_eq_true rfl) w
theorem r120_0 {d : Nat} {Q : jm_Q} {h : jm_H} {a0 : Nat} {a1 : Nat} (w : (jm_T h a1 = 8 ∧ ∃ f1 : Nat, jm_F h a1 0 = f1 ∧ jm_T h a0 = 8 ∧ ∃ f2 : Nat, jm_F h a0 0 = f2 ∧ ∃ z3 : Int, jm_I h a1 1 = jz z3 ∧ jm_T h f1 = 100 ∧ jm_T h f2 = 100 ∧ jR z3 ∧ 0 ≤ z3 ∧ ∃ n4 : Nat, jm_N h f1 = n4 ∧ ∃ n5 : Nat, jm_N h f2 = n5 ∧ 0 + z3 ≤ (n4 : Int) ∧ 0 + z3 ≤ (n5 : Int) ∧ ((Q (.inl none) (jm_sI (jm_sA h f2 (jm_cpy (jm_I h f1) (jm_I h f2) 0 0 z3.toNat)) a0 1 (jz z3)))))) : jm_W dh_pr d 120 (0, [some (.inr (.inl a0)), some (.inr (.inl a1))], [], h) Q :=
  (w.2.elim fun f1 w1 => (w1.2.2.elim fun f2 w2 => (w2.2.elim fun z3 w3 => (w3.2.2.2.2.2.elim fun n4 w4 => (w4.2.elim fun n5 w5 => (b120_0 w.1 w1.1 (show (0 : Int32) = jz 0 from rfl) w1.2.1 w2.1 (show (0 : Int32) = jz 0 from rfl) w.1 w3.1 w3.2.1 w3.2.2.1 (by rw [jz_toInt w3.2.2.2.1]; exact w3.2.2.2.2.1) (show 0 ≤ (jz 0).toInt by decide) (show 0 ≤ (jz 0).toInt by decide) w4.1 w5.1 (by rw [jz_toInt ⟨by decide, by decide⟩, jz_toInt w3.2.2.2.1]; exact w5.2.1) (by rw [jz_toInt ⟨by decide, by decide⟩, jz_toInt w3.2.2.2.1]; exact w5.2.2.1) (show jm_ix (jz 0) = 0 from jz_ix ⟨by decide, by decide⟩) (show jm_ix (jz 0) = 0 from jz_ix ⟨by decide, by decide⟩) (jz_ix w3.2.2.2.1) (b120_17 ((jr_T_sA _ _ _ _).trans w.1) ((jr_I_neA w.1 w3.2.2.1 (by decide)).trans w3.1) ((jr_T_sA _ _ _ _).trans w1.2.1) (b120_25 w5.2.2.2))))))))
/-! 121 DeltaHistory$Text.lineAt(I)I -/
theorem b121_0 {d : Nat} {Q : jm_Q} {h : jm_H} {l0 : Option jm_V} {v1 : Int32} {y1 : Int32} (q1 : (0 : Int32) = y1) (k1 : v1 < y1 → jm_W dh_pr d 121 (21, [l0, some (.inl v1)], [], h) Q) (k2 : ¬ (v1 < y1) → jm_W dh_pr d 121 (4, [l0, some (.inl v1)], [], h) Q) : jm_W dh_pr d 121 (0, [l0, some (.inl v1)], [], h) Q := by
  subst q1
  exact jm_blk 2 (And.intro k1 k2)
theorem b121_4 {d : Nat} {Q : jm_Q} {h : jm_H} {a0 : Nat} {v1 : Int32} {y2 : Int32} (c1 : jm_T h a0 = 8) (q2 : jm_I h a0 1 = y2) (k1 : y2 ≤ v1 → jm_W dh_pr d 121 (21, [some (.inr (.inl a0)), some (.inl v1)], [], h) Q) (k2 : ¬ (y2 ≤ v1) → jm_W dh_pr d 121 (12, [some (.inr (.inl a0)), some (.inl v1)], [], h) Q) : jm_W dh_pr d 121 (4, [some (.inr (.inl a0)), some (.inl v1)], [], h) Q := by
  subst q2
  exact jm_blk 4 (And.intro c1 (And.intro k1 k2))
theorem b121_12 {d : Nat} {Q : jm_Q} {h : jm_H} {a0 : Nat} {v1 : Int32} {f2 : Nat} {n4 : Nat} {x6 : Nat} {y7 : Int32} (c1 : jm_T h a0 = 8) (q2 : jm_F h a0 0 = f2) (c3 : jm_T h f2 = 100) (q4 : jm_N h f2 = n4) (c5 : jm_in v1 n4) (q6 : jm_ix v1 = x6) (q7 : jm_I h f2 x6 = y7) (k : jm_W dh_pr d 121 (22, [some (.inr (.inl a0)), some (.inl v1)], [.inl y7], h) Q) : jm_W dh_pr d 121 (12, [some (.inr (.inl a0)), some (.inl v1)], [], h) Q := by
  subst q2 q4 q6 q7
  exact jm_blk 5 (And.intro c1 (And.intro c3 (And.intro c5 (k))))
theorem b121_21 {d : Nat} {Q : jm_Q} {h : jm_H} {l0 : Option jm_V} {l1 : Option jm_V} {y1 : Int32} (q1 : ((-1) : Int32) = y1) (k : jm_W dh_pr d 121 (22, [l0, l1], [.inl y1], h) Q) : jm_W dh_pr d 121 (21, [l0, l1], [], h) Q := by
  subst q1
  exact jm_blk 1 (k)
theorem b121_22 {d : Nat} {Q : jm_Q} {h : jm_H} {l0 : Option jm_V} {l1 : Option jm_V} {s0 : Int32} (k : Q (.inl (some (.inl s0))) h) : jm_W dh_pr d 121 (22, [l0, l1], [.inl s0], h) Q := jm_blk 1 (k)
theorem e121 {d : Nat} {Q : jm_Q} {h : jm_H} {a0 : Nat} {v1 : Int} (w : jm_W dh_pr d 121 (0, [some (.inr (.inl a0)), some (.inl (jz v1))], [], h) Q) : jm_E dh_pr (d + 1) 121 [.inr (.inl a0), .inl (jz v1)] h Q := jm_E_in (Nat.le_of_ble_eq_true rfl) w
theorem r121_0 {d : Nat} {Q : jm_Q} {h : jm_H} {a0 : Nat} {v1 : Int} (w : (jR v1 ∧ (v1 < 0 → ((Q (.inl (some (.inl (jz (-1))))) h))) ∧ (0 ≤ v1 → (jm_T h a0 = 8 ∧ ∃ z2 : Int, jm_I h a0 1 = jz z2 ∧ jR z2 ∧ (z2 ≤ v1 → ((Q (.inl (some (.inl (jz (-1))))) h))) ∧ (v1 < z2 → (∃ f4 : Nat, jm_F h a0 0 = f4 ∧ jm_T h f4 = 100 ∧ ∃ n5 : Nat, jm_N h f4 = n5 ∧ jzi v1 n5 ∧ ∃ z6 : Int, jm_I h f4 v1.toNat = jz z6 ∧ (Q (.inl (some (.inl (jz z6)))) h))))))) : jm_W dh_pr d 121 (0, [some (.inr (.inl a0)), some (.inl (jz v1))], [], h) Q :=
  (b121_0 (show (0 : Int32) = jz 0 from rfl) (fun p1 => (b121_21 (show ((-1) : Int32) = jz (-1) from rfl) (b121_22 (w.2.1 (jz_c2 w.1 ⟨by decide, by decide⟩ p1))))) (fun p1 => ((w.2.2 (jz_n2 w.1 ⟨by decide, by decide⟩ p1)).2.elim fun z2 w2 => (b121_4 (w.2.2 (jz_n2 w.1 ⟨by decide, by decide⟩ p1)).1 w2.1 (fun p3 => (b121_21 (show ((-1) : Int32) = jz (-1) from rfl) (b121_22 (w2.2.2.1 (jz_c3 w.1 w2.2.1 p3))))) (fun p3 => ((w2.2.2.2 (jz_n3 w.1 w2.2.1 p3)).elim fun f4 w4 => (w4.2.2.elim fun n5 w5 => (w5.2.2.elim fun z6 w6 => (b121_12 (w.2.2 (jz_n2 w.1 ⟨by decide, by decide⟩ p1)).1 w4.1 w4.2.1 w5.1 (jz_in w5.2.1) (jz_ix w5.2.1.r) w6.1 (b121_22 w6.2))))))))))
/-! 122 DeltaHistory$Text.append(I)Z -/
theorem b122_0 {d : Nat} {Q : jm_Q} {h : jm_H} {l0 : Option jm_V} {v1 : Int32} {y1 : Int32} (q1 : (1 : Int32) = y1) (k1 : v1 < y1 → jm_W dh_pr d 122 (20, [l0, some (.inl v1)], [], h) Q) (k2 : ¬ (v1 < y1) → jm_W dh_pr d 122 (5, [l0, some (.inl v1)], [], h) Q) : jm_W dh_pr d 122 (0, [l0, some (.inl v1)], [], h) Q := by
  subst q1
  exact jm_blk 3 (And.intro k1 k2)
theorem b122_5 {d : Nat} {Q : jm_Q} {h : jm_H} {l0 : Option jm_V} {v1 : Int32} {y1 : Int32} (q1 : (99 : Int32) = y1) (k1 : y1 < v1 → jm_W dh_pr d 122 (20, [l0, some (.inl v1)], [], h) Q) (k2 : ¬ (y1 < v1) → jm_W dh_pr d 122 (11, [l0, some (.inl v1)], [], h) Q) : jm_W dh_pr d 122 (5, [l0, some (.inl v1)], [], h) Q := by
  subst q1
  exact jm_blk 3 (And.intro k1 k2)
theorem b122_11 {d : Nat} {Q : jm_Q} {h : jm_H} {a0 : Nat} {l1 : Option jm_V} {y2 : Int32} {y3 : Int32} (c1 : jm_T h a0 = 8) (q2 : jm_I h a0 1 = y2) (q3 : (12 : Int32) = y3) (k1 : y2 < y3 → jm_W dh_pr d 122 (22, [some (.inr (.inl a0)), l1], [], h) Q) (k2 : ¬ (y2 < y3) → jm_W dh_pr d 122 (20, [some (.inr (.inl a0)), l1], [], h) Q) : jm_W dh_pr d 122 (11, [some (.inr (.inl a0)), l1], [], h) Q := by
  subst q2 q3
  exact jm_blk 4 (And.intro c1 (And.intro k1 k2))
theorem b122_20 {d : Nat} {Q : jm_Q} {h : jm_H} {l0 : Option jm_V} {l1 : Option jm_V} {y1 : Int32} (q1 : (0 : Int32) = y1) (c2 : y1 = 0 ∨ y1 = 1) (k : Q (.inl (some (.inl y1))) h) : jm_W dh_pr d 122 (20, [l0, l1], [], h) Q := by
  subst q1
  exact jm_blk 2 (And.intro c2 (k))
theorem b122_22 {d : Nat} {Q : jm_Q} {h : jm_H} {a0 : Nat} {v1 : Int32} {f2 : Nat} {y4 : Int32} {n6 : Nat} {x8 : Nat} (c1 : jm_T h a0 = 8) (q2 : jm_F h a0 0 = f2) (c3 : jm_T h a0 = 8) (q4 : jm_I h a0 1 = y4) (c5 : jm_T h f2 = 100) (q6 : jm_N h f2 = n6) (c7 : jm_in y4 n6) (q8 : jm_ix y4 = x8) (k : jm_W dh_pr d 122 (32, [some (.inr (.inl a0)), some (.inl v1)], [], jm_sI h f2 x8 v1) Q) : jm_W dh_pr d 122 (22, [some (.inr (.inl a0)), some (.inl v1)], [], h) Q := by
  subst q2 q4 q6 q8
  exact jm_blk 6 (And.intro c1 (And.intro c3 (And.intro c5 (And.intro c7 (k)))))
theorem b122_32 {d : Nat} {Q : jm_Q} {h : jm_H} {a0 : Nat} {l1 : Option jm_V} {y2 : Int32} {y3 : Int32} {y4 : Int32} (c1 : jm_T h a0 = 8) (q2 : jm_I h a0 1 = y2) (q3 : (1 : Int32) = y3) (q4 : y2 + y3 = y4) (c5 : jm_T h a0 = 8) (k : jm_W dh_pr d 122 (42, [some (.inr (.inl a0)), l1], [], jm_sI h a0 1 y4) Q) : jm_W dh_pr d 122 (32, [some (.inr (.inl a0)), l1], [], h) Q := by
  subst q2 q3 q4
  exact jm_blk 6 (And.intro c1 (And.intro c5 (k)))
theorem b122_42 {d : Nat} {Q : jm_Q} {h : jm_H} {l0 : Option jm_V} {l1 : Option jm_V} {y1 : Int32} (q1 : (1 : Int32) = y1) (c2 : y1 = 0 ∨ y1 = 1) (k : Q (.inl (some (.inl y1))) h) : jm_W dh_pr d 122 (42, [l0, l1], [], h) Q := by
  subst q1
  exact jm_blk 2 (And.intro c2 (k))
theorem e122 {d : Nat} {Q : jm_Q} {h : jm_H} {a0 : Nat} {v1 : Int} (w : jm_W dh_pr d 122 (0, [some (.inr (.inl a0)), some (.inl (jz v1))], [], h) Q) : jm_E dh_pr (d + 1) 122 [.inr (.inl a0), .inl (jz v1)] h Q := jm_E_in (Nat.le_of_ble_eq_true rfl) w
theorem r122_0 {d : Nat} {Q : jm_Q} {h : jm_H} {a0 : Nat} {v1 : Int} (w : (jR v1 ∧ (v1 < 1 → (Q (.inl (some (.inl (jz 0)))) h)) ∧ (1 ≤ v1 → ((99 < v1 → (Q (.inl (some (.inl (jz 0)))) h)) ∧ (v1 ≤ 99 → (jm_T h a0 = 8 ∧ ∃ z3 : Int, jm_I h a0 1 = jz z3 ∧ jR z3 ∧ (z3 < 12 → (∃ f5 : Nat, jm_F h a0 0 = f5 ∧ jm_T h f5 = 100 ∧ ∃ n6 : Nat, jm_N h f5 = n6 ∧ jzi z3 n6 ∧ ((Q (.inl (some (.inl (jz 1)))) (jm_sI (jm_sI h f5 z3.toNat (jz v1)) a0 1 (jz (z3 + 1))))))) ∧ (12 ≤ z3 → (Q (.inl (some (.inl (jz 0)))) h)))))))) : jm_W dh_pr d 122 (0, [some (.inr (.inl a0)), some (.inl (jz v1))], [], h) Q :=
  (b122_0 (show (1 : Int32) = jz 1 from rfl) (fun p1 => (b122_20 (show (0 : Int32) = jz 0 from rfl) (Or.inl rfl) (w.2.1 (jz_c2 w.1 ⟨by decide, by decide⟩ p1)))) (fun p1 => (b122_5 (show (99 : Int32) = jz 99 from rfl) (fun p2 => (b122_20 (show (0 : Int32) = jz 0 from rfl) (Or.inl rfl) ((w.2.2 (jz_n2 w.1 ⟨by decide, by decide⟩ p1)).1 (jz_c4 w.1 ⟨by decide, by decide⟩ p2)))) (fun p2 => (((w.2.2 (jz_n2 w.1 ⟨by decide, by decide⟩ p1)).2 (jz_n4 w.1 ⟨by decide, by decide⟩ p2)).2.elim fun z3 w3 => (b122_11 ((w.2.2 (jz_n2 w.1 ⟨by decide, by decide⟩ p1)).2 (jz_n4 w.1 ⟨by decide, by decide⟩ p2)).1 w3.1 (show (12 : Int32) = jz 12 from rfl) (fun p4 => ((w3.2.2.1 (jz_c2 w3.2.1 ⟨by decide, by decide⟩ p4)).elim fun f5 w5 => (w5.2.2.elim fun n6 w6 => (b122_22 ((w.2.2 (jz_n2 w.1 ⟨by decide, by decide⟩ p1)).2 (jz_n4 w.1 ⟨by decide, by decide⟩ p2)).1 w5.1 ((w.2.2 (jz_n2 w.1 ⟨by decide, by decide⟩ p1)).2 (jz_n4 w.1 ⟨by decide, by decide⟩ p2)).1 w3.1 w5.2.1 w6.1 (jz_in w6.2.1) (jz_ix w6.2.1.r) (b122_32 ((jr_T_sI _ _ _ _ _).trans ((w.2.2 (jz_n2 w.1 ⟨by decide, by decide⟩ p1)).2 (jz_n4 w.1 ⟨by decide, by decide⟩ p2)).1) ((jr_I_ne ((w.2.2 (jz_n2 w.1 ⟨by decide, by decide⟩ p1)).2 (jz_n4 w.1 ⟨by decide, by decide⟩ p2)).1 w5.2.1 (by decide)).trans w3.1) (show (1 : Int32) = jz 1 from rfl) (jz_add _ _) ((jr_T_sI _ _ _ _ _).trans ((w.2.2 (jz_n2 w.1 ⟨by decide, by decide⟩ p1)).2 (jz_n4 w.1 ⟨by decide, by decide⟩ p2)).1) (b122_42 (show (1 : Int32) = jz 1 from rfl) (Or.inr rfl) w6.2.2)))))) (fun p4 => (b122_20 (show (0 : Int32) = jz 0 from rfl) (Or.inl rfl) (w3.2.2.2 (jz_n2 w3.2.1 ⟨by decide, by decide⟩ p4))))))))))
/-! 123 DeltaHistory$Text.putIn(II)Z -/
theorem b123_0 {d : Nat} {Q : jm_Q} {h : jm_H} {l0 : Option jm_V} {v1 : Int32} {l2 : Option jm_V} {y1 : Int32} (q1 : (0 : Int32) = y1) (k1 : v1 < y1 → jm_W dh_pr d 123 (20, [l0, some (.inl v1), l2], [], h) Q) (k2 : ¬ (v1 < y1) → jm_W dh_pr d 123 (4, [l0, some (.inl v1), l2], [], h) Q) : jm_W dh_pr d 123 (0, [l0, some (.inl v1), l2], [], h) Q := by
  subst q1
  exact jm_blk 2 (And.intro k1 k2)
theorem b123_4 {d : Nat} {Q : jm_Q} {h : jm_H} {a0 : Nat} {v1 : Int32} {l2 : Option jm_V} {y2 : Int32} (c1 : jm_T h a0 = 8) (q2 : jm_I h a0 1 = y2) (k1 : y2 < v1 → jm_W dh_pr d 123 (20, [some (.inr (.inl a0)), some (.inl v1), l2], [], h) Q) (k2 : ¬ (y2 < v1) → jm_W dh_pr d 123 (12, [some (.inr (.inl a0)), some (.inl v1), l2], [], h) Q) : jm_W dh_pr d 123 (4, [some (.inr (.inl a0)), some (.inl v1), l2], [], h) Q := by
  subst q2
  exact jm_blk 4 (And.intro c1 (And.intro k1 k2))
theorem b123_12 {d : Nat} {Q : jm_Q} {h : jm_H} {a0 : Nat} {l1 : Option jm_V} {v2 : Int32} (c1 : jm_T h a0 = 8) (k : jm_E dh_pr d 122 [.inr (.inl a0), .inl v2] h (jm_k dh_pr d 123 Q 17 [some (.inr (.inl a0)), l1, some (.inl v2)] [] 14)) : jm_W dh_pr d 123 (12, [some (.inr (.inl a0)), l1, some (.inl v2)], [], h) Q := jm_blk 3 (jm_callO rfl rfl rfl rfl rfl c1 k)
theorem b123_17 {d : Nat} {Q : jm_Q} {h : jm_H} {l0 : Option jm_V} {l1 : Option jm_V} {l2 : Option jm_V} {s0 : Int32} {y1 : Int32} (q1 : (0 : Int32) = y1) (k1 : ¬ s0 = y1 → jm_W dh_pr d 123 (22, [l0, l1, l2], [], h) Q) (k2 : ¬ (¬ s0 = y1) → jm_W dh_pr d 123 (20, [l0, l1, l2], [], h) Q) : jm_W dh_pr d 123 (17, [l0, l1, l2], [.inl s0], h) Q := by
  subst q1
  exact jm_blk 1 (And.intro k1 k2)
theorem b123_20 {d : Nat} {Q : jm_Q} {h : jm_H} {l0 : Option jm_V} {l1 : Option jm_V} {l2 : Option jm_V} {y1 : Int32} (q1 : (0 : Int32) = y1) (c2 : y1 = 0 ∨ y1 = 1) (k : Q (.inl (some (.inl y1))) h) : jm_W dh_pr d 123 (20, [l0, l1, l2], [], h) Q := by
  subst q1
  exact jm_blk 2 (And.intro c2 (k))
theorem b123_22 {d : Nat} {Q : jm_Q} {h : jm_H} {a0 : Nat} {v1 : Int32} {l2 : Option jm_V} {f2 : Nat} {f4 : Nat} {y5 : Int32} {y6 : Int32} {y8 : Int32} {y9 : Int32} {y10 : Int32} {y11 : Int32} {n17 : Nat} {n18 : Nat} {x21 : Nat} {x22 : Nat} {x23 : Nat} (c1 : jm_T h a0 = 8) (q2 : jm_F h a0 0 = f2) (c3 : jm_T h a0 = 8) (q4 : jm_F h a0 0 = f4) (q5 : (1 : Int32) = y5) (q6 : v1 + y5 = y6) (c7 : jm_T h a0 = 8) (q8 : jm_I h a0 1 = y8) (q9 : (1 : Int32) = y9) (q10 : y8 - y9 = y10) (q11 : y10 - v1 = y11) (c12 : jm_T h f2 = 100) (c13 : jm_T h f4 = 100) (c14 : 0 ≤ y11.toInt) (c15 : 0 ≤ v1.toInt) (c16 : 0 ≤ y6.toInt) (q17 : jm_N h f2 = n17) (q18 : jm_N h f4 = n18) (c19 : v1.toInt + y11.toInt ≤ (n17 : Int)) (c20 : y6.toInt + y11.toInt ≤ (n18 : Int)) (q21 : jm_ix v1 = x21) (q22 : jm_ix y6 = x22) (q23 : jm_ix y11 = x23) (k : jm_W dh_pr d 123 (45, [some (.inr (.inl a0)), some (.inl v1), l2], [], jm_sA h f4 (jm_cpy (jm_I h f2) (jm_I h f4) x21 x22 x23)) Q) : jm_W dh_pr d 123 (22, [some (.inr (.inl a0)), some (.inl v1), l2], [], h) Q := by
  subst q2 q4 q5 q6 q8 q9 q10 q11 q17 q18 q21 q22 q23
  exact jm_blk 15 (And.intro c1 (And.intro c3 (And.intro c7 (And.intro c12 (And.intro c13 (And.intro c14 (And.intro c15 (And.intro c16 (And.intro c19 (And.intro c20 (And.intro ⟨Nat.le_of_ble_eq_true rfl, Nat.le_of_ble_eq_true rfl⟩ (k))))))))))))
theorem b123_45 {d : Nat} {Q : jm_Q} {h : jm_H} {a0 : Nat} {v1 : Int32} {v2 : Int32} {f2 : Nat} {n4 : Nat} {x6 : Nat} (c1 : jm_T h a0 = 8) (q2 : jm_F h a0 0 = f2) (c3 : jm_T h f2 = 100) (q4 : jm_N h f2 = n4) (c5 : jm_in v1 n4) (q6 : jm_ix v1 = x6) (k : jm_W dh_pr d 123 (52, [some (.inr (.inl a0)), some (.inl v1), some (.inl v2)], [], jm_sI h f2 x6 v2) Q) : jm_W dh_pr d 123 (45, [some (.inr (.inl a0)), some (.inl v1), some (.inl v2)], [], h) Q := by
  subst q2 q4 q6
  exact jm_blk 5 (And.intro c1 (And.intro c3 (And.intro c5 (k))))
theorem b123_52 {d : Nat} {Q : jm_Q} {h : jm_H} {l0 : Option jm_V} {l1 : Option jm_V} {l2 : Option jm_V} {y1 : Int32} (q1 : (1 : Int32) = y1) (c2 : y1 = 0 ∨ y1 = 1) (k : Q (.inl (some (.inl y1))) h) : jm_W dh_pr d 123 (52, [l0, l1, l2], [], h) Q := by
  subst q1
  exact jm_blk 2 (And.intro c2 (k))
theorem e123 {d : Nat} {Q : jm_Q} {h : jm_H} {a0 : Nat} {v1 : Int} {v2 : Int} (w : jm_W dh_pr d 123 (0, [some (.inr (.inl a0)), some (.inl (jz v1)), some (.inl (jz v2))], [], h) Q) : jm_E dh_pr (d + 1) 123 [.inr (.inl a0), .inl (jz v1), .inl (jz v2)] h Q := jm_E_in (Nat.le_of_ble_eq_true rfl) w
theorem r123_0 {d : Nat} {Q : jm_Q} {h : jm_H} {a0 : Nat} {v1 : Int} {v2 : Int} (w : (jR v1 ∧ (v1 < 0 → (Q (.inl (some (.inl (jz 0)))) h)) ∧ (0 ≤ v1 → (jm_T h a0 = 8 ∧ ∃ z2 : Int, jm_I h a0 1 = jz z2 ∧ jR z2 ∧ (z2 < v1 → (Q (.inl (some (.inl (jz 0)))) h)) ∧ (v1 ≤ z2 → (jm_E dh_pr d 122 [.inr (.inl a0), .inl (jz v2)] h (jm_k dh_pr d 123 Q 17 [some (.inr (.inl a0)), some (.inl (jz v1)), some (.inl (jz v2))] [] 14))))))) : jm_W dh_pr d 123 (0, [some (.inr (.inl a0)), some (.inl (jz v1)), some (.inl (jz v2))], [], h) Q :=
  (b123_0 (show (0 : Int32) = jz 0 from rfl) (fun p1 => (b123_20 (show (0 : Int32) = jz 0 from rfl) (Or.inl rfl) (w.2.1 (jz_c2 w.1 ⟨by decide, by decide⟩ p1)))) (fun p1 => ((w.2.2 (jz_n2 w.1 ⟨by decide, by decide⟩ p1)).2.elim fun z2 w2 => (b123_4 (w.2.2 (jz_n2 w.1 ⟨by decide, by decide⟩ p1)).1 w2.1 (fun p3 => (b123_20 (show (0 : Int32) = jz 0 from rfl) (Or.inl rfl) (w2.2.2.1 (jz_c4 w.1 w2.2.1 p3)))) (fun p3 => (b123_12 (w.2.2 (jz_n2 w.1 ⟨by decide, by decide⟩ p1)).1 (w2.2.2.2 (jz_n4 w.1 w2.2.1 p3))))))))
theorem r123_17 {d : Nat} {Q : jm_Q} {h : jm_H} {a0 : Nat} {v1 : Int} {v2 : Int} {s0 : Int} (w : (jR s0 ∧ (¬ s0 = 0 → (jm_T h a0 = 8 ∧ ∃ f5 : Nat, jm_F h a0 0 = f5 ∧ ∃ z6 : Int, jm_I h a0 1 = jz z6 ∧ jm_T h f5 = 100 ∧ jR ((z6 - 1) - v1) ∧ 0 ≤ ((z6 - 1) - v1) ∧ jR v1 ∧ 0 ≤ v1 ∧ jR (v1 + 1) ∧ 0 ≤ (v1 + 1) ∧ ∃ n7 : Nat, jm_N h f5 = n7 ∧ v1 + ((z6 - 1) - v1) ≤ (n7 : Int) ∧ (v1 + 1) + ((z6 - 1) - v1) ≤ (n7 : Int) ∧ (jzi v1 n7 ∧ (Q (.inl (some (.inl (jz 1)))) (jm_sI (jm_sA h f5 (jm_cpy (jm_I h f5) (jm_I h f5) v1.toNat ((v1 + 1).toNat) (((z6 - 1) - v1).toNat))) f5 v1.toNat (jz v2)))))) ∧ (s0 = 0 → (Q (.inl (some (.inl (jz 0)))) h)))) : jm_W dh_pr d 123 (17, [some (.inr (.inl a0)), some (.inl (jz v1)), some (.inl (jz v2))], [.inl (jz s0)], h) Q :=
  (b123_17 (show (0 : Int32) = jz 0 from rfl) (fun p4 => ((w.2.1 (jz_c1 w.1 ⟨by decide, by decide⟩ p4)).2.elim fun f5 w5 => (w5.2.elim fun z6 w6 => (w6.2.2.2.2.2.2.2.2.elim fun n7 w7 => (b123_22 (w.2.1 (jz_c1 w.1 ⟨by decide, by decide⟩ p4)).1 w5.1 (w.2.1 (jz_c1 w.1 ⟨by decide, by decide⟩ p4)).1 w5.1 (show (1 : Int32) = jz 1 from rfl) (jz_add _ _) (w.2.1 (jz_c1 w.1 ⟨by decide, by decide⟩ p4)).1 w6.1 (show (1 : Int32) = jz 1 from rfl) (jz_sub _ _) (jz_sub _ _) w6.2.1 w6.2.1 (by rw [jz_toInt w6.2.2.1]; exact w6.2.2.2.1) (by rw [jz_toInt w6.2.2.2.2.1]; exact w6.2.2.2.2.2.1) (by rw [jz_toInt w6.2.2.2.2.2.2.1]; exact w6.2.2.2.2.2.2.2.1) w7.1 w7.1 (by rw [jz_toInt w6.2.2.2.2.1, jz_toInt w6.2.2.1]; exact w7.2.1) (by rw [jz_toInt w6.2.2.2.2.2.2.1, jz_toInt w6.2.2.1]; exact w7.2.2.1) (jz_ix w6.2.2.2.2.1) (jz_ix w6.2.2.2.2.2.2.1) (jz_ix w6.2.2.1) (b123_45 ((jr_T_sA _ _ _ _).trans (w.2.1 (jz_c1 w.1 ⟨by decide, by decide⟩ p4)).1) ((jr_F_sA _ _ _ _ _).trans w5.1) ((jr_T_sA _ _ _ _).trans w6.2.1) ((jr_N_sA _ _ _ _).trans w7.1) (jz_in w7.2.2.2.1) (jz_ix w7.2.2.2.1.r) (b123_52 (show (1 : Int32) = jz 1 from rfl) (Or.inr rfl) w7.2.2.2.2))))))) (fun p4 => (b123_20 (show (0 : Int32) = jz 0 from rfl) (Or.inl rfl) (w.2.2 (jz_n1 w.1 ⟨by decide, by decide⟩ p4)))))
/-! 124 DeltaHistory$Text.takeOut(I)I -/
theorem b124_0 {d : Nat} {Q : jm_Q} {h : jm_H} {l0 : Option jm_V} {v1 : Int32} {l2 : Option jm_V} {y1 : Int32} (q1 : (0 : Int32) = y1) (k1 : v1 < y1 → jm_W dh_pr d 124 (12, [l0, some (.inl v1), l2], [], h) Q) (k2 : ¬ (v1 < y1) → jm_W dh_pr d 124 (4, [l0, some (.inl v1), l2], [], h) Q) : jm_W dh_pr d 124 (0, [l0, some (.inl v1), l2], [], h) Q := by
  subst q1
  exact jm_blk 2 (And.intro k1 k2)
theorem b124_4 {d : Nat} {Q : jm_Q} {h : jm_H} {a0 : Nat} {v1 : Int32} {l2 : Option jm_V} {y2 : Int32} (c1 : jm_T h a0 = 8) (q2 : jm_I h a0 1 = y2) (k1 : v1 < y2 → jm_W dh_pr d 124 (14, [some (.inr (.inl a0)), some (.inl v1), l2], [], h) Q) (k2 : ¬ (v1 < y2) → jm_W dh_pr d 124 (12, [some (.inr (.inl a0)), some (.inl v1), l2], [], h) Q) : jm_W dh_pr d 124 (4, [some (.inr (.inl a0)), some (.inl v1), l2], [], h) Q := by
  subst q2
  exact jm_blk 4 (And.intro c1 (And.intro k1 k2))
theorem b124_12 {d : Nat} {Q : jm_Q} {h : jm_H} {l0 : Option jm_V} {l1 : Option jm_V} {l2 : Option jm_V} {y1 : Int32} (q1 : ((-1) : Int32) = y1) (k : Q (.inl (some (.inl y1))) h) : jm_W dh_pr d 124 (12, [l0, l1, l2], [], h) Q := by
  subst q1
  exact jm_blk 2 (k)
theorem b124_14 {d : Nat} {Q : jm_Q} {h : jm_H} {a0 : Nat} {v1 : Int32} {l2 : Option jm_V} {f2 : Nat} {n4 : Nat} {x6 : Nat} {y7 : Int32} {f9 : Nat} {y10 : Int32} {y11 : Int32} {f13 : Nat} {y15 : Int32} {y16 : Int32} {y17 : Int32} {y18 : Int32} {n24 : Nat} {n25 : Nat} {x28 : Nat} {x29 : Nat} {x30 : Nat} (c1 : jm_T h a0 = 8) (q2 : jm_F h a0 0 = f2) (c3 : jm_T h f2 = 100) (q4 : jm_N h f2 = n4) (c5 : jm_in v1 n4) (q6 : jm_ix v1 = x6) (q7 : jm_I h f2 x6 = y7) (c8 : jm_T h a0 = 8) (q9 : jm_F h a0 0 = f9) (q10 : (1 : Int32) = y10) (q11 : v1 + y10 = y11) (c12 : jm_T h a0 = 8) (q13 : jm_F h a0 0 = f13) (c14 : jm_T h a0 = 8) (q15 : jm_I h a0 1 = y15) (q16 : y15 - v1 = y16) (q17 : (1 : Int32) = y17) (q18 : y16 - y17 = y18) (c19 : jm_T h f9 = 100) (c20 : jm_T h f13 = 100) (c21 : 0 ≤ y18.toInt) (c22 : 0 ≤ y11.toInt) (c23 : 0 ≤ v1.toInt) (q24 : jm_N h f9 = n24) (q25 : jm_N h f13 = n25) (c26 : y11.toInt + y18.toInt ≤ (n24 : Int)) (c27 : v1.toInt + y18.toInt ≤ (n25 : Int)) (q28 : jm_ix y11 = x28) (q29 : jm_ix v1 = x29) (q30 : jm_ix y18 = x30) (k : jm_W dh_pr d 124 (44, [some (.inr (.inl a0)), some (.inl v1), some (.inl y7)], [], jm_sA h f13 (jm_cpy (jm_I h f9) (jm_I h f13) x28 x29 x30)) Q) : jm_W dh_pr d 124 (14, [some (.inr (.inl a0)), some (.inl v1), l2], [], h) Q := by
  subst q2 q4 q6 q7 q9 q10 q11 q13 q15 q16 q17 q18 q24 q25 q28 q29 q30
  exact jm_blk 20 (And.intro c1 (And.intro c3 (And.intro c5 (And.intro c8 (And.intro c12 (And.intro c14 (And.intro c19 (And.intro c20 (And.intro c21 (And.intro c22 (And.intro c23 (And.intro c26 (And.intro c27 (And.intro ⟨Nat.le_of_ble_eq_true rfl, Nat.le_of_ble_eq_true rfl⟩ (k)))))))))))))))
theorem b124_44 {d : Nat} {Q : jm_Q} {h : jm_H} {a0 : Nat} {l1 : Option jm_V} {l2 : Option jm_V} {y2 : Int32} {y3 : Int32} {y4 : Int32} (c1 : jm_T h a0 = 8) (q2 : jm_I h a0 1 = y2) (q3 : (1 : Int32) = y3) (q4 : y2 - y3 = y4) (c5 : jm_T h a0 = 8) (k : jm_W dh_pr d 124 (54, [some (.inr (.inl a0)), l1, l2], [], jm_sI h a0 1 y4) Q) : jm_W dh_pr d 124 (44, [some (.inr (.inl a0)), l1, l2], [], h) Q := by
  subst q2 q3 q4
  exact jm_blk 6 (And.intro c1 (And.intro c5 (k)))
theorem b124_54 {d : Nat} {Q : jm_Q} {h : jm_H} {l0 : Option jm_V} {l1 : Option jm_V} {v2 : Int32} (k : Q (.inl (some (.inl v2))) h) : jm_W dh_pr d 124 (54, [l0, l1, some (.inl v2)], [], h) Q := jm_blk 2 (k)
theorem e124 {d : Nat} {Q : jm_Q} {h : jm_H} {a0 : Nat} {v1 : Int} (w : jm_W dh_pr d 124 (0, [some (.inr (.inl a0)), some (.inl (jz v1)), none], [], h) Q) : jm_E dh_pr (d + 1) 124 [.inr (.inl a0), .inl (jz v1)] h Q := jm_E_in (Nat.le_of_ble_eq_true rfl) w
theorem r124_0 {d : Nat} {Q : jm_Q} {h : jm_H} {a0 : Nat} {v1 : Int} {l2 : Option jm_V} (w : (jR v1 ∧ (v1 < 0 → (Q (.inl (some (.inl (jz (-1))))) h)) ∧ (0 ≤ v1 → (jm_T h a0 = 8 ∧ ∃ z2 : Int, jm_I h a0 1 = jz z2 ∧ jR z2 ∧ (v1 < z2 → (∃ f4 : Nat, jm_F h a0 0 = f4 ∧ jm_T h f4 = 100 ∧ ∃ n5 : Nat, jm_N h f4 = n5 ∧ jzi v1 n5 ∧ ∃ z6 : Int, jm_I h f4 v1.toNat = jz z6 ∧ jR ((z2 - v1) - 1) ∧ 0 ≤ ((z2 - v1) - 1) ∧ jR (v1 + 1) ∧ 0 ≤ (v1 + 1) ∧ 0 ≤ v1 ∧ (v1 + 1) + ((z2 - v1) - 1) ≤ (n5 : Int) ∧ v1 + ((z2 - v1) - 1) ≤ (n5 : Int) ∧ ((Q (.inl (some (.inl (jz z6)))) (jm_sI (jm_sA h f4 (jm_cpy (jm_I h f4) (jm_I h f4) ((v1 + 1).toNat) v1.toNat (((z2 - v1) - 1).toNat))) a0 1 (jz (z2 - 1))))))) ∧ (z2 ≤ v1 → (Q (.inl (some (.inl (jz (-1))))) h)))))) : jm_W dh_pr d 124 (0, [some (.inr (.inl a0)), some (.inl (jz v1)), l2], [], h) Q :=
  (b124_0 (show (0 : Int32) = jz 0 from rfl) (fun p1 => (b124_12 (show ((-1) : Int32) = jz (-1) from rfl) (w.2.1 (jz_c2 w.1 ⟨by decide, by decide⟩ p1)))) (fun p1 => ((w.2.2 (jz_n2 w.1 ⟨by decide, by decide⟩ p1)).2.elim fun z2 w2 => (b124_4 (w.2.2 (jz_n2 w.1 ⟨by decide, by decide⟩ p1)).1 w2.1 (fun p3 => ((w2.2.2.1 (jz_c2 w.1 w2.2.1 p3)).elim fun f4 w4 => (w4.2.2.elim fun n5 w5 => (w5.2.2.elim fun z6 w6 => (b124_14 (w.2.2 (jz_n2 w.1 ⟨by decide, by decide⟩ p1)).1 w4.1 w4.2.1 w5.1 (jz_in w5.2.1) (jz_ix w5.2.1.r) w6.1 (w.2.2 (jz_n2 w.1 ⟨by decide, by decide⟩ p1)).1 w4.1 (show (1 : Int32) = jz 1 from rfl) (jz_add _ _) (w.2.2 (jz_n2 w.1 ⟨by decide, by decide⟩ p1)).1 w4.1 (w.2.2 (jz_n2 w.1 ⟨by decide, by decide⟩ p1)).1 w2.1 (jz_sub _ _) (show (1 : Int32) = jz 1 from rfl) (jz_sub _ _) w4.2.1 w4.2.1 (by rw [jz_toInt w6.2.1]; exact w6.2.2.1) (by rw [jz_toInt w6.2.2.2.1]; exact w6.2.2.2.2.1) (by rw [jz_toInt w5.2.1.r]; exact w6.2.2.2.2.2.1) w5.1 w5.1 (by rw [jz_toInt w6.2.2.2.1, jz_toInt w6.2.1]; exact w6.2.2.2.2.2.2.1) (by rw [jz_toInt w5.2.1.r, jz_toInt w6.2.1]; exact w6.2.2.2.2.2.2.2.1) (jz_ix w6.2.2.2.1) (jz_ix w5.2.1.r) (jz_ix w6.2.1) (b124_44 ((jr_T_sA _ _ _ _).trans (w.2.2 (jz_n2 w.1 ⟨by decide, by decide⟩ p1)).1) ((jr_I_neA (w.2.2 (jz_n2 w.1 ⟨by decide, by decide⟩ p1)).1 w4.2.1 (by decide)).trans w2.1) (show (1 : Int32) = jz 1 from rfl) (jz_sub _ _) ((jr_T_sA _ _ _ _).trans (w.2.2 (jz_n2 w.1 ⟨by decide, by decide⟩ p1)).1) (b124_54 w6.2.2.2.2.2.2.2.2))))))) (fun p3 => (b124_12 (show ((-1) : Int32) = jz (-1) from rfl) (w2.2.2.2 (jz_n2 w.1 w2.2.1 p3))))))))
/-! 125 DeltaHistory$Text.appendBytes(I)Z -/
theorem b125_0 {d : Nat} {Q : jm_Q} {h : jm_H} {l0 : Option jm_V} {l1 : Option jm_V} {l2 : Option jm_V} {l3 : Option jm_V} {y1 : Int32} (q1 : (24 : Int32) = y1) (k : jm_W dh_pr d 125 (3, [l0, l1, some (.inl y1), l3], [], h) Q) : jm_W dh_pr d 125 (0, [l0, l1, l2, l3], [], h) Q := by
  subst q1
  exact jm_blk 2 (k)
theorem b125_3 {d : Nat} {Q : jm_Q} {h : jm_H} {l0 : Option jm_V} {l1 : Option jm_V} {v2 : Int32} {l3 : Option jm_V} {y1 : Int32} (q1 : (0 : Int32) = y1) (k1 : v2 < y1 → jm_W dh_pr d 125 (35, [l0, l1, some (.inl v2), l3], [], h) Q) (k2 : ¬ (v2 < y1) → jm_W dh_pr d 125 (7, [l0, l1, some (.inl v2), l3], [], h) Q) : jm_W dh_pr d 125 (3, [l0, l1, some (.inl v2), l3], [], h) Q := by
  subst q1
  exact jm_blk 2 (And.intro k1 k2)
theorem b125_7 {d : Nat} {Q : jm_Q} {h : jm_H} {l0 : Option jm_V} {v1 : Int32} {v2 : Int32} {l3 : Option jm_V} {y1 : Int32} {y2 : Int32} {y3 : Int32} {y4 : Int32} (q1 : v1 >>> (v2 &&& 31) = y1) (q2 : (255 : Int32) = y2) (q3 : y1 &&& y2 = y3) (q4 : (0 : Int32) = y4) (k1 : y3 = y4 → jm_W dh_pr d 125 (29, [l0, some (.inl v1), some (.inl v2), some (.inl y3)], [], h) Q) (k2 : ¬ (y3 = y4) → jm_W dh_pr d 125 (19, [l0, some (.inl v1), some (.inl v2), some (.inl y3)], [], h) Q) : jm_W dh_pr d 125 (7, [l0, some (.inl v1), some (.inl v2), l3], [], h) Q := by
  subst q1 q2 q3 q4
  exact jm_blk 8 (And.intro k1 k2)
theorem b125_19 {d : Nat} {Q : jm_Q} {h : jm_H} {a0 : Nat} {l1 : Option jm_V} {l2 : Option jm_V} {v3 : Int32} (c1 : jm_T h a0 = 8) (k : jm_E dh_pr d 122 [.inr (.inl a0), .inl v3] h (jm_k dh_pr d 125 Q 24 [some (.inr (.inl a0)), l1, l2, some (.inl v3)] [] 21)) : jm_W dh_pr d 125 (19, [some (.inr (.inl a0)), l1, l2, some (.inl v3)], [], h) Q := jm_blk 3 (jm_callO rfl rfl rfl rfl rfl c1 k)
theorem b125_24 {d : Nat} {Q : jm_Q} {h : jm_H} {l0 : Option jm_V} {l1 : Option jm_V} {l2 : Option jm_V} {l3 : Option jm_V} {s0 : Int32} {y1 : Int32} (q1 : (0 : Int32) = y1) (k1 : ¬ s0 = y1 → jm_W dh_pr d 125 (29, [l0, l1, l2, l3], [], h) Q) (k2 : ¬ (¬ s0 = y1) → jm_W dh_pr d 125 (27, [l0, l1, l2, l3], [], h) Q) : jm_W dh_pr d 125 (24, [l0, l1, l2, l3], [.inl s0], h) Q := by
  subst q1
  exact jm_blk 1 (And.intro k1 k2)
theorem b125_27 {d : Nat} {Q : jm_Q} {h : jm_H} {l0 : Option jm_V} {l1 : Option jm_V} {l2 : Option jm_V} {l3 : Option jm_V} {y1 : Int32} (q1 : (0 : Int32) = y1) (c2 : y1 = 0 ∨ y1 = 1) (k : Q (.inl (some (.inl y1))) h) : jm_W dh_pr d 125 (27, [l0, l1, l2, l3], [], h) Q := by
  subst q1
  exact jm_blk 2 (And.intro c2 (k))
theorem b125_29 {d : Nat} {Q : jm_Q} {h : jm_H} {l0 : Option jm_V} {l1 : Option jm_V} {v2 : Int32} {l3 : Option jm_V} {y1 : Int32} {y2 : Int32} (q1 : ((-8) : Int32) = y1) (q2 : v2 + y1 = y2) (k : jm_W dh_pr d 125 (3, [l0, l1, some (.inl y2), l3], [], h) Q) : jm_W dh_pr d 125 (29, [l0, l1, some (.inl v2), l3], [], h) Q := by
  subst q1 q2
  exact jm_blk 2 (k)
theorem b125_35 {d : Nat} {Q : jm_Q} {h : jm_H} {l0 : Option jm_V} {l1 : Option jm_V} {l2 : Option jm_V} {l3 : Option jm_V} {y1 : Int32} (q1 : (1 : Int32) = y1) (c2 : y1 = 0 ∨ y1 = 1) (k : Q (.inl (some (.inl y1))) h) : jm_W dh_pr d 125 (35, [l0, l1, l2, l3], [], h) Q := by
  subst q1
  exact jm_blk 2 (And.intro c2 (k))
theorem e125 {d : Nat} {Q : jm_Q} {h : jm_H} {a0 : Nat} {v1 : Int} (w : jm_W dh_pr d 125 (0, [some (.inr (.inl a0)), some (.inl (jz v1)), none, none], [], h) Q) : jm_E dh_pr (d + 1) 125 [.inr (.inl a0), .inl (jz v1)] h Q := jm_E_in (Nat.le_of_ble_eq_true rfl) w
theorem r125_0 {d : Nat} {Q : jm_Q} {h : jm_H} {l0 : Option jm_V} {l1 : Option jm_V} {l2 : Option jm_V} {l3 : Option jm_V} (w : (jm_W dh_pr d 125 (3, [l0, l1, some (.inl (jz 24)), l3], [], h) Q)) : jm_W dh_pr d 125 (0, [l0, l1, l2, l3], [], h) Q :=
  (b125_0 (show (24 : Int32) = jz 24 from rfl) w)
theorem r125_3 {d : Nat} {Q : jm_Q} {h : jm_H} {a0 : Nat} {v1 : Int} {v2 : Int} {l3 : Option jm_V} (w : (jR v2 ∧ (v2 < 0 → (Q (.inl (some (.inl (jz 1)))) h)) ∧ (0 ≤ v2 → (∃ z2 : Int, jz v1 >>> (jz v2 &&& 31) = jz z2 ∧ ∃ z3 : Int, jz z2 &&& jz 255 = jz z3 ∧ jR z3 ∧ (z3 = 0 → (jm_W dh_pr d 125 (3, [some (.inr (.inl a0)), some (.inl (jz v1)), some (.inl (jz (v2 + (-8)))), some (.inl (jz z3))], [], h) Q)) ∧ (¬ z3 = 0 → (jm_T h a0 = 8 ∧ jm_E dh_pr d 122 [.inr (.inl a0), .inl (jz z3)] h (jm_k dh_pr d 125 Q 24 [some (.inr (.inl a0)), some (.inl (jz v1)), some (.inl (jz v2)), some (.inl (jz z3))] [] 21))))))) : jm_W dh_pr d 125 (3, [some (.inr (.inl a0)), some (.inl (jz v1)), some (.inl (jz v2)), l3], [], h) Q :=
  (b125_3 (show (0 : Int32) = jz 0 from rfl) (fun p1 => (b125_35 (show (1 : Int32) = jz 1 from rfl) (Or.inr rfl) (w.2.1 (jz_c2 w.1 ⟨by decide, by decide⟩ p1)))) (fun p1 => ((w.2.2 (jz_n2 w.1 ⟨by decide, by decide⟩ p1)).elim fun z2 w2 => (w2.2.elim fun z3 w3 => (b125_7 w2.1 (show (255 : Int32) = jz 255 from rfl) w3.1 (show (0 : Int32) = jz 0 from rfl) (fun p4 => (b125_29 (show ((-8) : Int32) = jz (-8) from rfl) (jz_add _ _) (w3.2.2.1 (jz_c0 w3.2.1 ⟨by decide, by decide⟩ p4)))) (fun p4 => (b125_19 (w3.2.2.2 (jz_n0 w3.2.1 ⟨by decide, by decide⟩ p4)).1 (w3.2.2.2 (jz_n0 w3.2.1 ⟨by decide, by decide⟩ p4)).2)))))))
theorem r125_24 {d : Nat} {Q : jm_Q} {h : jm_H} {l0 : Option jm_V} {l1 : Option jm_V} {v2 : Int} {l3 : Option jm_V} {s0 : Int} (w : (jR s0 ∧ (¬ s0 = 0 → (jm_W dh_pr d 125 (3, [l0, l1, some (.inl (jz (v2 + (-8)))), l3], [], h) Q)) ∧ (s0 = 0 → (Q (.inl (some (.inl (jz 0)))) h)))) : jm_W dh_pr d 125 (24, [l0, l1, some (.inl (jz v2)), l3], [.inl (jz s0)], h) Q :=
  (b125_24 (show (0 : Int32) = jz 0 from rfl) (fun p5 => (b125_29 (show ((-8) : Int32) = jz (-8) from rfl) (jz_add _ _) (w.2.1 (jz_c1 w.1 ⟨by decide, by decide⟩ p5)))) (fun p5 => (b125_27 (show (0 : Int32) = jz 0 from rfl) (Or.inl rfl) (w.2.2 (jz_n1 w.1 ⟨by decide, by decide⟩ p5)))))
/-! 126 DeltaHistory$Text.appendPart(LDeltaHistory$Text;II)Z -/
theorem b126_0 {d : Nat} {Q : jm_Q} {h : jm_H} {l0 : Option jm_V} {l1 : Option jm_V} {v2 : Int32} {l3 : Option jm_V} {l4 : Option jm_V} {y1 : Int32} (q1 : (0 : Int32) = y1) (k1 : v2 < y1 → jm_W dh_pr d 126 (17, [l0, l1, some (.inl v2), l3, l4], [], h) Q) (k2 : ¬ (v2 < y1) → jm_W dh_pr d 126 (4, [l0, l1, some (.inl v2), l3, l4], [], h) Q) : jm_W dh_pr d 126 (0, [l0, l1, some (.inl v2), l3, l4], [], h) Q := by
  subst q1
  exact jm_blk 2 (And.intro k1 k2)
theorem b126_4 {d : Nat} {Q : jm_Q} {h : jm_H} {l0 : Option jm_V} {l1 : Option jm_V} {v2 : Int32} {v3 : Int32} {l4 : Option jm_V} (k1 : v3 < v2 → jm_W dh_pr d 126 (17, [l0, l1, some (.inl v2), some (.inl v3), l4], [], h) Q) (k2 : ¬ (v3 < v2) → jm_W dh_pr d 126 (9, [l0, l1, some (.inl v2), some (.inl v3), l4], [], h) Q) : jm_W dh_pr d 126 (4, [l0, l1, some (.inl v2), some (.inl v3), l4], [], h) Q := jm_blk 3 (And.intro k1 k2)
theorem b126_9 {d : Nat} {Q : jm_Q} {h : jm_H} {l0 : Option jm_V} {a1 : Nat} {l2 : Option jm_V} {v3 : Int32} {l4 : Option jm_V} {y2 : Int32} (c1 : jm_T h a1 = 8) (q2 : jm_I h a1 1 = y2) (k1 : v3 ≤ y2 → jm_W dh_pr d 126 (19, [l0, some (.inr (.inl a1)), l2, some (.inl v3), l4], [], h) Q) (k2 : ¬ (v3 ≤ y2) → jm_W dh_pr d 126 (17, [l0, some (.inr (.inl a1)), l2, some (.inl v3), l4], [], h) Q) : jm_W dh_pr d 126 (9, [l0, some (.inr (.inl a1)), l2, some (.inl v3), l4], [], h) Q := by
  subst q2
  exact jm_blk 4 (And.intro c1 (And.intro k1 k2))
theorem b126_17 {d : Nat} {Q : jm_Q} {h : jm_H} {l0 : Option jm_V} {l1 : Option jm_V} {l2 : Option jm_V} {l3 : Option jm_V} {l4 : Option jm_V} {y1 : Int32} (q1 : (0 : Int32) = y1) (c2 : y1 = 0 ∨ y1 = 1) (k : Q (.inl (some (.inl y1))) h) : jm_W dh_pr d 126 (17, [l0, l1, l2, l3, l4], [], h) Q := by
  subst q1
  exact jm_blk 2 (And.intro c2 (k))
theorem b126_19 {d : Nat} {Q : jm_Q} {h : jm_H} {l0 : Option jm_V} {l1 : Option jm_V} {v2 : Int32} {l3 : Option jm_V} {l4 : Option jm_V} (k : jm_W dh_pr d 126 (22, [l0, l1, some (.inl v2), l3, some (.inl v2)], [], h) Q) : jm_W dh_pr d 126 (19, [l0, l1, some (.inl v2), l3, l4], [], h) Q := jm_blk 2 (k)
theorem b126_22 {d : Nat} {Q : jm_Q} {h : jm_H} {l0 : Option jm_V} {l1 : Option jm_V} {l2 : Option jm_V} {v3 : Int32} {v4 : Int32} (k1 : v3 ≤ v4 → jm_W dh_pr d 126 (50, [l0, l1, l2, some (.inl v3), some (.inl v4)], [], h) Q) (k2 : ¬ (v3 ≤ v4) → jm_W dh_pr d 126 (28, [l0, l1, l2, some (.inl v3), some (.inl v4)], [], h) Q) : jm_W dh_pr d 126 (22, [l0, l1, l2, some (.inl v3), some (.inl v4)], [], h) Q := jm_blk 3 (And.intro k1 k2)
theorem b126_28 {d : Nat} {Q : jm_Q} {h : jm_H} {a0 : Nat} {a1 : Nat} {l2 : Option jm_V} {l3 : Option jm_V} {v4 : Int32} {f2 : Nat} {n4 : Nat} {x6 : Nat} {y7 : Int32} (c1 : jm_T h a1 = 8) (q2 : jm_F h a1 0 = f2) (c3 : jm_T h f2 = 100) (q4 : jm_N h f2 = n4) (c5 : jm_in v4 n4) (q6 : jm_ix v4 = x6) (q7 : jm_I h f2 x6 = y7) (c8 : jm_T h a0 = 8) (k : jm_E dh_pr d 122 [.inr (.inl a0), .inl y7] h (jm_k dh_pr d 126 Q 39 [some (.inr (.inl a0)), some (.inr (.inl a1)), l2, l3, some (.inl v4)] [] 36)) : jm_W dh_pr d 126 (28, [some (.inr (.inl a0)), some (.inr (.inl a1)), l2, l3, some (.inl v4)], [], h) Q := by
  subst q2 q4 q6 q7
  exact jm_blk 6 (And.intro c1 (And.intro c3 (And.intro c5 (jm_callO rfl rfl rfl rfl rfl c8 k))))
theorem b126_39 {d : Nat} {Q : jm_Q} {h : jm_H} {l0 : Option jm_V} {l1 : Option jm_V} {l2 : Option jm_V} {l3 : Option jm_V} {l4 : Option jm_V} {s0 : Int32} {y1 : Int32} (q1 : (0 : Int32) = y1) (k1 : ¬ s0 = y1 → jm_W dh_pr d 126 (44, [l0, l1, l2, l3, l4], [], h) Q) (k2 : ¬ (¬ s0 = y1) → jm_W dh_pr d 126 (42, [l0, l1, l2, l3, l4], [], h) Q) : jm_W dh_pr d 126 (39, [l0, l1, l2, l3, l4], [.inl s0], h) Q := by
  subst q1
  exact jm_blk 1 (And.intro k1 k2)
theorem b126_42 {d : Nat} {Q : jm_Q} {h : jm_H} {l0 : Option jm_V} {l1 : Option jm_V} {l2 : Option jm_V} {l3 : Option jm_V} {l4 : Option jm_V} {y1 : Int32} (q1 : (0 : Int32) = y1) (c2 : y1 = 0 ∨ y1 = 1) (k : Q (.inl (some (.inl y1))) h) : jm_W dh_pr d 126 (42, [l0, l1, l2, l3, l4], [], h) Q := by
  subst q1
  exact jm_blk 2 (And.intro c2 (k))
theorem b126_44 {d : Nat} {Q : jm_Q} {h : jm_H} {l0 : Option jm_V} {l1 : Option jm_V} {l2 : Option jm_V} {l3 : Option jm_V} {v4 : Int32} {y1 : Int32} {y2 : Int32} (q1 : (1 : Int32) = y1) (q2 : v4 + y1 = y2) (k : jm_W dh_pr d 126 (22, [l0, l1, l2, l3, some (.inl y2)], [], h) Q) : jm_W dh_pr d 126 (44, [l0, l1, l2, l3, some (.inl v4)], [], h) Q := by
  subst q1 q2
  exact jm_blk 2 (k)
theorem b126_50 {d : Nat} {Q : jm_Q} {h : jm_H} {l0 : Option jm_V} {l1 : Option jm_V} {l2 : Option jm_V} {l3 : Option jm_V} {l4 : Option jm_V} {y1 : Int32} (q1 : (1 : Int32) = y1) (c2 : y1 = 0 ∨ y1 = 1) (k : Q (.inl (some (.inl y1))) h) : jm_W dh_pr d 126 (50, [l0, l1, l2, l3, l4], [], h) Q := by
  subst q1
  exact jm_blk 2 (And.intro c2 (k))
theorem e126 {d : Nat} {Q : jm_Q} {h : jm_H} {a0 : Nat} {a1 : Nat} {v2 : Int} {v3 : Int} (w : jm_W dh_pr d 126 (0, [some (.inr (.inl a0)), some (.inr (.inl a1)), some (.inl (jz v2)), some (.inl (jz v3)), none], [], h) Q) : jm_E dh_pr (d + 1) 126 [.inr (.inl a0), .inr (.inl a1), .inl (jz v2), .inl (jz v3)] h Q := jm_E_in (Nat.le_of_ble_eq_true rfl) w
theorem r126_0 {d : Nat} {Q : jm_Q} {h : jm_H} {l0 : Option jm_V} {a1 : Nat} {v2 : Int} {v3 : Int} {l4 : Option jm_V} (w : (jR v2 ∧ (v2 < 0 → (Q (.inl (some (.inl (jz 0)))) h)) ∧ (0 ≤ v2 → (jR v3 ∧ (v3 < v2 → (Q (.inl (some (.inl (jz 0)))) h)) ∧ (v2 ≤ v3 → (jm_T h a1 = 8 ∧ ∃ z3 : Int, jm_I h a1 1 = jz z3 ∧ jR z3 ∧ (v3 ≤ z3 → (jm_W dh_pr d 126 (22, [l0, some (.inr (.inl a1)), some (.inl (jz v2)), some (.inl (jz v3)), some (.inl (jz v2))], [], h) Q)) ∧ (z3 < v3 → (Q (.inl (some (.inl (jz 0)))) h)))))))) : jm_W dh_pr d 126 (0, [l0, some (.inr (.inl a1)), some (.inl (jz v2)), some (.inl (jz v3)), l4], [], h) Q :=
  (b126_0 (show (0 : Int32) = jz 0 from rfl) (fun p1 => (b126_17 (show (0 : Int32) = jz 0 from rfl) (Or.inl rfl) (w.2.1 (jz_c2 w.1 ⟨by decide, by decide⟩ p1)))) (fun p1 => (b126_4 (fun p2 => (b126_17 (show (0 : Int32) = jz 0 from rfl) (Or.inl rfl) ((w.2.2 (jz_n2 w.1 ⟨by decide, by decide⟩ p1)).2.1 (jz_c4 w.1 (w.2.2 (jz_n2 w.1 ⟨by decide, by decide⟩ p1)).1 p2)))) (fun p2 => (((w.2.2 (jz_n2 w.1 ⟨by decide, by decide⟩ p1)).2.2 (jz_n4 w.1 (w.2.2 (jz_n2 w.1 ⟨by decide, by decide⟩ p1)).1 p2)).2.elim fun z3 w3 => (b126_9 ((w.2.2 (jz_n2 w.1 ⟨by decide, by decide⟩ p1)).2.2 (jz_n4 w.1 (w.2.2 (jz_n2 w.1 ⟨by decide, by decide⟩ p1)).1 p2)).1 w3.1 (fun p4 => (b126_19 (w3.2.2.1 (jz_c5 (w.2.2 (jz_n2 w.1 ⟨by decide, by decide⟩ p1)).1 w3.2.1 p4)))) (fun p4 => (b126_17 (show (0 : Int32) = jz 0 from rfl) (Or.inl rfl) (w3.2.2.2 (jz_n5 (w.2.2 (jz_n2 w.1 ⟨by decide, by decide⟩ p1)).1 w3.2.1 p4))))))))))
theorem r126_22 {d : Nat} {Q : jm_Q} {h : jm_H} {a0 : Nat} {a1 : Nat} {l2 : Option jm_V} {v3 : Int} {v4 : Int} (w : (jR v4 ∧ jR v3 ∧ (v3 ≤ v4 → (Q (.inl (some (.inl (jz 1)))) h)) ∧ (v4 < v3 → (jm_T h a1 = 8 ∧ ∃ f6 : Nat, jm_F h a1 0 = f6 ∧ jm_T h f6 = 100 ∧ ∃ n7 : Nat, jm_N h f6 = n7 ∧ jzi v4 n7 ∧ ∃ z8 : Int, jm_I h f6 v4.toNat = jz z8 ∧ jm_T h a0 = 8 ∧ jm_E dh_pr d 122 [.inr (.inl a0), .inl (jz z8)] h (jm_k dh_pr d 126 Q 39 [some (.inr (.inl a0)), some (.inr (.inl a1)), l2, some (.inl (jz v3)), some (.inl (jz v4))] [] 36))))) : jm_W dh_pr d 126 (22, [some (.inr (.inl a0)), some (.inr (.inl a1)), l2, some (.inl (jz v3)), some (.inl (jz v4))], [], h) Q :=
  (b126_22 (fun p5 => (b126_50 (show (1 : Int32) = jz 1 from rfl) (Or.inr rfl) (w.2.2.1 (jz_c3 w.1 w.2.1 p5)))) (fun p5 => ((w.2.2.2 (jz_n3 w.1 w.2.1 p5)).2.elim fun f6 w6 => (w6.2.2.elim fun n7 w7 => (w7.2.2.elim fun z8 w8 => (b126_28 (w.2.2.2 (jz_n3 w.1 w.2.1 p5)).1 w6.1 w6.2.1 w7.1 (jz_in w7.2.1) (jz_ix w7.2.1.r) w8.1 w8.2.1 w8.2.2))))))
theorem r126_39 {d : Nat} {Q : jm_Q} {h : jm_H} {l0 : Option jm_V} {l1 : Option jm_V} {l2 : Option jm_V} {l3 : Option jm_V} {v4 : Int} {s0 : Int} (w : (jR s0 ∧ (¬ s0 = 0 → (jm_W dh_pr d 126 (22, [l0, l1, l2, l3, some (.inl (jz (v4 + 1)))], [], h) Q)) ∧ (s0 = 0 → (Q (.inl (some (.inl (jz 0)))) h)))) : jm_W dh_pr d 126 (39, [l0, l1, l2, l3, some (.inl (jz v4))], [.inl (jz s0)], h) Q :=
  (b126_39 (show (0 : Int32) = jz 0 from rfl) (fun p9 => (b126_44 (show (1 : Int32) = jz 1 from rfl) (jz_add _ _) (w.2.1 (jz_c1 w.1 ⟨by decide, by decide⟩ p9)))) (fun p9 => (b126_42 (show (0 : Int32) = jz 0 from rfl) (Or.inl rfl) (w.2.2 (jz_n1 w.1 ⟨by decide, by decide⟩ p9)))))
end
section
theorem jm_end : True := trivial
end
