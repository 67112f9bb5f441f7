/-! The program, for the abstract machine: classes, methods, links. Written by program from the listing. -/
def dh_T1 : u_T := fun k => match k with
  | 0 => ("DeltaHistory", "deskText", "LDeltaHistory$Text;", true)
  | 1 => ("DeltaHistory", "typed", "LDeltaHistory$Text;", true)
  | 2 => ("DeltaHistory", "empty", "LDeltaHistory$Text;", true)
  | 3 => ("DeltaHistory", "compared", "LDeltaHistory$Delta;", true)
  | 4 => ("DeltaHistory", "file", "LDeltaHistory$Bytes;", true)
  | 5 => ("DeltaHistory", "fileAside", "LDeltaHistory$Bytes;", true)
  | 6 => ("DeltaHistory", "draft", "LDeltaHistory$Bytes;", true)
  | 7 => ("DeltaHistory", "writer", "LDeltaHistory$Writer;", true)
  | 8 => ("DeltaHistory", "reader", "LDeltaHistory$Reader;", true)
  | 9 => ("DeltaHistory", "current", "LDeltaHistory$History;", false)
  | 10 => ("DeltaHistory", "planned", "LDeltaHistory$History;", false)
  | _ => ("DeltaHistory", "crash", "I", false)
def dh_T2 : u_T := fun k => match k with
  | 0 => ("DeltaHistoryModel", "code", "I", false)
  | 1 => ("DeltaHistoryModel", "count", "I", false)
  | 2 => ("DeltaHistoryModel", "parent", "[I", true)
  | 3 => ("DeltaHistoryModel", "owner", "[I", true)
  | 4 => ("DeltaHistoryModel", "locked", "[I", true)
  | 5 => ("DeltaHistoryModel", "length", "[I", true)
  | 6 => ("DeltaHistoryModel", "text", "[I", true)
  | 7 => ("DeltaHistoryModel", "nameSize", "[I", true)
  | 8 => ("DeltaHistoryModel", "names", "[I", true)
  | 9 => ("DeltaHistoryModel", "desk", "[I", true)
  | 10 => ("DeltaHistoryModel", "deskSize", "I", false)
  | 11 => ("DeltaHistoryModel", "fileSize", "I", false)
  | 12 => ("DeltaHistoryModel", "file", "[I", true)
  | 13 => ("DeltaHistoryModel", "asideSize", "I", false)
  | 14 => ("DeltaHistoryModel", "aside", "[I", true)
  | 15 => ("DeltaHistoryModel", "crash", "I", false)
  | 16 => ("DeltaHistoryModel", "firstSize", "I", false)
  | 17 => ("DeltaHistoryModel", "first", "[I", true)
  | 18 => ("DeltaHistoryModel", "secondSize", "I", false)
  | 19 => ("DeltaHistoryModel", "second", "[I", true)
  | 20 => ("DeltaHistoryModel", "common", "[I", true)
  | 21 => ("DeltaHistoryModel", "steps", "I", false)
  | 22 => ("DeltaHistoryModel", "kind", "[I", true)
  | 23 => ("DeltaHistoryModel", "from", "[I", true)
  | 24 => ("DeltaHistoryModel", "many", "[I", true)
  | 25 => ("DeltaHistoryModel", "lineAt", "[I", true)
  | 26 => ("DeltaHistoryModel", "shownSteps", "I", false)
  | 27 => ("DeltaHistoryModel", "shownKind", "[I", true)
  | 28 => ("DeltaHistoryModel", "shownFrom", "[I", true)
  | 29 => ("DeltaHistoryModel", "shownMany", "[I", true)
  | 30 => ("DeltaHistoryModel", "shownAt", "[I", true)
  | 31 => ("DeltaHistoryModel", "shownText", "[I", true)
  | 32 => ("DeltaHistoryModel", "drafted", "I", false)
  | 33 => ("DeltaHistoryModel", "draft", "[I", true)
  | 34 => ("DeltaHistoryModel", "part", "[I", true)
  | 35 => ("DeltaHistoryModel", "place", "I", false)
  | 36 => ("DeltaHistoryModel", "good", "Z", false)
  | 37 => ("DeltaHistoryModel", "keptCount", "I", false)
  | 38 => ("DeltaHistoryModel", "keptParent", "[I", true)
  | 39 => ("DeltaHistoryModel", "keptOwner", "[I", true)
  | 40 => ("DeltaHistoryModel", "keptLocked", "[I", true)
  | 41 => ("DeltaHistoryModel", "keptLength", "[I", true)
  | _ => ("DeltaHistoryModel", "keptText", "[I", true)
def dh_T3 : u_T := fun k => match k with
  | 0 => ("DeltaHistory$Bytes", "row", "[I", true)
  | 1 => ("DeltaHistory$Bytes", "count", "I", false)
  | _ => ("DeltaHistory$Bytes", "position", "I", false)
def dh_T4 : u_T := fun k => match k with
  | 0 => ("DeltaHistory$Delta", "kind", "[I", true)
  | 1 => ("DeltaHistory$Delta", "place", "[I", true)
  | 2 => ("DeltaHistory$Delta", "many", "[I", true)
  | 3 => ("DeltaHistory$Delta", "firstAdded", "[I", true)
  | 4 => ("DeltaHistory$Delta", "added", "[I", true)
  | 5 => ("DeltaHistory$Delta", "common", "[[I", true)
  | 6 => ("DeltaHistory$Delta", "steps", "I", false)
  | 7 => ("DeltaHistory$Delta", "addedCount", "I", false)
  | _ => ("DeltaHistory$Delta", "stepIsOpen", "Z", false)
def dh_T5 : u_T := fun k => match k with
  | 0 => ("DeltaHistory$History", "all", "[LDeltaHistory$Revision;", true)
  | _ => ("DeltaHistory$History", "count", "I", false)
def dh_T6 : u_T := fun k => match k with
  | _ => ("DeltaHistory$Reader", "bodyStart", "[I", true)
def dh_T7 : u_T := fun k => match k with
  | 0 => ("DeltaHistory$Revision", "text", "LDeltaHistory$Text;", true)
  | 1 => ("DeltaHistory$Revision", "parent", "I", false)
  | 2 => ("DeltaHistory$Revision", "user", "I", false)
  | 3 => ("DeltaHistory$Revision", "lock", "I", false)
  | 4 => ("DeltaHistory$Revision", "next", "I", false)
  | 5 => ("DeltaHistory$Revision", "branches", "I", false)
  | 6 => ("DeltaHistory$Revision", "fork", "I", false)
  | 7 => ("DeltaHistory$Revision", "branch", "I", false)
  | 8 => ("DeltaHistory$Revision", "place", "I", false)
  | _ => ("DeltaHistory$Revision", "nameLength", "I", false)
def dh_T8 : u_T := fun k => match k with
  | 0 => ("DeltaHistory$Text", "row", "[I", true)
  | _ => ("DeltaHistory$Text", "count", "I", false)
def dh_T9 : u_T := fun k => match k with
  | _ => ("DeltaHistory$Writer", "delta", "LDeltaHistory$Delta;", true)
def dh_cl : List vw_C := [("", (fun _ => ("", "", "", false)), 0), ("DeltaHistory", dh_T1, 12), ("DeltaHistoryModel", dh_T2, 43), ("DeltaHistory$Bytes", dh_T3, 3), ("DeltaHistory$Delta", dh_T4, 9), ("DeltaHistory$History", dh_T5, 2), ("DeltaHistory$Reader", dh_T6, 1), ("DeltaHistory$Revision", dh_T7, 10), ("DeltaHistory$Text", dh_T8, 2), ("DeltaHistory$Writer", dh_T9, 1)]
def dh_tys : List (List FieldType) := [[], [(FieldType.object "DeltaHistory$Text"), (FieldType.object "DeltaHistory$Text"), (FieldType.object "DeltaHistory$Text"), (FieldType.object "DeltaHistory$Delta"), (FieldType.object "DeltaHistory$Bytes"), (FieldType.object "DeltaHistory$Bytes"), (FieldType.object "DeltaHistory$Bytes"), (FieldType.object "DeltaHistory$Writer"), (FieldType.object "DeltaHistory$Reader"), (FieldType.object "DeltaHistory$History"), (FieldType.object "DeltaHistory$History"), FieldType.int], [FieldType.int, FieldType.int, (FieldType.array .int), (FieldType.array .int), (FieldType.array .int), (FieldType.array .int), (FieldType.array .int), (FieldType.array .int), (FieldType.array .int), (FieldType.array .int), FieldType.int, FieldType.int, (FieldType.array .int), FieldType.int, (FieldType.array .int), FieldType.int, FieldType.int, (FieldType.array .int), FieldType.int, (FieldType.array .int), (FieldType.array .int), FieldType.int, (FieldType.array .int), (FieldType.array .int), (FieldType.array .int), (FieldType.array .int), FieldType.int, (FieldType.array .int), (FieldType.array .int), (FieldType.array .int), (FieldType.array .int), (FieldType.array .int), FieldType.int, (FieldType.array .int), (FieldType.array .int), FieldType.int, FieldType.boolean, FieldType.int, (FieldType.array .int), (FieldType.array .int), (FieldType.array .int), (FieldType.array .int), (FieldType.array .int)], [(FieldType.array .int), FieldType.int, FieldType.int], [(FieldType.array .int), (FieldType.array .int), (FieldType.array .int), (FieldType.array .int), (FieldType.array .int), (FieldType.array (FieldType.array .int)), FieldType.int, FieldType.int, FieldType.boolean], [(FieldType.array (FieldType.object "DeltaHistory$Revision")), FieldType.int], [(FieldType.array .int)], [(FieldType.object "DeltaHistory$Text"), FieldType.int, FieldType.int, FieldType.int, FieldType.int, FieldType.int, FieldType.int, FieldType.int, FieldType.int, FieldType.int], [(FieldType.array .int), FieldType.int], [(FieldType.object "DeltaHistory$Delta")]]
def dh_ty (t k : Nat) : FieldType := (dh_tys.getD t []).getD k .int
def dh_aq (t : Nat) : Option FieldType := if t = 61 then some (.array .int) else if t = 69 then some (.object "DeltaHistory$Revision") else none
def dh_ex (t : Nat) : Option String := if t = 200 then some "java/lang/IndexOutOfBoundsException" else if t = 202 then some "java/lang/IllegalStateException" else if t = 204 then some "java/lang/UnsupportedOperationException" else if t = 206 then some "java/lang/IllegalArgumentException" else none
def dh_J : jm_J := (dh_cl, dh_ty, dh_aq, dh_ex)
def dh_cn (t : Nat) : String := if t = 59 then "DeltaHistoryLaw" else ((dh_cl[t]?).map (fun q => q.1)).getD ""
def dh_Ms : List (MethodName × ByteArray × Option FieldType × List (Nat × Nat × Nat × Nat)) := [
  (⟨"DeltaHistory", "<init>", "()V"⟩, prog_1_method_1_code, none, []),
  (⟨"DeltaHistory", "desk", "(III)Z"⟩, prog_1_method_2_code, some .boolean, []),
  (⟨"DeltaHistory", "insert", "(II)Z"⟩, prog_1_method_3_code, some .boolean, []),
  (⟨"DeltaHistory", "remove", "(I)I"⟩, prog_1_method_4_code, some .int, []),
  (⟨"DeltaHistory", "lines", "()I"⟩, prog_1_method_5_code, some .int, []),
  (⟨"DeltaHistory", "line", "(I)I"⟩, prog_1_method_6_code, some .int, []),
  (⟨"DeltaHistory", "lock", "(II)I"⟩, prog_1_method_7_code, some .int, []),
  (⟨"DeltaHistory", "unlock", "(II)I"⟩, prog_1_method_8_code, some .int, []),
  (⟨"DeltaHistory", "checkIn", "(II)I"⟩, prog_1_method_9_code, some .int, []),
  (⟨"DeltaHistory", "checkOut", "(I)I"⟩, prog_1_method_10_code, some .int, []),
  (⟨"DeltaHistory", "crashAfter", "(I)Z"⟩, prog_1_method_11_code, some .boolean, []),
  (⟨"DeltaHistory", "corrupt", "(II)V"⟩, prog_1_method_12_code, none, []),
  (⟨"DeltaHistory", "load", "()I"⟩, prog_1_method_13_code, some .int, []),
  (⟨"DeltaHistory", "revisions", "()I"⟩, prog_1_method_14_code, some .int, []),
  (⟨"DeltaHistory", "about", "(II)I"⟩, prog_1_method_15_code, some .int, []),
  (⟨"DeltaHistory", "name", "(II)I"⟩, prog_1_method_16_code, some .int, []),
  (⟨"DeltaHistory", "root", "(II)I"⟩, prog_1_method_17_code, some .int, []),
  (⟨"DeltaHistory", "compare", "(I)I"⟩, prog_1_method_18_code, some .int, []),
  (⟨"DeltaHistory", "step", "(II)I"⟩, prog_1_method_19_code, some .int, []),
  (⟨"DeltaHistory", "size", "(Z)I"⟩, prog_1_method_20_code, some .int, []),
  (⟨"DeltaHistory", "at", "(IZ)I"⟩, prog_1_method_21_code, some .int, []),
  (⟨"DeltaHistory", "requireUser", "(I)V"⟩, prog_1_method_22_code, none, []),
  (⟨"DeltaHistory", "requireRevision", "(I)V"⟩, prog_1_method_23_code, none, []),
  (⟨"DeltaHistory", "requireLock", "(II)V"⟩, prog_1_method_24_code, none, []),
  (⟨"DeltaHistory", "changeLock", "(II)I"⟩, prog_1_method_25_code, some .int, []),
  (⟨"DeltaHistory", "carryOut", "(I)I"⟩, prog_1_method_26_code, some .int, []),
  (⟨"DeltaHistory", "takePlanned", "()V"⟩, prog_1_method_27_code, none, []),
  (⟨"DeltaHistoryModel", "<init>", "()V"⟩, prog_10_method_1_code, none, []),
  (⟨"DeltaHistoryModel", "thrown", "()I"⟩, prog_10_method_2_code, some .int, []),
  (⟨"DeltaHistoryModel", "isLine", "(I)Z"⟩, prog_10_method_3_code, some .boolean, []),
  (⟨"DeltaHistoryModel", "byteOf", "(IIII)I"⟩, prog_10_method_4_code, some .int, []),
  (⟨"DeltaHistoryModel", "desk", "(III)Z"⟩, prog_10_method_5_code, some .boolean, []),
  (⟨"DeltaHistoryModel", "insert", "(II)Z"⟩, prog_10_method_6_code, some .boolean, []),
  (⟨"DeltaHistoryModel", "remove", "(I)I"⟩, prog_10_method_7_code, some .int, []),
  (⟨"DeltaHistoryModel", "lines", "()I"⟩, prog_10_method_8_code, some .int, []),
  (⟨"DeltaHistoryModel", "line", "(I)I"⟩, prog_10_method_9_code, some .int, []),
  (⟨"DeltaHistoryModel", "nextOf", "(I)I"⟩, prog_10_method_10_code, some .int, []),
  (⟨"DeltaHistoryModel", "onTrunk", "(I)Z"⟩, prog_10_method_11_code, some .boolean, []),
  (⟨"DeltaHistoryModel", "head", "()I"⟩, prog_10_method_12_code, some .int, []),
  (⟨"DeltaHistoryModel", "branch", "(I)I"⟩, prog_10_method_13_code, some .int, []),
  (⟨"DeltaHistoryModel", "nameIt", "(I)V"⟩, prog_10_method_14_code, none, []),
  (⟨"DeltaHistoryModel", "firstIs", "(I)V"⟩, prog_10_method_15_code, none, []),
  (⟨"DeltaHistoryModel", "secondIs", "(I)V"⟩, prog_10_method_16_code, none, []),
  (⟨"DeltaHistoryModel", "findCommon", "()V"⟩, prog_10_method_17_code, none, []),
  (⟨"DeltaHistoryModel", "note", "(IIIZ)V"⟩, prog_10_method_18_code, none, []),
  (⟨"DeltaHistoryModel", "makeDelta", "()V"⟩, prog_10_method_19_code, none, []),
  (⟨"DeltaHistoryModel", "put", "(I)V"⟩, prog_10_method_20_code, none, []),
  (⟨"DeltaHistoryModel", "putDelta", "()V"⟩, prog_10_method_21_code, none, []),
  (⟨"DeltaHistoryModel", "write", "()V"⟩, prog_10_method_22_code, none, []),
  (⟨"DeltaHistoryModel", "isCut", "()Z"⟩, prog_10_method_23_code, some .boolean, []),
  (⟨"DeltaHistoryModel", "putAside", "()V"⟩, prog_10_method_24_code, none, []),
  (⟨"DeltaHistoryModel", "replace", "()Z"⟩, prog_10_method_25_code, some .boolean, []),
  (⟨"DeltaHistoryModel", "noUser", "(I)Z"⟩, prog_10_method_26_code, some .boolean, []),
  (⟨"DeltaHistoryModel", "noRevision", "(I)Z"⟩, prog_10_method_27_code, some .boolean, []),
  (⟨"DeltaHistoryModel", "setLock", "(II)I"⟩, prog_10_method_28_code, some .int, []),
  (⟨"DeltaHistoryModel", "lock", "(II)I"⟩, prog_10_method_29_code, some .int, []),
  (⟨"DeltaHistoryModel", "unlock", "(II)I"⟩, prog_10_method_30_code, some .int, []),
  (⟨"DeltaHistoryModel", "checkIn", "(II)I"⟩, prog_10_method_31_code, some .int, []),
  (⟨"DeltaHistoryModel", "checkOut", "(I)I"⟩, prog_10_method_32_code, some .int, []),
  (⟨"DeltaHistoryModel", "crashAfter", "(I)Z"⟩, prog_10_method_33_code, some .boolean, []),
  (⟨"DeltaHistoryModel", "corrupt", "(II)V"⟩, prog_10_method_34_code, none, []),
  (⟨"DeltaHistoryModel", "keep", "()V"⟩, prog_10_method_35_code, none, []),
  (⟨"DeltaHistoryModel", "giveBack", "()V"⟩, prog_10_method_36_code, none, []),
  (⟨"DeltaHistoryModel", "take", "(II)I"⟩, prog_10_method_37_code, some .int, []),
  (⟨"DeltaHistoryModel", "readHeads", "()V"⟩, prog_10_method_38_code, none, []),
  (⟨"DeltaHistoryModel", "findParts", "()V"⟩, prog_10_method_39_code, none, []),
  (⟨"DeltaHistoryModel", "addLine", "(II)V"⟩, prog_10_method_40_code, none, []),
  (⟨"DeltaHistoryModel", "apply", "(II)V"⟩, prog_10_method_41_code, none, []),
  (⟨"DeltaHistoryModel", "makeTexts", "()V"⟩, prog_10_method_42_code, none, []),
  (⟨"DeltaHistoryModel", "isWritten", "()Z"⟩, prog_10_method_43_code, some .boolean, []),
  (⟨"DeltaHistoryModel", "load", "()I"⟩, prog_10_method_44_code, some .int, []),
  (⟨"DeltaHistoryModel", "revisions", "()I"⟩, prog_10_method_45_code, some .int, []),
  (⟨"DeltaHistoryModel", "about", "(II)I"⟩, prog_10_method_46_code, some .int, []),
  (⟨"DeltaHistoryModel", "name", "(II)I"⟩, prog_10_method_47_code, some .int, []),
  (⟨"DeltaHistoryModel", "root", "(II)I"⟩, prog_10_method_48_code, some .int, []),
  (⟨"DeltaHistoryModel", "compare", "(I)I"⟩, prog_10_method_49_code, some .int, []),
  (⟨"DeltaHistoryModel", "step", "(II)I"⟩, prog_10_method_50_code, some .int, []),
  (⟨"DeltaHistoryModel", "size", "(Z)I"⟩, prog_10_method_51_code, some .int, []),
  (⟨"DeltaHistoryModel", "at", "(IZ)I"⟩, prog_10_method_52_code, some .int, []),
  (⟨"DeltaHistory$Bytes", "<init>", "()V"⟩, prog_2_method_1_code, none, []),
  (⟨"DeltaHistory$Bytes", "clear", "()V"⟩, prog_2_method_2_code, none, []),
  (⟨"DeltaHistory$Bytes", "put", "(I)V"⟩, prog_2_method_3_code, none, []),
  (⟨"DeltaHistory$Bytes", "fits", "()Z"⟩, prog_2_method_4_code, some .boolean, []),
  (⟨"DeltaHistory$Bytes", "has", "(I)Z"⟩, prog_2_method_5_code, some .boolean, []),
  (⟨"DeltaHistory$Bytes", "byteAt", "(I)I"⟩, prog_2_method_6_code, some .int, []),
  (⟨"DeltaHistory$Bytes", "becomeFirst", "(LDeltaHistory$Bytes;I)V"⟩, prog_2_method_7_code, none, []),
  (⟨"DeltaHistory$Bytes", "isSameAs", "(LDeltaHistory$Bytes;)Z"⟩, prog_2_method_8_code, some .boolean, []),
  (⟨"DeltaHistory$Bytes", "take", "()I"⟩, prog_2_method_9_code, some .int, []),
  (⟨"DeltaHistory$Delta", "<init>", "()V"⟩, prog_3_method_1_code, none, []),
  (⟨"DeltaHistory$Delta", "make", "(LDeltaHistory$Text;LDeltaHistory$Text;)V"⟩, prog_3_method_2_code, none, []),
  (⟨"DeltaHistory$Delta", "countCommon", "(LDeltaHistory$Text;LDeltaHistory$Text;)V"⟩, prog_3_method_3_code, none, []),
  (⟨"DeltaHistory$Delta", "countLine", "(II)V"⟩, prog_3_method_4_code, none, []),
  (⟨"DeltaHistory$Delta", "numberOf", "(II)I"⟩, prog_3_method_5_code, some .int, []),
  (⟨"DeltaHistory$Delta", "addedLine", "(II)I"⟩, prog_3_method_6_code, some .int, []),
  (⟨"DeltaHistory$History", "<init>", "()V"⟩, prog_4_method_1_code, none, []),
  (⟨"DeltaHistory$History", "clear", "()V"⟩, prog_4_method_2_code, none, []),
  (⟨"DeltaHistory$History", "has", "(I)Z"⟩, prog_4_method_3_code, some .boolean, []),
  (⟨"DeltaHistory$History", "become", "(LDeltaHistory$History;)V"⟩, prog_4_method_4_code, none, []),
  (⟨"DeltaHistory$History", "append", "(II)I"⟩, prog_4_method_5_code, some .int, []),
  (⟨"DeltaHistory$History", "nameNumber", "(II)I"⟩, prog_4_method_6_code, some .int, []),
  (⟨"DeltaHistory$History", "commonOrigin", "(II)I"⟩, prog_4_method_7_code, some .int, []),
  (⟨"DeltaHistory$Reader", "<init>", "()V"⟩, prog_5_method_1_code, none, []),
  (⟨"DeltaHistory$Reader", "read", "(LDeltaHistory$Bytes;LDeltaHistory$History;)Z"⟩, prog_5_method_2_code, some .boolean, []),
  (⟨"DeltaHistory$Reader", "readHeads", "(LDeltaHistory$Bytes;LDeltaHistory$History;)Z"⟩, prog_5_method_3_code, some .boolean, []),
  (⟨"DeltaHistory$Reader", "findBodies", "(LDeltaHistory$Bytes;LDeltaHistory$History;)Z"⟩, prog_5_method_4_code, some .boolean, []),
  (⟨"DeltaHistory$Reader", "passText", "(LDeltaHistory$Bytes;)Z"⟩, prog_5_method_5_code, some .boolean, []),
  (⟨"DeltaHistory$Reader", "passSteps", "(LDeltaHistory$Bytes;)Z"⟩, prog_5_method_6_code, some .boolean, []),
  (⟨"DeltaHistory$Reader", "readBodies", "(LDeltaHistory$Bytes;LDeltaHistory$History;)Z"⟩, prog_5_method_7_code, some .boolean, []),
  (⟨"DeltaHistory$Reader", "readBody", "(LDeltaHistory$Bytes;LDeltaHistory$History;I)Z"⟩, prog_5_method_8_code, some .boolean, []),
  (⟨"DeltaHistory$Reader", "readLines", "(LDeltaHistory$Bytes;LDeltaHistory$Text;)Z"⟩, prog_5_method_9_code, some .boolean, []),
  (⟨"DeltaHistory$Reader", "applySteps", "(LDeltaHistory$Bytes;LDeltaHistory$Text;LDeltaHistory$Text;)Z"⟩, prog_5_method_10_code, some .boolean, []),
  (⟨"DeltaHistory$Revision", "<init>", "()V"⟩, prog_6_method_1_code, none, []),
  (⟨"DeltaHistory$Revision", "become", "(LDeltaHistory$Revision;)V"⟩, prog_6_method_2_code, none, []),
  (⟨"DeltaHistory$Revision", "begin", "(II)V"⟩, prog_6_method_3_code, none, []),
  (⟨"DeltaHistory$Revision", "follow", "(LDeltaHistory$Revision;)V"⟩, prog_6_method_4_code, none, []),
  (⟨"DeltaHistory$Revision", "branchOff", "(LDeltaHistory$Revision;)V"⟩, prog_6_method_5_code, none, []),
  (⟨"DeltaHistory$Revision", "isOnTrunk", "()Z"⟩, prog_6_method_6_code, some .boolean, []),
  (⟨"DeltaHistory$Revision", "source", "()I"⟩, prog_6_method_7_code, some .int, []),
  (⟨"DeltaHistory$Text", "<init>", "()V"⟩, prog_7_method_1_code, none, []),
  (⟨"DeltaHistory$Text", "clear", "()V"⟩, prog_7_method_2_code, none, []),
  (⟨"DeltaHistory$Text", "become", "(LDeltaHistory$Text;)V"⟩, prog_7_method_3_code, none, []),
  (⟨"DeltaHistory$Text", "lineAt", "(I)I"⟩, prog_7_method_4_code, some .int, []),
  (⟨"DeltaHistory$Text", "append", "(I)Z"⟩, prog_7_method_5_code, some .boolean, []),
  (⟨"DeltaHistory$Text", "putIn", "(II)Z"⟩, prog_7_method_6_code, some .boolean, []),
  (⟨"DeltaHistory$Text", "takeOut", "(I)I"⟩, prog_7_method_7_code, some .int, []),
  (⟨"DeltaHistory$Text", "appendBytes", "(I)Z"⟩, prog_7_method_8_code, some .boolean, []),
  (⟨"DeltaHistory$Text", "appendPart", "(LDeltaHistory$Text;II)Z"⟩, prog_7_method_9_code, some .boolean, []),
  (⟨"DeltaHistory$Writer", "<init>", "()V"⟩, prog_8_method_1_code, none, []),
  (⟨"DeltaHistory$Writer", "write", "(LDeltaHistory$History;LDeltaHistory$Bytes;)V"⟩, prog_8_method_2_code, none, []),
  (⟨"DeltaHistory$Writer", "writeText", "(LDeltaHistory$Text;LDeltaHistory$Bytes;)V"⟩, prog_8_method_3_code, none, []),
  (⟨"DeltaHistory$Writer", "writeDelta", "(LDeltaHistory$Bytes;)V"⟩, prog_8_method_4_code, none, []),
  (⟨"DeltaHistoryLaw", "lock", "(LDeltaHistory;II[J)I"⟩, method_3_code, some .int, [(0, 10, 13, 13), (0, 10, 17, 15)]),
  (⟨"DeltaHistoryLaw", "unlock", "(LDeltaHistory;II[J)I"⟩, method_4_code, some .int, [(0, 10, 13, 13), (0, 10, 17, 15)]),
  (⟨"DeltaHistoryLaw", "checkIn", "(LDeltaHistory;II[J)I"⟩, method_5_code, some .int, [(0, 10, 13, 13), (0, 10, 17, 15), (0, 10, 21, 23)]),
  (⟨"DeltaHistoryLaw", "checkOut", "(LDeltaHistory;I[J)I"⟩, method_6_code, some .int, [(0, 9, 12, 13)]),
  (⟨"DeltaHistoryLaw", "corrupt", "(LDeltaHistory;II)I"⟩, method_7_code, some .int, [(0, 6, 9, 13), (0, 6, 12, 33)]),
  (⟨"DeltaHistoryLaw", "about", "(LDeltaHistory;II[J)I"⟩, method_8_code, some .int, [(0, 10, 13, 13)]),
  (⟨"DeltaHistoryLaw", "name", "(LDeltaHistory;II[J)I"⟩, method_9_code, some .int, [(0, 10, 13, 13)]),
  (⟨"DeltaHistoryLaw", "root", "(LDeltaHistory;II[J)I"⟩, method_10_code, some .int, [(0, 10, 13, 13)]),
  (⟨"DeltaHistoryLaw", "compare", "(LDeltaHistory;I[J)I"⟩, method_11_code, some .int, [(0, 9, 12, 13)]),
  (⟨"DeltaHistoryLaw", "law", "([I)Z"⟩, code, some .boolean, [])]
def dh_M : jm_M := fun i => dh_Ms.getD i (⟨"", "", ""⟩, ⟨#[]⟩, none, [])
def dh_nls : List Nat := [1, 4, 3, 2, 1, 2, 3, 3, 5, 2, 2, 3, 1, 1, 4, 3, 3, 2, 3, 2, 3, 1, 2, 3, 3, 3, 2, 1, 1, 1, 5, 6, 4, 4, 1, 2, 3, 3, 2, 4, 5, 3, 3, 6, 5, 4, 2, 3, 3, 1, 2, 2, 1, 2, 4, 3, 3, 6, 3, 2, 3, 2, 2, 4, 2, 9, 3, 10, 4, 3, 2, 1, 5, 3, 5, 3, 3, 2, 3, 1, 1, 2, 1, 2, 2, 4, 3, 2, 1, 6, 5, 3, 3, 3, 2, 1, 2, 3, 6, 5, 6, 1, 3, 9, 5, 3, 6, 4, 6, 5, 9, 1, 2, 3, 2, 2, 1, 1, 1, 1, 2, 2, 2, 3, 3, 4, 5, 1, 6, 4, 5, 5, 5, 5, 4, 4, 5, 5, 5, 4, 7]
def dh_nl (i : Nat) : Nat := dh_nls.getD i 0
def dh_rcs : List Nat := [1, 1, 1, 1, 1, 1, 1, 1, 1, 1, 1, 1, 1, 1, 1, 1, 1, 1, 1, 1, 1, 0, 1, 1, 1, 1, 1, 2, 2, 0, 0, 2, 2, 2, 2, 2, 2, 2, 2, 2, 2, 2, 2, 2, 2, 2, 2, 2, 2, 2, 2, 2, 0, 2, 2, 2, 2, 2, 2, 2, 2, 2, 2, 2, 2, 2, 2, 2, 2, 2, 2, 2, 2, 2, 2, 2, 2, 2, 2, 3, 3, 3, 3, 3, 3, 3, 3, 3, 4, 4, 4, 4, 4, 4, 5, 5, 5, 5, 5, 5, 5, 6, 6, 6, 6, 6, 6, 6, 6, 6, 6, 7, 7, 7, 7, 7, 7, 7, 8, 8, 8, 8, 8, 8, 8, 8, 8, 9, 9, 9, 9, 0, 0, 0, 0, 0, 0, 0, 0, 0, 0]
def dh_rc (i : Nat) : Nat := dh_rcs.getD i 0
def dh_ocs : List Nat := [1, 1, 1, 1, 1, 1, 1, 1, 1, 1, 1, 1, 1, 1, 1, 1, 1, 1, 1, 1, 1, 1, 1, 1, 1, 1, 1, 2, 2, 2, 2, 2, 2, 2, 2, 2, 2, 2, 2, 2, 2, 2, 2, 2, 2, 2, 2, 2, 2, 2, 2, 2, 2, 2, 2, 2, 2, 2, 2, 2, 2, 2, 2, 2, 2, 2, 2, 2, 2, 2, 2, 2, 2, 2, 2, 2, 2, 2, 2, 3, 3, 3, 3, 3, 3, 3, 3, 3, 4, 4, 4, 4, 4, 4, 5, 5, 5, 5, 5, 5, 5, 6, 6, 6, 6, 6, 6, 6, 6, 6, 6, 7, 7, 7, 7, 7, 7, 7, 8, 8, 8, 8, 8, 8, 8, 8, 8, 9, 9, 9, 9, 59, 59, 59, 59, 59, 59, 59, 59, 59, 59]
def dh_oc (i : Nat) : Nat := dh_ocs.getD i 0
def dh_rms : List (Nat × Nat) := [(4, 56), (2, 31), (2, 32), (2, 32), (0, 0), (1, 13), (7, 94), (7, 95), (7, 95), (7, 94), (0, 0), (6, 81), (7, 109), (0, 0), (7, 94), (7, 94), (7, 94), (7, 94), (2, 28), (0, 0), (2, 26), (6, 81), (6, 81), (6, 81), (4, 65), (2, 28), (0, 0), (1, 12), (0, 0), (0, 0), (0, 0), (1, 16), (1, 12), (0, 0), (0, 0), (0, 0), (0, 0), (1, 14), (1, 14), (0, 0), (1, 15), (0, 0), (0, 0), (0, 0), (0, 0), (1, 17), (0, 0), (1, 13), (2, 32), (0, 0), (0, 0), (0, 0), (0, 0), (0, 0), (3, 46), (4, 61), (4, 61), (3, 46), (1, 14), (0, 0), (0, 0), (0, 0), (0, 0), (0, 0), (1, 17), (2, 28), (0, 0), (1, 17), (2, 38), (3, 46), (4, 60), (0, 0), (1, 14), (1, 14), (1, 14), (2, 32), (0, 0), (0, 0), (0, 0), (1, 12), (0, 0), (0, 0), (0, 0), (0, 0), (1, 13), (1, 13), (2, 27), (1, 13), (1, 12), (2, 31), (1, 15), (0, 0), (1, 14), (0, 0), (3, 41), (0, 0), (0, 0), (3, 44), (2, 26), (1, 13), (0, 0), (1, 12), (6, 95), (3, 43), (3, 43), (2, 26), (2, 26), (5, 80), (4, 63), (2, 27), (3, 43), (2, 26), (2, 31), (1, 12), (0, 0), (0, 0), (0, 0), (1, 12), (1, 12), (0, 0), (1, 18), (0, 0), (0, 0), (1, 18), (1, 18), (1, 13), (1, 13), (2, 26), (3, 48), (1, 13), (1, 15), (8, 110), (8, 111), (8, 113), (8, 109), (7, 95), (8, 111), (8, 110), (8, 110), (8, 109), (9, 129)]
def dh_rm (i : Nat) : Nat × Nat := dh_rms.getD i (0, 0)
def dh_ini (i : Nat) : Bool := decide ((dh_M i).1.name = "<init>")
/-- the class that a catch clause of the law names -/
def dh_ctc (i : Nat) : Nat := if i = 13 then 201 else if i = 15 then 203 else if i = 23 then 205 else if i = 33 then 207 else 0
def dh_ct (_ i t : Nat) : Bool := decide (dh_ctc i = t)
def dh_hd (i : Nat) : Nat → Nat → Option Nat := jm_hf (dh_ct i) (dh_M i).2.2.2
def dh_sws : List (List (Int32 × Nat) × Nat) := [([(0, 56), (1, 61), (2, 66), (3, 71), (4, 76), (5, 81)], 86), ([(0, 104), (1, 111), (2, 118), (3, 125), (4, 132), (5, 138)], 150), ([(0, 40), (1, 47), (2, 54)], 61), ([(0, 132), (1, 181), (2, 218), (3, 243), (4, 256), (5, 281), (6, 349), (7, 417), (8, 485), (9, 541), (10, 566), (11, 614), (12, 627), (13, 640), (14, 708), (15, 776), (16, 844), (17, 900), (18, 937), (19, 978)], 1031)]
def dh_sw (i : Nat) : List (Int32 × Nat) × Nat := dh_sws.getD i ([], 0)
