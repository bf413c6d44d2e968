section
-- ===== PART A: goes FIRST, ahead of the names: the tables' words, and 'selects' of the private methods out of them =====
/-- a private method of a class that the tables say can be made, by its rows of tables_1 -/
def lw_okq (q : MethodName × Nat) : Prop := (q.1.cls ≠ "java/lang/invoke/MethodHandle" ∧ q.1.cls ≠ "java/lang/invoke/VarHandle") ∧ Cond.instantiable q.1.cls q.2 ∈ tables_1 ∧ Cond.privateMethod q.1 ∈ tables_1 ∧ Cond.instanceMethod q.1 ∈ tables_1
theorem lw_p0 : lw_okq (⟨"SignTables", "forgetSurveys", "()V"⟩, 13) := ⟨⟨by decide +kernel, by decide +kernel⟩, List.mem_of_getElem? (i := 17) (by decide +kernel), List.mem_of_getElem? (i := 315) (by decide +kernel), List.mem_of_getElem? (i := 316) (by decide +kernel)⟩
theorem lw_p1 : lw_okq (⟨"SignTables", "currentC", "()[J"⟩, 13) := ⟨⟨by decide +kernel, by decide +kernel⟩, List.mem_of_getElem? (i := 17) (by decide +kernel), List.mem_of_getElem? (i := 323) (by decide +kernel), List.mem_of_getElem? (i := 324) (by decide +kernel)⟩
theorem lw_p2 : lw_okq (⟨"SignTables$Text", "takeTerms", "([JZ)V"⟩, 7) := ⟨⟨by decide +kernel, by decide +kernel⟩, List.mem_of_getElem? (i := 89) (by decide +kernel), List.mem_of_getElem? (i := 350) (by decide +kernel), List.mem_of_getElem? (i := 351) (by decide +kernel)⟩
theorem lw_p3 : lw_okq (⟨"SignTables$Text", "letterAt", "(I)I"⟩, 7) := ⟨⟨by decide +kernel, by decide +kernel⟩, List.mem_of_getElem? (i := 89) (by decide +kernel), List.mem_of_getElem? (i := 354) (by decide +kernel), List.mem_of_getElem? (i := 355) (by decide +kernel)⟩
theorem lw_p4 : lw_okq (⟨"SignTables$Text", "takeTerm", "([JI)V"⟩, 7) := ⟨⟨by decide +kernel, by decide +kernel⟩, List.mem_of_getElem? (i := 89) (by decide +kernel), List.mem_of_getElem? (i := 358) (by decide +kernel), List.mem_of_getElem? (i := 359) (by decide +kernel)⟩
theorem lw_p5 : lw_okq (⟨"SignTables$Text", "takeNumber", "()I"⟩, 7) := ⟨⟨by decide +kernel, by decide +kernel⟩, List.mem_of_getElem? (i := 89) (by decide +kernel), List.mem_of_getElem? (i := 362) (by decide +kernel), List.mem_of_getElem? (i := 363) (by decide +kernel)⟩
theorem lw_p6 : lw_okq (⟨"SignTables$Text", "takePower", "()I"⟩, 7) := ⟨⟨by decide +kernel, by decide +kernel⟩, List.mem_of_getElem? (i := 89) (by decide +kernel), List.mem_of_getElem? (i := 366) (by decide +kernel), List.mem_of_getElem? (i := 367) (by decide +kernel)⟩
theorem lw_p7 : lw_okq (⟨"SignTables$Text", "signAt", "(I)I"⟩, 7) := ⟨⟨by decide +kernel, by decide +kernel⟩, List.mem_of_getElem? (i := 89) (by decide +kernel), List.mem_of_getElem? (i := 372) (by decide +kernel), List.mem_of_getElem? (i := 373) (by decide +kernel)⟩
theorem lw_p8 : lw_okq (⟨"SignTables$Text", "takeGained", "()V"⟩, 7) := ⟨⟨by decide +kernel, by decide +kernel⟩, List.mem_of_getElem? (i := 89) (by decide +kernel), List.mem_of_getElem? (i := 376) (by decide +kernel), List.mem_of_getElem? (i := 377) (by decide +kernel)⟩
theorem lw_p9 : lw_okq (⟨"SignTables$Text", "expect", "(I)V"⟩, 7) := ⟨⟨by decide +kernel, by decide +kernel⟩, List.mem_of_getElem? (i := 89) (by decide +kernel), List.mem_of_getElem? (i := 380) (by decide +kernel), List.mem_of_getElem? (i := 381) (by decide +kernel)⟩
theorem lw_p10 : lw_okq (⟨"SignTables$Table", "mirror", "()V"⟩, 7) := ⟨⟨by decide +kernel, by decide +kernel⟩, List.mem_of_getElem? (i := 124) (by decide +kernel), List.mem_of_getElem? (i := 402) (by decide +kernel), List.mem_of_getElem? (i := 403) (by decide +kernel)⟩
theorem lw_p11 : lw_okq (⟨"SignTables$Table", "turn", "([JI)V"⟩, 7) := ⟨⟨by decide +kernel, by decide +kernel⟩, List.mem_of_getElem? (i := 124) (by decide +kernel), List.mem_of_getElem? (i := 406) (by decide +kernel), List.mem_of_getElem? (i := 407) (by decide +kernel)⟩
theorem lw_p12 : lw_okq (⟨"SignTables$Table", "carry", "([JI)V"⟩, 7) := ⟨⟨by decide +kernel, by decide +kernel⟩, List.mem_of_getElem? (i := 124) (by decide +kernel), List.mem_of_getElem? (i := 410) (by decide +kernel), List.mem_of_getElem? (i := 411) (by decide +kernel)⟩
theorem lw_p13 : lw_okq (⟨"SignTables$Table", "shift", "(II)V"⟩, 7) := ⟨⟨by decide +kernel, by decide +kernel⟩, List.mem_of_getElem? (i := 124) (by decide +kernel), List.mem_of_getElem? (i := 417) (by decide +kernel), List.mem_of_getElem? (i := 418) (by decide +kernel)⟩
theorem lw_p14 : lw_okq (⟨"SignTables", "tableOf", "(I)LSignTables$Table;"⟩, 13) := ⟨⟨by decide +kernel, by decide +kernel⟩, List.mem_of_getElem? (i := 17) (by decide +kernel), List.mem_of_getElem? (i := 429) (by decide +kernel), List.mem_of_getElem? (i := 430) (by decide +kernel)⟩
theorem lw_p15 : lw_okq (⟨"SignTables$Table", "takeRow", "(I)V"⟩, 7) := ⟨⟨by decide +kernel, by decide +kernel⟩, List.mem_of_getElem? (i := 124) (by decide +kernel), List.mem_of_getElem? (i := 437) (by decide +kernel), List.mem_of_getElem? (i := 438) (by decide +kernel)⟩
def lw_privs_1 : List (MethodName × Nat) := [(⟨"SignTables", "forgetSurveys", "()V"⟩, 13), (⟨"SignTables", "currentC", "()[J"⟩, 13), (⟨"SignTables$Text", "takeTerms", "([JZ)V"⟩, 7), (⟨"SignTables$Text", "letterAt", "(I)I"⟩, 7), (⟨"SignTables$Text", "takeTerm", "([JI)V"⟩, 7), (⟨"SignTables$Text", "takeNumber", "()I"⟩, 7), (⟨"SignTables$Text", "takePower", "()I"⟩, 7), (⟨"SignTables$Text", "signAt", "(I)I"⟩, 7), (⟨"SignTables$Text", "takeGained", "()V"⟩, 7), (⟨"SignTables$Text", "expect", "(I)V"⟩, 7), (⟨"SignTables$Table", "mirror", "()V"⟩, 7), (⟨"SignTables$Table", "turn", "([JI)V"⟩, 7), (⟨"SignTables$Table", "carry", "([JI)V"⟩, 7), (⟨"SignTables$Table", "shift", "(II)V"⟩, 7), (⟨"SignTables", "tableOf", "(I)LSignTables$Table;"⟩, 13), (⟨"SignTables$Table", "takeRow", "(I)V"⟩, 7)]
theorem lw_r1 : ∀ q ∈ lw_privs_1, lw_okq q := List.forall_mem_cons.mpr ⟨lw_p0, List.forall_mem_cons.mpr ⟨lw_p1, List.forall_mem_cons.mpr ⟨lw_p2, List.forall_mem_cons.mpr ⟨lw_p3, List.forall_mem_cons.mpr ⟨lw_p4, List.forall_mem_cons.mpr ⟨lw_p5, List.forall_mem_cons.mpr ⟨lw_p6, List.forall_mem_cons.mpr ⟨lw_p7, List.forall_mem_cons.mpr ⟨lw_p8, List.forall_mem_cons.mpr ⟨lw_p9, List.forall_mem_cons.mpr ⟨lw_p10, List.forall_mem_cons.mpr ⟨lw_p11, List.forall_mem_cons.mpr ⟨lw_p12, List.forall_mem_cons.mpr ⟨lw_p13, List.forall_mem_cons.mpr ⟨lw_p14, List.forall_mem_cons.mpr ⟨lw_p15, fun _ h => absurd h List.not_mem_nil⟩⟩⟩⟩⟩⟩⟩⟩⟩⟩⟩⟩⟩⟩⟩⟩
theorem lw_p16 : lw_okq (⟨"SignTables$Table", "crossRow", "(I)V"⟩, 7) := ⟨⟨by decide +kernel, by decide +kernel⟩, List.mem_of_getElem? (i := 124) (by decide +kernel), List.mem_of_getElem? (i := 441) (by decide +kernel), List.mem_of_getElem? (i := 442) (by decide +kernel)⟩
theorem lw_p17 : lw_okq (⟨"SignTables$Table", "mendRow", "(I)I"⟩, 7) := ⟨⟨by decide +kernel, by decide +kernel⟩, List.mem_of_getElem? (i := 124) (by decide +kernel), List.mem_of_getElem? (i := 456) (by decide +kernel), List.mem_of_getElem? (i := 457) (by decide +kernel)⟩
theorem lw_p18 : lw_okq (⟨"SignTables", "spansOf", "(I)LSignTables$Spans;"⟩, 13) := ⟨⟨by decide +kernel, by decide +kernel⟩, List.mem_of_getElem? (i := 17) (by decide +kernel), List.mem_of_getElem? (i := 556) (by decide +kernel), List.mem_of_getElem? (i := 557) (by decide +kernel)⟩
theorem lw_p19 : lw_okq (⟨"SignTables$Spans", "edge", "(IILSignTables$Holdings;LSignTables$Steadiness;)I"⟩, 5) := ⟨⟨by decide +kernel, by decide +kernel⟩, List.mem_of_getElem? (i := 198) (by decide +kernel), List.mem_of_getElem? (i := 573) (by decide +kernel), List.mem_of_getElem? (i := 574) (by decide +kernel)⟩
theorem lw_p20 : lw_okq (⟨"SignTables$Chain", "append", "([JI)V"⟩, 4) := ⟨⟨by decide +kernel, by decide +kernel⟩, List.mem_of_getElem? (i := 161) (by decide +kernel), List.mem_of_getElem? (i := 599) (by decide +kernel), List.mem_of_getElem? (i := 600) (by decide +kernel)⟩
theorem lw_p21 : lw_okq (⟨"SignTables$Chain", "divide", "([J[J)V"⟩, 4) := ⟨⟨by decide +kernel, by decide +kernel⟩, List.mem_of_getElem? (i := 161) (by decide +kernel), List.mem_of_getElem? (i := 604) (by decide +kernel), List.mem_of_getElem? (i := 605) (by decide +kernel)⟩
theorem lw_p22 : lw_okq (⟨"SignTables$Chain", "lower", "(I[JI)V"⟩, 4) := ⟨⟨by decide +kernel, by decide +kernel⟩, List.mem_of_getElem? (i := 161) (by decide +kernel), List.mem_of_getElem? (i := 609) (by decide +kernel), List.mem_of_getElem? (i := 610) (by decide +kernel)⟩
theorem lw_p23 : lw_okq (⟨"SignTables$Holdings", "exchange", "(II)V"⟩, 7) := ⟨⟨by decide +kernel, by decide +kernel⟩, List.mem_of_getElem? (i := 25) (by decide +kernel), List.mem_of_getElem? (i := 656) (by decide +kernel), List.mem_of_getElem? (i := 657) (by decide +kernel)⟩
theorem lw_p24 : lw_okq (⟨"SignTables$Factor", "dividesOnce", "([J)Z"⟩, 3) := ⟨⟨by decide +kernel, by decide +kernel⟩, List.mem_of_getElem? (i := 32) (by decide +kernel), List.mem_of_getElem? (i := 720) (by decide +kernel), List.mem_of_getElem? (i := 721) (by decide +kernel)⟩
theorem lw_p25 : lw_okq (⟨"SignTables$Rights", "isJump", "(I)Z"⟩, 4) := ⟨⟨by decide +kernel, by decide +kernel⟩, List.mem_of_getElem? (i := 224) (by decide +kernel), List.mem_of_getElem? (i := 798) (by decide +kernel), List.mem_of_getElem? (i := 799) (by decide +kernel)⟩
theorem lw_p26 : lw_okq (⟨"SignTables", "refusalOfRow", "(III)I"⟩, 13) := ⟨⟨by decide +kernel, by decide +kernel⟩, List.mem_of_getElem? (i := 17) (by decide +kernel), List.mem_of_getElem? (i := 857) (by decide +kernel), List.mem_of_getElem? (i := 858) (by decide +kernel)⟩
theorem lw_p27 : lw_okq (⟨"SignTablesModel", "takes", "(II)V"⟩, 32) := ⟨⟨by decide +kernel, by decide +kernel⟩, List.mem_of_getElem? (i := 893) (by decide +kernel), List.mem_of_getElem? (i := 1015) (by decide +kernel), List.mem_of_getElem? (i := 1016) (by decide +kernel)⟩
theorem lw_p28 : lw_okq (⟨"SignTablesModel", "laysForm", "(I)V"⟩, 32) := ⟨⟨by decide +kernel, by decide +kernel⟩, List.mem_of_getElem? (i := 893) (by decide +kernel), List.mem_of_getElem? (i := 1038) (by decide +kernel), List.mem_of_getElem? (i := 1039) (by decide +kernel)⟩
theorem lw_p29 : lw_okq (⟨"SignTablesModel", "forms", "(I)V"⟩, 32) := ⟨⟨by decide +kernel, by decide +kernel⟩, List.mem_of_getElem? (i := 893) (by decide +kernel), List.mem_of_getElem? (i := 1042) (by decide +kernel), List.mem_of_getElem? (i := 1043) (by decide +kernel)⟩
theorem lw_p30 : lw_okq (⟨"SignTablesModel", "circles", "()V"⟩, 32) := ⟨⟨by decide +kernel, by decide +kernel⟩, List.mem_of_getElem? (i := 893) (by decide +kernel), List.mem_of_getElem? (i := 1046) (by decide +kernel), List.mem_of_getElem? (i := 1047) (by decide +kernel)⟩
theorem lw_p31 : lw_okq (⟨"SignTablesModel", "wider", "(I)V"⟩, 32) := ⟨⟨by decide +kernel, by decide +kernel⟩, List.mem_of_getElem? (i := 893) (by decide +kernel), List.mem_of_getElem? (i := 1050) (by decide +kernel), List.mem_of_getElem? (i := 1051) (by decide +kernel)⟩
def lw_privs_2 : List (MethodName × Nat) := [(⟨"SignTables$Table", "crossRow", "(I)V"⟩, 7), (⟨"SignTables$Table", "mendRow", "(I)I"⟩, 7), (⟨"SignTables", "spansOf", "(I)LSignTables$Spans;"⟩, 13), (⟨"SignTables$Spans", "edge", "(IILSignTables$Holdings;LSignTables$Steadiness;)I"⟩, 5), (⟨"SignTables$Chain", "append", "([JI)V"⟩, 4), (⟨"SignTables$Chain", "divide", "([J[J)V"⟩, 4), (⟨"SignTables$Chain", "lower", "(I[JI)V"⟩, 4), (⟨"SignTables$Holdings", "exchange", "(II)V"⟩, 7), (⟨"SignTables$Factor", "dividesOnce", "([J)Z"⟩, 3), (⟨"SignTables$Rights", "isJump", "(I)Z"⟩, 4), (⟨"SignTables", "refusalOfRow", "(III)I"⟩, 13), (⟨"SignTablesModel", "takes", "(II)V"⟩, 32), (⟨"SignTablesModel", "laysForm", "(I)V"⟩, 32), (⟨"SignTablesModel", "forms", "(I)V"⟩, 32), (⟨"SignTablesModel", "circles", "()V"⟩, 32), (⟨"SignTablesModel", "wider", "(I)V"⟩, 32)]
theorem lw_r2 : ∀ q ∈ lw_privs_2, lw_okq q := List.forall_mem_cons.mpr ⟨lw_p16, List.forall_mem_cons.mpr ⟨lw_p17, List.forall_mem_cons.mpr ⟨lw_p18, List.forall_mem_cons.mpr ⟨lw_p19, List.forall_mem_cons.mpr ⟨lw_p20, List.forall_mem_cons.mpr ⟨lw_p21, List.forall_mem_cons.mpr ⟨lw_p22, List.forall_mem_cons.mpr ⟨lw_p23, List.forall_mem_cons.mpr ⟨lw_p24, List.forall_mem_cons.mpr ⟨lw_p25, List.forall_mem_cons.mpr ⟨lw_p26, List.forall_mem_cons.mpr ⟨lw_p27, List.forall_mem_cons.mpr ⟨lw_p28, List.forall_mem_cons.mpr ⟨lw_p29, List.forall_mem_cons.mpr ⟨lw_p30, List.forall_mem_cons.mpr ⟨lw_p31, fun _ h => absurd h List.not_mem_nil⟩⟩⟩⟩⟩⟩⟩⟩⟩⟩⟩⟩⟩⟩⟩⟩
theorem lw_p32 : lw_okq (⟨"SignTablesModel", "shifts", "(I)V"⟩, 32) := ⟨⟨by decide +kernel, by decide +kernel⟩, List.mem_of_getElem? (i := 893) (by decide +kernel), List.mem_of_getElem? (i := 1054) (by decide +kernel), List.mem_of_getElem? (i := 1055) (by decide +kernel)⟩
theorem lw_p33 : lw_okq (⟨"SignTablesModel", "laysRowsOf", "(I)V"⟩, 32) := ⟨⟨by decide +kernel, by decide +kernel⟩, List.mem_of_getElem? (i := 893) (by decide +kernel), List.mem_of_getElem? (i := 1066) (by decide +kernel), List.mem_of_getElem? (i := 1067) (by decide +kernel)⟩
theorem lw_p34 : lw_okq (⟨"SignTablesModel", "laysRows", "()V"⟩, 32) := ⟨⟨by decide +kernel, by decide +kernel⟩, List.mem_of_getElem? (i := 893) (by decide +kernel), List.mem_of_getElem? (i := 1070) (by decide +kernel), List.mem_of_getElem? (i := 1071) (by decide +kernel)⟩
theorem lw_p35 : lw_okq (⟨"SignTablesModel", "itemMany", "(I)I"⟩, 32) := ⟨⟨by decide +kernel, by decide +kernel⟩, List.mem_of_getElem? (i := 893) (by decide +kernel), List.mem_of_getElem? (i := 1074) (by decide +kernel), List.mem_of_getElem? (i := 1075) (by decide +kernel)⟩
theorem lw_p36 : lw_okq (⟨"SignTablesModel", "works", "(I)V"⟩, 32) := ⟨⟨by decide +kernel, by decide +kernel⟩, List.mem_of_getElem? (i := 893) (by decide +kernel), List.mem_of_getElem? (i := 1078) (by decide +kernel), List.mem_of_getElem? (i := 1079) (by decide +kernel)⟩
theorem lw_p37 : lw_okq (⟨"SignTablesModel", "item", "(II)J"⟩, 32) := ⟨⟨by decide +kernel, by decide +kernel⟩, List.mem_of_getElem? (i := 893) (by decide +kernel), List.mem_of_getElem? (i := 1082) (by decide +kernel), List.mem_of_getElem? (i := 1083) (by decide +kernel)⟩
theorem lw_p38 : lw_okq (⟨"SignTablesModel", "times", "(JJ)J"⟩, 32) := ⟨⟨by decide +kernel, by decide +kernel⟩, List.mem_of_getElem? (i := 893) (by decide +kernel), List.mem_of_getElem? (i := 1086) (by decide +kernel), List.mem_of_getElem? (i := 1087) (by decide +kernel)⟩
theorem lw_p39 : lw_okq (⟨"SignTablesModel", "less", "(JJ)J"⟩, 32) := ⟨⟨by decide +kernel, by decide +kernel⟩, List.mem_of_getElem? (i := 893) (by decide +kernel), List.mem_of_getElem? (i := 1090) (by decide +kernel), List.mem_of_getElem? (i := 1091) (by decide +kernel)⟩
theorem lw_p40 : lw_okq (⟨"SignTablesModel", "turned", "(J)J"⟩, 32) := ⟨⟨by decide +kernel, by decide +kernel⟩, List.mem_of_getElem? (i := 893) (by decide +kernel), List.mem_of_getElem? (i := 1094) (by decide +kernel), List.mem_of_getElem? (i := 1095) (by decide +kernel)⟩
theorem lw_p41 : lw_okq (⟨"SignTablesModel", "mends", "(I)V"⟩, 32) := ⟨⟨by decide +kernel, by decide +kernel⟩, List.mem_of_getElem? (i := 893) (by decide +kernel), List.mem_of_getElem? (i := 1098) (by decide +kernel), List.mem_of_getElem? (i := 1099) (by decide +kernel)⟩
theorem lw_p42 : lw_okq (⟨"SignTablesModel", "firstNot", "(I)I"⟩, 32) := ⟨⟨by decide +kernel, by decide +kernel⟩, List.mem_of_getElem? (i := 893) (by decide +kernel), List.mem_of_getElem? (i := 1102) (by decide +kernel), List.mem_of_getElem? (i := 1103) (by decide +kernel)⟩
theorem lw_p43 : lw_okq (⟨"SignTablesModel", "plus", "(JJ)J"⟩, 32) := ⟨⟨by decide +kernel, by decide +kernel⟩, List.mem_of_getElem? (i := 893) (by decide +kernel), List.mem_of_getElem? (i := 1106) (by decide +kernel), List.mem_of_getElem? (i := 1107) (by decide +kernel)⟩
theorem lw_p44 : lw_okq (⟨"SignTablesModel", "isRow", "(I)Z"⟩, 32) := ⟨⟨by decide +kernel, by decide +kernel⟩, List.mem_of_getElem? (i := 893) (by decide +kernel), List.mem_of_getElem? (i := 1113) (by decide +kernel), List.mem_of_getElem? (i := 1114) (by decide +kernel)⟩
theorem lw_p45 : lw_okq (⟨"SignTablesModel", "right", "()I"⟩, 32) := ⟨⟨by decide +kernel, by decide +kernel⟩, List.mem_of_getElem? (i := 893) (by decide +kernel), List.mem_of_getElem? (i := 1126) (by decide +kernel), List.mem_of_getElem? (i := 1127) (by decide +kernel)⟩
theorem lw_p46 : lw_okq (⟨"SignTablesModel", "changesIn", "(II)I"⟩, 32) := ⟨⟨by decide +kernel, by decide +kernel⟩, List.mem_of_getElem? (i := 893) (by decide +kernel), List.mem_of_getElem? (i := 1130) (by decide +kernel), List.mem_of_getElem? (i := 1131) (by decide +kernel)⟩
theorem lw_p47 : lw_okq (⟨"SignTablesModel", "axis", "()I"⟩, 32) := ⟨⟨by decide +kernel, by decide +kernel⟩, List.mem_of_getElem? (i := 893) (by decide +kernel), List.mem_of_getElem? (i := 1134) (by decide +kernel), List.mem_of_getElem? (i := 1135) (by decide +kernel)⟩
def lw_privs_3 : List (MethodName × Nat) := [(⟨"SignTablesModel", "shifts", "(I)V"⟩, 32), (⟨"SignTablesModel", "laysRowsOf", "(I)V"⟩, 32), (⟨"SignTablesModel", "laysRows", "()V"⟩, 32), (⟨"SignTablesModel", "itemMany", "(I)I"⟩, 32), (⟨"SignTablesModel", "works", "(I)V"⟩, 32), (⟨"SignTablesModel", "item", "(II)J"⟩, 32), (⟨"SignTablesModel", "times", "(JJ)J"⟩, 32), (⟨"SignTablesModel", "less", "(JJ)J"⟩, 32), (⟨"SignTablesModel", "turned", "(J)J"⟩, 32), (⟨"SignTablesModel", "mends", "(I)V"⟩, 32), (⟨"SignTablesModel", "firstNot", "(I)I"⟩, 32), (⟨"SignTablesModel", "plus", "(JJ)J"⟩, 32), (⟨"SignTablesModel", "isRow", "(I)Z"⟩, 32), (⟨"SignTablesModel", "right", "()I"⟩, 32), (⟨"SignTablesModel", "changesIn", "(II)I"⟩, 32), (⟨"SignTablesModel", "axis", "()I"⟩, 32)]
theorem lw_r3 : ∀ q ∈ lw_privs_3, lw_okq q := List.forall_mem_cons.mpr ⟨lw_p32, List.forall_mem_cons.mpr ⟨lw_p33, List.forall_mem_cons.mpr ⟨lw_p34, List.forall_mem_cons.mpr ⟨lw_p35, List.forall_mem_cons.mpr ⟨lw_p36, List.forall_mem_cons.mpr ⟨lw_p37, List.forall_mem_cons.mpr ⟨lw_p38, List.forall_mem_cons.mpr ⟨lw_p39, List.forall_mem_cons.mpr ⟨lw_p40, List.forall_mem_cons.mpr ⟨lw_p41, List.forall_mem_cons.mpr ⟨lw_p42, List.forall_mem_cons.mpr ⟨lw_p43, List.forall_mem_cons.mpr ⟨lw_p44, List.forall_mem_cons.mpr ⟨lw_p45, List.forall_mem_cons.mpr ⟨lw_p46, List.forall_mem_cons.mpr ⟨lw_p47, fun _ h => absurd h List.not_mem_nil⟩⟩⟩⟩⟩⟩⟩⟩⟩⟩⟩⟩⟩⟩⟩⟩
theorem lw_p48 : lw_okq (⟨"SignTablesModel", "firstCase", "()I"⟩, 32) := ⟨⟨by decide +kernel, by decide +kernel⟩, List.mem_of_getElem? (i := 893) (by decide +kernel), List.mem_of_getElem? (i := 1138) (by decide +kernel), List.mem_of_getElem? (i := 1139) (by decide +kernel)⟩
theorem lw_p49 : lw_okq (⟨"SignTablesModel", "left", "()I"⟩, 32) := ⟨⟨by decide +kernel, by decide +kernel⟩, List.mem_of_getElem? (i := 893) (by decide +kernel), List.mem_of_getElem? (i := 1142) (by decide +kernel), List.mem_of_getElem? (i := 1143) (by decide +kernel)⟩
theorem lw_p50 : lw_okq (⟨"SignTablesModel", "isSteady", "(III)Z"⟩, 32) := ⟨⟨by decide +kernel, by decide +kernel⟩, List.mem_of_getElem? (i := 893) (by decide +kernel), List.mem_of_getElem? (i := 1173) (by decide +kernel), List.mem_of_getElem? (i := 1174) (by decide +kernel)⟩
theorem lw_p51 : lw_okq (⟨"SignTablesModel", "laysSpans", "(I)V"⟩, 32) := ⟨⟨by decide +kernel, by decide +kernel⟩, List.mem_of_getElem? (i := 893) (by decide +kernel), List.mem_of_getElem? (i := 1181) (by decide +kernel), List.mem_of_getElem? (i := 1182) (by decide +kernel)⟩
theorem lw_p52 : lw_okq (⟨"SignTablesModel", "firstEdge", "(II)I"⟩, 32) := ⟨⟨by decide +kernel, by decide +kernel⟩, List.mem_of_getElem? (i := 893) (by decide +kernel), List.mem_of_getElem? (i := 1189) (by decide +kernel), List.mem_of_getElem? (i := 1190) (by decide +kernel)⟩
theorem lw_p53 : lw_okq (⟨"SignTablesModel", "lastEdge", "(II)I"⟩, 32) := ⟨⟨by decide +kernel, by decide +kernel⟩, List.mem_of_getElem? (i := 893) (by decide +kernel), List.mem_of_getElem? (i := 1193) (by decide +kernel), List.mem_of_getElem? (i := 1194) (by decide +kernel)⟩
theorem lw_p54 : lw_okq (⟨"SignTablesModel", "laysChain", "()I"⟩, 32) := ⟨⟨by decide +kernel, by decide +kernel⟩, List.mem_of_getElem? (i := 893) (by decide +kernel), List.mem_of_getElem? (i := 1205) (by decide +kernel), List.mem_of_getElem? (i := 1206) (by decide +kernel)⟩
theorem lw_p55 : lw_okq (⟨"SignTablesModel", "dividesLink", "(I)V"⟩, 32) := ⟨⟨by decide +kernel, by decide +kernel⟩, List.mem_of_getElem? (i := 893) (by decide +kernel), List.mem_of_getElem? (i := 1209) (by decide +kernel), List.mem_of_getElem? (i := 1210) (by decide +kernel)⟩
theorem lw_p56 : lw_okq (⟨"SignTablesModel", "goesOn", "()Z"⟩, 32) := ⟨⟨by decide +kernel, by decide +kernel⟩, List.mem_of_getElem? (i := 893) (by decide +kernel), List.mem_of_getElem? (i := 1213) (by decide +kernel), List.mem_of_getElem? (i := 1214) (by decide +kernel)⟩
theorem lw_p57 : lw_okq (⟨"SignTablesModel", "degreeOfLink", "(I)I"⟩, 32) := ⟨⟨by decide +kernel, by decide +kernel⟩, List.mem_of_getElem? (i := 893) (by decide +kernel), List.mem_of_getElem? (i := 1217) (by decide +kernel), List.mem_of_getElem? (i := 1218) (by decide +kernel)⟩
theorem lw_p58 : lw_okq (⟨"SignTablesModel", "changesAt", "(I)I"⟩, 32) := ⟨⟨by decide +kernel, by decide +kernel⟩, List.mem_of_getElem? (i := 893) (by decide +kernel), List.mem_of_getElem? (i := 1229) (by decide +kernel), List.mem_of_getElem? (i := 1230) (by decide +kernel)⟩
theorem lw_p59 : lw_okq (⟨"SignTablesModel", "valueAt", "(II)J"⟩, 32) := ⟨⟨by decide +kernel, by decide +kernel⟩, List.mem_of_getElem? (i := 893) (by decide +kernel), List.mem_of_getElem? (i := 1233) (by decide +kernel), List.mem_of_getElem? (i := 1234) (by decide +kernel)⟩
theorem lw_p60 : lw_okq (⟨"SignTablesModel", "terms", "(I)V"⟩, 32) := ⟨⟨by decide +kernel, by decide +kernel⟩, List.mem_of_getElem? (i := 893) (by decide +kernel), List.mem_of_getElem? (i := 1250) (by decide +kernel), List.mem_of_getElem? (i := 1251) (by decide +kernel)⟩
theorem lw_p61 : lw_okq (⟨"SignTablesModel", "here", "()I"⟩, 32) := ⟨⟨by decide +kernel, by decide +kernel⟩, List.mem_of_getElem? (i := 893) (by decide +kernel), List.mem_of_getElem? (i := 1254) (by decide +kernel), List.mem_of_getElem? (i := 1255) (by decide +kernel)⟩
theorem lw_p62 : lw_okq (⟨"SignTablesModel", "term", "(IZ)V"⟩, 32) := ⟨⟨by decide +kernel, by decide +kernel⟩, List.mem_of_getElem? (i := 893) (by decide +kernel), List.mem_of_getElem? (i := 1258) (by decide +kernel), List.mem_of_getElem? (i := 1259) (by decide +kernel)⟩
theorem lw_p63 : lw_okq (⟨"SignTablesModel", "isDigit", "()Z"⟩, 32) := ⟨⟨by decide +kernel, by decide +kernel⟩, List.mem_of_getElem? (i := 893) (by decide +kernel), List.mem_of_getElem? (i := 1262) (by decide +kernel), List.mem_of_getElem? (i := 1263) (by decide +kernel)⟩
def lw_privs_4 : List (MethodName × Nat) := [(⟨"SignTablesModel", "firstCase", "()I"⟩, 32), (⟨"SignTablesModel", "left", "()I"⟩, 32), (⟨"SignTablesModel", "isSteady", "(III)Z"⟩, 32), (⟨"SignTablesModel", "laysSpans", "(I)V"⟩, 32), (⟨"SignTablesModel", "firstEdge", "(II)I"⟩, 32), (⟨"SignTablesModel", "lastEdge", "(II)I"⟩, 32), (⟨"SignTablesModel", "laysChain", "()I"⟩, 32), (⟨"SignTablesModel", "dividesLink", "(I)V"⟩, 32), (⟨"SignTablesModel", "goesOn", "()Z"⟩, 32), (⟨"SignTablesModel", "degreeOfLink", "(I)I"⟩, 32), (⟨"SignTablesModel", "changesAt", "(I)I"⟩, 32), (⟨"SignTablesModel", "valueAt", "(II)J"⟩, 32), (⟨"SignTablesModel", "terms", "(I)V"⟩, 32), (⟨"SignTablesModel", "here", "()I"⟩, 32), (⟨"SignTablesModel", "term", "(IZ)V"⟩, 32), (⟨"SignTablesModel", "isDigit", "()Z"⟩, 32)]
theorem lw_r4 : ∀ q ∈ lw_privs_4, lw_okq q := List.forall_mem_cons.mpr ⟨lw_p48, List.forall_mem_cons.mpr ⟨lw_p49, List.forall_mem_cons.mpr ⟨lw_p50, List.forall_mem_cons.mpr ⟨lw_p51, List.forall_mem_cons.mpr ⟨lw_p52, List.forall_mem_cons.mpr ⟨lw_p53, List.forall_mem_cons.mpr ⟨lw_p54, List.forall_mem_cons.mpr ⟨lw_p55, List.forall_mem_cons.mpr ⟨lw_p56, List.forall_mem_cons.mpr ⟨lw_p57, List.forall_mem_cons.mpr ⟨lw_p58, List.forall_mem_cons.mpr ⟨lw_p59, List.forall_mem_cons.mpr ⟨lw_p60, List.forall_mem_cons.mpr ⟨lw_p61, List.forall_mem_cons.mpr ⟨lw_p62, List.forall_mem_cons.mpr ⟨lw_p63, fun _ h => absurd h List.not_mem_nil⟩⟩⟩⟩⟩⟩⟩⟩⟩⟩⟩⟩⟩⟩⟩⟩
theorem lw_p64 : lw_okq (⟨"SignTablesModel", "isSign", "()Z"⟩, 32) := ⟨⟨by decide +kernel, by decide +kernel⟩, List.mem_of_getElem? (i := 893) (by decide +kernel), List.mem_of_getElem? (i := 1270) (by decide +kernel), List.mem_of_getElem? (i := 1271) (by decide +kernel)⟩
theorem lw_p65 : lw_okq (⟨"SignTablesModel", "must", "(I)V"⟩, 32) := ⟨⟨by decide +kernel, by decide +kernel⟩, List.mem_of_getElem? (i := 893) (by decide +kernel), List.mem_of_getElem? (i := 1274) (by decide +kernel), List.mem_of_getElem? (i := 1275) (by decide +kernel)⟩
theorem lw_p66 : lw_okq (⟨"SignTablesModel", "leaves", "(I)V"⟩, 32) := ⟨⟨by decide +kernel, by decide +kernel⟩, List.mem_of_getElem? (i := 893) (by decide +kernel), List.mem_of_getElem? (i := 1286) (by decide +kernel), List.mem_of_getElem? (i := 1287) (by decide +kernel)⟩
theorem lw_p67 : lw_okq (⟨"SignTablesModel", "isTwice", "(I)Z"⟩, 32) := ⟨⟨by decide +kernel, by decide +kernel⟩, List.mem_of_getElem? (i := 893) (by decide +kernel), List.mem_of_getElem? (i := 1298) (by decide +kernel), List.mem_of_getElem? (i := 1299) (by decide +kernel)⟩
theorem lw_p68 : lw_okq (⟨"SignTablesModel", "exchanges", "(II)V"⟩, 32) := ⟨⟨by decide +kernel, by decide +kernel⟩, List.mem_of_getElem? (i := 893) (by decide +kernel), List.mem_of_getElem? (i := 1306) (by decide +kernel), List.mem_of_getElem? (i := 1307) (by decide +kernel)⟩
theorem lw_p69 : lw_okq (⟨"SignTablesModel", "lays", "(IIJ)V"⟩, 32) := ⟨⟨by decide +kernel, by decide +kernel⟩, List.mem_of_getElem? (i := 893) (by decide +kernel), List.mem_of_getElem? (i := 1322) (by decide +kernel), List.mem_of_getElem? (i := 1323) (by decide +kernel)⟩
theorem lw_p70 : lw_okq (⟨"SignTablesModel", "wrongRow", "(III)I"⟩, 32) := ⟨⟨by decide +kernel, by decide +kernel⟩, List.mem_of_getElem? (i := 893) (by decide +kernel), List.mem_of_getElem? (i := 1334) (by decide +kernel), List.mem_of_getElem? (i := 1335) (by decide +kernel)⟩
theorem lw_p71 : lw_okq (⟨"SignTablesModel", "isFactor", "(I)Z"⟩, 32) := ⟨⟨by decide +kernel, by decide +kernel⟩, List.mem_of_getElem? (i := 893) (by decide +kernel), List.mem_of_getElem? (i := 1359) (by decide +kernel), List.mem_of_getElem? (i := 1360) (by decide +kernel)⟩
theorem lw_p72 : lw_okq (⟨"SignTablesModel", "knownAll", "(I)I"⟩, 32) := ⟨⟨by decide +kernel, by decide +kernel⟩, List.mem_of_getElem? (i := 893) (by decide +kernel), List.mem_of_getElem? (i := 1367) (by decide +kernel), List.mem_of_getElem? (i := 1368) (by decide +kernel)⟩
theorem lw_p73 : lw_okq (⟨"SignTablesModel", "sizeOf", "(I)I"⟩, 32) := ⟨⟨by decide +kernel, by decide +kernel⟩, List.mem_of_getElem? (i := 893) (by decide +kernel), List.mem_of_getElem? (i := 1371) (by decide +kernel), List.mem_of_getElem? (i := 1372) (by decide +kernel)⟩
theorem lw_p74 : lw_okq (⟨"SignTablesModel", "knownOf", "(II)I"⟩, 32) := ⟨⟨by decide +kernel, by decide +kernel⟩, List.mem_of_getElem? (i := 893) (by decide +kernel), List.mem_of_getElem? (i := 1375) (by decide +kernel), List.mem_of_getElem? (i := 1376) (by decide +kernel)⟩
theorem lw_p75 : lw_okq (⟨"SignTablesModel", "isDivided", "(I)Z"⟩, 32) := ⟨⟨by decide +kernel, by decide +kernel⟩, List.mem_of_getElem? (i := 893) (by decide +kernel), List.mem_of_getElem? (i := 1384) (by decide +kernel), List.mem_of_getElem? (i := 1385) (by decide +kernel)⟩
theorem lw_p76 : lw_okq (⟨"SignTablesModel", "rightsAt", "(I)I"⟩, 32) := ⟨⟨by decide +kernel, by decide +kernel⟩, List.mem_of_getElem? (i := 893) (by decide +kernel), List.mem_of_getElem? (i := 1396) (by decide +kernel), List.mem_of_getElem? (i := 1397) (by decide +kernel)⟩
theorem lw_p77 : lw_okq (⟨"SignTablesModel", "findsJump", "(I)V"⟩, 32) := ⟨⟨by decide +kernel, by decide +kernel⟩, List.mem_of_getElem? (i := 893) (by decide +kernel), List.mem_of_getElem? (i := 1404) (by decide +kernel), List.mem_of_getElem? (i := 1405) (by decide +kernel)⟩
def lw_privs_5 : List (MethodName × Nat) := [(⟨"SignTablesModel", "isSign", "()Z"⟩, 32), (⟨"SignTablesModel", "must", "(I)V"⟩, 32), (⟨"SignTablesModel", "leaves", "(I)V"⟩, 32), (⟨"SignTablesModel", "isTwice", "(I)Z"⟩, 32), (⟨"SignTablesModel", "exchanges", "(II)V"⟩, 32), (⟨"SignTablesModel", "lays", "(IIJ)V"⟩, 32), (⟨"SignTablesModel", "wrongRow", "(III)I"⟩, 32), (⟨"SignTablesModel", "isFactor", "(I)Z"⟩, 32), (⟨"SignTablesModel", "knownAll", "(I)I"⟩, 32), (⟨"SignTablesModel", "sizeOf", "(I)I"⟩, 32), (⟨"SignTablesModel", "knownOf", "(II)I"⟩, 32), (⟨"SignTablesModel", "isDivided", "(I)Z"⟩, 32), (⟨"SignTablesModel", "rightsAt", "(I)I"⟩, 32), (⟨"SignTablesModel", "findsJump", "(I)V"⟩, 32)]
theorem lw_r5 : ∀ q ∈ lw_privs_5, lw_okq q := List.forall_mem_cons.mpr ⟨lw_p64, List.forall_mem_cons.mpr ⟨lw_p65, List.forall_mem_cons.mpr ⟨lw_p66, List.forall_mem_cons.mpr ⟨lw_p67, List.forall_mem_cons.mpr ⟨lw_p68, List.forall_mem_cons.mpr ⟨lw_p69, List.forall_mem_cons.mpr ⟨lw_p70, List.forall_mem_cons.mpr ⟨lw_p71, List.forall_mem_cons.mpr ⟨lw_p72, List.forall_mem_cons.mpr ⟨lw_p73, List.forall_mem_cons.mpr ⟨lw_p74, List.forall_mem_cons.mpr ⟨lw_p75, List.forall_mem_cons.mpr ⟨lw_p76, List.forall_mem_cons.mpr ⟨lw_p77, fun _ h => absurd h List.not_mem_nil⟩⟩⟩⟩⟩⟩⟩⟩⟩⟩⟩⟩⟩⟩
def lw_privs : List (MethodName × Nat) := lw_privs_1 ++ (lw_privs_2 ++ (lw_privs_3 ++ (lw_privs_4 ++ (lw_privs_5))))
def lw_tbl : List Cond := k2_sels lw_privs ++ tables_1
theorem lw_privs_ok : ∀ q ∈ lw_privs, lw_okq q := by
  show ∀ q ∈ lw_privs_1 ++ (lw_privs_2 ++ (lw_privs_3 ++ (lw_privs_4 ++ (lw_privs_5)))), lw_okq q
  exact List.forall_mem_append.mpr ⟨lw_r1, List.forall_mem_append.mpr ⟨lw_r2, List.forall_mem_append.mpr ⟨lw_r3, List.forall_mem_append.mpr ⟨lw_r4, lw_r5⟩⟩⟩⟩
end
section
def RX0 : String := "SignTables$Chain"
def TX0 : u_T := fun k => match k with
  | 0 => ("SignTables$Chain", "links", "[[J", true)
  | 1 => ("SignTables$Chain", "rest", "[J", true)
  | 2 => ("SignTables$Chain", "size", "I", false)
  | _ => ("SignTables$Chain", "great", "Z", false)
def tyX0 : Nat → FieldType := fun k => match k with
  | 0 => .array (.array .long)
  | 1 => .array .long
  | 2 => .int
  | _ => .boolean
theorem nmX0 : ∀ a, a < 4 → ∀ b, b < 4 → a ≠ b → (TX0 a).2.1 ≠ (TX0 b).2.1 := by decide +kernel
theorem tyX0_ok : ∀ k, k < 4 → parseFieldDescriptor (TX0 k).2.2.1 = some (tyX0 k) := by decide +kernel
abbrev cX0_init : ByteArray := prog_2_method_1_code
def yX0_init : MethodName := ⟨RX0, "<init>", "()V"⟩
abbrev cX0_build : ByteArray := prog_2_method_2_code
def yX0_build : MethodName := ⟨RX0, "build", "([J)Z"⟩
abbrev cX0_append : ByteArray := prog_2_method_3_code
def yX0_append : MethodName := ⟨RX0, "append", "([JI)V"⟩
abbrev cX0_divide : ByteArray := prog_2_method_4_code
def yX0_divide : MethodName := ⟨RX0, "divide", "([J[J)V"⟩
abbrev cX0_lower : ByteArray := prog_2_method_5_code
def yX0_lower : MethodName := ⟨RX0, "lower", "(I[JI)V"⟩
abbrev cX0_coefficient : ByteArray := prog_2_method_6_code
def yX0_coefficient : MethodName := ⟨RX0, "coefficient", "(II)J"⟩
abbrev cX0_changesAt : ByteArray := prog_2_method_7_code
def yX0_changesAt : MethodName := ⟨RX0, "changesAt", "(I)I"⟩
abbrev cX0_valueAt : ByteArray := prog_2_method_8_code
def yX0_valueAt : MethodName := ⟨RX0, "valueAt", "([JI)J"⟩
def RX1 : String := "SignTables$Exact"
def TX1 : u_T := fun k => match k with
  | _ => ("", "", "", false)
def tyX1 : Nat → FieldType := fun k => match k with
  | _ => .int
theorem nmX1 : ∀ a, a < 0 → ∀ b, b < 0 → a ≠ b → (TX1 a).2.1 ≠ (TX1 b).2.1 := by decide +kernel
theorem tyX1_ok : ∀ k, k < 0 → parseFieldDescriptor (TX1 k).2.2.1 = some (tyX1 k) := by decide +kernel
abbrev cX1_times : ByteArray := prog_3_method_2_code
def yX1_times : MethodName := ⟨RX1, "times", "(JJ)J"⟩
abbrev cX1_plus : ByteArray := prog_3_method_3_code
def yX1_plus : MethodName := ⟨RX1, "plus", "(JJ)J"⟩
abbrev cX1_less : ByteArray := prog_3_method_4_code
def yX1_less : MethodName := ⟨RX1, "less", "(JJ)J"⟩
abbrev cX1_divisor : ByteArray := prog_3_method_5_code
def yX1_divisor : MethodName := ⟨RX1, "divisor", "(JJ)J"⟩
def RX2 : String := "SignTables$Factor"
def TX2 : u_T := fun k => match k with
  | 0 => ("SignTables$Factor", "kind", "I", false)
  | 1 => ("SignTables$Factor", "a", "I", false)
  | _ => ("SignTables$Factor", "b", "I", false)
def tyX2 : Nat → FieldType := fun k => match k with
  | 0 => .int
  | 1 => .int
  | _ => .int
theorem nmX2 : ∀ a, a < 3 → ∀ b, b < 3 → a ≠ b → (TX2 a).2.1 ≠ (TX2 b).2.1 := by decide +kernel
theorem tyX2_ok : ∀ k, k < 3 → parseFieldDescriptor (TX2 k).2.2.1 = some (tyX2 k) := by decide +kernel
abbrev cX2_init : ByteArray := prog_4_method_1_code
def yX2_init : MethodName := ⟨RX2, "<init>", "()V"⟩
abbrev cX2_become : ByteArray := prog_4_method_2_code
def yX2_become : MethodName := ⟨RX2, "become", "(III)V"⟩
abbrev cX2_size : ByteArray := prog_4_method_3_code
def yX2_size : MethodName := ⟨RX2, "size", "()I"⟩
abbrev cX2_rightCount : ByteArray := prog_4_method_4_code
def yX2_rightCount : MethodName := ⟨RX2, "rightCount", "()I"⟩
abbrev cX2_axisCount : ByteArray := prog_4_method_5_code
def yX2_axisCount : MethodName := ⟨RX2, "axisCount", "()I"⟩
abbrev cX2_leftCount : ByteArray := prog_4_method_6_code
def yX2_leftCount : MethodName := ⟨RX2, "leftCount", "()I"⟩
abbrev cX2_stretch : ByteArray := prog_4_method_7_code
def yX2_stretch : MethodName := ⟨RX2, "stretch", "([J)V"⟩
abbrev cX2_timesWithin : ByteArray := prog_4_method_8_code
def yX2_timesWithin : MethodName := ⟨RX2, "timesWithin", "([J)I"⟩
abbrev cX2_dividesOnce : ByteArray := prog_4_method_9_code
def yX2_dividesOnce : MethodName := ⟨RX2, "dividesOnce", "([J)Z"⟩
def RX3 : String := "SignTables$Holdings"
def TX3 : u_T := fun k => match k with
  | 0 => ("SignTables$Holdings", "p", "[J", true)
  | 1 => ("SignTables$Holdings", "q", "[J", true)
  | 2 => ("SignTables$Holdings", "k", "I", false)
  | 3 => ("SignTables$Holdings", "line", "[I", true)
  | 4 => ("SignTables$Holdings", "waits", "I", false)
  | 5 => ("SignTables$Holdings", "factors", "[LSignTables$Factor;", true)
  | _ => ("SignTables$Holdings", "factorCount", "I", false)
def tyX3 : Nat → FieldType := fun k => match k with
  | 0 => .array .long
  | 1 => .array .long
  | 2 => .int
  | 3 => .array .int
  | 4 => .int
  | 5 => .array (.object "SignTables$Factor")
  | _ => .int
theorem nmX3 : ∀ a, a < 7 → ∀ b, b < 7 → a ≠ b → (TX3 a).2.1 ≠ (TX3 b).2.1 := by decide +kernel
theorem tyX3_ok : ∀ k, k < 7 → parseFieldDescriptor (TX3 k).2.2.1 = some (tyX3 k) := by decide +kernel
abbrev cX3_init : ByteArray := prog_5_method_1_code
def yX3_init : MethodName := ⟨RX3, "<init>", "()V"⟩
abbrev cX3_takeOver : ByteArray := prog_5_method_2_code
def yX3_takeOver : MethodName := ⟨RX3, "takeOver", "(LSignTables$Holdings;)V"⟩
abbrev cX3_waitsAhead : ByteArray := prog_5_method_3_code
def yX3_waitsAhead : MethodName := ⟨RX3, "waitsAhead", "(II)Z"⟩
abbrev cX3_turnLine : ByteArray := prog_5_method_4_code
def yX3_turnLine : MethodName := ⟨RX3, "turnLine", "()V"⟩
abbrev cX3_sortLine : ByteArray := prog_5_method_5_code
def yX3_sortLine : MethodName := ⟨RX3, "sortLine", "()V"⟩
abbrev cX3_firstBecomesLast : ByteArray := prog_5_method_6_code
def yX3_firstBecomesLast : MethodName := ⟨RX3, "firstBecomesLast", "()V"⟩
abbrev cX3_exchange : ByteArray := prog_5_method_7_code
def yX3_exchange : MethodName := ⟨RX3, "exchange", "(II)V"⟩
abbrev cX3_dropFactor : ByteArray := prog_5_method_8_code
def yX3_dropFactor : MethodName := ⟨RX3, "dropFactor", "(I)V"⟩
abbrev cX3_factorsRight : ByteArray := prog_5_method_9_code
def yX3_factorsRight : MethodName := ⟨RX3, "factorsRight", "()I"⟩
abbrev cX3_factorsAxis : ByteArray := prog_5_method_10_code
def yX3_factorsAxis : MethodName := ⟨RX3, "factorsAxis", "()I"⟩
abbrev cX3_factorsLeft : ByteArray := prog_5_method_11_code
def yX3_factorsLeft : MethodName := ⟨RX3, "factorsLeft", "()I"⟩
abbrev cX3_factorsSize : ByteArray := prog_5_method_12_code
def yX3_factorsSize : MethodName := ⟨RX3, "factorsSize", "()I"⟩
abbrev cX3_productInto : ByteArray := prog_5_method_13_code
def yX3_productInto : MethodName := ⟨RX3, "productInto", "([J)V"⟩
def RX4 : String := "SignTables$Polynomials"
def TX4 : u_T := fun k => match k with
  | _ => ("", "", "", false)
def tyX4 : Nat → FieldType := fun k => match k with
  | _ => .int
theorem nmX4 : ∀ a, a < 0 → ∀ b, b < 0 → a ≠ b → (TX4 a).2.1 ≠ (TX4 b).2.1 := by decide +kernel
theorem tyX4_ok : ∀ k, k < 0 → parseFieldDescriptor (TX4 k).2.2.1 = some (tyX4 k) := by decide +kernel
abbrev cX4_highest : ByteArray := prog_6_method_2_code
def yX4_highest : MethodName := ⟨RX4, "highest", "([J)I"⟩
abbrev cX4_mix : ByteArray := prog_6_method_3_code
def yX4_mix : MethodName := ⟨RX4, "mix", "([JI[JI[J)V"⟩
abbrev cX4_isGreat : ByteArray := prog_6_method_4_code
def yX4_isGreat : MethodName := ⟨RX4, "isGreat", "([J)Z"⟩
abbrev cX4_shrink : ByteArray := prog_6_method_5_code
def yX4_shrink : MethodName := ⟨RX4, "shrink", "([J)V"⟩
abbrev cX4_stretch : ByteArray := prog_6_method_6_code
def yX4_stretch : MethodName := ⟨RX4, "stretch", "([JI)V"⟩
def RX5 : String := "SignTables$Rights"
def TX5 : u_T := fun k => match k with
  | 0 => ("SignTables$Rights", "mixture", "[J", true)
  | 1 => ("SignTables$Rights", "rows", "LSignTables$Table;", true)
  | 2 => ("SignTables$Rights", "counts", "[I", true)
  | _ => ("SignTables$Rights", "surveyed", "Z", false)
def tyX5 : Nat → FieldType := fun k => match k with
  | 0 => .array .long
  | 1 => .object "SignTables$Table"
  | 2 => .array .int
  | _ => .boolean
theorem nmX5 : ∀ a, a < 4 → ∀ b, b < 4 → a ≠ b → (TX5 a).2.1 ≠ (TX5 b).2.1 := by decide +kernel
theorem tyX5_ok : ∀ k, k < 4 → parseFieldDescriptor (TX5 k).2.2.1 = some (tyX5 k) := by decide +kernel
abbrev cX5_init : ByteArray := prog_7_method_1_code
def yX5_init : MethodName := ⟨RX5, "<init>", "()V"⟩
abbrev cX5_survey : ByteArray := prog_7_method_2_code
def yX5_survey : MethodName := ⟨RX5, "survey", "(LSignTables$Holdings;)V"⟩
abbrev cX5_at : ByteArray := prog_7_method_3_code
def yX5_at : MethodName := ⟨RX5, "at", "(I)I"⟩
abbrev cX5_isJump : ByteArray := prog_7_method_4_code
def yX5_isJump : MethodName := ⟨RX5, "isJump", "(I)Z"⟩
abbrev cX5_jumpCount : ByteArray := prog_7_method_5_code
def yX5_jumpCount : MethodName := ⟨RX5, "jumpCount", "()I"⟩
abbrev cX5_jumpAt : ByteArray := prog_7_method_6_code
def yX5_jumpAt : MethodName := ⟨RX5, "jumpAt", "(I)I"⟩
abbrev cX5_hasBest : ByteArray := prog_7_method_7_code
def yX5_hasBest : MethodName := ⟨RX5, "hasBest", "()Z"⟩
abbrev cX5_bestGain : ByteArray := prog_7_method_8_code
def yX5_bestGain : MethodName := ⟨RX5, "bestGain", "()I"⟩
def RX6 : String := "SignTables$Spans"
def TX6 : u_T := fun k => match k with
  | 0 => ("SignTables$Spans", "kind", "I", true)
  | 1 => ("SignTables$Spans", "firsts", "[I", true)
  | 2 => ("SignTables$Spans", "lasts", "[I", true)
  | 3 => ("SignTables$Spans", "size", "I", false)
  | _ => ("SignTables$Spans", "surveyed", "Z", false)
def tyX6 : Nat → FieldType := fun k => match k with
  | 0 => .int
  | 1 => .array .int
  | 2 => .array .int
  | 3 => .int
  | _ => .boolean
theorem nmX6 : ∀ a, a < 5 → ∀ b, b < 5 → a ≠ b → (TX6 a).2.1 ≠ (TX6 b).2.1 := by decide +kernel
theorem tyX6_ok : ∀ k, k < 5 → parseFieldDescriptor (TX6 k).2.2.1 = some (tyX6 k) := by decide +kernel
abbrev cX6_init : ByteArray := prog_8_method_1_code
def yX6_init : MethodName := ⟨RX6, "<init>", "(I)V"⟩
abbrev cX6_survey : ByteArray := prog_8_method_2_code
def yX6_survey : MethodName := ⟨RX6, "survey", "(LSignTables$Holdings;LSignTables$Steadiness;)V"⟩
abbrev cX6_firstEdge : ByteArray := prog_8_method_3_code
def yX6_firstEdge : MethodName := ⟨RX6, "firstEdge", "(ILSignTables$Holdings;LSignTables$Steadiness;)I"⟩
abbrev cX6_lastEdge : ByteArray := prog_8_method_4_code
def yX6_lastEdge : MethodName := ⟨RX6, "lastEdge", "(ILSignTables$Holdings;LSignTables$Steadiness;)I"⟩
abbrev cX6_edge : ByteArray := prog_8_method_5_code
def yX6_edge : MethodName := ⟨RX6, "edge", "(IILSignTables$Holdings;LSignTables$Steadiness;)I"⟩
abbrev cX6_closestTo : ByteArray := prog_8_method_6_code
def yX6_closestTo : MethodName := ⟨RX6, "closestTo", "(I)I"⟩
def RX7 : String := "SignTables$Steadiness"
def TX7 : u_T := fun k => match k with
  | 0 => ("SignTables$Steadiness", "mixture", "[J", true)
  | _ => ("SignTables$Steadiness", "rows", "LSignTables$Table;", true)
def tyX7 : Nat → FieldType := fun k => match k with
  | 0 => .array .long
  | _ => .object "SignTables$Table"
theorem nmX7 : ∀ a, a < 2 → ∀ b, b < 2 → a ≠ b → (TX7 a).2.1 ≠ (TX7 b).2.1 := by decide +kernel
theorem tyX7_ok : ∀ k, k < 2 → parseFieldDescriptor (TX7 k).2.2.1 = some (tyX7 k) := by decide +kernel
abbrev cX7_init : ByteArray := prog_9_method_1_code
def yX7_init : MethodName := ⟨RX7, "<init>", "()V"⟩
abbrev cX7_holds : ByteArray := prog_9_method_2_code
def yX7_holds : MethodName := ⟨RX7, "holds", "(LSignTables$Holdings;III)Z"⟩
def RX8 : String := "SignTables$Table"
def TX8 : u_T := fun k => match k with
  | 0 => ("SignTables$Table", "coefficients", "[J", true)
  | 1 => ("SignTables$Table", "lessOne", "[J", true)
  | 2 => ("SignTables$Table", "items", "[[J", true)
  | 3 => ("SignTables$Table", "cases", "[I", true)
  | 4 => ("SignTables$Table", "top", "I", false)
  | 5 => ("SignTables$Table", "lacking", "I", false)
  | _ => ("SignTables$Table", "great", "Z", false)
def tyX8 : Nat → FieldType := fun k => match k with
  | 0 => .array .long
  | 1 => .array .long
  | 2 => .array (.array .long)
  | 3 => .array .int
  | 4 => .int
  | 5 => .int
  | _ => .boolean
theorem nmX8 : ∀ a, a < 7 → ∀ b, b < 7 → a ≠ b → (TX8 a).2.1 ≠ (TX8 b).2.1 := by decide +kernel
theorem tyX8_ok : ∀ k, k < 7 → parseFieldDescriptor (TX8 k).2.2.1 = some (tyX8 k) := by decide +kernel
abbrev cX8_init : ByteArray := prog_10_method_1_code
def yX8_init : MethodName := ⟨RX8, "<init>", "()V"⟩
abbrev cX8_shape : ByteArray := prog_10_method_2_code
def yX8_shape : MethodName := ⟨RX8, "shape", "([JI)V"⟩
abbrev cX8_mirror : ByteArray := prog_10_method_3_code
def yX8_mirror : MethodName := ⟨RX8, "mirror", "()V"⟩
abbrev cX8_turn : ByteArray := prog_10_method_4_code
def yX8_turn : MethodName := ⟨RX8, "turn", "([JI)V"⟩
abbrev cX8_carry : ByteArray := prog_10_method_5_code
def yX8_carry : MethodName := ⟨RX8, "carry", "([JI)V"⟩
abbrev cX8_shift : ByteArray := prog_10_method_6_code
def yX8_shift : MethodName := ⟨RX8, "shift", "(II)V"⟩
abbrev cX8_build : ByteArray := prog_10_method_7_code
def yX8_build : MethodName := ⟨RX8, "build", "()V"⟩
abbrev cX8_takeRow : ByteArray := prog_10_method_8_code
def yX8_takeRow : MethodName := ⟨RX8, "takeRow", "(I)V"⟩
abbrev cX8_crossRow : ByteArray := prog_10_method_9_code
def yX8_crossRow : MethodName := ⟨RX8, "crossRow", "(I)V"⟩
abbrev cX8_mendRow : ByteArray := prog_10_method_10_code
def yX8_mendRow : MethodName := ⟨RX8, "mendRow", "(I)I"⟩
abbrev cX8_hasRow : ByteArray := prog_10_method_11_code
def yX8_hasRow : MethodName := ⟨RX8, "hasRow", "(I)Z"⟩
abbrev cX8_width : ByteArray := prog_10_method_12_code
def yX8_width : MethodName := ⟨RX8, "width", "(I)I"⟩
abbrev cX8_item : ByteArray := prog_10_method_13_code
def yX8_item : MethodName := ⟨RX8, "item", "(II)J"⟩
abbrev cX8_mending : ByteArray := prog_10_method_14_code
def yX8_mending : MethodName := ⟨RX8, "mending", "(I)I"⟩
abbrev cX8_signChanges : ByteArray := prog_10_method_15_code
def yX8_signChanges : MethodName := ⟨RX8, "signChanges", "(II)I"⟩
abbrev cX8_firstNothing : ByteArray := prog_10_method_16_code
def yX8_firstNothing : MethodName := ⟨RX8, "firstNothing", "()I"⟩
abbrev cX8_rightCount : ByteArray := prog_10_method_17_code
def yX8_rightCount : MethodName := ⟨RX8, "rightCount", "()I"⟩
abbrev cX8_axisCount : ByteArray := prog_10_method_18_code
def yX8_axisCount : MethodName := ⟨RX8, "axisCount", "()I"⟩
abbrev cX8_leftCount : ByteArray := prog_10_method_19_code
def yX8_leftCount : MethodName := ⟨RX8, "leftCount", "()I"⟩
def RX9 : String := "SignTables$Text"
def TX9 : u_T := fun k => match k with
  | 0 => ("SignTables$Text", "bytes", "[I", true)
  | 1 => ("SignTables$Text", "p", "[J", true)
  | 2 => ("SignTables$Text", "q", "[J", true)
  | 3 => ("SignTables$Text", "size", "I", false)
  | 4 => ("SignTables$Text", "terms", "I", false)
  | 5 => ("SignTables$Text", "fault", "I", false)
  | _ => ("SignTables$Text", "place", "I", false)
def tyX9 : Nat → FieldType := fun k => match k with
  | 0 => .array .int
  | 1 => .array .long
  | 2 => .array .long
  | 3 => .int
  | 4 => .int
  | 5 => .int
  | _ => .int
theorem nmX9 : ∀ a, a < 7 → ∀ b, b < 7 → a ≠ b → (TX9 a).2.1 ≠ (TX9 b).2.1 := by decide +kernel
theorem tyX9_ok : ∀ k, k < 7 → parseFieldDescriptor (TX9 k).2.2.1 = some (tyX9 k) := by decide +kernel
abbrev cX9_init : ByteArray := prog_11_method_1_code
def yX9_init : MethodName := ⟨RX9, "<init>", "()V"⟩
abbrev cX9_append : ByteArray := prog_11_method_2_code
def yX9_append : MethodName := ⟨RX9, "append", "(I)V"⟩
abbrev cX9_parse : ByteArray := prog_11_method_3_code
def yX9_parse : MethodName := ⟨RX9, "parse", "()V"⟩
abbrev cX9_takeGained : ByteArray := prog_11_method_4_code
def yX9_takeGained : MethodName := ⟨RX9, "takeGained", "()V"⟩
abbrev cX9_takeTerms : ByteArray := prog_11_method_5_code
def yX9_takeTerms : MethodName := ⟨RX9, "takeTerms", "([JZ)V"⟩
abbrev cX9_takeTerm : ByteArray := prog_11_method_6_code
def yX9_takeTerm : MethodName := ⟨RX9, "takeTerm", "([JI)V"⟩
abbrev cX9_takeNumber : ByteArray := prog_11_method_7_code
def yX9_takeNumber : MethodName := ⟨RX9, "takeNumber", "()I"⟩
abbrev cX9_takePower : ByteArray := prog_11_method_8_code
def yX9_takePower : MethodName := ⟨RX9, "takePower", "()I"⟩
abbrev cX9_expect : ByteArray := prog_11_method_9_code
def yX9_expect : MethodName := ⟨RX9, "expect", "(I)V"⟩
abbrev cX9_signAt : ByteArray := prog_11_method_10_code
def yX9_signAt : MethodName := ⟨RX9, "signAt", "(I)I"⟩
abbrev cX9_letterAt : ByteArray := prog_11_method_11_code
def yX9_letterAt : MethodName := ⟨RX9, "letterAt", "(I)I"⟩
def RX10 : String := "SignTables$Tray"
def TX10 : u_T := fun k => match k with
  | 0 => ("SignTables$Tray", "items", "[J", true)
  | 1 => ("SignTables$Tray", "sort", "I", false)
  | _ => ("SignTables$Tray", "size", "I", false)
def tyX10 : Nat → FieldType := fun k => match k with
  | 0 => .array .long
  | 1 => .int
  | _ => .int
theorem nmX10 : ∀ a, a < 3 → ∀ b, b < 3 → a ≠ b → (TX10 a).2.1 ≠ (TX10 b).2.1 := by decide +kernel
theorem tyX10_ok : ∀ k, k < 3 → parseFieldDescriptor (TX10 k).2.2.1 = some (tyX10 k) := by decide +kernel
abbrev cX10_init : ByteArray := prog_12_method_1_code
def yX10_init : MethodName := ⟨RX10, "<init>", "()V"⟩
abbrev cX10_become : ByteArray := prog_12_method_2_code
def yX10_become : MethodName := ⟨RX10, "become", "(II)V"⟩
abbrev cX10_isNothing : ByteArray := prog_12_method_3_code
def yX10_isNothing : MethodName := ⟨RX10, "isNothing", "()Z"⟩
abbrev cX10_hasPart : ByteArray := prog_12_method_4_code
def yX10_hasPart : MethodName := ⟨RX10, "hasPart", "(II)Z"⟩
abbrev cX10_store : ByteArray := prog_12_method_5_code
def yX10_store : MethodName := ⟨RX10, "store", "(IJ)V"⟩
def RX11 : String := "SignTables"
def TX11 : u_T := fun k => match k with
  | 0 => ("SignTables", "now", "LSignTables$Holdings;", true)
  | 1 => ("SignTables", "kept", "LSignTables$Holdings;", true)
  | 2 => ("SignTables", "imageTaken", "Z", false)
  | 3 => ("SignTables", "tape", "LSignTables$Text;", true)
  | 4 => ("SignTables", "textsRead", "I", false)
  | 5 => ("SignTables", "trays", "[LSignTables$Tray;", true)
  | 6 => ("SignTables", "table", "LSignTables$Table;", true)
  | 7 => ("SignTables", "chained", "LSignTables$Chain;", true)
  | 8 => ("SignTables", "steadiness", "LSignTables$Steadiness;", true)
  | 9 => ("SignTables", "lineSpans", "LSignTables$Spans;", true)
  | 10 => ("SignTables", "circleSpans", "LSignTables$Spans;", true)
  | 11 => ("SignTables", "rightsByGain", "LSignTables$Rights;", true)
  | _ => ("SignTables", "mixed", "[J", true)
def tyX11 : Nat → FieldType := fun k => match k with
  | 0 => .object "SignTables$Holdings"
  | 1 => .object "SignTables$Holdings"
  | 2 => .boolean
  | 3 => .object "SignTables$Text"
  | 4 => .int
  | 5 => .array (.object "SignTables$Tray")
  | 6 => .object "SignTables$Table"
  | 7 => .object "SignTables$Chain"
  | 8 => .object "SignTables$Steadiness"
  | 9 => .object "SignTables$Spans"
  | 10 => .object "SignTables$Spans"
  | 11 => .object "SignTables$Rights"
  | _ => .array .long
theorem nmX11 : ∀ a, a < 13 → ∀ b, b < 13 → a ≠ b → (TX11 a).2.1 ≠ (TX11 b).2.1 := by decide +kernel
theorem tyX11_ok : ∀ k, k < 13 → parseFieldDescriptor (TX11 k).2.2.1 = some (tyX11 k) := by decide +kernel
abbrev cX11_init : ByteArray := prog_1_method_1_code
def yX11_init : MethodName := ⟨RX11, "<init>", "()V"⟩
abbrev cX11_set : ByteArray := prog_1_method_2_code
def yX11_set : MethodName := ⟨RX11, "set", "(III)J"⟩
abbrev cX11_of : ByteArray := prog_1_method_3_code
def yX11_of : MethodName := ⟨RX11, "of", "(II)J"⟩
abbrev cX11_gain : ByteArray := prog_1_method_4_code
def yX11_gain : MethodName := ⟨RX11, "gain", "(I)I"⟩
abbrev cX11_feed : ByteArray := prog_1_method_5_code
def yX11_feed : MethodName := ⟨RX11, "feed", "(I)I"⟩
abbrev cX11_read : ByteArray := prog_1_method_6_code
def yX11_read : MethodName := ⟨RX11, "read", "()I"⟩
abbrev cX11_form : ByteArray := prog_1_method_7_code
def yX11_form : MethodName := ⟨RX11, "form", "(II)J"⟩
abbrev cX11_degree : ByteArray := prog_1_method_8_code
def yX11_degree : MethodName := ⟨RX11, "degree", "(II)I"⟩
abbrev cX11_row : ByteArray := prog_1_method_9_code
def yX11_row : MethodName := ⟨RX11, "row", "(III)J"⟩
abbrev cX11_caseOf : ByteArray := prog_1_method_10_code
def yX11_caseOf : MethodName := ⟨RX11, "caseOf", "(II)I"⟩
abbrev cX11_roots : ByteArray := prog_1_method_11_code
def yX11_roots : MethodName := ⟨RX11, "roots", "(II)I"⟩
abbrev cX11_changes : ByteArray := prog_1_method_12_code
def yX11_changes : MethodName := ⟨RX11, "changes", "(III)I"⟩
abbrev cX11_strip : ByteArray := prog_1_method_13_code
def yX11_strip : MethodName := ⟨RX11, "strip", "(II)I"⟩
abbrev cX11_reach : ByteArray := prog_1_method_14_code
def yX11_reach : MethodName := ⟨RX11, "reach", "()I"⟩
abbrev cX11_steady : ByteArray := prog_1_method_15_code
def yX11_steady : MethodName := ⟨RX11, "steady", "(III)I"⟩
abbrev cX11_spans : ByteArray := prog_1_method_16_code
def yX11_spans : MethodName := ⟨RX11, "spans", "(I)I"⟩
abbrev cX11_span : ByteArray := prog_1_method_17_code
def yX11_span : MethodName := ⟨RX11, "span", "(III)I"⟩
abbrev cX11_nearest : ByteArray := prog_1_method_18_code
def yX11_nearest : MethodName := ⟨RX11, "nearest", "(II)I"⟩
abbrev cX11_links : ByteArray := prog_1_method_19_code
def yX11_links : MethodName := ⟨RX11, "links", "()I"⟩
abbrev cX11_link : ByteArray := prog_1_method_20_code
def yX11_link : MethodName := ⟨RX11, "link", "(II)J"⟩
abbrev cX11_chain : ByteArray := prog_1_method_21_code
def yX11_chain : MethodName := ⟨RX11, "chain", "(I)I"⟩
abbrev cX11_real : ByteArray := prog_1_method_22_code
def yX11_real : MethodName := ⟨RX11, "real", "(II)I"⟩
abbrev cX11_await : ByteArray := prog_1_method_23_code
def yX11_await : MethodName := ⟨RX11, "await", "(I)I"⟩
abbrev cX11_next : ByteArray := prog_1_method_24_code
def yX11_next : MethodName := ⟨RX11, "next", "()I"⟩
abbrev cX11_waiting : ByteArray := prog_1_method_25_code
def yX11_waiting : MethodName := ⟨RX11, "waiting", "(I)I"⟩
abbrev cX11_weed : ByteArray := prog_1_method_26_code
def yX11_weed : MethodName := ⟨RX11, "weed", "(II)I"⟩
abbrev cX11_swap : ByteArray := prog_1_method_27_code
def yX11_swap : MethodName := ⟨RX11, "swap", "(I)I"⟩
abbrev cX11_factor : ByteArray := prog_1_method_28_code
def yX11_factor : MethodName := ⟨RX11, "factor", "(III)I"⟩
abbrev cX11_factored : ByteArray := prog_1_method_29_code
def yX11_factored : MethodName := ⟨RX11, "factored", "(II)I"⟩
abbrev cX11_unfactor : ByteArray := prog_1_method_30_code
def yX11_unfactor : MethodName := ⟨RX11, "unfactor", "(I)I"⟩
abbrev cX11_known : ByteArray := prog_1_method_31_code
def yX11_known : MethodName := ⟨RX11, "known", "(I)I"⟩
abbrev cX11_multiply : ByteArray := prog_1_method_32_code
def yX11_multiply : MethodName := ⟨RX11, "multiply", "()I"⟩
abbrev cX11_rights : ByteArray := prog_1_method_33_code
def yX11_rights : MethodName := ⟨RX11, "rights", "(I)I"⟩
abbrev cX11_jumps : ByteArray := prog_1_method_34_code
def yX11_jumps : MethodName := ⟨RX11, "jumps", "()I"⟩
abbrev cX11_jump : ByteArray := prog_1_method_35_code
def yX11_jump : MethodName := ⟨RX11, "jump", "(I)I"⟩
abbrev cX11_best : ByteArray := prog_1_method_36_code
def yX11_best : MethodName := ⟨RX11, "best", "()I"⟩
abbrev cX11_tray : ByteArray := prog_1_method_37_code
def yX11_tray : MethodName := ⟨RX11, "tray", "(III)I"⟩
abbrev cX11_put : ByteArray := prog_1_method_38_code
def yX11_put : MethodName := ⟨RX11, "put", "(IIJ)I"⟩
abbrev cX11_get : ByteArray := prog_1_method_39_code
def yX11_get : MethodName := ⟨RX11, "get", "(II)J"⟩
abbrev cX11_fill : ByteArray := prog_1_method_40_code
def yX11_fill : MethodName := ⟨RX11, "fill", "(III)I"⟩
abbrev cX11_judge : ByteArray := prog_1_method_41_code
def yX11_judge : MethodName := ⟨RX11, "judge", "(III)I"⟩
abbrev cX11_copy : ByteArray := prog_1_method_42_code
def yX11_copy : MethodName := ⟨RX11, "copy", "(IIIII)I"⟩
abbrev cX11_count : ByteArray := prog_1_method_43_code
def yX11_count : MethodName := ⟨RX11, "count", "(I)I"⟩
abbrev cX11_image : ByteArray := prog_1_method_44_code
def yX11_image : MethodName := ⟨RX11, "image", "()I"⟩
abbrev cX11_undo : ByteArray := prog_1_method_45_code
def yX11_undo : MethodName := ⟨RX11, "undo", "()I"⟩
abbrev cX11_isWithin : ByteArray := prog_1_method_46_code
def yX11_isWithin : MethodName := ⟨RX11, "isWithin", "(II)Z"⟩
abbrev cX11_isPower : ByteArray := prog_1_method_47_code
def yX11_isPower : MethodName := ⟨RX11, "isPower", "(I)Z"⟩
abbrev cX11_isKind : ByteArray := prog_1_method_48_code
def yX11_isKind : MethodName := ⟨RX11, "isKind", "(I)Z"⟩
abbrev cX11_isTray : ByteArray := prog_1_method_49_code
def yX11_isTray : MethodName := ⟨RX11, "isTray", "(I)Z"⟩
abbrev cX11_isForm : ByteArray := prog_1_method_50_code
def yX11_isForm : MethodName := ⟨RX11, "isForm", "(I)Z"⟩
abbrev cX11_currentC : ByteArray := prog_1_method_51_code
def yX11_currentC : MethodName := ⟨RX11, "currentC", "()[J"⟩
abbrev cX11_tableOf : ByteArray := prog_1_method_52_code
def yX11_tableOf : MethodName := ⟨RX11, "tableOf", "(I)LSignTables$Table;"⟩
abbrev cX11_spansOf : ByteArray := prog_1_method_53_code
def yX11_spansOf : MethodName := ⟨RX11, "spansOf", "(I)LSignTables$Spans;"⟩
abbrev cX11_forgetSurveys : ByteArray := prog_1_method_54_code
def yX11_forgetSurveys : MethodName := ⟨RX11, "forgetSurveys", "()V"⟩
abbrev cX11_refusalOfRow : ByteArray := prog_1_method_55_code
def yX11_refusalOfRow : MethodName := ⟨RX11, "refusalOfRow", "(III)I"⟩
def RX12 : String := "SignTablesModel"
def TX12 : u_T := fun k => match k with
  | 0 => ("SignTablesModel", "g", "[I", true)
  | 1 => ("SignTablesModel", "kept", "[I", true)
  | 2 => ("SignTablesModel", "isKept", "Z", false)
  | 3 => ("SignTablesModel", "texts", "I", false)
  | 4 => ("SignTablesModel", "isGreat", "Z", false)
  | 5 => ("SignTablesModel", "c", "[J", true)
  | 6 => ("SignTablesModel", "f", "[J", true)
  | 7 => ("SignTablesModel", "part", "[J", true)
  | 8 => ("SignTablesModel", "n", "I", false)
  | 9 => ("SignTablesModel", "m", "I", false)
  | 10 => ("SignTablesModel", "lacking", "I", false)
  | 11 => ("SignTablesModel", "items", "[J", true)
  | 12 => ("SignTablesModel", "were", "[J", true)
  | 13 => ("SignTablesModel", "cases", "[I", true)
  | 14 => ("SignTablesModel", "firsts", "[I", true)
  | 15 => ("SignTablesModel", "lasts", "[I", true)
  | 16 => ("SignTablesModel", "spanMany", "I", false)
  | 17 => ("SignTablesModel", "links", "[J", true)
  | 18 => ("SignTablesModel", "left", "[J", true)
  | 19 => ("SignTablesModel", "linkMany", "I", false)
  | 20 => ("SignTablesModel", "tape", "[I", true)
  | 21 => ("SignTablesModel", "told", "[I", true)
  | 22 => ("SignTablesModel", "fed", "I", false)
  | 23 => ("SignTablesModel", "at", "I", false)
  | 24 => ("SignTablesModel", "fault", "I", false)
  | 25 => ("SignTablesModel", "terms", "I", false)
  | 26 => ("SignTablesModel", "sorts", "[I", true)
  | 27 => ("SignTablesModel", "sizes", "[I", true)
  | 28 => ("SignTablesModel", "trays", "[J", true)
  | 29 => ("SignTablesModel", "aside", "[J", true)
  | 30 => ("SignTablesModel", "jumpMany", "I", false)
  | _ => ("SignTablesModel", "jumpAt", "I", false)
def tyX12 : Nat → FieldType := fun k => match k with
  | 0 => .array .int
  | 1 => .array .int
  | 2 => .boolean
  | 3 => .int
  | 4 => .boolean
  | 5 => .array .long
  | 6 => .array .long
  | 7 => .array .long
  | 8 => .int
  | 9 => .int
  | 10 => .int
  | 11 => .array .long
  | 12 => .array .long
  | 13 => .array .int
  | 14 => .array .int
  | 15 => .array .int
  | 16 => .int
  | 17 => .array .long
  | 18 => .array .long
  | 19 => .int
  | 20 => .array .int
  | 21 => .array .int
  | 22 => .int
  | 23 => .int
  | 24 => .int
  | 25 => .int
  | 26 => .array .int
  | 27 => .array .int
  | 28 => .array .long
  | 29 => .array .long
  | 30 => .int
  | _ => .int
theorem nmX12 : ∀ a, a < 32 → ∀ b, b < 32 → a ≠ b → (TX12 a).2.1 ≠ (TX12 b).2.1 := by decide +kernel
theorem tyX12_ok : ∀ k, k < 32 → parseFieldDescriptor (TX12 k).2.2.1 = some (tyX12 k) := by decide +kernel
abbrev cX12_init : ByteArray := prog_14_method_1_code
def yX12_init : MethodName := ⟨RX12, "<init>", "()V"⟩
abbrev cX12_in : ByteArray := prog_14_method_2_code
def yX12_in : MethodName := ⟨RX12, "in", "(JJJ)Z"⟩
abbrev cX12_times : ByteArray := prog_14_method_3_code
def yX12_times : MethodName := ⟨RX12, "times", "(JJ)J"⟩
abbrev cX12_plus : ByteArray := prog_14_method_4_code
def yX12_plus : MethodName := ⟨RX12, "plus", "(JJ)J"⟩
abbrev cX12_turned : ByteArray := prog_14_method_5_code
def yX12_turned : MethodName := ⟨RX12, "turned", "(J)J"⟩
abbrev cX12_less : ByteArray := prog_14_method_6_code
def yX12_less : MethodName := ⟨RX12, "less", "(JJ)J"⟩
abbrev cX12_common : ByteArray := prog_14_method_7_code
def yX12_common : MethodName := ⟨RX12, "common", "(JJ)J"⟩
abbrev cX12_degreeOf : ByteArray := prog_14_method_8_code
def yX12_degreeOf : MethodName := ⟨RX12, "degreeOf", "([J)I"⟩
abbrev cX12_takes : ByteArray := prog_14_method_9_code
def yX12_takes : MethodName := ⟨RX12, "takes", "(II)V"⟩
abbrev cX12_isPower : ByteArray := prog_14_method_10_code
def yX12_isPower : MethodName := ⟨RX12, "isPower", "(I)Z"⟩
abbrev cX12_set : ByteArray := prog_14_method_11_code
def yX12_set : MethodName := ⟨RX12, "set", "(III)J"⟩
abbrev cX12_of : ByteArray := prog_14_method_12_code
def yX12_of : MethodName := ⟨RX12, "of", "(II)J"⟩
abbrev cX12_gain : ByteArray := prog_14_method_13_code
def yX12_gain : MethodName := ⟨RX12, "gain", "(I)I"⟩
abbrev cX12_isForm : ByteArray := prog_14_method_14_code
def yX12_isForm : MethodName := ⟨RX12, "isForm", "(I)Z"⟩
abbrev cX12_wider : ByteArray := prog_14_method_15_code
def yX12_wider : MethodName := ⟨RX12, "wider", "(I)V"⟩
abbrev cX12_circles : ByteArray := prog_14_method_16_code
def yX12_circles : MethodName := ⟨RX12, "circles", "()V"⟩
abbrev cX12_shifts : ByteArray := prog_14_method_17_code
def yX12_shifts : MethodName := ⟨RX12, "shifts", "(I)V"⟩
abbrev cX12_forms : ByteArray := prog_14_method_18_code
def yX12_forms : MethodName := ⟨RX12, "forms", "(I)V"⟩
abbrev cX12_laysForm : ByteArray := prog_14_method_19_code
def yX12_laysForm : MethodName := ⟨RX12, "laysForm", "(I)V"⟩
abbrev cX12_form : ByteArray := prog_14_method_20_code
def yX12_form : MethodName := ⟨RX12, "form", "(II)J"⟩
abbrev cX12_degree : ByteArray := prog_14_method_21_code
def yX12_degree : MethodName := ⟨RX12, "degree", "(II)I"⟩
abbrev cX12_itemMany : ByteArray := prog_14_method_22_code
def yX12_itemMany : MethodName := ⟨RX12, "itemMany", "(I)I"⟩
abbrev cX12_item : ByteArray := prog_14_method_23_code
def yX12_item : MethodName := ⟨RX12, "item", "(II)J"⟩
abbrev cX12_firstNot : ByteArray := prog_14_method_24_code
def yX12_firstNot : MethodName := ⟨RX12, "firstNot", "(I)I"⟩
abbrev cX12_mends : ByteArray := prog_14_method_25_code
def yX12_mends : MethodName := ⟨RX12, "mends", "(I)V"⟩
abbrev cX12_works : ByteArray := prog_14_method_26_code
def yX12_works : MethodName := ⟨RX12, "works", "(I)V"⟩
abbrev cX12_laysRows : ByteArray := prog_14_method_27_code
def yX12_laysRows : MethodName := ⟨RX12, "laysRows", "()V"⟩
abbrev cX12_laysRowsOf : ByteArray := prog_14_method_28_code
def yX12_laysRowsOf : MethodName := ⟨RX12, "laysRowsOf", "(I)V"⟩
abbrev cX12_isRow : ByteArray := prog_14_method_29_code
def yX12_isRow : MethodName := ⟨RX12, "isRow", "(I)Z"⟩
abbrev cX12_row : ByteArray := prog_14_method_30_code
def yX12_row : MethodName := ⟨RX12, "row", "(III)J"⟩
abbrev cX12_caseOf : ByteArray := prog_14_method_31_code
def yX12_caseOf : MethodName := ⟨RX12, "caseOf", "(II)I"⟩
abbrev cX12_changesIn : ByteArray := prog_14_method_32_code
def yX12_changesIn : MethodName := ⟨RX12, "changesIn", "(II)I"⟩
abbrev cX12_firstCase : ByteArray := prog_14_method_33_code
def yX12_firstCase : MethodName := ⟨RX12, "firstCase", "()I"⟩
abbrev cX12_right : ByteArray := prog_14_method_34_code
def yX12_right : MethodName := ⟨RX12, "right", "()I"⟩
abbrev cX12_axis : ByteArray := prog_14_method_35_code
def yX12_axis : MethodName := ⟨RX12, "axis", "()I"⟩
abbrev cX12_left : ByteArray := prog_14_method_36_code
def yX12_left : MethodName := ⟨RX12, "left", "()I"⟩
abbrev cX12_roots : ByteArray := prog_14_method_37_code
def yX12_roots : MethodName := ⟨RX12, "roots", "(II)I"⟩
abbrev cX12_changes : ByteArray := prog_14_method_38_code
def yX12_changes : MethodName := ⟨RX12, "changes", "(III)I"⟩
abbrev cX12_isFar : ByteArray := prog_14_method_39_code
def yX12_isFar : MethodName := ⟨RX12, "isFar", "(I)Z"⟩
abbrev cX12_strip : ByteArray := prog_14_method_40_code
def yX12_strip : MethodName := ⟨RX12, "strip", "(II)I"⟩
abbrev cX12_reach : ByteArray := prog_14_method_41_code
def yX12_reach : MethodName := ⟨RX12, "reach", "()I"⟩
abbrev cX12_isSteady : ByteArray := prog_14_method_42_code
def yX12_isSteady : MethodName := ⟨RX12, "isSteady", "(III)Z"⟩
abbrev cX12_isKind : ByteArray := prog_14_method_43_code
def yX12_isKind : MethodName := ⟨RX12, "isKind", "(I)Z"⟩
abbrev cX12_steady : ByteArray := prog_14_method_44_code
def yX12_steady : MethodName := ⟨RX12, "steady", "(III)I"⟩
abbrev cX12_laysSpans : ByteArray := prog_14_method_45_code
def yX12_laysSpans : MethodName := ⟨RX12, "laysSpans", "(I)V"⟩
abbrev cX12_spans : ByteArray := prog_14_method_46_code
def yX12_spans : MethodName := ⟨RX12, "spans", "(I)I"⟩
abbrev cX12_lastEdge : ByteArray := prog_14_method_47_code
def yX12_lastEdge : MethodName := ⟨RX12, "lastEdge", "(II)I"⟩
abbrev cX12_firstEdge : ByteArray := prog_14_method_48_code
def yX12_firstEdge : MethodName := ⟨RX12, "firstEdge", "(II)I"⟩
abbrev cX12_span : ByteArray := prog_14_method_49_code
def yX12_span : MethodName := ⟨RX12, "span", "(III)I"⟩
abbrev cX12_nearest : ByteArray := prog_14_method_50_code
def yX12_nearest : MethodName := ⟨RX12, "nearest", "(II)I"⟩
abbrev cX12_degreeOfLink : ByteArray := prog_14_method_51_code
def yX12_degreeOfLink : MethodName := ⟨RX12, "degreeOfLink", "(I)I"⟩
abbrev cX12_dividesLink : ByteArray := prog_14_method_52_code
def yX12_dividesLink : MethodName := ⟨RX12, "dividesLink", "(I)V"⟩
abbrev cX12_goesOn : ByteArray := prog_14_method_53_code
def yX12_goesOn : MethodName := ⟨RX12, "goesOn", "()Z"⟩
abbrev cX12_laysChain : ByteArray := prog_14_method_54_code
def yX12_laysChain : MethodName := ⟨RX12, "laysChain", "()I"⟩
abbrev cX12_links : ByteArray := prog_14_method_55_code
def yX12_links : MethodName := ⟨RX12, "links", "()I"⟩
abbrev cX12_link : ByteArray := prog_14_method_56_code
def yX12_link : MethodName := ⟨RX12, "link", "(II)J"⟩
abbrev cX12_valueAt : ByteArray := prog_14_method_57_code
def yX12_valueAt : MethodName := ⟨RX12, "valueAt", "(II)J"⟩
abbrev cX12_changesAt : ByteArray := prog_14_method_58_code
def yX12_changesAt : MethodName := ⟨RX12, "changesAt", "(I)I"⟩
abbrev cX12_chain : ByteArray := prog_14_method_59_code
def yX12_chain : MethodName := ⟨RX12, "chain", "(I)I"⟩
abbrev cX12_real : ByteArray := prog_14_method_60_code
def yX12_real : MethodName := ⟨RX12, "real", "(II)I"⟩
abbrev cX12_feed : ByteArray := prog_14_method_61_code
def yX12_feed : MethodName := ⟨RX12, "feed", "(I)I"⟩
abbrev cX12_here : ByteArray := prog_14_method_62_code
def yX12_here : MethodName := ⟨RX12, "here", "()I"⟩
abbrev cX12_isDigit : ByteArray := prog_14_method_63_code
def yX12_isDigit : MethodName := ⟨RX12, "isDigit", "()Z"⟩
abbrev cX12_isSign : ByteArray := prog_14_method_64_code
def yX12_isSign : MethodName := ⟨RX12, "isSign", "()Z"⟩
abbrev cX12_term : ByteArray := prog_14_method_65_code
def yX12_term : MethodName := ⟨RX12, "term", "(IZ)V"⟩
abbrev cX12_terms : ByteArray := prog_14_method_66_code
def yX12_terms : MethodName := ⟨RX12, "terms", "(I)V"⟩
abbrev cX12_must : ByteArray := prog_14_method_67_code
def yX12_must : MethodName := ⟨RX12, "must", "(I)V"⟩
abbrev cX12_read : ByteArray := prog_14_method_68_code
def yX12_read : MethodName := ⟨RX12, "read", "()I"⟩
abbrev cX12_await : ByteArray := prog_14_method_69_code
def yX12_await : MethodName := ⟨RX12, "await", "(I)I"⟩
abbrev cX12_leaves : ByteArray := prog_14_method_70_code
def yX12_leaves : MethodName := ⟨RX12, "leaves", "(I)V"⟩
abbrev cX12_next : ByteArray := prog_14_method_71_code
def yX12_next : MethodName := ⟨RX12, "next", "()I"⟩
abbrev cX12_waiting : ByteArray := prog_14_method_72_code
def yX12_waiting : MethodName := ⟨RX12, "waiting", "(I)I"⟩
abbrev cX12_isTwice : ByteArray := prog_14_method_73_code
def yX12_isTwice : MethodName := ⟨RX12, "isTwice", "(I)Z"⟩
abbrev cX12_weed : ByteArray := prog_14_method_74_code
def yX12_weed : MethodName := ⟨RX12, "weed", "(II)I"⟩
abbrev cX12_exchanges : ByteArray := prog_14_method_75_code
def yX12_exchanges : MethodName := ⟨RX12, "exchanges", "(II)V"⟩
abbrev cX12_swap : ByteArray := prog_14_method_76_code
def yX12_swap : MethodName := ⟨RX12, "swap", "(I)I"⟩
abbrev cX12_isTray : ByteArray := prog_14_method_77_code
def yX12_isTray : MethodName := ⟨RX12, "isTray", "(I)Z"⟩
abbrev cX12_tray : ByteArray := prog_14_method_78_code
def yX12_tray : MethodName := ⟨RX12, "tray", "(III)I"⟩
abbrev cX12_lays : ByteArray := prog_14_method_79_code
def yX12_lays : MethodName := ⟨RX12, "lays", "(IIJ)V"⟩
abbrev cX12_put : ByteArray := prog_14_method_80_code
def yX12_put : MethodName := ⟨RX12, "put", "(IIJ)I"⟩
abbrev cX12_get : ByteArray := prog_14_method_81_code
def yX12_get : MethodName := ⟨RX12, "get", "(II)J"⟩
abbrev cX12_wrongRow : ByteArray := prog_14_method_82_code
def yX12_wrongRow : MethodName := ⟨RX12, "wrongRow", "(III)I"⟩
abbrev cX12_fill : ByteArray := prog_14_method_83_code
def yX12_fill : MethodName := ⟨RX12, "fill", "(III)I"⟩
abbrev cX12_judge : ByteArray := prog_14_method_84_code
def yX12_judge : MethodName := ⟨RX12, "judge", "(III)I"⟩
abbrev cX12_copy : ByteArray := prog_14_method_85_code
def yX12_copy : MethodName := ⟨RX12, "copy", "(IIIII)I"⟩
abbrev cX12_count : ByteArray := prog_14_method_86_code
def yX12_count : MethodName := ⟨RX12, "count", "(I)I"⟩
abbrev cX12_isFactor : ByteArray := prog_14_method_87_code
def yX12_isFactor : MethodName := ⟨RX12, "isFactor", "(I)Z"⟩
abbrev cX12_factor : ByteArray := prog_14_method_88_code
def yX12_factor : MethodName := ⟨RX12, "factor", "(III)I"⟩
abbrev cX12_unfactor : ByteArray := prog_14_method_89_code
def yX12_unfactor : MethodName := ⟨RX12, "unfactor", "(I)I"⟩
abbrev cX12_sizeOf : ByteArray := prog_14_method_90_code
def yX12_sizeOf : MethodName := ⟨RX12, "sizeOf", "(I)I"⟩
abbrev cX12_knownOf : ByteArray := prog_14_method_91_code
def yX12_knownOf : MethodName := ⟨RX12, "knownOf", "(II)I"⟩
abbrev cX12_knownAll : ByteArray := prog_14_method_92_code
def yX12_knownAll : MethodName := ⟨RX12, "knownAll", "(I)I"⟩
abbrev cX12_known : ByteArray := prog_14_method_93_code
def yX12_known : MethodName := ⟨RX12, "known", "(I)I"⟩
abbrev cX12_isDivided : ByteArray := prog_14_method_94_code
def yX12_isDivided : MethodName := ⟨RX12, "isDivided", "(I)Z"⟩
abbrev cX12_factored : ByteArray := prog_14_method_95_code
def yX12_factored : MethodName := ⟨RX12, "factored", "(II)I"⟩
abbrev cX12_multiply : ByteArray := prog_14_method_96_code
def yX12_multiply : MethodName := ⟨RX12, "multiply", "()I"⟩
abbrev cX12_rightsAt : ByteArray := prog_14_method_97_code
def yX12_rightsAt : MethodName := ⟨RX12, "rightsAt", "(I)I"⟩
abbrev cX12_rights : ByteArray := prog_14_method_98_code
def yX12_rights : MethodName := ⟨RX12, "rights", "(I)I"⟩
abbrev cX12_findsJump : ByteArray := prog_14_method_99_code
def yX12_findsJump : MethodName := ⟨RX12, "findsJump", "(I)V"⟩
abbrev cX12_jumps : ByteArray := prog_14_method_100_code
def yX12_jumps : MethodName := ⟨RX12, "jumps", "()I"⟩
abbrev cX12_jump : ByteArray := prog_14_method_101_code
def yX12_jump : MethodName := ⟨RX12, "jump", "(I)I"⟩
abbrev cX12_best : ByteArray := prog_14_method_102_code
def yX12_best : MethodName := ⟨RX12, "best", "()I"⟩
abbrev cX12_copies : ByteArray := prog_14_method_103_code
def yX12_copies : MethodName := ⟨RX12, "copies", "([I[I)V"⟩
abbrev cX12_image : ByteArray := prog_14_method_104_code
def yX12_image : MethodName := ⟨RX12, "image", "()I"⟩
abbrev cX12_undo : ByteArray := prog_14_method_105_code
def yX12_undo : MethodName := ⟨RX12, "undo", "()I"⟩
def RJ9 : String := "java/lang/Math"
def TJ9 : u_T := fun k => match k with
  | _ => ("", "", "", false)
def tyJ9 : Nat → FieldType := fun k => match k with
  | _ => .int
abbrev cJ9_abs_0f7a4 : ByteArray := prog_15_method_59_code
def yJ9_abs_0f7a4 : MethodName := ⟨RJ9, "abs", "(I)I"⟩
abbrev cJ9_abs_067f4 : ByteArray := prog_15_method_61_code
def yJ9_abs_067f4 : MethodName := ⟨RJ9, "abs", "(J)J"⟩
abbrev cJ9_max_7cf53 : ByteArray := prog_15_method_65_code
def yJ9_max_7cf53 : MethodName := ⟨RJ9, "max", "(II)I"⟩
abbrev cJ9_min_7cf53 : ByteArray := prog_15_method_69_code
def yJ9_min_7cf53 : MethodName := ⟨RJ9, "min", "(II)I"⟩
def RJ10 : String := "java/lang/System"
def TJ10 : u_T := fun k => match k with
  | _ => ("", "", "", false)
def tyJ10 : Nat → FieldType := fun k => match k with
  | _ => .int
def RL : String := "SignTablesLaw"
abbrev cL_law : ByteArray := code
def yL_law : MethodName := ⟨RL, "law", "([I)Z"⟩
abbrev vwCl : List vw_C := [(RX0, TX0, 4), (RX2, TX2, 3), (RX3, TX3, 7), (RX5, TX5, 4), (RX6, TX6, 5), (RX7, TX7, 2), (RX8, TX8, 7), (RX9, TX9, 7), (RX10, TX10, 3), (RX11, TX11, 13), (RX12, TX12, 32)]
end
section
theorem dX0_init_0 : decode cX0_init 0 = .ok (.aload_n 0, 1) := by decide +kernel
theorem dX0_init_1 : decode cX0_init 1 = .ok (.invokespecial 3, 3) := by decide +kernel
theorem dX0_init_4 : decode cX0_init 4 = .ok (.aload_n 0, 1) := by decide +kernel
theorem dX0_init_5 : decode cX0_init 5 = .ok (.bipush 7, 2) := by decide +kernel
theorem dX0_init_7 : decode cX0_init 7 = .ok (.bipush 7, 2) := by decide +kernel
theorem dX0_init_9 : decode cX0_init 9 = .ok (.multianewarray 9 2, 4) := by decide +kernel
theorem dX0_init_13 : decode cX0_init 13 = .ok (.putfield 11, 3) := by decide +kernel
theorem dX0_init_16 : decode cX0_init 16 = .ok (.aload_n 0, 1) := by decide +kernel
theorem dX0_init_17 : decode cX0_init 17 = .ok (.bipush 7, 2) := by decide +kernel
theorem dX0_init_19 : decode cX0_init 19 = .ok (.newarray .long, 2) := by decide +kernel
theorem dX0_init_21 : decode cX0_init 21 = .ok (.putfield 16, 3) := by decide +kernel
theorem dX0_init_24 : decode cX0_init 24 = .ok (.return_, 1) := by decide +kernel
theorem dX0_build_0 : decode cX0_build 0 = .ok (.aload_n 0, 1) := by decide +kernel
theorem dX0_build_1 : decode cX0_build 1 = .ok (.iconst 0, 1) := by decide +kernel
theorem dX0_build_2 : decode cX0_build 2 = .ok (.putfield 20, 3) := by decide +kernel
theorem dX0_build_5 : decode cX0_build 5 = .ok (.aload_n 0, 1) := by decide +kernel
theorem dX0_build_6 : decode cX0_build 6 = .ok (.iconst 0, 1) := by decide +kernel
theorem dX0_build_7 : decode cX0_build 7 = .ok (.putfield 24, 3) := by decide +kernel
theorem dX0_build_10 : decode cX0_build 10 = .ok (.aload_n 1, 1) := by decide +kernel
theorem dX0_build_11 : decode cX0_build 11 = .ok (.invokestatic 28, 3) := by decide +kernel
theorem dX0_build_14 : decode cX0_build 14 = .ok (.iconst 1, 1) := by decide +kernel
theorem dX0_build_15 : decode cX0_build 15 = .ok (.if_icmp .ge 5, 3) := by decide +kernel
theorem dX0_build_18 : decode cX0_build 18 = .ok (.iconst 0, 1) := by decide +kernel
theorem dX0_build_19 : decode cX0_build 19 = .ok (.ireturn, 1) := by decide +kernel
theorem dX0_build_20 : decode cX0_build 20 = .ok (.aload_n 0, 1) := by decide +kernel
theorem dX0_build_21 : decode cX0_build 21 = .ok (.aload_n 1, 1) := by decide +kernel
theorem dX0_build_22 : decode cX0_build 22 = .ok (.iconst 1, 1) := by decide +kernel
theorem dX0_build_23 : decode cX0_build 23 = .ok (.invokevirtual 34, 3) := by decide +kernel
theorem dX0_build_26 : decode cX0_build 26 = .ok (.iconst 0, 1) := by decide +kernel
theorem dX0_build_27 : decode cX0_build 27 = .ok (.istore_n 2, 1) := by decide +kernel
theorem dX0_build_28 : decode cX0_build 28 = .ok (.iload_n 2, 1) := by decide +kernel
theorem dX0_build_29 : decode cX0_build 29 = .ok (.bipush 7, 2) := by decide +kernel
theorem dX0_build_31 : decode cX0_build 31 = .ok (.if_icmp .ge 37, 3) := by decide +kernel
theorem dX0_build_34 : decode cX0_build 34 = .ok (.aload_n 0, 1) := by decide +kernel
theorem dX0_build_35 : decode cX0_build 35 = .ok (.getfield 16, 3) := by decide +kernel
theorem dX0_build_38 : decode cX0_build 38 = .ok (.iload_n 2, 1) := by decide +kernel
theorem dX0_build_39 : decode cX0_build 39 = .ok (.iload_n 2, 1) := by decide +kernel
theorem dX0_build_40 : decode cX0_build 40 = .ok (.iconst 1, 1) := by decide +kernel
theorem dX0_build_41 : decode cX0_build 41 = .ok (.iadd, 1) := by decide +kernel
theorem dX0_build_42 : decode cX0_build 42 = .ok (.bipush 7, 2) := by decide +kernel
theorem dX0_build_44 : decode cX0_build 44 = .ok (.if_icmp .ge 16, 3) := by decide +kernel
theorem dX0_build_47 : decode cX0_build 47 = .ok (.iload_n 2, 1) := by decide +kernel
theorem dX0_build_48 : decode cX0_build 48 = .ok (.iconst 1, 1) := by decide +kernel
theorem dX0_build_49 : decode cX0_build 49 = .ok (.iadd, 1) := by decide +kernel
theorem dX0_build_50 : decode cX0_build 50 = .ok (.i2l, 1) := by decide +kernel
theorem dX0_build_51 : decode cX0_build 51 = .ok (.aload_n 1, 1) := by decide +kernel
theorem dX0_build_52 : decode cX0_build 52 = .ok (.iload_n 2, 1) := by decide +kernel
theorem dX0_build_53 : decode cX0_build 53 = .ok (.iconst 1, 1) := by decide +kernel
theorem dX0_build_54 : decode cX0_build 54 = .ok (.iadd, 1) := by decide +kernel
theorem dX0_build_55 : decode cX0_build 55 = .ok (.laload, 1) := by decide +kernel
theorem dX0_build_56 : decode cX0_build 56 = .ok (.lmul, 1) := by decide +kernel
theorem dX0_build_57 : decode cX0_build 57 = .ok (.goto 4, 3) := by decide +kernel
theorem dX0_build_60 : decode cX0_build 60 = .ok (.lconst 0, 1) := by decide +kernel
theorem dX0_build_61 : decode cX0_build 61 = .ok (.lastore, 1) := by decide +kernel
theorem dX0_build_62 : decode cX0_build 62 = .ok (.iinc 2 1, 3) := by decide +kernel
theorem dX0_build_65 : decode cX0_build 65 = .ok (.goto (-37), 3) := by decide +kernel
theorem dX0_build_68 : decode cX0_build 68 = .ok (.aload_n 0, 1) := by decide +kernel
theorem dX0_build_69 : decode cX0_build 69 = .ok (.aload_n 0, 1) := by decide +kernel
theorem dX0_build_70 : decode cX0_build 70 = .ok (.getfield 16, 3) := by decide +kernel
theorem dX0_build_73 : decode cX0_build 73 = .ok (.iconst 1, 1) := by decide +kernel
theorem dX0_build_74 : decode cX0_build 74 = .ok (.invokevirtual 34, 3) := by decide +kernel
theorem dX0_build_77 : decode cX0_build 77 = .ok (.iconst 2, 1) := by decide +kernel
theorem dX0_build_78 : decode cX0_build 78 = .ok (.istore_n 2, 1) := by decide +kernel
theorem dX0_build_79 : decode cX0_build 79 = .ok (.iload_n 2, 1) := by decide +kernel
theorem dX0_build_80 : decode cX0_build 80 = .ok (.bipush 7, 2) := by decide +kernel
theorem dX0_build_82 : decode cX0_build 82 = .ok (.if_icmp .ge 57, 3) := by decide +kernel
theorem dX0_build_85 : decode cX0_build 85 = .ok (.aload_n 0, 1) := by decide +kernel
theorem dX0_build_86 : decode cX0_build 86 = .ok (.aload_n 0, 1) := by decide +kernel
theorem dX0_build_87 : decode cX0_build 87 = .ok (.getfield 11, 3) := by decide +kernel
theorem dX0_build_90 : decode cX0_build 90 = .ok (.iload_n 2, 1) := by decide +kernel
theorem dX0_build_91 : decode cX0_build 91 = .ok (.iconst 2, 1) := by decide +kernel
theorem dX0_build_92 : decode cX0_build 92 = .ok (.isub, 1) := by decide +kernel
theorem dX0_build_93 : decode cX0_build 93 = .ok (.aaload, 1) := by decide +kernel
theorem dX0_build_94 : decode cX0_build 94 = .ok (.aload_n 0, 1) := by decide +kernel
theorem dX0_build_95 : decode cX0_build 95 = .ok (.getfield 11, 3) := by decide +kernel
theorem dX0_build_98 : decode cX0_build 98 = .ok (.iload_n 2, 1) := by decide +kernel
theorem dX0_build_99 : decode cX0_build 99 = .ok (.iconst 1, 1) := by decide +kernel
theorem dX0_build_100 : decode cX0_build 100 = .ok (.isub, 1) := by decide +kernel
theorem dX0_build_101 : decode cX0_build 101 = .ok (.aaload, 1) := by decide +kernel
theorem dX0_build_102 : decode cX0_build 102 = .ok (.invokevirtual 38, 3) := by decide +kernel
theorem dX0_build_105 : decode cX0_build 105 = .ok (.aload_n 0, 1) := by decide +kernel
theorem dX0_build_106 : decode cX0_build 106 = .ok (.getfield 24, 3) := by decide +kernel
theorem dX0_build_109 : decode cX0_build 109 = .ok (.ifCond .ne 13, 3) := by decide +kernel
theorem dX0_build_112 : decode cX0_build 112 = .ok (.aload_n 0, 1) := by decide +kernel
theorem dX0_build_113 : decode cX0_build 113 = .ok (.getfield 16, 3) := by decide +kernel
theorem dX0_build_116 : decode cX0_build 116 = .ok (.invokestatic 28, 3) := by decide +kernel
theorem dX0_build_119 : decode cX0_build 119 = .ok (.ifCond .ge 5, 3) := by decide +kernel
theorem dX0_build_122 : decode cX0_build 122 = .ok (.iconst 1, 1) := by decide +kernel
theorem dX0_build_123 : decode cX0_build 123 = .ok (.ireturn, 1) := by decide +kernel
theorem dX0_build_124 : decode cX0_build 124 = .ok (.aload_n 0, 1) := by decide +kernel
theorem dX0_build_125 : decode cX0_build 125 = .ok (.aload_n 0, 1) := by decide +kernel
theorem dX0_build_126 : decode cX0_build 126 = .ok (.getfield 16, 3) := by decide +kernel
theorem dX0_build_129 : decode cX0_build 129 = .ok (.iconst (-1), 1) := by decide +kernel
theorem dX0_build_130 : decode cX0_build 130 = .ok (.invokevirtual 34, 3) := by decide +kernel
theorem dX0_build_133 : decode cX0_build 133 = .ok (.iinc 2 1, 3) := by decide +kernel
theorem dX0_build_136 : decode cX0_build 136 = .ok (.goto (-57), 3) := by decide +kernel
theorem dX0_build_139 : decode cX0_build 139 = .ok (.iconst 1, 1) := by decide +kernel
theorem dX0_build_140 : decode cX0_build 140 = .ok (.ireturn, 1) := by decide +kernel
theorem dX0_append_0 : decode cX0_append 0 = .ok (.iconst 0, 1) := by decide +kernel
theorem dX0_append_1 : decode cX0_append 1 = .ok (.istore_n 3, 1) := by decide +kernel
theorem dX0_append_2 : decode cX0_append 2 = .ok (.iload_n 3, 1) := by decide +kernel
theorem dX0_append_3 : decode cX0_append 3 = .ok (.bipush 7, 2) := by decide +kernel
theorem dX0_append_5 : decode cX0_append 5 = .ok (.if_icmp .ge 26, 3) := by decide +kernel
theorem dX0_append_8 : decode cX0_append 8 = .ok (.aload_n 0, 1) := by decide +kernel
theorem dX0_append_9 : decode cX0_append 9 = .ok (.getfield 11, 3) := by decide +kernel
theorem dX0_append_12 : decode cX0_append 12 = .ok (.aload_n 0, 1) := by decide +kernel
theorem dX0_append_13 : decode cX0_append 13 = .ok (.getfield 20, 3) := by decide +kernel
theorem dX0_append_16 : decode cX0_append 16 = .ok (.aaload, 1) := by decide +kernel
theorem dX0_append_17 : decode cX0_append 17 = .ok (.iload_n 3, 1) := by decide +kernel
theorem dX0_append_18 : decode cX0_append 18 = .ok (.iload_n 2, 1) := by decide +kernel
theorem dX0_append_19 : decode cX0_append 19 = .ok (.i2l, 1) := by decide +kernel
theorem dX0_append_20 : decode cX0_append 20 = .ok (.aload_n 1, 1) := by decide +kernel
theorem dX0_append_21 : decode cX0_append 21 = .ok (.iload_n 3, 1) := by decide +kernel
theorem dX0_append_22 : decode cX0_append 22 = .ok (.laload, 1) := by decide +kernel
theorem dX0_append_23 : decode cX0_append 23 = .ok (.lmul, 1) := by decide +kernel
theorem dX0_append_24 : decode cX0_append 24 = .ok (.lastore, 1) := by decide +kernel
theorem dX0_append_25 : decode cX0_append 25 = .ok (.iinc 3 1, 3) := by decide +kernel
theorem dX0_append_28 : decode cX0_append 28 = .ok (.goto (-26), 3) := by decide +kernel
theorem dX0_append_31 : decode cX0_append 31 = .ok (.aload_n 0, 1) := by decide +kernel
theorem dX0_append_32 : decode cX0_append 32 = .ok (.getfield 11, 3) := by decide +kernel
theorem dX0_append_35 : decode cX0_append 35 = .ok (.aload_n 0, 1) := by decide +kernel
theorem dX0_append_36 : decode cX0_append 36 = .ok (.getfield 20, 3) := by decide +kernel
theorem dX0_append_39 : decode cX0_append 39 = .ok (.aaload, 1) := by decide +kernel
theorem dX0_append_40 : decode cX0_append 40 = .ok (.invokestatic 42, 3) := by decide +kernel
theorem dX0_append_43 : decode cX0_append 43 = .ok (.aload_n 0, 1) := by decide +kernel
theorem dX0_append_44 : decode cX0_append 44 = .ok (.dup, 1) := by decide +kernel
theorem dX0_append_45 : decode cX0_append 45 = .ok (.getfield 20, 3) := by decide +kernel
theorem dX0_append_48 : decode cX0_append 48 = .ok (.iconst 1, 1) := by decide +kernel
theorem dX0_append_49 : decode cX0_append 49 = .ok (.iadd, 1) := by decide +kernel
theorem dX0_append_50 : decode cX0_append 50 = .ok (.putfield 20, 3) := by decide +kernel
theorem dX0_append_53 : decode cX0_append 53 = .ok (.return_, 1) := by decide +kernel
theorem dX0_divide_0 : decode cX0_divide 0 = .ok (.aload_n 1, 1) := by decide +kernel
theorem dX0_divide_1 : decode cX0_divide 1 = .ok (.iconst 0, 1) := by decide +kernel
theorem dX0_divide_2 : decode cX0_divide 2 = .ok (.aload_n 0, 1) := by decide +kernel
theorem dX0_divide_3 : decode cX0_divide 3 = .ok (.getfield 16, 3) := by decide +kernel
theorem dX0_divide_6 : decode cX0_divide 6 = .ok (.iconst 0, 1) := by decide +kernel
theorem dX0_divide_7 : decode cX0_divide 7 = .ok (.bipush 7, 2) := by decide +kernel
theorem dX0_divide_9 : decode cX0_divide 9 = .ok (.invokestatic 46, 3) := by decide +kernel
theorem dX0_divide_12 : decode cX0_divide 12 = .ok (.aload_n 2, 1) := by decide +kernel
theorem dX0_divide_13 : decode cX0_divide 13 = .ok (.invokestatic 28, 3) := by decide +kernel
theorem dX0_divide_16 : decode cX0_divide 16 = .ok (.istore_n 3, 1) := by decide +kernel
theorem dX0_divide_17 : decode cX0_divide 17 = .ok (.iconst 0, 1) := by decide +kernel
theorem dX0_divide_18 : decode cX0_divide 18 = .ok (.istore 4, 2) := by decide +kernel
theorem dX0_divide_20 : decode cX0_divide 20 = .ok (.iload 4, 2) := by decide +kernel
theorem dX0_divide_22 : decode cX0_divide 22 = .ok (.bipush 7, 2) := by decide +kernel
theorem dX0_divide_24 : decode cX0_divide 24 = .ok (.if_icmp .ge 55, 3) := by decide +kernel
theorem dX0_divide_27 : decode cX0_divide 27 = .ok (.aload_n 0, 1) := by decide +kernel
theorem dX0_divide_28 : decode cX0_divide 28 = .ok (.getfield 24, 3) := by decide +kernel
theorem dX0_divide_31 : decode cX0_divide 31 = .ok (.ifCond .ne 48, 3) := by decide +kernel
theorem dX0_divide_34 : decode cX0_divide 34 = .ok (.aload_n 0, 1) := by decide +kernel
theorem dX0_divide_35 : decode cX0_divide 35 = .ok (.getfield 16, 3) := by decide +kernel
theorem dX0_divide_38 : decode cX0_divide 38 = .ok (.invokestatic 28, 3) := by decide +kernel
theorem dX0_divide_41 : decode cX0_divide 41 = .ok (.istore 5, 2) := by decide +kernel
theorem dX0_divide_43 : decode cX0_divide 43 = .ok (.iload_n 3, 1) := by decide +kernel
theorem dX0_divide_44 : decode cX0_divide 44 = .ok (.ifCond .lt 9, 3) := by decide +kernel
theorem dX0_divide_47 : decode cX0_divide 47 = .ok (.iload 5, 2) := by decide +kernel
theorem dX0_divide_49 : decode cX0_divide 49 = .ok (.iload_n 3, 1) := by decide +kernel
theorem dX0_divide_50 : decode cX0_divide 50 = .ok (.if_icmp .ge 4, 3) := by decide +kernel
theorem dX0_divide_53 : decode cX0_divide 53 = .ok (.return_, 1) := by decide +kernel
theorem dX0_divide_54 : decode cX0_divide 54 = .ok (.aload_n 0, 1) := by decide +kernel
theorem dX0_divide_55 : decode cX0_divide 55 = .ok (.iload 5, 2) := by decide +kernel
theorem dX0_divide_57 : decode cX0_divide 57 = .ok (.aload_n 2, 1) := by decide +kernel
theorem dX0_divide_58 : decode cX0_divide 58 = .ok (.iload_n 3, 1) := by decide +kernel
theorem dX0_divide_59 : decode cX0_divide 59 = .ok (.invokevirtual 52, 3) := by decide +kernel
theorem dX0_divide_62 : decode cX0_divide 62 = .ok (.aload_n 0, 1) := by decide +kernel
theorem dX0_divide_63 : decode cX0_divide 63 = .ok (.aload_n 0, 1) := by decide +kernel
theorem dX0_divide_64 : decode cX0_divide 64 = .ok (.getfield 16, 3) := by decide +kernel
theorem dX0_divide_67 : decode cX0_divide 67 = .ok (.invokestatic 56, 3) := by decide +kernel
theorem dX0_divide_70 : decode cX0_divide 70 = .ok (.putfield 24, 3) := by decide +kernel
theorem dX0_divide_73 : decode cX0_divide 73 = .ok (.iinc 4 1, 3) := by decide +kernel
theorem dX0_divide_76 : decode cX0_divide 76 = .ok (.goto (-56), 3) := by decide +kernel
theorem dX0_divide_79 : decode cX0_divide 79 = .ok (.return_, 1) := by decide +kernel
theorem dX0_lower_0 : decode cX0_lower 0 = .ok (.aload_n 0, 1) := by decide +kernel
theorem dX0_lower_1 : decode cX0_lower 1 = .ok (.getfield 16, 3) := by decide +kernel
theorem dX0_lower_4 : decode cX0_lower 4 = .ok (.iload_n 1, 1) := by decide +kernel
theorem dX0_lower_5 : decode cX0_lower 5 = .ok (.laload, 1) := by decide +kernel
theorem dX0_lower_6 : decode cX0_lower 6 = .ok (.lstore 4, 2) := by decide +kernel
theorem dX0_lower_8 : decode cX0_lower 8 = .ok (.iconst 0, 1) := by decide +kernel
theorem dX0_lower_9 : decode cX0_lower 9 = .ok (.istore 6, 2) := by decide +kernel
theorem dX0_lower_11 : decode cX0_lower 11 = .ok (.iload 6, 2) := by decide +kernel
theorem dX0_lower_13 : decode cX0_lower 13 = .ok (.bipush 7, 2) := by decide +kernel
theorem dX0_lower_15 : decode cX0_lower 15 = .ok (.if_icmp .ge 32, 3) := by decide +kernel
theorem dX0_lower_18 : decode cX0_lower 18 = .ok (.aload_n 0, 1) := by decide +kernel
theorem dX0_lower_19 : decode cX0_lower 19 = .ok (.getfield 16, 3) := by decide +kernel
theorem dX0_lower_22 : decode cX0_lower 22 = .ok (.iload 6, 2) := by decide +kernel
theorem dX0_lower_24 : decode cX0_lower 24 = .ok (.aload_n 0, 1) := by decide +kernel
theorem dX0_lower_25 : decode cX0_lower 25 = .ok (.getfield 16, 3) := by decide +kernel
theorem dX0_lower_28 : decode cX0_lower 28 = .ok (.iload 6, 2) := by decide +kernel
theorem dX0_lower_30 : decode cX0_lower 30 = .ok (.laload, 1) := by decide +kernel
theorem dX0_lower_31 : decode cX0_lower 31 = .ok (.aload_n 2, 1) := by decide +kernel
theorem dX0_lower_32 : decode cX0_lower 32 = .ok (.iload_n 3, 1) := by decide +kernel
theorem dX0_lower_33 : decode cX0_lower 33 = .ok (.laload, 1) := by decide +kernel
theorem dX0_lower_34 : decode cX0_lower 34 = .ok (.invokestatic 60, 3) := by decide +kernel
theorem dX0_lower_37 : decode cX0_lower 37 = .ok (.invokestatic 66, 3) := by decide +kernel
theorem dX0_lower_40 : decode cX0_lower 40 = .ok (.lastore, 1) := by decide +kernel
theorem dX0_lower_41 : decode cX0_lower 41 = .ok (.iinc 6 1, 3) := by decide +kernel
theorem dX0_lower_44 : decode cX0_lower 44 = .ok (.goto (-33), 3) := by decide +kernel
theorem dX0_lower_47 : decode cX0_lower 47 = .ok (.iload_n 1, 1) := by decide +kernel
theorem dX0_lower_48 : decode cX0_lower 48 = .ok (.iload_n 3, 1) := by decide +kernel
theorem dX0_lower_49 : decode cX0_lower 49 = .ok (.isub, 1) := by decide +kernel
theorem dX0_lower_50 : decode cX0_lower 50 = .ok (.istore 6, 2) := by decide +kernel
theorem dX0_lower_52 : decode cX0_lower 52 = .ok (.iconst 0, 1) := by decide +kernel
theorem dX0_lower_53 : decode cX0_lower 53 = .ok (.istore 7, 2) := by decide +kernel
theorem dX0_lower_55 : decode cX0_lower 55 = .ok (.iload 7, 2) := by decide +kernel
theorem dX0_lower_57 : decode cX0_lower 57 = .ok (.iload_n 3, 1) := by decide +kernel
theorem dX0_lower_58 : decode cX0_lower 58 = .ok (.if_icmp .gt 59, 3) := by decide +kernel
theorem dX0_lower_61 : decode cX0_lower 61 = .ok (.lload 4, 2) := by decide +kernel
theorem dX0_lower_63 : decode cX0_lower 63 = .ok (.aload_n 2, 1) := by decide +kernel
theorem dX0_lower_64 : decode cX0_lower 64 = .ok (.iload 7, 2) := by decide +kernel
theorem dX0_lower_66 : decode cX0_lower 66 = .ok (.laload, 1) := by decide +kernel
theorem dX0_lower_67 : decode cX0_lower 67 = .ok (.invokestatic 66, 3) := by decide +kernel
theorem dX0_lower_70 : decode cX0_lower 70 = .ok (.lstore 8, 2) := by decide +kernel
theorem dX0_lower_72 : decode cX0_lower 72 = .ok (.aload_n 0, 1) := by decide +kernel
theorem dX0_lower_73 : decode cX0_lower 73 = .ok (.getfield 16, 3) := by decide +kernel
theorem dX0_lower_76 : decode cX0_lower 76 = .ok (.iload 7, 2) := by decide +kernel
theorem dX0_lower_78 : decode cX0_lower 78 = .ok (.iload 6, 2) := by decide +kernel
theorem dX0_lower_80 : decode cX0_lower 80 = .ok (.iadd, 1) := by decide +kernel
theorem dX0_lower_81 : decode cX0_lower 81 = .ok (.aload_n 0, 1) := by decide +kernel
theorem dX0_lower_82 : decode cX0_lower 82 = .ok (.getfield 16, 3) := by decide +kernel
theorem dX0_lower_85 : decode cX0_lower 85 = .ok (.iload 7, 2) := by decide +kernel
theorem dX0_lower_87 : decode cX0_lower 87 = .ok (.iload 6, 2) := by decide +kernel
theorem dX0_lower_89 : decode cX0_lower 89 = .ok (.iadd, 1) := by decide +kernel
theorem dX0_lower_90 : decode cX0_lower 90 = .ok (.laload, 1) := by decide +kernel
theorem dX0_lower_91 : decode cX0_lower 91 = .ok (.aload_n 2, 1) := by decide +kernel
theorem dX0_lower_92 : decode cX0_lower 92 = .ok (.iload_n 3, 1) := by decide +kernel
theorem dX0_lower_93 : decode cX0_lower 93 = .ok (.laload, 1) := by decide +kernel
theorem dX0_lower_94 : decode cX0_lower 94 = .ok (.lconst 0, 1) := by decide +kernel
theorem dX0_lower_95 : decode cX0_lower 95 = .ok (.lcmp, 1) := by decide +kernel
theorem dX0_lower_96 : decode cX0_lower 96 = .ok (.ifCond .ge 9, 3) := by decide +kernel
theorem dX0_lower_99 : decode cX0_lower 99 = .ok (.lload 8, 2) := by decide +kernel
theorem dX0_lower_101 : decode cX0_lower 101 = .ok (.lneg, 1) := by decide +kernel
theorem dX0_lower_102 : decode cX0_lower 102 = .ok (.goto 5, 3) := by decide +kernel
theorem dX0_lower_105 : decode cX0_lower 105 = .ok (.lload 8, 2) := by decide +kernel
theorem dX0_lower_107 : decode cX0_lower 107 = .ok (.invokestatic 72, 3) := by decide +kernel
theorem dX0_lower_110 : decode cX0_lower 110 = .ok (.lastore, 1) := by decide +kernel
theorem dX0_lower_111 : decode cX0_lower 111 = .ok (.iinc 7 1, 3) := by decide +kernel
theorem dX0_lower_114 : decode cX0_lower 114 = .ok (.goto (-59), 3) := by decide +kernel
theorem dX0_lower_117 : decode cX0_lower 117 = .ok (.return_, 1) := by decide +kernel
theorem dX0_coefficient_0 : decode cX0_coefficient 0 = .ok (.aload_n 0, 1) := by decide +kernel
theorem dX0_coefficient_1 : decode cX0_coefficient 1 = .ok (.getfield 11, 3) := by decide +kernel
theorem dX0_coefficient_4 : decode cX0_coefficient 4 = .ok (.iload_n 1, 1) := by decide +kernel
theorem dX0_coefficient_5 : decode cX0_coefficient 5 = .ok (.aaload, 1) := by decide +kernel
theorem dX0_coefficient_6 : decode cX0_coefficient 6 = .ok (.iload_n 2, 1) := by decide +kernel
theorem dX0_coefficient_7 : decode cX0_coefficient 7 = .ok (.laload, 1) := by decide +kernel
theorem dX0_coefficient_8 : decode cX0_coefficient 8 = .ok (.lreturn, 1) := by decide +kernel
theorem dX0_changesAt_0 : decode cX0_changesAt 0 = .ok (.iconst 0, 1) := by decide +kernel
theorem dX0_changesAt_1 : decode cX0_changesAt 1 = .ok (.istore_n 2, 1) := by decide +kernel
theorem dX0_changesAt_2 : decode cX0_changesAt 2 = .ok (.lconst 0, 1) := by decide +kernel
theorem dX0_changesAt_3 : decode cX0_changesAt 3 = .ok (.lstore_n 3, 1) := by decide +kernel
theorem dX0_changesAt_4 : decode cX0_changesAt 4 = .ok (.iconst 0, 1) := by decide +kernel
theorem dX0_changesAt_5 : decode cX0_changesAt 5 = .ok (.istore 5, 2) := by decide +kernel
theorem dX0_changesAt_7 : decode cX0_changesAt 7 = .ok (.iload 5, 2) := by decide +kernel
theorem dX0_changesAt_9 : decode cX0_changesAt 9 = .ok (.aload_n 0, 1) := by decide +kernel
theorem dX0_changesAt_10 : decode cX0_changesAt 10 = .ok (.getfield 20, 3) := by decide +kernel
theorem dX0_changesAt_13 : decode cX0_changesAt 13 = .ok (.if_icmp .ge 91, 3) := by decide +kernel
theorem dX0_changesAt_16 : decode cX0_changesAt 16 = .ok (.aload_n 0, 1) := by decide +kernel
theorem dX0_changesAt_17 : decode cX0_changesAt 17 = .ok (.getfield 24, 3) := by decide +kernel
theorem dX0_changesAt_20 : decode cX0_changesAt 20 = .ok (.ifCond .ne 84, 3) := by decide +kernel
theorem dX0_changesAt_23 : decode cX0_changesAt 23 = .ok (.aload_n 0, 1) := by decide +kernel
theorem dX0_changesAt_24 : decode cX0_changesAt 24 = .ok (.getfield 11, 3) := by decide +kernel
theorem dX0_changesAt_27 : decode cX0_changesAt 27 = .ok (.iload 5, 2) := by decide +kernel
theorem dX0_changesAt_29 : decode cX0_changesAt 29 = .ok (.aaload, 1) := by decide +kernel
theorem dX0_changesAt_30 : decode cX0_changesAt 30 = .ok (.iload_n 1, 1) := by decide +kernel
theorem dX0_changesAt_31 : decode cX0_changesAt 31 = .ok (.invokestatic 75, 3) := by decide +kernel
theorem dX0_changesAt_34 : decode cX0_changesAt 34 = .ok (.lstore 6, 2) := by decide +kernel
theorem dX0_changesAt_36 : decode cX0_changesAt 36 = .ok (.lload 6, 2) := by decide +kernel
theorem dX0_changesAt_38 : decode cX0_changesAt 38 = .ok (.ldc2_w 79, 3) := by decide +kernel
theorem dX0_changesAt_41 : decode cX0_changesAt 41 = .ok (.lcmp, 1) := by decide +kernel
theorem dX0_changesAt_42 : decode cX0_changesAt 42 = .ok (.ifCond .ne 6, 3) := by decide +kernel
theorem dX0_changesAt_45 : decode cX0_changesAt 45 = .ok (.bipush (-7), 2) := by decide +kernel
theorem dX0_changesAt_47 : decode cX0_changesAt 47 = .ok (.ireturn, 1) := by decide +kernel
theorem dX0_changesAt_48 : decode cX0_changesAt 48 = .ok (.lload 6, 2) := by decide +kernel
theorem dX0_changesAt_50 : decode cX0_changesAt 50 = .ok (.lconst 0, 1) := by decide +kernel
theorem dX0_changesAt_51 : decode cX0_changesAt 51 = .ok (.lcmp, 1) := by decide +kernel
theorem dX0_changesAt_52 : decode cX0_changesAt 52 = .ok (.ifCond .eq 46, 3) := by decide +kernel
theorem dX0_changesAt_55 : decode cX0_changesAt 55 = .ok (.iload_n 2, 1) := by decide +kernel
theorem dX0_changesAt_56 : decode cX0_changesAt 56 = .ok (.lload_n 3, 1) := by decide +kernel
theorem dX0_changesAt_57 : decode cX0_changesAt 57 = .ok (.lconst 0, 1) := by decide +kernel
theorem dX0_changesAt_58 : decode cX0_changesAt 58 = .ok (.lcmp, 1) := by decide +kernel
theorem dX0_changesAt_59 : decode cX0_changesAt 59 = .ok (.ifCond .eq 33, 3) := by decide +kernel
theorem dX0_changesAt_62 : decode cX0_changesAt 62 = .ok (.lload_n 3, 1) := by decide +kernel
theorem dX0_changesAt_63 : decode cX0_changesAt 63 = .ok (.lconst 0, 1) := by decide +kernel
theorem dX0_changesAt_64 : decode cX0_changesAt 64 = .ok (.lcmp, 1) := by decide +kernel
theorem dX0_changesAt_65 : decode cX0_changesAt 65 = .ok (.ifCond .ge 7, 3) := by decide +kernel
theorem dX0_changesAt_68 : decode cX0_changesAt 68 = .ok (.iconst 1, 1) := by decide +kernel
theorem dX0_changesAt_69 : decode cX0_changesAt 69 = .ok (.goto 4, 3) := by decide +kernel
theorem dX0_changesAt_72 : decode cX0_changesAt 72 = .ok (.iconst 0, 1) := by decide +kernel
theorem dX0_changesAt_73 : decode cX0_changesAt 73 = .ok (.lload 6, 2) := by decide +kernel
theorem dX0_changesAt_75 : decode cX0_changesAt 75 = .ok (.lconst 0, 1) := by decide +kernel
theorem dX0_changesAt_76 : decode cX0_changesAt 76 = .ok (.lcmp, 1) := by decide +kernel
theorem dX0_changesAt_77 : decode cX0_changesAt 77 = .ok (.ifCond .ge 7, 3) := by decide +kernel
theorem dX0_changesAt_80 : decode cX0_changesAt 80 = .ok (.iconst 1, 1) := by decide +kernel
theorem dX0_changesAt_81 : decode cX0_changesAt 81 = .ok (.goto 4, 3) := by decide +kernel
theorem dX0_changesAt_84 : decode cX0_changesAt 84 = .ok (.iconst 0, 1) := by decide +kernel
theorem dX0_changesAt_85 : decode cX0_changesAt 85 = .ok (.if_icmp .eq 7, 3) := by decide +kernel
theorem dX0_changesAt_88 : decode cX0_changesAt 88 = .ok (.iconst 1, 1) := by decide +kernel
theorem dX0_changesAt_89 : decode cX0_changesAt 89 = .ok (.goto 4, 3) := by decide +kernel
theorem dX0_changesAt_92 : decode cX0_changesAt 92 = .ok (.iconst 0, 1) := by decide +kernel
theorem dX0_changesAt_93 : decode cX0_changesAt 93 = .ok (.iadd, 1) := by decide +kernel
theorem dX0_changesAt_94 : decode cX0_changesAt 94 = .ok (.istore_n 2, 1) := by decide +kernel
theorem dX0_changesAt_95 : decode cX0_changesAt 95 = .ok (.lload 6, 2) := by decide +kernel
theorem dX0_changesAt_97 : decode cX0_changesAt 97 = .ok (.lstore_n 3, 1) := by decide +kernel
theorem dX0_changesAt_98 : decode cX0_changesAt 98 = .ok (.iinc 5 1, 3) := by decide +kernel
theorem dX0_changesAt_101 : decode cX0_changesAt 101 = .ok (.goto (-94), 3) := by decide +kernel
theorem dX0_changesAt_104 : decode cX0_changesAt 104 = .ok (.aload_n 0, 1) := by decide +kernel
theorem dX0_changesAt_105 : decode cX0_changesAt 105 = .ok (.getfield 24, 3) := by decide +kernel
theorem dX0_changesAt_108 : decode cX0_changesAt 108 = .ok (.ifCond .eq 8, 3) := by decide +kernel
theorem dX0_changesAt_111 : decode cX0_changesAt 111 = .ok (.bipush (-7), 2) := by decide +kernel
theorem dX0_changesAt_113 : decode cX0_changesAt 113 = .ok (.goto 4, 3) := by decide +kernel
theorem dX0_changesAt_116 : decode cX0_changesAt 116 = .ok (.iload_n 2, 1) := by decide +kernel
theorem dX0_changesAt_117 : decode cX0_changesAt 117 = .ok (.ireturn, 1) := by decide +kernel
theorem dX0_valueAt_0 : decode cX0_valueAt 0 = .ok (.lconst 0, 1) := by decide +kernel
theorem dX0_valueAt_1 : decode cX0_valueAt 1 = .ok (.lstore_n 2, 1) := by decide +kernel
theorem dX0_valueAt_2 : decode cX0_valueAt 2 = .ok (.aload_n 0, 1) := by decide +kernel
theorem dX0_valueAt_3 : decode cX0_valueAt 3 = .ok (.invokestatic 28, 3) := by decide +kernel
theorem dX0_valueAt_6 : decode cX0_valueAt 6 = .ok (.istore 4, 2) := by decide +kernel
theorem dX0_valueAt_8 : decode cX0_valueAt 8 = .ok (.iload 4, 2) := by decide +kernel
theorem dX0_valueAt_10 : decode cX0_valueAt 10 = .ok (.ifCond .lt 23, 3) := by decide +kernel
theorem dX0_valueAt_13 : decode cX0_valueAt 13 = .ok (.lload_n 2, 1) := by decide +kernel
theorem dX0_valueAt_14 : decode cX0_valueAt 14 = .ok (.iload_n 1, 1) := by decide +kernel
theorem dX0_valueAt_15 : decode cX0_valueAt 15 = .ok (.i2l, 1) := by decide +kernel
theorem dX0_valueAt_16 : decode cX0_valueAt 16 = .ok (.invokestatic 66, 3) := by decide +kernel
theorem dX0_valueAt_19 : decode cX0_valueAt 19 = .ok (.aload_n 0, 1) := by decide +kernel
theorem dX0_valueAt_20 : decode cX0_valueAt 20 = .ok (.iload 4, 2) := by decide +kernel
theorem dX0_valueAt_22 : decode cX0_valueAt 22 = .ok (.laload, 1) := by decide +kernel
theorem dX0_valueAt_23 : decode cX0_valueAt 23 = .ok (.invokestatic 81, 3) := by decide +kernel
theorem dX0_valueAt_26 : decode cX0_valueAt 26 = .ok (.lstore_n 2, 1) := by decide +kernel
theorem dX0_valueAt_27 : decode cX0_valueAt 27 = .ok (.iinc 4 (-1), 3) := by decide +kernel
theorem dX0_valueAt_30 : decode cX0_valueAt 30 = .ok (.goto (-22), 3) := by decide +kernel
theorem dX0_valueAt_33 : decode cX0_valueAt 33 = .ok (.lload_n 2, 1) := by decide +kernel
theorem dX0_valueAt_34 : decode cX0_valueAt 34 = .ok (.lreturn, 1) := by decide +kernel
theorem dX1_times_0 : decode cX1_times 0 = .ok (.lload_n 0, 1) := by decide +kernel
theorem dX1_times_1 : decode cX1_times 1 = .ok (.ldc2_w 9, 3) := by decide +kernel
theorem dX1_times_4 : decode cX1_times 4 = .ok (.lcmp, 1) := by decide +kernel
theorem dX1_times_5 : decode cX1_times 5 = .ok (.ifCond .eq 11, 3) := by decide +kernel
theorem dX1_times_8 : decode cX1_times 8 = .ok (.lload_n 2, 1) := by decide +kernel
theorem dX1_times_9 : decode cX1_times 9 = .ok (.ldc2_w 9, 3) := by decide +kernel
theorem dX1_times_12 : decode cX1_times 12 = .ok (.lcmp, 1) := by decide +kernel
theorem dX1_times_13 : decode cX1_times 13 = .ok (.ifCond .ne 7, 3) := by decide +kernel
theorem dX1_times_16 : decode cX1_times 16 = .ok (.ldc2_w 9, 3) := by decide +kernel
theorem dX1_times_19 : decode cX1_times 19 = .ok (.lreturn, 1) := by decide +kernel
theorem dX1_times_20 : decode cX1_times 20 = .ok (.lload_n 0, 1) := by decide +kernel
theorem dX1_times_21 : decode cX1_times 21 = .ok (.lconst 0, 1) := by decide +kernel
theorem dX1_times_22 : decode cX1_times 22 = .ok (.lcmp, 1) := by decide +kernel
theorem dX1_times_23 : decode cX1_times 23 = .ok (.ifCond .eq 9, 3) := by decide +kernel
theorem dX1_times_26 : decode cX1_times 26 = .ok (.lload_n 2, 1) := by decide +kernel
theorem dX1_times_27 : decode cX1_times 27 = .ok (.lconst 0, 1) := by decide +kernel
theorem dX1_times_28 : decode cX1_times 28 = .ok (.lcmp, 1) := by decide +kernel
theorem dX1_times_29 : decode cX1_times 29 = .ok (.ifCond .ne 5, 3) := by decide +kernel
theorem dX1_times_32 : decode cX1_times 32 = .ok (.lconst 0, 1) := by decide +kernel
theorem dX1_times_33 : decode cX1_times 33 = .ok (.lreturn, 1) := by decide +kernel
theorem dX1_times_34 : decode cX1_times 34 = .ok (.lload_n 0, 1) := by decide +kernel
theorem dX1_times_35 : decode cX1_times 35 = .ok (.lload_n 2, 1) := by decide +kernel
theorem dX1_times_36 : decode cX1_times 36 = .ok (.lmul, 1) := by decide +kernel
theorem dX1_times_37 : decode cX1_times 37 = .ok (.lstore 4, 2) := by decide +kernel
theorem dX1_times_39 : decode cX1_times 39 = .ok (.lload 4, 2) := by decide +kernel
theorem dX1_times_41 : decode cX1_times 41 = .ok (.ldc2_w 9, 3) := by decide +kernel
theorem dX1_times_44 : decode cX1_times 44 = .ok (.lcmp, 1) := by decide +kernel
theorem dX1_times_45 : decode cX1_times 45 = .ok (.ifCond .eq 12, 3) := by decide +kernel
theorem dX1_times_48 : decode cX1_times 48 = .ok (.lload 4, 2) := by decide +kernel
theorem dX1_times_50 : decode cX1_times 50 = .ok (.lload_n 2, 1) := by decide +kernel
theorem dX1_times_51 : decode cX1_times 51 = .ok (.ldiv, 1) := by decide +kernel
theorem dX1_times_52 : decode cX1_times 52 = .ok (.lload_n 0, 1) := by decide +kernel
theorem dX1_times_53 : decode cX1_times 53 = .ok (.lcmp, 1) := by decide +kernel
theorem dX1_times_54 : decode cX1_times 54 = .ok (.ifCond .eq 9, 3) := by decide +kernel
theorem dX1_times_57 : decode cX1_times 57 = .ok (.ldc2_w 9, 3) := by decide +kernel
theorem dX1_times_60 : decode cX1_times 60 = .ok (.goto 5, 3) := by decide +kernel
theorem dX1_times_63 : decode cX1_times 63 = .ok (.lload 4, 2) := by decide +kernel
theorem dX1_times_65 : decode cX1_times 65 = .ok (.lreturn, 1) := by decide +kernel
theorem dX1_plus_0 : decode cX1_plus 0 = .ok (.lload_n 0, 1) := by decide +kernel
theorem dX1_plus_1 : decode cX1_plus 1 = .ok (.ldc2_w 9, 3) := by decide +kernel
theorem dX1_plus_4 : decode cX1_plus 4 = .ok (.lcmp, 1) := by decide +kernel
theorem dX1_plus_5 : decode cX1_plus 5 = .ok (.ifCond .eq 11, 3) := by decide +kernel
theorem dX1_plus_8 : decode cX1_plus 8 = .ok (.lload_n 2, 1) := by decide +kernel
theorem dX1_plus_9 : decode cX1_plus 9 = .ok (.ldc2_w 9, 3) := by decide +kernel
theorem dX1_plus_12 : decode cX1_plus 12 = .ok (.lcmp, 1) := by decide +kernel
theorem dX1_plus_13 : decode cX1_plus 13 = .ok (.ifCond .ne 7, 3) := by decide +kernel
theorem dX1_plus_16 : decode cX1_plus 16 = .ok (.ldc2_w 9, 3) := by decide +kernel
theorem dX1_plus_19 : decode cX1_plus 19 = .ok (.lreturn, 1) := by decide +kernel
theorem dX1_plus_20 : decode cX1_plus 20 = .ok (.lload_n 0, 1) := by decide +kernel
theorem dX1_plus_21 : decode cX1_plus 21 = .ok (.lload_n 2, 1) := by decide +kernel
theorem dX1_plus_22 : decode cX1_plus 22 = .ok (.ladd, 1) := by decide +kernel
theorem dX1_plus_23 : decode cX1_plus 23 = .ok (.lstore 4, 2) := by decide +kernel
theorem dX1_plus_25 : decode cX1_plus 25 = .ok (.lload_n 0, 1) := by decide +kernel
theorem dX1_plus_26 : decode cX1_plus 26 = .ok (.lload 4, 2) := by decide +kernel
theorem dX1_plus_28 : decode cX1_plus 28 = .ok (.lxor, 1) := by decide +kernel
theorem dX1_plus_29 : decode cX1_plus 29 = .ok (.lload_n 2, 1) := by decide +kernel
theorem dX1_plus_30 : decode cX1_plus 30 = .ok (.lload 4, 2) := by decide +kernel
theorem dX1_plus_32 : decode cX1_plus 32 = .ok (.lxor, 1) := by decide +kernel
theorem dX1_plus_33 : decode cX1_plus 33 = .ok (.land, 1) := by decide +kernel
theorem dX1_plus_34 : decode cX1_plus 34 = .ok (.lconst 0, 1) := by decide +kernel
theorem dX1_plus_35 : decode cX1_plus 35 = .ok (.lcmp, 1) := by decide +kernel
theorem dX1_plus_36 : decode cX1_plus 36 = .ok (.ifCond .ge 7, 3) := by decide +kernel
theorem dX1_plus_39 : decode cX1_plus 39 = .ok (.iconst 1, 1) := by decide +kernel
theorem dX1_plus_40 : decode cX1_plus 40 = .ok (.goto 4, 3) := by decide +kernel
theorem dX1_plus_43 : decode cX1_plus 43 = .ok (.iconst 0, 1) := by decide +kernel
theorem dX1_plus_44 : decode cX1_plus 44 = .ok (.istore 6, 2) := by decide +kernel
theorem dX1_plus_46 : decode cX1_plus 46 = .ok (.iload 6, 2) := by decide +kernel
theorem dX1_plus_48 : decode cX1_plus 48 = .ok (.ifCond .eq 9, 3) := by decide +kernel
theorem dX1_plus_51 : decode cX1_plus 51 = .ok (.ldc2_w 9, 3) := by decide +kernel
theorem dX1_plus_54 : decode cX1_plus 54 = .ok (.goto 5, 3) := by decide +kernel
theorem dX1_plus_57 : decode cX1_plus 57 = .ok (.lload 4, 2) := by decide +kernel
theorem dX1_plus_59 : decode cX1_plus 59 = .ok (.lreturn, 1) := by decide +kernel
theorem dX1_less_0 : decode cX1_less 0 = .ok (.lload_n 0, 1) := by decide +kernel
theorem dX1_less_1 : decode cX1_less 1 = .ok (.ldc2_w 9, 3) := by decide +kernel
theorem dX1_less_4 : decode cX1_less 4 = .ok (.lcmp, 1) := by decide +kernel
theorem dX1_less_5 : decode cX1_less 5 = .ok (.ifCond .eq 11, 3) := by decide +kernel
theorem dX1_less_8 : decode cX1_less 8 = .ok (.lload_n 2, 1) := by decide +kernel
theorem dX1_less_9 : decode cX1_less 9 = .ok (.ldc2_w 9, 3) := by decide +kernel
theorem dX1_less_12 : decode cX1_less 12 = .ok (.lcmp, 1) := by decide +kernel
theorem dX1_less_13 : decode cX1_less 13 = .ok (.ifCond .ne 7, 3) := by decide +kernel
theorem dX1_less_16 : decode cX1_less 16 = .ok (.ldc2_w 9, 3) := by decide +kernel
theorem dX1_less_19 : decode cX1_less 19 = .ok (.lreturn, 1) := by decide +kernel
theorem dX1_less_20 : decode cX1_less 20 = .ok (.lload_n 0, 1) := by decide +kernel
theorem dX1_less_21 : decode cX1_less 21 = .ok (.lload_n 2, 1) := by decide +kernel
theorem dX1_less_22 : decode cX1_less 22 = .ok (.lsub, 1) := by decide +kernel
theorem dX1_less_23 : decode cX1_less 23 = .ok (.lstore 4, 2) := by decide +kernel
theorem dX1_less_25 : decode cX1_less 25 = .ok (.lload_n 0, 1) := by decide +kernel
theorem dX1_less_26 : decode cX1_less 26 = .ok (.lload_n 2, 1) := by decide +kernel
theorem dX1_less_27 : decode cX1_less 27 = .ok (.lxor, 1) := by decide +kernel
theorem dX1_less_28 : decode cX1_less 28 = .ok (.lload_n 0, 1) := by decide +kernel
theorem dX1_less_29 : decode cX1_less 29 = .ok (.lload 4, 2) := by decide +kernel
theorem dX1_less_31 : decode cX1_less 31 = .ok (.lxor, 1) := by decide +kernel
theorem dX1_less_32 : decode cX1_less 32 = .ok (.land, 1) := by decide +kernel
theorem dX1_less_33 : decode cX1_less 33 = .ok (.lconst 0, 1) := by decide +kernel
theorem dX1_less_34 : decode cX1_less 34 = .ok (.lcmp, 1) := by decide +kernel
theorem dX1_less_35 : decode cX1_less 35 = .ok (.ifCond .ge 7, 3) := by decide +kernel
theorem dX1_less_38 : decode cX1_less 38 = .ok (.iconst 1, 1) := by decide +kernel
theorem dX1_less_39 : decode cX1_less 39 = .ok (.goto 4, 3) := by decide +kernel
theorem dX1_less_42 : decode cX1_less 42 = .ok (.iconst 0, 1) := by decide +kernel
theorem dX1_less_43 : decode cX1_less 43 = .ok (.istore 6, 2) := by decide +kernel
theorem dX1_less_45 : decode cX1_less 45 = .ok (.iload 6, 2) := by decide +kernel
theorem dX1_less_47 : decode cX1_less 47 = .ok (.ifCond .eq 9, 3) := by decide +kernel
theorem dX1_less_50 : decode cX1_less 50 = .ok (.ldc2_w 9, 3) := by decide +kernel
theorem dX1_less_53 : decode cX1_less 53 = .ok (.goto 5, 3) := by decide +kernel
theorem dX1_less_56 : decode cX1_less 56 = .ok (.lload 4, 2) := by decide +kernel
theorem dX1_less_58 : decode cX1_less 58 = .ok (.lreturn, 1) := by decide +kernel
theorem dX1_divisor_0 : decode cX1_divisor 0 = .ok (.lload_n 0, 1) := by decide +kernel
theorem dX1_divisor_1 : decode cX1_divisor 1 = .ok (.lconst 0, 1) := by decide +kernel
theorem dX1_divisor_2 : decode cX1_divisor 2 = .ok (.lcmp, 1) := by decide +kernel
theorem dX1_divisor_3 : decode cX1_divisor 3 = .ok (.ifCond .ge 8, 3) := by decide +kernel
theorem dX1_divisor_6 : decode cX1_divisor 6 = .ok (.lload_n 0, 1) := by decide +kernel
theorem dX1_divisor_7 : decode cX1_divisor 7 = .ok (.lneg, 1) := by decide +kernel
theorem dX1_divisor_8 : decode cX1_divisor 8 = .ok (.goto 4, 3) := by decide +kernel
theorem dX1_divisor_11 : decode cX1_divisor 11 = .ok (.lload_n 0, 1) := by decide +kernel
theorem dX1_divisor_12 : decode cX1_divisor 12 = .ok (.lstore 4, 2) := by decide +kernel
theorem dX1_divisor_14 : decode cX1_divisor 14 = .ok (.lload_n 2, 1) := by decide +kernel
theorem dX1_divisor_15 : decode cX1_divisor 15 = .ok (.lconst 0, 1) := by decide +kernel
theorem dX1_divisor_16 : decode cX1_divisor 16 = .ok (.lcmp, 1) := by decide +kernel
theorem dX1_divisor_17 : decode cX1_divisor 17 = .ok (.ifCond .ge 8, 3) := by decide +kernel
theorem dX1_divisor_20 : decode cX1_divisor 20 = .ok (.lload_n 2, 1) := by decide +kernel
theorem dX1_divisor_21 : decode cX1_divisor 21 = .ok (.lneg, 1) := by decide +kernel
theorem dX1_divisor_22 : decode cX1_divisor 22 = .ok (.goto 4, 3) := by decide +kernel
theorem dX1_divisor_25 : decode cX1_divisor 25 = .ok (.lload_n 2, 1) := by decide +kernel
theorem dX1_divisor_26 : decode cX1_divisor 26 = .ok (.lstore 6, 2) := by decide +kernel
theorem dX1_divisor_28 : decode cX1_divisor 28 = .ok (.iconst 0, 1) := by decide +kernel
theorem dX1_divisor_29 : decode cX1_divisor 29 = .ok (.istore 8, 2) := by decide +kernel
theorem dX1_divisor_31 : decode cX1_divisor 31 = .ok (.iload 8, 2) := by decide +kernel
theorem dX1_divisor_33 : decode cX1_divisor 33 = .ok (.bipush 100, 2) := by decide +kernel
theorem dX1_divisor_35 : decode cX1_divisor 35 = .ok (.if_icmp .ge 31, 3) := by decide +kernel
theorem dX1_divisor_38 : decode cX1_divisor 38 = .ok (.lload 6, 2) := by decide +kernel
theorem dX1_divisor_40 : decode cX1_divisor 40 = .ok (.lconst 0, 1) := by decide +kernel
theorem dX1_divisor_41 : decode cX1_divisor 41 = .ok (.lcmp, 1) := by decide +kernel
theorem dX1_divisor_42 : decode cX1_divisor 42 = .ok (.ifCond .eq 24, 3) := by decide +kernel
theorem dX1_divisor_45 : decode cX1_divisor 45 = .ok (.lload 4, 2) := by decide +kernel
theorem dX1_divisor_47 : decode cX1_divisor 47 = .ok (.lload 6, 2) := by decide +kernel
theorem dX1_divisor_49 : decode cX1_divisor 49 = .ok (.lrem, 1) := by decide +kernel
theorem dX1_divisor_50 : decode cX1_divisor 50 = .ok (.lstore 9, 2) := by decide +kernel
theorem dX1_divisor_52 : decode cX1_divisor 52 = .ok (.lload 6, 2) := by decide +kernel
theorem dX1_divisor_54 : decode cX1_divisor 54 = .ok (.lstore 4, 2) := by decide +kernel
theorem dX1_divisor_56 : decode cX1_divisor 56 = .ok (.lload 9, 2) := by decide +kernel
theorem dX1_divisor_58 : decode cX1_divisor 58 = .ok (.lstore 6, 2) := by decide +kernel
theorem dX1_divisor_60 : decode cX1_divisor 60 = .ok (.iinc 8 1, 3) := by decide +kernel
theorem dX1_divisor_63 : decode cX1_divisor 63 = .ok (.goto (-32), 3) := by decide +kernel
theorem dX1_divisor_66 : decode cX1_divisor 66 = .ok (.lload 4, 2) := by decide +kernel
theorem dX1_divisor_68 : decode cX1_divisor 68 = .ok (.lreturn, 1) := by decide +kernel
theorem dX2_init_0 : decode cX2_init 0 = .ok (.aload_n 0, 1) := by decide +kernel
theorem dX2_init_1 : decode cX2_init 1 = .ok (.invokespecial 3, 3) := by decide +kernel
theorem dX2_init_4 : decode cX2_init 4 = .ok (.return_, 1) := by decide +kernel
theorem dX2_become_0 : decode cX2_become 0 = .ok (.aload_n 0, 1) := by decide +kernel
theorem dX2_become_1 : decode cX2_become 1 = .ok (.iload_n 1, 1) := by decide +kernel
theorem dX2_become_2 : decode cX2_become 2 = .ok (.putfield 9, 3) := by decide +kernel
theorem dX2_become_5 : decode cX2_become 5 = .ok (.aload_n 0, 1) := by decide +kernel
theorem dX2_become_6 : decode cX2_become 6 = .ok (.iload_n 2, 1) := by decide +kernel
theorem dX2_become_7 : decode cX2_become 7 = .ok (.putfield 15, 3) := by decide +kernel
theorem dX2_become_10 : decode cX2_become 10 = .ok (.aload_n 0, 1) := by decide +kernel
theorem dX2_become_11 : decode cX2_become 11 = .ok (.iload_n 3, 1) := by decide +kernel
theorem dX2_become_12 : decode cX2_become 12 = .ok (.putfield 18, 3) := by decide +kernel
theorem dX2_become_15 : decode cX2_become 15 = .ok (.return_, 1) := by decide +kernel
theorem dX2_size_0 : decode cX2_size 0 = .ok (.aload_n 0, 1) := by decide +kernel
theorem dX2_size_1 : decode cX2_size 1 = .ok (.getfield 9, 3) := by decide +kernel
theorem dX2_size_4 : decode cX2_size 4 = .ok (.ifCond .eq 11, 3) := by decide +kernel
theorem dX2_size_7 : decode cX2_size 7 = .ok (.aload_n 0, 1) := by decide +kernel
theorem dX2_size_8 : decode cX2_size 8 = .ok (.getfield 9, 3) := by decide +kernel
theorem dX2_size_11 : decode cX2_size 11 = .ok (.iconst 2, 1) := by decide +kernel
theorem dX2_size_12 : decode cX2_size 12 = .ok (.if_icmp .ne 7, 3) := by decide +kernel
theorem dX2_size_15 : decode cX2_size 15 = .ok (.iconst 1, 1) := by decide +kernel
theorem dX2_size_16 : decode cX2_size 16 = .ok (.goto 4, 3) := by decide +kernel
theorem dX2_size_19 : decode cX2_size 19 = .ok (.iconst 2, 1) := by decide +kernel
theorem dX2_size_20 : decode cX2_size 20 = .ok (.ireturn, 1) := by decide +kernel
theorem dX2_rightCount_0 : decode cX2_rightCount 0 = .ok (.aload_n 0, 1) := by decide +kernel
theorem dX2_rightCount_1 : decode cX2_rightCount 1 = .ok (.invokevirtual 21, 3) := by decide +kernel
theorem dX2_rightCount_4 : decode cX2_rightCount 4 = .ok (.iconst 2, 1) := by decide +kernel
theorem dX2_rightCount_5 : decode cX2_rightCount 5 = .ok (.if_icmp .ne 12, 3) := by decide +kernel
theorem dX2_rightCount_8 : decode cX2_rightCount 8 = .ok (.aload_n 0, 1) := by decide +kernel
theorem dX2_rightCount_9 : decode cX2_rightCount 9 = .ok (.getfield 18, 3) := by decide +kernel
theorem dX2_rightCount_12 : decode cX2_rightCount 12 = .ok (.ifCond .ge 5, 3) := by decide +kernel
theorem dX2_rightCount_15 : decode cX2_rightCount 15 = .ok (.iconst 1, 1) := by decide +kernel
theorem dX2_rightCount_16 : decode cX2_rightCount 16 = .ok (.ireturn, 1) := by decide +kernel
theorem dX2_rightCount_17 : decode cX2_rightCount 17 = .ok (.aload_n 0, 1) := by decide +kernel
theorem dX2_rightCount_18 : decode cX2_rightCount 18 = .ok (.getfield 15, 3) := by decide +kernel
theorem dX2_rightCount_21 : decode cX2_rightCount 21 = .ok (.ifCond .lt 5, 3) := by decide +kernel
theorem dX2_rightCount_24 : decode cX2_rightCount 24 = .ok (.iconst 0, 1) := by decide +kernel
theorem dX2_rightCount_25 : decode cX2_rightCount 25 = .ok (.ireturn, 1) := by decide +kernel
theorem dX2_rightCount_26 : decode cX2_rightCount 26 = .ok (.aload_n 0, 1) := by decide +kernel
theorem dX2_rightCount_27 : decode cX2_rightCount 27 = .ok (.invokevirtual 21, 3) := by decide +kernel
theorem dX2_rightCount_30 : decode cX2_rightCount 30 = .ok (.iconst 2, 1) := by decide +kernel
theorem dX2_rightCount_31 : decode cX2_rightCount 31 = .ok (.if_icmp .ne 14, 3) := by decide +kernel
theorem dX2_rightCount_34 : decode cX2_rightCount 34 = .ok (.aload_n 0, 1) := by decide +kernel
theorem dX2_rightCount_35 : decode cX2_rightCount 35 = .ok (.getfield 18, 3) := by decide +kernel
theorem dX2_rightCount_38 : decode cX2_rightCount 38 = .ok (.ifCond .le 7, 3) := by decide +kernel
theorem dX2_rightCount_41 : decode cX2_rightCount 41 = .ok (.iconst 2, 1) := by decide +kernel
theorem dX2_rightCount_42 : decode cX2_rightCount 42 = .ok (.goto 4, 3) := by decide +kernel
theorem dX2_rightCount_45 : decode cX2_rightCount 45 = .ok (.iconst 1, 1) := by decide +kernel
theorem dX2_rightCount_46 : decode cX2_rightCount 46 = .ok (.ireturn, 1) := by decide +kernel
theorem dX2_axisCount_0 : decode cX2_axisCount 0 = .ok (.aload_n 0, 1) := by decide +kernel
theorem dX2_axisCount_1 : decode cX2_axisCount 1 = .ok (.invokevirtual 21, 3) := by decide +kernel
theorem dX2_axisCount_4 : decode cX2_axisCount 4 = .ok (.iconst 1, 1) := by decide +kernel
theorem dX2_axisCount_5 : decode cX2_axisCount 5 = .ok (.if_icmp .ne 16, 3) := by decide +kernel
theorem dX2_axisCount_8 : decode cX2_axisCount 8 = .ok (.aload_n 0, 1) := by decide +kernel
theorem dX2_axisCount_9 : decode cX2_axisCount 9 = .ok (.getfield 15, 3) := by decide +kernel
theorem dX2_axisCount_12 : decode cX2_axisCount 12 = .ok (.ifCond .ne 7, 3) := by decide +kernel
theorem dX2_axisCount_15 : decode cX2_axisCount 15 = .ok (.iconst 1, 1) := by decide +kernel
theorem dX2_axisCount_16 : decode cX2_axisCount 16 = .ok (.goto 4, 3) := by decide +kernel
theorem dX2_axisCount_19 : decode cX2_axisCount 19 = .ok (.iconst 0, 1) := by decide +kernel
theorem dX2_axisCount_20 : decode cX2_axisCount 20 = .ok (.ireturn, 1) := by decide +kernel
theorem dX2_axisCount_21 : decode cX2_axisCount 21 = .ok (.aload_n 0, 1) := by decide +kernel
theorem dX2_axisCount_22 : decode cX2_axisCount 22 = .ok (.getfield 18, 3) := by decide +kernel
theorem dX2_axisCount_25 : decode cX2_axisCount 25 = .ok (.ifCond .ge 5, 3) := by decide +kernel
theorem dX2_axisCount_28 : decode cX2_axisCount 28 = .ok (.iconst 0, 1) := by decide +kernel
theorem dX2_axisCount_29 : decode cX2_axisCount 29 = .ok (.ireturn, 1) := by decide +kernel
theorem dX2_axisCount_30 : decode cX2_axisCount 30 = .ok (.aload_n 0, 1) := by decide +kernel
theorem dX2_axisCount_31 : decode cX2_axisCount 31 = .ok (.getfield 18, 3) := by decide +kernel
theorem dX2_axisCount_34 : decode cX2_axisCount 34 = .ok (.ifCond .ne 16, 3) := by decide +kernel
theorem dX2_axisCount_37 : decode cX2_axisCount 37 = .ok (.aload_n 0, 1) := by decide +kernel
theorem dX2_axisCount_38 : decode cX2_axisCount 38 = .ok (.getfield 15, 3) := by decide +kernel
theorem dX2_axisCount_41 : decode cX2_axisCount 41 = .ok (.ifCond .ne 7, 3) := by decide +kernel
theorem dX2_axisCount_44 : decode cX2_axisCount 44 = .ok (.iconst 2, 1) := by decide +kernel
theorem dX2_axisCount_45 : decode cX2_axisCount 45 = .ok (.goto 4, 3) := by decide +kernel
theorem dX2_axisCount_48 : decode cX2_axisCount 48 = .ok (.iconst 1, 1) := by decide +kernel
theorem dX2_axisCount_49 : decode cX2_axisCount 49 = .ok (.ireturn, 1) := by decide +kernel
theorem dX2_axisCount_50 : decode cX2_axisCount 50 = .ok (.aload_n 0, 1) := by decide +kernel
theorem dX2_axisCount_51 : decode cX2_axisCount 51 = .ok (.getfield 15, 3) := by decide +kernel
theorem dX2_axisCount_54 : decode cX2_axisCount 54 = .ok (.ifCond .ne 7, 3) := by decide +kernel
theorem dX2_axisCount_57 : decode cX2_axisCount 57 = .ok (.iconst 2, 1) := by decide +kernel
theorem dX2_axisCount_58 : decode cX2_axisCount 58 = .ok (.goto 4, 3) := by decide +kernel
theorem dX2_axisCount_61 : decode cX2_axisCount 61 = .ok (.iconst 0, 1) := by decide +kernel
theorem dX2_axisCount_62 : decode cX2_axisCount 62 = .ok (.ireturn, 1) := by decide +kernel
theorem dX2_leftCount_0 : decode cX2_leftCount 0 = .ok (.aload_n 0, 1) := by decide +kernel
theorem dX2_leftCount_1 : decode cX2_leftCount 1 = .ok (.invokevirtual 21, 3) := by decide +kernel
theorem dX2_leftCount_4 : decode cX2_leftCount 4 = .ok (.aload_n 0, 1) := by decide +kernel
theorem dX2_leftCount_5 : decode cX2_leftCount 5 = .ok (.invokevirtual 25, 3) := by decide +kernel
theorem dX2_leftCount_8 : decode cX2_leftCount 8 = .ok (.isub, 1) := by decide +kernel
theorem dX2_leftCount_9 : decode cX2_leftCount 9 = .ok (.aload_n 0, 1) := by decide +kernel
theorem dX2_leftCount_10 : decode cX2_leftCount 10 = .ok (.invokevirtual 28, 3) := by decide +kernel
theorem dX2_leftCount_13 : decode cX2_leftCount 13 = .ok (.isub, 1) := by decide +kernel
theorem dX2_leftCount_14 : decode cX2_leftCount 14 = .ok (.ireturn, 1) := by decide +kernel
theorem dX2_stretch_0 : decode cX2_stretch 0 = .ok (.aload_n 0, 1) := by decide +kernel
theorem dX2_stretch_1 : decode cX2_stretch 1 = .ok (.invokevirtual 21, 3) := by decide +kernel
theorem dX2_stretch_4 : decode cX2_stretch 4 = .ok (.iconst 1, 1) := by decide +kernel
theorem dX2_stretch_5 : decode cX2_stretch 5 = .ok (.if_icmp .ne 12, 3) := by decide +kernel
theorem dX2_stretch_8 : decode cX2_stretch 8 = .ok (.aload_n 1, 1) := by decide +kernel
theorem dX2_stretch_9 : decode cX2_stretch 9 = .ok (.aload_n 0, 1) := by decide +kernel
theorem dX2_stretch_10 : decode cX2_stretch 10 = .ok (.getfield 15, 3) := by decide +kernel
theorem dX2_stretch_13 : decode cX2_stretch 13 = .ok (.invokestatic 31, 3) := by decide +kernel
theorem dX2_stretch_16 : decode cX2_stretch 16 = .ok (.return_, 1) := by decide +kernel
theorem dX2_stretch_17 : decode cX2_stretch 17 = .ok (.bipush 6, 2) := by decide +kernel
theorem dX2_stretch_19 : decode cX2_stretch 19 = .ok (.istore_n 2, 1) := by decide +kernel
theorem dX2_stretch_20 : decode cX2_stretch 20 = .ok (.iload_n 2, 1) := by decide +kernel
theorem dX2_stretch_21 : decode cX2_stretch 21 = .ok (.ifCond .lt 63, 3) := by decide +kernel
theorem dX2_stretch_24 : decode cX2_stretch 24 = .ok (.iload_n 2, 1) := by decide +kernel
theorem dX2_stretch_25 : decode cX2_stretch 25 = .ok (.iconst 2, 1) := by decide +kernel
theorem dX2_stretch_26 : decode cX2_stretch 26 = .ok (.if_icmp .ge 7, 3) := by decide +kernel
theorem dX2_stretch_29 : decode cX2_stretch 29 = .ok (.lconst 0, 1) := by decide +kernel
theorem dX2_stretch_30 : decode cX2_stretch 30 = .ok (.goto 8, 3) := by decide +kernel
theorem dX2_stretch_33 : decode cX2_stretch 33 = .ok (.aload_n 1, 1) := by decide +kernel
theorem dX2_stretch_34 : decode cX2_stretch 34 = .ok (.iload_n 2, 1) := by decide +kernel
theorem dX2_stretch_35 : decode cX2_stretch 35 = .ok (.iconst 2, 1) := by decide +kernel
theorem dX2_stretch_36 : decode cX2_stretch 36 = .ok (.isub, 1) := by decide +kernel
theorem dX2_stretch_37 : decode cX2_stretch 37 = .ok (.laload, 1) := by decide +kernel
theorem dX2_stretch_38 : decode cX2_stretch 38 = .ok (.lstore_n 3, 1) := by decide +kernel
theorem dX2_stretch_39 : decode cX2_stretch 39 = .ok (.iload_n 2, 1) := by decide +kernel
theorem dX2_stretch_40 : decode cX2_stretch 40 = .ok (.iconst 1, 1) := by decide +kernel
theorem dX2_stretch_41 : decode cX2_stretch 41 = .ok (.if_icmp .ge 7, 3) := by decide +kernel
theorem dX2_stretch_44 : decode cX2_stretch 44 = .ok (.lconst 0, 1) := by decide +kernel
theorem dX2_stretch_45 : decode cX2_stretch 45 = .ok (.goto 8, 3) := by decide +kernel
theorem dX2_stretch_48 : decode cX2_stretch 48 = .ok (.aload_n 1, 1) := by decide +kernel
theorem dX2_stretch_49 : decode cX2_stretch 49 = .ok (.iload_n 2, 1) := by decide +kernel
theorem dX2_stretch_50 : decode cX2_stretch 50 = .ok (.iconst 1, 1) := by decide +kernel
theorem dX2_stretch_51 : decode cX2_stretch 51 = .ok (.isub, 1) := by decide +kernel
theorem dX2_stretch_52 : decode cX2_stretch 52 = .ok (.laload, 1) := by decide +kernel
theorem dX2_stretch_53 : decode cX2_stretch 53 = .ok (.lstore 5, 2) := by decide +kernel
theorem dX2_stretch_55 : decode cX2_stretch 55 = .ok (.aload_n 1, 1) := by decide +kernel
theorem dX2_stretch_56 : decode cX2_stretch 56 = .ok (.iload_n 2, 1) := by decide +kernel
theorem dX2_stretch_57 : decode cX2_stretch 57 = .ok (.lload_n 3, 1) := by decide +kernel
theorem dX2_stretch_58 : decode cX2_stretch 58 = .ok (.aload_n 0, 1) := by decide +kernel
theorem dX2_stretch_59 : decode cX2_stretch 59 = .ok (.getfield 15, 3) := by decide +kernel
theorem dX2_stretch_62 : decode cX2_stretch 62 = .ok (.i2l, 1) := by decide +kernel
theorem dX2_stretch_63 : decode cX2_stretch 63 = .ok (.lload 5, 2) := by decide +kernel
theorem dX2_stretch_65 : decode cX2_stretch 65 = .ok (.lmul, 1) := by decide +kernel
theorem dX2_stretch_66 : decode cX2_stretch 66 = .ok (.ladd, 1) := by decide +kernel
theorem dX2_stretch_67 : decode cX2_stretch 67 = .ok (.aload_n 0, 1) := by decide +kernel
theorem dX2_stretch_68 : decode cX2_stretch 68 = .ok (.getfield 18, 3) := by decide +kernel
theorem dX2_stretch_71 : decode cX2_stretch 71 = .ok (.i2l, 1) := by decide +kernel
theorem dX2_stretch_72 : decode cX2_stretch 72 = .ok (.aload_n 1, 1) := by decide +kernel
theorem dX2_stretch_73 : decode cX2_stretch 73 = .ok (.iload_n 2, 1) := by decide +kernel
theorem dX2_stretch_74 : decode cX2_stretch 74 = .ok (.laload, 1) := by decide +kernel
theorem dX2_stretch_75 : decode cX2_stretch 75 = .ok (.lmul, 1) := by decide +kernel
theorem dX2_stretch_76 : decode cX2_stretch 76 = .ok (.ladd, 1) := by decide +kernel
theorem dX2_stretch_77 : decode cX2_stretch 77 = .ok (.lastore, 1) := by decide +kernel
theorem dX2_stretch_78 : decode cX2_stretch 78 = .ok (.iinc 2 (-1), 3) := by decide +kernel
theorem dX2_stretch_81 : decode cX2_stretch 81 = .ok (.goto (-61), 3) := by decide +kernel
theorem dX2_stretch_84 : decode cX2_stretch 84 = .ok (.return_, 1) := by decide +kernel
theorem dX2_timesWithin_0 : decode cX2_timesWithin 0 = .ok (.iconst 0, 1) := by decide +kernel
theorem dX2_timesWithin_1 : decode cX2_timesWithin 1 = .ok (.istore_n 2, 1) := by decide +kernel
theorem dX2_timesWithin_2 : decode cX2_timesWithin 2 = .ok (.iload_n 2, 1) := by decide +kernel
theorem dX2_timesWithin_3 : decode cX2_timesWithin 3 = .ok (.bipush 7, 2) := by decide +kernel
theorem dX2_timesWithin_5 : decode cX2_timesWithin 5 = .ok (.if_icmp .ge 28, 3) := by decide +kernel
theorem dX2_timesWithin_8 : decode cX2_timesWithin 8 = .ok (.aload_n 1, 1) := by decide +kernel
theorem dX2_timesWithin_9 : decode cX2_timesWithin 9 = .ok (.invokestatic 37, 3) := by decide +kernel
theorem dX2_timesWithin_12 : decode cX2_timesWithin 12 = .ok (.aload_n 0, 1) := by decide +kernel
theorem dX2_timesWithin_13 : decode cX2_timesWithin 13 = .ok (.invokevirtual 21, 3) := by decide +kernel
theorem dX2_timesWithin_16 : decode cX2_timesWithin 16 = .ok (.if_icmp .lt 17, 3) := by decide +kernel
theorem dX2_timesWithin_19 : decode cX2_timesWithin 19 = .ok (.aload_n 0, 1) := by decide +kernel
theorem dX2_timesWithin_20 : decode cX2_timesWithin 20 = .ok (.aload_n 1, 1) := by decide +kernel
theorem dX2_timesWithin_21 : decode cX2_timesWithin 21 = .ok (.invokevirtual 41, 3) := by decide +kernel
theorem dX2_timesWithin_24 : decode cX2_timesWithin 24 = .ok (.ifCond .eq 9, 3) := by decide +kernel
theorem dX2_timesWithin_27 : decode cX2_timesWithin 27 = .ok (.iinc 2 1, 3) := by decide +kernel
theorem dX2_timesWithin_30 : decode cX2_timesWithin 30 = .ok (.goto (-28), 3) := by decide +kernel
theorem dX2_timesWithin_33 : decode cX2_timesWithin 33 = .ok (.iload_n 2, 1) := by decide +kernel
theorem dX2_timesWithin_34 : decode cX2_timesWithin 34 = .ok (.ireturn, 1) := by decide +kernel
theorem dX2_dividesOnce_0 : decode cX2_dividesOnce 0 = .ok (.aload_n 0, 1) := by decide +kernel
theorem dX2_dividesOnce_1 : decode cX2_dividesOnce 1 = .ok (.invokevirtual 21, 3) := by decide +kernel
theorem dX2_dividesOnce_4 : decode cX2_dividesOnce 4 = .ok (.istore_n 2, 1) := by decide +kernel
theorem dX2_dividesOnce_5 : decode cX2_dividesOnce 5 = .ok (.aload_n 1, 1) := by decide +kernel
theorem dX2_dividesOnce_6 : decode cX2_dividesOnce 6 = .ok (.invokestatic 37, 3) := by decide +kernel
theorem dX2_dividesOnce_9 : decode cX2_dividesOnce 9 = .ok (.istore_n 3, 1) := by decide +kernel
theorem dX2_dividesOnce_10 : decode cX2_dividesOnce 10 = .ok (.iload_n 3, 1) := by decide +kernel
theorem dX2_dividesOnce_11 : decode cX2_dividesOnce 11 = .ok (.iload_n 2, 1) := by decide +kernel
theorem dX2_dividesOnce_12 : decode cX2_dividesOnce 12 = .ok (.if_icmp .lt 48, 3) := by decide +kernel
theorem dX2_dividesOnce_15 : decode cX2_dividesOnce 15 = .ok (.aload_n 1, 1) := by decide +kernel
theorem dX2_dividesOnce_16 : decode cX2_dividesOnce 16 = .ok (.iload_n 3, 1) := by decide +kernel
theorem dX2_dividesOnce_17 : decode cX2_dividesOnce 17 = .ok (.iconst 1, 1) := by decide +kernel
theorem dX2_dividesOnce_18 : decode cX2_dividesOnce 18 = .ok (.isub, 1) := by decide +kernel
theorem dX2_dividesOnce_19 : decode cX2_dividesOnce 19 = .ok (.dup2, 1) := by decide +kernel
theorem dX2_dividesOnce_20 : decode cX2_dividesOnce 20 = .ok (.laload, 1) := by decide +kernel
theorem dX2_dividesOnce_21 : decode cX2_dividesOnce 21 = .ok (.aload_n 0, 1) := by decide +kernel
theorem dX2_dividesOnce_22 : decode cX2_dividesOnce 22 = .ok (.getfield 15, 3) := by decide +kernel
theorem dX2_dividesOnce_25 : decode cX2_dividesOnce 25 = .ok (.i2l, 1) := by decide +kernel
theorem dX2_dividesOnce_26 : decode cX2_dividesOnce 26 = .ok (.aload_n 1, 1) := by decide +kernel
theorem dX2_dividesOnce_27 : decode cX2_dividesOnce 27 = .ok (.iload_n 3, 1) := by decide +kernel
theorem dX2_dividesOnce_28 : decode cX2_dividesOnce 28 = .ok (.laload, 1) := by decide +kernel
theorem dX2_dividesOnce_29 : decode cX2_dividesOnce 29 = .ok (.lmul, 1) := by decide +kernel
theorem dX2_dividesOnce_30 : decode cX2_dividesOnce 30 = .ok (.lsub, 1) := by decide +kernel
theorem dX2_dividesOnce_31 : decode cX2_dividesOnce 31 = .ok (.lastore, 1) := by decide +kernel
theorem dX2_dividesOnce_32 : decode cX2_dividesOnce 32 = .ok (.iload_n 2, 1) := by decide +kernel
theorem dX2_dividesOnce_33 : decode cX2_dividesOnce 33 = .ok (.iconst 2, 1) := by decide +kernel
theorem dX2_dividesOnce_34 : decode cX2_dividesOnce 34 = .ok (.if_icmp .ne 20, 3) := by decide +kernel
theorem dX2_dividesOnce_37 : decode cX2_dividesOnce 37 = .ok (.aload_n 1, 1) := by decide +kernel
theorem dX2_dividesOnce_38 : decode cX2_dividesOnce 38 = .ok (.iload_n 3, 1) := by decide +kernel
theorem dX2_dividesOnce_39 : decode cX2_dividesOnce 39 = .ok (.iconst 2, 1) := by decide +kernel
theorem dX2_dividesOnce_40 : decode cX2_dividesOnce 40 = .ok (.isub, 1) := by decide +kernel
theorem dX2_dividesOnce_41 : decode cX2_dividesOnce 41 = .ok (.dup2, 1) := by decide +kernel
theorem dX2_dividesOnce_42 : decode cX2_dividesOnce 42 = .ok (.laload, 1) := by decide +kernel
theorem dX2_dividesOnce_43 : decode cX2_dividesOnce 43 = .ok (.aload_n 0, 1) := by decide +kernel
theorem dX2_dividesOnce_44 : decode cX2_dividesOnce 44 = .ok (.getfield 18, 3) := by decide +kernel
theorem dX2_dividesOnce_47 : decode cX2_dividesOnce 47 = .ok (.i2l, 1) := by decide +kernel
theorem dX2_dividesOnce_48 : decode cX2_dividesOnce 48 = .ok (.aload_n 1, 1) := by decide +kernel
theorem dX2_dividesOnce_49 : decode cX2_dividesOnce 49 = .ok (.iload_n 3, 1) := by decide +kernel
theorem dX2_dividesOnce_50 : decode cX2_dividesOnce 50 = .ok (.laload, 1) := by decide +kernel
theorem dX2_dividesOnce_51 : decode cX2_dividesOnce 51 = .ok (.lmul, 1) := by decide +kernel
theorem dX2_dividesOnce_52 : decode cX2_dividesOnce 52 = .ok (.lsub, 1) := by decide +kernel
theorem dX2_dividesOnce_53 : decode cX2_dividesOnce 53 = .ok (.lastore, 1) := by decide +kernel
theorem dX2_dividesOnce_54 : decode cX2_dividesOnce 54 = .ok (.iinc 3 (-1), 3) := by decide +kernel
theorem dX2_dividesOnce_57 : decode cX2_dividesOnce 57 = .ok (.goto (-47), 3) := by decide +kernel
theorem dX2_dividesOnce_60 : decode cX2_dividesOnce 60 = .ok (.aload_n 1, 1) := by decide +kernel
theorem dX2_dividesOnce_61 : decode cX2_dividesOnce 61 = .ok (.iconst 0, 1) := by decide +kernel
theorem dX2_dividesOnce_62 : decode cX2_dividesOnce 62 = .ok (.laload, 1) := by decide +kernel
theorem dX2_dividesOnce_63 : decode cX2_dividesOnce 63 = .ok (.lconst 0, 1) := by decide +kernel
theorem dX2_dividesOnce_64 : decode cX2_dividesOnce 64 = .ok (.lcmp, 1) := by decide +kernel
theorem dX2_dividesOnce_65 : decode cX2_dividesOnce 65 = .ok (.ifCond .ne 16, 3) := by decide +kernel
theorem dX2_dividesOnce_68 : decode cX2_dividesOnce 68 = .ok (.iload_n 2, 1) := by decide +kernel
theorem dX2_dividesOnce_69 : decode cX2_dividesOnce 69 = .ok (.iconst 2, 1) := by decide +kernel
theorem dX2_dividesOnce_70 : decode cX2_dividesOnce 70 = .ok (.if_icmp .ne 13, 3) := by decide +kernel
theorem dX2_dividesOnce_73 : decode cX2_dividesOnce 73 = .ok (.aload_n 1, 1) := by decide +kernel
theorem dX2_dividesOnce_74 : decode cX2_dividesOnce 74 = .ok (.iconst 1, 1) := by decide +kernel
theorem dX2_dividesOnce_75 : decode cX2_dividesOnce 75 = .ok (.laload, 1) := by decide +kernel
theorem dX2_dividesOnce_76 : decode cX2_dividesOnce 76 = .ok (.lconst 0, 1) := by decide +kernel
theorem dX2_dividesOnce_77 : decode cX2_dividesOnce 77 = .ok (.lcmp, 1) := by decide +kernel
theorem dX2_dividesOnce_78 : decode cX2_dividesOnce 78 = .ok (.ifCond .eq 5, 3) := by decide +kernel
theorem dX2_dividesOnce_81 : decode cX2_dividesOnce 81 = .ok (.iconst 0, 1) := by decide +kernel
theorem dX2_dividesOnce_82 : decode cX2_dividesOnce 82 = .ok (.ireturn, 1) := by decide +kernel
theorem dX2_dividesOnce_83 : decode cX2_dividesOnce 83 = .ok (.iconst 0, 1) := by decide +kernel
theorem dX2_dividesOnce_84 : decode cX2_dividesOnce 84 = .ok (.istore_n 3, 1) := by decide +kernel
theorem dX2_dividesOnce_85 : decode cX2_dividesOnce 85 = .ok (.iload_n 3, 1) := by decide +kernel
theorem dX2_dividesOnce_86 : decode cX2_dividesOnce 86 = .ok (.bipush 7, 2) := by decide +kernel
theorem dX2_dividesOnce_88 : decode cX2_dividesOnce 88 = .ok (.if_icmp .ge 29, 3) := by decide +kernel
theorem dX2_dividesOnce_91 : decode cX2_dividesOnce 91 = .ok (.aload_n 1, 1) := by decide +kernel
theorem dX2_dividesOnce_92 : decode cX2_dividesOnce 92 = .ok (.iload_n 3, 1) := by decide +kernel
theorem dX2_dividesOnce_93 : decode cX2_dividesOnce 93 = .ok (.iload_n 3, 1) := by decide +kernel
theorem dX2_dividesOnce_94 : decode cX2_dividesOnce 94 = .ok (.iload_n 2, 1) := by decide +kernel
theorem dX2_dividesOnce_95 : decode cX2_dividesOnce 95 = .ok (.iadd, 1) := by decide +kernel
theorem dX2_dividesOnce_96 : decode cX2_dividesOnce 96 = .ok (.bipush 7, 2) := by decide +kernel
theorem dX2_dividesOnce_98 : decode cX2_dividesOnce 98 = .ok (.if_icmp .ge 11, 3) := by decide +kernel
theorem dX2_dividesOnce_101 : decode cX2_dividesOnce 101 = .ok (.aload_n 1, 1) := by decide +kernel
theorem dX2_dividesOnce_102 : decode cX2_dividesOnce 102 = .ok (.iload_n 3, 1) := by decide +kernel
theorem dX2_dividesOnce_103 : decode cX2_dividesOnce 103 = .ok (.iload_n 2, 1) := by decide +kernel
theorem dX2_dividesOnce_104 : decode cX2_dividesOnce 104 = .ok (.iadd, 1) := by decide +kernel
theorem dX2_dividesOnce_105 : decode cX2_dividesOnce 105 = .ok (.laload, 1) := by decide +kernel
theorem dX2_dividesOnce_106 : decode cX2_dividesOnce 106 = .ok (.goto 4, 3) := by decide +kernel
theorem dX2_dividesOnce_109 : decode cX2_dividesOnce 109 = .ok (.lconst 0, 1) := by decide +kernel
theorem dX2_dividesOnce_110 : decode cX2_dividesOnce 110 = .ok (.lastore, 1) := by decide +kernel
theorem dX2_dividesOnce_111 : decode cX2_dividesOnce 111 = .ok (.iinc 3 1, 3) := by decide +kernel
theorem dX2_dividesOnce_114 : decode cX2_dividesOnce 114 = .ok (.goto (-29), 3) := by decide +kernel
theorem dX2_dividesOnce_117 : decode cX2_dividesOnce 117 = .ok (.iconst 1, 1) := by decide +kernel
theorem dX2_dividesOnce_118 : decode cX2_dividesOnce 118 = .ok (.ireturn, 1) := by decide +kernel
theorem dX3_init_0 : decode cX3_init 0 = .ok (.aload_n 0, 1) := by decide +kernel
theorem dX3_init_1 : decode cX3_init 1 = .ok (.invokespecial 3, 3) := by decide +kernel
theorem dX3_init_4 : decode cX3_init 4 = .ok (.aload_n 0, 1) := by decide +kernel
theorem dX3_init_5 : decode cX3_init 5 = .ok (.bipush 7, 2) := by decide +kernel
theorem dX3_init_7 : decode cX3_init 7 = .ok (.newarray .long, 2) := by decide +kernel
theorem dX3_init_9 : decode cX3_init 9 = .ok (.putfield 9, 3) := by decide +kernel
theorem dX3_init_12 : decode cX3_init 12 = .ok (.aload_n 0, 1) := by decide +kernel
theorem dX3_init_13 : decode cX3_init 13 = .ok (.bipush 7, 2) := by decide +kernel
theorem dX3_init_15 : decode cX3_init 15 = .ok (.newarray .long, 2) := by decide +kernel
theorem dX3_init_17 : decode cX3_init 17 = .ok (.putfield 15, 3) := by decide +kernel
theorem dX3_init_20 : decode cX3_init 20 = .ok (.aload_n 0, 1) := by decide +kernel
theorem dX3_init_21 : decode cX3_init 21 = .ok (.bipush 16, 2) := by decide +kernel
theorem dX3_init_23 : decode cX3_init 23 = .ok (.newarray .int, 2) := by decide +kernel
theorem dX3_init_25 : decode cX3_init 25 = .ok (.putfield 18, 3) := by decide +kernel
theorem dX3_init_28 : decode cX3_init 28 = .ok (.aload_n 0, 1) := by decide +kernel
theorem dX3_init_29 : decode cX3_init 29 = .ok (.bipush 6, 2) := by decide +kernel
theorem dX3_init_31 : decode cX3_init 31 = .ok (.anewarray 22, 3) := by decide +kernel
theorem dX3_init_34 : decode cX3_init 34 = .ok (.putfield 24, 3) := by decide +kernel
theorem dX3_init_37 : decode cX3_init 37 = .ok (.iconst 0, 1) := by decide +kernel
theorem dX3_init_38 : decode cX3_init 38 = .ok (.istore_n 1, 1) := by decide +kernel
theorem dX3_init_39 : decode cX3_init 39 = .ok (.iload_n 1, 1) := by decide +kernel
theorem dX3_init_40 : decode cX3_init 40 = .ok (.bipush 6, 2) := by decide +kernel
theorem dX3_init_42 : decode cX3_init 42 = .ok (.if_icmp .ge 22, 3) := by decide +kernel
theorem dX3_init_45 : decode cX3_init 45 = .ok (.aload_n 0, 1) := by decide +kernel
theorem dX3_init_46 : decode cX3_init 46 = .ok (.getfield 24, 3) := by decide +kernel
theorem dX3_init_49 : decode cX3_init 49 = .ok (.iload_n 1, 1) := by decide +kernel
theorem dX3_init_50 : decode cX3_init 50 = .ok (.new 22, 3) := by decide +kernel
theorem dX3_init_53 : decode cX3_init 53 = .ok (.dup, 1) := by decide +kernel
theorem dX3_init_54 : decode cX3_init 54 = .ok (.invokespecial 28, 3) := by decide +kernel
theorem dX3_init_57 : decode cX3_init 57 = .ok (.aastore, 1) := by decide +kernel
theorem dX3_init_58 : decode cX3_init 58 = .ok (.iinc 1 1, 3) := by decide +kernel
theorem dX3_init_61 : decode cX3_init 61 = .ok (.goto (-22), 3) := by decide +kernel
theorem dX3_init_64 : decode cX3_init 64 = .ok (.return_, 1) := by decide +kernel
theorem dX3_takeOver_0 : decode cX3_takeOver 0 = .ok (.aload_n 1, 1) := by decide +kernel
theorem dX3_takeOver_1 : decode cX3_takeOver 1 = .ok (.getfield 9, 3) := by decide +kernel
theorem dX3_takeOver_4 : decode cX3_takeOver 4 = .ok (.iconst 0, 1) := by decide +kernel
theorem dX3_takeOver_5 : decode cX3_takeOver 5 = .ok (.aload_n 0, 1) := by decide +kernel
theorem dX3_takeOver_6 : decode cX3_takeOver 6 = .ok (.getfield 9, 3) := by decide +kernel
theorem dX3_takeOver_9 : decode cX3_takeOver 9 = .ok (.iconst 0, 1) := by decide +kernel
theorem dX3_takeOver_10 : decode cX3_takeOver 10 = .ok (.bipush 7, 2) := by decide +kernel
theorem dX3_takeOver_12 : decode cX3_takeOver 12 = .ok (.invokestatic 29, 3) := by decide +kernel
theorem dX3_takeOver_15 : decode cX3_takeOver 15 = .ok (.aload_n 1, 1) := by decide +kernel
theorem dX3_takeOver_16 : decode cX3_takeOver 16 = .ok (.getfield 15, 3) := by decide +kernel
theorem dX3_takeOver_19 : decode cX3_takeOver 19 = .ok (.iconst 0, 1) := by decide +kernel
theorem dX3_takeOver_20 : decode cX3_takeOver 20 = .ok (.aload_n 0, 1) := by decide +kernel
theorem dX3_takeOver_21 : decode cX3_takeOver 21 = .ok (.getfield 15, 3) := by decide +kernel
theorem dX3_takeOver_24 : decode cX3_takeOver 24 = .ok (.iconst 0, 1) := by decide +kernel
theorem dX3_takeOver_25 : decode cX3_takeOver 25 = .ok (.bipush 7, 2) := by decide +kernel
theorem dX3_takeOver_27 : decode cX3_takeOver 27 = .ok (.invokestatic 29, 3) := by decide +kernel
theorem dX3_takeOver_30 : decode cX3_takeOver 30 = .ok (.aload_n 0, 1) := by decide +kernel
theorem dX3_takeOver_31 : decode cX3_takeOver 31 = .ok (.aload_n 1, 1) := by decide +kernel
theorem dX3_takeOver_32 : decode cX3_takeOver 32 = .ok (.getfield 35, 3) := by decide +kernel
theorem dX3_takeOver_35 : decode cX3_takeOver 35 = .ok (.putfield 35, 3) := by decide +kernel
theorem dX3_takeOver_38 : decode cX3_takeOver 38 = .ok (.aload_n 1, 1) := by decide +kernel
theorem dX3_takeOver_39 : decode cX3_takeOver 39 = .ok (.getfield 18, 3) := by decide +kernel
theorem dX3_takeOver_42 : decode cX3_takeOver 42 = .ok (.iconst 0, 1) := by decide +kernel
theorem dX3_takeOver_43 : decode cX3_takeOver 43 = .ok (.aload_n 0, 1) := by decide +kernel
theorem dX3_takeOver_44 : decode cX3_takeOver 44 = .ok (.getfield 18, 3) := by decide +kernel
theorem dX3_takeOver_47 : decode cX3_takeOver 47 = .ok (.iconst 0, 1) := by decide +kernel
theorem dX3_takeOver_48 : decode cX3_takeOver 48 = .ok (.bipush 16, 2) := by decide +kernel
theorem dX3_takeOver_50 : decode cX3_takeOver 50 = .ok (.invokestatic 29, 3) := by decide +kernel
theorem dX3_takeOver_53 : decode cX3_takeOver 53 = .ok (.aload_n 0, 1) := by decide +kernel
theorem dX3_takeOver_54 : decode cX3_takeOver 54 = .ok (.aload_n 1, 1) := by decide +kernel
theorem dX3_takeOver_55 : decode cX3_takeOver 55 = .ok (.getfield 39, 3) := by decide +kernel
theorem dX3_takeOver_58 : decode cX3_takeOver 58 = .ok (.putfield 39, 3) := by decide +kernel
theorem dX3_takeOver_61 : decode cX3_takeOver 61 = .ok (.iconst 0, 1) := by decide +kernel
theorem dX3_takeOver_62 : decode cX3_takeOver 62 = .ok (.istore_n 2, 1) := by decide +kernel
theorem dX3_takeOver_63 : decode cX3_takeOver 63 = .ok (.iload_n 2, 1) := by decide +kernel
theorem dX3_takeOver_64 : decode cX3_takeOver 64 = .ok (.bipush 6, 2) := by decide +kernel
theorem dX3_takeOver_66 : decode cX3_takeOver 66 = .ok (.if_icmp .ge 37, 3) := by decide +kernel
theorem dX3_takeOver_69 : decode cX3_takeOver 69 = .ok (.aload_n 1, 1) := by decide +kernel
theorem dX3_takeOver_70 : decode cX3_takeOver 70 = .ok (.getfield 24, 3) := by decide +kernel
theorem dX3_takeOver_73 : decode cX3_takeOver 73 = .ok (.iload_n 2, 1) := by decide +kernel
theorem dX3_takeOver_74 : decode cX3_takeOver 74 = .ok (.aaload, 1) := by decide +kernel
theorem dX3_takeOver_75 : decode cX3_takeOver 75 = .ok (.astore_n 3, 1) := by decide +kernel
theorem dX3_takeOver_76 : decode cX3_takeOver 76 = .ok (.aload_n 0, 1) := by decide +kernel
theorem dX3_takeOver_77 : decode cX3_takeOver 77 = .ok (.getfield 24, 3) := by decide +kernel
theorem dX3_takeOver_80 : decode cX3_takeOver 80 = .ok (.iload_n 2, 1) := by decide +kernel
theorem dX3_takeOver_81 : decode cX3_takeOver 81 = .ok (.aaload, 1) := by decide +kernel
theorem dX3_takeOver_82 : decode cX3_takeOver 82 = .ok (.aload_n 3, 1) := by decide +kernel
theorem dX3_takeOver_83 : decode cX3_takeOver 83 = .ok (.getfield 42, 3) := by decide +kernel
theorem dX3_takeOver_86 : decode cX3_takeOver 86 = .ok (.aload_n 3, 1) := by decide +kernel
theorem dX3_takeOver_87 : decode cX3_takeOver 87 = .ok (.getfield 45, 3) := by decide +kernel
theorem dX3_takeOver_90 : decode cX3_takeOver 90 = .ok (.aload_n 3, 1) := by decide +kernel
theorem dX3_takeOver_91 : decode cX3_takeOver 91 = .ok (.getfield 48, 3) := by decide +kernel
theorem dX3_takeOver_94 : decode cX3_takeOver 94 = .ok (.invokevirtual 51, 3) := by decide +kernel
theorem dX3_takeOver_97 : decode cX3_takeOver 97 = .ok (.iinc 2 1, 3) := by decide +kernel
theorem dX3_takeOver_100 : decode cX3_takeOver 100 = .ok (.goto (-37), 3) := by decide +kernel
theorem dX3_takeOver_103 : decode cX3_takeOver 103 = .ok (.aload_n 0, 1) := by decide +kernel
theorem dX3_takeOver_104 : decode cX3_takeOver 104 = .ok (.aload_n 1, 1) := by decide +kernel
theorem dX3_takeOver_105 : decode cX3_takeOver 105 = .ok (.getfield 55, 3) := by decide +kernel
theorem dX3_takeOver_108 : decode cX3_takeOver 108 = .ok (.putfield 55, 3) := by decide +kernel
theorem dX3_takeOver_111 : decode cX3_takeOver 111 = .ok (.return_, 1) := by decide +kernel
theorem dX3_waitsAhead_0 : decode cX3_waitsAhead 0 = .ok (.iconst 0, 1) := by decide +kernel
theorem dX3_waitsAhead_1 : decode cX3_waitsAhead 1 = .ok (.istore_n 3, 1) := by decide +kernel
theorem dX3_waitsAhead_2 : decode cX3_waitsAhead 2 = .ok (.iload_n 3, 1) := by decide +kernel
theorem dX3_waitsAhead_3 : decode cX3_waitsAhead 3 = .ok (.iload_n 2, 1) := by decide +kernel
theorem dX3_waitsAhead_4 : decode cX3_waitsAhead 4 = .ok (.if_icmp .ge 21, 3) := by decide +kernel
theorem dX3_waitsAhead_7 : decode cX3_waitsAhead 7 = .ok (.aload_n 0, 1) := by decide +kernel
theorem dX3_waitsAhead_8 : decode cX3_waitsAhead 8 = .ok (.getfield 18, 3) := by decide +kernel
theorem dX3_waitsAhead_11 : decode cX3_waitsAhead 11 = .ok (.iload_n 3, 1) := by decide +kernel
theorem dX3_waitsAhead_12 : decode cX3_waitsAhead 12 = .ok (.iaload, 1) := by decide +kernel
theorem dX3_waitsAhead_13 : decode cX3_waitsAhead 13 = .ok (.iload_n 1, 1) := by decide +kernel
theorem dX3_waitsAhead_14 : decode cX3_waitsAhead 14 = .ok (.if_icmp .ne 5, 3) := by decide +kernel
theorem dX3_waitsAhead_17 : decode cX3_waitsAhead 17 = .ok (.iconst 1, 1) := by decide +kernel
theorem dX3_waitsAhead_18 : decode cX3_waitsAhead 18 = .ok (.ireturn, 1) := by decide +kernel
theorem dX3_waitsAhead_19 : decode cX3_waitsAhead 19 = .ok (.iinc 3 1, 3) := by decide +kernel
theorem dX3_waitsAhead_22 : decode cX3_waitsAhead 22 = .ok (.goto (-20), 3) := by decide +kernel
theorem dX3_waitsAhead_25 : decode cX3_waitsAhead 25 = .ok (.iconst 0, 1) := by decide +kernel
theorem dX3_waitsAhead_26 : decode cX3_waitsAhead 26 = .ok (.ireturn, 1) := by decide +kernel
theorem dX3_turnLine_0 : decode cX3_turnLine 0 = .ok (.iconst 0, 1) := by decide +kernel
theorem dX3_turnLine_1 : decode cX3_turnLine 1 = .ok (.istore_n 1, 1) := by decide +kernel
theorem dX3_turnLine_2 : decode cX3_turnLine 2 = .ok (.iload_n 1, 1) := by decide +kernel
theorem dX3_turnLine_3 : decode cX3_turnLine 3 = .ok (.aload_n 0, 1) := by decide +kernel
theorem dX3_turnLine_4 : decode cX3_turnLine 4 = .ok (.getfield 39, 3) := by decide +kernel
theorem dX3_turnLine_7 : decode cX3_turnLine 7 = .ok (.iconst 2, 1) := by decide +kernel
theorem dX3_turnLine_8 : decode cX3_turnLine 8 = .ok (.idiv, 1) := by decide +kernel
theorem dX3_turnLine_9 : decode cX3_turnLine 9 = .ok (.if_icmp .ge 22, 3) := by decide +kernel
theorem dX3_turnLine_12 : decode cX3_turnLine 12 = .ok (.aload_n 0, 1) := by decide +kernel
theorem dX3_turnLine_13 : decode cX3_turnLine 13 = .ok (.iload_n 1, 1) := by decide +kernel
theorem dX3_turnLine_14 : decode cX3_turnLine 14 = .ok (.aload_n 0, 1) := by decide +kernel
theorem dX3_turnLine_15 : decode cX3_turnLine 15 = .ok (.getfield 39, 3) := by decide +kernel
theorem dX3_turnLine_18 : decode cX3_turnLine 18 = .ok (.iconst 1, 1) := by decide +kernel
theorem dX3_turnLine_19 : decode cX3_turnLine 19 = .ok (.isub, 1) := by decide +kernel
theorem dX3_turnLine_20 : decode cX3_turnLine 20 = .ok (.iload_n 1, 1) := by decide +kernel
theorem dX3_turnLine_21 : decode cX3_turnLine 21 = .ok (.isub, 1) := by decide +kernel
theorem dX3_turnLine_22 : decode cX3_turnLine 22 = .ok (.invokevirtual 58, 3) := by decide +kernel
theorem dX3_turnLine_25 : decode cX3_turnLine 25 = .ok (.iinc 1 1, 3) := by decide +kernel
theorem dX3_turnLine_28 : decode cX3_turnLine 28 = .ok (.goto (-26), 3) := by decide +kernel
theorem dX3_turnLine_31 : decode cX3_turnLine 31 = .ok (.return_, 1) := by decide +kernel
theorem dX3_sortLine_0 : decode cX3_sortLine 0 = .ok (.iconst 1, 1) := by decide +kernel
theorem dX3_sortLine_1 : decode cX3_sortLine 1 = .ok (.istore_n 1, 1) := by decide +kernel
theorem dX3_sortLine_2 : decode cX3_sortLine 2 = .ok (.iload_n 1, 1) := by decide +kernel
theorem dX3_sortLine_3 : decode cX3_sortLine 3 = .ok (.aload_n 0, 1) := by decide +kernel
theorem dX3_sortLine_4 : decode cX3_sortLine 4 = .ok (.getfield 39, 3) := by decide +kernel
theorem dX3_sortLine_7 : decode cX3_sortLine 7 = .ok (.if_icmp .ge 46, 3) := by decide +kernel
theorem dX3_sortLine_10 : decode cX3_sortLine 10 = .ok (.iload_n 1, 1) := by decide +kernel
theorem dX3_sortLine_11 : decode cX3_sortLine 11 = .ok (.istore_n 2, 1) := by decide +kernel
theorem dX3_sortLine_12 : decode cX3_sortLine 12 = .ok (.iload_n 2, 1) := by decide +kernel
theorem dX3_sortLine_13 : decode cX3_sortLine 13 = .ok (.ifCond .le 34, 3) := by decide +kernel
theorem dX3_sortLine_16 : decode cX3_sortLine 16 = .ok (.aload_n 0, 1) := by decide +kernel
theorem dX3_sortLine_17 : decode cX3_sortLine 17 = .ok (.getfield 18, 3) := by decide +kernel
theorem dX3_sortLine_20 : decode cX3_sortLine 20 = .ok (.iload_n 2, 1) := by decide +kernel
theorem dX3_sortLine_21 : decode cX3_sortLine 21 = .ok (.iconst 1, 1) := by decide +kernel
theorem dX3_sortLine_22 : decode cX3_sortLine 22 = .ok (.isub, 1) := by decide +kernel
theorem dX3_sortLine_23 : decode cX3_sortLine 23 = .ok (.iaload, 1) := by decide +kernel
theorem dX3_sortLine_24 : decode cX3_sortLine 24 = .ok (.aload_n 0, 1) := by decide +kernel
theorem dX3_sortLine_25 : decode cX3_sortLine 25 = .ok (.getfield 18, 3) := by decide +kernel
theorem dX3_sortLine_28 : decode cX3_sortLine 28 = .ok (.iload_n 2, 1) := by decide +kernel
theorem dX3_sortLine_29 : decode cX3_sortLine 29 = .ok (.iaload, 1) := by decide +kernel
theorem dX3_sortLine_30 : decode cX3_sortLine 30 = .ok (.if_icmp .le 17, 3) := by decide +kernel
theorem dX3_sortLine_33 : decode cX3_sortLine 33 = .ok (.aload_n 0, 1) := by decide +kernel
theorem dX3_sortLine_34 : decode cX3_sortLine 34 = .ok (.iload_n 2, 1) := by decide +kernel
theorem dX3_sortLine_35 : decode cX3_sortLine 35 = .ok (.iconst 1, 1) := by decide +kernel
theorem dX3_sortLine_36 : decode cX3_sortLine 36 = .ok (.isub, 1) := by decide +kernel
theorem dX3_sortLine_37 : decode cX3_sortLine 37 = .ok (.iload_n 2, 1) := by decide +kernel
theorem dX3_sortLine_38 : decode cX3_sortLine 38 = .ok (.invokevirtual 58, 3) := by decide +kernel
theorem dX3_sortLine_41 : decode cX3_sortLine 41 = .ok (.iinc 2 (-1), 3) := by decide +kernel
theorem dX3_sortLine_44 : decode cX3_sortLine 44 = .ok (.goto (-32), 3) := by decide +kernel
theorem dX3_sortLine_47 : decode cX3_sortLine 47 = .ok (.iinc 1 1, 3) := by decide +kernel
theorem dX3_sortLine_50 : decode cX3_sortLine 50 = .ok (.goto (-48), 3) := by decide +kernel
theorem dX3_sortLine_53 : decode cX3_sortLine 53 = .ok (.return_, 1) := by decide +kernel
theorem dX3_firstBecomesLast_0 : decode cX3_firstBecomesLast 0 = .ok (.iconst 1, 1) := by decide +kernel
theorem dX3_firstBecomesLast_1 : decode cX3_firstBecomesLast 1 = .ok (.istore_n 1, 1) := by decide +kernel
theorem dX3_firstBecomesLast_2 : decode cX3_firstBecomesLast 2 = .ok (.iload_n 1, 1) := by decide +kernel
theorem dX3_firstBecomesLast_3 : decode cX3_firstBecomesLast 3 = .ok (.aload_n 0, 1) := by decide +kernel
theorem dX3_firstBecomesLast_4 : decode cX3_firstBecomesLast 4 = .ok (.getfield 39, 3) := by decide +kernel
theorem dX3_firstBecomesLast_7 : decode cX3_firstBecomesLast 7 = .ok (.if_icmp .ge 17, 3) := by decide +kernel
theorem dX3_firstBecomesLast_10 : decode cX3_firstBecomesLast 10 = .ok (.aload_n 0, 1) := by decide +kernel
theorem dX3_firstBecomesLast_11 : decode cX3_firstBecomesLast 11 = .ok (.iload_n 1, 1) := by decide +kernel
theorem dX3_firstBecomesLast_12 : decode cX3_firstBecomesLast 12 = .ok (.iconst 1, 1) := by decide +kernel
theorem dX3_firstBecomesLast_13 : decode cX3_firstBecomesLast 13 = .ok (.isub, 1) := by decide +kernel
theorem dX3_firstBecomesLast_14 : decode cX3_firstBecomesLast 14 = .ok (.iload_n 1, 1) := by decide +kernel
theorem dX3_firstBecomesLast_15 : decode cX3_firstBecomesLast 15 = .ok (.invokevirtual 58, 3) := by decide +kernel
theorem dX3_firstBecomesLast_18 : decode cX3_firstBecomesLast 18 = .ok (.iinc 1 1, 3) := by decide +kernel
theorem dX3_firstBecomesLast_21 : decode cX3_firstBecomesLast 21 = .ok (.goto (-19), 3) := by decide +kernel
theorem dX3_firstBecomesLast_24 : decode cX3_firstBecomesLast 24 = .ok (.return_, 1) := by decide +kernel
theorem dX3_exchange_0 : decode cX3_exchange 0 = .ok (.aload_n 0, 1) := by decide +kernel
theorem dX3_exchange_1 : decode cX3_exchange 1 = .ok (.getfield 18, 3) := by decide +kernel
theorem dX3_exchange_4 : decode cX3_exchange 4 = .ok (.iload_n 1, 1) := by decide +kernel
theorem dX3_exchange_5 : decode cX3_exchange 5 = .ok (.iaload, 1) := by decide +kernel
theorem dX3_exchange_6 : decode cX3_exchange 6 = .ok (.istore_n 3, 1) := by decide +kernel
theorem dX3_exchange_7 : decode cX3_exchange 7 = .ok (.aload_n 0, 1) := by decide +kernel
theorem dX3_exchange_8 : decode cX3_exchange 8 = .ok (.getfield 18, 3) := by decide +kernel
theorem dX3_exchange_11 : decode cX3_exchange 11 = .ok (.iload_n 1, 1) := by decide +kernel
theorem dX3_exchange_12 : decode cX3_exchange 12 = .ok (.aload_n 0, 1) := by decide +kernel
theorem dX3_exchange_13 : decode cX3_exchange 13 = .ok (.getfield 18, 3) := by decide +kernel
theorem dX3_exchange_16 : decode cX3_exchange 16 = .ok (.iload_n 2, 1) := by decide +kernel
theorem dX3_exchange_17 : decode cX3_exchange 17 = .ok (.iaload, 1) := by decide +kernel
theorem dX3_exchange_18 : decode cX3_exchange 18 = .ok (.iastore, 1) := by decide +kernel
theorem dX3_exchange_19 : decode cX3_exchange 19 = .ok (.aload_n 0, 1) := by decide +kernel
theorem dX3_exchange_20 : decode cX3_exchange 20 = .ok (.getfield 18, 3) := by decide +kernel
theorem dX3_exchange_23 : decode cX3_exchange 23 = .ok (.iload_n 2, 1) := by decide +kernel
theorem dX3_exchange_24 : decode cX3_exchange 24 = .ok (.iload_n 3, 1) := by decide +kernel
theorem dX3_exchange_25 : decode cX3_exchange 25 = .ok (.iastore, 1) := by decide +kernel
theorem dX3_exchange_26 : decode cX3_exchange 26 = .ok (.return_, 1) := by decide +kernel
theorem dX3_dropFactor_0 : decode cX3_dropFactor 0 = .ok (.aload_n 0, 1) := by decide +kernel
theorem dX3_dropFactor_1 : decode cX3_dropFactor 1 = .ok (.dup, 1) := by decide +kernel
theorem dX3_dropFactor_2 : decode cX3_dropFactor 2 = .ok (.getfield 55, 3) := by decide +kernel
theorem dX3_dropFactor_5 : decode cX3_dropFactor 5 = .ok (.iconst 1, 1) := by decide +kernel
theorem dX3_dropFactor_6 : decode cX3_dropFactor 6 = .ok (.isub, 1) := by decide +kernel
theorem dX3_dropFactor_7 : decode cX3_dropFactor 7 = .ok (.putfield 55, 3) := by decide +kernel
theorem dX3_dropFactor_10 : decode cX3_dropFactor 10 = .ok (.iload_n 1, 1) := by decide +kernel
theorem dX3_dropFactor_11 : decode cX3_dropFactor 11 = .ok (.istore_n 2, 1) := by decide +kernel
theorem dX3_dropFactor_12 : decode cX3_dropFactor 12 = .ok (.iload_n 2, 1) := by decide +kernel
theorem dX3_dropFactor_13 : decode cX3_dropFactor 13 = .ok (.aload_n 0, 1) := by decide +kernel
theorem dX3_dropFactor_14 : decode cX3_dropFactor 14 = .ok (.getfield 55, 3) := by decide +kernel
theorem dX3_dropFactor_17 : decode cX3_dropFactor 17 = .ok (.if_icmp .ge 39, 3) := by decide +kernel
theorem dX3_dropFactor_20 : decode cX3_dropFactor 20 = .ok (.aload_n 0, 1) := by decide +kernel
theorem dX3_dropFactor_21 : decode cX3_dropFactor 21 = .ok (.getfield 24, 3) := by decide +kernel
theorem dX3_dropFactor_24 : decode cX3_dropFactor 24 = .ok (.iload_n 2, 1) := by decide +kernel
theorem dX3_dropFactor_25 : decode cX3_dropFactor 25 = .ok (.iconst 1, 1) := by decide +kernel
theorem dX3_dropFactor_26 : decode cX3_dropFactor 26 = .ok (.iadd, 1) := by decide +kernel
theorem dX3_dropFactor_27 : decode cX3_dropFactor 27 = .ok (.aaload, 1) := by decide +kernel
theorem dX3_dropFactor_28 : decode cX3_dropFactor 28 = .ok (.astore_n 3, 1) := by decide +kernel
theorem dX3_dropFactor_29 : decode cX3_dropFactor 29 = .ok (.aload_n 0, 1) := by decide +kernel
theorem dX3_dropFactor_30 : decode cX3_dropFactor 30 = .ok (.getfield 24, 3) := by decide +kernel
theorem dX3_dropFactor_33 : decode cX3_dropFactor 33 = .ok (.iload_n 2, 1) := by decide +kernel
theorem dX3_dropFactor_34 : decode cX3_dropFactor 34 = .ok (.aaload, 1) := by decide +kernel
theorem dX3_dropFactor_35 : decode cX3_dropFactor 35 = .ok (.aload_n 3, 1) := by decide +kernel
theorem dX3_dropFactor_36 : decode cX3_dropFactor 36 = .ok (.getfield 42, 3) := by decide +kernel
theorem dX3_dropFactor_39 : decode cX3_dropFactor 39 = .ok (.aload_n 3, 1) := by decide +kernel
theorem dX3_dropFactor_40 : decode cX3_dropFactor 40 = .ok (.getfield 45, 3) := by decide +kernel
theorem dX3_dropFactor_43 : decode cX3_dropFactor 43 = .ok (.aload_n 3, 1) := by decide +kernel
theorem dX3_dropFactor_44 : decode cX3_dropFactor 44 = .ok (.getfield 48, 3) := by decide +kernel
theorem dX3_dropFactor_47 : decode cX3_dropFactor 47 = .ok (.invokevirtual 51, 3) := by decide +kernel
theorem dX3_dropFactor_50 : decode cX3_dropFactor 50 = .ok (.iinc 2 1, 3) := by decide +kernel
theorem dX3_dropFactor_53 : decode cX3_dropFactor 53 = .ok (.goto (-41), 3) := by decide +kernel
theorem dX3_dropFactor_56 : decode cX3_dropFactor 56 = .ok (.return_, 1) := by decide +kernel
theorem dX3_factorsRight_0 : decode cX3_factorsRight 0 = .ok (.iconst 0, 1) := by decide +kernel
theorem dX3_factorsRight_1 : decode cX3_factorsRight 1 = .ok (.istore_n 1, 1) := by decide +kernel
theorem dX3_factorsRight_2 : decode cX3_factorsRight 2 = .ok (.iconst 0, 1) := by decide +kernel
theorem dX3_factorsRight_3 : decode cX3_factorsRight 3 = .ok (.istore_n 2, 1) := by decide +kernel
theorem dX3_factorsRight_4 : decode cX3_factorsRight 4 = .ok (.iload_n 2, 1) := by decide +kernel
theorem dX3_factorsRight_5 : decode cX3_factorsRight 5 = .ok (.aload_n 0, 1) := by decide +kernel
theorem dX3_factorsRight_6 : decode cX3_factorsRight 6 = .ok (.getfield 55, 3) := by decide +kernel
theorem dX3_factorsRight_9 : decode cX3_factorsRight 9 = .ok (.if_icmp .ge 21, 3) := by decide +kernel
theorem dX3_factorsRight_12 : decode cX3_factorsRight 12 = .ok (.iload_n 1, 1) := by decide +kernel
theorem dX3_factorsRight_13 : decode cX3_factorsRight 13 = .ok (.aload_n 0, 1) := by decide +kernel
theorem dX3_factorsRight_14 : decode cX3_factorsRight 14 = .ok (.getfield 24, 3) := by decide +kernel
theorem dX3_factorsRight_17 : decode cX3_factorsRight 17 = .ok (.iload_n 2, 1) := by decide +kernel
theorem dX3_factorsRight_18 : decode cX3_factorsRight 18 = .ok (.aaload, 1) := by decide +kernel
theorem dX3_factorsRight_19 : decode cX3_factorsRight 19 = .ok (.invokevirtual 62, 3) := by decide +kernel
theorem dX3_factorsRight_22 : decode cX3_factorsRight 22 = .ok (.iadd, 1) := by decide +kernel
theorem dX3_factorsRight_23 : decode cX3_factorsRight 23 = .ok (.istore_n 1, 1) := by decide +kernel
theorem dX3_factorsRight_24 : decode cX3_factorsRight 24 = .ok (.iinc 2 1, 3) := by decide +kernel
theorem dX3_factorsRight_27 : decode cX3_factorsRight 27 = .ok (.goto (-23), 3) := by decide +kernel
theorem dX3_factorsRight_30 : decode cX3_factorsRight 30 = .ok (.iload_n 1, 1) := by decide +kernel
theorem dX3_factorsRight_31 : decode cX3_factorsRight 31 = .ok (.ireturn, 1) := by decide +kernel
theorem dX3_factorsAxis_0 : decode cX3_factorsAxis 0 = .ok (.iconst 0, 1) := by decide +kernel
theorem dX3_factorsAxis_1 : decode cX3_factorsAxis 1 = .ok (.istore_n 1, 1) := by decide +kernel
theorem dX3_factorsAxis_2 : decode cX3_factorsAxis 2 = .ok (.iconst 0, 1) := by decide +kernel
theorem dX3_factorsAxis_3 : decode cX3_factorsAxis 3 = .ok (.istore_n 2, 1) := by decide +kernel
theorem dX3_factorsAxis_4 : decode cX3_factorsAxis 4 = .ok (.iload_n 2, 1) := by decide +kernel
theorem dX3_factorsAxis_5 : decode cX3_factorsAxis 5 = .ok (.aload_n 0, 1) := by decide +kernel
theorem dX3_factorsAxis_6 : decode cX3_factorsAxis 6 = .ok (.getfield 55, 3) := by decide +kernel
theorem dX3_factorsAxis_9 : decode cX3_factorsAxis 9 = .ok (.if_icmp .ge 21, 3) := by decide +kernel
theorem dX3_factorsAxis_12 : decode cX3_factorsAxis 12 = .ok (.iload_n 1, 1) := by decide +kernel
theorem dX3_factorsAxis_13 : decode cX3_factorsAxis 13 = .ok (.aload_n 0, 1) := by decide +kernel
theorem dX3_factorsAxis_14 : decode cX3_factorsAxis 14 = .ok (.getfield 24, 3) := by decide +kernel
theorem dX3_factorsAxis_17 : decode cX3_factorsAxis 17 = .ok (.iload_n 2, 1) := by decide +kernel
theorem dX3_factorsAxis_18 : decode cX3_factorsAxis 18 = .ok (.aaload, 1) := by decide +kernel
theorem dX3_factorsAxis_19 : decode cX3_factorsAxis 19 = .ok (.invokevirtual 66, 3) := by decide +kernel
theorem dX3_factorsAxis_22 : decode cX3_factorsAxis 22 = .ok (.iadd, 1) := by decide +kernel
theorem dX3_factorsAxis_23 : decode cX3_factorsAxis 23 = .ok (.istore_n 1, 1) := by decide +kernel
theorem dX3_factorsAxis_24 : decode cX3_factorsAxis 24 = .ok (.iinc 2 1, 3) := by decide +kernel
theorem dX3_factorsAxis_27 : decode cX3_factorsAxis 27 = .ok (.goto (-23), 3) := by decide +kernel
theorem dX3_factorsAxis_30 : decode cX3_factorsAxis 30 = .ok (.iload_n 1, 1) := by decide +kernel
theorem dX3_factorsAxis_31 : decode cX3_factorsAxis 31 = .ok (.ireturn, 1) := by decide +kernel
theorem dX3_factorsLeft_0 : decode cX3_factorsLeft 0 = .ok (.aload_n 0, 1) := by decide +kernel
theorem dX3_factorsLeft_1 : decode cX3_factorsLeft 1 = .ok (.invokevirtual 69, 3) := by decide +kernel
theorem dX3_factorsLeft_4 : decode cX3_factorsLeft 4 = .ok (.aload_n 0, 1) := by decide +kernel
theorem dX3_factorsLeft_5 : decode cX3_factorsLeft 5 = .ok (.invokevirtual 72, 3) := by decide +kernel
theorem dX3_factorsLeft_8 : decode cX3_factorsLeft 8 = .ok (.isub, 1) := by decide +kernel
theorem dX3_factorsLeft_9 : decode cX3_factorsLeft 9 = .ok (.aload_n 0, 1) := by decide +kernel
theorem dX3_factorsLeft_10 : decode cX3_factorsLeft 10 = .ok (.invokevirtual 75, 3) := by decide +kernel
theorem dX3_factorsLeft_13 : decode cX3_factorsLeft 13 = .ok (.isub, 1) := by decide +kernel
theorem dX3_factorsLeft_14 : decode cX3_factorsLeft 14 = .ok (.ireturn, 1) := by decide +kernel
theorem dX3_factorsSize_0 : decode cX3_factorsSize 0 = .ok (.iconst 0, 1) := by decide +kernel
theorem dX3_factorsSize_1 : decode cX3_factorsSize 1 = .ok (.istore_n 1, 1) := by decide +kernel
theorem dX3_factorsSize_2 : decode cX3_factorsSize 2 = .ok (.iconst 0, 1) := by decide +kernel
theorem dX3_factorsSize_3 : decode cX3_factorsSize 3 = .ok (.istore_n 2, 1) := by decide +kernel
theorem dX3_factorsSize_4 : decode cX3_factorsSize 4 = .ok (.iload_n 2, 1) := by decide +kernel
theorem dX3_factorsSize_5 : decode cX3_factorsSize 5 = .ok (.aload_n 0, 1) := by decide +kernel
theorem dX3_factorsSize_6 : decode cX3_factorsSize 6 = .ok (.getfield 55, 3) := by decide +kernel
theorem dX3_factorsSize_9 : decode cX3_factorsSize 9 = .ok (.if_icmp .ge 21, 3) := by decide +kernel
theorem dX3_factorsSize_12 : decode cX3_factorsSize 12 = .ok (.iload_n 1, 1) := by decide +kernel
theorem dX3_factorsSize_13 : decode cX3_factorsSize 13 = .ok (.aload_n 0, 1) := by decide +kernel
theorem dX3_factorsSize_14 : decode cX3_factorsSize 14 = .ok (.getfield 24, 3) := by decide +kernel
theorem dX3_factorsSize_17 : decode cX3_factorsSize 17 = .ok (.iload_n 2, 1) := by decide +kernel
theorem dX3_factorsSize_18 : decode cX3_factorsSize 18 = .ok (.aaload, 1) := by decide +kernel
theorem dX3_factorsSize_19 : decode cX3_factorsSize 19 = .ok (.invokevirtual 78, 3) := by decide +kernel
theorem dX3_factorsSize_22 : decode cX3_factorsSize 22 = .ok (.iadd, 1) := by decide +kernel
theorem dX3_factorsSize_23 : decode cX3_factorsSize 23 = .ok (.istore_n 1, 1) := by decide +kernel
theorem dX3_factorsSize_24 : decode cX3_factorsSize 24 = .ok (.iinc 2 1, 3) := by decide +kernel
theorem dX3_factorsSize_27 : decode cX3_factorsSize 27 = .ok (.goto (-23), 3) := by decide +kernel
theorem dX3_factorsSize_30 : decode cX3_factorsSize 30 = .ok (.iload_n 1, 1) := by decide +kernel
theorem dX3_factorsSize_31 : decode cX3_factorsSize 31 = .ok (.ireturn, 1) := by decide +kernel
theorem dX3_productInto_0 : decode cX3_productInto 0 = .ok (.iconst 0, 1) := by decide +kernel
theorem dX3_productInto_1 : decode cX3_productInto 1 = .ok (.istore_n 2, 1) := by decide +kernel
theorem dX3_productInto_2 : decode cX3_productInto 2 = .ok (.iload_n 2, 1) := by decide +kernel
theorem dX3_productInto_3 : decode cX3_productInto 3 = .ok (.bipush 7, 2) := by decide +kernel
theorem dX3_productInto_5 : decode cX3_productInto 5 = .ok (.if_icmp .ge 21, 3) := by decide +kernel
theorem dX3_productInto_8 : decode cX3_productInto 8 = .ok (.aload_n 1, 1) := by decide +kernel
theorem dX3_productInto_9 : decode cX3_productInto 9 = .ok (.iload_n 2, 1) := by decide +kernel
theorem dX3_productInto_10 : decode cX3_productInto 10 = .ok (.iload_n 2, 1) := by decide +kernel
theorem dX3_productInto_11 : decode cX3_productInto 11 = .ok (.ifCond .ne 7, 3) := by decide +kernel
theorem dX3_productInto_14 : decode cX3_productInto 14 = .ok (.lconst 1, 1) := by decide +kernel
theorem dX3_productInto_15 : decode cX3_productInto 15 = .ok (.goto 4, 3) := by decide +kernel
theorem dX3_productInto_18 : decode cX3_productInto 18 = .ok (.lconst 0, 1) := by decide +kernel
theorem dX3_productInto_19 : decode cX3_productInto 19 = .ok (.lastore, 1) := by decide +kernel
theorem dX3_productInto_20 : decode cX3_productInto 20 = .ok (.iinc 2 1, 3) := by decide +kernel
theorem dX3_productInto_23 : decode cX3_productInto 23 = .ok (.goto (-21), 3) := by decide +kernel
theorem dX3_productInto_26 : decode cX3_productInto 26 = .ok (.iconst 0, 1) := by decide +kernel
theorem dX3_productInto_27 : decode cX3_productInto 27 = .ok (.istore_n 2, 1) := by decide +kernel
theorem dX3_productInto_28 : decode cX3_productInto 28 = .ok (.iload_n 2, 1) := by decide +kernel
theorem dX3_productInto_29 : decode cX3_productInto 29 = .ok (.aload_n 0, 1) := by decide +kernel
theorem dX3_productInto_30 : decode cX3_productInto 30 = .ok (.getfield 55, 3) := by decide +kernel
theorem dX3_productInto_33 : decode cX3_productInto 33 = .ok (.if_icmp .ge 19, 3) := by decide +kernel
theorem dX3_productInto_36 : decode cX3_productInto 36 = .ok (.aload_n 0, 1) := by decide +kernel
theorem dX3_productInto_37 : decode cX3_productInto 37 = .ok (.getfield 24, 3) := by decide +kernel
theorem dX3_productInto_40 : decode cX3_productInto 40 = .ok (.iload_n 2, 1) := by decide +kernel
theorem dX3_productInto_41 : decode cX3_productInto 41 = .ok (.aaload, 1) := by decide +kernel
theorem dX3_productInto_42 : decode cX3_productInto 42 = .ok (.aload_n 1, 1) := by decide +kernel
theorem dX3_productInto_43 : decode cX3_productInto 43 = .ok (.invokevirtual 81, 3) := by decide +kernel
theorem dX3_productInto_46 : decode cX3_productInto 46 = .ok (.iinc 2 1, 3) := by decide +kernel
theorem dX3_productInto_49 : decode cX3_productInto 49 = .ok (.goto (-21), 3) := by decide +kernel
theorem dX3_productInto_52 : decode cX3_productInto 52 = .ok (.return_, 1) := by decide +kernel
theorem dX4_highest_0 : decode cX4_highest 0 = .ok (.aload_n 0, 1) := by decide +kernel
theorem dX4_highest_1 : decode cX4_highest 1 = .ok (.arraylength, 1) := by decide +kernel
theorem dX4_highest_2 : decode cX4_highest 2 = .ok (.iconst 1, 1) := by decide +kernel
theorem dX4_highest_3 : decode cX4_highest 3 = .ok (.isub, 1) := by decide +kernel
theorem dX4_highest_4 : decode cX4_highest 4 = .ok (.istore_n 1, 1) := by decide +kernel
theorem dX4_highest_5 : decode cX4_highest 5 = .ok (.iload_n 1, 1) := by decide +kernel
theorem dX4_highest_6 : decode cX4_highest 6 = .ok (.ifCond .lt 19, 3) := by decide +kernel
theorem dX4_highest_9 : decode cX4_highest 9 = .ok (.aload_n 0, 1) := by decide +kernel
theorem dX4_highest_10 : decode cX4_highest 10 = .ok (.iload_n 1, 1) := by decide +kernel
theorem dX4_highest_11 : decode cX4_highest 11 = .ok (.laload, 1) := by decide +kernel
theorem dX4_highest_12 : decode cX4_highest 12 = .ok (.lconst 0, 1) := by decide +kernel
theorem dX4_highest_13 : decode cX4_highest 13 = .ok (.lcmp, 1) := by decide +kernel
theorem dX4_highest_14 : decode cX4_highest 14 = .ok (.ifCond .eq 5, 3) := by decide +kernel
theorem dX4_highest_17 : decode cX4_highest 17 = .ok (.iload_n 1, 1) := by decide +kernel
theorem dX4_highest_18 : decode cX4_highest 18 = .ok (.ireturn, 1) := by decide +kernel
theorem dX4_highest_19 : decode cX4_highest 19 = .ok (.iinc 1 (-1), 3) := by decide +kernel
theorem dX4_highest_22 : decode cX4_highest 22 = .ok (.goto (-17), 3) := by decide +kernel
theorem dX4_highest_25 : decode cX4_highest 25 = .ok (.iconst (-1), 1) := by decide +kernel
theorem dX4_highest_26 : decode cX4_highest 26 = .ok (.ireturn, 1) := by decide +kernel
theorem dX4_mix_0 : decode cX4_mix 0 = .ok (.iconst 0, 1) := by decide +kernel
theorem dX4_mix_1 : decode cX4_mix 1 = .ok (.istore 5, 2) := by decide +kernel
theorem dX4_mix_3 : decode cX4_mix 3 = .ok (.iload 5, 2) := by decide +kernel
theorem dX4_mix_5 : decode cX4_mix 5 = .ok (.bipush 7, 2) := by decide +kernel
theorem dX4_mix_7 : decode cX4_mix 7 = .ok (.if_icmp .ge 29, 3) := by decide +kernel
theorem dX4_mix_10 : decode cX4_mix 10 = .ok (.aload 4, 2) := by decide +kernel
theorem dX4_mix_12 : decode cX4_mix 12 = .ok (.iload 5, 2) := by decide +kernel
theorem dX4_mix_14 : decode cX4_mix 14 = .ok (.iload_n 1, 1) := by decide +kernel
theorem dX4_mix_15 : decode cX4_mix 15 = .ok (.i2l, 1) := by decide +kernel
theorem dX4_mix_16 : decode cX4_mix 16 = .ok (.aload_n 0, 1) := by decide +kernel
theorem dX4_mix_17 : decode cX4_mix 17 = .ok (.iload 5, 2) := by decide +kernel
theorem dX4_mix_19 : decode cX4_mix 19 = .ok (.laload, 1) := by decide +kernel
theorem dX4_mix_20 : decode cX4_mix 20 = .ok (.lmul, 1) := by decide +kernel
theorem dX4_mix_21 : decode cX4_mix 21 = .ok (.iload_n 3, 1) := by decide +kernel
theorem dX4_mix_22 : decode cX4_mix 22 = .ok (.i2l, 1) := by decide +kernel
theorem dX4_mix_23 : decode cX4_mix 23 = .ok (.aload_n 2, 1) := by decide +kernel
theorem dX4_mix_24 : decode cX4_mix 24 = .ok (.iload 5, 2) := by decide +kernel
theorem dX4_mix_26 : decode cX4_mix 26 = .ok (.laload, 1) := by decide +kernel
theorem dX4_mix_27 : decode cX4_mix 27 = .ok (.lmul, 1) := by decide +kernel
theorem dX4_mix_28 : decode cX4_mix 28 = .ok (.ladd, 1) := by decide +kernel
theorem dX4_mix_29 : decode cX4_mix 29 = .ok (.lastore, 1) := by decide +kernel
theorem dX4_mix_30 : decode cX4_mix 30 = .ok (.iinc 5 1, 3) := by decide +kernel
theorem dX4_mix_33 : decode cX4_mix 33 = .ok (.goto (-30), 3) := by decide +kernel
theorem dX4_mix_36 : decode cX4_mix 36 = .ok (.return_, 1) := by decide +kernel
theorem dX4_isGreat_0 : decode cX4_isGreat 0 = .ok (.iconst 0, 1) := by decide +kernel
theorem dX4_isGreat_1 : decode cX4_isGreat 1 = .ok (.istore_n 1, 1) := by decide +kernel
theorem dX4_isGreat_2 : decode cX4_isGreat 2 = .ok (.iload_n 1, 1) := by decide +kernel
theorem dX4_isGreat_3 : decode cX4_isGreat 3 = .ok (.aload_n 0, 1) := by decide +kernel
theorem dX4_isGreat_4 : decode cX4_isGreat 4 = .ok (.arraylength, 1) := by decide +kernel
theorem dX4_isGreat_5 : decode cX4_isGreat 5 = .ok (.if_icmp .ge 21, 3) := by decide +kernel
theorem dX4_isGreat_8 : decode cX4_isGreat 8 = .ok (.aload_n 0, 1) := by decide +kernel
theorem dX4_isGreat_9 : decode cX4_isGreat 9 = .ok (.iload_n 1, 1) := by decide +kernel
theorem dX4_isGreat_10 : decode cX4_isGreat 10 = .ok (.laload, 1) := by decide +kernel
theorem dX4_isGreat_11 : decode cX4_isGreat 11 = .ok (.ldc2_w 9, 3) := by decide +kernel
theorem dX4_isGreat_14 : decode cX4_isGreat 14 = .ok (.lcmp, 1) := by decide +kernel
theorem dX4_isGreat_15 : decode cX4_isGreat 15 = .ok (.ifCond .ne 5, 3) := by decide +kernel
theorem dX4_isGreat_18 : decode cX4_isGreat 18 = .ok (.iconst 1, 1) := by decide +kernel
theorem dX4_isGreat_19 : decode cX4_isGreat 19 = .ok (.ireturn, 1) := by decide +kernel
theorem dX4_isGreat_20 : decode cX4_isGreat 20 = .ok (.iinc 1 1, 3) := by decide +kernel
theorem dX4_isGreat_23 : decode cX4_isGreat 23 = .ok (.goto (-21), 3) := by decide +kernel
theorem dX4_isGreat_26 : decode cX4_isGreat 26 = .ok (.iconst 0, 1) := by decide +kernel
theorem dX4_isGreat_27 : decode cX4_isGreat 27 = .ok (.ireturn, 1) := by decide +kernel
theorem dX4_shrink_0 : decode cX4_shrink 0 = .ok (.lconst 0, 1) := by decide +kernel
theorem dX4_shrink_1 : decode cX4_shrink 1 = .ok (.lstore_n 1, 1) := by decide +kernel
theorem dX4_shrink_2 : decode cX4_shrink 2 = .ok (.iconst 0, 1) := by decide +kernel
theorem dX4_shrink_3 : decode cX4_shrink 3 = .ok (.istore_n 3, 1) := by decide +kernel
theorem dX4_shrink_4 : decode cX4_shrink 4 = .ok (.iload_n 3, 1) := by decide +kernel
theorem dX4_shrink_5 : decode cX4_shrink 5 = .ok (.aload_n 0, 1) := by decide +kernel
theorem dX4_shrink_6 : decode cX4_shrink 6 = .ok (.arraylength, 1) := by decide +kernel
theorem dX4_shrink_7 : decode cX4_shrink 7 = .ok (.if_icmp .ge 17, 3) := by decide +kernel
theorem dX4_shrink_10 : decode cX4_shrink 10 = .ok (.lload_n 1, 1) := by decide +kernel
theorem dX4_shrink_11 : decode cX4_shrink 11 = .ok (.aload_n 0, 1) := by decide +kernel
theorem dX4_shrink_12 : decode cX4_shrink 12 = .ok (.iload_n 3, 1) := by decide +kernel
theorem dX4_shrink_13 : decode cX4_shrink 13 = .ok (.laload, 1) := by decide +kernel
theorem dX4_shrink_14 : decode cX4_shrink 14 = .ok (.invokestatic 11, 3) := by decide +kernel
theorem dX4_shrink_17 : decode cX4_shrink 17 = .ok (.lstore_n 1, 1) := by decide +kernel
theorem dX4_shrink_18 : decode cX4_shrink 18 = .ok (.iinc 3 1, 3) := by decide +kernel
theorem dX4_shrink_21 : decode cX4_shrink 21 = .ok (.goto (-17), 3) := by decide +kernel
theorem dX4_shrink_24 : decode cX4_shrink 24 = .ok (.lload_n 1, 1) := by decide +kernel
theorem dX4_shrink_25 : decode cX4_shrink 25 = .ok (.ldc2_w 17, 3) := by decide +kernel
theorem dX4_shrink_28 : decode cX4_shrink 28 = .ok (.lcmp, 1) := by decide +kernel
theorem dX4_shrink_29 : decode cX4_shrink 29 = .ok (.ifCond .ge 4, 3) := by decide +kernel
theorem dX4_shrink_32 : decode cX4_shrink 32 = .ok (.return_, 1) := by decide +kernel
theorem dX4_shrink_33 : decode cX4_shrink 33 = .ok (.iconst 0, 1) := by decide +kernel
theorem dX4_shrink_34 : decode cX4_shrink 34 = .ok (.istore_n 3, 1) := by decide +kernel
theorem dX4_shrink_35 : decode cX4_shrink 35 = .ok (.iload_n 3, 1) := by decide +kernel
theorem dX4_shrink_36 : decode cX4_shrink 36 = .ok (.aload_n 0, 1) := by decide +kernel
theorem dX4_shrink_37 : decode cX4_shrink 37 = .ok (.arraylength, 1) := by decide +kernel
theorem dX4_shrink_38 : decode cX4_shrink 38 = .ok (.if_icmp .ge 16, 3) := by decide +kernel
theorem dX4_shrink_41 : decode cX4_shrink 41 = .ok (.aload_n 0, 1) := by decide +kernel
theorem dX4_shrink_42 : decode cX4_shrink 42 = .ok (.iload_n 3, 1) := by decide +kernel
theorem dX4_shrink_43 : decode cX4_shrink 43 = .ok (.dup2, 1) := by decide +kernel
theorem dX4_shrink_44 : decode cX4_shrink 44 = .ok (.laload, 1) := by decide +kernel
theorem dX4_shrink_45 : decode cX4_shrink 45 = .ok (.lload_n 1, 1) := by decide +kernel
theorem dX4_shrink_46 : decode cX4_shrink 46 = .ok (.ldiv, 1) := by decide +kernel
theorem dX4_shrink_47 : decode cX4_shrink 47 = .ok (.lastore, 1) := by decide +kernel
theorem dX4_shrink_48 : decode cX4_shrink 48 = .ok (.iinc 3 1, 3) := by decide +kernel
theorem dX4_shrink_51 : decode cX4_shrink 51 = .ok (.goto (-16), 3) := by decide +kernel
theorem dX4_shrink_54 : decode cX4_shrink 54 = .ok (.return_, 1) := by decide +kernel
theorem dX4_stretch_0 : decode cX4_stretch 0 = .ok (.bipush 6, 2) := by decide +kernel
theorem dX4_stretch_2 : decode cX4_stretch 2 = .ok (.istore_n 2, 1) := by decide +kernel
theorem dX4_stretch_3 : decode cX4_stretch 3 = .ok (.iload_n 2, 1) := by decide +kernel
theorem dX4_stretch_4 : decode cX4_stretch 4 = .ok (.ifCond .le 24, 3) := by decide +kernel
theorem dX4_stretch_7 : decode cX4_stretch 7 = .ok (.aload_n 0, 1) := by decide +kernel
theorem dX4_stretch_8 : decode cX4_stretch 8 = .ok (.iload_n 2, 1) := by decide +kernel
theorem dX4_stretch_9 : decode cX4_stretch 9 = .ok (.aload_n 0, 1) := by decide +kernel
theorem dX4_stretch_10 : decode cX4_stretch 10 = .ok (.iload_n 2, 1) := by decide +kernel
theorem dX4_stretch_11 : decode cX4_stretch 11 = .ok (.iconst 1, 1) := by decide +kernel
theorem dX4_stretch_12 : decode cX4_stretch 12 = .ok (.isub, 1) := by decide +kernel
theorem dX4_stretch_13 : decode cX4_stretch 13 = .ok (.laload, 1) := by decide +kernel
theorem dX4_stretch_14 : decode cX4_stretch 14 = .ok (.iload_n 1, 1) := by decide +kernel
theorem dX4_stretch_15 : decode cX4_stretch 15 = .ok (.i2l, 1) := by decide +kernel
theorem dX4_stretch_16 : decode cX4_stretch 16 = .ok (.aload_n 0, 1) := by decide +kernel
theorem dX4_stretch_17 : decode cX4_stretch 17 = .ok (.iload_n 2, 1) := by decide +kernel
theorem dX4_stretch_18 : decode cX4_stretch 18 = .ok (.laload, 1) := by decide +kernel
theorem dX4_stretch_19 : decode cX4_stretch 19 = .ok (.lmul, 1) := by decide +kernel
theorem dX4_stretch_20 : decode cX4_stretch 20 = .ok (.ladd, 1) := by decide +kernel
theorem dX4_stretch_21 : decode cX4_stretch 21 = .ok (.lastore, 1) := by decide +kernel
theorem dX4_stretch_22 : decode cX4_stretch 22 = .ok (.iinc 2 (-1), 3) := by decide +kernel
theorem dX4_stretch_25 : decode cX4_stretch 25 = .ok (.goto (-22), 3) := by decide +kernel
theorem dX4_stretch_28 : decode cX4_stretch 28 = .ok (.aload_n 0, 1) := by decide +kernel
theorem dX4_stretch_29 : decode cX4_stretch 29 = .ok (.iconst 0, 1) := by decide +kernel
theorem dX4_stretch_30 : decode cX4_stretch 30 = .ok (.dup2, 1) := by decide +kernel
theorem dX4_stretch_31 : decode cX4_stretch 31 = .ok (.laload, 1) := by decide +kernel
theorem dX4_stretch_32 : decode cX4_stretch 32 = .ok (.iload_n 1, 1) := by decide +kernel
theorem dX4_stretch_33 : decode cX4_stretch 33 = .ok (.i2l, 1) := by decide +kernel
theorem dX4_stretch_34 : decode cX4_stretch 34 = .ok (.lmul, 1) := by decide +kernel
theorem dX4_stretch_35 : decode cX4_stretch 35 = .ok (.lastore, 1) := by decide +kernel
theorem dX4_stretch_36 : decode cX4_stretch 36 = .ok (.return_, 1) := by decide +kernel
theorem dX5_init_0 : decode cX5_init 0 = .ok (.aload_n 0, 1) := by decide +kernel
theorem dX5_init_1 : decode cX5_init 1 = .ok (.invokespecial 3, 3) := by decide +kernel
theorem dX5_init_4 : decode cX5_init 4 = .ok (.aload_n 0, 1) := by decide +kernel
theorem dX5_init_5 : decode cX5_init 5 = .ok (.bipush 7, 2) := by decide +kernel
theorem dX5_init_7 : decode cX5_init 7 = .ok (.newarray .long, 2) := by decide +kernel
theorem dX5_init_9 : decode cX5_init 9 = .ok (.putfield 9, 3) := by decide +kernel
theorem dX5_init_12 : decode cX5_init 12 = .ok (.aload_n 0, 1) := by decide +kernel
theorem dX5_init_13 : decode cX5_init 13 = .ok (.new 15, 3) := by decide +kernel
theorem dX5_init_16 : decode cX5_init 16 = .ok (.dup, 1) := by decide +kernel
theorem dX5_init_17 : decode cX5_init 17 = .ok (.invokespecial 17, 3) := by decide +kernel
theorem dX5_init_20 : decode cX5_init 20 = .ok (.putfield 18, 3) := by decide +kernel
theorem dX5_init_23 : decode cX5_init 23 = .ok (.aload_n 0, 1) := by decide +kernel
theorem dX5_init_24 : decode cX5_init 24 = .ok (.sipush 201, 3) := by decide +kernel
theorem dX5_init_27 : decode cX5_init 27 = .ok (.newarray .int, 2) := by decide +kernel
theorem dX5_init_29 : decode cX5_init 29 = .ok (.putfield 22, 3) := by decide +kernel
theorem dX5_init_32 : decode cX5_init 32 = .ok (.return_, 1) := by decide +kernel
theorem dX5_survey_0 : decode cX5_survey 0 = .ok (.aload_n 0, 1) := by decide +kernel
theorem dX5_survey_1 : decode cX5_survey 1 = .ok (.getfield 26, 3) := by decide +kernel
theorem dX5_survey_4 : decode cX5_survey 4 = .ok (.ifCond .eq 4, 3) := by decide +kernel
theorem dX5_survey_7 : decode cX5_survey 7 = .ok (.return_, 1) := by decide +kernel
theorem dX5_survey_8 : decode cX5_survey 8 = .ok (.bipush (-100), 2) := by decide +kernel
theorem dX5_survey_10 : decode cX5_survey 10 = .ok (.istore_n 2, 1) := by decide +kernel
theorem dX5_survey_11 : decode cX5_survey 11 = .ok (.iload_n 2, 1) := by decide +kernel
theorem dX5_survey_12 : decode cX5_survey 12 = .ok (.bipush 100, 2) := by decide +kernel
theorem dX5_survey_14 : decode cX5_survey 14 = .ok (.if_icmp .gt 76, 3) := by decide +kernel
theorem dX5_survey_17 : decode cX5_survey 17 = .ok (.aload_n 1, 1) := by decide +kernel
theorem dX5_survey_18 : decode cX5_survey 18 = .ok (.getfield 30, 3) := by decide +kernel
theorem dX5_survey_21 : decode cX5_survey 21 = .ok (.iconst 1, 1) := by decide +kernel
theorem dX5_survey_22 : decode cX5_survey 22 = .ok (.aload_n 1, 1) := by decide +kernel
theorem dX5_survey_23 : decode cX5_survey 23 = .ok (.getfield 35, 3) := by decide +kernel
theorem dX5_survey_26 : decode cX5_survey 26 = .ok (.iload_n 2, 1) := by decide +kernel
theorem dX5_survey_27 : decode cX5_survey 27 = .ok (.aload_n 0, 1) := by decide +kernel
theorem dX5_survey_28 : decode cX5_survey 28 = .ok (.getfield 9, 3) := by decide +kernel
theorem dX5_survey_31 : decode cX5_survey 31 = .ok (.invokestatic 38, 3) := by decide +kernel
theorem dX5_survey_34 : decode cX5_survey 34 = .ok (.aload_n 0, 1) := by decide +kernel
theorem dX5_survey_35 : decode cX5_survey 35 = .ok (.getfield 18, 3) := by decide +kernel
theorem dX5_survey_38 : decode cX5_survey 38 = .ok (.aload_n 0, 1) := by decide +kernel
theorem dX5_survey_39 : decode cX5_survey 39 = .ok (.getfield 9, 3) := by decide +kernel
theorem dX5_survey_42 : decode cX5_survey 42 = .ok (.iconst 0, 1) := by decide +kernel
theorem dX5_survey_43 : decode cX5_survey 43 = .ok (.invokevirtual 44, 3) := by decide +kernel
theorem dX5_survey_46 : decode cX5_survey 46 = .ok (.aload_n 0, 1) := by decide +kernel
theorem dX5_survey_47 : decode cX5_survey 47 = .ok (.getfield 18, 3) := by decide +kernel
theorem dX5_survey_50 : decode cX5_survey 50 = .ok (.invokevirtual 48, 3) := by decide +kernel
theorem dX5_survey_53 : decode cX5_survey 53 = .ok (.aload_n 0, 1) := by decide +kernel
theorem dX5_survey_54 : decode cX5_survey 54 = .ok (.getfield 22, 3) := by decide +kernel
theorem dX5_survey_57 : decode cX5_survey 57 = .ok (.iload_n 2, 1) := by decide +kernel
theorem dX5_survey_58 : decode cX5_survey 58 = .ok (.bipush 100, 2) := by decide +kernel
theorem dX5_survey_60 : decode cX5_survey 60 = .ok (.iadd, 1) := by decide +kernel
theorem dX5_survey_61 : decode cX5_survey 61 = .ok (.aload_n 0, 1) := by decide +kernel
theorem dX5_survey_62 : decode cX5_survey 62 = .ok (.getfield 18, 3) := by decide +kernel
theorem dX5_survey_65 : decode cX5_survey 65 = .ok (.getfield 51, 3) := by decide +kernel
theorem dX5_survey_68 : decode cX5_survey 68 = .ok (.ifCond .eq 8, 3) := by decide +kernel
theorem dX5_survey_71 : decode cX5_survey 71 = .ok (.bipush (-7), 2) := by decide +kernel
theorem dX5_survey_73 : decode cX5_survey 73 = .ok (.goto 10, 3) := by decide +kernel
theorem dX5_survey_76 : decode cX5_survey 76 = .ok (.aload_n 0, 1) := by decide +kernel
theorem dX5_survey_77 : decode cX5_survey 77 = .ok (.getfield 18, 3) := by decide +kernel
theorem dX5_survey_80 : decode cX5_survey 80 = .ok (.invokevirtual 54, 3) := by decide +kernel
theorem dX5_survey_83 : decode cX5_survey 83 = .ok (.iastore, 1) := by decide +kernel
theorem dX5_survey_84 : decode cX5_survey 84 = .ok (.iinc 2 1, 3) := by decide +kernel
theorem dX5_survey_87 : decode cX5_survey 87 = .ok (.goto (-76), 3) := by decide +kernel
theorem dX5_survey_90 : decode cX5_survey 90 = .ok (.aload_n 0, 1) := by decide +kernel
theorem dX5_survey_91 : decode cX5_survey 91 = .ok (.iconst 1, 1) := by decide +kernel
theorem dX5_survey_92 : decode cX5_survey 92 = .ok (.putfield 26, 3) := by decide +kernel
theorem dX5_survey_95 : decode cX5_survey 95 = .ok (.return_, 1) := by decide +kernel
theorem dX5_at_0 : decode cX5_at 0 = .ok (.aload_n 0, 1) := by decide +kernel
theorem dX5_at_1 : decode cX5_at 1 = .ok (.getfield 22, 3) := by decide +kernel
theorem dX5_at_4 : decode cX5_at 4 = .ok (.iload_n 1, 1) := by decide +kernel
theorem dX5_at_5 : decode cX5_at 5 = .ok (.bipush 100, 2) := by decide +kernel
end
section
theorem dX5_at_7 : decode cX5_at 7 = .ok (.iadd, 1) := by decide +kernel
theorem dX5_at_8 : decode cX5_at 8 = .ok (.iaload, 1) := by decide +kernel
theorem dX5_at_9 : decode cX5_at 9 = .ok (.ireturn, 1) := by decide +kernel
theorem dX5_isJump_0 : decode cX5_isJump 0 = .ok (.aload_n 0, 1) := by decide +kernel
theorem dX5_isJump_1 : decode cX5_isJump 1 = .ok (.iload_n 1, 1) := by decide +kernel
theorem dX5_isJump_2 : decode cX5_isJump 2 = .ok (.invokevirtual 58, 3) := by decide +kernel
theorem dX5_isJump_5 : decode cX5_isJump 5 = .ok (.aload_n 0, 1) := by decide +kernel
theorem dX5_isJump_6 : decode cX5_isJump 6 = .ok (.iload_n 1, 1) := by decide +kernel
theorem dX5_isJump_7 : decode cX5_isJump 7 = .ok (.iconst 1, 1) := by decide +kernel
theorem dX5_isJump_8 : decode cX5_isJump 8 = .ok (.isub, 1) := by decide +kernel
theorem dX5_isJump_9 : decode cX5_isJump 9 = .ok (.invokevirtual 58, 3) := by decide +kernel
theorem dX5_isJump_12 : decode cX5_isJump 12 = .ok (.if_icmp .eq 7, 3) := by decide +kernel
theorem dX5_isJump_15 : decode cX5_isJump 15 = .ok (.iconst 1, 1) := by decide +kernel
theorem dX5_isJump_16 : decode cX5_isJump 16 = .ok (.goto 4, 3) := by decide +kernel
theorem dX5_isJump_19 : decode cX5_isJump 19 = .ok (.iconst 0, 1) := by decide +kernel
theorem dX5_isJump_20 : decode cX5_isJump 20 = .ok (.ireturn, 1) := by decide +kernel
theorem dX5_jumpCount_0 : decode cX5_jumpCount 0 = .ok (.iconst 0, 1) := by decide +kernel
theorem dX5_jumpCount_1 : decode cX5_jumpCount 1 = .ok (.istore_n 1, 1) := by decide +kernel
theorem dX5_jumpCount_2 : decode cX5_jumpCount 2 = .ok (.bipush (-99), 2) := by decide +kernel
theorem dX5_jumpCount_4 : decode cX5_jumpCount 4 = .ok (.istore_n 2, 1) := by decide +kernel
theorem dX5_jumpCount_5 : decode cX5_jumpCount 5 = .ok (.iload_n 2, 1) := by decide +kernel
theorem dX5_jumpCount_6 : decode cX5_jumpCount 6 = .ok (.bipush 100, 2) := by decide +kernel
theorem dX5_jumpCount_8 : decode cX5_jumpCount 8 = .ok (.if_icmp .gt 25, 3) := by decide +kernel
theorem dX5_jumpCount_11 : decode cX5_jumpCount 11 = .ok (.iload_n 1, 1) := by decide +kernel
theorem dX5_jumpCount_12 : decode cX5_jumpCount 12 = .ok (.aload_n 0, 1) := by decide +kernel
theorem dX5_jumpCount_13 : decode cX5_jumpCount 13 = .ok (.iload_n 2, 1) := by decide +kernel
theorem dX5_jumpCount_14 : decode cX5_jumpCount 14 = .ok (.invokevirtual 62, 3) := by decide +kernel
theorem dX5_jumpCount_17 : decode cX5_jumpCount 17 = .ok (.ifCond .eq 7, 3) := by decide +kernel
theorem dX5_jumpCount_20 : decode cX5_jumpCount 20 = .ok (.iconst 1, 1) := by decide +kernel
theorem dX5_jumpCount_21 : decode cX5_jumpCount 21 = .ok (.goto 4, 3) := by decide +kernel
theorem dX5_jumpCount_24 : decode cX5_jumpCount 24 = .ok (.iconst 0, 1) := by decide +kernel
theorem dX5_jumpCount_25 : decode cX5_jumpCount 25 = .ok (.iadd, 1) := by decide +kernel
theorem dX5_jumpCount_26 : decode cX5_jumpCount 26 = .ok (.istore_n 1, 1) := by decide +kernel
theorem dX5_jumpCount_27 : decode cX5_jumpCount 27 = .ok (.iinc 2 1, 3) := by decide +kernel
theorem dX5_jumpCount_30 : decode cX5_jumpCount 30 = .ok (.goto (-25), 3) := by decide +kernel
theorem dX5_jumpCount_33 : decode cX5_jumpCount 33 = .ok (.iload_n 1, 1) := by decide +kernel
theorem dX5_jumpCount_34 : decode cX5_jumpCount 34 = .ok (.ireturn, 1) := by decide +kernel
theorem dX5_jumpAt_0 : decode cX5_jumpAt 0 = .ok (.iconst 0, 1) := by decide +kernel
theorem dX5_jumpAt_1 : decode cX5_jumpAt 1 = .ok (.istore_n 2, 1) := by decide +kernel
theorem dX5_jumpAt_2 : decode cX5_jumpAt 2 = .ok (.bipush (-99), 2) := by decide +kernel
theorem dX5_jumpAt_4 : decode cX5_jumpAt 4 = .ok (.istore_n 3, 1) := by decide +kernel
theorem dX5_jumpAt_5 : decode cX5_jumpAt 5 = .ok (.iload_n 3, 1) := by decide +kernel
theorem dX5_jumpAt_6 : decode cX5_jumpAt 6 = .ok (.bipush 100, 2) := by decide +kernel
theorem dX5_jumpAt_8 : decode cX5_jumpAt 8 = .ok (.if_icmp .gt 32, 3) := by decide +kernel
theorem dX5_jumpAt_11 : decode cX5_jumpAt 11 = .ok (.iload_n 2, 1) := by decide +kernel
theorem dX5_jumpAt_12 : decode cX5_jumpAt 12 = .ok (.aload_n 0, 1) := by decide +kernel
theorem dX5_jumpAt_13 : decode cX5_jumpAt 13 = .ok (.iload_n 3, 1) := by decide +kernel
theorem dX5_jumpAt_14 : decode cX5_jumpAt 14 = .ok (.invokevirtual 62, 3) := by decide +kernel
theorem dX5_jumpAt_17 : decode cX5_jumpAt 17 = .ok (.ifCond .eq 7, 3) := by decide +kernel
theorem dX5_jumpAt_20 : decode cX5_jumpAt 20 = .ok (.iconst 1, 1) := by decide +kernel
theorem dX5_jumpAt_21 : decode cX5_jumpAt 21 = .ok (.goto 4, 3) := by decide +kernel
theorem dX5_jumpAt_24 : decode cX5_jumpAt 24 = .ok (.iconst 0, 1) := by decide +kernel
theorem dX5_jumpAt_25 : decode cX5_jumpAt 25 = .ok (.iadd, 1) := by decide +kernel
theorem dX5_jumpAt_26 : decode cX5_jumpAt 26 = .ok (.istore_n 2, 1) := by decide +kernel
theorem dX5_jumpAt_27 : decode cX5_jumpAt 27 = .ok (.iload_n 2, 1) := by decide +kernel
theorem dX5_jumpAt_28 : decode cX5_jumpAt 28 = .ok (.iload_n 1, 1) := by decide +kernel
theorem dX5_jumpAt_29 : decode cX5_jumpAt 29 = .ok (.if_icmp .le 5, 3) := by decide +kernel
theorem dX5_jumpAt_32 : decode cX5_jumpAt 32 = .ok (.iload_n 3, 1) := by decide +kernel
theorem dX5_jumpAt_33 : decode cX5_jumpAt 33 = .ok (.ireturn, 1) := by decide +kernel
theorem dX5_jumpAt_34 : decode cX5_jumpAt 34 = .ok (.iinc 3 1, 3) := by decide +kernel
theorem dX5_jumpAt_37 : decode cX5_jumpAt 37 = .ok (.goto (-32), 3) := by decide +kernel
theorem dX5_jumpAt_40 : decode cX5_jumpAt 40 = .ok (.bipush 100, 2) := by decide +kernel
theorem dX5_jumpAt_42 : decode cX5_jumpAt 42 = .ok (.ireturn, 1) := by decide +kernel
theorem dX5_hasBest_0 : decode cX5_hasBest 0 = .ok (.iconst 0, 1) := by decide +kernel
theorem dX5_hasBest_1 : decode cX5_hasBest 1 = .ok (.istore_n 1, 1) := by decide +kernel
theorem dX5_hasBest_2 : decode cX5_hasBest 2 = .ok (.iload_n 1, 1) := by decide +kernel
theorem dX5_hasBest_3 : decode cX5_hasBest 3 = .ok (.sipush 201, 3) := by decide +kernel
theorem dX5_hasBest_6 : decode cX5_hasBest 6 = .ok (.if_icmp .ge 22, 3) := by decide +kernel
theorem dX5_hasBest_9 : decode cX5_hasBest 9 = .ok (.aload_n 0, 1) := by decide +kernel
theorem dX5_hasBest_10 : decode cX5_hasBest 10 = .ok (.getfield 22, 3) := by decide +kernel
theorem dX5_hasBest_13 : decode cX5_hasBest 13 = .ok (.iload_n 1, 1) := by decide +kernel
theorem dX5_hasBest_14 : decode cX5_hasBest 14 = .ok (.iaload, 1) := by decide +kernel
theorem dX5_hasBest_15 : decode cX5_hasBest 15 = .ok (.bipush (-7), 2) := by decide +kernel
theorem dX5_hasBest_17 : decode cX5_hasBest 17 = .ok (.if_icmp .eq 5, 3) := by decide +kernel
theorem dX5_hasBest_20 : decode cX5_hasBest 20 = .ok (.iconst 1, 1) := by decide +kernel
theorem dX5_hasBest_21 : decode cX5_hasBest 21 = .ok (.ireturn, 1) := by decide +kernel
theorem dX5_hasBest_22 : decode cX5_hasBest 22 = .ok (.iinc 1 1, 3) := by decide +kernel
theorem dX5_hasBest_25 : decode cX5_hasBest 25 = .ok (.goto (-23), 3) := by decide +kernel
theorem dX5_hasBest_28 : decode cX5_hasBest 28 = .ok (.iconst 0, 1) := by decide +kernel
theorem dX5_hasBest_29 : decode cX5_hasBest 29 = .ok (.ireturn, 1) := by decide +kernel
theorem dX5_bestGain_0 : decode cX5_bestGain 0 = .ok (.bipush 100, 2) := by decide +kernel
theorem dX5_bestGain_2 : decode cX5_bestGain 2 = .ok (.istore_n 1, 1) := by decide +kernel
theorem dX5_bestGain_3 : decode cX5_bestGain 3 = .ok (.bipush 7, 2) := by decide +kernel
theorem dX5_bestGain_5 : decode cX5_bestGain 5 = .ok (.istore_n 2, 1) := by decide +kernel
theorem dX5_bestGain_6 : decode cX5_bestGain 6 = .ok (.bipush (-100), 2) := by decide +kernel
theorem dX5_bestGain_8 : decode cX5_bestGain 8 = .ok (.istore_n 3, 1) := by decide +kernel
theorem dX5_bestGain_9 : decode cX5_bestGain 9 = .ok (.iload_n 3, 1) := by decide +kernel
theorem dX5_bestGain_10 : decode cX5_bestGain 10 = .ok (.bipush 100, 2) := by decide +kernel
theorem dX5_bestGain_12 : decode cX5_bestGain 12 = .ok (.if_icmp .gt 63, 3) := by decide +kernel
theorem dX5_bestGain_15 : decode cX5_bestGain 15 = .ok (.aload_n 0, 1) := by decide +kernel
theorem dX5_bestGain_16 : decode cX5_bestGain 16 = .ok (.iload_n 3, 1) := by decide +kernel
theorem dX5_bestGain_17 : decode cX5_bestGain 17 = .ok (.invokevirtual 58, 3) := by decide +kernel
theorem dX5_bestGain_20 : decode cX5_bestGain 20 = .ok (.istore 4, 2) := by decide +kernel
theorem dX5_bestGain_22 : decode cX5_bestGain 22 = .ok (.iload 4, 2) := by decide +kernel
theorem dX5_bestGain_24 : decode cX5_bestGain 24 = .ok (.iload_n 2, 1) := by decide +kernel
theorem dX5_bestGain_25 : decode cX5_bestGain 25 = .ok (.if_icmp .ne 18, 3) := by decide +kernel
theorem dX5_bestGain_28 : decode cX5_bestGain 28 = .ok (.iload_n 3, 1) := by decide +kernel
theorem dX5_bestGain_29 : decode cX5_bestGain 29 = .ok (.invokestatic 66, 3) := by decide +kernel
theorem dX5_bestGain_32 : decode cX5_bestGain 32 = .ok (.iload_n 1, 1) := by decide +kernel
theorem dX5_bestGain_33 : decode cX5_bestGain 33 = .ok (.invokestatic 66, 3) := by decide +kernel
theorem dX5_bestGain_36 : decode cX5_bestGain 36 = .ok (.if_icmp .ge 7, 3) := by decide +kernel
theorem dX5_bestGain_39 : decode cX5_bestGain 39 = .ok (.iconst 1, 1) := by decide +kernel
theorem dX5_bestGain_40 : decode cX5_bestGain 40 = .ok (.goto 4, 3) := by decide +kernel
theorem dX5_bestGain_43 : decode cX5_bestGain 43 = .ok (.iconst 0, 1) := by decide +kernel
theorem dX5_bestGain_44 : decode cX5_bestGain 44 = .ok (.istore 5, 2) := by decide +kernel
theorem dX5_bestGain_46 : decode cX5_bestGain 46 = .ok (.iload 4, 2) := by decide +kernel
theorem dX5_bestGain_48 : decode cX5_bestGain 48 = .ok (.bipush (-7), 2) := by decide +kernel
theorem dX5_bestGain_50 : decode cX5_bestGain 50 = .ok (.if_icmp .eq 19, 3) := by decide +kernel
theorem dX5_bestGain_53 : decode cX5_bestGain 53 = .ok (.iload 4, 2) := by decide +kernel
theorem dX5_bestGain_55 : decode cX5_bestGain 55 = .ok (.iload_n 2, 1) := by decide +kernel
theorem dX5_bestGain_56 : decode cX5_bestGain 56 = .ok (.if_icmp .lt 8, 3) := by decide +kernel
theorem dX5_bestGain_59 : decode cX5_bestGain 59 = .ok (.iload 5, 2) := by decide +kernel
theorem dX5_bestGain_61 : decode cX5_bestGain 61 = .ok (.ifCond .eq 8, 3) := by decide +kernel
theorem dX5_bestGain_64 : decode cX5_bestGain 64 = .ok (.iload_n 3, 1) := by decide +kernel
theorem dX5_bestGain_65 : decode cX5_bestGain 65 = .ok (.istore_n 1, 1) := by decide +kernel
theorem dX5_bestGain_66 : decode cX5_bestGain 66 = .ok (.iload 4, 2) := by decide +kernel
theorem dX5_bestGain_68 : decode cX5_bestGain 68 = .ok (.istore_n 2, 1) := by decide +kernel
theorem dX5_bestGain_69 : decode cX5_bestGain 69 = .ok (.iinc 3 1, 3) := by decide +kernel
theorem dX5_bestGain_72 : decode cX5_bestGain 72 = .ok (.goto (-63), 3) := by decide +kernel
theorem dX5_bestGain_75 : decode cX5_bestGain 75 = .ok (.iload_n 1, 1) := by decide +kernel
theorem dX5_bestGain_76 : decode cX5_bestGain 76 = .ok (.ireturn, 1) := by decide +kernel
theorem dX6_init_0 : decode cX6_init 0 = .ok (.aload_n 0, 1) := by decide +kernel
theorem dX6_init_1 : decode cX6_init 1 = .ok (.invokespecial 3, 3) := by decide +kernel
theorem dX6_init_4 : decode cX6_init 4 = .ok (.aload_n 0, 1) := by decide +kernel
theorem dX6_init_5 : decode cX6_init 5 = .ok (.bipush 101, 2) := by decide +kernel
theorem dX6_init_7 : decode cX6_init 7 = .ok (.newarray .int, 2) := by decide +kernel
theorem dX6_init_9 : decode cX6_init 9 = .ok (.putfield 11, 3) := by decide +kernel
theorem dX6_init_12 : decode cX6_init 12 = .ok (.aload_n 0, 1) := by decide +kernel
theorem dX6_init_13 : decode cX6_init 13 = .ok (.bipush 101, 2) := by decide +kernel
theorem dX6_init_15 : decode cX6_init 15 = .ok (.newarray .int, 2) := by decide +kernel
theorem dX6_init_17 : decode cX6_init 17 = .ok (.putfield 15, 3) := by decide +kernel
theorem dX6_init_20 : decode cX6_init 20 = .ok (.aload_n 0, 1) := by decide +kernel
theorem dX6_init_21 : decode cX6_init 21 = .ok (.iload_n 1, 1) := by decide +kernel
theorem dX6_init_22 : decode cX6_init 22 = .ok (.putfield 18, 3) := by decide +kernel
theorem dX6_init_25 : decode cX6_init 25 = .ok (.return_, 1) := by decide +kernel
theorem dX6_survey_0 : decode cX6_survey 0 = .ok (.aload_n 0, 1) := by decide +kernel
theorem dX6_survey_1 : decode cX6_survey 1 = .ok (.getfield 22, 3) := by decide +kernel
theorem dX6_survey_4 : decode cX6_survey 4 = .ok (.ifCond .eq 4, 3) := by decide +kernel
theorem dX6_survey_7 : decode cX6_survey 7 = .ok (.return_, 1) := by decide +kernel
theorem dX6_survey_8 : decode cX6_survey 8 = .ok (.aload_n 0, 1) := by decide +kernel
theorem dX6_survey_9 : decode cX6_survey 9 = .ok (.iconst 0, 1) := by decide +kernel
theorem dX6_survey_10 : decode cX6_survey 10 = .ok (.putfield 26, 3) := by decide +kernel
theorem dX6_survey_13 : decode cX6_survey 13 = .ok (.iconst 0, 1) := by decide +kernel
theorem dX6_survey_14 : decode cX6_survey 14 = .ok (.istore_n 3, 1) := by decide +kernel
theorem dX6_survey_15 : decode cX6_survey 15 = .ok (.bipush (-100), 2) := by decide +kernel
theorem dX6_survey_17 : decode cX6_survey 17 = .ok (.istore 4, 2) := by decide +kernel
theorem dX6_survey_19 : decode cX6_survey 19 = .ok (.iload 4, 2) := by decide +kernel
theorem dX6_survey_21 : decode cX6_survey 21 = .ok (.bipush 100, 2) := by decide +kernel
theorem dX6_survey_23 : decode cX6_survey 23 = .ok (.if_icmp .gt 90, 3) := by decide +kernel
theorem dX6_survey_26 : decode cX6_survey 26 = .ok (.aload_n 2, 1) := by decide +kernel
theorem dX6_survey_27 : decode cX6_survey 27 = .ok (.aload_n 1, 1) := by decide +kernel
theorem dX6_survey_28 : decode cX6_survey 28 = .ok (.aload_n 0, 1) := by decide +kernel
theorem dX6_survey_29 : decode cX6_survey 29 = .ok (.getfield 18, 3) := by decide +kernel
theorem dX6_survey_32 : decode cX6_survey 32 = .ok (.iconst 1, 1) := by decide +kernel
theorem dX6_survey_33 : decode cX6_survey 33 = .ok (.iload 4, 2) := by decide +kernel
theorem dX6_survey_35 : decode cX6_survey 35 = .ok (.invokevirtual 29, 3) := by decide +kernel
theorem dX6_survey_38 : decode cX6_survey 38 = .ok (.istore 5, 2) := by decide +kernel
theorem dX6_survey_40 : decode cX6_survey 40 = .ok (.iload 5, 2) := by decide +kernel
theorem dX6_survey_42 : decode cX6_survey 42 = .ok (.ifCond .eq 37, 3) := by decide +kernel
theorem dX6_survey_45 : decode cX6_survey 45 = .ok (.iload_n 3, 1) := by decide +kernel
theorem dX6_survey_46 : decode cX6_survey 46 = .ok (.ifCond .ne 33, 3) := by decide +kernel
theorem dX6_survey_49 : decode cX6_survey 49 = .ok (.aload_n 0, 1) := by decide +kernel
theorem dX6_survey_50 : decode cX6_survey 50 = .ok (.getfield 26, 3) := by decide +kernel
theorem dX6_survey_53 : decode cX6_survey 53 = .ok (.bipush 101, 2) := by decide +kernel
theorem dX6_survey_55 : decode cX6_survey 55 = .ok (.if_icmp .ge 24, 3) := by decide +kernel
theorem dX6_survey_58 : decode cX6_survey 58 = .ok (.aload_n 0, 1) := by decide +kernel
theorem dX6_survey_59 : decode cX6_survey 59 = .ok (.getfield 11, 3) := by decide +kernel
theorem dX6_survey_62 : decode cX6_survey 62 = .ok (.aload_n 0, 1) := by decide +kernel
theorem dX6_survey_63 : decode cX6_survey 63 = .ok (.getfield 26, 3) := by decide +kernel
theorem dX6_survey_66 : decode cX6_survey 66 = .ok (.iload 4, 2) := by decide +kernel
theorem dX6_survey_68 : decode cX6_survey 68 = .ok (.iastore, 1) := by decide +kernel
theorem dX6_survey_69 : decode cX6_survey 69 = .ok (.aload_n 0, 1) := by decide +kernel
theorem dX6_survey_70 : decode cX6_survey 70 = .ok (.dup, 1) := by decide +kernel
theorem dX6_survey_71 : decode cX6_survey 71 = .ok (.getfield 26, 3) := by decide +kernel
theorem dX6_survey_74 : decode cX6_survey 74 = .ok (.iconst 1, 1) := by decide +kernel
theorem dX6_survey_75 : decode cX6_survey 75 = .ok (.iadd, 1) := by decide +kernel
theorem dX6_survey_76 : decode cX6_survey 76 = .ok (.putfield 26, 3) := by decide +kernel
theorem dX6_survey_79 : decode cX6_survey 79 = .ok (.iload 5, 2) := by decide +kernel
theorem dX6_survey_81 : decode cX6_survey 81 = .ok (.ifCond .eq 23, 3) := by decide +kernel
theorem dX6_survey_84 : decode cX6_survey 84 = .ok (.aload_n 0, 1) := by decide +kernel
theorem dX6_survey_85 : decode cX6_survey 85 = .ok (.getfield 26, 3) := by decide +kernel
theorem dX6_survey_88 : decode cX6_survey 88 = .ok (.ifCond .le 16, 3) := by decide +kernel
theorem dX6_survey_91 : decode cX6_survey 91 = .ok (.aload_n 0, 1) := by decide +kernel
theorem dX6_survey_92 : decode cX6_survey 92 = .ok (.getfield 15, 3) := by decide +kernel
theorem dX6_survey_95 : decode cX6_survey 95 = .ok (.aload_n 0, 1) := by decide +kernel
theorem dX6_survey_96 : decode cX6_survey 96 = .ok (.getfield 26, 3) := by decide +kernel
theorem dX6_survey_99 : decode cX6_survey 99 = .ok (.iconst 1, 1) := by decide +kernel
theorem dX6_survey_100 : decode cX6_survey 100 = .ok (.isub, 1) := by decide +kernel
theorem dX6_survey_101 : decode cX6_survey 101 = .ok (.iload 4, 2) := by decide +kernel
theorem dX6_survey_103 : decode cX6_survey 103 = .ok (.iastore, 1) := by decide +kernel
theorem dX6_survey_104 : decode cX6_survey 104 = .ok (.iload 5, 2) := by decide +kernel
theorem dX6_survey_106 : decode cX6_survey 106 = .ok (.istore_n 3, 1) := by decide +kernel
theorem dX6_survey_107 : decode cX6_survey 107 = .ok (.iinc 4 1, 3) := by decide +kernel
theorem dX6_survey_110 : decode cX6_survey 110 = .ok (.goto (-91), 3) := by decide +kernel
theorem dX6_survey_113 : decode cX6_survey 113 = .ok (.aload_n 0, 1) := by decide +kernel
theorem dX6_survey_114 : decode cX6_survey 114 = .ok (.iconst 1, 1) := by decide +kernel
theorem dX6_survey_115 : decode cX6_survey 115 = .ok (.putfield 22, 3) := by decide +kernel
theorem dX6_survey_118 : decode cX6_survey 118 = .ok (.return_, 1) := by decide +kernel
theorem dX6_firstEdge_0 : decode cX6_firstEdge 0 = .ok (.aload_n 0, 1) := by decide +kernel
theorem dX6_firstEdge_1 : decode cX6_firstEdge 1 = .ok (.getfield 11, 3) := by decide +kernel
theorem dX6_firstEdge_4 : decode cX6_firstEdge 4 = .ok (.iload_n 1, 1) := by decide +kernel
theorem dX6_firstEdge_5 : decode cX6_firstEdge 5 = .ok (.iaload, 1) := by decide +kernel
theorem dX6_firstEdge_6 : decode cX6_firstEdge 6 = .ok (.istore 4, 2) := by decide +kernel
theorem dX6_firstEdge_8 : decode cX6_firstEdge 8 = .ok (.iload 4, 2) := by decide +kernel
theorem dX6_firstEdge_10 : decode cX6_firstEdge 10 = .ok (.bipush (-100), 2) := by decide +kernel
theorem dX6_firstEdge_12 : decode cX6_firstEdge 12 = .ok (.if_icmp .ne 9, 3) := by decide +kernel
theorem dX6_firstEdge_15 : decode cX6_firstEdge 15 = .ok (.sipush (-1600), 3) := by decide +kernel
theorem dX6_firstEdge_18 : decode cX6_firstEdge 18 = .ok (.goto 15, 3) := by decide +kernel
theorem dX6_firstEdge_21 : decode cX6_firstEdge 21 = .ok (.aload_n 0, 1) := by decide +kernel
theorem dX6_firstEdge_22 : decode cX6_firstEdge 22 = .ok (.iload 4, 2) := by decide +kernel
theorem dX6_firstEdge_24 : decode cX6_firstEdge 24 = .ok (.iload 4, 2) := by decide +kernel
theorem dX6_firstEdge_26 : decode cX6_firstEdge 26 = .ok (.iconst 1, 1) := by decide +kernel
theorem dX6_firstEdge_27 : decode cX6_firstEdge 27 = .ok (.isub, 1) := by decide +kernel
theorem dX6_firstEdge_28 : decode cX6_firstEdge 28 = .ok (.aload_n 2, 1) := by decide +kernel
theorem dX6_firstEdge_29 : decode cX6_firstEdge 29 = .ok (.aload_n 3, 1) := by decide +kernel
theorem dX6_firstEdge_30 : decode cX6_firstEdge 30 = .ok (.invokevirtual 35, 3) := by decide +kernel
theorem dX6_firstEdge_33 : decode cX6_firstEdge 33 = .ok (.ireturn, 1) := by decide +kernel
theorem dX6_lastEdge_0 : decode cX6_lastEdge 0 = .ok (.aload_n 0, 1) := by decide +kernel
theorem dX6_lastEdge_1 : decode cX6_lastEdge 1 = .ok (.getfield 15, 3) := by decide +kernel
theorem dX6_lastEdge_4 : decode cX6_lastEdge 4 = .ok (.iload_n 1, 1) := by decide +kernel
theorem dX6_lastEdge_5 : decode cX6_lastEdge 5 = .ok (.iaload, 1) := by decide +kernel
theorem dX6_lastEdge_6 : decode cX6_lastEdge 6 = .ok (.istore 4, 2) := by decide +kernel
theorem dX6_lastEdge_8 : decode cX6_lastEdge 8 = .ok (.iload 4, 2) := by decide +kernel
theorem dX6_lastEdge_10 : decode cX6_lastEdge 10 = .ok (.bipush 100, 2) := by decide +kernel
theorem dX6_lastEdge_12 : decode cX6_lastEdge 12 = .ok (.if_icmp .ne 9, 3) := by decide +kernel
theorem dX6_lastEdge_15 : decode cX6_lastEdge 15 = .ok (.sipush 1600, 3) := by decide +kernel
theorem dX6_lastEdge_18 : decode cX6_lastEdge 18 = .ok (.goto 15, 3) := by decide +kernel
theorem dX6_lastEdge_21 : decode cX6_lastEdge 21 = .ok (.aload_n 0, 1) := by decide +kernel
theorem dX6_lastEdge_22 : decode cX6_lastEdge 22 = .ok (.iload 4, 2) := by decide +kernel
theorem dX6_lastEdge_24 : decode cX6_lastEdge 24 = .ok (.iload 4, 2) := by decide +kernel
theorem dX6_lastEdge_26 : decode cX6_lastEdge 26 = .ok (.iconst 1, 1) := by decide +kernel
theorem dX6_lastEdge_27 : decode cX6_lastEdge 27 = .ok (.iadd, 1) := by decide +kernel
theorem dX6_lastEdge_28 : decode cX6_lastEdge 28 = .ok (.aload_n 2, 1) := by decide +kernel
theorem dX6_lastEdge_29 : decode cX6_lastEdge 29 = .ok (.aload_n 3, 1) := by decide +kernel
theorem dX6_lastEdge_30 : decode cX6_lastEdge 30 = .ok (.invokevirtual 35, 3) := by decide +kernel
theorem dX6_lastEdge_33 : decode cX6_lastEdge 33 = .ok (.ireturn, 1) := by decide +kernel
theorem dX6_edge_0 : decode cX6_edge 0 = .ok (.bipush 16, 2) := by decide +kernel
theorem dX6_edge_2 : decode cX6_edge 2 = .ok (.iload_n 1, 1) := by decide +kernel
theorem dX6_edge_3 : decode cX6_edge 3 = .ok (.imul, 1) := by decide +kernel
theorem dX6_edge_4 : decode cX6_edge 4 = .ok (.istore 5, 2) := by decide +kernel
theorem dX6_edge_6 : decode cX6_edge 6 = .ok (.bipush 16, 2) := by decide +kernel
theorem dX6_edge_8 : decode cX6_edge 8 = .ok (.iload_n 2, 1) := by decide +kernel
theorem dX6_edge_9 : decode cX6_edge 9 = .ok (.imul, 1) := by decide +kernel
theorem dX6_edge_10 : decode cX6_edge 10 = .ok (.istore 6, 2) := by decide +kernel
theorem dX6_edge_12 : decode cX6_edge 12 = .ok (.iconst 0, 1) := by decide +kernel
theorem dX6_edge_13 : decode cX6_edge 13 = .ok (.istore 7, 2) := by decide +kernel
theorem dX6_edge_15 : decode cX6_edge 15 = .ok (.iload 7, 2) := by decide +kernel
theorem dX6_edge_17 : decode cX6_edge 17 = .ok (.iconst 4, 1) := by decide +kernel
theorem dX6_edge_18 : decode cX6_edge 18 = .ok (.if_icmp .ge 46, 3) := by decide +kernel
theorem dX6_edge_21 : decode cX6_edge 21 = .ok (.iload 5, 2) := by decide +kernel
theorem dX6_edge_23 : decode cX6_edge 23 = .ok (.iload 6, 2) := by decide +kernel
theorem dX6_edge_25 : decode cX6_edge 25 = .ok (.iadd, 1) := by decide +kernel
theorem dX6_edge_26 : decode cX6_edge 26 = .ok (.iconst 2, 1) := by decide +kernel
theorem dX6_edge_27 : decode cX6_edge 27 = .ok (.idiv, 1) := by decide +kernel
theorem dX6_edge_28 : decode cX6_edge 28 = .ok (.istore 8, 2) := by decide +kernel
theorem dX6_edge_30 : decode cX6_edge 30 = .ok (.aload 4, 2) := by decide +kernel
theorem dX6_edge_32 : decode cX6_edge 32 = .ok (.aload_n 3, 1) := by decide +kernel
theorem dX6_edge_33 : decode cX6_edge 33 = .ok (.aload_n 0, 1) := by decide +kernel
theorem dX6_edge_34 : decode cX6_edge 34 = .ok (.getfield 18, 3) := by decide +kernel
theorem dX6_edge_37 : decode cX6_edge 37 = .ok (.bipush 16, 2) := by decide +kernel
theorem dX6_edge_39 : decode cX6_edge 39 = .ok (.iload 8, 2) := by decide +kernel
theorem dX6_edge_41 : decode cX6_edge 41 = .ok (.invokevirtual 29, 3) := by decide +kernel
theorem dX6_edge_44 : decode cX6_edge 44 = .ok (.ifCond .eq 10, 3) := by decide +kernel
theorem dX6_edge_47 : decode cX6_edge 47 = .ok (.iload 8, 2) := by decide +kernel
theorem dX6_edge_49 : decode cX6_edge 49 = .ok (.istore 5, 2) := by decide +kernel
theorem dX6_edge_51 : decode cX6_edge 51 = .ok (.goto 7, 3) := by decide +kernel
theorem dX6_edge_54 : decode cX6_edge 54 = .ok (.iload 8, 2) := by decide +kernel
theorem dX6_edge_56 : decode cX6_edge 56 = .ok (.istore 6, 2) := by decide +kernel
theorem dX6_edge_58 : decode cX6_edge 58 = .ok (.iinc 7 1, 3) := by decide +kernel
theorem dX6_edge_61 : decode cX6_edge 61 = .ok (.goto (-46), 3) := by decide +kernel
theorem dX6_edge_64 : decode cX6_edge 64 = .ok (.iload 5, 2) := by decide +kernel
theorem dX6_edge_66 : decode cX6_edge 66 = .ok (.ireturn, 1) := by decide +kernel
theorem dX6_closestTo_0 : decode cX6_closestTo 0 = .ok (.iconst (-1), 1) := by decide +kernel
theorem dX6_closestTo_1 : decode cX6_closestTo 1 = .ok (.istore_n 2, 1) := by decide +kernel
theorem dX6_closestTo_2 : decode cX6_closestTo 2 = .ok (.sipush 201, 3) := by decide +kernel
theorem dX6_closestTo_5 : decode cX6_closestTo 5 = .ok (.istore_n 3, 1) := by decide +kernel
theorem dX6_closestTo_6 : decode cX6_closestTo 6 = .ok (.iconst 0, 1) := by decide +kernel
theorem dX6_closestTo_7 : decode cX6_closestTo 7 = .ok (.istore 4, 2) := by decide +kernel
theorem dX6_closestTo_9 : decode cX6_closestTo 9 = .ok (.iload 4, 2) := by decide +kernel
theorem dX6_closestTo_11 : decode cX6_closestTo 11 = .ok (.aload_n 0, 1) := by decide +kernel
theorem dX6_closestTo_12 : decode cX6_closestTo 12 = .ok (.getfield 26, 3) := by decide +kernel
theorem dX6_closestTo_15 : decode cX6_closestTo 15 = .ok (.if_icmp .ge 48, 3) := by decide +kernel
theorem dX6_closestTo_18 : decode cX6_closestTo 18 = .ok (.iconst 0, 1) := by decide +kernel
theorem dX6_closestTo_19 : decode cX6_closestTo 19 = .ok (.aload_n 0, 1) := by decide +kernel
theorem dX6_closestTo_20 : decode cX6_closestTo 20 = .ok (.getfield 11, 3) := by decide +kernel
theorem dX6_closestTo_23 : decode cX6_closestTo 23 = .ok (.iload 4, 2) := by decide +kernel
theorem dX6_closestTo_25 : decode cX6_closestTo 25 = .ok (.iaload, 1) := by decide +kernel
theorem dX6_closestTo_26 : decode cX6_closestTo 26 = .ok (.iload_n 1, 1) := by decide +kernel
theorem dX6_closestTo_27 : decode cX6_closestTo 27 = .ok (.isub, 1) := by decide +kernel
theorem dX6_closestTo_28 : decode cX6_closestTo 28 = .ok (.iload_n 1, 1) := by decide +kernel
theorem dX6_closestTo_29 : decode cX6_closestTo 29 = .ok (.aload_n 0, 1) := by decide +kernel
theorem dX6_closestTo_30 : decode cX6_closestTo 30 = .ok (.getfield 15, 3) := by decide +kernel
theorem dX6_closestTo_33 : decode cX6_closestTo 33 = .ok (.iload 4, 2) := by decide +kernel
theorem dX6_closestTo_35 : decode cX6_closestTo 35 = .ok (.iaload, 1) := by decide +kernel
theorem dX6_closestTo_36 : decode cX6_closestTo 36 = .ok (.isub, 1) := by decide +kernel
theorem dX6_closestTo_37 : decode cX6_closestTo 37 = .ok (.invokestatic 39, 3) := by decide +kernel
theorem dX6_closestTo_40 : decode cX6_closestTo 40 = .ok (.invokestatic 39, 3) := by decide +kernel
theorem dX6_closestTo_43 : decode cX6_closestTo 43 = .ok (.istore 5, 2) := by decide +kernel
theorem dX6_closestTo_45 : decode cX6_closestTo 45 = .ok (.iload 5, 2) := by decide +kernel
theorem dX6_closestTo_47 : decode cX6_closestTo 47 = .ok (.iload_n 3, 1) := by decide +kernel
theorem dX6_closestTo_48 : decode cX6_closestTo 48 = .ok (.if_icmp .ge 9, 3) := by decide +kernel
theorem dX6_closestTo_51 : decode cX6_closestTo 51 = .ok (.iload 5, 2) := by decide +kernel
theorem dX6_closestTo_53 : decode cX6_closestTo 53 = .ok (.istore_n 3, 1) := by decide +kernel
theorem dX6_closestTo_54 : decode cX6_closestTo 54 = .ok (.iload 4, 2) := by decide +kernel
theorem dX6_closestTo_56 : decode cX6_closestTo 56 = .ok (.istore_n 2, 1) := by decide +kernel
theorem dX6_closestTo_57 : decode cX6_closestTo 57 = .ok (.iinc 4 1, 3) := by decide +kernel
theorem dX6_closestTo_60 : decode cX6_closestTo 60 = .ok (.goto (-51), 3) := by decide +kernel
theorem dX6_closestTo_63 : decode cX6_closestTo 63 = .ok (.iload_n 2, 1) := by decide +kernel
theorem dX6_closestTo_64 : decode cX6_closestTo 64 = .ok (.ireturn, 1) := by decide +kernel
theorem dX7_init_0 : decode cX7_init 0 = .ok (.aload_n 0, 1) := by decide +kernel
theorem dX7_init_1 : decode cX7_init 1 = .ok (.invokespecial 3, 3) := by decide +kernel
theorem dX7_init_4 : decode cX7_init 4 = .ok (.aload_n 0, 1) := by decide +kernel
theorem dX7_init_5 : decode cX7_init 5 = .ok (.bipush 7, 2) := by decide +kernel
theorem dX7_init_7 : decode cX7_init 7 = .ok (.newarray .long, 2) := by decide +kernel
theorem dX7_init_9 : decode cX7_init 9 = .ok (.putfield 9, 3) := by decide +kernel
theorem dX7_init_12 : decode cX7_init 12 = .ok (.aload_n 0, 1) := by decide +kernel
theorem dX7_init_13 : decode cX7_init 13 = .ok (.new 15, 3) := by decide +kernel
theorem dX7_init_16 : decode cX7_init 16 = .ok (.dup, 1) := by decide +kernel
theorem dX7_init_17 : decode cX7_init 17 = .ok (.invokespecial 17, 3) := by decide +kernel
theorem dX7_init_20 : decode cX7_init 20 = .ok (.putfield 18, 3) := by decide +kernel
theorem dX7_init_23 : decode cX7_init 23 = .ok (.return_, 1) := by decide +kernel
theorem dX7_holds_0 : decode cX7_holds 0 = .ok (.aload_n 1, 1) := by decide +kernel
theorem dX7_holds_1 : decode cX7_holds 1 = .ok (.getfield 22, 3) := by decide +kernel
theorem dX7_holds_4 : decode cX7_holds 4 = .ok (.invokestatic 27, 3) := by decide +kernel
theorem dX7_holds_7 : decode cX7_holds 7 = .ok (.aload_n 1, 1) := by decide +kernel
theorem dX7_holds_8 : decode cX7_holds 8 = .ok (.getfield 33, 3) := by decide +kernel
theorem dX7_holds_11 : decode cX7_holds 11 = .ok (.invokestatic 27, 3) := by decide +kernel
theorem dX7_holds_14 : decode cX7_holds 14 = .ok (.invokestatic 36, 3) := by decide +kernel
theorem dX7_holds_17 : decode cX7_holds 17 = .ok (.istore 5, 2) := by decide +kernel
theorem dX7_holds_19 : decode cX7_holds 19 = .ok (.aload_n 1, 1) := by decide +kernel
theorem dX7_holds_20 : decode cX7_holds 20 = .ok (.getfield 22, 3) := by decide +kernel
theorem dX7_holds_23 : decode cX7_holds 23 = .ok (.iload_n 3, 1) := by decide +kernel
theorem dX7_holds_24 : decode cX7_holds 24 = .ok (.aload_n 1, 1) := by decide +kernel
theorem dX7_holds_25 : decode cX7_holds 25 = .ok (.getfield 33, 3) := by decide +kernel
theorem dX7_holds_28 : decode cX7_holds 28 = .ok (.iload 4, 2) := by decide +kernel
theorem dX7_holds_30 : decode cX7_holds 30 = .ok (.aload_n 0, 1) := by decide +kernel
theorem dX7_holds_31 : decode cX7_holds 31 = .ok (.getfield 9, 3) := by decide +kernel
theorem dX7_holds_34 : decode cX7_holds 34 = .ok (.invokestatic 42, 3) := by decide +kernel
theorem dX7_holds_37 : decode cX7_holds 37 = .ok (.iload 5, 2) := by decide +kernel
theorem dX7_holds_39 : decode cX7_holds 39 = .ok (.iconst 1, 1) := by decide +kernel
theorem dX7_holds_40 : decode cX7_holds 40 = .ok (.if_icmp .lt 15, 3) := by decide +kernel
theorem dX7_holds_43 : decode cX7_holds 43 = .ok (.aload_n 0, 1) := by decide +kernel
theorem dX7_holds_44 : decode cX7_holds 44 = .ok (.getfield 9, 3) := by decide +kernel
theorem dX7_holds_47 : decode cX7_holds 47 = .ok (.invokestatic 27, 3) := by decide +kernel
theorem dX7_holds_50 : decode cX7_holds 50 = .ok (.iload 5, 2) := by decide +kernel
theorem dX7_holds_52 : decode cX7_holds 52 = .ok (.if_icmp .eq 5, 3) := by decide +kernel
theorem dX7_holds_55 : decode cX7_holds 55 = .ok (.iconst 0, 1) := by decide +kernel
theorem dX7_holds_56 : decode cX7_holds 56 = .ok (.ireturn, 1) := by decide +kernel
theorem dX7_holds_57 : decode cX7_holds 57 = .ok (.aload_n 0, 1) := by decide +kernel
theorem dX7_holds_58 : decode cX7_holds 58 = .ok (.getfield 18, 3) := by decide +kernel
theorem dX7_holds_61 : decode cX7_holds 61 = .ok (.aload_n 0, 1) := by decide +kernel
theorem dX7_holds_62 : decode cX7_holds 62 = .ok (.getfield 9, 3) := by decide +kernel
theorem dX7_holds_65 : decode cX7_holds 65 = .ok (.iload_n 2, 1) := by decide +kernel
theorem dX7_holds_66 : decode cX7_holds 66 = .ok (.ifCond .ne 7, 3) := by decide +kernel
theorem dX7_holds_69 : decode cX7_holds 69 = .ok (.iconst 0, 1) := by decide +kernel
theorem dX7_holds_70 : decode cX7_holds 70 = .ok (.goto 4, 3) := by decide +kernel
theorem dX7_holds_73 : decode cX7_holds 73 = .ok (.iconst 3, 1) := by decide +kernel
theorem dX7_holds_74 : decode cX7_holds 74 = .ok (.invokevirtual 46, 3) := by decide +kernel
theorem dX7_holds_77 : decode cX7_holds 77 = .ok (.aload_n 0, 1) := by decide +kernel
theorem dX7_holds_78 : decode cX7_holds 78 = .ok (.getfield 18, 3) := by decide +kernel
theorem dX7_holds_81 : decode cX7_holds 81 = .ok (.invokevirtual 50, 3) := by decide +kernel
theorem dX7_holds_84 : decode cX7_holds 84 = .ok (.aload_n 0, 1) := by decide +kernel
theorem dX7_holds_85 : decode cX7_holds 85 = .ok (.getfield 18, 3) := by decide +kernel
theorem dX7_holds_88 : decode cX7_holds 88 = .ok (.getfield 53, 3) := by decide +kernel
theorem dX7_holds_91 : decode cX7_holds 91 = .ok (.ifCond .ne 13, 3) := by decide +kernel
theorem dX7_holds_94 : decode cX7_holds 94 = .ok (.aload_n 0, 1) := by decide +kernel
theorem dX7_holds_95 : decode cX7_holds 95 = .ok (.getfield 18, 3) := by decide +kernel
theorem dX7_holds_98 : decode cX7_holds 98 = .ok (.getfield 57, 3) := by decide +kernel
theorem dX7_holds_101 : decode cX7_holds 101 = .ok (.ifCond .eq 5, 3) := by decide +kernel
theorem dX7_holds_104 : decode cX7_holds 104 = .ok (.iconst 0, 1) := by decide +kernel
theorem dX7_holds_105 : decode cX7_holds 105 = .ok (.ireturn, 1) := by decide +kernel
theorem dX7_holds_106 : decode cX7_holds 106 = .ok (.aload_n 0, 1) := by decide +kernel
theorem dX7_holds_107 : decode cX7_holds 107 = .ok (.getfield 18, 3) := by decide +kernel
theorem dX7_holds_110 : decode cX7_holds 110 = .ok (.invokevirtual 61, 3) := by decide +kernel
theorem dX7_holds_113 : decode cX7_holds 113 = .ok (.ifCond .ne 17, 3) := by decide +kernel
theorem dX7_holds_116 : decode cX7_holds 116 = .ok (.aload_n 0, 1) := by decide +kernel
theorem dX7_holds_117 : decode cX7_holds 117 = .ok (.getfield 18, 3) := by decide +kernel
theorem dX7_holds_120 : decode cX7_holds 120 = .ok (.invokevirtual 65, 3) := by decide +kernel
theorem dX7_holds_123 : decode cX7_holds 123 = .ok (.ifCond .ne 7, 3) := by decide +kernel
theorem dX7_holds_126 : decode cX7_holds 126 = .ok (.iconst 1, 1) := by decide +kernel
theorem dX7_holds_127 : decode cX7_holds 127 = .ok (.goto 4, 3) := by decide +kernel
theorem dX7_holds_130 : decode cX7_holds 130 = .ok (.iconst 0, 1) := by decide +kernel
theorem dX7_holds_131 : decode cX7_holds 131 = .ok (.ireturn, 1) := by decide +kernel
theorem dX8_init_0 : decode cX8_init 0 = .ok (.aload_n 0, 1) := by decide +kernel
theorem dX8_init_1 : decode cX8_init 1 = .ok (.invokespecial 3, 3) := by decide +kernel
theorem dX8_init_4 : decode cX8_init 4 = .ok (.aload_n 0, 1) := by decide +kernel
theorem dX8_init_5 : decode cX8_init 5 = .ok (.bipush 7, 2) := by decide +kernel
theorem dX8_init_7 : decode cX8_init 7 = .ok (.newarray .long, 2) := by decide +kernel
theorem dX8_init_9 : decode cX8_init 9 = .ok (.putfield 9, 3) := by decide +kernel
theorem dX8_init_12 : decode cX8_init 12 = .ok (.aload_n 0, 1) := by decide +kernel
theorem dX8_init_13 : decode cX8_init 13 = .ok (.bipush 7, 2) := by decide +kernel
theorem dX8_init_15 : decode cX8_init 15 = .ok (.newarray .long, 2) := by decide +kernel
theorem dX8_init_17 : decode cX8_init 17 = .ok (.putfield 15, 3) := by decide +kernel
theorem dX8_init_20 : decode cX8_init 20 = .ok (.aload_n 0, 1) := by decide +kernel
theorem dX8_init_21 : decode cX8_init 21 = .ok (.bipush 7, 2) := by decide +kernel
theorem dX8_init_23 : decode cX8_init 23 = .ok (.iconst 5, 1) := by decide +kernel
theorem dX8_init_24 : decode cX8_init 24 = .ok (.multianewarray 18 2, 4) := by decide +kernel
theorem dX8_init_28 : decode cX8_init 28 = .ok (.putfield 20, 3) := by decide +kernel
theorem dX8_init_31 : decode cX8_init 31 = .ok (.aload_n 0, 1) := by decide +kernel
theorem dX8_init_32 : decode cX8_init 32 = .ok (.bipush 7, 2) := by decide +kernel
theorem dX8_init_34 : decode cX8_init 34 = .ok (.newarray .int, 2) := by decide +kernel
theorem dX8_init_36 : decode cX8_init 36 = .ok (.putfield 23, 3) := by decide +kernel
theorem dX8_init_39 : decode cX8_init 39 = .ok (.aload_n 0, 1) := by decide +kernel
theorem dX8_init_40 : decode cX8_init 40 = .ok (.iconst (-1), 1) := by decide +kernel
theorem dX8_init_41 : decode cX8_init 41 = .ok (.putfield 27, 3) := by decide +kernel
theorem dX8_init_44 : decode cX8_init 44 = .ok (.return_, 1) := by decide +kernel
theorem dX8_shape_0 : decode cX8_shape 0 = .ok (.aload_n 1, 1) := by decide +kernel
theorem dX8_shape_1 : decode cX8_shape 1 = .ok (.invokestatic 31, 3) := by decide +kernel
theorem dX8_shape_4 : decode cX8_shape 4 = .ok (.istore_n 3, 1) := by decide +kernel
theorem dX8_shape_5 : decode cX8_shape 5 = .ok (.aload_n 1, 1) := by decide +kernel
theorem dX8_shape_6 : decode cX8_shape 6 = .ok (.iconst 0, 1) := by decide +kernel
theorem dX8_shape_7 : decode cX8_shape 7 = .ok (.aload_n 0, 1) := by decide +kernel
theorem dX8_shape_8 : decode cX8_shape 8 = .ok (.getfield 9, 3) := by decide +kernel
theorem dX8_shape_11 : decode cX8_shape 11 = .ok (.iconst 0, 1) := by decide +kernel
theorem dX8_shape_12 : decode cX8_shape 12 = .ok (.bipush 7, 2) := by decide +kernel
theorem dX8_shape_14 : decode cX8_shape 14 = .ok (.invokestatic 37, 3) := by decide +kernel
theorem dX8_shape_17 : decode cX8_shape 17 = .ok (.iload_n 2, 1) := by decide +kernel
theorem dX8_shape_18 : decode cX8_shape 18 = .ok (.iconst 1, 1) := by decide +kernel
theorem dX8_shape_19 : decode cX8_shape 19 = .ok (.if_icmp .ne 10, 3) := by decide +kernel
theorem dX8_shape_22 : decode cX8_shape 22 = .ok (.aload_n 0, 1) := by decide +kernel
theorem dX8_shape_23 : decode cX8_shape 23 = .ok (.invokevirtual 43, 3) := by decide +kernel
theorem dX8_shape_26 : decode cX8_shape 26 = .ok (.goto 44, 3) := by decide +kernel
theorem dX8_shape_29 : decode cX8_shape 29 = .ok (.iload_n 2, 1) := by decide +kernel
theorem dX8_shape_30 : decode cX8_shape 30 = .ok (.iconst 2, 1) := by decide +kernel
theorem dX8_shape_31 : decode cX8_shape 31 = .ok (.if_icmp .ne 12, 3) := by decide +kernel
theorem dX8_shape_34 : decode cX8_shape 34 = .ok (.aload_n 0, 1) := by decide +kernel
theorem dX8_shape_35 : decode cX8_shape 35 = .ok (.aload_n 1, 1) := by decide +kernel
theorem dX8_shape_36 : decode cX8_shape 36 = .ok (.iload_n 3, 1) := by decide +kernel
theorem dX8_shape_37 : decode cX8_shape 37 = .ok (.invokevirtual 46, 3) := by decide +kernel
theorem dX8_shape_40 : decode cX8_shape 40 = .ok (.goto 30, 3) := by decide +kernel
theorem dX8_shape_43 : decode cX8_shape 43 = .ok (.iload_n 2, 1) := by decide +kernel
theorem dX8_shape_44 : decode cX8_shape 44 = .ok (.iconst 3, 1) := by decide +kernel
theorem dX8_shape_45 : decode cX8_shape 45 = .ok (.if_icmp .ne 12, 3) := by decide +kernel
theorem dX8_shape_48 : decode cX8_shape 48 = .ok (.aload_n 0, 1) := by decide +kernel
theorem dX8_shape_49 : decode cX8_shape 49 = .ok (.aload_n 1, 1) := by decide +kernel
theorem dX8_shape_50 : decode cX8_shape 50 = .ok (.iload_n 3, 1) := by decide +kernel
theorem dX8_shape_51 : decode cX8_shape 51 = .ok (.invokevirtual 50, 3) := by decide +kernel
theorem dX8_shape_54 : decode cX8_shape 54 = .ok (.goto 16, 3) := by decide +kernel
theorem dX8_shape_57 : decode cX8_shape 57 = .ok (.iload_n 2, 1) := by decide +kernel
theorem dX8_shape_58 : decode cX8_shape 58 = .ok (.ifCond .eq 12, 3) := by decide +kernel
theorem dX8_shape_61 : decode cX8_shape 61 = .ok (.aload_n 0, 1) := by decide +kernel
theorem dX8_shape_62 : decode cX8_shape 62 = .ok (.iload_n 2, 1) := by decide +kernel
theorem dX8_shape_63 : decode cX8_shape 63 = .ok (.bipush 30, 2) := by decide +kernel
theorem dX8_shape_65 : decode cX8_shape 65 = .ok (.isub, 1) := by decide +kernel
theorem dX8_shape_66 : decode cX8_shape 66 = .ok (.iload_n 3, 1) := by decide +kernel
theorem dX8_shape_67 : decode cX8_shape 67 = .ok (.invokevirtual 53, 3) := by decide +kernel
theorem dX8_shape_70 : decode cX8_shape 70 = .ok (.aload_n 0, 1) := by decide +kernel
theorem dX8_shape_71 : decode cX8_shape 71 = .ok (.aload_n 0, 1) := by decide +kernel
theorem dX8_shape_72 : decode cX8_shape 72 = .ok (.getfield 9, 3) := by decide +kernel
theorem dX8_shape_75 : decode cX8_shape 75 = .ok (.invokestatic 31, 3) := by decide +kernel
theorem dX8_shape_78 : decode cX8_shape 78 = .ok (.putfield 27, 3) := by decide +kernel
theorem dX8_shape_81 : decode cX8_shape 81 = .ok (.aload_n 0, 1) := by decide +kernel
theorem dX8_shape_82 : decode cX8_shape 82 = .ok (.iload_n 3, 1) := by decide +kernel
theorem dX8_shape_83 : decode cX8_shape 83 = .ok (.aload_n 0, 1) := by decide +kernel
theorem dX8_shape_84 : decode cX8_shape 84 = .ok (.getfield 27, 3) := by decide +kernel
theorem dX8_shape_87 : decode cX8_shape 87 = .ok (.isub, 1) := by decide +kernel
theorem dX8_shape_88 : decode cX8_shape 88 = .ok (.putfield 57, 3) := by decide +kernel
theorem dX8_shape_91 : decode cX8_shape 91 = .ok (.return_, 1) := by decide +kernel
theorem dX8_mirror_0 : decode cX8_mirror 0 = .ok (.iconst 1, 1) := by decide +kernel
theorem dX8_mirror_1 : decode cX8_mirror 1 = .ok (.istore_n 1, 1) := by decide +kernel
theorem dX8_mirror_2 : decode cX8_mirror 2 = .ok (.iload_n 1, 1) := by decide +kernel
theorem dX8_mirror_3 : decode cX8_mirror 3 = .ok (.bipush 7, 2) := by decide +kernel
theorem dX8_mirror_5 : decode cX8_mirror 5 = .ok (.if_icmp .ge 22, 3) := by decide +kernel
theorem dX8_mirror_8 : decode cX8_mirror 8 = .ok (.aload_n 0, 1) := by decide +kernel
theorem dX8_mirror_9 : decode cX8_mirror 9 = .ok (.getfield 9, 3) := by decide +kernel
theorem dX8_mirror_12 : decode cX8_mirror 12 = .ok (.iload_n 1, 1) := by decide +kernel
theorem dX8_mirror_13 : decode cX8_mirror 13 = .ok (.aload_n 0, 1) := by decide +kernel
theorem dX8_mirror_14 : decode cX8_mirror 14 = .ok (.getfield 9, 3) := by decide +kernel
theorem dX8_mirror_17 : decode cX8_mirror 17 = .ok (.iload_n 1, 1) := by decide +kernel
theorem dX8_mirror_18 : decode cX8_mirror 18 = .ok (.laload, 1) := by decide +kernel
theorem dX8_mirror_19 : decode cX8_mirror 19 = .ok (.lneg, 1) := by decide +kernel
theorem dX8_mirror_20 : decode cX8_mirror 20 = .ok (.lastore, 1) := by decide +kernel
theorem dX8_mirror_21 : decode cX8_mirror 21 = .ok (.iinc 1 2, 3) := by decide +kernel
theorem dX8_mirror_24 : decode cX8_mirror 24 = .ok (.goto (-22), 3) := by decide +kernel
theorem dX8_mirror_27 : decode cX8_mirror 27 = .ok (.return_, 1) := by decide +kernel
theorem dX8_turn_0 : decode cX8_turn 0 = .ok (.iconst 0, 1) := by decide +kernel
theorem dX8_turn_1 : decode cX8_turn 1 = .ok (.istore_n 3, 1) := by decide +kernel
theorem dX8_turn_2 : decode cX8_turn 2 = .ok (.iload_n 3, 1) := by decide +kernel
theorem dX8_turn_3 : decode cX8_turn 3 = .ok (.iload_n 2, 1) := by decide +kernel
theorem dX8_turn_4 : decode cX8_turn 4 = .ok (.if_icmp .gt 20, 3) := by decide +kernel
theorem dX8_turn_7 : decode cX8_turn 7 = .ok (.aload_n 0, 1) := by decide +kernel
theorem dX8_turn_8 : decode cX8_turn 8 = .ok (.getfield 9, 3) := by decide +kernel
theorem dX8_turn_11 : decode cX8_turn 11 = .ok (.iload_n 3, 1) := by decide +kernel
theorem dX8_turn_12 : decode cX8_turn 12 = .ok (.aload_n 1, 1) := by decide +kernel
theorem dX8_turn_13 : decode cX8_turn 13 = .ok (.iload_n 2, 1) := by decide +kernel
theorem dX8_turn_14 : decode cX8_turn 14 = .ok (.iload_n 3, 1) := by decide +kernel
theorem dX8_turn_15 : decode cX8_turn 15 = .ok (.isub, 1) := by decide +kernel
theorem dX8_turn_16 : decode cX8_turn 16 = .ok (.laload, 1) := by decide +kernel
theorem dX8_turn_17 : decode cX8_turn 17 = .ok (.lastore, 1) := by decide +kernel
theorem dX8_turn_18 : decode cX8_turn 18 = .ok (.iinc 3 1, 3) := by decide +kernel
theorem dX8_turn_21 : decode cX8_turn 21 = .ok (.goto (-19), 3) := by decide +kernel
theorem dX8_turn_24 : decode cX8_turn 24 = .ok (.return_, 1) := by decide +kernel
theorem dX8_carry_0 : decode cX8_carry 0 = .ok (.iconst 0, 1) := by decide +kernel
theorem dX8_carry_1 : decode cX8_carry 1 = .ok (.istore_n 3, 1) := by decide +kernel
theorem dX8_carry_2 : decode cX8_carry 2 = .ok (.iload_n 3, 1) := by decide +kernel
theorem dX8_carry_3 : decode cX8_carry 3 = .ok (.bipush 7, 2) := by decide +kernel
theorem dX8_carry_5 : decode cX8_carry 5 = .ok (.if_icmp .ge 23, 3) := by decide +kernel
theorem dX8_carry_8 : decode cX8_carry 8 = .ok (.aload_n 0, 1) := by decide +kernel
theorem dX8_carry_9 : decode cX8_carry 9 = .ok (.getfield 9, 3) := by decide +kernel
theorem dX8_carry_12 : decode cX8_carry 12 = .ok (.iload_n 3, 1) := by decide +kernel
theorem dX8_carry_13 : decode cX8_carry 13 = .ok (.lconst 0, 1) := by decide +kernel
theorem dX8_carry_14 : decode cX8_carry 14 = .ok (.lastore, 1) := by decide +kernel
theorem dX8_carry_15 : decode cX8_carry 15 = .ok (.aload_n 0, 1) := by decide +kernel
theorem dX8_carry_16 : decode cX8_carry 16 = .ok (.getfield 15, 3) := by decide +kernel
theorem dX8_carry_19 : decode cX8_carry 19 = .ok (.iload_n 3, 1) := by decide +kernel
theorem dX8_carry_20 : decode cX8_carry 20 = .ok (.lconst 0, 1) := by decide +kernel
theorem dX8_carry_21 : decode cX8_carry 21 = .ok (.lastore, 1) := by decide +kernel
theorem dX8_carry_22 : decode cX8_carry 22 = .ok (.iinc 3 1, 3) := by decide +kernel
theorem dX8_carry_25 : decode cX8_carry 25 = .ok (.goto (-23), 3) := by decide +kernel
theorem dX8_carry_28 : decode cX8_carry 28 = .ok (.aload_n 0, 1) := by decide +kernel
theorem dX8_carry_29 : decode cX8_carry 29 = .ok (.getfield 15, 3) := by decide +kernel
theorem dX8_carry_32 : decode cX8_carry 32 = .ok (.iconst 0, 1) := by decide +kernel
theorem dX8_carry_33 : decode cX8_carry 33 = .ok (.lconst 1, 1) := by decide +kernel
theorem dX8_carry_34 : decode cX8_carry 34 = .ok (.lastore, 1) := by decide +kernel
theorem dX8_carry_35 : decode cX8_carry 35 = .ok (.iload_n 2, 1) := by decide +kernel
theorem dX8_carry_36 : decode cX8_carry 36 = .ok (.istore_n 3, 1) := by decide +kernel
theorem dX8_carry_37 : decode cX8_carry 37 = .ok (.iload_n 3, 1) := by decide +kernel
theorem dX8_carry_38 : decode cX8_carry 38 = .ok (.ifCond .lt 62, 3) := by decide +kernel
theorem dX8_carry_41 : decode cX8_carry 41 = .ok (.aload_n 0, 1) := by decide +kernel
theorem dX8_carry_42 : decode cX8_carry 42 = .ok (.getfield 9, 3) := by decide +kernel
theorem dX8_carry_45 : decode cX8_carry 45 = .ok (.iconst 1, 1) := by decide +kernel
theorem dX8_carry_46 : decode cX8_carry 46 = .ok (.invokestatic 60, 3) := by decide +kernel
theorem dX8_carry_49 : decode cX8_carry 49 = .ok (.iconst 0, 1) := by decide +kernel
theorem dX8_carry_50 : decode cX8_carry 50 = .ok (.istore 4, 2) := by decide +kernel
theorem dX8_carry_52 : decode cX8_carry 52 = .ok (.iload 4, 2) := by decide +kernel
theorem dX8_carry_54 : decode cX8_carry 54 = .ok (.bipush 7, 2) := by decide +kernel
theorem dX8_carry_56 : decode cX8_carry 56 = .ok (.if_icmp .ge 30, 3) := by decide +kernel
theorem dX8_carry_59 : decode cX8_carry 59 = .ok (.aload_n 0, 1) := by decide +kernel
theorem dX8_carry_60 : decode cX8_carry 60 = .ok (.getfield 9, 3) := by decide +kernel
theorem dX8_carry_63 : decode cX8_carry 63 = .ok (.iload 4, 2) := by decide +kernel
theorem dX8_carry_65 : decode cX8_carry 65 = .ok (.dup2, 1) := by decide +kernel
theorem dX8_carry_66 : decode cX8_carry 66 = .ok (.laload, 1) := by decide +kernel
theorem dX8_carry_67 : decode cX8_carry 67 = .ok (.aload_n 1, 1) := by decide +kernel
theorem dX8_carry_68 : decode cX8_carry 68 = .ok (.iload_n 3, 1) := by decide +kernel
theorem dX8_carry_69 : decode cX8_carry 69 = .ok (.laload, 1) := by decide +kernel
theorem dX8_carry_70 : decode cX8_carry 70 = .ok (.aload_n 0, 1) := by decide +kernel
theorem dX8_carry_71 : decode cX8_carry 71 = .ok (.getfield 15, 3) := by decide +kernel
theorem dX8_carry_74 : decode cX8_carry 74 = .ok (.iload 4, 2) := by decide +kernel
theorem dX8_carry_76 : decode cX8_carry 76 = .ok (.laload, 1) := by decide +kernel
theorem dX8_carry_77 : decode cX8_carry 77 = .ok (.lmul, 1) := by decide +kernel
theorem dX8_carry_78 : decode cX8_carry 78 = .ok (.ladd, 1) := by decide +kernel
theorem dX8_carry_79 : decode cX8_carry 79 = .ok (.lastore, 1) := by decide +kernel
theorem dX8_carry_80 : decode cX8_carry 80 = .ok (.iinc 4 1, 3) := by decide +kernel
theorem dX8_carry_83 : decode cX8_carry 83 = .ok (.goto (-31), 3) := by decide +kernel
theorem dX8_carry_86 : decode cX8_carry 86 = .ok (.aload_n 0, 1) := by decide +kernel
theorem dX8_carry_87 : decode cX8_carry 87 = .ok (.getfield 15, 3) := by decide +kernel
theorem dX8_carry_90 : decode cX8_carry 90 = .ok (.iconst (-1), 1) := by decide +kernel
theorem dX8_carry_91 : decode cX8_carry 91 = .ok (.invokestatic 60, 3) := by decide +kernel
theorem dX8_carry_94 : decode cX8_carry 94 = .ok (.iinc 3 (-1), 3) := by decide +kernel
theorem dX8_carry_97 : decode cX8_carry 97 = .ok (.goto (-60), 3) := by decide +kernel
theorem dX8_carry_100 : decode cX8_carry 100 = .ok (.return_, 1) := by decide +kernel
theorem dX8_shift_0 : decode cX8_shift 0 = .ok (.iconst 0, 1) := by decide +kernel
theorem dX8_shift_1 : decode cX8_shift 1 = .ok (.istore_n 3, 1) := by decide +kernel
theorem dX8_shift_2 : decode cX8_shift 2 = .ok (.iload_n 3, 1) := by decide +kernel
theorem dX8_shift_3 : decode cX8_shift 3 = .ok (.iload_n 2, 1) := by decide +kernel
theorem dX8_shift_4 : decode cX8_shift 4 = .ok (.if_icmp .ge 48, 3) := by decide +kernel
theorem dX8_shift_7 : decode cX8_shift 7 = .ok (.iload_n 2, 1) := by decide +kernel
theorem dX8_shift_8 : decode cX8_shift 8 = .ok (.iconst 1, 1) := by decide +kernel
theorem dX8_shift_9 : decode cX8_shift 9 = .ok (.isub, 1) := by decide +kernel
theorem dX8_shift_10 : decode cX8_shift 10 = .ok (.istore 4, 2) := by decide +kernel
theorem dX8_shift_12 : decode cX8_shift 12 = .ok (.iload 4, 2) := by decide +kernel
theorem dX8_shift_14 : decode cX8_shift 14 = .ok (.iload_n 3, 1) := by decide +kernel
theorem dX8_shift_15 : decode cX8_shift 15 = .ok (.if_icmp .lt 31, 3) := by decide +kernel
theorem dX8_shift_18 : decode cX8_shift 18 = .ok (.aload_n 0, 1) := by decide +kernel
theorem dX8_shift_19 : decode cX8_shift 19 = .ok (.getfield 9, 3) := by decide +kernel
theorem dX8_shift_22 : decode cX8_shift 22 = .ok (.iload 4, 2) := by decide +kernel
theorem dX8_shift_24 : decode cX8_shift 24 = .ok (.dup2, 1) := by decide +kernel
theorem dX8_shift_25 : decode cX8_shift 25 = .ok (.laload, 1) := by decide +kernel
theorem dX8_shift_26 : decode cX8_shift 26 = .ok (.iload_n 1, 1) := by decide +kernel
theorem dX8_shift_27 : decode cX8_shift 27 = .ok (.i2l, 1) := by decide +kernel
theorem dX8_shift_28 : decode cX8_shift 28 = .ok (.aload_n 0, 1) := by decide +kernel
theorem dX8_shift_29 : decode cX8_shift 29 = .ok (.getfield 9, 3) := by decide +kernel
theorem dX8_shift_32 : decode cX8_shift 32 = .ok (.iload 4, 2) := by decide +kernel
theorem dX8_shift_34 : decode cX8_shift 34 = .ok (.iconst 1, 1) := by decide +kernel
theorem dX8_shift_35 : decode cX8_shift 35 = .ok (.iadd, 1) := by decide +kernel
theorem dX8_shift_36 : decode cX8_shift 36 = .ok (.laload, 1) := by decide +kernel
theorem dX8_shift_37 : decode cX8_shift 37 = .ok (.lmul, 1) := by decide +kernel
theorem dX8_shift_38 : decode cX8_shift 38 = .ok (.ladd, 1) := by decide +kernel
theorem dX8_shift_39 : decode cX8_shift 39 = .ok (.lastore, 1) := by decide +kernel
theorem dX8_shift_40 : decode cX8_shift 40 = .ok (.iinc 4 (-1), 3) := by decide +kernel
theorem dX8_shift_43 : decode cX8_shift 43 = .ok (.goto (-31), 3) := by decide +kernel
theorem dX8_shift_46 : decode cX8_shift 46 = .ok (.iinc 3 1, 3) := by decide +kernel
theorem dX8_shift_49 : decode cX8_shift 49 = .ok (.goto (-47), 3) := by decide +kernel
theorem dX8_shift_52 : decode cX8_shift 52 = .ok (.return_, 1) := by decide +kernel
theorem dX8_build_0 : decode cX8_build 0 = .ok (.aload_n 0, 1) := by decide +kernel
theorem dX8_build_1 : decode cX8_build 1 = .ok (.iconst 0, 1) := by decide +kernel
theorem dX8_build_2 : decode cX8_build 2 = .ok (.putfield 63, 3) := by decide +kernel
theorem dX8_build_5 : decode cX8_build 5 = .ok (.iconst 0, 1) := by decide +kernel
theorem dX8_build_6 : decode cX8_build 6 = .ok (.istore_n 1, 1) := by decide +kernel
theorem dX8_build_7 : decode cX8_build 7 = .ok (.iload_n 1, 1) := by decide +kernel
theorem dX8_build_8 : decode cX8_build 8 = .ok (.aload_n 0, 1) := by decide +kernel
theorem dX8_build_9 : decode cX8_build 9 = .ok (.getfield 27, 3) := by decide +kernel
theorem dX8_build_12 : decode cX8_build 12 = .ok (.if_icmp .gt 82, 3) := by decide +kernel
theorem dX8_build_15 : decode cX8_build 15 = .ok (.aload_n 0, 1) := by decide +kernel
theorem dX8_build_16 : decode cX8_build 16 = .ok (.getfield 63, 3) := by decide +kernel
theorem dX8_build_19 : decode cX8_build 19 = .ok (.ifCond .ne 75, 3) := by decide +kernel
theorem dX8_build_22 : decode cX8_build 22 = .ok (.iload_n 1, 1) := by decide +kernel
theorem dX8_build_23 : decode cX8_build 23 = .ok (.iconst 2, 1) := by decide +kernel
theorem dX8_build_24 : decode cX8_build 24 = .ok (.if_icmp .ge 11, 3) := by decide +kernel
theorem dX8_build_27 : decode cX8_build 27 = .ok (.aload_n 0, 1) := by decide +kernel
theorem dX8_build_28 : decode cX8_build 28 = .ok (.iload_n 1, 1) := by decide +kernel
theorem dX8_build_29 : decode cX8_build 29 = .ok (.invokevirtual 67, 3) := by decide +kernel
theorem dX8_build_32 : decode cX8_build 32 = .ok (.goto 8, 3) := by decide +kernel
theorem dX8_build_35 : decode cX8_build 35 = .ok (.aload_n 0, 1) := by decide +kernel
theorem dX8_build_36 : decode cX8_build 36 = .ok (.iload_n 1, 1) := by decide +kernel
theorem dX8_build_37 : decode cX8_build 37 = .ok (.invokevirtual 71, 3) := by decide +kernel
theorem dX8_build_40 : decode cX8_build 40 = .ok (.aload_n 0, 1) := by decide +kernel
theorem dX8_build_41 : decode cX8_build 41 = .ok (.getfield 23, 3) := by decide +kernel
theorem dX8_build_44 : decode cX8_build 44 = .ok (.iload_n 1, 1) := by decide +kernel
theorem dX8_build_45 : decode cX8_build 45 = .ok (.iload_n 1, 1) := by decide +kernel
theorem dX8_build_46 : decode cX8_build 46 = .ok (.ifCond .ne 7, 3) := by decide +kernel
theorem dX8_build_49 : decode cX8_build 49 = .ok (.iconst 0, 1) := by decide +kernel
theorem dX8_build_50 : decode cX8_build 50 = .ok (.goto 8, 3) := by decide +kernel
theorem dX8_build_53 : decode cX8_build 53 = .ok (.aload_n 0, 1) := by decide +kernel
theorem dX8_build_54 : decode cX8_build 54 = .ok (.iload_n 1, 1) := by decide +kernel
theorem dX8_build_55 : decode cX8_build 55 = .ok (.invokevirtual 74, 3) := by decide +kernel
theorem dX8_build_58 : decode cX8_build 58 = .ok (.iastore, 1) := by decide +kernel
theorem dX8_build_59 : decode cX8_build 59 = .ok (.aload_n 0, 1) := by decide +kernel
theorem dX8_build_60 : decode cX8_build 60 = .ok (.aload_n 0, 1) := by decide +kernel
theorem dX8_build_61 : decode cX8_build 61 = .ok (.getfield 20, 3) := by decide +kernel
theorem dX8_build_64 : decode cX8_build 64 = .ok (.iload_n 1, 1) := by decide +kernel
theorem dX8_build_65 : decode cX8_build 65 = .ok (.aaload, 1) := by decide +kernel
theorem dX8_build_66 : decode cX8_build 66 = .ok (.invokestatic 78, 3) := by decide +kernel
theorem dX8_build_69 : decode cX8_build 69 = .ok (.putfield 63, 3) := by decide +kernel
theorem dX8_build_72 : decode cX8_build 72 = .ok (.aload_n 0, 1) := by decide +kernel
theorem dX8_build_73 : decode cX8_build 73 = .ok (.getfield 63, 3) := by decide +kernel
theorem dX8_build_76 : decode cX8_build 76 = .ok (.ifCond .ne 12, 3) := by decide +kernel
theorem dX8_build_79 : decode cX8_build 79 = .ok (.aload_n 0, 1) := by decide +kernel
theorem dX8_build_80 : decode cX8_build 80 = .ok (.getfield 20, 3) := by decide +kernel
theorem dX8_build_83 : decode cX8_build 83 = .ok (.iload_n 1, 1) := by decide +kernel
theorem dX8_build_84 : decode cX8_build 84 = .ok (.aaload, 1) := by decide +kernel
theorem dX8_build_85 : decode cX8_build 85 = .ok (.invokestatic 82, 3) := by decide +kernel
theorem dX8_build_88 : decode cX8_build 88 = .ok (.iinc 1 1, 3) := by decide +kernel
theorem dX8_build_91 : decode cX8_build 91 = .ok (.goto (-84), 3) := by decide +kernel
theorem dX8_build_94 : decode cX8_build 94 = .ok (.return_, 1) := by decide +kernel
theorem dX8_takeRow_0 : decode cX8_takeRow 0 = .ok (.iconst 0, 1) := by decide +kernel
theorem dX8_takeRow_1 : decode cX8_takeRow 1 = .ok (.istore_n 2, 1) := by decide +kernel
theorem dX8_takeRow_2 : decode cX8_takeRow 2 = .ok (.iload_n 2, 1) := by decide +kernel
theorem dX8_takeRow_3 : decode cX8_takeRow 3 = .ok (.iconst 5, 1) := by decide +kernel
theorem dX8_takeRow_4 : decode cX8_takeRow 4 = .ok (.if_icmp .ge 42, 3) := by decide +kernel
theorem dX8_takeRow_7 : decode cX8_takeRow 7 = .ok (.aload_n 0, 1) := by decide +kernel
theorem dX8_takeRow_8 : decode cX8_takeRow 8 = .ok (.getfield 27, 3) := by decide +kernel
theorem dX8_takeRow_11 : decode cX8_takeRow 11 = .ok (.iload_n 1, 1) := by decide +kernel
theorem dX8_takeRow_12 : decode cX8_takeRow 12 = .ok (.isub, 1) := by decide +kernel
theorem dX8_takeRow_13 : decode cX8_takeRow 13 = .ok (.iconst 2, 1) := by decide +kernel
theorem dX8_takeRow_14 : decode cX8_takeRow 14 = .ok (.iload_n 2, 1) := by decide +kernel
theorem dX8_takeRow_15 : decode cX8_takeRow 15 = .ok (.imul, 1) := by decide +kernel
theorem dX8_takeRow_16 : decode cX8_takeRow 16 = .ok (.isub, 1) := by decide +kernel
theorem dX8_takeRow_17 : decode cX8_takeRow 17 = .ok (.istore_n 3, 1) := by decide +kernel
theorem dX8_takeRow_18 : decode cX8_takeRow 18 = .ok (.aload_n 0, 1) := by decide +kernel
theorem dX8_takeRow_19 : decode cX8_takeRow 19 = .ok (.getfield 20, 3) := by decide +kernel
theorem dX8_takeRow_22 : decode cX8_takeRow 22 = .ok (.iload_n 1, 1) := by decide +kernel
theorem dX8_takeRow_23 : decode cX8_takeRow 23 = .ok (.aaload, 1) := by decide +kernel
theorem dX8_takeRow_24 : decode cX8_takeRow 24 = .ok (.iload_n 2, 1) := by decide +kernel
theorem dX8_takeRow_25 : decode cX8_takeRow 25 = .ok (.iload_n 3, 1) := by decide +kernel
theorem dX8_takeRow_26 : decode cX8_takeRow 26 = .ok (.ifCond .ge 7, 3) := by decide +kernel
theorem dX8_takeRow_29 : decode cX8_takeRow 29 = .ok (.lconst 0, 1) := by decide +kernel
theorem dX8_takeRow_30 : decode cX8_takeRow 30 = .ok (.goto 9, 3) := by decide +kernel
theorem dX8_takeRow_33 : decode cX8_takeRow 33 = .ok (.aload_n 0, 1) := by decide +kernel
theorem dX8_takeRow_34 : decode cX8_takeRow 34 = .ok (.getfield 9, 3) := by decide +kernel
theorem dX8_takeRow_37 : decode cX8_takeRow 37 = .ok (.iload_n 3, 1) := by decide +kernel
theorem dX8_takeRow_38 : decode cX8_takeRow 38 = .ok (.laload, 1) := by decide +kernel
theorem dX8_takeRow_39 : decode cX8_takeRow 39 = .ok (.lastore, 1) := by decide +kernel
theorem dX8_takeRow_40 : decode cX8_takeRow 40 = .ok (.iinc 2 1, 3) := by decide +kernel
theorem dX8_takeRow_43 : decode cX8_takeRow 43 = .ok (.goto (-41), 3) := by decide +kernel
theorem dX8_takeRow_46 : decode cX8_takeRow 46 = .ok (.return_, 1) := by decide +kernel
theorem dX8_crossRow_0 : decode cX8_crossRow 0 = .ok (.aload_n 0, 1) := by decide +kernel
theorem dX8_crossRow_1 : decode cX8_crossRow 1 = .ok (.getfield 20, 3) := by decide +kernel
theorem dX8_crossRow_4 : decode cX8_crossRow 4 = .ok (.iload_n 1, 1) := by decide +kernel
theorem dX8_crossRow_5 : decode cX8_crossRow 5 = .ok (.iconst 2, 1) := by decide +kernel
theorem dX8_crossRow_6 : decode cX8_crossRow 6 = .ok (.isub, 1) := by decide +kernel
theorem dX8_crossRow_7 : decode cX8_crossRow 7 = .ok (.aaload, 1) := by decide +kernel
theorem dX8_crossRow_8 : decode cX8_crossRow 8 = .ok (.astore_n 2, 1) := by decide +kernel
theorem dX8_crossRow_9 : decode cX8_crossRow 9 = .ok (.aload_n 0, 1) := by decide +kernel
theorem dX8_crossRow_10 : decode cX8_crossRow 10 = .ok (.getfield 20, 3) := by decide +kernel
theorem dX8_crossRow_13 : decode cX8_crossRow 13 = .ok (.iload_n 1, 1) := by decide +kernel
theorem dX8_crossRow_14 : decode cX8_crossRow 14 = .ok (.iconst 1, 1) := by decide +kernel
theorem dX8_crossRow_15 : decode cX8_crossRow 15 = .ok (.isub, 1) := by decide +kernel
theorem dX8_crossRow_16 : decode cX8_crossRow 16 = .ok (.aaload, 1) := by decide +kernel
theorem dX8_crossRow_17 : decode cX8_crossRow 17 = .ok (.astore_n 3, 1) := by decide +kernel
theorem dX8_crossRow_18 : decode cX8_crossRow 18 = .ok (.iconst 0, 1) := by decide +kernel
theorem dX8_crossRow_19 : decode cX8_crossRow 19 = .ok (.istore 4, 2) := by decide +kernel
theorem dX8_crossRow_21 : decode cX8_crossRow 21 = .ok (.iload 4, 2) := by decide +kernel
theorem dX8_crossRow_23 : decode cX8_crossRow 23 = .ok (.iconst 5, 1) := by decide +kernel
theorem dX8_crossRow_24 : decode cX8_crossRow 24 = .ok (.if_icmp .ge 76, 3) := by decide +kernel
theorem dX8_crossRow_27 : decode cX8_crossRow 27 = .ok (.lconst 0, 1) := by decide +kernel
theorem dX8_crossRow_28 : decode cX8_crossRow 28 = .ok (.lstore 5, 2) := by decide +kernel
theorem dX8_crossRow_30 : decode cX8_crossRow 30 = .ok (.iload 4, 2) := by decide +kernel
theorem dX8_crossRow_32 : decode cX8_crossRow 32 = .ok (.aload_n 0, 1) := by decide +kernel
theorem dX8_crossRow_33 : decode cX8_crossRow 33 = .ok (.iload_n 1, 1) := by decide +kernel
theorem dX8_crossRow_34 : decode cX8_crossRow 34 = .ok (.invokevirtual 86, 3) := by decide +kernel
theorem dX8_crossRow_37 : decode cX8_crossRow 37 = .ok (.if_icmp .ge 32, 3) := by decide +kernel
theorem dX8_crossRow_40 : decode cX8_crossRow 40 = .ok (.aload_n 3, 1) := by decide +kernel
theorem dX8_crossRow_41 : decode cX8_crossRow 41 = .ok (.iconst 0, 1) := by decide +kernel
theorem dX8_crossRow_42 : decode cX8_crossRow 42 = .ok (.laload, 1) := by decide +kernel
theorem dX8_crossRow_43 : decode cX8_crossRow 43 = .ok (.aload_n 2, 1) := by decide +kernel
theorem dX8_crossRow_44 : decode cX8_crossRow 44 = .ok (.iload 4, 2) := by decide +kernel
theorem dX8_crossRow_46 : decode cX8_crossRow 46 = .ok (.iconst 1, 1) := by decide +kernel
theorem dX8_crossRow_47 : decode cX8_crossRow 47 = .ok (.iadd, 1) := by decide +kernel
theorem dX8_crossRow_48 : decode cX8_crossRow 48 = .ok (.laload, 1) := by decide +kernel
theorem dX8_crossRow_49 : decode cX8_crossRow 49 = .ok (.invokestatic 89, 3) := by decide +kernel
theorem dX8_crossRow_52 : decode cX8_crossRow 52 = .ok (.aload_n 2, 1) := by decide +kernel
theorem dX8_crossRow_53 : decode cX8_crossRow 53 = .ok (.iconst 0, 1) := by decide +kernel
theorem dX8_crossRow_54 : decode cX8_crossRow 54 = .ok (.laload, 1) := by decide +kernel
theorem dX8_crossRow_55 : decode cX8_crossRow 55 = .ok (.aload_n 3, 1) := by decide +kernel
theorem dX8_crossRow_56 : decode cX8_crossRow 56 = .ok (.iload 4, 2) := by decide +kernel
theorem dX8_crossRow_58 : decode cX8_crossRow 58 = .ok (.iconst 1, 1) := by decide +kernel
theorem dX8_crossRow_59 : decode cX8_crossRow 59 = .ok (.iadd, 1) := by decide +kernel
theorem dX8_crossRow_60 : decode cX8_crossRow 60 = .ok (.laload, 1) := by decide +kernel
theorem dX8_crossRow_61 : decode cX8_crossRow 61 = .ok (.invokestatic 89, 3) := by decide +kernel
theorem dX8_crossRow_64 : decode cX8_crossRow 64 = .ok (.invokestatic 95, 3) := by decide +kernel
theorem dX8_crossRow_67 : decode cX8_crossRow 67 = .ok (.lstore 5, 2) := by decide +kernel
theorem dX8_crossRow_69 : decode cX8_crossRow 69 = .ok (.aload_n 0, 1) := by decide +kernel
theorem dX8_crossRow_70 : decode cX8_crossRow 70 = .ok (.getfield 20, 3) := by decide +kernel
theorem dX8_crossRow_73 : decode cX8_crossRow 73 = .ok (.iload_n 1, 1) := by decide +kernel
theorem dX8_crossRow_74 : decode cX8_crossRow 74 = .ok (.aaload, 1) := by decide +kernel
theorem dX8_crossRow_75 : decode cX8_crossRow 75 = .ok (.iload 4, 2) := by decide +kernel
theorem dX8_crossRow_77 : decode cX8_crossRow 77 = .ok (.aload_n 3, 1) := by decide +kernel
theorem dX8_crossRow_78 : decode cX8_crossRow 78 = .ok (.iconst 0, 1) := by decide +kernel
theorem dX8_crossRow_79 : decode cX8_crossRow 79 = .ok (.laload, 1) := by decide +kernel
theorem dX8_crossRow_80 : decode cX8_crossRow 80 = .ok (.lconst 0, 1) := by decide +kernel
theorem dX8_crossRow_81 : decode cX8_crossRow 81 = .ok (.lcmp, 1) := by decide +kernel
theorem dX8_crossRow_82 : decode cX8_crossRow 82 = .ok (.ifCond .ge 9, 3) := by decide +kernel
theorem dX8_crossRow_85 : decode cX8_crossRow 85 = .ok (.lload 5, 2) := by decide +kernel
theorem dX8_crossRow_87 : decode cX8_crossRow 87 = .ok (.lneg, 1) := by decide +kernel
theorem dX8_crossRow_88 : decode cX8_crossRow 88 = .ok (.goto 5, 3) := by decide +kernel
theorem dX8_crossRow_91 : decode cX8_crossRow 91 = .ok (.lload 5, 2) := by decide +kernel
theorem dX8_crossRow_93 : decode cX8_crossRow 93 = .ok (.lastore, 1) := by decide +kernel
theorem dX8_crossRow_94 : decode cX8_crossRow 94 = .ok (.iinc 4 1, 3) := by decide +kernel
theorem dX8_crossRow_97 : decode cX8_crossRow 97 = .ok (.goto (-76), 3) := by decide +kernel
theorem dX8_crossRow_100 : decode cX8_crossRow 100 = .ok (.return_, 1) := by decide +kernel
theorem dX8_mendRow_0 : decode cX8_mendRow 0 = .ok (.iconst 0, 1) := by decide +kernel
theorem dX8_mendRow_1 : decode cX8_mendRow 1 = .ok (.istore_n 2, 1) := by decide +kernel
theorem dX8_mendRow_2 : decode cX8_mendRow 2 = .ok (.iload_n 2, 1) := by decide +kernel
theorem dX8_mendRow_3 : decode cX8_mendRow 3 = .ok (.aload_n 0, 1) := by decide +kernel
theorem dX8_mendRow_4 : decode cX8_mendRow 4 = .ok (.iload_n 1, 1) := by decide +kernel
theorem dX8_mendRow_5 : decode cX8_mendRow 5 = .ok (.invokevirtual 86, 3) := by decide +kernel
theorem dX8_mendRow_8 : decode cX8_mendRow 8 = .ok (.if_icmp .ge 22, 3) := by decide +kernel
theorem dX8_mendRow_11 : decode cX8_mendRow 11 = .ok (.aload_n 0, 1) := by decide +kernel
theorem dX8_mendRow_12 : decode cX8_mendRow 12 = .ok (.getfield 20, 3) := by decide +kernel
theorem dX8_mendRow_15 : decode cX8_mendRow 15 = .ok (.iload_n 1, 1) := by decide +kernel
theorem dX8_mendRow_16 : decode cX8_mendRow 16 = .ok (.aaload, 1) := by decide +kernel
theorem dX8_mendRow_17 : decode cX8_mendRow 17 = .ok (.iload_n 2, 1) := by decide +kernel
theorem dX8_mendRow_18 : decode cX8_mendRow 18 = .ok (.laload, 1) := by decide +kernel
theorem dX8_mendRow_19 : decode cX8_mendRow 19 = .ok (.lconst 0, 1) := by decide +kernel
theorem dX8_mendRow_20 : decode cX8_mendRow 20 = .ok (.lcmp, 1) := by decide +kernel
theorem dX8_mendRow_21 : decode cX8_mendRow 21 = .ok (.ifCond .ne 9, 3) := by decide +kernel
theorem dX8_mendRow_24 : decode cX8_mendRow 24 = .ok (.iinc 2 1, 3) := by decide +kernel
theorem dX8_mendRow_27 : decode cX8_mendRow 27 = .ok (.goto (-25), 3) := by decide +kernel
theorem dX8_mendRow_30 : decode cX8_mendRow 30 = .ok (.iload_n 2, 1) := by decide +kernel
theorem dX8_mendRow_31 : decode cX8_mendRow 31 = .ok (.ifCond .ne 5, 3) := by decide +kernel
theorem dX8_mendRow_34 : decode cX8_mendRow 34 = .ok (.iconst 0, 1) := by decide +kernel
theorem dX8_mendRow_35 : decode cX8_mendRow 35 = .ok (.ireturn, 1) := by decide +kernel
theorem dX8_mendRow_36 : decode cX8_mendRow 36 = .ok (.iload_n 2, 1) := by decide +kernel
theorem dX8_mendRow_37 : decode cX8_mendRow 37 = .ok (.aload_n 0, 1) := by decide +kernel
theorem dX8_mendRow_38 : decode cX8_mendRow 38 = .ok (.iload_n 1, 1) := by decide +kernel
theorem dX8_mendRow_39 : decode cX8_mendRow 39 = .ok (.invokevirtual 86, 3) := by decide +kernel
theorem dX8_mendRow_42 : decode cX8_mendRow 42 = .ok (.if_icmp .ne 56, 3) := by decide +kernel
theorem dX8_mendRow_45 : decode cX8_mendRow 45 = .ok (.iconst 0, 1) := by decide +kernel
theorem dX8_mendRow_46 : decode cX8_mendRow 46 = .ok (.istore_n 3, 1) := by decide +kernel
theorem dX8_mendRow_47 : decode cX8_mendRow 47 = .ok (.iload_n 3, 1) := by decide +kernel
theorem dX8_mendRow_48 : decode cX8_mendRow 48 = .ok (.aload_n 0, 1) := by decide +kernel
theorem dX8_mendRow_49 : decode cX8_mendRow 49 = .ok (.iload_n 1, 1) := by decide +kernel
theorem dX8_mendRow_50 : decode cX8_mendRow 50 = .ok (.invokevirtual 86, 3) := by decide +kernel
theorem dX8_mendRow_53 : decode cX8_mendRow 53 = .ok (.if_icmp .ge 43, 3) := by decide +kernel
theorem dX8_mendRow_56 : decode cX8_mendRow 56 = .ok (.aload_n 0, 1) := by decide +kernel
theorem dX8_mendRow_57 : decode cX8_mendRow 57 = .ok (.getfield 20, 3) := by decide +kernel
theorem dX8_mendRow_60 : decode cX8_mendRow 60 = .ok (.iload_n 1, 1) := by decide +kernel
theorem dX8_mendRow_61 : decode cX8_mendRow 61 = .ok (.aaload, 1) := by decide +kernel
theorem dX8_mendRow_62 : decode cX8_mendRow 62 = .ok (.iload_n 3, 1) := by decide +kernel
theorem dX8_mendRow_63 : decode cX8_mendRow 63 = .ok (.aload_n 0, 1) := by decide +kernel
theorem dX8_mendRow_64 : decode cX8_mendRow 64 = .ok (.getfield 20, 3) := by decide +kernel
theorem dX8_mendRow_67 : decode cX8_mendRow 67 = .ok (.iload_n 1, 1) := by decide +kernel
theorem dX8_mendRow_68 : decode cX8_mendRow 68 = .ok (.iconst 1, 1) := by decide +kernel
theorem dX8_mendRow_69 : decode cX8_mendRow 69 = .ok (.isub, 1) := by decide +kernel
theorem dX8_mendRow_70 : decode cX8_mendRow 70 = .ok (.aaload, 1) := by decide +kernel
theorem dX8_mendRow_71 : decode cX8_mendRow 71 = .ok (.iload_n 3, 1) := by decide +kernel
theorem dX8_mendRow_72 : decode cX8_mendRow 72 = .ok (.laload, 1) := by decide +kernel
theorem dX8_mendRow_73 : decode cX8_mendRow 73 = .ok (.aload_n 0, 1) := by decide +kernel
theorem dX8_mendRow_74 : decode cX8_mendRow 74 = .ok (.getfield 27, 3) := by decide +kernel
theorem dX8_mendRow_77 : decode cX8_mendRow 77 = .ok (.iload_n 1, 1) := by decide +kernel
theorem dX8_mendRow_78 : decode cX8_mendRow 78 = .ok (.isub, 1) := by decide +kernel
theorem dX8_mendRow_79 : decode cX8_mendRow 79 = .ok (.iconst 1, 1) := by decide +kernel
theorem dX8_mendRow_80 : decode cX8_mendRow 80 = .ok (.iadd, 1) := by decide +kernel
theorem dX8_mendRow_81 : decode cX8_mendRow 81 = .ok (.iconst 2, 1) := by decide +kernel
theorem dX8_mendRow_82 : decode cX8_mendRow 82 = .ok (.iload_n 3, 1) := by decide +kernel
theorem dX8_mendRow_83 : decode cX8_mendRow 83 = .ok (.imul, 1) := by decide +kernel
theorem dX8_mendRow_84 : decode cX8_mendRow 84 = .ok (.isub, 1) := by decide +kernel
theorem dX8_mendRow_85 : decode cX8_mendRow 85 = .ok (.i2l, 1) := by decide +kernel
theorem dX8_mendRow_86 : decode cX8_mendRow 86 = .ok (.invokestatic 89, 3) := by decide +kernel
theorem dX8_mendRow_89 : decode cX8_mendRow 89 = .ok (.lastore, 1) := by decide +kernel
theorem dX8_mendRow_90 : decode cX8_mendRow 90 = .ok (.iinc 3 1, 3) := by decide +kernel
theorem dX8_mendRow_93 : decode cX8_mendRow 93 = .ok (.goto (-46), 3) := by decide +kernel
theorem dX8_mendRow_96 : decode cX8_mendRow 96 = .ok (.iconst 2, 1) := by decide +kernel
theorem dX8_mendRow_97 : decode cX8_mendRow 97 = .ok (.ireturn, 1) := by decide +kernel
theorem dX8_mendRow_98 : decode cX8_mendRow 98 = .ok (.iconst 0, 1) := by decide +kernel
theorem dX8_mendRow_99 : decode cX8_mendRow 99 = .ok (.istore_n 3, 1) := by decide +kernel
theorem dX8_mendRow_100 : decode cX8_mendRow 100 = .ok (.iload_n 3, 1) := by decide +kernel
theorem dX8_mendRow_101 : decode cX8_mendRow 101 = .ok (.iload_n 2, 1) := by decide +kernel
theorem dX8_mendRow_102 : decode cX8_mendRow 102 = .ok (.iadd, 1) := by decide +kernel
theorem dX8_mendRow_103 : decode cX8_mendRow 103 = .ok (.aload_n 0, 1) := by decide +kernel
theorem dX8_mendRow_104 : decode cX8_mendRow 104 = .ok (.iload_n 1, 1) := by decide +kernel
theorem dX8_mendRow_105 : decode cX8_mendRow 105 = .ok (.invokevirtual 86, 3) := by decide +kernel
theorem dX8_mendRow_108 : decode cX8_mendRow 108 = .ok (.if_icmp .ge 55, 3) := by decide +kernel
theorem dX8_mendRow_111 : decode cX8_mendRow 111 = .ok (.aload_n 0, 1) := by decide +kernel
theorem dX8_mendRow_112 : decode cX8_mendRow 112 = .ok (.getfield 20, 3) := by decide +kernel
theorem dX8_mendRow_115 : decode cX8_mendRow 115 = .ok (.iload_n 1, 1) := by decide +kernel
theorem dX8_mendRow_116 : decode cX8_mendRow 116 = .ok (.aaload, 1) := by decide +kernel
theorem dX8_mendRow_117 : decode cX8_mendRow 117 = .ok (.iload_n 3, 1) := by decide +kernel
theorem dX8_mendRow_118 : decode cX8_mendRow 118 = .ok (.iload_n 2, 1) := by decide +kernel
theorem dX8_mendRow_119 : decode cX8_mendRow 119 = .ok (.iadd, 1) := by decide +kernel
theorem dX8_mendRow_120 : decode cX8_mendRow 120 = .ok (.laload, 1) := by decide +kernel
theorem dX8_mendRow_121 : decode cX8_mendRow 121 = .ok (.lstore 4, 2) := by decide +kernel
theorem dX8_mendRow_123 : decode cX8_mendRow 123 = .ok (.aload_n 0, 1) := by decide +kernel
theorem dX8_mendRow_124 : decode cX8_mendRow 124 = .ok (.getfield 20, 3) := by decide +kernel
theorem dX8_mendRow_127 : decode cX8_mendRow 127 = .ok (.iload_n 1, 1) := by decide +kernel
theorem dX8_mendRow_128 : decode cX8_mendRow 128 = .ok (.aaload, 1) := by decide +kernel
theorem dX8_mendRow_129 : decode cX8_mendRow 129 = .ok (.iload_n 3, 1) := by decide +kernel
theorem dX8_mendRow_130 : decode cX8_mendRow 130 = .ok (.aload_n 0, 1) := by decide +kernel
theorem dX8_mendRow_131 : decode cX8_mendRow 131 = .ok (.getfield 20, 3) := by decide +kernel
theorem dX8_mendRow_134 : decode cX8_mendRow 134 = .ok (.iload_n 1, 1) := by decide +kernel
theorem dX8_mendRow_135 : decode cX8_mendRow 135 = .ok (.aaload, 1) := by decide +kernel
theorem dX8_mendRow_136 : decode cX8_mendRow 136 = .ok (.iload_n 3, 1) := by decide +kernel
theorem dX8_mendRow_137 : decode cX8_mendRow 137 = .ok (.laload, 1) := by decide +kernel
theorem dX8_mendRow_138 : decode cX8_mendRow 138 = .ok (.iload_n 2, 1) := by decide +kernel
theorem dX8_mendRow_139 : decode cX8_mendRow 139 = .ok (.iconst 2, 1) := by decide +kernel
theorem dX8_mendRow_140 : decode cX8_mendRow 140 = .ok (.irem, 1) := by decide +kernel
theorem dX8_mendRow_141 : decode cX8_mendRow 141 = .ok (.iconst 1, 1) := by decide +kernel
theorem dX8_mendRow_142 : decode cX8_mendRow 142 = .ok (.if_icmp .ne 9, 3) := by decide +kernel
theorem dX8_mendRow_145 : decode cX8_mendRow 145 = .ok (.lload 4, 2) := by decide +kernel
theorem dX8_mendRow_147 : decode cX8_mendRow 147 = .ok (.lneg, 1) := by decide +kernel
theorem dX8_mendRow_148 : decode cX8_mendRow 148 = .ok (.goto 5, 3) := by decide +kernel
theorem dX8_mendRow_151 : decode cX8_mendRow 151 = .ok (.lload 4, 2) := by decide +kernel
theorem dX8_mendRow_153 : decode cX8_mendRow 153 = .ok (.invokestatic 98, 3) := by decide +kernel
theorem dX8_mendRow_156 : decode cX8_mendRow 156 = .ok (.lastore, 1) := by decide +kernel
theorem dX8_mendRow_157 : decode cX8_mendRow 157 = .ok (.iinc 3 1, 3) := by decide +kernel
theorem dX8_mendRow_160 : decode cX8_mendRow 160 = .ok (.goto (-60), 3) := by decide +kernel
theorem dX8_mendRow_163 : decode cX8_mendRow 163 = .ok (.iconst 1, 1) := by decide +kernel
theorem dX8_mendRow_164 : decode cX8_mendRow 164 = .ok (.ireturn, 1) := by decide +kernel
theorem dX8_hasRow_0 : decode cX8_hasRow 0 = .ok (.iload_n 1, 1) := by decide +kernel
theorem dX8_hasRow_1 : decode cX8_hasRow 1 = .ok (.ifCond .lt 15, 3) := by decide +kernel
theorem dX8_hasRow_4 : decode cX8_hasRow 4 = .ok (.iload_n 1, 1) := by decide +kernel
theorem dX8_hasRow_5 : decode cX8_hasRow 5 = .ok (.aload_n 0, 1) := by decide +kernel
theorem dX8_hasRow_6 : decode cX8_hasRow 6 = .ok (.getfield 27, 3) := by decide +kernel
theorem dX8_hasRow_9 : decode cX8_hasRow 9 = .ok (.if_icmp .gt 7, 3) := by decide +kernel
theorem dX8_hasRow_12 : decode cX8_hasRow 12 = .ok (.iconst 1, 1) := by decide +kernel
theorem dX8_hasRow_13 : decode cX8_hasRow 13 = .ok (.goto 4, 3) := by decide +kernel
theorem dX8_hasRow_16 : decode cX8_hasRow 16 = .ok (.iconst 0, 1) := by decide +kernel
theorem dX8_hasRow_17 : decode cX8_hasRow 17 = .ok (.ireturn, 1) := by decide +kernel
theorem dX8_width_0 : decode cX8_width 0 = .ok (.aload_n 0, 1) := by decide +kernel
theorem dX8_width_1 : decode cX8_width 1 = .ok (.getfield 27, 3) := by decide +kernel
theorem dX8_width_4 : decode cX8_width 4 = .ok (.iload_n 1, 1) := by decide +kernel
theorem dX8_width_5 : decode cX8_width 5 = .ok (.isub, 1) := by decide +kernel
theorem dX8_width_6 : decode cX8_width 6 = .ok (.iconst 2, 1) := by decide +kernel
theorem dX8_width_7 : decode cX8_width 7 = .ok (.idiv, 1) := by decide +kernel
theorem dX8_width_8 : decode cX8_width 8 = .ok (.iconst 1, 1) := by decide +kernel
theorem dX8_width_9 : decode cX8_width 9 = .ok (.iadd, 1) := by decide +kernel
theorem dX8_width_10 : decode cX8_width 10 = .ok (.ireturn, 1) := by decide +kernel
theorem dX8_item_0 : decode cX8_item 0 = .ok (.aload_n 0, 1) := by decide +kernel
theorem dX8_item_1 : decode cX8_item 1 = .ok (.getfield 20, 3) := by decide +kernel
theorem dX8_item_4 : decode cX8_item 4 = .ok (.iload_n 1, 1) := by decide +kernel
theorem dX8_item_5 : decode cX8_item 5 = .ok (.aaload, 1) := by decide +kernel
theorem dX8_item_6 : decode cX8_item 6 = .ok (.iload_n 2, 1) := by decide +kernel
theorem dX8_item_7 : decode cX8_item 7 = .ok (.laload, 1) := by decide +kernel
theorem dX8_item_8 : decode cX8_item 8 = .ok (.lreturn, 1) := by decide +kernel
theorem dX8_mending_0 : decode cX8_mending 0 = .ok (.aload_n 0, 1) := by decide +kernel
theorem dX8_mending_1 : decode cX8_mending 1 = .ok (.getfield 23, 3) := by decide +kernel
theorem dX8_mending_4 : decode cX8_mending 4 = .ok (.iload_n 1, 1) := by decide +kernel
theorem dX8_mending_5 : decode cX8_mending 5 = .ok (.iaload, 1) := by decide +kernel
theorem dX8_mending_6 : decode cX8_mending 6 = .ok (.ireturn, 1) := by decide +kernel
theorem dX8_signChanges_0 : decode cX8_signChanges 0 = .ok (.iconst 0, 1) := by decide +kernel
theorem dX8_signChanges_1 : decode cX8_signChanges 1 = .ok (.istore_n 3, 1) := by decide +kernel
theorem dX8_signChanges_2 : decode cX8_signChanges 2 = .ok (.iload_n 1, 1) := by decide +kernel
theorem dX8_signChanges_3 : decode cX8_signChanges 3 = .ok (.iconst 1, 1) := by decide +kernel
theorem dX8_signChanges_4 : decode cX8_signChanges 4 = .ok (.iadd, 1) := by decide +kernel
theorem dX8_signChanges_5 : decode cX8_signChanges 5 = .ok (.istore 4, 2) := by decide +kernel
theorem dX8_signChanges_7 : decode cX8_signChanges 7 = .ok (.iload 4, 2) := by decide +kernel
theorem dX8_signChanges_9 : decode cX8_signChanges 9 = .ok (.iload_n 2, 1) := by decide +kernel
theorem dX8_signChanges_10 : decode cX8_signChanges 10 = .ok (.if_icmp .gt 55, 3) := by decide +kernel
theorem dX8_signChanges_13 : decode cX8_signChanges 13 = .ok (.aload_n 0, 1) := by decide +kernel
theorem dX8_signChanges_14 : decode cX8_signChanges 14 = .ok (.getfield 20, 3) := by decide +kernel
theorem dX8_signChanges_17 : decode cX8_signChanges 17 = .ok (.iload 4, 2) := by decide +kernel
theorem dX8_signChanges_19 : decode cX8_signChanges 19 = .ok (.aaload, 1) := by decide +kernel
theorem dX8_signChanges_20 : decode cX8_signChanges 20 = .ok (.iconst 0, 1) := by decide +kernel
theorem dX8_signChanges_21 : decode cX8_signChanges 21 = .ok (.laload, 1) := by decide +kernel
theorem dX8_signChanges_22 : decode cX8_signChanges 22 = .ok (.lconst 0, 1) := by decide +kernel
theorem dX8_signChanges_23 : decode cX8_signChanges 23 = .ok (.lcmp, 1) := by decide +kernel
theorem dX8_signChanges_24 : decode cX8_signChanges 24 = .ok (.ifCond .ge 7, 3) := by decide +kernel
theorem dX8_signChanges_27 : decode cX8_signChanges 27 = .ok (.iconst 1, 1) := by decide +kernel
theorem dX8_signChanges_28 : decode cX8_signChanges 28 = .ok (.goto 4, 3) := by decide +kernel
theorem dX8_signChanges_31 : decode cX8_signChanges 31 = .ok (.iconst 0, 1) := by decide +kernel
theorem dX8_signChanges_32 : decode cX8_signChanges 32 = .ok (.aload_n 0, 1) := by decide +kernel
theorem dX8_signChanges_33 : decode cX8_signChanges 33 = .ok (.getfield 20, 3) := by decide +kernel
theorem dX8_signChanges_36 : decode cX8_signChanges 36 = .ok (.iload 4, 2) := by decide +kernel
theorem dX8_signChanges_38 : decode cX8_signChanges 38 = .ok (.iconst 1, 1) := by decide +kernel
theorem dX8_signChanges_39 : decode cX8_signChanges 39 = .ok (.isub, 1) := by decide +kernel
theorem dX8_signChanges_40 : decode cX8_signChanges 40 = .ok (.aaload, 1) := by decide +kernel
theorem dX8_signChanges_41 : decode cX8_signChanges 41 = .ok (.iconst 0, 1) := by decide +kernel
theorem dX8_signChanges_42 : decode cX8_signChanges 42 = .ok (.laload, 1) := by decide +kernel
theorem dX8_signChanges_43 : decode cX8_signChanges 43 = .ok (.lconst 0, 1) := by decide +kernel
theorem dX8_signChanges_44 : decode cX8_signChanges 44 = .ok (.lcmp, 1) := by decide +kernel
theorem dX8_signChanges_45 : decode cX8_signChanges 45 = .ok (.ifCond .ge 7, 3) := by decide +kernel
theorem dX8_signChanges_48 : decode cX8_signChanges 48 = .ok (.iconst 1, 1) := by decide +kernel
theorem dX8_signChanges_49 : decode cX8_signChanges 49 = .ok (.goto 4, 3) := by decide +kernel
theorem dX8_signChanges_52 : decode cX8_signChanges 52 = .ok (.iconst 0, 1) := by decide +kernel
theorem dX8_signChanges_53 : decode cX8_signChanges 53 = .ok (.if_icmp .eq 6, 3) := by decide +kernel
theorem dX8_signChanges_56 : decode cX8_signChanges 56 = .ok (.iinc 3 1, 3) := by decide +kernel
theorem dX8_signChanges_59 : decode cX8_signChanges 59 = .ok (.iinc 4 1, 3) := by decide +kernel
theorem dX8_signChanges_62 : decode cX8_signChanges 62 = .ok (.goto (-55), 3) := by decide +kernel
theorem dX8_signChanges_65 : decode cX8_signChanges 65 = .ok (.iload_n 3, 1) := by decide +kernel
theorem dX8_signChanges_66 : decode cX8_signChanges 66 = .ok (.ireturn, 1) := by decide +kernel
theorem dX8_firstNothing_0 : decode cX8_firstNothing 0 = .ok (.iconst 0, 1) := by decide +kernel
theorem dX8_firstNothing_1 : decode cX8_firstNothing 1 = .ok (.istore_n 1, 1) := by decide +kernel
theorem dX8_firstNothing_2 : decode cX8_firstNothing 2 = .ok (.iload_n 1, 1) := by decide +kernel
theorem dX8_firstNothing_3 : decode cX8_firstNothing 3 = .ok (.aload_n 0, 1) := by decide +kernel
theorem dX8_firstNothing_4 : decode cX8_firstNothing 4 = .ok (.getfield 27, 3) := by decide +kernel
theorem dX8_firstNothing_7 : decode cX8_firstNothing 7 = .ok (.if_icmp .gt 21, 3) := by decide +kernel
theorem dX8_firstNothing_10 : decode cX8_firstNothing 10 = .ok (.aload_n 0, 1) := by decide +kernel
theorem dX8_firstNothing_11 : decode cX8_firstNothing 11 = .ok (.getfield 23, 3) := by decide +kernel
theorem dX8_firstNothing_14 : decode cX8_firstNothing 14 = .ok (.iload_n 1, 1) := by decide +kernel
theorem dX8_firstNothing_15 : decode cX8_firstNothing 15 = .ok (.iaload, 1) := by decide +kernel
theorem dX8_firstNothing_16 : decode cX8_firstNothing 16 = .ok (.iconst 2, 1) := by decide +kernel
theorem dX8_firstNothing_17 : decode cX8_firstNothing 17 = .ok (.if_icmp .ne 5, 3) := by decide +kernel
theorem dX8_firstNothing_20 : decode cX8_firstNothing 20 = .ok (.iload_n 1, 1) := by decide +kernel
theorem dX8_firstNothing_21 : decode cX8_firstNothing 21 = .ok (.ireturn, 1) := by decide +kernel
theorem dX8_firstNothing_22 : decode cX8_firstNothing 22 = .ok (.iinc 1 1, 3) := by decide +kernel
theorem dX8_firstNothing_25 : decode cX8_firstNothing 25 = .ok (.goto (-23), 3) := by decide +kernel
theorem dX8_firstNothing_28 : decode cX8_firstNothing 28 = .ok (.iconst (-1), 1) := by decide +kernel
theorem dX8_firstNothing_29 : decode cX8_firstNothing 29 = .ok (.ireturn, 1) := by decide +kernel
theorem dX8_rightCount_0 : decode cX8_rightCount 0 = .ok (.aload_n 0, 1) := by decide +kernel
theorem dX8_rightCount_1 : decode cX8_rightCount 1 = .ok (.iconst 0, 1) := by decide +kernel
theorem dX8_rightCount_2 : decode cX8_rightCount 2 = .ok (.aload_n 0, 1) := by decide +kernel
theorem dX8_rightCount_3 : decode cX8_rightCount 3 = .ok (.getfield 27, 3) := by decide +kernel
theorem dX8_rightCount_6 : decode cX8_rightCount 6 = .ok (.invokevirtual 101, 3) := by decide +kernel
theorem dX8_rightCount_9 : decode cX8_rightCount 9 = .ok (.ireturn, 1) := by decide +kernel
theorem dX8_axisCount_0 : decode cX8_axisCount 0 = .ok (.aload_n 0, 1) := by decide +kernel
theorem dX8_axisCount_1 : decode cX8_axisCount 1 = .ok (.invokevirtual 105, 3) := by decide +kernel
theorem dX8_axisCount_4 : decode cX8_axisCount 4 = .ok (.istore_n 1, 1) := by decide +kernel
theorem dX8_axisCount_5 : decode cX8_axisCount 5 = .ok (.iload_n 1, 1) := by decide +kernel
theorem dX8_axisCount_6 : decode cX8_axisCount 6 = .ok (.iconst 1, 1) := by decide +kernel
theorem dX8_axisCount_7 : decode cX8_axisCount 7 = .ok (.if_icmp .ge 7, 3) := by decide +kernel
theorem dX8_axisCount_10 : decode cX8_axisCount 10 = .ok (.iconst 0, 1) := by decide +kernel
theorem dX8_axisCount_11 : decode cX8_axisCount 11 = .ok (.goto 25, 3) := by decide +kernel
theorem dX8_axisCount_14 : decode cX8_axisCount 14 = .ok (.aload_n 0, 1) := by decide +kernel
theorem dX8_axisCount_15 : decode cX8_axisCount 15 = .ok (.getfield 27, 3) := by decide +kernel
theorem dX8_axisCount_18 : decode cX8_axisCount 18 = .ok (.iload_n 1, 1) := by decide +kernel
theorem dX8_axisCount_19 : decode cX8_axisCount 19 = .ok (.isub, 1) := by decide +kernel
theorem dX8_axisCount_20 : decode cX8_axisCount 20 = .ok (.iconst 1, 1) := by decide +kernel
theorem dX8_axisCount_21 : decode cX8_axisCount 21 = .ok (.iadd, 1) := by decide +kernel
theorem dX8_axisCount_22 : decode cX8_axisCount 22 = .ok (.iconst 2, 1) := by decide +kernel
theorem dX8_axisCount_23 : decode cX8_axisCount 23 = .ok (.aload_n 0, 1) := by decide +kernel
theorem dX8_axisCount_24 : decode cX8_axisCount 24 = .ok (.iload_n 1, 1) := by decide +kernel
theorem dX8_axisCount_25 : decode cX8_axisCount 25 = .ok (.iconst 1, 1) := by decide +kernel
theorem dX8_axisCount_26 : decode cX8_axisCount 26 = .ok (.isub, 1) := by decide +kernel
theorem dX8_axisCount_27 : decode cX8_axisCount 27 = .ok (.aload_n 0, 1) := by decide +kernel
theorem dX8_axisCount_28 : decode cX8_axisCount 28 = .ok (.getfield 27, 3) := by decide +kernel
theorem dX8_axisCount_31 : decode cX8_axisCount 31 = .ok (.invokevirtual 101, 3) := by decide +kernel
theorem dX8_axisCount_34 : decode cX8_axisCount 34 = .ok (.imul, 1) := by decide +kernel
theorem dX8_axisCount_35 : decode cX8_axisCount 35 = .ok (.isub, 1) := by decide +kernel
theorem dX8_axisCount_36 : decode cX8_axisCount 36 = .ok (.ireturn, 1) := by decide +kernel
theorem dX8_leftCount_0 : decode cX8_leftCount 0 = .ok (.aload_n 0, 1) := by decide +kernel
theorem dX8_leftCount_1 : decode cX8_leftCount 1 = .ok (.getfield 27, 3) := by decide +kernel
theorem dX8_leftCount_4 : decode cX8_leftCount 4 = .ok (.iconst 1, 1) := by decide +kernel
theorem dX8_leftCount_5 : decode cX8_leftCount 5 = .ok (.if_icmp .ge 7, 3) := by decide +kernel
theorem dX8_leftCount_8 : decode cX8_leftCount 8 = .ok (.iconst 0, 1) := by decide +kernel
theorem dX8_leftCount_9 : decode cX8_leftCount 9 = .ok (.goto 17, 3) := by decide +kernel
theorem dX8_leftCount_12 : decode cX8_leftCount 12 = .ok (.aload_n 0, 1) := by decide +kernel
theorem dX8_leftCount_13 : decode cX8_leftCount 13 = .ok (.getfield 27, 3) := by decide +kernel
theorem dX8_leftCount_16 : decode cX8_leftCount 16 = .ok (.aload_n 0, 1) := by decide +kernel
theorem dX8_leftCount_17 : decode cX8_leftCount 17 = .ok (.invokevirtual 109, 3) := by decide +kernel
theorem dX8_leftCount_20 : decode cX8_leftCount 20 = .ok (.isub, 1) := by decide +kernel
theorem dX8_leftCount_21 : decode cX8_leftCount 21 = .ok (.aload_n 0, 1) := by decide +kernel
theorem dX8_leftCount_22 : decode cX8_leftCount 22 = .ok (.invokevirtual 112, 3) := by decide +kernel
theorem dX8_leftCount_25 : decode cX8_leftCount 25 = .ok (.isub, 1) := by decide +kernel
theorem dX8_leftCount_26 : decode cX8_leftCount 26 = .ok (.ireturn, 1) := by decide +kernel
theorem dX9_init_0 : decode cX9_init 0 = .ok (.aload_n 0, 1) := by decide +kernel
theorem dX9_init_1 : decode cX9_init 1 = .ok (.invokespecial 3, 3) := by decide +kernel
theorem dX9_init_4 : decode cX9_init 4 = .ok (.aload_n 0, 1) := by decide +kernel
theorem dX9_init_5 : decode cX9_init 5 = .ok (.bipush 60, 2) := by decide +kernel
theorem dX9_init_7 : decode cX9_init 7 = .ok (.newarray .int, 2) := by decide +kernel
theorem dX9_init_9 : decode cX9_init 9 = .ok (.putfield 9, 3) := by decide +kernel
theorem dX9_init_12 : decode cX9_init 12 = .ok (.aload_n 0, 1) := by decide +kernel
theorem dX9_init_13 : decode cX9_init 13 = .ok (.bipush 7, 2) := by decide +kernel
theorem dX9_init_15 : decode cX9_init 15 = .ok (.newarray .long, 2) := by decide +kernel
theorem dX9_init_17 : decode cX9_init 17 = .ok (.putfield 15, 3) := by decide +kernel
theorem dX9_init_20 : decode cX9_init 20 = .ok (.aload_n 0, 1) := by decide +kernel
theorem dX9_init_21 : decode cX9_init 21 = .ok (.bipush 7, 2) := by decide +kernel
theorem dX9_init_23 : decode cX9_init 23 = .ok (.newarray .long, 2) := by decide +kernel
theorem dX9_init_25 : decode cX9_init 25 = .ok (.putfield 19, 3) := by decide +kernel
theorem dX9_init_28 : decode cX9_init 28 = .ok (.return_, 1) := by decide +kernel
theorem dX9_append_0 : decode cX9_append 0 = .ok (.aload_n 0, 1) := by decide +kernel
theorem dX9_append_1 : decode cX9_append 1 = .ok (.getfield 22, 3) := by decide +kernel
theorem dX9_append_4 : decode cX9_append 4 = .ok (.bipush 60, 2) := by decide +kernel
theorem dX9_append_6 : decode cX9_append 6 = .ok (.if_icmp .ge 23, 3) := by decide +kernel
theorem dX9_append_9 : decode cX9_append 9 = .ok (.aload_n 0, 1) := by decide +kernel
theorem dX9_append_10 : decode cX9_append 10 = .ok (.getfield 9, 3) := by decide +kernel
theorem dX9_append_13 : decode cX9_append 13 = .ok (.aload_n 0, 1) := by decide +kernel
theorem dX9_append_14 : decode cX9_append 14 = .ok (.getfield 22, 3) := by decide +kernel
theorem dX9_append_17 : decode cX9_append 17 = .ok (.iload_n 1, 1) := by decide +kernel
theorem dX9_append_18 : decode cX9_append 18 = .ok (.iastore, 1) := by decide +kernel
theorem dX9_append_19 : decode cX9_append 19 = .ok (.aload_n 0, 1) := by decide +kernel
theorem dX9_append_20 : decode cX9_append 20 = .ok (.dup, 1) := by decide +kernel
theorem dX9_append_21 : decode cX9_append 21 = .ok (.getfield 22, 3) := by decide +kernel
theorem dX9_append_24 : decode cX9_append 24 = .ok (.iconst 1, 1) := by decide +kernel
theorem dX9_append_25 : decode cX9_append 25 = .ok (.iadd, 1) := by decide +kernel
theorem dX9_append_26 : decode cX9_append 26 = .ok (.putfield 22, 3) := by decide +kernel
theorem dX9_append_29 : decode cX9_append 29 = .ok (.return_, 1) := by decide +kernel
theorem dX9_parse_0 : decode cX9_parse 0 = .ok (.iconst 0, 1) := by decide +kernel
theorem dX9_parse_1 : decode cX9_parse 1 = .ok (.istore_n 1, 1) := by decide +kernel
theorem dX9_parse_2 : decode cX9_parse 2 = .ok (.iload_n 1, 1) := by decide +kernel
theorem dX9_parse_3 : decode cX9_parse 3 = .ok (.bipush 7, 2) := by decide +kernel
theorem dX9_parse_5 : decode cX9_parse 5 = .ok (.if_icmp .ge 23, 3) := by decide +kernel
theorem dX9_parse_8 : decode cX9_parse 8 = .ok (.aload_n 0, 1) := by decide +kernel
theorem dX9_parse_9 : decode cX9_parse 9 = .ok (.getfield 15, 3) := by decide +kernel
theorem dX9_parse_12 : decode cX9_parse 12 = .ok (.iload_n 1, 1) := by decide +kernel
theorem dX9_parse_13 : decode cX9_parse 13 = .ok (.lconst 0, 1) := by decide +kernel
theorem dX9_parse_14 : decode cX9_parse 14 = .ok (.lastore, 1) := by decide +kernel
theorem dX9_parse_15 : decode cX9_parse 15 = .ok (.aload_n 0, 1) := by decide +kernel
theorem dX9_parse_16 : decode cX9_parse 16 = .ok (.getfield 19, 3) := by decide +kernel
theorem dX9_parse_19 : decode cX9_parse 19 = .ok (.iload_n 1, 1) := by decide +kernel
theorem dX9_parse_20 : decode cX9_parse 20 = .ok (.lconst 0, 1) := by decide +kernel
theorem dX9_parse_21 : decode cX9_parse 21 = .ok (.lastore, 1) := by decide +kernel
theorem dX9_parse_22 : decode cX9_parse 22 = .ok (.iinc 1 1, 3) := by decide +kernel
theorem dX9_parse_25 : decode cX9_parse 25 = .ok (.goto (-23), 3) := by decide +kernel
theorem dX9_parse_28 : decode cX9_parse 28 = .ok (.aload_n 0, 1) := by decide +kernel
theorem dX9_parse_29 : decode cX9_parse 29 = .ok (.iconst 0, 1) := by decide +kernel
theorem dX9_parse_30 : decode cX9_parse 30 = .ok (.putfield 26, 3) := by decide +kernel
theorem dX9_parse_33 : decode cX9_parse 33 = .ok (.aload_n 0, 1) := by decide +kernel
theorem dX9_parse_34 : decode cX9_parse 34 = .ok (.iconst (-1), 1) := by decide +kernel
theorem dX9_parse_35 : decode cX9_parse 35 = .ok (.putfield 29, 3) := by decide +kernel
theorem dX9_parse_38 : decode cX9_parse 38 = .ok (.aload_n 0, 1) := by decide +kernel
theorem dX9_parse_39 : decode cX9_parse 39 = .ok (.iconst 0, 1) := by decide +kernel
theorem dX9_parse_40 : decode cX9_parse 40 = .ok (.putfield 32, 3) := by decide +kernel
theorem dX9_parse_43 : decode cX9_parse 43 = .ok (.aload_n 0, 1) := by decide +kernel
theorem dX9_parse_44 : decode cX9_parse 44 = .ok (.aload_n 0, 1) := by decide +kernel
theorem dX9_parse_45 : decode cX9_parse 45 = .ok (.getfield 15, 3) := by decide +kernel
theorem dX9_parse_48 : decode cX9_parse 48 = .ok (.iconst 1, 1) := by decide +kernel
theorem dX9_parse_49 : decode cX9_parse 49 = .ok (.invokevirtual 35, 3) := by decide +kernel
theorem dX9_parse_52 : decode cX9_parse 52 = .ok (.aload_n 0, 1) := by decide +kernel
theorem dX9_parse_53 : decode cX9_parse 53 = .ok (.getfield 29, 3) := by decide +kernel
theorem dX9_parse_56 : decode cX9_parse 56 = .ok (.iconst (-1), 1) := by decide +kernel
theorem dX9_parse_57 : decode cX9_parse 57 = .ok (.if_icmp .ne 18, 3) := by decide +kernel
theorem dX9_parse_60 : decode cX9_parse 60 = .ok (.aload_n 0, 1) := by decide +kernel
theorem dX9_parse_61 : decode cX9_parse 61 = .ok (.aload_n 0, 1) := by decide +kernel
theorem dX9_parse_62 : decode cX9_parse 62 = .ok (.getfield 32, 3) := by decide +kernel
theorem dX9_parse_65 : decode cX9_parse 65 = .ok (.invokevirtual 39, 3) := by decide +kernel
theorem dX9_parse_68 : decode cX9_parse 68 = .ok (.ifCond .eq 7, 3) := by decide +kernel
theorem dX9_parse_71 : decode cX9_parse 71 = .ok (.aload_n 0, 1) := by decide +kernel
theorem dX9_parse_72 : decode cX9_parse 72 = .ok (.invokevirtual 43, 3) := by decide +kernel
theorem dX9_parse_75 : decode cX9_parse 75 = .ok (.aload_n 0, 1) := by decide +kernel
theorem dX9_parse_76 : decode cX9_parse 76 = .ok (.getfield 29, 3) := by decide +kernel
theorem dX9_parse_79 : decode cX9_parse 79 = .ok (.iconst (-1), 1) := by decide +kernel
theorem dX9_parse_80 : decode cX9_parse 80 = .ok (.if_icmp .ne 22, 3) := by decide +kernel
theorem dX9_parse_83 : decode cX9_parse 83 = .ok (.aload_n 0, 1) := by decide +kernel
theorem dX9_parse_84 : decode cX9_parse 84 = .ok (.getfield 32, 3) := by decide +kernel
theorem dX9_parse_87 : decode cX9_parse 87 = .ok (.aload_n 0, 1) := by decide +kernel
theorem dX9_parse_88 : decode cX9_parse 88 = .ok (.getfield 22, 3) := by decide +kernel
theorem dX9_parse_91 : decode cX9_parse 91 = .ok (.if_icmp .ge 11, 3) := by decide +kernel
theorem dX9_parse_94 : decode cX9_parse 94 = .ok (.aload_n 0, 1) := by decide +kernel
theorem dX9_parse_95 : decode cX9_parse 95 = .ok (.aload_n 0, 1) := by decide +kernel
theorem dX9_parse_96 : decode cX9_parse 96 = .ok (.getfield 32, 3) := by decide +kernel
theorem dX9_parse_99 : decode cX9_parse 99 = .ok (.putfield 29, 3) := by decide +kernel
theorem dX9_parse_102 : decode cX9_parse 102 = .ok (.return_, 1) := by decide +kernel
theorem dX9_takeGained_0 : decode cX9_takeGained 0 = .ok (.aload_n 0, 1) := by decide +kernel
theorem dX9_takeGained_1 : decode cX9_takeGained 1 = .ok (.aload_n 0, 1) := by decide +kernel
theorem dX9_takeGained_2 : decode cX9_takeGained 2 = .ok (.getfield 32, 3) := by decide +kernel
theorem dX9_takeGained_5 : decode cX9_takeGained 5 = .ok (.invokevirtual 39, 3) := by decide +kernel
theorem dX9_takeGained_8 : decode cX9_takeGained 8 = .ok (.istore_n 1, 1) := by decide +kernel
theorem dX9_takeGained_9 : decode cX9_takeGained 9 = .ok (.aload_n 0, 1) := by decide +kernel
theorem dX9_takeGained_10 : decode cX9_takeGained 10 = .ok (.dup, 1) := by decide +kernel
theorem dX9_takeGained_11 : decode cX9_takeGained 11 = .ok (.getfield 32, 3) := by decide +kernel
theorem dX9_takeGained_14 : decode cX9_takeGained 14 = .ok (.iconst 2, 1) := by decide +kernel
theorem dX9_takeGained_15 : decode cX9_takeGained 15 = .ok (.iadd, 1) := by decide +kernel
theorem dX9_takeGained_16 : decode cX9_takeGained 16 = .ok (.putfield 32, 3) := by decide +kernel
theorem dX9_takeGained_19 : decode cX9_takeGained 19 = .ok (.aload_n 0, 1) := by decide +kernel
theorem dX9_takeGained_20 : decode cX9_takeGained 20 = .ok (.bipush 40, 2) := by decide +kernel
theorem dX9_takeGained_22 : decode cX9_takeGained 22 = .ok (.invokevirtual 46, 3) := by decide +kernel
theorem dX9_takeGained_25 : decode cX9_takeGained 25 = .ok (.aload_n 0, 1) := by decide +kernel
theorem dX9_takeGained_26 : decode cX9_takeGained 26 = .ok (.getfield 29, 3) := by decide +kernel
theorem dX9_takeGained_29 : decode cX9_takeGained 29 = .ok (.iconst (-1), 1) := by decide +kernel
theorem dX9_takeGained_30 : decode cX9_takeGained 30 = .ok (.if_icmp .ne 12, 3) := by decide +kernel
theorem dX9_takeGained_33 : decode cX9_takeGained 33 = .ok (.aload_n 0, 1) := by decide +kernel
theorem dX9_takeGained_34 : decode cX9_takeGained 34 = .ok (.aload_n 0, 1) := by decide +kernel
theorem dX9_takeGained_35 : decode cX9_takeGained 35 = .ok (.getfield 19, 3) := by decide +kernel
theorem dX9_takeGained_38 : decode cX9_takeGained 38 = .ok (.iconst 0, 1) := by decide +kernel
theorem dX9_takeGained_39 : decode cX9_takeGained 39 = .ok (.invokevirtual 35, 3) := by decide +kernel
theorem dX9_takeGained_42 : decode cX9_takeGained 42 = .ok (.aload_n 0, 1) := by decide +kernel
theorem dX9_takeGained_43 : decode cX9_takeGained 43 = .ok (.getfield 29, 3) := by decide +kernel
theorem dX9_takeGained_46 : decode cX9_takeGained 46 = .ok (.iconst (-1), 1) := by decide +kernel
theorem dX9_takeGained_47 : decode cX9_takeGained 47 = .ok (.if_icmp .ne 9, 3) := by decide +kernel
theorem dX9_takeGained_50 : decode cX9_takeGained 50 = .ok (.aload_n 0, 1) := by decide +kernel
theorem dX9_takeGained_51 : decode cX9_takeGained 51 = .ok (.bipush 41, 2) := by decide +kernel
theorem dX9_takeGained_53 : decode cX9_takeGained 53 = .ok (.invokevirtual 46, 3) := by decide +kernel
theorem dX9_takeGained_56 : decode cX9_takeGained 56 = .ok (.iconst 0, 1) := by decide +kernel
theorem dX9_takeGained_57 : decode cX9_takeGained 57 = .ok (.istore_n 2, 1) := by decide +kernel
theorem dX9_takeGained_58 : decode cX9_takeGained 58 = .ok (.iload_n 2, 1) := by decide +kernel
theorem dX9_takeGained_59 : decode cX9_takeGained 59 = .ok (.bipush 7, 2) := by decide +kernel
theorem dX9_takeGained_61 : decode cX9_takeGained 61 = .ok (.if_icmp .ge 20, 3) := by decide +kernel
theorem dX9_takeGained_64 : decode cX9_takeGained 64 = .ok (.aload_n 0, 1) := by decide +kernel
theorem dX9_takeGained_65 : decode cX9_takeGained 65 = .ok (.getfield 19, 3) := by decide +kernel
theorem dX9_takeGained_68 : decode cX9_takeGained 68 = .ok (.iload_n 2, 1) := by decide +kernel
theorem dX9_takeGained_69 : decode cX9_takeGained 69 = .ok (.dup2, 1) := by decide +kernel
theorem dX9_takeGained_70 : decode cX9_takeGained 70 = .ok (.laload, 1) := by decide +kernel
theorem dX9_takeGained_71 : decode cX9_takeGained 71 = .ok (.iload_n 1, 1) := by decide +kernel
theorem dX9_takeGained_72 : decode cX9_takeGained 72 = .ok (.i2l, 1) := by decide +kernel
theorem dX9_takeGained_73 : decode cX9_takeGained 73 = .ok (.lmul, 1) := by decide +kernel
theorem dX9_takeGained_74 : decode cX9_takeGained 74 = .ok (.lastore, 1) := by decide +kernel
theorem dX9_takeGained_75 : decode cX9_takeGained 75 = .ok (.iinc 2 1, 3) := by decide +kernel
theorem dX9_takeGained_78 : decode cX9_takeGained 78 = .ok (.goto (-20), 3) := by decide +kernel
theorem dX9_takeGained_81 : decode cX9_takeGained 81 = .ok (.return_, 1) := by decide +kernel
theorem dX9_takeTerms_0 : decode cX9_takeTerms 0 = .ok (.iconst 1, 1) := by decide +kernel
theorem dX9_takeTerms_1 : decode cX9_takeTerms 1 = .ok (.istore_n 3, 1) := by decide +kernel
theorem dX9_takeTerms_2 : decode cX9_takeTerms 2 = .ok (.aload_n 0, 1) := by decide +kernel
theorem dX9_takeTerms_3 : decode cX9_takeTerms 3 = .ok (.aload_n 0, 1) := by decide +kernel
theorem dX9_takeTerms_4 : decode cX9_takeTerms 4 = .ok (.getfield 32, 3) := by decide +kernel
theorem dX9_takeTerms_7 : decode cX9_takeTerms 7 = .ok (.invokevirtual 50, 3) := by decide +kernel
theorem dX9_takeTerms_10 : decode cX9_takeTerms 10 = .ok (.bipush 45, 2) := by decide +kernel
theorem dX9_takeTerms_12 : decode cX9_takeTerms 12 = .ok (.if_icmp .ne 15, 3) := by decide +kernel
theorem dX9_takeTerms_15 : decode cX9_takeTerms 15 = .ok (.iconst (-1), 1) := by decide +kernel
theorem dX9_takeTerms_16 : decode cX9_takeTerms 16 = .ok (.istore_n 3, 1) := by decide +kernel
theorem dX9_takeTerms_17 : decode cX9_takeTerms 17 = .ok (.aload_n 0, 1) := by decide +kernel
theorem dX9_takeTerms_18 : decode cX9_takeTerms 18 = .ok (.dup, 1) := by decide +kernel
theorem dX9_takeTerms_19 : decode cX9_takeTerms 19 = .ok (.getfield 32, 3) := by decide +kernel
theorem dX9_takeTerms_22 : decode cX9_takeTerms 22 = .ok (.iconst 1, 1) := by decide +kernel
theorem dX9_takeTerms_23 : decode cX9_takeTerms 23 = .ok (.iadd, 1) := by decide +kernel
theorem dX9_takeTerms_24 : decode cX9_takeTerms 24 = .ok (.putfield 32, 3) := by decide +kernel
theorem dX9_takeTerms_27 : decode cX9_takeTerms 27 = .ok (.aload_n 0, 1) := by decide +kernel
theorem dX9_takeTerms_28 : decode cX9_takeTerms 28 = .ok (.aload_n 1, 1) := by decide +kernel
theorem dX9_takeTerms_29 : decode cX9_takeTerms 29 = .ok (.iload_n 3, 1) := by decide +kernel
theorem dX9_takeTerms_30 : decode cX9_takeTerms 30 = .ok (.invokevirtual 53, 3) := by decide +kernel
theorem dX9_takeTerms_33 : decode cX9_takeTerms 33 = .ok (.iconst 0, 1) := by decide +kernel
theorem dX9_takeTerms_34 : decode cX9_takeTerms 34 = .ok (.istore 4, 2) := by decide +kernel
theorem dX9_takeTerms_36 : decode cX9_takeTerms 36 = .ok (.iload 4, 2) := by decide +kernel
theorem dX9_takeTerms_38 : decode cX9_takeTerms 38 = .ok (.bipush 60, 2) := by decide +kernel
theorem dX9_takeTerms_40 : decode cX9_takeTerms 40 = .ok (.if_icmp .ge 66, 3) := by decide +kernel
theorem dX9_takeTerms_43 : decode cX9_takeTerms 43 = .ok (.aload_n 0, 1) := by decide +kernel
theorem dX9_takeTerms_44 : decode cX9_takeTerms 44 = .ok (.getfield 29, 3) := by decide +kernel
theorem dX9_takeTerms_47 : decode cX9_takeTerms 47 = .ok (.iconst (-1), 1) := by decide +kernel
theorem dX9_takeTerms_48 : decode cX9_takeTerms 48 = .ok (.if_icmp .ne 58, 3) := by decide +kernel
theorem dX9_takeTerms_51 : decode cX9_takeTerms 51 = .ok (.aload_n 0, 1) := by decide +kernel
theorem dX9_takeTerms_52 : decode cX9_takeTerms 52 = .ok (.aload_n 0, 1) := by decide +kernel
theorem dX9_takeTerms_53 : decode cX9_takeTerms 53 = .ok (.getfield 32, 3) := by decide +kernel
theorem dX9_takeTerms_56 : decode cX9_takeTerms 56 = .ok (.invokevirtual 39, 3) := by decide +kernel
theorem dX9_takeTerms_59 : decode cX9_takeTerms 59 = .ok (.istore_n 3, 1) := by decide +kernel
theorem dX9_takeTerms_60 : decode cX9_takeTerms 60 = .ok (.iload_n 3, 1) := by decide +kernel
theorem dX9_takeTerms_61 : decode cX9_takeTerms 61 = .ok (.ifCond .eq 22, 3) := by decide +kernel
theorem dX9_takeTerms_64 : decode cX9_takeTerms 64 = .ok (.iload_n 2, 1) := by decide +kernel
theorem dX9_takeTerms_65 : decode cX9_takeTerms 65 = .ok (.ifCond .eq 19, 3) := by decide +kernel
theorem dX9_takeTerms_68 : decode cX9_takeTerms 68 = .ok (.aload_n 0, 1) := by decide +kernel
theorem dX9_takeTerms_69 : decode cX9_takeTerms 69 = .ok (.aload_n 0, 1) := by decide +kernel
theorem dX9_takeTerms_70 : decode cX9_takeTerms 70 = .ok (.getfield 32, 3) := by decide +kernel
theorem dX9_takeTerms_73 : decode cX9_takeTerms 73 = .ok (.iconst 1, 1) := by decide +kernel
theorem dX9_takeTerms_74 : decode cX9_takeTerms 74 = .ok (.iadd, 1) := by decide +kernel
theorem dX9_takeTerms_75 : decode cX9_takeTerms 75 = .ok (.invokevirtual 50, 3) := by decide +kernel
theorem dX9_takeTerms_78 : decode cX9_takeTerms 78 = .ok (.bipush 75, 2) := by decide +kernel
theorem dX9_takeTerms_80 : decode cX9_takeTerms 80 = .ok (.if_icmp .ne 4, 3) := by decide +kernel
theorem dX9_takeTerms_83 : decode cX9_takeTerms 83 = .ok (.return_, 1) := by decide +kernel
theorem dX9_takeTerms_84 : decode cX9_takeTerms 84 = .ok (.aload_n 0, 1) := by decide +kernel
theorem dX9_takeTerms_85 : decode cX9_takeTerms 85 = .ok (.dup, 1) := by decide +kernel
theorem dX9_takeTerms_86 : decode cX9_takeTerms 86 = .ok (.getfield 32, 3) := by decide +kernel
theorem dX9_takeTerms_89 : decode cX9_takeTerms 89 = .ok (.iconst 1, 1) := by decide +kernel
theorem dX9_takeTerms_90 : decode cX9_takeTerms 90 = .ok (.iadd, 1) := by decide +kernel
theorem dX9_takeTerms_91 : decode cX9_takeTerms 91 = .ok (.putfield 32, 3) := by decide +kernel
theorem dX9_takeTerms_94 : decode cX9_takeTerms 94 = .ok (.aload_n 0, 1) := by decide +kernel
theorem dX9_takeTerms_95 : decode cX9_takeTerms 95 = .ok (.aload_n 1, 1) := by decide +kernel
theorem dX9_takeTerms_96 : decode cX9_takeTerms 96 = .ok (.iload_n 3, 1) := by decide +kernel
theorem dX9_takeTerms_97 : decode cX9_takeTerms 97 = .ok (.invokevirtual 53, 3) := by decide +kernel
theorem dX9_takeTerms_100 : decode cX9_takeTerms 100 = .ok (.iinc 4 1, 3) := by decide +kernel
theorem dX9_takeTerms_103 : decode cX9_takeTerms 103 = .ok (.goto (-67), 3) := by decide +kernel
theorem dX9_takeTerms_106 : decode cX9_takeTerms 106 = .ok (.return_, 1) := by decide +kernel
theorem dX9_takeTerm_0 : decode cX9_takeTerm 0 = .ok (.aload_n 0, 1) := by decide +kernel
theorem dX9_takeTerm_1 : decode cX9_takeTerm 1 = .ok (.getfield 32, 3) := by decide +kernel
theorem dX9_takeTerm_4 : decode cX9_takeTerm 4 = .ok (.istore_n 3, 1) := by decide +kernel
theorem dX9_takeTerm_5 : decode cX9_takeTerm 5 = .ok (.aload_n 0, 1) := by decide +kernel
theorem dX9_takeTerm_6 : decode cX9_takeTerm 6 = .ok (.invokevirtual 57, 3) := by decide +kernel
theorem dX9_takeTerm_9 : decode cX9_takeTerm 9 = .ok (.istore 4, 2) := by decide +kernel
theorem dX9_takeTerm_11 : decode cX9_takeTerm 11 = .ok (.iconst 0, 1) := by decide +kernel
theorem dX9_takeTerm_12 : decode cX9_takeTerm 12 = .ok (.istore 5, 2) := by decide +kernel
theorem dX9_takeTerm_14 : decode cX9_takeTerm 14 = .ok (.aload_n 0, 1) := by decide +kernel
theorem dX9_takeTerm_15 : decode cX9_takeTerm 15 = .ok (.aload_n 0, 1) := by decide +kernel
theorem dX9_takeTerm_16 : decode cX9_takeTerm 16 = .ok (.getfield 32, 3) := by decide +kernel
theorem dX9_takeTerm_19 : decode cX9_takeTerm 19 = .ok (.invokevirtual 50, 3) := by decide +kernel
theorem dX9_takeTerm_22 : decode cX9_takeTerm 22 = .ok (.bipush 115, 2) := by decide +kernel
theorem dX9_takeTerm_24 : decode cX9_takeTerm 24 = .ok (.if_icmp .ne 35, 3) := by decide +kernel
theorem dX9_takeTerm_27 : decode cX9_takeTerm 27 = .ok (.aload_n 0, 1) := by decide +kernel
theorem dX9_takeTerm_28 : decode cX9_takeTerm 28 = .ok (.getfield 32, 3) := by decide +kernel
theorem dX9_takeTerm_31 : decode cX9_takeTerm 31 = .ok (.iload_n 3, 1) := by decide +kernel
theorem dX9_takeTerm_32 : decode cX9_takeTerm 32 = .ok (.if_icmp .ne 7, 3) := by decide +kernel
theorem dX9_takeTerm_35 : decode cX9_takeTerm 35 = .ok (.iconst 1, 1) := by decide +kernel
theorem dX9_takeTerm_36 : decode cX9_takeTerm 36 = .ok (.goto 5, 3) := by decide +kernel
theorem dX9_takeTerm_39 : decode cX9_takeTerm 39 = .ok (.iload 4, 2) := by decide +kernel
theorem dX9_takeTerm_41 : decode cX9_takeTerm 41 = .ok (.istore 4, 2) := by decide +kernel
theorem dX9_takeTerm_43 : decode cX9_takeTerm 43 = .ok (.aload_n 0, 1) := by decide +kernel
theorem dX9_takeTerm_44 : decode cX9_takeTerm 44 = .ok (.dup, 1) := by decide +kernel
theorem dX9_takeTerm_45 : decode cX9_takeTerm 45 = .ok (.getfield 32, 3) := by decide +kernel
theorem dX9_takeTerm_48 : decode cX9_takeTerm 48 = .ok (.iconst 1, 1) := by decide +kernel
theorem dX9_takeTerm_49 : decode cX9_takeTerm 49 = .ok (.iadd, 1) := by decide +kernel
theorem dX9_takeTerm_50 : decode cX9_takeTerm 50 = .ok (.putfield 32, 3) := by decide +kernel
theorem dX9_takeTerm_53 : decode cX9_takeTerm 53 = .ok (.aload_n 0, 1) := by decide +kernel
theorem dX9_takeTerm_54 : decode cX9_takeTerm 54 = .ok (.invokevirtual 61, 3) := by decide +kernel
theorem dX9_takeTerm_57 : decode cX9_takeTerm 57 = .ok (.istore 5, 2) := by decide +kernel
theorem dX9_takeTerm_59 : decode cX9_takeTerm 59 = .ok (.aload_n 0, 1) := by decide +kernel
theorem dX9_takeTerm_60 : decode cX9_takeTerm 60 = .ok (.getfield 32, 3) := by decide +kernel
theorem dX9_takeTerm_63 : decode cX9_takeTerm 63 = .ok (.iload_n 3, 1) := by decide +kernel
theorem dX9_takeTerm_64 : decode cX9_takeTerm 64 = .ok (.if_icmp .ne 12, 3) := by decide +kernel
theorem dX9_takeTerm_67 : decode cX9_takeTerm 67 = .ok (.aload_n 0, 1) := by decide +kernel
theorem dX9_takeTerm_68 : decode cX9_takeTerm 68 = .ok (.aload_n 0, 1) := by decide +kernel
theorem dX9_takeTerm_69 : decode cX9_takeTerm 69 = .ok (.getfield 32, 3) := by decide +kernel
theorem dX9_takeTerm_72 : decode cX9_takeTerm 72 = .ok (.putfield 29, 3) := by decide +kernel
theorem dX9_takeTerm_75 : decode cX9_takeTerm 75 = .ok (.return_, 1) := by decide +kernel
theorem dX9_takeTerm_76 : decode cX9_takeTerm 76 = .ok (.aload_n 0, 1) := by decide +kernel
theorem dX9_takeTerm_77 : decode cX9_takeTerm 77 = .ok (.dup, 1) := by decide +kernel
theorem dX9_takeTerm_78 : decode cX9_takeTerm 78 = .ok (.getfield 26, 3) := by decide +kernel
theorem dX9_takeTerm_81 : decode cX9_takeTerm 81 = .ok (.iconst 1, 1) := by decide +kernel
theorem dX9_takeTerm_82 : decode cX9_takeTerm 82 = .ok (.iadd, 1) := by decide +kernel
theorem dX9_takeTerm_83 : decode cX9_takeTerm 83 = .ok (.putfield 26, 3) := by decide +kernel
theorem dX9_takeTerm_86 : decode cX9_takeTerm 86 = .ok (.aload_n 1, 1) := by decide +kernel
theorem dX9_takeTerm_87 : decode cX9_takeTerm 87 = .ok (.iload 5, 2) := by decide +kernel
theorem dX9_takeTerm_89 : decode cX9_takeTerm 89 = .ok (.dup2, 1) := by decide +kernel
theorem dX9_takeTerm_90 : decode cX9_takeTerm 90 = .ok (.laload, 1) := by decide +kernel
theorem dX9_takeTerm_91 : decode cX9_takeTerm 91 = .ok (.iload_n 2, 1) := by decide +kernel
theorem dX9_takeTerm_92 : decode cX9_takeTerm 92 = .ok (.iload 4, 2) := by decide +kernel
theorem dX9_takeTerm_94 : decode cX9_takeTerm 94 = .ok (.imul, 1) := by decide +kernel
theorem dX9_takeTerm_95 : decode cX9_takeTerm 95 = .ok (.i2l, 1) := by decide +kernel
theorem dX9_takeTerm_96 : decode cX9_takeTerm 96 = .ok (.ladd, 1) := by decide +kernel
theorem dX9_takeTerm_97 : decode cX9_takeTerm 97 = .ok (.lastore, 1) := by decide +kernel
theorem dX9_takeTerm_98 : decode cX9_takeTerm 98 = .ok (.aload_n 1, 1) := by decide +kernel
theorem dX9_takeTerm_99 : decode cX9_takeTerm 99 = .ok (.iload 5, 2) := by decide +kernel
theorem dX9_takeTerm_101 : decode cX9_takeTerm 101 = .ok (.laload, 1) := by decide +kernel
theorem dX9_takeTerm_102 : decode cX9_takeTerm 102 = .ok (.ldc2_w 64, 3) := by decide +kernel
theorem dX9_takeTerm_105 : decode cX9_takeTerm 105 = .ok (.lcmp, 1) := by decide +kernel
theorem dX9_takeTerm_106 : decode cX9_takeTerm 106 = .ok (.ifCond .lt 14, 3) := by decide +kernel
theorem dX9_takeTerm_109 : decode cX9_takeTerm 109 = .ok (.aload_n 1, 1) := by decide +kernel
theorem dX9_takeTerm_110 : decode cX9_takeTerm 110 = .ok (.iload 5, 2) := by decide +kernel
theorem dX9_takeTerm_112 : decode cX9_takeTerm 112 = .ok (.laload, 1) := by decide +kernel
theorem dX9_takeTerm_113 : decode cX9_takeTerm 113 = .ok (.ldc2_w 66, 3) := by decide +kernel
theorem dX9_takeTerm_116 : decode cX9_takeTerm 116 = .ok (.lcmp, 1) := by decide +kernel
theorem dX9_takeTerm_117 : decode cX9_takeTerm 117 = .ok (.ifCond .le 8, 3) := by decide +kernel
theorem dX9_takeTerm_120 : decode cX9_takeTerm 120 = .ok (.aload_n 0, 1) := by decide +kernel
theorem dX9_takeTerm_121 : decode cX9_takeTerm 121 = .ok (.iload_n 3, 1) := by decide +kernel
theorem dX9_takeTerm_122 : decode cX9_takeTerm 122 = .ok (.putfield 29, 3) := by decide +kernel
theorem dX9_takeTerm_125 : decode cX9_takeTerm 125 = .ok (.return_, 1) := by decide +kernel
theorem dX9_takeNumber_0 : decode cX9_takeNumber 0 = .ok (.iconst 0, 1) := by decide +kernel
theorem dX9_takeNumber_1 : decode cX9_takeNumber 1 = .ok (.istore_n 1, 1) := by decide +kernel
theorem dX9_takeNumber_2 : decode cX9_takeNumber 2 = .ok (.iconst 0, 1) := by decide +kernel
theorem dX9_takeNumber_3 : decode cX9_takeNumber 3 = .ok (.istore_n 2, 1) := by decide +kernel
theorem dX9_takeNumber_4 : decode cX9_takeNumber 4 = .ok (.iload_n 2, 1) := by decide +kernel
theorem dX9_takeNumber_5 : decode cX9_takeNumber 5 = .ok (.iconst 2, 1) := by decide +kernel
theorem dX9_takeNumber_6 : decode cX9_takeNumber 6 = .ok (.if_icmp .ge 52, 3) := by decide +kernel
theorem dX9_takeNumber_9 : decode cX9_takeNumber 9 = .ok (.aload_n 0, 1) := by decide +kernel
end
section
theorem dX9_takeNumber_10 : decode cX9_takeNumber 10 = .ok (.aload_n 0, 1) := by decide +kernel
theorem dX9_takeNumber_11 : decode cX9_takeNumber 11 = .ok (.getfield 32, 3) := by decide +kernel
theorem dX9_takeNumber_14 : decode cX9_takeNumber 14 = .ok (.invokevirtual 50, 3) := by decide +kernel
theorem dX9_takeNumber_17 : decode cX9_takeNumber 17 = .ok (.istore_n 3, 1) := by decide +kernel
theorem dX9_takeNumber_18 : decode cX9_takeNumber 18 = .ok (.iload_n 3, 1) := by decide +kernel
theorem dX9_takeNumber_19 : decode cX9_takeNumber 19 = .ok (.bipush 48, 2) := by decide +kernel
theorem dX9_takeNumber_21 : decode cX9_takeNumber 21 = .ok (.if_icmp .lt 9, 3) := by decide +kernel
theorem dX9_takeNumber_24 : decode cX9_takeNumber 24 = .ok (.iload_n 3, 1) := by decide +kernel
theorem dX9_takeNumber_25 : decode cX9_takeNumber 25 = .ok (.bipush 57, 2) := by decide +kernel
theorem dX9_takeNumber_27 : decode cX9_takeNumber 27 = .ok (.if_icmp .le 5, 3) := by decide +kernel
theorem dX9_takeNumber_30 : decode cX9_takeNumber 30 = .ok (.iload_n 1, 1) := by decide +kernel
theorem dX9_takeNumber_31 : decode cX9_takeNumber 31 = .ok (.ireturn, 1) := by decide +kernel
theorem dX9_takeNumber_32 : decode cX9_takeNumber 32 = .ok (.bipush 10, 2) := by decide +kernel
theorem dX9_takeNumber_34 : decode cX9_takeNumber 34 = .ok (.iload_n 1, 1) := by decide +kernel
theorem dX9_takeNumber_35 : decode cX9_takeNumber 35 = .ok (.imul, 1) := by decide +kernel
theorem dX9_takeNumber_36 : decode cX9_takeNumber 36 = .ok (.iload_n 3, 1) := by decide +kernel
theorem dX9_takeNumber_37 : decode cX9_takeNumber 37 = .ok (.iadd, 1) := by decide +kernel
theorem dX9_takeNumber_38 : decode cX9_takeNumber 38 = .ok (.bipush 48, 2) := by decide +kernel
theorem dX9_takeNumber_40 : decode cX9_takeNumber 40 = .ok (.isub, 1) := by decide +kernel
theorem dX9_takeNumber_41 : decode cX9_takeNumber 41 = .ok (.istore_n 1, 1) := by decide +kernel
theorem dX9_takeNumber_42 : decode cX9_takeNumber 42 = .ok (.aload_n 0, 1) := by decide +kernel
theorem dX9_takeNumber_43 : decode cX9_takeNumber 43 = .ok (.dup, 1) := by decide +kernel
theorem dX9_takeNumber_44 : decode cX9_takeNumber 44 = .ok (.getfield 32, 3) := by decide +kernel
theorem dX9_takeNumber_47 : decode cX9_takeNumber 47 = .ok (.iconst 1, 1) := by decide +kernel
theorem dX9_takeNumber_48 : decode cX9_takeNumber 48 = .ok (.iadd, 1) := by decide +kernel
theorem dX9_takeNumber_49 : decode cX9_takeNumber 49 = .ok (.putfield 32, 3) := by decide +kernel
theorem dX9_takeNumber_52 : decode cX9_takeNumber 52 = .ok (.iinc 2 1, 3) := by decide +kernel
theorem dX9_takeNumber_55 : decode cX9_takeNumber 55 = .ok (.goto (-51), 3) := by decide +kernel
theorem dX9_takeNumber_58 : decode cX9_takeNumber 58 = .ok (.iload_n 1, 1) := by decide +kernel
theorem dX9_takeNumber_59 : decode cX9_takeNumber 59 = .ok (.ireturn, 1) := by decide +kernel
theorem dX9_takePower_0 : decode cX9_takePower 0 = .ok (.aload_n 0, 1) := by decide +kernel
theorem dX9_takePower_1 : decode cX9_takePower 1 = .ok (.aload_n 0, 1) := by decide +kernel
theorem dX9_takePower_2 : decode cX9_takePower 2 = .ok (.getfield 32, 3) := by decide +kernel
theorem dX9_takePower_5 : decode cX9_takePower 5 = .ok (.invokevirtual 50, 3) := by decide +kernel
theorem dX9_takePower_8 : decode cX9_takePower 8 = .ok (.istore_n 1, 1) := by decide +kernel
theorem dX9_takePower_9 : decode cX9_takePower 9 = .ok (.iload_n 1, 1) := by decide +kernel
theorem dX9_takePower_10 : decode cX9_takePower 10 = .ok (.bipush 49, 2) := by decide +kernel
theorem dX9_takePower_12 : decode cX9_takePower 12 = .ok (.if_icmp .lt 9, 3) := by decide +kernel
theorem dX9_takePower_15 : decode cX9_takePower 15 = .ok (.iload_n 1, 1) := by decide +kernel
theorem dX9_takePower_16 : decode cX9_takePower 16 = .ok (.bipush 54, 2) := by decide +kernel
theorem dX9_takePower_18 : decode cX9_takePower 18 = .ok (.if_icmp .le 5, 3) := by decide +kernel
theorem dX9_takePower_21 : decode cX9_takePower 21 = .ok (.iconst 1, 1) := by decide +kernel
theorem dX9_takePower_22 : decode cX9_takePower 22 = .ok (.ireturn, 1) := by decide +kernel
theorem dX9_takePower_23 : decode cX9_takePower 23 = .ok (.aload_n 0, 1) := by decide +kernel
theorem dX9_takePower_24 : decode cX9_takePower 24 = .ok (.dup, 1) := by decide +kernel
theorem dX9_takePower_25 : decode cX9_takePower 25 = .ok (.getfield 32, 3) := by decide +kernel
theorem dX9_takePower_28 : decode cX9_takePower 28 = .ok (.iconst 1, 1) := by decide +kernel
theorem dX9_takePower_29 : decode cX9_takePower 29 = .ok (.iadd, 1) := by decide +kernel
theorem dX9_takePower_30 : decode cX9_takePower 30 = .ok (.putfield 32, 3) := by decide +kernel
theorem dX9_takePower_33 : decode cX9_takePower 33 = .ok (.iload_n 1, 1) := by decide +kernel
theorem dX9_takePower_34 : decode cX9_takePower 34 = .ok (.bipush 48, 2) := by decide +kernel
theorem dX9_takePower_36 : decode cX9_takePower 36 = .ok (.isub, 1) := by decide +kernel
theorem dX9_takePower_37 : decode cX9_takePower 37 = .ok (.ireturn, 1) := by decide +kernel
theorem dX9_expect_0 : decode cX9_expect 0 = .ok (.aload_n 0, 1) := by decide +kernel
theorem dX9_expect_1 : decode cX9_expect 1 = .ok (.aload_n 0, 1) := by decide +kernel
theorem dX9_expect_2 : decode cX9_expect 2 = .ok (.getfield 32, 3) := by decide +kernel
theorem dX9_expect_5 : decode cX9_expect 5 = .ok (.invokevirtual 50, 3) := by decide +kernel
theorem dX9_expect_8 : decode cX9_expect 8 = .ok (.iload_n 1, 1) := by decide +kernel
theorem dX9_expect_9 : decode cX9_expect 9 = .ok (.if_icmp .ne 16, 3) := by decide +kernel
theorem dX9_expect_12 : decode cX9_expect 12 = .ok (.aload_n 0, 1) := by decide +kernel
theorem dX9_expect_13 : decode cX9_expect 13 = .ok (.dup, 1) := by decide +kernel
theorem dX9_expect_14 : decode cX9_expect 14 = .ok (.getfield 32, 3) := by decide +kernel
theorem dX9_expect_17 : decode cX9_expect 17 = .ok (.iconst 1, 1) := by decide +kernel
theorem dX9_expect_18 : decode cX9_expect 18 = .ok (.iadd, 1) := by decide +kernel
theorem dX9_expect_19 : decode cX9_expect 19 = .ok (.putfield 32, 3) := by decide +kernel
theorem dX9_expect_22 : decode cX9_expect 22 = .ok (.goto 11, 3) := by decide +kernel
theorem dX9_expect_25 : decode cX9_expect 25 = .ok (.aload_n 0, 1) := by decide +kernel
theorem dX9_expect_26 : decode cX9_expect 26 = .ok (.aload_n 0, 1) := by decide +kernel
theorem dX9_expect_27 : decode cX9_expect 27 = .ok (.getfield 32, 3) := by decide +kernel
theorem dX9_expect_30 : decode cX9_expect 30 = .ok (.putfield 29, 3) := by decide +kernel
theorem dX9_expect_33 : decode cX9_expect 33 = .ok (.return_, 1) := by decide +kernel
theorem dX9_signAt_0 : decode cX9_signAt 0 = .ok (.aload_n 0, 1) := by decide +kernel
theorem dX9_signAt_1 : decode cX9_signAt 1 = .ok (.iload_n 1, 1) := by decide +kernel
theorem dX9_signAt_2 : decode cX9_signAt 2 = .ok (.invokevirtual 50, 3) := by decide +kernel
theorem dX9_signAt_5 : decode cX9_signAt 5 = .ok (.istore_n 2, 1) := by decide +kernel
theorem dX9_signAt_6 : decode cX9_signAt 6 = .ok (.iload_n 2, 1) := by decide +kernel
theorem dX9_signAt_7 : decode cX9_signAt 7 = .ok (.bipush 43, 2) := by decide +kernel
theorem dX9_signAt_9 : decode cX9_signAt 9 = .ok (.if_icmp .ne 5, 3) := by decide +kernel
theorem dX9_signAt_12 : decode cX9_signAt 12 = .ok (.iconst 1, 1) := by decide +kernel
theorem dX9_signAt_13 : decode cX9_signAt 13 = .ok (.ireturn, 1) := by decide +kernel
theorem dX9_signAt_14 : decode cX9_signAt 14 = .ok (.iload_n 2, 1) := by decide +kernel
theorem dX9_signAt_15 : decode cX9_signAt 15 = .ok (.bipush 45, 2) := by decide +kernel
theorem dX9_signAt_17 : decode cX9_signAt 17 = .ok (.if_icmp .ne 7, 3) := by decide +kernel
theorem dX9_signAt_20 : decode cX9_signAt 20 = .ok (.iconst (-1), 1) := by decide +kernel
theorem dX9_signAt_21 : decode cX9_signAt 21 = .ok (.goto 4, 3) := by decide +kernel
theorem dX9_signAt_24 : decode cX9_signAt 24 = .ok (.iconst 0, 1) := by decide +kernel
theorem dX9_signAt_25 : decode cX9_signAt 25 = .ok (.ireturn, 1) := by decide +kernel
theorem dX9_letterAt_0 : decode cX9_letterAt 0 = .ok (.iload_n 1, 1) := by decide +kernel
theorem dX9_letterAt_1 : decode cX9_letterAt 1 = .ok (.ifCond .lt 17, 3) := by decide +kernel
theorem dX9_letterAt_4 : decode cX9_letterAt 4 = .ok (.iload_n 1, 1) := by decide +kernel
theorem dX9_letterAt_5 : decode cX9_letterAt 5 = .ok (.aload_n 0, 1) := by decide +kernel
theorem dX9_letterAt_6 : decode cX9_letterAt 6 = .ok (.getfield 22, 3) := by decide +kernel
theorem dX9_letterAt_9 : decode cX9_letterAt 9 = .ok (.if_icmp .ge 9, 3) := by decide +kernel
theorem dX9_letterAt_12 : decode cX9_letterAt 12 = .ok (.iload_n 1, 1) := by decide +kernel
theorem dX9_letterAt_13 : decode cX9_letterAt 13 = .ok (.bipush 60, 2) := by decide +kernel
theorem dX9_letterAt_15 : decode cX9_letterAt 15 = .ok (.if_icmp .lt 7, 3) := by decide +kernel
theorem dX9_letterAt_18 : decode cX9_letterAt 18 = .ok (.iconst (-1), 1) := by decide +kernel
theorem dX9_letterAt_19 : decode cX9_letterAt 19 = .ok (.goto 9, 3) := by decide +kernel
theorem dX9_letterAt_22 : decode cX9_letterAt 22 = .ok (.aload_n 0, 1) := by decide +kernel
theorem dX9_letterAt_23 : decode cX9_letterAt 23 = .ok (.getfield 9, 3) := by decide +kernel
theorem dX9_letterAt_26 : decode cX9_letterAt 26 = .ok (.iload_n 1, 1) := by decide +kernel
theorem dX9_letterAt_27 : decode cX9_letterAt 27 = .ok (.iaload, 1) := by decide +kernel
theorem dX9_letterAt_28 : decode cX9_letterAt 28 = .ok (.ireturn, 1) := by decide +kernel
theorem dX10_init_0 : decode cX10_init 0 = .ok (.aload_n 0, 1) := by decide +kernel
theorem dX10_init_1 : decode cX10_init 1 = .ok (.invokespecial 3, 3) := by decide +kernel
theorem dX10_init_4 : decode cX10_init 4 = .ok (.aload_n 0, 1) := by decide +kernel
theorem dX10_init_5 : decode cX10_init 5 = .ok (.bipush 30, 2) := by decide +kernel
theorem dX10_init_7 : decode cX10_init 7 = .ok (.newarray .long, 2) := by decide +kernel
theorem dX10_init_9 : decode cX10_init 9 = .ok (.putfield 9, 3) := by decide +kernel
theorem dX10_init_12 : decode cX10_init 12 = .ok (.aload_n 0, 1) := by decide +kernel
theorem dX10_init_13 : decode cX10_init 13 = .ok (.iconst (-1), 1) := by decide +kernel
theorem dX10_init_14 : decode cX10_init 14 = .ok (.putfield 15, 3) := by decide +kernel
theorem dX10_init_17 : decode cX10_init 17 = .ok (.return_, 1) := by decide +kernel
theorem dX10_become_0 : decode cX10_become 0 = .ok (.aload_n 0, 1) := by decide +kernel
theorem dX10_become_1 : decode cX10_become 1 = .ok (.iload_n 1, 1) := by decide +kernel
theorem dX10_become_2 : decode cX10_become 2 = .ok (.putfield 15, 3) := by decide +kernel
theorem dX10_become_5 : decode cX10_become 5 = .ok (.aload_n 0, 1) := by decide +kernel
theorem dX10_become_6 : decode cX10_become 6 = .ok (.iload_n 2, 1) := by decide +kernel
theorem dX10_become_7 : decode cX10_become 7 = .ok (.putfield 19, 3) := by decide +kernel
theorem dX10_become_10 : decode cX10_become 10 = .ok (.iconst 0, 1) := by decide +kernel
theorem dX10_become_11 : decode cX10_become 11 = .ok (.istore_n 3, 1) := by decide +kernel
theorem dX10_become_12 : decode cX10_become 12 = .ok (.iload_n 3, 1) := by decide +kernel
theorem dX10_become_13 : decode cX10_become 13 = .ok (.bipush 30, 2) := by decide +kernel
theorem dX10_become_15 : decode cX10_become 15 = .ok (.if_icmp .ge 16, 3) := by decide +kernel
theorem dX10_become_18 : decode cX10_become 18 = .ok (.aload_n 0, 1) := by decide +kernel
theorem dX10_become_19 : decode cX10_become 19 = .ok (.getfield 9, 3) := by decide +kernel
theorem dX10_become_22 : decode cX10_become 22 = .ok (.iload_n 3, 1) := by decide +kernel
theorem dX10_become_23 : decode cX10_become 23 = .ok (.lconst 0, 1) := by decide +kernel
theorem dX10_become_24 : decode cX10_become 24 = .ok (.lastore, 1) := by decide +kernel
theorem dX10_become_25 : decode cX10_become 25 = .ok (.iinc 3 1, 3) := by decide +kernel
theorem dX10_become_28 : decode cX10_become 28 = .ok (.goto (-16), 3) := by decide +kernel
theorem dX10_become_31 : decode cX10_become 31 = .ok (.return_, 1) := by decide +kernel
theorem dX10_isNothing_0 : decode cX10_isNothing 0 = .ok (.aload_n 0, 1) := by decide +kernel
theorem dX10_isNothing_1 : decode cX10_isNothing 1 = .ok (.getfield 15, 3) := by decide +kernel
theorem dX10_isNothing_4 : decode cX10_isNothing 4 = .ok (.iconst (-1), 1) := by decide +kernel
theorem dX10_isNothing_5 : decode cX10_isNothing 5 = .ok (.if_icmp .ne 7, 3) := by decide +kernel
theorem dX10_isNothing_8 : decode cX10_isNothing 8 = .ok (.iconst 1, 1) := by decide +kernel
theorem dX10_isNothing_9 : decode cX10_isNothing 9 = .ok (.goto 4, 3) := by decide +kernel
theorem dX10_isNothing_12 : decode cX10_isNothing 12 = .ok (.iconst 0, 1) := by decide +kernel
theorem dX10_isNothing_13 : decode cX10_isNothing 13 = .ok (.ireturn, 1) := by decide +kernel
theorem dX10_hasPart_0 : decode cX10_hasPart 0 = .ok (.iload_n 2, 1) := by decide +kernel
theorem dX10_hasPart_1 : decode cX10_hasPart 1 = .ok (.ifCond .lt 29, 3) := by decide +kernel
theorem dX10_hasPart_4 : decode cX10_hasPart 4 = .ok (.iload_n 2, 1) := by decide +kernel
theorem dX10_hasPart_5 : decode cX10_hasPart 5 = .ok (.aload_n 0, 1) := by decide +kernel
theorem dX10_hasPart_6 : decode cX10_hasPart 6 = .ok (.getfield 19, 3) := by decide +kernel
theorem dX10_hasPart_9 : decode cX10_hasPart 9 = .ok (.if_icmp .gt 21, 3) := by decide +kernel
theorem dX10_hasPart_12 : decode cX10_hasPart 12 = .ok (.iload_n 1, 1) := by decide +kernel
theorem dX10_hasPart_13 : decode cX10_hasPart 13 = .ok (.ifCond .lt 17, 3) := by decide +kernel
theorem dX10_hasPart_16 : decode cX10_hasPart 16 = .ok (.iload_n 1, 1) := by decide +kernel
theorem dX10_hasPart_17 : decode cX10_hasPart 17 = .ok (.aload_n 0, 1) := by decide +kernel
theorem dX10_hasPart_18 : decode cX10_hasPart 18 = .ok (.getfield 19, 3) := by decide +kernel
theorem dX10_hasPart_21 : decode cX10_hasPart 21 = .ok (.iload_n 2, 1) := by decide +kernel
theorem dX10_hasPart_22 : decode cX10_hasPart 22 = .ok (.isub, 1) := by decide +kernel
theorem dX10_hasPart_23 : decode cX10_hasPart 23 = .ok (.if_icmp .gt 7, 3) := by decide +kernel
theorem dX10_hasPart_26 : decode cX10_hasPart 26 = .ok (.iconst 1, 1) := by decide +kernel
theorem dX10_hasPart_27 : decode cX10_hasPart 27 = .ok (.goto 4, 3) := by decide +kernel
theorem dX10_hasPart_30 : decode cX10_hasPart 30 = .ok (.iconst 0, 1) := by decide +kernel
theorem dX10_hasPart_31 : decode cX10_hasPart 31 = .ok (.ireturn, 1) := by decide +kernel
theorem dX10_store_0 : decode cX10_store 0 = .ok (.aload_n 0, 1) := by decide +kernel
theorem dX10_store_1 : decode cX10_store 1 = .ok (.getfield 9, 3) := by decide +kernel
theorem dX10_store_4 : decode cX10_store 4 = .ok (.iload_n 1, 1) := by decide +kernel
theorem dX10_store_5 : decode cX10_store 5 = .ok (.aload_n 0, 1) := by decide +kernel
theorem dX10_store_6 : decode cX10_store 6 = .ok (.getfield 15, 3) := by decide +kernel
theorem dX10_store_9 : decode cX10_store 9 = .ok (.iconst 1, 1) := by decide +kernel
theorem dX10_store_10 : decode cX10_store 10 = .ok (.if_icmp .ne 9, 3) := by decide +kernel
theorem dX10_store_13 : decode cX10_store 13 = .ok (.lload_n 2, 1) := by decide +kernel
theorem dX10_store_14 : decode cX10_store 14 = .ok (.l2i, 1) := by decide +kernel
theorem dX10_store_15 : decode cX10_store 15 = .ok (.i2l, 1) := by decide +kernel
theorem dX10_store_16 : decode cX10_store 16 = .ok (.goto 4, 3) := by decide +kernel
theorem dX10_store_19 : decode cX10_store 19 = .ok (.lload_n 2, 1) := by decide +kernel
theorem dX10_store_20 : decode cX10_store 20 = .ok (.lastore, 1) := by decide +kernel
theorem dX10_store_21 : decode cX10_store 21 = .ok (.return_, 1) := by decide +kernel
theorem dX11_init_0 : decode cX11_init 0 = .ok (.aload_n 0, 1) := by decide +kernel
theorem dX11_init_1 : decode cX11_init 1 = .ok (.invokespecial 5, 3) := by decide +kernel
theorem dX11_init_4 : decode cX11_init 4 = .ok (.aload_n 0, 1) := by decide +kernel
theorem dX11_init_5 : decode cX11_init 5 = .ok (.new 11, 3) := by decide +kernel
theorem dX11_init_8 : decode cX11_init 8 = .ok (.dup, 1) := by decide +kernel
theorem dX11_init_9 : decode cX11_init 9 = .ok (.invokespecial 13, 3) := by decide +kernel
theorem dX11_init_12 : decode cX11_init 12 = .ok (.putfield 14, 3) := by decide +kernel
theorem dX11_init_15 : decode cX11_init 15 = .ok (.aload_n 0, 1) := by decide +kernel
theorem dX11_init_16 : decode cX11_init 16 = .ok (.new 11, 3) := by decide +kernel
theorem dX11_init_19 : decode cX11_init 19 = .ok (.dup, 1) := by decide +kernel
theorem dX11_init_20 : decode cX11_init 20 = .ok (.invokespecial 13, 3) := by decide +kernel
theorem dX11_init_23 : decode cX11_init 23 = .ok (.putfield 18, 3) := by decide +kernel
theorem dX11_init_26 : decode cX11_init 26 = .ok (.aload_n 0, 1) := by decide +kernel
theorem dX11_init_27 : decode cX11_init 27 = .ok (.new 21, 3) := by decide +kernel
theorem dX11_init_30 : decode cX11_init 30 = .ok (.dup, 1) := by decide +kernel
theorem dX11_init_31 : decode cX11_init 31 = .ok (.invokespecial 23, 3) := by decide +kernel
theorem dX11_init_34 : decode cX11_init 34 = .ok (.putfield 24, 3) := by decide +kernel
theorem dX11_init_37 : decode cX11_init 37 = .ok (.aload_n 0, 1) := by decide +kernel
theorem dX11_init_38 : decode cX11_init 38 = .ok (.iconst 4, 1) := by decide +kernel
theorem dX11_init_39 : decode cX11_init 39 = .ok (.anewarray 28, 3) := by decide +kernel
theorem dX11_init_42 : decode cX11_init 42 = .ok (.putfield 30, 3) := by decide +kernel
theorem dX11_init_45 : decode cX11_init 45 = .ok (.aload_n 0, 1) := by decide +kernel
theorem dX11_init_46 : decode cX11_init 46 = .ok (.new 34, 3) := by decide +kernel
theorem dX11_init_49 : decode cX11_init 49 = .ok (.dup, 1) := by decide +kernel
theorem dX11_init_50 : decode cX11_init 50 = .ok (.invokespecial 36, 3) := by decide +kernel
theorem dX11_init_53 : decode cX11_init 53 = .ok (.putfield 37, 3) := by decide +kernel
theorem dX11_init_56 : decode cX11_init 56 = .ok (.aload_n 0, 1) := by decide +kernel
theorem dX11_init_57 : decode cX11_init 57 = .ok (.new 41, 3) := by decide +kernel
theorem dX11_init_60 : decode cX11_init 60 = .ok (.dup, 1) := by decide +kernel
theorem dX11_init_61 : decode cX11_init 61 = .ok (.invokespecial 43, 3) := by decide +kernel
theorem dX11_init_64 : decode cX11_init 64 = .ok (.putfield 44, 3) := by decide +kernel
theorem dX11_init_67 : decode cX11_init 67 = .ok (.aload_n 0, 1) := by decide +kernel
theorem dX11_init_68 : decode cX11_init 68 = .ok (.new 48, 3) := by decide +kernel
theorem dX11_init_71 : decode cX11_init 71 = .ok (.dup, 1) := by decide +kernel
theorem dX11_init_72 : decode cX11_init 72 = .ok (.invokespecial 50, 3) := by decide +kernel
theorem dX11_init_75 : decode cX11_init 75 = .ok (.putfield 51, 3) := by decide +kernel
theorem dX11_init_78 : decode cX11_init 78 = .ok (.aload_n 0, 1) := by decide +kernel
theorem dX11_init_79 : decode cX11_init 79 = .ok (.new 55, 3) := by decide +kernel
theorem dX11_init_82 : decode cX11_init 82 = .ok (.dup, 1) := by decide +kernel
theorem dX11_init_83 : decode cX11_init 83 = .ok (.iconst 0, 1) := by decide +kernel
theorem dX11_init_84 : decode cX11_init 84 = .ok (.invokespecial 57, 3) := by decide +kernel
theorem dX11_init_87 : decode cX11_init 87 = .ok (.putfield 60, 3) := by decide +kernel
theorem dX11_init_90 : decode cX11_init 90 = .ok (.aload_n 0, 1) := by decide +kernel
theorem dX11_init_91 : decode cX11_init 91 = .ok (.new 55, 3) := by decide +kernel
theorem dX11_init_94 : decode cX11_init 94 = .ok (.dup, 1) := by decide +kernel
theorem dX11_init_95 : decode cX11_init 95 = .ok (.iconst 1, 1) := by decide +kernel
theorem dX11_init_96 : decode cX11_init 96 = .ok (.invokespecial 57, 3) := by decide +kernel
theorem dX11_init_99 : decode cX11_init 99 = .ok (.putfield 64, 3) := by decide +kernel
theorem dX11_init_102 : decode cX11_init 102 = .ok (.aload_n 0, 1) := by decide +kernel
theorem dX11_init_103 : decode cX11_init 103 = .ok (.new 67, 3) := by decide +kernel
theorem dX11_init_106 : decode cX11_init 106 = .ok (.dup, 1) := by decide +kernel
theorem dX11_init_107 : decode cX11_init 107 = .ok (.invokespecial 69, 3) := by decide +kernel
theorem dX11_init_110 : decode cX11_init 110 = .ok (.putfield 70, 3) := by decide +kernel
theorem dX11_init_113 : decode cX11_init 113 = .ok (.aload_n 0, 1) := by decide +kernel
theorem dX11_init_114 : decode cX11_init 114 = .ok (.bipush 7, 2) := by decide +kernel
theorem dX11_init_116 : decode cX11_init 116 = .ok (.newarray .long, 2) := by decide +kernel
theorem dX11_init_118 : decode cX11_init 118 = .ok (.putfield 74, 3) := by decide +kernel
theorem dX11_init_121 : decode cX11_init 121 = .ok (.aload_n 0, 1) := by decide +kernel
theorem dX11_init_122 : decode cX11_init 122 = .ok (.getfield 14, 3) := by decide +kernel
theorem dX11_init_125 : decode cX11_init 125 = .ok (.getfield 78, 3) := by decide +kernel
theorem dX11_init_128 : decode cX11_init 128 = .ok (.iconst 1, 1) := by decide +kernel
theorem dX11_init_129 : decode cX11_init 129 = .ok (.lconst 1, 1) := by decide +kernel
theorem dX11_init_130 : decode cX11_init 130 = .ok (.lastore, 1) := by decide +kernel
theorem dX11_init_131 : decode cX11_init 131 = .ok (.iconst 0, 1) := by decide +kernel
theorem dX11_init_132 : decode cX11_init 132 = .ok (.istore_n 1, 1) := by decide +kernel
theorem dX11_init_133 : decode cX11_init 133 = .ok (.iload_n 1, 1) := by decide +kernel
theorem dX11_init_134 : decode cX11_init 134 = .ok (.iconst 4, 1) := by decide +kernel
theorem dX11_init_135 : decode cX11_init 135 = .ok (.if_icmp .ge 22, 3) := by decide +kernel
theorem dX11_init_138 : decode cX11_init 138 = .ok (.aload_n 0, 1) := by decide +kernel
theorem dX11_init_139 : decode cX11_init 139 = .ok (.getfield 30, 3) := by decide +kernel
theorem dX11_init_142 : decode cX11_init 142 = .ok (.iload_n 1, 1) := by decide +kernel
theorem dX11_init_143 : decode cX11_init 143 = .ok (.new 28, 3) := by decide +kernel
theorem dX11_init_146 : decode cX11_init 146 = .ok (.dup, 1) := by decide +kernel
theorem dX11_init_147 : decode cX11_init 147 = .ok (.invokespecial 81, 3) := by decide +kernel
theorem dX11_init_150 : decode cX11_init 150 = .ok (.aastore, 1) := by decide +kernel
theorem dX11_init_151 : decode cX11_init 151 = .ok (.iinc 1 1, 3) := by decide +kernel
theorem dX11_init_154 : decode cX11_init 154 = .ok (.goto (-21), 3) := by decide +kernel
theorem dX11_init_157 : decode cX11_init 157 = .ok (.return_, 1) := by decide +kernel
theorem dX11_set_0 : decode cX11_set 0 = .ok (.iload_n 1, 1) := by decide +kernel
theorem dX11_set_1 : decode cX11_set 1 = .ok (.ifCond .lt 24, 3) := by decide +kernel
theorem dX11_set_4 : decode cX11_set 4 = .ok (.iload_n 1, 1) := by decide +kernel
theorem dX11_set_5 : decode cX11_set 5 = .ok (.iconst 1, 1) := by decide +kernel
theorem dX11_set_6 : decode cX11_set 6 = .ok (.if_icmp .gt 19, 3) := by decide +kernel
theorem dX11_set_9 : decode cX11_set 9 = .ok (.iload_n 2, 1) := by decide +kernel
theorem dX11_set_10 : decode cX11_set 10 = .ok (.invokestatic 82, 3) := by decide +kernel
theorem dX11_set_13 : decode cX11_set 13 = .ok (.ifCond .eq 12, 3) := by decide +kernel
theorem dX11_set_16 : decode cX11_set 16 = .ok (.iload_n 3, 1) := by decide +kernel
theorem dX11_set_17 : decode cX11_set 17 = .ok (.bipush 99, 2) := by decide +kernel
theorem dX11_set_19 : decode cX11_set 19 = .ok (.invokestatic 86, 3) := by decide +kernel
theorem dX11_set_22 : decode cX11_set 22 = .ok (.ifCond .ne 7, 3) := by decide +kernel
theorem dX11_set_25 : decode cX11_set 25 = .ok (.ldc2_w 90, 3) := by decide +kernel
theorem dX11_set_28 : decode cX11_set 28 = .ok (.lreturn, 1) := by decide +kernel
theorem dX11_set_29 : decode cX11_set 29 = .ok (.iload_n 1, 1) := by decide +kernel
theorem dX11_set_30 : decode cX11_set 30 = .ok (.ifCond .ne 13, 3) := by decide +kernel
theorem dX11_set_33 : decode cX11_set 33 = .ok (.aload_n 0, 1) := by decide +kernel
theorem dX11_set_34 : decode cX11_set 34 = .ok (.getfield 14, 3) := by decide +kernel
theorem dX11_set_37 : decode cX11_set 37 = .ok (.getfield 78, 3) := by decide +kernel
theorem dX11_set_40 : decode cX11_set 40 = .ok (.goto 10, 3) := by decide +kernel
theorem dX11_set_43 : decode cX11_set 43 = .ok (.aload_n 0, 1) := by decide +kernel
theorem dX11_set_44 : decode cX11_set 44 = .ok (.getfield 14, 3) := by decide +kernel
theorem dX11_set_47 : decode cX11_set 47 = .ok (.getfield 92, 3) := by decide +kernel
theorem dX11_set_50 : decode cX11_set 50 = .ok (.astore 4, 2) := by decide +kernel
theorem dX11_set_52 : decode cX11_set 52 = .ok (.aload 4, 2) := by decide +kernel
theorem dX11_set_54 : decode cX11_set 54 = .ok (.iload_n 2, 1) := by decide +kernel
theorem dX11_set_55 : decode cX11_set 55 = .ok (.laload, 1) := by decide +kernel
theorem dX11_set_56 : decode cX11_set 56 = .ok (.lstore 5, 2) := by decide +kernel
theorem dX11_set_58 : decode cX11_set 58 = .ok (.aload 4, 2) := by decide +kernel
theorem dX11_set_60 : decode cX11_set 60 = .ok (.iload_n 2, 1) := by decide +kernel
theorem dX11_set_61 : decode cX11_set 61 = .ok (.iload_n 3, 1) := by decide +kernel
theorem dX11_set_62 : decode cX11_set 62 = .ok (.i2l, 1) := by decide +kernel
theorem dX11_set_63 : decode cX11_set 63 = .ok (.lastore, 1) := by decide +kernel
theorem dX11_set_64 : decode cX11_set 64 = .ok (.aload_n 0, 1) := by decide +kernel
theorem dX11_set_65 : decode cX11_set 65 = .ok (.invokevirtual 95, 3) := by decide +kernel
theorem dX11_set_68 : decode cX11_set 68 = .ok (.lload 5, 2) := by decide +kernel
theorem dX11_set_70 : decode cX11_set 70 = .ok (.lreturn, 1) := by decide +kernel
theorem dX11_of_0 : decode cX11_of 0 = .ok (.iload_n 1, 1) := by decide +kernel
theorem dX11_of_1 : decode cX11_of 1 = .ok (.ifCond .lt 15, 3) := by decide +kernel
theorem dX11_of_4 : decode cX11_of 4 = .ok (.iload_n 1, 1) := by decide +kernel
theorem dX11_of_5 : decode cX11_of 5 = .ok (.iconst 2, 1) := by decide +kernel
theorem dX11_of_6 : decode cX11_of 6 = .ok (.if_icmp .gt 10, 3) := by decide +kernel
theorem dX11_of_9 : decode cX11_of 9 = .ok (.iload_n 2, 1) := by decide +kernel
theorem dX11_of_10 : decode cX11_of 10 = .ok (.invokestatic 82, 3) := by decide +kernel
theorem dX11_of_13 : decode cX11_of 13 = .ok (.ifCond .ne 7, 3) := by decide +kernel
theorem dX11_of_16 : decode cX11_of 16 = .ok (.ldc2_w 90, 3) := by decide +kernel
theorem dX11_of_19 : decode cX11_of 19 = .ok (.lreturn, 1) := by decide +kernel
theorem dX11_of_20 : decode cX11_of 20 = .ok (.iload_n 1, 1) := by decide +kernel
theorem dX11_of_21 : decode cX11_of 21 = .ok (.iconst 2, 1) := by decide +kernel
theorem dX11_of_22 : decode cX11_of 22 = .ok (.if_icmp .ne 10, 3) := by decide +kernel
theorem dX11_of_25 : decode cX11_of 25 = .ok (.aload_n 0, 1) := by decide +kernel
theorem dX11_of_26 : decode cX11_of 26 = .ok (.invokevirtual 98, 3) := by decide +kernel
theorem dX11_of_29 : decode cX11_of 29 = .ok (.iload_n 2, 1) := by decide +kernel
theorem dX11_of_30 : decode cX11_of 30 = .ok (.laload, 1) := by decide +kernel
theorem dX11_of_31 : decode cX11_of 31 = .ok (.lreturn, 1) := by decide +kernel
theorem dX11_of_32 : decode cX11_of 32 = .ok (.iload_n 1, 1) := by decide +kernel
theorem dX11_of_33 : decode cX11_of 33 = .ok (.ifCond .ne 15, 3) := by decide +kernel
theorem dX11_of_36 : decode cX11_of 36 = .ok (.aload_n 0, 1) := by decide +kernel
theorem dX11_of_37 : decode cX11_of 37 = .ok (.getfield 14, 3) := by decide +kernel
theorem dX11_of_40 : decode cX11_of 40 = .ok (.getfield 78, 3) := by decide +kernel
theorem dX11_of_43 : decode cX11_of 43 = .ok (.iload_n 2, 1) := by decide +kernel
theorem dX11_of_44 : decode cX11_of 44 = .ok (.laload, 1) := by decide +kernel
theorem dX11_of_45 : decode cX11_of 45 = .ok (.goto 12, 3) := by decide +kernel
theorem dX11_of_48 : decode cX11_of 48 = .ok (.aload_n 0, 1) := by decide +kernel
theorem dX11_of_49 : decode cX11_of 49 = .ok (.getfield 14, 3) := by decide +kernel
theorem dX11_of_52 : decode cX11_of 52 = .ok (.getfield 92, 3) := by decide +kernel
theorem dX11_of_55 : decode cX11_of 55 = .ok (.iload_n 2, 1) := by decide +kernel
theorem dX11_of_56 : decode cX11_of 56 = .ok (.laload, 1) := by decide +kernel
theorem dX11_of_57 : decode cX11_of 57 = .ok (.lreturn, 1) := by decide +kernel
theorem dX11_gain_0 : decode cX11_gain 0 = .ok (.iload_n 1, 1) := by decide +kernel
theorem dX11_gain_1 : decode cX11_gain 1 = .ok (.bipush 100, 2) := by decide +kernel
theorem dX11_gain_3 : decode cX11_gain 3 = .ok (.invokestatic 86, 3) := by decide +kernel
theorem dX11_gain_6 : decode cX11_gain 6 = .ok (.ifCond .ne 6, 3) := by decide +kernel
theorem dX11_gain_9 : decode cX11_gain 9 = .ok (.bipush (-2), 2) := by decide +kernel
theorem dX11_gain_11 : decode cX11_gain 11 = .ok (.ireturn, 1) := by decide +kernel
theorem dX11_gain_12 : decode cX11_gain 12 = .ok (.aload_n 0, 1) := by decide +kernel
theorem dX11_gain_13 : decode cX11_gain 13 = .ok (.getfield 14, 3) := by decide +kernel
theorem dX11_gain_16 : decode cX11_gain 16 = .ok (.iload_n 1, 1) := by decide +kernel
theorem dX11_gain_17 : decode cX11_gain 17 = .ok (.putfield 102, 3) := by decide +kernel
theorem dX11_gain_20 : decode cX11_gain 20 = .ok (.iconst 1, 1) := by decide +kernel
theorem dX11_gain_21 : decode cX11_gain 21 = .ok (.ireturn, 1) := by decide +kernel
theorem dX11_feed_0 : decode cX11_feed 0 = .ok (.iload_n 1, 1) := by decide +kernel
theorem dX11_feed_1 : decode cX11_feed 1 = .ok (.ifCond .lt 9, 3) := by decide +kernel
theorem dX11_feed_4 : decode cX11_feed 4 = .ok (.iload_n 1, 1) := by decide +kernel
theorem dX11_feed_5 : decode cX11_feed 5 = .ok (.bipush 127, 2) := by decide +kernel
theorem dX11_feed_7 : decode cX11_feed 7 = .ok (.if_icmp .le 6, 3) := by decide +kernel
theorem dX11_feed_10 : decode cX11_feed 10 = .ok (.bipush (-2), 2) := by decide +kernel
theorem dX11_feed_12 : decode cX11_feed 12 = .ok (.ireturn, 1) := by decide +kernel
theorem dX11_feed_13 : decode cX11_feed 13 = .ok (.aload_n 0, 1) := by decide +kernel
theorem dX11_feed_14 : decode cX11_feed 14 = .ok (.getfield 24, 3) := by decide +kernel
theorem dX11_feed_17 : decode cX11_feed 17 = .ok (.getfield 106, 3) := by decide +kernel
theorem dX11_feed_20 : decode cX11_feed 20 = .ok (.bipush 60, 2) := by decide +kernel
theorem dX11_feed_22 : decode cX11_feed 22 = .ok (.if_icmp .lt 6, 3) := by decide +kernel
theorem dX11_feed_25 : decode cX11_feed 25 = .ok (.bipush (-4), 2) := by decide +kernel
theorem dX11_feed_27 : decode cX11_feed 27 = .ok (.ireturn, 1) := by decide +kernel
theorem dX11_feed_28 : decode cX11_feed 28 = .ok (.aload_n 0, 1) := by decide +kernel
theorem dX11_feed_29 : decode cX11_feed 29 = .ok (.getfield 24, 3) := by decide +kernel
theorem dX11_feed_32 : decode cX11_feed 32 = .ok (.iload_n 1, 1) := by decide +kernel
theorem dX11_feed_33 : decode cX11_feed 33 = .ok (.invokevirtual 109, 3) := by decide +kernel
theorem dX11_feed_36 : decode cX11_feed 36 = .ok (.aload_n 0, 1) := by decide +kernel
theorem dX11_feed_37 : decode cX11_feed 37 = .ok (.getfield 24, 3) := by decide +kernel
theorem dX11_feed_40 : decode cX11_feed 40 = .ok (.getfield 106, 3) := by decide +kernel
theorem dX11_feed_43 : decode cX11_feed 43 = .ok (.ireturn, 1) := by decide +kernel
theorem dX11_read_0 : decode cX11_read 0 = .ok (.aload_n 0, 1) := by decide +kernel
theorem dX11_read_1 : decode cX11_read 1 = .ok (.getfield 24, 3) := by decide +kernel
theorem dX11_read_4 : decode cX11_read 4 = .ok (.invokevirtual 112, 3) := by decide +kernel
theorem dX11_read_7 : decode cX11_read 7 = .ok (.aload_n 0, 1) := by decide +kernel
theorem dX11_read_8 : decode cX11_read 8 = .ok (.getfield 24, 3) := by decide +kernel
theorem dX11_read_11 : decode cX11_read 11 = .ok (.iconst 0, 1) := by decide +kernel
theorem dX11_read_12 : decode cX11_read 12 = .ok (.putfield 106, 3) := by decide +kernel
theorem dX11_read_15 : decode cX11_read 15 = .ok (.aload_n 0, 1) := by decide +kernel
theorem dX11_read_16 : decode cX11_read 16 = .ok (.getfield 24, 3) := by decide +kernel
theorem dX11_read_19 : decode cX11_read 19 = .ok (.getfield 115, 3) := by decide +kernel
theorem dX11_read_22 : decode cX11_read 22 = .ok (.iconst (-1), 1) := by decide +kernel
theorem dX11_read_23 : decode cX11_read 23 = .ok (.if_icmp .eq 14, 3) := by decide +kernel
theorem dX11_read_26 : decode cX11_read 26 = .ok (.bipush (-100), 2) := by decide +kernel
theorem dX11_read_28 : decode cX11_read 28 = .ok (.aload_n 0, 1) := by decide +kernel
theorem dX11_read_29 : decode cX11_read 29 = .ok (.getfield 24, 3) := by decide +kernel
theorem dX11_read_32 : decode cX11_read 32 = .ok (.getfield 115, 3) := by decide +kernel
theorem dX11_read_35 : decode cX11_read 35 = .ok (.isub, 1) := by decide +kernel
theorem dX11_read_36 : decode cX11_read 36 = .ok (.ireturn, 1) := by decide +kernel
theorem dX11_read_37 : decode cX11_read 37 = .ok (.aload_n 0, 1) := by decide +kernel
theorem dX11_read_38 : decode cX11_read 38 = .ok (.getfield 24, 3) := by decide +kernel
theorem dX11_read_41 : decode cX11_read 41 = .ok (.getfield 118, 3) := by decide +kernel
theorem dX11_read_44 : decode cX11_read 44 = .ok (.iconst 0, 1) := by decide +kernel
theorem dX11_read_45 : decode cX11_read 45 = .ok (.aload_n 0, 1) := by decide +kernel
theorem dX11_read_46 : decode cX11_read 46 = .ok (.getfield 14, 3) := by decide +kernel
theorem dX11_read_49 : decode cX11_read 49 = .ok (.getfield 78, 3) := by decide +kernel
theorem dX11_read_52 : decode cX11_read 52 = .ok (.iconst 0, 1) := by decide +kernel
theorem dX11_read_53 : decode cX11_read 53 = .ok (.bipush 7, 2) := by decide +kernel
theorem dX11_read_55 : decode cX11_read 55 = .ok (.invokestatic 119, 3) := by decide +kernel
theorem dX11_read_58 : decode cX11_read 58 = .ok (.aload_n 0, 1) := by decide +kernel
theorem dX11_read_59 : decode cX11_read 59 = .ok (.getfield 24, 3) := by decide +kernel
theorem dX11_read_62 : decode cX11_read 62 = .ok (.getfield 125, 3) := by decide +kernel
theorem dX11_read_65 : decode cX11_read 65 = .ok (.iconst 0, 1) := by decide +kernel
theorem dX11_read_66 : decode cX11_read 66 = .ok (.aload_n 0, 1) := by decide +kernel
theorem dX11_read_67 : decode cX11_read 67 = .ok (.getfield 14, 3) := by decide +kernel
theorem dX11_read_70 : decode cX11_read 70 = .ok (.getfield 92, 3) := by decide +kernel
theorem dX11_read_73 : decode cX11_read 73 = .ok (.iconst 0, 1) := by decide +kernel
theorem dX11_read_74 : decode cX11_read 74 = .ok (.bipush 7, 2) := by decide +kernel
theorem dX11_read_76 : decode cX11_read 76 = .ok (.invokestatic 119, 3) := by decide +kernel
theorem dX11_read_79 : decode cX11_read 79 = .ok (.aload_n 0, 1) := by decide +kernel
theorem dX11_read_80 : decode cX11_read 80 = .ok (.invokevirtual 95, 3) := by decide +kernel
theorem dX11_read_83 : decode cX11_read 83 = .ok (.aload_n 0, 1) := by decide +kernel
theorem dX11_read_84 : decode cX11_read 84 = .ok (.dup, 1) := by decide +kernel
theorem dX11_read_85 : decode cX11_read 85 = .ok (.getfield 126, 3) := by decide +kernel
theorem dX11_read_88 : decode cX11_read 88 = .ok (.iconst 1, 1) := by decide +kernel
theorem dX11_read_89 : decode cX11_read 89 = .ok (.iadd, 1) := by decide +kernel
theorem dX11_read_90 : decode cX11_read 90 = .ok (.putfield 126, 3) := by decide +kernel
theorem dX11_read_93 : decode cX11_read 93 = .ok (.aload_n 0, 1) := by decide +kernel
theorem dX11_read_94 : decode cX11_read 94 = .ok (.getfield 24, 3) := by decide +kernel
theorem dX11_read_97 : decode cX11_read 97 = .ok (.getfield 129, 3) := by decide +kernel
theorem dX11_read_100 : decode cX11_read 100 = .ok (.ireturn, 1) := by decide +kernel
theorem dX11_form_0 : decode cX11_form 0 = .ok (.iload_n 1, 1) := by decide +kernel
theorem dX11_form_1 : decode cX11_form 1 = .ok (.invokestatic 132, 3) := by decide +kernel
theorem dX11_form_4 : decode cX11_form 4 = .ok (.ifCond .eq 10, 3) := by decide +kernel
theorem dX11_form_7 : decode cX11_form 7 = .ok (.iload_n 2, 1) := by decide +kernel
theorem dX11_form_8 : decode cX11_form 8 = .ok (.invokestatic 82, 3) := by decide +kernel
theorem dX11_form_11 : decode cX11_form 11 = .ok (.ifCond .ne 7, 3) := by decide +kernel
theorem dX11_form_14 : decode cX11_form 14 = .ok (.ldc2_w 90, 3) := by decide +kernel
theorem dX11_form_17 : decode cX11_form 17 = .ok (.lreturn, 1) := by decide +kernel
theorem dX11_form_18 : decode cX11_form 18 = .ok (.aload_n 0, 1) := by decide +kernel
theorem dX11_form_19 : decode cX11_form 19 = .ok (.getfield 37, 3) := by decide +kernel
theorem dX11_form_22 : decode cX11_form 22 = .ok (.aload_n 0, 1) := by decide +kernel
theorem dX11_form_23 : decode cX11_form 23 = .ok (.invokevirtual 98, 3) := by decide +kernel
theorem dX11_form_26 : decode cX11_form 26 = .ok (.iload_n 1, 1) := by decide +kernel
theorem dX11_form_27 : decode cX11_form 27 = .ok (.invokevirtual 135, 3) := by decide +kernel
theorem dX11_form_30 : decode cX11_form 30 = .ok (.aload_n 0, 1) := by decide +kernel
theorem dX11_form_31 : decode cX11_form 31 = .ok (.getfield 37, 3) := by decide +kernel
theorem dX11_form_34 : decode cX11_form 34 = .ok (.getfield 139, 3) := by decide +kernel
theorem dX11_form_37 : decode cX11_form 37 = .ok (.iload_n 2, 1) := by decide +kernel
theorem dX11_form_38 : decode cX11_form 38 = .ok (.laload, 1) := by decide +kernel
theorem dX11_form_39 : decode cX11_form 39 = .ok (.lreturn, 1) := by decide +kernel
theorem dX11_degree_0 : decode cX11_degree 0 = .ok (.iload_n 1, 1) := by decide +kernel
theorem dX11_degree_1 : decode cX11_degree 1 = .ok (.invokestatic 132, 3) := by decide +kernel
theorem dX11_degree_4 : decode cX11_degree 4 = .ok (.ifCond .eq 12, 3) := by decide +kernel
theorem dX11_degree_7 : decode cX11_degree 7 = .ok (.iload_n 2, 1) := by decide +kernel
theorem dX11_degree_8 : decode cX11_degree 8 = .ok (.ifCond .lt 8, 3) := by decide +kernel
theorem dX11_degree_11 : decode cX11_degree 11 = .ok (.iload_n 2, 1) := by decide +kernel
theorem dX11_degree_12 : decode cX11_degree 12 = .ok (.iconst 1, 1) := by decide +kernel
theorem dX11_degree_13 : decode cX11_degree 13 = .ok (.if_icmp .le 6, 3) := by decide +kernel
theorem dX11_degree_16 : decode cX11_degree 16 = .ok (.bipush (-2), 2) := by decide +kernel
theorem dX11_degree_18 : decode cX11_degree 18 = .ok (.ireturn, 1) := by decide +kernel
theorem dX11_degree_19 : decode cX11_degree 19 = .ok (.aload_n 0, 1) := by decide +kernel
theorem dX11_degree_20 : decode cX11_degree 20 = .ok (.getfield 37, 3) := by decide +kernel
theorem dX11_degree_23 : decode cX11_degree 23 = .ok (.aload_n 0, 1) := by decide +kernel
theorem dX11_degree_24 : decode cX11_degree 24 = .ok (.invokevirtual 98, 3) := by decide +kernel
theorem dX11_degree_27 : decode cX11_degree 27 = .ok (.iload_n 1, 1) := by decide +kernel
theorem dX11_degree_28 : decode cX11_degree 28 = .ok (.invokevirtual 135, 3) := by decide +kernel
theorem dX11_degree_31 : decode cX11_degree 31 = .ok (.iload_n 2, 1) := by decide +kernel
theorem dX11_degree_32 : decode cX11_degree 32 = .ok (.ifCond .ne 13, 3) := by decide +kernel
theorem dX11_degree_35 : decode cX11_degree 35 = .ok (.aload_n 0, 1) := by decide +kernel
theorem dX11_degree_36 : decode cX11_degree 36 = .ok (.getfield 37, 3) := by decide +kernel
theorem dX11_degree_39 : decode cX11_degree 39 = .ok (.getfield 142, 3) := by decide +kernel
theorem dX11_degree_42 : decode cX11_degree 42 = .ok (.goto 10, 3) := by decide +kernel
theorem dX11_degree_45 : decode cX11_degree 45 = .ok (.aload_n 0, 1) := by decide +kernel
theorem dX11_degree_46 : decode cX11_degree 46 = .ok (.getfield 37, 3) := by decide +kernel
theorem dX11_degree_49 : decode cX11_degree 49 = .ok (.getfield 145, 3) := by decide +kernel
theorem dX11_degree_52 : decode cX11_degree 52 = .ok (.ireturn, 1) := by decide +kernel
theorem dX11_row_0 : decode cX11_row 0 = .ok (.iload_n 1, 1) := by decide +kernel
theorem dX11_row_1 : decode cX11_row 1 = .ok (.invokestatic 132, 3) := by decide +kernel
theorem dX11_row_4 : decode cX11_row 4 = .ok (.ifCond .ne 7, 3) := by decide +kernel
theorem dX11_row_7 : decode cX11_row 7 = .ok (.ldc2_w 90, 3) := by decide +kernel
theorem dX11_row_10 : decode cX11_row 10 = .ok (.lreturn, 1) := by decide +kernel
theorem dX11_row_11 : decode cX11_row 11 = .ok (.aload_n 0, 1) := by decide +kernel
theorem dX11_row_12 : decode cX11_row 12 = .ok (.iload_n 1, 1) := by decide +kernel
theorem dX11_row_13 : decode cX11_row 13 = .ok (.invokevirtual 148, 3) := by decide +kernel
theorem dX11_row_16 : decode cX11_row 16 = .ok (.astore 4, 2) := by decide +kernel
theorem dX11_row_18 : decode cX11_row 18 = .ok (.aload 4, 2) := by decide +kernel
theorem dX11_row_20 : decode cX11_row 20 = .ok (.getfield 152, 3) := by decide +kernel
theorem dX11_row_23 : decode cX11_row 23 = .ok (.ifCond .ne 26, 3) := by decide +kernel
theorem dX11_row_26 : decode cX11_row 26 = .ok (.aload 4, 2) := by decide +kernel
theorem dX11_row_28 : decode cX11_row 28 = .ok (.iload_n 2, 1) := by decide +kernel
theorem dX11_row_29 : decode cX11_row 29 = .ok (.invokevirtual 156, 3) := by decide +kernel
theorem dX11_row_32 : decode cX11_row 32 = .ok (.ifCond .eq 17, 3) := by decide +kernel
theorem dX11_row_35 : decode cX11_row 35 = .ok (.iload_n 3, 1) := by decide +kernel
theorem dX11_row_36 : decode cX11_row 36 = .ok (.ifCond .lt 13, 3) := by decide +kernel
theorem dX11_row_39 : decode cX11_row 39 = .ok (.iload_n 3, 1) := by decide +kernel
theorem dX11_row_40 : decode cX11_row 40 = .ok (.aload 4, 2) := by decide +kernel
theorem dX11_row_42 : decode cX11_row 42 = .ok (.iload_n 2, 1) := by decide +kernel
theorem dX11_row_43 : decode cX11_row 43 = .ok (.invokevirtual 159, 3) := by decide +kernel
theorem dX11_row_46 : decode cX11_row 46 = .ok (.if_icmp .lt 7, 3) := by decide +kernel
theorem dX11_row_49 : decode cX11_row 49 = .ok (.ldc2_w 90, 3) := by decide +kernel
theorem dX11_row_52 : decode cX11_row 52 = .ok (.lreturn, 1) := by decide +kernel
theorem dX11_row_53 : decode cX11_row 53 = .ok (.aload 4, 2) := by decide +kernel
theorem dX11_row_55 : decode cX11_row 55 = .ok (.iload_n 2, 1) := by decide +kernel
theorem dX11_row_56 : decode cX11_row 56 = .ok (.iload_n 3, 1) := by decide +kernel
theorem dX11_row_57 : decode cX11_row 57 = .ok (.invokevirtual 163, 3) := by decide +kernel
theorem dX11_row_60 : decode cX11_row 60 = .ok (.lreturn, 1) := by decide +kernel
theorem dX11_caseOf_0 : decode cX11_caseOf 0 = .ok (.iload_n 1, 1) := by decide +kernel
theorem dX11_caseOf_1 : decode cX11_caseOf 1 = .ok (.invokestatic 132, 3) := by decide +kernel
theorem dX11_caseOf_4 : decode cX11_caseOf 4 = .ok (.ifCond .ne 6, 3) := by decide +kernel
theorem dX11_caseOf_7 : decode cX11_caseOf 7 = .ok (.bipush (-2), 2) := by decide +kernel
theorem dX11_caseOf_9 : decode cX11_caseOf 9 = .ok (.ireturn, 1) := by decide +kernel
theorem dX11_caseOf_10 : decode cX11_caseOf 10 = .ok (.aload_n 0, 1) := by decide +kernel
theorem dX11_caseOf_11 : decode cX11_caseOf 11 = .ok (.iload_n 1, 1) := by decide +kernel
theorem dX11_caseOf_12 : decode cX11_caseOf 12 = .ok (.invokevirtual 148, 3) := by decide +kernel
theorem dX11_caseOf_15 : decode cX11_caseOf 15 = .ok (.astore_n 3, 1) := by decide +kernel
theorem dX11_caseOf_16 : decode cX11_caseOf 16 = .ok (.aload_n 3, 1) := by decide +kernel
theorem dX11_caseOf_17 : decode cX11_caseOf 17 = .ok (.iload_n 2, 1) := by decide +kernel
theorem dX11_caseOf_18 : decode cX11_caseOf 18 = .ok (.invokevirtual 156, 3) := by decide +kernel
theorem dX11_caseOf_21 : decode cX11_caseOf 21 = .ok (.ifCond .ne 5, 3) := by decide +kernel
theorem dX11_caseOf_24 : decode cX11_caseOf 24 = .ok (.iconst (-1), 1) := by decide +kernel
theorem dX11_caseOf_25 : decode cX11_caseOf 25 = .ok (.ireturn, 1) := by decide +kernel
theorem dX11_caseOf_26 : decode cX11_caseOf 26 = .ok (.aload_n 3, 1) := by decide +kernel
theorem dX11_caseOf_27 : decode cX11_caseOf 27 = .ok (.getfield 152, 3) := by decide +kernel
theorem dX11_caseOf_30 : decode cX11_caseOf 30 = .ok (.ifCond .eq 8, 3) := by decide +kernel
theorem dX11_caseOf_33 : decode cX11_caseOf 33 = .ok (.bipush (-7), 2) := by decide +kernel
theorem dX11_caseOf_35 : decode cX11_caseOf 35 = .ok (.goto 8, 3) := by decide +kernel
theorem dX11_caseOf_38 : decode cX11_caseOf 38 = .ok (.aload_n 3, 1) := by decide +kernel
theorem dX11_caseOf_39 : decode cX11_caseOf 39 = .ok (.iload_n 2, 1) := by decide +kernel
theorem dX11_caseOf_40 : decode cX11_caseOf 40 = .ok (.invokevirtual 167, 3) := by decide +kernel
theorem dX11_caseOf_43 : decode cX11_caseOf 43 = .ok (.ireturn, 1) := by decide +kernel
theorem dX11_roots_0 : decode cX11_roots 0 = .ok (.iload_n 1, 1) := by decide +kernel
theorem dX11_roots_1 : decode cX11_roots 1 = .ok (.invokestatic 132, 3) := by decide +kernel
theorem dX11_roots_4 : decode cX11_roots 4 = .ok (.ifCond .eq 12, 3) := by decide +kernel
theorem dX11_roots_7 : decode cX11_roots 7 = .ok (.iload_n 2, 1) := by decide +kernel
theorem dX11_roots_8 : decode cX11_roots 8 = .ok (.ifCond .lt 8, 3) := by decide +kernel
theorem dX11_roots_11 : decode cX11_roots 11 = .ok (.iload_n 2, 1) := by decide +kernel
theorem dX11_roots_12 : decode cX11_roots 12 = .ok (.iconst 4, 1) := by decide +kernel
theorem dX11_roots_13 : decode cX11_roots 13 = .ok (.if_icmp .le 6, 3) := by decide +kernel
theorem dX11_roots_16 : decode cX11_roots 16 = .ok (.bipush (-2), 2) := by decide +kernel
theorem dX11_roots_18 : decode cX11_roots 18 = .ok (.ireturn, 1) := by decide +kernel
theorem dX11_roots_19 : decode cX11_roots 19 = .ok (.aload_n 0, 1) := by decide +kernel
theorem dX11_roots_20 : decode cX11_roots 20 = .ok (.iload_n 1, 1) := by decide +kernel
theorem dX11_roots_21 : decode cX11_roots 21 = .ok (.invokevirtual 148, 3) := by decide +kernel
theorem dX11_roots_24 : decode cX11_roots 24 = .ok (.astore_n 3, 1) := by decide +kernel
theorem dX11_roots_25 : decode cX11_roots 25 = .ok (.aload_n 3, 1) := by decide +kernel
theorem dX11_roots_26 : decode cX11_roots 26 = .ok (.getfield 152, 3) := by decide +kernel
theorem dX11_roots_29 : decode cX11_roots 29 = .ok (.ifCond .eq 6, 3) := by decide +kernel
theorem dX11_roots_32 : decode cX11_roots 32 = .ok (.bipush (-7), 2) := by decide +kernel
theorem dX11_roots_34 : decode cX11_roots 34 = .ok (.ireturn, 1) := by decide +kernel
theorem dX11_roots_35 : decode cX11_roots 35 = .ok (.iload_n 2, 1) := by decide +kernel
theorem dX11_roots_36 : decode cX11_roots 36 = .ok (.tableswitch 52 0 3 #[32, 37, 42, 47], 32) := by decide +kernel
theorem dX11_roots_68 : decode cX11_roots 68 = .ok (.aload_n 3, 1) := by decide +kernel
theorem dX11_roots_69 : decode cX11_roots 69 = .ok (.invokevirtual 170, 3) := by decide +kernel
theorem dX11_roots_72 : decode cX11_roots 72 = .ok (.ireturn, 1) := by decide +kernel
theorem dX11_roots_73 : decode cX11_roots 73 = .ok (.aload_n 3, 1) := by decide +kernel
theorem dX11_roots_74 : decode cX11_roots 74 = .ok (.invokevirtual 174, 3) := by decide +kernel
theorem dX11_roots_77 : decode cX11_roots 77 = .ok (.ireturn, 1) := by decide +kernel
theorem dX11_roots_78 : decode cX11_roots 78 = .ok (.aload_n 3, 1) := by decide +kernel
theorem dX11_roots_79 : decode cX11_roots 79 = .ok (.invokevirtual 177, 3) := by decide +kernel
theorem dX11_roots_82 : decode cX11_roots 82 = .ok (.ireturn, 1) := by decide +kernel
theorem dX11_roots_83 : decode cX11_roots 83 = .ok (.aload_n 3, 1) := by decide +kernel
theorem dX11_roots_84 : decode cX11_roots 84 = .ok (.invokevirtual 180, 3) := by decide +kernel
theorem dX11_roots_87 : decode cX11_roots 87 = .ok (.ireturn, 1) := by decide +kernel
theorem dX11_roots_88 : decode cX11_roots 88 = .ok (.aload_n 3, 1) := by decide +kernel
theorem dX11_roots_89 : decode cX11_roots 89 = .ok (.invokevirtual 174, 3) := by decide +kernel
theorem dX11_roots_92 : decode cX11_roots 92 = .ok (.iload_n 1, 1) := by decide +kernel
theorem dX11_roots_93 : decode cX11_roots 93 = .ok (.iconst 3, 1) := by decide +kernel
theorem dX11_roots_94 : decode cX11_roots 94 = .ok (.if_icmp .ne 10, 3) := by decide +kernel
theorem dX11_roots_97 : decode cX11_roots 97 = .ok (.aload_n 3, 1) := by decide +kernel
theorem dX11_roots_98 : decode cX11_roots 98 = .ok (.getfield 145, 3) := by decide +kernel
theorem dX11_roots_101 : decode cX11_roots 101 = .ok (.goto 4, 3) := by decide +kernel
theorem dX11_roots_104 : decode cX11_roots 104 = .ok (.iconst 0, 1) := by decide +kernel
theorem dX11_roots_105 : decode cX11_roots 105 = .ok (.iadd, 1) := by decide +kernel
theorem dX11_roots_106 : decode cX11_roots 106 = .ok (.ireturn, 1) := by decide +kernel
theorem dX11_changes_0 : decode cX11_changes 0 = .ok (.iload_n 1, 1) := by decide +kernel
theorem dX11_changes_1 : decode cX11_changes 1 = .ok (.invokestatic 132, 3) := by decide +kernel
theorem dX11_changes_4 : decode cX11_changes 4 = .ok (.ifCond .ne 6, 3) := by decide +kernel
theorem dX11_changes_7 : decode cX11_changes 7 = .ok (.bipush (-2), 2) := by decide +kernel
theorem dX11_changes_9 : decode cX11_changes 9 = .ok (.ireturn, 1) := by decide +kernel
theorem dX11_changes_10 : decode cX11_changes 10 = .ok (.aload_n 0, 1) := by decide +kernel
theorem dX11_changes_11 : decode cX11_changes 11 = .ok (.iload_n 1, 1) := by decide +kernel
theorem dX11_changes_12 : decode cX11_changes 12 = .ok (.invokevirtual 148, 3) := by decide +kernel
theorem dX11_changes_15 : decode cX11_changes 15 = .ok (.astore 4, 2) := by decide +kernel
theorem dX11_changes_17 : decode cX11_changes 17 = .ok (.aload 4, 2) := by decide +kernel
theorem dX11_changes_19 : decode cX11_changes 19 = .ok (.iload_n 2, 1) := by decide +kernel
theorem dX11_changes_20 : decode cX11_changes 20 = .ok (.invokevirtual 156, 3) := by decide +kernel
theorem dX11_changes_23 : decode cX11_changes 23 = .ok (.ifCond .eq 17, 3) := by decide +kernel
theorem dX11_changes_26 : decode cX11_changes 26 = .ok (.aload 4, 2) := by decide +kernel
theorem dX11_changes_28 : decode cX11_changes 28 = .ok (.iload_n 3, 1) := by decide +kernel
theorem dX11_changes_29 : decode cX11_changes 29 = .ok (.invokevirtual 156, 3) := by decide +kernel
theorem dX11_changes_32 : decode cX11_changes 32 = .ok (.ifCond .eq 8, 3) := by decide +kernel
theorem dX11_changes_35 : decode cX11_changes 35 = .ok (.iload_n 3, 1) := by decide +kernel
theorem dX11_changes_36 : decode cX11_changes 36 = .ok (.iload_n 2, 1) := by decide +kernel
theorem dX11_changes_37 : decode cX11_changes 37 = .ok (.if_icmp .ge 5, 3) := by decide +kernel
theorem dX11_changes_40 : decode cX11_changes 40 = .ok (.iconst (-1), 1) := by decide +kernel
theorem dX11_changes_41 : decode cX11_changes 41 = .ok (.ireturn, 1) := by decide +kernel
theorem dX11_changes_42 : decode cX11_changes 42 = .ok (.aload 4, 2) := by decide +kernel
theorem dX11_changes_44 : decode cX11_changes 44 = .ok (.getfield 152, 3) := by decide +kernel
theorem dX11_changes_47 : decode cX11_changes 47 = .ok (.ifCond .eq 8, 3) := by decide +kernel
theorem dX11_changes_50 : decode cX11_changes 50 = .ok (.bipush (-7), 2) := by decide +kernel
theorem dX11_changes_52 : decode cX11_changes 52 = .ok (.goto 10, 3) := by decide +kernel
theorem dX11_changes_55 : decode cX11_changes 55 = .ok (.aload 4, 2) := by decide +kernel
theorem dX11_changes_57 : decode cX11_changes 57 = .ok (.iload_n 2, 1) := by decide +kernel
theorem dX11_changes_58 : decode cX11_changes 58 = .ok (.iload_n 3, 1) := by decide +kernel
theorem dX11_changes_59 : decode cX11_changes 59 = .ok (.invokevirtual 183, 3) := by decide +kernel
theorem dX11_changes_62 : decode cX11_changes 62 = .ok (.ireturn, 1) := by decide +kernel
theorem dX11_strip_0 : decode cX11_strip 0 = .ok (.iload_n 1, 1) := by decide +kernel
theorem dX11_strip_1 : decode cX11_strip 1 = .ok (.bipush 20, 2) := by decide +kernel
theorem dX11_strip_3 : decode cX11_strip 3 = .ok (.invokestatic 86, 3) := by decide +kernel
theorem dX11_strip_6 : decode cX11_strip 6 = .ok (.ifCond .eq 17, 3) := by decide +kernel
theorem dX11_strip_9 : decode cX11_strip 9 = .ok (.iload_n 2, 1) := by decide +kernel
theorem dX11_strip_10 : decode cX11_strip 10 = .ok (.bipush 20, 2) := by decide +kernel
theorem dX11_strip_12 : decode cX11_strip 12 = .ok (.invokestatic 86, 3) := by decide +kernel
theorem dX11_strip_15 : decode cX11_strip 15 = .ok (.ifCond .eq 8, 3) := by decide +kernel
theorem dX11_strip_18 : decode cX11_strip 18 = .ok (.iload_n 2, 1) := by decide +kernel
theorem dX11_strip_19 : decode cX11_strip 19 = .ok (.iload_n 1, 1) := by decide +kernel
theorem dX11_strip_20 : decode cX11_strip 20 = .ok (.if_icmp .gt 6, 3) := by decide +kernel
theorem dX11_strip_23 : decode cX11_strip 23 = .ok (.bipush (-2), 2) := by decide +kernel
theorem dX11_strip_25 : decode cX11_strip 25 = .ok (.ireturn, 1) := by decide +kernel
theorem dX11_strip_26 : decode cX11_strip 26 = .ok (.aload_n 0, 1) := by decide +kernel
theorem dX11_strip_27 : decode cX11_strip 27 = .ok (.bipush 30, 2) := by decide +kernel
theorem dX11_strip_29 : decode cX11_strip 29 = .ok (.iload_n 1, 1) := by decide +kernel
theorem dX11_strip_30 : decode cX11_strip 30 = .ok (.iadd, 1) := by decide +kernel
theorem dX11_strip_31 : decode cX11_strip 31 = .ok (.invokevirtual 148, 3) := by decide +kernel
theorem dX11_strip_34 : decode cX11_strip 34 = .ok (.astore_n 3, 1) := by decide +kernel
theorem dX11_strip_35 : decode cX11_strip 35 = .ok (.aload_n 3, 1) := by decide +kernel
theorem dX11_strip_36 : decode cX11_strip 36 = .ok (.getfield 152, 3) := by decide +kernel
theorem dX11_strip_39 : decode cX11_strip 39 = .ok (.ifCond .eq 6, 3) := by decide +kernel
theorem dX11_strip_42 : decode cX11_strip 42 = .ok (.bipush (-7), 2) := by decide +kernel
theorem dX11_strip_44 : decode cX11_strip 44 = .ok (.ireturn, 1) := by decide +kernel
theorem dX11_strip_45 : decode cX11_strip 45 = .ok (.aload_n 3, 1) := by decide +kernel
theorem dX11_strip_46 : decode cX11_strip 46 = .ok (.invokevirtual 177, 3) := by decide +kernel
theorem dX11_strip_49 : decode cX11_strip 49 = .ok (.aload_n 3, 1) := by decide +kernel
theorem dX11_strip_50 : decode cX11_strip 50 = .ok (.invokevirtual 174, 3) := by decide +kernel
theorem dX11_strip_53 : decode cX11_strip 53 = .ok (.iadd, 1) := by decide +kernel
theorem dX11_strip_54 : decode cX11_strip 54 = .ok (.istore 4, 2) := by decide +kernel
theorem dX11_strip_56 : decode cX11_strip 56 = .ok (.aload_n 0, 1) := by decide +kernel
theorem dX11_strip_57 : decode cX11_strip 57 = .ok (.bipush 30, 2) := by decide +kernel
theorem dX11_strip_59 : decode cX11_strip 59 = .ok (.iload_n 2, 1) := by decide +kernel
theorem dX11_strip_60 : decode cX11_strip 60 = .ok (.iadd, 1) := by decide +kernel
theorem dX11_strip_61 : decode cX11_strip 61 = .ok (.invokevirtual 148, 3) := by decide +kernel
theorem dX11_strip_64 : decode cX11_strip 64 = .ok (.astore_n 3, 1) := by decide +kernel
theorem dX11_strip_65 : decode cX11_strip 65 = .ok (.aload_n 3, 1) := by decide +kernel
theorem dX11_strip_66 : decode cX11_strip 66 = .ok (.getfield 152, 3) := by decide +kernel
theorem dX11_strip_69 : decode cX11_strip 69 = .ok (.ifCond .eq 8, 3) := by decide +kernel
theorem dX11_strip_72 : decode cX11_strip 72 = .ok (.bipush (-7), 2) := by decide +kernel
theorem dX11_strip_74 : decode cX11_strip 74 = .ok (.goto 10, 3) := by decide +kernel
theorem dX11_strip_77 : decode cX11_strip 77 = .ok (.aload_n 3, 1) := by decide +kernel
theorem dX11_strip_78 : decode cX11_strip 78 = .ok (.invokevirtual 177, 3) := by decide +kernel
theorem dX11_strip_81 : decode cX11_strip 81 = .ok (.iload 4, 2) := by decide +kernel
theorem dX11_strip_83 : decode cX11_strip 83 = .ok (.isub, 1) := by decide +kernel
theorem dX11_strip_84 : decode cX11_strip 84 = .ok (.ireturn, 1) := by decide +kernel
theorem dX11_reach_0 : decode cX11_reach 0 = .ok (.aload_n 0, 1) := by decide +kernel
theorem dX11_reach_1 : decode cX11_reach 1 = .ok (.invokevirtual 98, 3) := by decide +kernel
theorem dX11_reach_4 : decode cX11_reach 4 = .ok (.invokestatic 187, 3) := by decide +kernel
theorem dX11_reach_7 : decode cX11_reach 7 = .ok (.istore_n 1, 1) := by decide +kernel
theorem dX11_reach_8 : decode cX11_reach 8 = .ok (.iload_n 1, 1) := by decide +kernel
theorem dX11_reach_9 : decode cX11_reach 9 = .ok (.iconst 1, 1) := by decide +kernel
theorem dX11_reach_10 : decode cX11_reach 10 = .ok (.if_icmp .ge 6, 3) := by decide +kernel
theorem dX11_reach_13 : decode cX11_reach 13 = .ok (.bipush (-2), 2) := by decide +kernel
theorem dX11_reach_15 : decode cX11_reach 15 = .ok (.ireturn, 1) := by decide +kernel
theorem dX11_reach_16 : decode cX11_reach 16 = .ok (.bipush (-21), 2) := by decide +kernel
theorem dX11_reach_18 : decode cX11_reach 18 = .ok (.istore_n 2, 1) := by decide +kernel
theorem dX11_reach_19 : decode cX11_reach 19 = .ok (.bipush 21, 2) := by decide +kernel
theorem dX11_reach_21 : decode cX11_reach 21 = .ok (.istore_n 3, 1) := by decide +kernel
theorem dX11_reach_22 : decode cX11_reach 22 = .ok (.iconst 0, 1) := by decide +kernel
theorem dX11_reach_23 : decode cX11_reach 23 = .ok (.istore 4, 2) := by decide +kernel
theorem dX11_reach_25 : decode cX11_reach 25 = .ok (.iload 4, 2) := by decide +kernel
theorem dX11_reach_27 : decode cX11_reach 27 = .ok (.bipush 40, 2) := by decide +kernel
theorem dX11_reach_29 : decode cX11_reach 29 = .ok (.if_icmp .ge 63, 3) := by decide +kernel
theorem dX11_reach_32 : decode cX11_reach 32 = .ok (.iload_n 3, 1) := by decide +kernel
theorem dX11_reach_33 : decode cX11_reach 33 = .ok (.iload_n 2, 1) := by decide +kernel
theorem dX11_reach_34 : decode cX11_reach 34 = .ok (.isub, 1) := by decide +kernel
theorem dX11_reach_35 : decode cX11_reach 35 = .ok (.iconst 1, 1) := by decide +kernel
theorem dX11_reach_36 : decode cX11_reach 36 = .ok (.if_icmp .le 56, 3) := by decide +kernel
theorem dX11_reach_39 : decode cX11_reach 39 = .ok (.iload_n 2, 1) := by decide +kernel
theorem dX11_reach_40 : decode cX11_reach 40 = .ok (.iload_n 3, 1) := by decide +kernel
theorem dX11_reach_41 : decode cX11_reach 41 = .ok (.iadd, 1) := by decide +kernel
theorem dX11_reach_42 : decode cX11_reach 42 = .ok (.iconst 2, 1) := by decide +kernel
theorem dX11_reach_43 : decode cX11_reach 43 = .ok (.idiv, 1) := by decide +kernel
theorem dX11_reach_44 : decode cX11_reach 44 = .ok (.istore 5, 2) := by decide +kernel
theorem dX11_reach_46 : decode cX11_reach 46 = .ok (.aload_n 0, 1) := by decide +kernel
theorem dX11_reach_47 : decode cX11_reach 47 = .ok (.bipush 30, 2) := by decide +kernel
theorem dX11_reach_49 : decode cX11_reach 49 = .ok (.iload 5, 2) := by decide +kernel
theorem dX11_reach_51 : decode cX11_reach 51 = .ok (.iadd, 1) := by decide +kernel
theorem dX11_reach_52 : decode cX11_reach 52 = .ok (.invokevirtual 148, 3) := by decide +kernel
theorem dX11_reach_55 : decode cX11_reach 55 = .ok (.astore 6, 2) := by decide +kernel
theorem dX11_reach_57 : decode cX11_reach 57 = .ok (.aload 6, 2) := by decide +kernel
theorem dX11_reach_59 : decode cX11_reach 59 = .ok (.getfield 152, 3) := by decide +kernel
theorem dX11_reach_62 : decode cX11_reach 62 = .ok (.ifCond .eq 6, 3) := by decide +kernel
theorem dX11_reach_65 : decode cX11_reach 65 = .ok (.bipush (-7), 2) := by decide +kernel
theorem dX11_reach_67 : decode cX11_reach 67 = .ok (.ireturn, 1) := by decide +kernel
theorem dX11_reach_68 : decode cX11_reach 68 = .ok (.aload 6, 2) := by decide +kernel
theorem dX11_reach_70 : decode cX11_reach 70 = .ok (.invokevirtual 177, 3) := by decide +kernel
theorem dX11_reach_73 : decode cX11_reach 73 = .ok (.iload_n 1, 1) := by decide +kernel
theorem dX11_reach_74 : decode cX11_reach 74 = .ok (.if_icmp .ne 9, 3) := by decide +kernel
theorem dX11_reach_77 : decode cX11_reach 77 = .ok (.iload 5, 2) := by decide +kernel
theorem dX11_reach_79 : decode cX11_reach 79 = .ok (.istore_n 3, 1) := by decide +kernel
theorem dX11_reach_80 : decode cX11_reach 80 = .ok (.goto 6, 3) := by decide +kernel
theorem dX11_reach_83 : decode cX11_reach 83 = .ok (.iload 5, 2) := by decide +kernel
theorem dX11_reach_85 : decode cX11_reach 85 = .ok (.istore_n 2, 1) := by decide +kernel
theorem dX11_reach_86 : decode cX11_reach 86 = .ok (.iinc 4 1, 3) := by decide +kernel
theorem dX11_reach_89 : decode cX11_reach 89 = .ok (.goto (-64), 3) := by decide +kernel
theorem dX11_reach_92 : decode cX11_reach 92 = .ok (.iload_n 3, 1) := by decide +kernel
theorem dX11_reach_93 : decode cX11_reach 93 = .ok (.bipush 20, 2) := by decide +kernel
theorem dX11_reach_95 : decode cX11_reach 95 = .ok (.if_icmp .le 7, 3) := by decide +kernel
theorem dX11_reach_98 : decode cX11_reach 98 = .ok (.iconst (-1), 1) := by decide +kernel
theorem dX11_reach_99 : decode cX11_reach 99 = .ok (.goto 8, 3) := by decide +kernel
theorem dX11_reach_102 : decode cX11_reach 102 = .ok (.iload_n 3, 1) := by decide +kernel
theorem dX11_reach_103 : decode cX11_reach 103 = .ok (.sipush 1000, 3) := by decide +kernel
theorem dX11_reach_106 : decode cX11_reach 106 = .ok (.iadd, 1) := by decide +kernel
theorem dX11_reach_107 : decode cX11_reach 107 = .ok (.ireturn, 1) := by decide +kernel
theorem dX11_steady_0 : decode cX11_steady 0 = .ok (.iload_n 1, 1) := by decide +kernel
theorem dX11_steady_1 : decode cX11_steady 1 = .ok (.invokestatic 193, 3) := by decide +kernel
theorem dX11_steady_4 : decode cX11_steady 4 = .ok (.ifCond .eq 24, 3) := by decide +kernel
theorem dX11_steady_7 : decode cX11_steady 7 = .ok (.iload_n 2, 1) := by decide +kernel
theorem dX11_steady_8 : decode cX11_steady 8 = .ok (.iconst 1, 1) := by decide +kernel
theorem dX11_steady_9 : decode cX11_steady 9 = .ok (.if_icmp .lt 19, 3) := by decide +kernel
theorem dX11_steady_12 : decode cX11_steady 12 = .ok (.iload_n 2, 1) := by decide +kernel
theorem dX11_steady_13 : decode cX11_steady 13 = .ok (.bipush 16, 2) := by decide +kernel
theorem dX11_steady_15 : decode cX11_steady 15 = .ok (.if_icmp .gt 13, 3) := by decide +kernel
theorem dX11_steady_18 : decode cX11_steady 18 = .ok (.iload_n 3, 1) := by decide +kernel
theorem dX11_steady_19 : decode cX11_steady 19 = .ok (.sipush 1600, 3) := by decide +kernel
theorem dX11_steady_22 : decode cX11_steady 22 = .ok (.invokestatic 86, 3) := by decide +kernel
theorem dX11_steady_25 : decode cX11_steady 25 = .ok (.ifCond .ne 6, 3) := by decide +kernel
theorem dX11_steady_28 : decode cX11_steady 28 = .ok (.bipush (-2), 2) := by decide +kernel
theorem dX11_steady_30 : decode cX11_steady 30 = .ok (.ireturn, 1) := by decide +kernel
theorem dX11_steady_31 : decode cX11_steady 31 = .ok (.aload_n 0, 1) := by decide +kernel
theorem dX11_steady_32 : decode cX11_steady 32 = .ok (.getfield 51, 3) := by decide +kernel
theorem dX11_steady_35 : decode cX11_steady 35 = .ok (.aload_n 0, 1) := by decide +kernel
theorem dX11_steady_36 : decode cX11_steady 36 = .ok (.getfield 14, 3) := by decide +kernel
theorem dX11_steady_39 : decode cX11_steady 39 = .ok (.iload_n 1, 1) := by decide +kernel
theorem dX11_steady_40 : decode cX11_steady 40 = .ok (.iload_n 2, 1) := by decide +kernel
theorem dX11_steady_41 : decode cX11_steady 41 = .ok (.iload_n 3, 1) := by decide +kernel
theorem dX11_steady_42 : decode cX11_steady 42 = .ok (.invokevirtual 196, 3) := by decide +kernel
theorem dX11_steady_45 : decode cX11_steady 45 = .ok (.ifCond .eq 7, 3) := by decide +kernel
theorem dX11_steady_48 : decode cX11_steady 48 = .ok (.iconst 1, 1) := by decide +kernel
theorem dX11_steady_49 : decode cX11_steady 49 = .ok (.goto 4, 3) := by decide +kernel
theorem dX11_steady_52 : decode cX11_steady 52 = .ok (.iconst 0, 1) := by decide +kernel
theorem dX11_steady_53 : decode cX11_steady 53 = .ok (.ireturn, 1) := by decide +kernel
theorem dX11_spans_0 : decode cX11_spans 0 = .ok (.iload_n 1, 1) := by decide +kernel
theorem dX11_spans_1 : decode cX11_spans 1 = .ok (.invokestatic 193, 3) := by decide +kernel
theorem dX11_spans_4 : decode cX11_spans 4 = .ok (.ifCond .eq 14, 3) := by decide +kernel
theorem dX11_spans_7 : decode cX11_spans 7 = .ok (.aload_n 0, 1) := by decide +kernel
theorem dX11_spans_8 : decode cX11_spans 8 = .ok (.iload_n 1, 1) := by decide +kernel
theorem dX11_spans_9 : decode cX11_spans 9 = .ok (.invokevirtual 200, 3) := by decide +kernel
theorem dX11_spans_12 : decode cX11_spans 12 = .ok (.getfield 204, 3) := by decide +kernel
theorem dX11_spans_15 : decode cX11_spans 15 = .ok (.goto 5, 3) := by decide +kernel
theorem dX11_spans_18 : decode cX11_spans 18 = .ok (.bipush (-2), 2) := by decide +kernel
theorem dX11_spans_20 : decode cX11_spans 20 = .ok (.ireturn, 1) := by decide +kernel
theorem dX11_span_0 : decode cX11_span 0 = .ok (.iload_n 1, 1) := by decide +kernel
theorem dX11_span_1 : decode cX11_span 1 = .ok (.invokestatic 193, 3) := by decide +kernel
theorem dX11_span_4 : decode cX11_span 4 = .ok (.ifCond .eq 12, 3) := by decide +kernel
theorem dX11_span_7 : decode cX11_span 7 = .ok (.iload_n 3, 1) := by decide +kernel
theorem dX11_span_8 : decode cX11_span 8 = .ok (.ifCond .lt 8, 3) := by decide +kernel
theorem dX11_span_11 : decode cX11_span 11 = .ok (.iload_n 3, 1) := by decide +kernel
theorem dX11_span_12 : decode cX11_span 12 = .ok (.iconst 4, 1) := by decide +kernel
theorem dX11_span_13 : decode cX11_span 13 = .ok (.if_icmp .le 6, 3) := by decide +kernel
theorem dX11_span_16 : decode cX11_span 16 = .ok (.bipush (-2), 2) := by decide +kernel
theorem dX11_span_18 : decode cX11_span 18 = .ok (.ireturn, 1) := by decide +kernel
theorem dX11_span_19 : decode cX11_span 19 = .ok (.aload_n 0, 1) := by decide +kernel
theorem dX11_span_20 : decode cX11_span 20 = .ok (.iload_n 1, 1) := by decide +kernel
theorem dX11_span_21 : decode cX11_span 21 = .ok (.invokevirtual 200, 3) := by decide +kernel
theorem dX11_span_24 : decode cX11_span 24 = .ok (.astore 4, 2) := by decide +kernel
theorem dX11_span_26 : decode cX11_span 26 = .ok (.iload_n 2, 1) := by decide +kernel
theorem dX11_span_27 : decode cX11_span 27 = .ok (.ifCond .lt 12, 3) := by decide +kernel
theorem dX11_span_30 : decode cX11_span 30 = .ok (.iload_n 2, 1) := by decide +kernel
theorem dX11_span_31 : decode cX11_span 31 = .ok (.aload 4, 2) := by decide +kernel
theorem dX11_span_33 : decode cX11_span 33 = .ok (.getfield 204, 3) := by decide +kernel
theorem dX11_span_36 : decode cX11_span 36 = .ok (.if_icmp .lt 5, 3) := by decide +kernel
theorem dX11_span_39 : decode cX11_span 39 = .ok (.iconst (-1), 1) := by decide +kernel
theorem dX11_span_40 : decode cX11_span 40 = .ok (.ireturn, 1) := by decide +kernel
theorem dX11_span_41 : decode cX11_span 41 = .ok (.iload_n 3, 1) := by decide +kernel
theorem dX11_span_42 : decode cX11_span 42 = .ok (.tableswitch 92 0 3 #[30, 42, 54, 73], 30) := by decide +kernel
theorem dX11_span_72 : decode cX11_span 72 = .ok (.aload 4, 2) := by decide +kernel
theorem dX11_span_74 : decode cX11_span 74 = .ok (.getfield 205, 3) := by decide +kernel
theorem dX11_span_77 : decode cX11_span 77 = .ok (.iload_n 2, 1) := by decide +kernel
theorem dX11_span_78 : decode cX11_span 78 = .ok (.iaload, 1) := by decide +kernel
theorem dX11_span_79 : decode cX11_span 79 = .ok (.sipush 1000, 3) := by decide +kernel
theorem dX11_span_82 : decode cX11_span 82 = .ok (.iadd, 1) := by decide +kernel
theorem dX11_span_83 : decode cX11_span 83 = .ok (.ireturn, 1) := by decide +kernel
theorem dX11_span_84 : decode cX11_span 84 = .ok (.aload 4, 2) := by decide +kernel
theorem dX11_span_86 : decode cX11_span 86 = .ok (.getfield 209, 3) := by decide +kernel
theorem dX11_span_89 : decode cX11_span 89 = .ok (.iload_n 2, 1) := by decide +kernel
theorem dX11_span_90 : decode cX11_span 90 = .ok (.iaload, 1) := by decide +kernel
theorem dX11_span_91 : decode cX11_span 91 = .ok (.sipush 1000, 3) := by decide +kernel
theorem dX11_span_94 : decode cX11_span 94 = .ok (.iadd, 1) := by decide +kernel
theorem dX11_span_95 : decode cX11_span 95 = .ok (.ireturn, 1) := by decide +kernel
theorem dX11_span_96 : decode cX11_span 96 = .ok (.aload 4, 2) := by decide +kernel
theorem dX11_span_98 : decode cX11_span 98 = .ok (.iload_n 2, 1) := by decide +kernel
theorem dX11_span_99 : decode cX11_span 99 = .ok (.aload_n 0, 1) := by decide +kernel
theorem dX11_span_100 : decode cX11_span 100 = .ok (.getfield 14, 3) := by decide +kernel
theorem dX11_span_103 : decode cX11_span 103 = .ok (.aload_n 0, 1) := by decide +kernel
theorem dX11_span_104 : decode cX11_span 104 = .ok (.getfield 51, 3) := by decide +kernel
theorem dX11_span_107 : decode cX11_span 107 = .ok (.invokevirtual 212, 3) := by decide +kernel
theorem dX11_span_110 : decode cX11_span 110 = .ok (.sipush 10000, 3) := by decide +kernel
theorem dX11_span_113 : decode cX11_span 113 = .ok (.iadd, 1) := by decide +kernel
theorem dX11_span_114 : decode cX11_span 114 = .ok (.ireturn, 1) := by decide +kernel
theorem dX11_span_115 : decode cX11_span 115 = .ok (.aload 4, 2) := by decide +kernel
theorem dX11_span_117 : decode cX11_span 117 = .ok (.iload_n 2, 1) := by decide +kernel
theorem dX11_span_118 : decode cX11_span 118 = .ok (.aload_n 0, 1) := by decide +kernel
theorem dX11_span_119 : decode cX11_span 119 = .ok (.getfield 14, 3) := by decide +kernel
theorem dX11_span_122 : decode cX11_span 122 = .ok (.aload_n 0, 1) := by decide +kernel
theorem dX11_span_123 : decode cX11_span 123 = .ok (.getfield 51, 3) := by decide +kernel
theorem dX11_span_126 : decode cX11_span 126 = .ok (.invokevirtual 216, 3) := by decide +kernel
theorem dX11_span_129 : decode cX11_span 129 = .ok (.sipush 10000, 3) := by decide +kernel
theorem dX11_span_132 : decode cX11_span 132 = .ok (.iadd, 1) := by decide +kernel
theorem dX11_span_133 : decode cX11_span 133 = .ok (.ireturn, 1) := by decide +kernel
theorem dX11_span_134 : decode cX11_span 134 = .ok (.aload 4, 2) := by decide +kernel
theorem dX11_span_136 : decode cX11_span 136 = .ok (.getfield 209, 3) := by decide +kernel
theorem dX11_span_139 : decode cX11_span 139 = .ok (.iload_n 2, 1) := by decide +kernel
theorem dX11_span_140 : decode cX11_span 140 = .ok (.iaload, 1) := by decide +kernel
theorem dX11_span_141 : decode cX11_span 141 = .ok (.aload 4, 2) := by decide +kernel
theorem dX11_span_143 : decode cX11_span 143 = .ok (.getfield 205, 3) := by decide +kernel
theorem dX11_span_146 : decode cX11_span 146 = .ok (.iload_n 2, 1) := by decide +kernel
theorem dX11_span_147 : decode cX11_span 147 = .ok (.iaload, 1) := by decide +kernel
theorem dX11_span_148 : decode cX11_span 148 = .ok (.isub, 1) := by decide +kernel
theorem dX11_span_149 : decode cX11_span 149 = .ok (.iconst 1, 1) := by decide +kernel
theorem dX11_span_150 : decode cX11_span 150 = .ok (.iadd, 1) := by decide +kernel
theorem dX11_span_151 : decode cX11_span 151 = .ok (.ireturn, 1) := by decide +kernel
theorem dX11_nearest_0 : decode cX11_nearest 0 = .ok (.iload_n 1, 1) := by decide +kernel
theorem dX11_nearest_1 : decode cX11_nearest 1 = .ok (.invokestatic 193, 3) := by decide +kernel
theorem dX11_nearest_4 : decode cX11_nearest 4 = .ok (.ifCond .eq 12, 3) := by decide +kernel
theorem dX11_nearest_7 : decode cX11_nearest 7 = .ok (.iload_n 2, 1) := by decide +kernel
theorem dX11_nearest_8 : decode cX11_nearest 8 = .ok (.bipush 100, 2) := by decide +kernel
theorem dX11_nearest_10 : decode cX11_nearest 10 = .ok (.invokestatic 86, 3) := by decide +kernel
theorem dX11_nearest_13 : decode cX11_nearest 13 = .ok (.ifCond .ne 6, 3) := by decide +kernel
theorem dX11_nearest_16 : decode cX11_nearest 16 = .ok (.bipush (-2), 2) := by decide +kernel
theorem dX11_nearest_18 : decode cX11_nearest 18 = .ok (.ireturn, 1) := by decide +kernel
theorem dX11_nearest_19 : decode cX11_nearest 19 = .ok (.aload_n 0, 1) := by decide +kernel
theorem dX11_nearest_20 : decode cX11_nearest 20 = .ok (.iload_n 1, 1) := by decide +kernel
theorem dX11_nearest_21 : decode cX11_nearest 21 = .ok (.invokevirtual 200, 3) := by decide +kernel
theorem dX11_nearest_24 : decode cX11_nearest 24 = .ok (.iload_n 2, 1) := by decide +kernel
theorem dX11_nearest_25 : decode cX11_nearest 25 = .ok (.invokevirtual 219, 3) := by decide +kernel
theorem dX11_nearest_28 : decode cX11_nearest 28 = .ok (.ireturn, 1) := by decide +kernel
theorem dX11_links_0 : decode cX11_links 0 = .ok (.aload_n 0, 1) := by decide +kernel
theorem dX11_links_1 : decode cX11_links 1 = .ok (.getfield 44, 3) := by decide +kernel
theorem dX11_links_4 : decode cX11_links 4 = .ok (.aload_n 0, 1) := by decide +kernel
theorem dX11_links_5 : decode cX11_links 5 = .ok (.invokevirtual 98, 3) := by decide +kernel
theorem dX11_links_8 : decode cX11_links 8 = .ok (.invokevirtual 222, 3) := by decide +kernel
theorem dX11_links_11 : decode cX11_links 11 = .ok (.ifCond .ne 6, 3) := by decide +kernel
theorem dX11_links_14 : decode cX11_links 14 = .ok (.bipush (-2), 2) := by decide +kernel
theorem dX11_links_16 : decode cX11_links 16 = .ok (.ireturn, 1) := by decide +kernel
theorem dX11_links_17 : decode cX11_links 17 = .ok (.aload_n 0, 1) := by decide +kernel
theorem dX11_links_18 : decode cX11_links 18 = .ok (.getfield 44, 3) := by decide +kernel
theorem dX11_links_21 : decode cX11_links 21 = .ok (.getfield 226, 3) := by decide +kernel
theorem dX11_links_24 : decode cX11_links 24 = .ok (.ifCond .eq 8, 3) := by decide +kernel
theorem dX11_links_27 : decode cX11_links 27 = .ok (.bipush (-7), 2) := by decide +kernel
theorem dX11_links_29 : decode cX11_links 29 = .ok (.goto 10, 3) := by decide +kernel
theorem dX11_links_32 : decode cX11_links 32 = .ok (.aload_n 0, 1) := by decide +kernel
theorem dX11_links_33 : decode cX11_links 33 = .ok (.getfield 44, 3) := by decide +kernel
theorem dX11_links_36 : decode cX11_links 36 = .ok (.getfield 227, 3) := by decide +kernel
theorem dX11_links_39 : decode cX11_links 39 = .ok (.ireturn, 1) := by decide +kernel
theorem dX11_link_0 : decode cX11_link 0 = .ok (.aload_n 0, 1) := by decide +kernel
theorem dX11_link_1 : decode cX11_link 1 = .ok (.getfield 44, 3) := by decide +kernel
theorem dX11_link_4 : decode cX11_link 4 = .ok (.aload_n 0, 1) := by decide +kernel
theorem dX11_link_5 : decode cX11_link 5 = .ok (.invokevirtual 98, 3) := by decide +kernel
theorem dX11_link_8 : decode cX11_link 8 = .ok (.invokevirtual 222, 3) := by decide +kernel
theorem dX11_link_11 : decode cX11_link 11 = .ok (.ifCond .eq 13, 3) := by decide +kernel
theorem dX11_link_14 : decode cX11_link 14 = .ok (.aload_n 0, 1) := by decide +kernel
theorem dX11_link_15 : decode cX11_link 15 = .ok (.getfield 44, 3) := by decide +kernel
theorem dX11_link_18 : decode cX11_link 18 = .ok (.getfield 226, 3) := by decide +kernel
theorem dX11_link_21 : decode cX11_link 21 = .ok (.ifCond .eq 7, 3) := by decide +kernel
theorem dX11_link_24 : decode cX11_link 24 = .ok (.ldc2_w 90, 3) := by decide +kernel
theorem dX11_link_27 : decode cX11_link 27 = .ok (.lreturn, 1) := by decide +kernel
theorem dX11_link_28 : decode cX11_link 28 = .ok (.iload_n 1, 1) := by decide +kernel
theorem dX11_link_29 : decode cX11_link 29 = .ok (.ifCond .lt 21, 3) := by decide +kernel
theorem dX11_link_32 : decode cX11_link 32 = .ok (.iload_n 1, 1) := by decide +kernel
theorem dX11_link_33 : decode cX11_link 33 = .ok (.aload_n 0, 1) := by decide +kernel
theorem dX11_link_34 : decode cX11_link 34 = .ok (.getfield 44, 3) := by decide +kernel
theorem dX11_link_37 : decode cX11_link 37 = .ok (.getfield 227, 3) := by decide +kernel
theorem dX11_link_40 : decode cX11_link 40 = .ok (.if_icmp .ge 10, 3) := by decide +kernel
theorem dX11_link_43 : decode cX11_link 43 = .ok (.iload_n 2, 1) := by decide +kernel
theorem dX11_link_44 : decode cX11_link 44 = .ok (.invokestatic 82, 3) := by decide +kernel
theorem dX11_link_47 : decode cX11_link 47 = .ok (.ifCond .ne 7, 3) := by decide +kernel
theorem dX11_link_50 : decode cX11_link 50 = .ok (.ldc2_w 90, 3) := by decide +kernel
theorem dX11_link_53 : decode cX11_link 53 = .ok (.lreturn, 1) := by decide +kernel
theorem dX11_link_54 : decode cX11_link 54 = .ok (.aload_n 0, 1) := by decide +kernel
theorem dX11_link_55 : decode cX11_link 55 = .ok (.getfield 44, 3) := by decide +kernel
theorem dX11_link_58 : decode cX11_link 58 = .ok (.iload_n 1, 1) := by decide +kernel
theorem dX11_link_59 : decode cX11_link 59 = .ok (.iload_n 2, 1) := by decide +kernel
theorem dX11_link_60 : decode cX11_link 60 = .ok (.invokevirtual 228, 3) := by decide +kernel
theorem dX11_link_63 : decode cX11_link 63 = .ok (.lreturn, 1) := by decide +kernel
theorem dX11_chain_0 : decode cX11_chain 0 = .ok (.iload_n 1, 1) := by decide +kernel
theorem dX11_chain_1 : decode cX11_chain 1 = .ok (.bipush 20, 2) := by decide +kernel
theorem dX11_chain_3 : decode cX11_chain 3 = .ok (.invokestatic 86, 3) := by decide +kernel
theorem dX11_chain_6 : decode cX11_chain 6 = .ok (.ifCond .eq 17, 3) := by decide +kernel
theorem dX11_chain_9 : decode cX11_chain 9 = .ok (.aload_n 0, 1) := by decide +kernel
theorem dX11_chain_10 : decode cX11_chain 10 = .ok (.getfield 44, 3) := by decide +kernel
theorem dX11_chain_13 : decode cX11_chain 13 = .ok (.aload_n 0, 1) := by decide +kernel
theorem dX11_chain_14 : decode cX11_chain 14 = .ok (.invokevirtual 98, 3) := by decide +kernel
theorem dX11_chain_17 : decode cX11_chain 17 = .ok (.invokevirtual 222, 3) := by decide +kernel
theorem dX11_chain_20 : decode cX11_chain 20 = .ok (.ifCond .ne 6, 3) := by decide +kernel
theorem dX11_chain_23 : decode cX11_chain 23 = .ok (.bipush (-2), 2) := by decide +kernel
theorem dX11_chain_25 : decode cX11_chain 25 = .ok (.ireturn, 1) := by decide +kernel
theorem dX11_chain_26 : decode cX11_chain 26 = .ok (.aload_n 0, 1) := by decide +kernel
theorem dX11_chain_27 : decode cX11_chain 27 = .ok (.getfield 44, 3) := by decide +kernel
theorem dX11_chain_30 : decode cX11_chain 30 = .ok (.iload_n 1, 1) := by decide +kernel
theorem dX11_chain_31 : decode cX11_chain 31 = .ok (.invokevirtual 231, 3) := by decide +kernel
theorem dX11_chain_34 : decode cX11_chain 34 = .ok (.ireturn, 1) := by decide +kernel
theorem dX11_real_0 : decode cX11_real 0 = .ok (.iload_n 1, 1) := by decide +kernel
theorem dX11_real_1 : decode cX11_real 1 = .ok (.bipush 20, 2) := by decide +kernel
theorem dX11_real_3 : decode cX11_real 3 = .ok (.invokestatic 86, 3) := by decide +kernel
theorem dX11_real_6 : decode cX11_real 6 = .ok (.ifCond .eq 17, 3) := by decide +kernel
theorem dX11_real_9 : decode cX11_real 9 = .ok (.iload_n 2, 1) := by decide +kernel
theorem dX11_real_10 : decode cX11_real 10 = .ok (.bipush 20, 2) := by decide +kernel
theorem dX11_real_12 : decode cX11_real 12 = .ok (.invokestatic 86, 3) := by decide +kernel
theorem dX11_real_15 : decode cX11_real 15 = .ok (.ifCond .eq 8, 3) := by decide +kernel
theorem dX11_real_18 : decode cX11_real 18 = .ok (.iload_n 2, 1) := by decide +kernel
theorem dX11_real_19 : decode cX11_real 19 = .ok (.iload_n 1, 1) := by decide +kernel
theorem dX11_real_20 : decode cX11_real 20 = .ok (.if_icmp .gt 6, 3) := by decide +kernel
theorem dX11_real_23 : decode cX11_real 23 = .ok (.bipush (-2), 2) := by decide +kernel
theorem dX11_real_25 : decode cX11_real 25 = .ok (.ireturn, 1) := by decide +kernel
theorem dX11_real_26 : decode cX11_real 26 = .ok (.aload_n 0, 1) := by decide +kernel
theorem dX11_real_27 : decode cX11_real 27 = .ok (.getfield 44, 3) := by decide +kernel
theorem dX11_real_30 : decode cX11_real 30 = .ok (.aload_n 0, 1) := by decide +kernel
theorem dX11_real_31 : decode cX11_real 31 = .ok (.invokevirtual 98, 3) := by decide +kernel
theorem dX11_real_34 : decode cX11_real 34 = .ok (.invokevirtual 222, 3) := by decide +kernel
theorem dX11_real_37 : decode cX11_real 37 = .ok (.ifCond .ne 6, 3) := by decide +kernel
theorem dX11_real_40 : decode cX11_real 40 = .ok (.bipush (-2), 2) := by decide +kernel
theorem dX11_real_42 : decode cX11_real 42 = .ok (.ireturn, 1) := by decide +kernel
theorem dX11_real_43 : decode cX11_real 43 = .ok (.aload_n 0, 1) := by decide +kernel
theorem dX11_real_44 : decode cX11_real 44 = .ok (.getfield 44, 3) := by decide +kernel
theorem dX11_real_47 : decode cX11_real 47 = .ok (.iload_n 1, 1) := by decide +kernel
theorem dX11_real_48 : decode cX11_real 48 = .ok (.invokevirtual 231, 3) := by decide +kernel
theorem dX11_real_51 : decode cX11_real 51 = .ok (.istore_n 3, 1) := by decide +kernel
theorem dX11_real_52 : decode cX11_real 52 = .ok (.aload_n 0, 1) := by decide +kernel
theorem dX11_real_53 : decode cX11_real 53 = .ok (.getfield 44, 3) := by decide +kernel
theorem dX11_real_56 : decode cX11_real 56 = .ok (.iload_n 2, 1) := by decide +kernel
theorem dX11_real_57 : decode cX11_real 57 = .ok (.invokevirtual 231, 3) := by decide +kernel
theorem dX11_real_60 : decode cX11_real 60 = .ok (.istore 4, 2) := by decide +kernel
theorem dX11_real_62 : decode cX11_real 62 = .ok (.iload_n 3, 1) := by decide +kernel
theorem dX11_real_63 : decode cX11_real 63 = .ok (.bipush (-7), 2) := by decide +kernel
theorem dX11_real_65 : decode cX11_real 65 = .ok (.if_icmp .eq 10, 3) := by decide +kernel
theorem dX11_real_68 : decode cX11_real 68 = .ok (.iload 4, 2) := by decide +kernel
theorem dX11_real_70 : decode cX11_real 70 = .ok (.bipush (-7), 2) := by decide +kernel
theorem dX11_real_72 : decode cX11_real 72 = .ok (.if_icmp .ne 8, 3) := by decide +kernel
theorem dX11_real_75 : decode cX11_real 75 = .ok (.bipush (-7), 2) := by decide +kernel
theorem dX11_real_77 : decode cX11_real 77 = .ok (.goto 10, 3) := by decide +kernel
theorem dX11_real_80 : decode cX11_real 80 = .ok (.iload_n 3, 1) := by decide +kernel
theorem dX11_real_81 : decode cX11_real 81 = .ok (.iload 4, 2) := by decide +kernel
theorem dX11_real_83 : decode cX11_real 83 = .ok (.isub, 1) := by decide +kernel
theorem dX11_real_84 : decode cX11_real 84 = .ok (.bipush 100, 2) := by decide +kernel
theorem dX11_real_86 : decode cX11_real 86 = .ok (.iadd, 1) := by decide +kernel
theorem dX11_real_87 : decode cX11_real 87 = .ok (.ireturn, 1) := by decide +kernel
theorem dX11_await_0 : decode cX11_await 0 = .ok (.iload_n 1, 1) := by decide +kernel
theorem dX11_await_1 : decode cX11_await 1 = .ok (.bipush 100, 2) := by decide +kernel
theorem dX11_await_3 : decode cX11_await 3 = .ok (.invokestatic 86, 3) := by decide +kernel
theorem dX11_await_6 : decode cX11_await 6 = .ok (.ifCond .ne 6, 3) := by decide +kernel
theorem dX11_await_9 : decode cX11_await 9 = .ok (.bipush (-2), 2) := by decide +kernel
theorem dX11_await_11 : decode cX11_await 11 = .ok (.ireturn, 1) := by decide +kernel
theorem dX11_await_12 : decode cX11_await 12 = .ok (.aload_n 0, 1) := by decide +kernel
theorem dX11_await_13 : decode cX11_await 13 = .ok (.getfield 14, 3) := by decide +kernel
theorem dX11_await_16 : decode cX11_await 16 = .ok (.getfield 234, 3) := by decide +kernel
theorem dX11_await_19 : decode cX11_await 19 = .ok (.bipush 16, 2) := by decide +kernel
theorem dX11_await_21 : decode cX11_await 21 = .ok (.if_icmp .lt 6, 3) := by decide +kernel
theorem dX11_await_24 : decode cX11_await 24 = .ok (.bipush (-4), 2) := by decide +kernel
theorem dX11_await_26 : decode cX11_await 26 = .ok (.ireturn, 1) := by decide +kernel
theorem dX11_await_27 : decode cX11_await 27 = .ok (.aload_n 0, 1) := by decide +kernel
theorem dX11_await_28 : decode cX11_await 28 = .ok (.getfield 14, 3) := by decide +kernel
theorem dX11_await_31 : decode cX11_await 31 = .ok (.getfield 237, 3) := by decide +kernel
theorem dX11_await_34 : decode cX11_await 34 = .ok (.aload_n 0, 1) := by decide +kernel
theorem dX11_await_35 : decode cX11_await 35 = .ok (.getfield 14, 3) := by decide +kernel
theorem dX11_await_38 : decode cX11_await 38 = .ok (.getfield 234, 3) := by decide +kernel
theorem dX11_await_41 : decode cX11_await 41 = .ok (.iload_n 1, 1) := by decide +kernel
theorem dX11_await_42 : decode cX11_await 42 = .ok (.iastore, 1) := by decide +kernel
theorem dX11_await_43 : decode cX11_await 43 = .ok (.aload_n 0, 1) := by decide +kernel
theorem dX11_await_44 : decode cX11_await 44 = .ok (.getfield 14, 3) := by decide +kernel
theorem dX11_await_47 : decode cX11_await 47 = .ok (.dup, 1) := by decide +kernel
theorem dX11_await_48 : decode cX11_await 48 = .ok (.getfield 234, 3) := by decide +kernel
theorem dX11_await_51 : decode cX11_await 51 = .ok (.iconst 1, 1) := by decide +kernel
theorem dX11_await_52 : decode cX11_await 52 = .ok (.iadd, 1) := by decide +kernel
theorem dX11_await_53 : decode cX11_await 53 = .ok (.putfield 234, 3) := by decide +kernel
theorem dX11_await_56 : decode cX11_await 56 = .ok (.aload_n 0, 1) := by decide +kernel
theorem dX11_await_57 : decode cX11_await 57 = .ok (.getfield 14, 3) := by decide +kernel
theorem dX11_await_60 : decode cX11_await 60 = .ok (.getfield 234, 3) := by decide +kernel
theorem dX11_await_63 : decode cX11_await 63 = .ok (.ireturn, 1) := by decide +kernel
theorem dX11_next_0 : decode cX11_next 0 = .ok (.aload_n 0, 1) := by decide +kernel
theorem dX11_next_1 : decode cX11_next 1 = .ok (.getfield 14, 3) := by decide +kernel
theorem dX11_next_4 : decode cX11_next 4 = .ok (.getfield 234, 3) := by decide +kernel
theorem dX11_next_7 : decode cX11_next 7 = .ok (.ifCond .ne 6, 3) := by decide +kernel
theorem dX11_next_10 : decode cX11_next 10 = .ok (.bipush (-3), 2) := by decide +kernel
theorem dX11_next_12 : decode cX11_next 12 = .ok (.ireturn, 1) := by decide +kernel
theorem dX11_next_13 : decode cX11_next 13 = .ok (.aload_n 0, 1) := by decide +kernel
theorem dX11_next_14 : decode cX11_next 14 = .ok (.getfield 14, 3) := by decide +kernel
theorem dX11_next_17 : decode cX11_next 17 = .ok (.aload_n 0, 1) := by decide +kernel
theorem dX11_next_18 : decode cX11_next 18 = .ok (.getfield 14, 3) := by decide +kernel
theorem dX11_next_21 : decode cX11_next 21 = .ok (.getfield 237, 3) := by decide +kernel
theorem dX11_next_24 : decode cX11_next 24 = .ok (.iconst 0, 1) := by decide +kernel
theorem dX11_next_25 : decode cX11_next 25 = .ok (.iaload, 1) := by decide +kernel
theorem dX11_next_26 : decode cX11_next 26 = .ok (.putfield 102, 3) := by decide +kernel
theorem dX11_next_29 : decode cX11_next 29 = .ok (.aload_n 0, 1) := by decide +kernel
theorem dX11_next_30 : decode cX11_next 30 = .ok (.getfield 14, 3) := by decide +kernel
theorem dX11_next_33 : decode cX11_next 33 = .ok (.invokevirtual 240, 3) := by decide +kernel
theorem dX11_next_36 : decode cX11_next 36 = .ok (.aload_n 0, 1) := by decide +kernel
theorem dX11_next_37 : decode cX11_next 37 = .ok (.getfield 14, 3) := by decide +kernel
theorem dX11_next_40 : decode cX11_next 40 = .ok (.dup, 1) := by decide +kernel
theorem dX11_next_41 : decode cX11_next 41 = .ok (.getfield 234, 3) := by decide +kernel
theorem dX11_next_44 : decode cX11_next 44 = .ok (.iconst 1, 1) := by decide +kernel
theorem dX11_next_45 : decode cX11_next 45 = .ok (.isub, 1) := by decide +kernel
theorem dX11_next_46 : decode cX11_next 46 = .ok (.putfield 234, 3) := by decide +kernel
theorem dX11_next_49 : decode cX11_next 49 = .ok (.aload_n 0, 1) := by decide +kernel
theorem dX11_next_50 : decode cX11_next 50 = .ok (.getfield 14, 3) := by decide +kernel
theorem dX11_next_53 : decode cX11_next 53 = .ok (.getfield 234, 3) := by decide +kernel
theorem dX11_next_56 : decode cX11_next 56 = .ok (.ireturn, 1) := by decide +kernel
theorem dX11_waiting_0 : decode cX11_waiting 0 = .ok (.iload_n 1, 1) := by decide +kernel
theorem dX11_waiting_1 : decode cX11_waiting 1 = .ok (.ifCond .lt 14, 3) := by decide +kernel
theorem dX11_waiting_4 : decode cX11_waiting 4 = .ok (.iload_n 1, 1) := by decide +kernel
theorem dX11_waiting_5 : decode cX11_waiting 5 = .ok (.aload_n 0, 1) := by decide +kernel
theorem dX11_waiting_6 : decode cX11_waiting 6 = .ok (.getfield 14, 3) := by decide +kernel
theorem dX11_waiting_9 : decode cX11_waiting 9 = .ok (.getfield 234, 3) := by decide +kernel
theorem dX11_waiting_12 : decode cX11_waiting 12 = .ok (.if_icmp .lt 7, 3) := by decide +kernel
theorem dX11_waiting_15 : decode cX11_waiting 15 = .ok (.iconst (-1), 1) := by decide +kernel
theorem dX11_waiting_16 : decode cX11_waiting 16 = .ok (.goto 16, 3) := by decide +kernel
theorem dX11_waiting_19 : decode cX11_waiting 19 = .ok (.aload_n 0, 1) := by decide +kernel
theorem dX11_waiting_20 : decode cX11_waiting 20 = .ok (.getfield 14, 3) := by decide +kernel
theorem dX11_waiting_23 : decode cX11_waiting 23 = .ok (.getfield 237, 3) := by decide +kernel
theorem dX11_waiting_26 : decode cX11_waiting 26 = .ok (.iload_n 1, 1) := by decide +kernel
theorem dX11_waiting_27 : decode cX11_waiting 27 = .ok (.iaload, 1) := by decide +kernel
theorem dX11_waiting_28 : decode cX11_waiting 28 = .ok (.sipush 1000, 3) := by decide +kernel
theorem dX11_waiting_31 : decode cX11_waiting 31 = .ok (.iadd, 1) := by decide +kernel
theorem dX11_waiting_32 : decode cX11_waiting 32 = .ok (.ireturn, 1) := by decide +kernel
theorem dX11_weed_0 : decode cX11_weed 0 = .ok (.iload_n 1, 1) := by decide +kernel
theorem dX11_weed_1 : decode cX11_weed 1 = .ok (.invokestatic 193, 3) := by decide +kernel
theorem dX11_weed_4 : decode cX11_weed 4 = .ok (.ifCond .eq 12, 3) := by decide +kernel
theorem dX11_weed_7 : decode cX11_weed 7 = .ok (.iload_n 2, 1) := by decide +kernel
theorem dX11_weed_8 : decode cX11_weed 8 = .ok (.ifCond .lt 8, 3) := by decide +kernel
theorem dX11_weed_11 : decode cX11_weed 11 = .ok (.iload_n 2, 1) := by decide +kernel
theorem dX11_weed_12 : decode cX11_weed 12 = .ok (.iconst 2, 1) := by decide +kernel
theorem dX11_weed_13 : decode cX11_weed 13 = .ok (.if_icmp .le 6, 3) := by decide +kernel
theorem dX11_weed_16 : decode cX11_weed 16 = .ok (.bipush (-2), 2) := by decide +kernel
theorem dX11_weed_18 : decode cX11_weed 18 = .ok (.ireturn, 1) := by decide +kernel
theorem dX11_weed_19 : decode cX11_weed 19 = .ok (.aload_n 0, 1) := by decide +kernel
theorem dX11_weed_20 : decode cX11_weed 20 = .ok (.getfield 14, 3) := by decide +kernel
theorem dX11_weed_23 : decode cX11_weed 23 = .ok (.getfield 234, 3) := by decide +kernel
theorem dX11_weed_26 : decode cX11_weed 26 = .ok (.istore_n 3, 1) := by decide +kernel
theorem dX11_weed_27 : decode cX11_weed 27 = .ok (.iconst 0, 1) := by decide +kernel
theorem dX11_weed_28 : decode cX11_weed 28 = .ok (.istore 4, 2) := by decide +kernel
theorem dX11_weed_30 : decode cX11_weed 30 = .ok (.iconst 0, 1) := by decide +kernel
theorem dX11_weed_31 : decode cX11_weed 31 = .ok (.istore 5, 2) := by decide +kernel
theorem dX11_weed_33 : decode cX11_weed 33 = .ok (.iload 5, 2) := by decide +kernel
theorem dX11_weed_35 : decode cX11_weed 35 = .ok (.iload_n 3, 1) := by decide +kernel
theorem dX11_weed_36 : decode cX11_weed 36 = .ok (.if_icmp .ge 95, 3) := by decide +kernel
theorem dX11_weed_39 : decode cX11_weed 39 = .ok (.aload_n 0, 1) := by decide +kernel
theorem dX11_weed_40 : decode cX11_weed 40 = .ok (.getfield 14, 3) := by decide +kernel
theorem dX11_weed_43 : decode cX11_weed 43 = .ok (.getfield 237, 3) := by decide +kernel
theorem dX11_weed_46 : decode cX11_weed 46 = .ok (.iload 5, 2) := by decide +kernel
theorem dX11_weed_48 : decode cX11_weed 48 = .ok (.iaload, 1) := by decide +kernel
theorem dX11_weed_49 : decode cX11_weed 49 = .ok (.istore 6, 2) := by decide +kernel
theorem dX11_weed_51 : decode cX11_weed 51 = .ok (.iload_n 2, 1) := by decide +kernel
theorem dX11_weed_52 : decode cX11_weed 52 = .ok (.iconst 2, 1) := by decide +kernel
theorem dX11_weed_53 : decode cX11_weed 53 = .ok (.if_icmp .ne 17, 3) := by decide +kernel
theorem dX11_weed_56 : decode cX11_weed 56 = .ok (.aload_n 0, 1) := by decide +kernel
theorem dX11_weed_57 : decode cX11_weed 57 = .ok (.getfield 14, 3) := by decide +kernel
theorem dX11_weed_60 : decode cX11_weed 60 = .ok (.iload 6, 2) := by decide +kernel
theorem dX11_weed_62 : decode cX11_weed 62 = .ok (.iload 4, 2) := by decide +kernel
theorem dX11_weed_64 : decode cX11_weed 64 = .ok (.invokevirtual 243, 3) := by decide +kernel
theorem dX11_weed_67 : decode cX11_weed 67 = .ok (.goto 36, 3) := by decide +kernel
theorem dX11_weed_70 : decode cX11_weed 70 = .ok (.aload_n 0, 1) := by decide +kernel
theorem dX11_weed_71 : decode cX11_weed 71 = .ok (.getfield 51, 3) := by decide +kernel
theorem dX11_weed_74 : decode cX11_weed 74 = .ok (.aload_n 0, 1) := by decide +kernel
theorem dX11_weed_75 : decode cX11_weed 75 = .ok (.getfield 14, 3) := by decide +kernel
theorem dX11_weed_78 : decode cX11_weed 78 = .ok (.iload_n 1, 1) := by decide +kernel
theorem dX11_weed_79 : decode cX11_weed 79 = .ok (.iconst 1, 1) := by decide +kernel
theorem dX11_weed_80 : decode cX11_weed 80 = .ok (.iload 6, 2) := by decide +kernel
theorem dX11_weed_82 : decode cX11_weed 82 = .ok (.invokevirtual 196, 3) := by decide +kernel
theorem dX11_weed_85 : decode cX11_weed 85 = .ok (.iload_n 2, 1) := by decide +kernel
theorem dX11_weed_86 : decode cX11_weed 86 = .ok (.iconst 1, 1) := by decide +kernel
theorem dX11_weed_87 : decode cX11_weed 87 = .ok (.if_icmp .ne 7, 3) := by decide +kernel
theorem dX11_weed_90 : decode cX11_weed 90 = .ok (.iconst 1, 1) := by decide +kernel
theorem dX11_weed_91 : decode cX11_weed 91 = .ok (.goto 4, 3) := by decide +kernel
theorem dX11_weed_94 : decode cX11_weed 94 = .ok (.iconst 0, 1) := by decide +kernel
theorem dX11_weed_95 : decode cX11_weed 95 = .ok (.if_icmp .ne 7, 3) := by decide +kernel
theorem dX11_weed_98 : decode cX11_weed 98 = .ok (.iconst 1, 1) := by decide +kernel
theorem dX11_weed_99 : decode cX11_weed 99 = .ok (.goto 4, 3) := by decide +kernel
theorem dX11_weed_102 : decode cX11_weed 102 = .ok (.iconst 0, 1) := by decide +kernel
theorem dX11_weed_103 : decode cX11_weed 103 = .ok (.istore 7, 2) := by decide +kernel
theorem dX11_weed_105 : decode cX11_weed 105 = .ok (.iload 7, 2) := by decide +kernel
theorem dX11_weed_107 : decode cX11_weed 107 = .ok (.ifCond .ne 18, 3) := by decide +kernel
theorem dX11_weed_110 : decode cX11_weed 110 = .ok (.aload_n 0, 1) := by decide +kernel
theorem dX11_weed_111 : decode cX11_weed 111 = .ok (.getfield 14, 3) := by decide +kernel
theorem dX11_weed_114 : decode cX11_weed 114 = .ok (.getfield 237, 3) := by decide +kernel
theorem dX11_weed_117 : decode cX11_weed 117 = .ok (.iload 4, 2) := by decide +kernel
theorem dX11_weed_119 : decode cX11_weed 119 = .ok (.iload 6, 2) := by decide +kernel
theorem dX11_weed_121 : decode cX11_weed 121 = .ok (.iastore, 1) := by decide +kernel
theorem dX11_weed_122 : decode cX11_weed 122 = .ok (.iinc 4 1, 3) := by decide +kernel
theorem dX11_weed_125 : decode cX11_weed 125 = .ok (.iinc 5 1, 3) := by decide +kernel
theorem dX11_weed_128 : decode cX11_weed 128 = .ok (.goto (-95), 3) := by decide +kernel
theorem dX11_weed_131 : decode cX11_weed 131 = .ok (.aload_n 0, 1) := by decide +kernel
theorem dX11_weed_132 : decode cX11_weed 132 = .ok (.getfield 14, 3) := by decide +kernel
theorem dX11_weed_135 : decode cX11_weed 135 = .ok (.iload 4, 2) := by decide +kernel
theorem dX11_weed_137 : decode cX11_weed 137 = .ok (.putfield 234, 3) := by decide +kernel
theorem dX11_weed_140 : decode cX11_weed 140 = .ok (.iload_n 3, 1) := by decide +kernel
theorem dX11_weed_141 : decode cX11_weed 141 = .ok (.iload 4, 2) := by decide +kernel
theorem dX11_weed_143 : decode cX11_weed 143 = .ok (.isub, 1) := by decide +kernel
theorem dX11_weed_144 : decode cX11_weed 144 = .ok (.ireturn, 1) := by decide +kernel
theorem dX11_swap_0 : decode cX11_swap 0 = .ok (.iload_n 1, 1) := by decide +kernel
theorem dX11_swap_1 : decode cX11_swap 1 = .ok (.tableswitch 57 0 2 #[27, 37, 47], 27) := by decide +kernel
theorem dX11_swap_28 : decode cX11_swap 28 = .ok (.aload_n 0, 1) := by decide +kernel
theorem dX11_swap_29 : decode cX11_swap 29 = .ok (.getfield 14, 3) := by decide +kernel
theorem dX11_swap_32 : decode cX11_swap 32 = .ok (.invokevirtual 246, 3) := by decide +kernel
theorem dX11_swap_35 : decode cX11_swap 35 = .ok (.goto 26, 3) := by decide +kernel
theorem dX11_swap_38 : decode cX11_swap 38 = .ok (.aload_n 0, 1) := by decide +kernel
theorem dX11_swap_39 : decode cX11_swap 39 = .ok (.getfield 14, 3) := by decide +kernel
theorem dX11_swap_42 : decode cX11_swap 42 = .ok (.invokevirtual 249, 3) := by decide +kernel
theorem dX11_swap_45 : decode cX11_swap 45 = .ok (.goto 16, 3) := by decide +kernel
theorem dX11_swap_48 : decode cX11_swap 48 = .ok (.aload_n 0, 1) := by decide +kernel
theorem dX11_swap_49 : decode cX11_swap 49 = .ok (.getfield 14, 3) := by decide +kernel
theorem dX11_swap_52 : decode cX11_swap 52 = .ok (.invokevirtual 240, 3) := by decide +kernel
theorem dX11_swap_55 : decode cX11_swap 55 = .ok (.goto 6, 3) := by decide +kernel
theorem dX11_swap_58 : decode cX11_swap 58 = .ok (.bipush (-2), 2) := by decide +kernel
theorem dX11_swap_60 : decode cX11_swap 60 = .ok (.ireturn, 1) := by decide +kernel
theorem dX11_swap_61 : decode cX11_swap 61 = .ok (.aload_n 0, 1) := by decide +kernel
theorem dX11_swap_62 : decode cX11_swap 62 = .ok (.getfield 14, 3) := by decide +kernel
theorem dX11_swap_65 : decode cX11_swap 65 = .ok (.getfield 234, 3) := by decide +kernel
theorem dX11_swap_68 : decode cX11_swap 68 = .ok (.ireturn, 1) := by decide +kernel
theorem dX11_factor_0 : decode cX11_factor 0 = .ok (.iload_n 1, 1) := by decide +kernel
theorem dX11_factor_1 : decode cX11_factor 1 = .ok (.ifCond .lt 8, 3) := by decide +kernel
theorem dX11_factor_4 : decode cX11_factor 4 = .ok (.iload_n 1, 1) := by decide +kernel
theorem dX11_factor_5 : decode cX11_factor 5 = .ok (.iconst 3, 1) := by decide +kernel
theorem dX11_factor_6 : decode cX11_factor 6 = .ok (.if_icmp .le 5, 3) := by decide +kernel
theorem dX11_factor_9 : decode cX11_factor 9 = .ok (.iconst (-1), 1) := by decide +kernel
theorem dX11_factor_10 : decode cX11_factor 10 = .ok (.ireturn, 1) := by decide +kernel
theorem dX11_factor_11 : decode cX11_factor 11 = .ok (.iload_n 1, 1) := by decide +kernel
theorem dX11_factor_12 : decode cX11_factor 12 = .ok (.ifCond .eq 8, 3) := by decide +kernel
theorem dX11_factor_15 : decode cX11_factor 15 = .ok (.iload_n 1, 1) := by decide +kernel
theorem dX11_factor_16 : decode cX11_factor 16 = .ok (.iconst 1, 1) := by decide +kernel
theorem dX11_factor_17 : decode cX11_factor 17 = .ok (.if_icmp .ne 7, 3) := by decide +kernel
theorem dX11_factor_20 : decode cX11_factor 20 = .ok (.iconst 1, 1) := by decide +kernel
theorem dX11_factor_21 : decode cX11_factor 21 = .ok (.goto 4, 3) := by decide +kernel
theorem dX11_factor_24 : decode cX11_factor 24 = .ok (.iconst 0, 1) := by decide +kernel
theorem dX11_factor_25 : decode cX11_factor 25 = .ok (.istore 4, 2) := by decide +kernel
theorem dX11_factor_27 : decode cX11_factor 27 = .ok (.iload_n 1, 1) := by decide +kernel
theorem dX11_factor_28 : decode cX11_factor 28 = .ok (.iconst 1, 1) := by decide +kernel
theorem dX11_factor_29 : decode cX11_factor 29 = .ok (.if_icmp .eq 8, 3) := by decide +kernel
theorem dX11_factor_32 : decode cX11_factor 32 = .ok (.iload_n 1, 1) := by decide +kernel
theorem dX11_factor_33 : decode cX11_factor 33 = .ok (.iconst 3, 1) := by decide +kernel
theorem dX11_factor_34 : decode cX11_factor 34 = .ok (.if_icmp .ne 7, 3) := by decide +kernel
theorem dX11_factor_37 : decode cX11_factor 37 = .ok (.iconst 1, 1) := by decide +kernel
theorem dX11_factor_38 : decode cX11_factor 38 = .ok (.goto 4, 3) := by decide +kernel
theorem dX11_factor_41 : decode cX11_factor 41 = .ok (.iconst 0, 1) := by decide +kernel
theorem dX11_factor_42 : decode cX11_factor 42 = .ok (.istore 5, 2) := by decide +kernel
theorem dX11_factor_44 : decode cX11_factor 44 = .ok (.iload 4, 2) := by decide +kernel
theorem dX11_factor_46 : decode cX11_factor 46 = .ok (.ifCond .eq 12, 3) := by decide +kernel
theorem dX11_factor_49 : decode cX11_factor 49 = .ok (.iload_n 2, 1) := by decide +kernel
theorem dX11_factor_50 : decode cX11_factor 50 = .ok (.bipush 20, 2) := by decide +kernel
theorem dX11_factor_52 : decode cX11_factor 52 = .ok (.invokestatic 86, 3) := by decide +kernel
theorem dX11_factor_55 : decode cX11_factor 55 = .ok (.ifCond .eq 17, 3) := by decide +kernel
theorem dX11_factor_58 : decode cX11_factor 58 = .ok (.iload 5, 2) := by decide +kernel
theorem dX11_factor_60 : decode cX11_factor 60 = .ok (.ifCond .eq 15, 3) := by decide +kernel
theorem dX11_factor_63 : decode cX11_factor 63 = .ok (.iload_n 3, 1) := by decide +kernel
theorem dX11_factor_64 : decode cX11_factor 64 = .ok (.bipush 20, 2) := by decide +kernel
theorem dX11_factor_66 : decode cX11_factor 66 = .ok (.invokestatic 86, 3) := by decide +kernel
theorem dX11_factor_69 : decode cX11_factor 69 = .ok (.ifCond .ne 6, 3) := by decide +kernel
theorem dX11_factor_72 : decode cX11_factor 72 = .ok (.bipush (-2), 2) := by decide +kernel
theorem dX11_factor_74 : decode cX11_factor 74 = .ok (.ireturn, 1) := by decide +kernel
theorem dX11_factor_75 : decode cX11_factor 75 = .ok (.aload_n 0, 1) := by decide +kernel
theorem dX11_factor_76 : decode cX11_factor 76 = .ok (.getfield 14, 3) := by decide +kernel
theorem dX11_factor_79 : decode cX11_factor 79 = .ok (.getfield 252, 3) := by decide +kernel
theorem dX11_factor_82 : decode cX11_factor 82 = .ok (.bipush 6, 2) := by decide +kernel
theorem dX11_factor_84 : decode cX11_factor 84 = .ok (.if_icmp .lt 6, 3) := by decide +kernel
theorem dX11_factor_87 : decode cX11_factor 87 = .ok (.bipush (-4), 2) := by decide +kernel
theorem dX11_factor_89 : decode cX11_factor 89 = .ok (.ireturn, 1) := by decide +kernel
theorem dX11_factor_90 : decode cX11_factor 90 = .ok (.aload_n 0, 1) := by decide +kernel
theorem dX11_factor_91 : decode cX11_factor 91 = .ok (.getfield 14, 3) := by decide +kernel
theorem dX11_factor_94 : decode cX11_factor 94 = .ok (.getfield 255, 3) := by decide +kernel
theorem dX11_factor_97 : decode cX11_factor 97 = .ok (.aload_n 0, 1) := by decide +kernel
theorem dX11_factor_98 : decode cX11_factor 98 = .ok (.getfield 14, 3) := by decide +kernel
theorem dX11_factor_101 : decode cX11_factor 101 = .ok (.getfield 252, 3) := by decide +kernel
theorem dX11_factor_104 : decode cX11_factor 104 = .ok (.aaload, 1) := by decide +kernel
theorem dX11_factor_105 : decode cX11_factor 105 = .ok (.iload_n 1, 1) := by decide +kernel
theorem dX11_factor_106 : decode cX11_factor 106 = .ok (.iload 4, 2) := by decide +kernel
theorem dX11_factor_108 : decode cX11_factor 108 = .ok (.ifCond .eq 7, 3) := by decide +kernel
theorem dX11_factor_111 : decode cX11_factor 111 = .ok (.iload_n 2, 1) := by decide +kernel
theorem dX11_factor_112 : decode cX11_factor 112 = .ok (.goto 4, 3) := by decide +kernel
theorem dX11_factor_115 : decode cX11_factor 115 = .ok (.iconst 0, 1) := by decide +kernel
theorem dX11_factor_116 : decode cX11_factor 116 = .ok (.iload 5, 2) := by decide +kernel
theorem dX11_factor_118 : decode cX11_factor 118 = .ok (.ifCond .eq 7, 3) := by decide +kernel
theorem dX11_factor_121 : decode cX11_factor 121 = .ok (.iload_n 3, 1) := by decide +kernel
theorem dX11_factor_122 : decode cX11_factor 122 = .ok (.goto 4, 3) := by decide +kernel
theorem dX11_factor_125 : decode cX11_factor 125 = .ok (.iconst 0, 1) := by decide +kernel
theorem dX11_factor_126 : decode cX11_factor 126 = .ok (.invokevirtual 259, 3) := by decide +kernel
theorem dX11_factor_129 : decode cX11_factor 129 = .ok (.aload_n 0, 1) := by decide +kernel
theorem dX11_factor_130 : decode cX11_factor 130 = .ok (.getfield 14, 3) := by decide +kernel
theorem dX11_factor_133 : decode cX11_factor 133 = .ok (.dup, 1) := by decide +kernel
theorem dX11_factor_134 : decode cX11_factor 134 = .ok (.getfield 252, 3) := by decide +kernel
theorem dX11_factor_137 : decode cX11_factor 137 = .ok (.iconst 1, 1) := by decide +kernel
theorem dX11_factor_138 : decode cX11_factor 138 = .ok (.iadd, 1) := by decide +kernel
theorem dX11_factor_139 : decode cX11_factor 139 = .ok (.putfield 252, 3) := by decide +kernel
theorem dX11_factor_142 : decode cX11_factor 142 = .ok (.aload_n 0, 1) := by decide +kernel
theorem dX11_factor_143 : decode cX11_factor 143 = .ok (.getfield 14, 3) := by decide +kernel
theorem dX11_factor_146 : decode cX11_factor 146 = .ok (.getfield 252, 3) := by decide +kernel
theorem dX11_factor_149 : decode cX11_factor 149 = .ok (.ireturn, 1) := by decide +kernel
theorem dX11_factored_0 : decode cX11_factored 0 = .ok (.iload_n 1, 1) := by decide +kernel
theorem dX11_factored_1 : decode cX11_factored 1 = .ok (.ifCond .lt 24, 3) := by decide +kernel
theorem dX11_factored_4 : decode cX11_factored 4 = .ok (.iload_n 1, 1) := by decide +kernel
theorem dX11_factored_5 : decode cX11_factored 5 = .ok (.aload_n 0, 1) := by decide +kernel
theorem dX11_factored_6 : decode cX11_factored 6 = .ok (.getfield 14, 3) := by decide +kernel
theorem dX11_factored_9 : decode cX11_factored 9 = .ok (.getfield 252, 3) := by decide +kernel
theorem dX11_factored_12 : decode cX11_factored 12 = .ok (.if_icmp .ge 13, 3) := by decide +kernel
theorem dX11_factored_15 : decode cX11_factored 15 = .ok (.iload_n 2, 1) := by decide +kernel
theorem dX11_factored_16 : decode cX11_factored 16 = .ok (.ifCond .lt 9, 3) := by decide +kernel
theorem dX11_factored_19 : decode cX11_factored 19 = .ok (.iload_n 2, 1) := by decide +kernel
theorem dX11_factored_20 : decode cX11_factored 20 = .ok (.bipush 7, 2) := by decide +kernel
theorem dX11_factored_22 : decode cX11_factored 22 = .ok (.if_icmp .le 5, 3) := by decide +kernel
theorem dX11_factored_25 : decode cX11_factored 25 = .ok (.iconst (-1), 1) := by decide +kernel
theorem dX11_factored_26 : decode cX11_factored 26 = .ok (.ireturn, 1) := by decide +kernel
theorem dX11_factored_27 : decode cX11_factored 27 = .ok (.aload_n 0, 1) := by decide +kernel
theorem dX11_factored_28 : decode cX11_factored 28 = .ok (.getfield 14, 3) := by decide +kernel
theorem dX11_factored_31 : decode cX11_factored 31 = .ok (.getfield 255, 3) := by decide +kernel
theorem dX11_factored_34 : decode cX11_factored 34 = .ok (.iload_n 1, 1) := by decide +kernel
theorem dX11_factored_35 : decode cX11_factored 35 = .ok (.aaload, 1) := by decide +kernel
theorem dX11_factored_36 : decode cX11_factored 36 = .ok (.astore_n 3, 1) := by decide +kernel
theorem dX11_factored_37 : decode cX11_factored 37 = .ok (.iload_n 2, 1) := by decide +kernel
theorem dX11_factored_38 : decode cX11_factored 38 = .ok (.tableswitch 95 0 6 #[42, 47, 55, 75, 80, 85, 90], 42) := by decide +kernel
theorem dX11_factored_80 : decode cX11_factored 80 = .ok (.aload_n 3, 1) := by decide +kernel
theorem dX11_factored_81 : decode cX11_factored 81 = .ok (.getfield 265, 3) := by decide +kernel
theorem dX11_factored_84 : decode cX11_factored 84 = .ok (.ireturn, 1) := by decide +kernel
theorem dX11_factored_85 : decode cX11_factored 85 = .ok (.aload_n 3, 1) := by decide +kernel
theorem dX11_factored_86 : decode cX11_factored 86 = .ok (.getfield 268, 3) := by decide +kernel
theorem dX11_factored_89 : decode cX11_factored 89 = .ok (.bipush 100, 2) := by decide +kernel
theorem dX11_factored_91 : decode cX11_factored 91 = .ok (.iadd, 1) := by decide +kernel
theorem dX11_factored_92 : decode cX11_factored 92 = .ok (.ireturn, 1) := by decide +kernel
theorem dX11_factored_93 : decode cX11_factored 93 = .ok (.aload_n 3, 1) := by decide +kernel
theorem dX11_factored_94 : decode cX11_factored 94 = .ok (.invokevirtual 271, 3) := by decide +kernel
theorem dX11_factored_97 : decode cX11_factored 97 = .ok (.iconst 1, 1) := by decide +kernel
theorem dX11_factored_98 : decode cX11_factored 98 = .ok (.if_icmp .ne 7, 3) := by decide +kernel
theorem dX11_factored_101 : decode cX11_factored 101 = .ok (.iconst (-1), 1) := by decide +kernel
theorem dX11_factored_102 : decode cX11_factored 102 = .ok (.goto 10, 3) := by decide +kernel
theorem dX11_factored_105 : decode cX11_factored 105 = .ok (.aload_n 3, 1) := by decide +kernel
theorem dX11_factored_106 : decode cX11_factored 106 = .ok (.getfield 273, 3) := by decide +kernel
theorem dX11_factored_109 : decode cX11_factored 109 = .ok (.bipush 100, 2) := by decide +kernel
theorem dX11_factored_111 : decode cX11_factored 111 = .ok (.iadd, 1) := by decide +kernel
theorem dX11_factored_112 : decode cX11_factored 112 = .ok (.ireturn, 1) := by decide +kernel
theorem dX11_factored_113 : decode cX11_factored 113 = .ok (.aload_n 3, 1) := by decide +kernel
theorem dX11_factored_114 : decode cX11_factored 114 = .ok (.invokevirtual 271, 3) := by decide +kernel
theorem dX11_factored_117 : decode cX11_factored 117 = .ok (.ireturn, 1) := by decide +kernel
theorem dX11_factored_118 : decode cX11_factored 118 = .ok (.aload_n 3, 1) := by decide +kernel
theorem dX11_factored_119 : decode cX11_factored 119 = .ok (.invokevirtual 276, 3) := by decide +kernel
theorem dX11_factored_122 : decode cX11_factored 122 = .ok (.ireturn, 1) := by decide +kernel
theorem dX11_factored_123 : decode cX11_factored 123 = .ok (.aload_n 3, 1) := by decide +kernel
theorem dX11_factored_124 : decode cX11_factored 124 = .ok (.invokevirtual 277, 3) := by decide +kernel
theorem dX11_factored_127 : decode cX11_factored 127 = .ok (.ireturn, 1) := by decide +kernel
theorem dX11_factored_128 : decode cX11_factored 128 = .ok (.aload_n 3, 1) := by decide +kernel
theorem dX11_factored_129 : decode cX11_factored 129 = .ok (.invokevirtual 278, 3) := by decide +kernel
theorem dX11_factored_132 : decode cX11_factored 132 = .ok (.ireturn, 1) := by decide +kernel
theorem dX11_factored_133 : decode cX11_factored 133 = .ok (.aload_n 3, 1) := by decide +kernel
theorem dX11_factored_134 : decode cX11_factored 134 = .ok (.aload_n 0, 1) := by decide +kernel
theorem dX11_factored_135 : decode cX11_factored 135 = .ok (.invokevirtual 98, 3) := by decide +kernel
theorem dX11_factored_138 : decode cX11_factored 138 = .ok (.invokevirtual 279, 3) := by decide +kernel
theorem dX11_factored_141 : decode cX11_factored 141 = .ok (.ireturn, 1) := by decide +kernel
theorem dX11_unfactor_0 : decode cX11_unfactor 0 = .ok (.iload_n 1, 1) := by decide +kernel
theorem dX11_unfactor_1 : decode cX11_unfactor 1 = .ok (.ifCond .lt 14, 3) := by decide +kernel
theorem dX11_unfactor_4 : decode cX11_unfactor 4 = .ok (.iload_n 1, 1) := by decide +kernel
theorem dX11_unfactor_5 : decode cX11_unfactor 5 = .ok (.aload_n 0, 1) := by decide +kernel
theorem dX11_unfactor_6 : decode cX11_unfactor 6 = .ok (.getfield 14, 3) := by decide +kernel
theorem dX11_unfactor_9 : decode cX11_unfactor 9 = .ok (.getfield 252, 3) := by decide +kernel
theorem dX11_unfactor_12 : decode cX11_unfactor 12 = .ok (.if_icmp .lt 5, 3) := by decide +kernel
theorem dX11_unfactor_15 : decode cX11_unfactor 15 = .ok (.iconst (-1), 1) := by decide +kernel
theorem dX11_unfactor_16 : decode cX11_unfactor 16 = .ok (.ireturn, 1) := by decide +kernel
theorem dX11_unfactor_17 : decode cX11_unfactor 17 = .ok (.aload_n 0, 1) := by decide +kernel
theorem dX11_unfactor_18 : decode cX11_unfactor 18 = .ok (.getfield 14, 3) := by decide +kernel
theorem dX11_unfactor_21 : decode cX11_unfactor 21 = .ok (.iload_n 1, 1) := by decide +kernel
theorem dX11_unfactor_22 : decode cX11_unfactor 22 = .ok (.invokevirtual 282, 3) := by decide +kernel
theorem dX11_unfactor_25 : decode cX11_unfactor 25 = .ok (.aload_n 0, 1) := by decide +kernel
theorem dX11_unfactor_26 : decode cX11_unfactor 26 = .ok (.getfield 14, 3) := by decide +kernel
theorem dX11_unfactor_29 : decode cX11_unfactor 29 = .ok (.getfield 252, 3) := by decide +kernel
theorem dX11_unfactor_32 : decode cX11_unfactor 32 = .ok (.ireturn, 1) := by decide +kernel
theorem dX11_known_0 : decode cX11_known 0 = .ok (.iload_n 1, 1) := by decide +kernel
theorem dX11_known_1 : decode cX11_known 1 = .ok (.tableswitch 63 0 3 #[31, 39, 47, 55], 31) := by decide +kernel
theorem dX11_known_32 : decode cX11_known 32 = .ok (.aload_n 0, 1) := by decide +kernel
theorem dX11_known_33 : decode cX11_known 33 = .ok (.getfield 14, 3) := by decide +kernel
theorem dX11_known_36 : decode cX11_known 36 = .ok (.invokevirtual 285, 3) := by decide +kernel
theorem dX11_known_39 : decode cX11_known 39 = .ok (.ireturn, 1) := by decide +kernel
theorem dX11_known_40 : decode cX11_known 40 = .ok (.aload_n 0, 1) := by decide +kernel
theorem dX11_known_41 : decode cX11_known 41 = .ok (.getfield 14, 3) := by decide +kernel
theorem dX11_known_44 : decode cX11_known 44 = .ok (.invokevirtual 288, 3) := by decide +kernel
end
section
theorem dX11_known_47 : decode cX11_known 47 = .ok (.ireturn, 1) := by decide +kernel
theorem dX11_known_48 : decode cX11_known 48 = .ok (.aload_n 0, 1) := by decide +kernel
theorem dX11_known_49 : decode cX11_known 49 = .ok (.getfield 14, 3) := by decide +kernel
theorem dX11_known_52 : decode cX11_known 52 = .ok (.invokevirtual 291, 3) := by decide +kernel
theorem dX11_known_55 : decode cX11_known 55 = .ok (.ireturn, 1) := by decide +kernel
theorem dX11_known_56 : decode cX11_known 56 = .ok (.aload_n 0, 1) := by decide +kernel
theorem dX11_known_57 : decode cX11_known 57 = .ok (.getfield 14, 3) := by decide +kernel
theorem dX11_known_60 : decode cX11_known 60 = .ok (.invokevirtual 294, 3) := by decide +kernel
theorem dX11_known_63 : decode cX11_known 63 = .ok (.ireturn, 1) := by decide +kernel
theorem dX11_known_64 : decode cX11_known 64 = .ok (.bipush (-2), 2) := by decide +kernel
theorem dX11_known_66 : decode cX11_known 66 = .ok (.ireturn, 1) := by decide +kernel
theorem dX11_multiply_0 : decode cX11_multiply 0 = .ok (.aload_n 0, 1) := by decide +kernel
theorem dX11_multiply_1 : decode cX11_multiply 1 = .ok (.getfield 14, 3) := by decide +kernel
theorem dX11_multiply_4 : decode cX11_multiply 4 = .ok (.invokevirtual 294, 3) := by decide +kernel
theorem dX11_multiply_7 : decode cX11_multiply 7 = .ok (.istore_n 1, 1) := by decide +kernel
theorem dX11_multiply_8 : decode cX11_multiply 8 = .ok (.iload_n 1, 1) := by decide +kernel
theorem dX11_multiply_9 : decode cX11_multiply 9 = .ok (.bipush 7, 2) := by decide +kernel
theorem dX11_multiply_11 : decode cX11_multiply 11 = .ok (.if_icmp .lt 6, 3) := by decide +kernel
theorem dX11_multiply_14 : decode cX11_multiply 14 = .ok (.bipush (-3), 2) := by decide +kernel
theorem dX11_multiply_16 : decode cX11_multiply 16 = .ok (.ireturn, 1) := by decide +kernel
theorem dX11_multiply_17 : decode cX11_multiply 17 = .ok (.aload_n 0, 1) := by decide +kernel
theorem dX11_multiply_18 : decode cX11_multiply 18 = .ok (.getfield 14, 3) := by decide +kernel
theorem dX11_multiply_21 : decode cX11_multiply 21 = .ok (.aload_n 0, 1) := by decide +kernel
theorem dX11_multiply_22 : decode cX11_multiply 22 = .ok (.getfield 74, 3) := by decide +kernel
theorem dX11_multiply_25 : decode cX11_multiply 25 = .ok (.invokevirtual 297, 3) := by decide +kernel
theorem dX11_multiply_28 : decode cX11_multiply 28 = .ok (.iconst 0, 1) := by decide +kernel
theorem dX11_multiply_29 : decode cX11_multiply 29 = .ok (.istore_n 2, 1) := by decide +kernel
theorem dX11_multiply_30 : decode cX11_multiply 30 = .ok (.iload_n 2, 1) := by decide +kernel
theorem dX11_multiply_31 : decode cX11_multiply 31 = .ok (.bipush 7, 2) := by decide +kernel
theorem dX11_multiply_33 : decode cX11_multiply 33 = .ok (.if_icmp .ge 38, 3) := by decide +kernel
theorem dX11_multiply_36 : decode cX11_multiply 36 = .ok (.aload_n 0, 1) := by decide +kernel
theorem dX11_multiply_37 : decode cX11_multiply 37 = .ok (.getfield 74, 3) := by decide +kernel
theorem dX11_multiply_40 : decode cX11_multiply 40 = .ok (.iload_n 2, 1) := by decide +kernel
theorem dX11_multiply_41 : decode cX11_multiply 41 = .ok (.laload, 1) := by decide +kernel
theorem dX11_multiply_42 : decode cX11_multiply 42 = .ok (.ldc2_w 301, 3) := by decide +kernel
theorem dX11_multiply_45 : decode cX11_multiply 45 = .ok (.lcmp, 1) := by decide +kernel
theorem dX11_multiply_46 : decode cX11_multiply 46 = .ok (.ifCond .lt 16, 3) := by decide +kernel
theorem dX11_multiply_49 : decode cX11_multiply 49 = .ok (.aload_n 0, 1) := by decide +kernel
theorem dX11_multiply_50 : decode cX11_multiply 50 = .ok (.getfield 74, 3) := by decide +kernel
theorem dX11_multiply_53 : decode cX11_multiply 53 = .ok (.iload_n 2, 1) := by decide +kernel
theorem dX11_multiply_54 : decode cX11_multiply 54 = .ok (.laload, 1) := by decide +kernel
theorem dX11_multiply_55 : decode cX11_multiply 55 = .ok (.ldc2_w 303, 3) := by decide +kernel
theorem dX11_multiply_58 : decode cX11_multiply 58 = .ok (.lcmp, 1) := by decide +kernel
theorem dX11_multiply_59 : decode cX11_multiply 59 = .ok (.ifCond .le 6, 3) := by decide +kernel
theorem dX11_multiply_62 : decode cX11_multiply 62 = .ok (.bipush (-7), 2) := by decide +kernel
theorem dX11_multiply_64 : decode cX11_multiply 64 = .ok (.ireturn, 1) := by decide +kernel
theorem dX11_multiply_65 : decode cX11_multiply 65 = .ok (.iinc 2 1, 3) := by decide +kernel
theorem dX11_multiply_68 : decode cX11_multiply 68 = .ok (.goto (-38), 3) := by decide +kernel
theorem dX11_multiply_71 : decode cX11_multiply 71 = .ok (.aload_n 0, 1) := by decide +kernel
theorem dX11_multiply_72 : decode cX11_multiply 72 = .ok (.getfield 74, 3) := by decide +kernel
theorem dX11_multiply_75 : decode cX11_multiply 75 = .ok (.iconst 0, 1) := by decide +kernel
theorem dX11_multiply_76 : decode cX11_multiply 76 = .ok (.aload_n 0, 1) := by decide +kernel
theorem dX11_multiply_77 : decode cX11_multiply 77 = .ok (.getfield 14, 3) := by decide +kernel
theorem dX11_multiply_80 : decode cX11_multiply 80 = .ok (.getfield 78, 3) := by decide +kernel
theorem dX11_multiply_83 : decode cX11_multiply 83 = .ok (.iconst 0, 1) := by decide +kernel
theorem dX11_multiply_84 : decode cX11_multiply 84 = .ok (.bipush 7, 2) := by decide +kernel
theorem dX11_multiply_86 : decode cX11_multiply 86 = .ok (.invokestatic 119, 3) := by decide +kernel
theorem dX11_multiply_89 : decode cX11_multiply 89 = .ok (.aload_n 0, 1) := by decide +kernel
theorem dX11_multiply_90 : decode cX11_multiply 90 = .ok (.invokevirtual 95, 3) := by decide +kernel
theorem dX11_multiply_93 : decode cX11_multiply 93 = .ok (.iload_n 1, 1) := by decide +kernel
theorem dX11_multiply_94 : decode cX11_multiply 94 = .ok (.ireturn, 1) := by decide +kernel
theorem dX11_rights_0 : decode cX11_rights 0 = .ok (.iload_n 1, 1) := by decide +kernel
theorem dX11_rights_1 : decode cX11_rights 1 = .ok (.bipush 100, 2) := by decide +kernel
theorem dX11_rights_3 : decode cX11_rights 3 = .ok (.invokestatic 86, 3) := by decide +kernel
theorem dX11_rights_6 : decode cX11_rights 6 = .ok (.ifCond .ne 6, 3) := by decide +kernel
theorem dX11_rights_9 : decode cX11_rights 9 = .ok (.bipush (-2), 2) := by decide +kernel
theorem dX11_rights_11 : decode cX11_rights 11 = .ok (.ireturn, 1) := by decide +kernel
theorem dX11_rights_12 : decode cX11_rights 12 = .ok (.aload_n 0, 1) := by decide +kernel
theorem dX11_rights_13 : decode cX11_rights 13 = .ok (.getfield 70, 3) := by decide +kernel
theorem dX11_rights_16 : decode cX11_rights 16 = .ok (.aload_n 0, 1) := by decide +kernel
theorem dX11_rights_17 : decode cX11_rights 17 = .ok (.getfield 14, 3) := by decide +kernel
theorem dX11_rights_20 : decode cX11_rights 20 = .ok (.invokevirtual 305, 3) := by decide +kernel
theorem dX11_rights_23 : decode cX11_rights 23 = .ok (.aload_n 0, 1) := by decide +kernel
theorem dX11_rights_24 : decode cX11_rights 24 = .ok (.getfield 70, 3) := by decide +kernel
theorem dX11_rights_27 : decode cX11_rights 27 = .ok (.iload_n 1, 1) := by decide +kernel
theorem dX11_rights_28 : decode cX11_rights 28 = .ok (.invokevirtual 309, 3) := by decide +kernel
theorem dX11_rights_31 : decode cX11_rights 31 = .ok (.ireturn, 1) := by decide +kernel
theorem dX11_jumps_0 : decode cX11_jumps 0 = .ok (.aload_n 0, 1) := by decide +kernel
theorem dX11_jumps_1 : decode cX11_jumps 1 = .ok (.getfield 70, 3) := by decide +kernel
theorem dX11_jumps_4 : decode cX11_jumps 4 = .ok (.aload_n 0, 1) := by decide +kernel
theorem dX11_jumps_5 : decode cX11_jumps 5 = .ok (.getfield 14, 3) := by decide +kernel
theorem dX11_jumps_8 : decode cX11_jumps 8 = .ok (.invokevirtual 305, 3) := by decide +kernel
theorem dX11_jumps_11 : decode cX11_jumps 11 = .ok (.aload_n 0, 1) := by decide +kernel
theorem dX11_jumps_12 : decode cX11_jumps 12 = .ok (.getfield 70, 3) := by decide +kernel
theorem dX11_jumps_15 : decode cX11_jumps 15 = .ok (.invokevirtual 312, 3) := by decide +kernel
theorem dX11_jumps_18 : decode cX11_jumps 18 = .ok (.ireturn, 1) := by decide +kernel
theorem dX11_jump_0 : decode cX11_jump 0 = .ok (.aload_n 0, 1) := by decide +kernel
theorem dX11_jump_1 : decode cX11_jump 1 = .ok (.getfield 70, 3) := by decide +kernel
theorem dX11_jump_4 : decode cX11_jump 4 = .ok (.aload_n 0, 1) := by decide +kernel
theorem dX11_jump_5 : decode cX11_jump 5 = .ok (.getfield 14, 3) := by decide +kernel
theorem dX11_jump_8 : decode cX11_jump 8 = .ok (.invokevirtual 305, 3) := by decide +kernel
theorem dX11_jump_11 : decode cX11_jump 11 = .ok (.iload_n 1, 1) := by decide +kernel
theorem dX11_jump_12 : decode cX11_jump 12 = .ok (.ifCond .lt 14, 3) := by decide +kernel
theorem dX11_jump_15 : decode cX11_jump 15 = .ok (.iload_n 1, 1) := by decide +kernel
theorem dX11_jump_16 : decode cX11_jump 16 = .ok (.aload_n 0, 1) := by decide +kernel
theorem dX11_jump_17 : decode cX11_jump 17 = .ok (.getfield 70, 3) := by decide +kernel
theorem dX11_jump_20 : decode cX11_jump 20 = .ok (.invokevirtual 312, 3) := by decide +kernel
theorem dX11_jump_23 : decode cX11_jump 23 = .ok (.if_icmp .lt 5, 3) := by decide +kernel
theorem dX11_jump_26 : decode cX11_jump 26 = .ok (.iconst (-1), 1) := by decide +kernel
theorem dX11_jump_27 : decode cX11_jump 27 = .ok (.ireturn, 1) := by decide +kernel
theorem dX11_jump_28 : decode cX11_jump 28 = .ok (.aload_n 0, 1) := by decide +kernel
theorem dX11_jump_29 : decode cX11_jump 29 = .ok (.getfield 70, 3) := by decide +kernel
theorem dX11_jump_32 : decode cX11_jump 32 = .ok (.iload_n 1, 1) := by decide +kernel
theorem dX11_jump_33 : decode cX11_jump 33 = .ok (.invokevirtual 315, 3) := by decide +kernel
theorem dX11_jump_36 : decode cX11_jump 36 = .ok (.sipush 1000, 3) := by decide +kernel
theorem dX11_jump_39 : decode cX11_jump 39 = .ok (.iadd, 1) := by decide +kernel
theorem dX11_jump_40 : decode cX11_jump 40 = .ok (.ireturn, 1) := by decide +kernel
theorem dX11_best_0 : decode cX11_best 0 = .ok (.aload_n 0, 1) := by decide +kernel
theorem dX11_best_1 : decode cX11_best 1 = .ok (.getfield 70, 3) := by decide +kernel
theorem dX11_best_4 : decode cX11_best 4 = .ok (.aload_n 0, 1) := by decide +kernel
theorem dX11_best_5 : decode cX11_best 5 = .ok (.getfield 14, 3) := by decide +kernel
theorem dX11_best_8 : decode cX11_best 8 = .ok (.invokevirtual 305, 3) := by decide +kernel
theorem dX11_best_11 : decode cX11_best 11 = .ok (.aload_n 0, 1) := by decide +kernel
theorem dX11_best_12 : decode cX11_best 12 = .ok (.getfield 70, 3) := by decide +kernel
theorem dX11_best_15 : decode cX11_best 15 = .ok (.invokevirtual 318, 3) := by decide +kernel
theorem dX11_best_18 : decode cX11_best 18 = .ok (.ifCond .eq 17, 3) := by decide +kernel
theorem dX11_best_21 : decode cX11_best 21 = .ok (.aload_n 0, 1) := by decide +kernel
theorem dX11_best_22 : decode cX11_best 22 = .ok (.getfield 70, 3) := by decide +kernel
theorem dX11_best_25 : decode cX11_best 25 = .ok (.invokevirtual 322, 3) := by decide +kernel
theorem dX11_best_28 : decode cX11_best 28 = .ok (.sipush 1000, 3) := by decide +kernel
theorem dX11_best_31 : decode cX11_best 31 = .ok (.iadd, 1) := by decide +kernel
theorem dX11_best_32 : decode cX11_best 32 = .ok (.goto 4, 3) := by decide +kernel
theorem dX11_best_35 : decode cX11_best 35 = .ok (.iconst (-1), 1) := by decide +kernel
theorem dX11_best_36 : decode cX11_best 36 = .ok (.ireturn, 1) := by decide +kernel
theorem dX11_tray_0 : decode cX11_tray 0 = .ok (.iload_n 1, 1) := by decide +kernel
theorem dX11_tray_1 : decode cX11_tray 1 = .ok (.invokestatic 325, 3) := by decide +kernel
theorem dX11_tray_4 : decode cX11_tray 4 = .ok (.ifCond .ne 5, 3) := by decide +kernel
theorem dX11_tray_7 : decode cX11_tray 7 = .ok (.iconst (-1), 1) := by decide +kernel
theorem dX11_tray_8 : decode cX11_tray 8 = .ok (.ireturn, 1) := by decide +kernel
theorem dX11_tray_9 : decode cX11_tray 9 = .ok (.iload_n 2, 1) := by decide +kernel
theorem dX11_tray_10 : decode cX11_tray 10 = .ok (.iconst (-1), 1) := by decide +kernel
theorem dX11_tray_11 : decode cX11_tray 11 = .ok (.if_icmp .lt 19, 3) := by decide +kernel
theorem dX11_tray_14 : decode cX11_tray 14 = .ok (.iload_n 2, 1) := by decide +kernel
theorem dX11_tray_15 : decode cX11_tray 15 = .ok (.iconst 1, 1) := by decide +kernel
theorem dX11_tray_16 : decode cX11_tray 16 = .ok (.if_icmp .gt 14, 3) := by decide +kernel
theorem dX11_tray_19 : decode cX11_tray 19 = .ok (.iload_n 2, 1) := by decide +kernel
theorem dX11_tray_20 : decode cX11_tray 20 = .ok (.iconst (-1), 1) := by decide +kernel
theorem dX11_tray_21 : decode cX11_tray 21 = .ok (.if_icmp .eq 12, 3) := by decide +kernel
theorem dX11_tray_24 : decode cX11_tray 24 = .ok (.iload_n 3, 1) := by decide +kernel
theorem dX11_tray_25 : decode cX11_tray 25 = .ok (.bipush 30, 2) := by decide +kernel
theorem dX11_tray_27 : decode cX11_tray 27 = .ok (.if_icmp .le 6, 3) := by decide +kernel
theorem dX11_tray_30 : decode cX11_tray 30 = .ok (.bipush (-2), 2) := by decide +kernel
theorem dX11_tray_32 : decode cX11_tray 32 = .ok (.ireturn, 1) := by decide +kernel
theorem dX11_tray_33 : decode cX11_tray 33 = .ok (.iload_n 2, 1) := by decide +kernel
theorem dX11_tray_34 : decode cX11_tray 34 = .ok (.iconst (-1), 1) := by decide +kernel
theorem dX11_tray_35 : decode cX11_tray 35 = .ok (.if_icmp .eq 10, 3) := by decide +kernel
theorem dX11_tray_38 : decode cX11_tray 38 = .ok (.iload_n 3, 1) := by decide +kernel
theorem dX11_tray_39 : decode cX11_tray 39 = .ok (.ifCond .ge 6, 3) := by decide +kernel
theorem dX11_tray_42 : decode cX11_tray 42 = .ok (.bipush (-14), 2) := by decide +kernel
theorem dX11_tray_44 : decode cX11_tray 44 = .ok (.ireturn, 1) := by decide +kernel
theorem dX11_tray_45 : decode cX11_tray 45 = .ok (.aload_n 0, 1) := by decide +kernel
theorem dX11_tray_46 : decode cX11_tray 46 = .ok (.getfield 30, 3) := by decide +kernel
theorem dX11_tray_49 : decode cX11_tray 49 = .ok (.iload_n 1, 1) := by decide +kernel
theorem dX11_tray_50 : decode cX11_tray 50 = .ok (.aaload, 1) := by decide +kernel
theorem dX11_tray_51 : decode cX11_tray 51 = .ok (.iload_n 2, 1) := by decide +kernel
theorem dX11_tray_52 : decode cX11_tray 52 = .ok (.iload_n 2, 1) := by decide +kernel
theorem dX11_tray_53 : decode cX11_tray 53 = .ok (.iconst (-1), 1) := by decide +kernel
theorem dX11_tray_54 : decode cX11_tray 54 = .ok (.if_icmp .ne 7, 3) := by decide +kernel
theorem dX11_tray_57 : decode cX11_tray 57 = .ok (.iconst 0, 1) := by decide +kernel
theorem dX11_tray_58 : decode cX11_tray 58 = .ok (.goto 4, 3) := by decide +kernel
theorem dX11_tray_61 : decode cX11_tray 61 = .ok (.iload_n 3, 1) := by decide +kernel
theorem dX11_tray_62 : decode cX11_tray 62 = .ok (.invokevirtual 328, 3) := by decide +kernel
theorem dX11_tray_65 : decode cX11_tray 65 = .ok (.iconst 1, 1) := by decide +kernel
theorem dX11_tray_66 : decode cX11_tray 66 = .ok (.ireturn, 1) := by decide +kernel
theorem dX11_put_0 : decode cX11_put 0 = .ok (.iload_n 1, 1) := by decide +kernel
theorem dX11_put_1 : decode cX11_put 1 = .ok (.invokestatic 325, 3) := by decide +kernel
theorem dX11_put_4 : decode cX11_put 4 = .ok (.ifCond .ne 5, 3) := by decide +kernel
theorem dX11_put_7 : decode cX11_put 7 = .ok (.iconst (-1), 1) := by decide +kernel
theorem dX11_put_8 : decode cX11_put 8 = .ok (.ireturn, 1) := by decide +kernel
theorem dX11_put_9 : decode cX11_put 9 = .ok (.aload_n 0, 1) := by decide +kernel
theorem dX11_put_10 : decode cX11_put 10 = .ok (.getfield 30, 3) := by decide +kernel
theorem dX11_put_13 : decode cX11_put 13 = .ok (.iload_n 1, 1) := by decide +kernel
theorem dX11_put_14 : decode cX11_put 14 = .ok (.aaload, 1) := by decide +kernel
theorem dX11_put_15 : decode cX11_put 15 = .ok (.astore 5, 2) := by decide +kernel
theorem dX11_put_17 : decode cX11_put 17 = .ok (.aload 5, 2) := by decide +kernel
theorem dX11_put_19 : decode cX11_put 19 = .ok (.invokevirtual 331, 3) := by decide +kernel
theorem dX11_put_22 : decode cX11_put 22 = .ok (.ifCond .eq 6, 3) := by decide +kernel
theorem dX11_put_25 : decode cX11_put 25 = .ok (.bipush (-11), 2) := by decide +kernel
theorem dX11_put_27 : decode cX11_put 27 = .ok (.ireturn, 1) := by decide +kernel
theorem dX11_put_28 : decode cX11_put 28 = .ok (.iload_n 2, 1) := by decide +kernel
theorem dX11_put_29 : decode cX11_put 29 = .ok (.ifCond .lt 12, 3) := by decide +kernel
theorem dX11_put_32 : decode cX11_put 32 = .ok (.iload_n 2, 1) := by decide +kernel
theorem dX11_put_33 : decode cX11_put 33 = .ok (.aload 5, 2) := by decide +kernel
theorem dX11_put_35 : decode cX11_put 35 = .ok (.getfield 334, 3) := by decide +kernel
theorem dX11_put_38 : decode cX11_put 38 = .ok (.if_icmp .lt 6, 3) := by decide +kernel
theorem dX11_put_41 : decode cX11_put 41 = .ok (.bipush (-13), 2) := by decide +kernel
theorem dX11_put_43 : decode cX11_put 43 = .ok (.ireturn, 1) := by decide +kernel
theorem dX11_put_44 : decode cX11_put 44 = .ok (.aload 5, 2) := by decide +kernel
theorem dX11_put_46 : decode cX11_put 46 = .ok (.iload_n 2, 1) := by decide +kernel
theorem dX11_put_47 : decode cX11_put 47 = .ok (.lload_n 3, 1) := by decide +kernel
theorem dX11_put_48 : decode cX11_put 48 = .ok (.invokevirtual 335, 3) := by decide +kernel
theorem dX11_put_51 : decode cX11_put 51 = .ok (.iconst 1, 1) := by decide +kernel
theorem dX11_put_52 : decode cX11_put 52 = .ok (.ireturn, 1) := by decide +kernel
theorem dX11_get_0 : decode cX11_get 0 = .ok (.iload_n 1, 1) := by decide +kernel
theorem dX11_get_1 : decode cX11_get 1 = .ok (.invokestatic 325, 3) := by decide +kernel
theorem dX11_get_4 : decode cX11_get 4 = .ok (.ifCond .ne 7, 3) := by decide +kernel
theorem dX11_get_7 : decode cX11_get 7 = .ok (.ldc2_w 90, 3) := by decide +kernel
theorem dX11_get_10 : decode cX11_get 10 = .ok (.lreturn, 1) := by decide +kernel
theorem dX11_get_11 : decode cX11_get 11 = .ok (.aload_n 0, 1) := by decide +kernel
theorem dX11_get_12 : decode cX11_get 12 = .ok (.getfield 30, 3) := by decide +kernel
theorem dX11_get_15 : decode cX11_get 15 = .ok (.iload_n 1, 1) := by decide +kernel
theorem dX11_get_16 : decode cX11_get 16 = .ok (.aaload, 1) := by decide +kernel
theorem dX11_get_17 : decode cX11_get 17 = .ok (.astore_n 3, 1) := by decide +kernel
theorem dX11_get_18 : decode cX11_get 18 = .ok (.aload_n 3, 1) := by decide +kernel
theorem dX11_get_19 : decode cX11_get 19 = .ok (.invokevirtual 331, 3) := by decide +kernel
theorem dX11_get_22 : decode cX11_get 22 = .ok (.ifCond .ne 15, 3) := by decide +kernel
theorem dX11_get_25 : decode cX11_get 25 = .ok (.iload_n 2, 1) := by decide +kernel
theorem dX11_get_26 : decode cX11_get 26 = .ok (.ifCond .lt 11, 3) := by decide +kernel
theorem dX11_get_29 : decode cX11_get 29 = .ok (.iload_n 2, 1) := by decide +kernel
theorem dX11_get_30 : decode cX11_get 30 = .ok (.aload_n 3, 1) := by decide +kernel
theorem dX11_get_31 : decode cX11_get 31 = .ok (.getfield 334, 3) := by decide +kernel
theorem dX11_get_34 : decode cX11_get 34 = .ok (.if_icmp .lt 9, 3) := by decide +kernel
theorem dX11_get_37 : decode cX11_get 37 = .ok (.ldc2_w 90, 3) := by decide +kernel
theorem dX11_get_40 : decode cX11_get 40 = .ok (.goto 9, 3) := by decide +kernel
theorem dX11_get_43 : decode cX11_get 43 = .ok (.aload_n 3, 1) := by decide +kernel
theorem dX11_get_44 : decode cX11_get 44 = .ok (.getfield 339, 3) := by decide +kernel
theorem dX11_get_47 : decode cX11_get 47 = .ok (.iload_n 2, 1) := by decide +kernel
theorem dX11_get_48 : decode cX11_get 48 = .ok (.laload, 1) := by decide +kernel
theorem dX11_get_49 : decode cX11_get 49 = .ok (.lreturn, 1) := by decide +kernel
theorem dX11_fill_0 : decode cX11_fill 0 = .ok (.aload_n 0, 1) := by decide +kernel
theorem dX11_fill_1 : decode cX11_fill 1 = .ok (.iload_n 1, 1) := by decide +kernel
theorem dX11_fill_2 : decode cX11_fill 2 = .ok (.iload_n 2, 1) := by decide +kernel
theorem dX11_fill_3 : decode cX11_fill 3 = .ok (.iload_n 3, 1) := by decide +kernel
theorem dX11_fill_4 : decode cX11_fill 4 = .ok (.invokevirtual 342, 3) := by decide +kernel
theorem dX11_fill_7 : decode cX11_fill 7 = .ok (.istore 4, 2) := by decide +kernel
theorem dX11_fill_9 : decode cX11_fill 9 = .ok (.iload 4, 2) := by decide +kernel
theorem dX11_fill_11 : decode cX11_fill 11 = .ok (.ifCond .eq 6, 3) := by decide +kernel
theorem dX11_fill_14 : decode cX11_fill 14 = .ok (.iload 4, 2) := by decide +kernel
theorem dX11_fill_16 : decode cX11_fill 16 = .ok (.ireturn, 1) := by decide +kernel
theorem dX11_fill_17 : decode cX11_fill 17 = .ok (.aload_n 0, 1) := by decide +kernel
theorem dX11_fill_18 : decode cX11_fill 18 = .ok (.getfield 30, 3) := by decide +kernel
theorem dX11_fill_21 : decode cX11_fill 21 = .ok (.iload_n 1, 1) := by decide +kernel
theorem dX11_fill_22 : decode cX11_fill 22 = .ok (.aaload, 1) := by decide +kernel
theorem dX11_fill_23 : decode cX11_fill 23 = .ok (.astore 5, 2) := by decide +kernel
theorem dX11_fill_25 : decode cX11_fill 25 = .ok (.aload 5, 2) := by decide +kernel
theorem dX11_fill_27 : decode cX11_fill 27 = .ok (.getfield 334, 3) := by decide +kernel
theorem dX11_fill_30 : decode cX11_fill 30 = .ok (.aload_n 0, 1) := by decide +kernel
theorem dX11_fill_31 : decode cX11_fill 31 = .ok (.getfield 37, 3) := by decide +kernel
theorem dX11_fill_34 : decode cX11_fill 34 = .ok (.iload_n 3, 1) := by decide +kernel
theorem dX11_fill_35 : decode cX11_fill 35 = .ok (.invokevirtual 159, 3) := by decide +kernel
theorem dX11_fill_38 : decode cX11_fill 38 = .ok (.invokestatic 346, 3) := by decide +kernel
theorem dX11_fill_41 : decode cX11_fill 41 = .ok (.istore 6, 2) := by decide +kernel
theorem dX11_fill_43 : decode cX11_fill 43 = .ok (.iconst 0, 1) := by decide +kernel
theorem dX11_fill_44 : decode cX11_fill 44 = .ok (.istore 7, 2) := by decide +kernel
theorem dX11_fill_46 : decode cX11_fill 46 = .ok (.iload 7, 2) := by decide +kernel
theorem dX11_fill_48 : decode cX11_fill 48 = .ok (.iload 6, 2) := by decide +kernel
theorem dX11_fill_50 : decode cX11_fill 50 = .ok (.if_icmp .ge 26, 3) := by decide +kernel
theorem dX11_fill_53 : decode cX11_fill 53 = .ok (.aload 5, 2) := by decide +kernel
theorem dX11_fill_55 : decode cX11_fill 55 = .ok (.iload 7, 2) := by decide +kernel
theorem dX11_fill_57 : decode cX11_fill 57 = .ok (.aload_n 0, 1) := by decide +kernel
theorem dX11_fill_58 : decode cX11_fill 58 = .ok (.getfield 37, 3) := by decide +kernel
theorem dX11_fill_61 : decode cX11_fill 61 = .ok (.iload_n 3, 1) := by decide +kernel
theorem dX11_fill_62 : decode cX11_fill 62 = .ok (.iload 7, 2) := by decide +kernel
theorem dX11_fill_64 : decode cX11_fill 64 = .ok (.invokevirtual 163, 3) := by decide +kernel
theorem dX11_fill_67 : decode cX11_fill 67 = .ok (.invokevirtual 335, 3) := by decide +kernel
theorem dX11_fill_70 : decode cX11_fill 70 = .ok (.iinc 7 1, 3) := by decide +kernel
theorem dX11_fill_73 : decode cX11_fill 73 = .ok (.goto (-27), 3) := by decide +kernel
theorem dX11_fill_76 : decode cX11_fill 76 = .ok (.iload 6, 2) := by decide +kernel
theorem dX11_fill_78 : decode cX11_fill 78 = .ok (.ireturn, 1) := by decide +kernel
theorem dX11_judge_0 : decode cX11_judge 0 = .ok (.aload_n 0, 1) := by decide +kernel
theorem dX11_judge_1 : decode cX11_judge 1 = .ok (.iload_n 1, 1) := by decide +kernel
theorem dX11_judge_2 : decode cX11_judge 2 = .ok (.iload_n 2, 1) := by decide +kernel
theorem dX11_judge_3 : decode cX11_judge 3 = .ok (.iload_n 3, 1) := by decide +kernel
theorem dX11_judge_4 : decode cX11_judge 4 = .ok (.invokevirtual 342, 3) := by decide +kernel
theorem dX11_judge_7 : decode cX11_judge 7 = .ok (.istore 4, 2) := by decide +kernel
theorem dX11_judge_9 : decode cX11_judge 9 = .ok (.iload 4, 2) := by decide +kernel
theorem dX11_judge_11 : decode cX11_judge 11 = .ok (.ifCond .eq 6, 3) := by decide +kernel
theorem dX11_judge_14 : decode cX11_judge 14 = .ok (.iload 4, 2) := by decide +kernel
theorem dX11_judge_16 : decode cX11_judge 16 = .ok (.ireturn, 1) := by decide +kernel
theorem dX11_judge_17 : decode cX11_judge 17 = .ok (.aload_n 0, 1) := by decide +kernel
theorem dX11_judge_18 : decode cX11_judge 18 = .ok (.getfield 30, 3) := by decide +kernel
theorem dX11_judge_21 : decode cX11_judge 21 = .ok (.iload_n 1, 1) := by decide +kernel
theorem dX11_judge_22 : decode cX11_judge 22 = .ok (.aaload, 1) := by decide +kernel
theorem dX11_judge_23 : decode cX11_judge 23 = .ok (.astore 5, 2) := by decide +kernel
theorem dX11_judge_25 : decode cX11_judge 25 = .ok (.iconst 0, 1) := by decide +kernel
theorem dX11_judge_26 : decode cX11_judge 26 = .ok (.istore 6, 2) := by decide +kernel
theorem dX11_judge_28 : decode cX11_judge 28 = .ok (.iload 6, 2) := by decide +kernel
theorem dX11_judge_30 : decode cX11_judge 30 = .ok (.aload 5, 2) := by decide +kernel
theorem dX11_judge_32 : decode cX11_judge 32 = .ok (.getfield 334, 3) := by decide +kernel
theorem dX11_judge_35 : decode cX11_judge 35 = .ok (.if_icmp .ge 47, 3) := by decide +kernel
theorem dX11_judge_38 : decode cX11_judge 38 = .ok (.iload 6, 2) := by decide +kernel
theorem dX11_judge_40 : decode cX11_judge 40 = .ok (.aload_n 0, 1) := by decide +kernel
theorem dX11_judge_41 : decode cX11_judge 41 = .ok (.getfield 37, 3) := by decide +kernel
theorem dX11_judge_44 : decode cX11_judge 44 = .ok (.iload_n 3, 1) := by decide +kernel
theorem dX11_judge_45 : decode cX11_judge 45 = .ok (.invokevirtual 159, 3) := by decide +kernel
theorem dX11_judge_48 : decode cX11_judge 48 = .ok (.if_icmp .ge 25, 3) := by decide +kernel
theorem dX11_judge_51 : decode cX11_judge 51 = .ok (.aload 5, 2) := by decide +kernel
theorem dX11_judge_53 : decode cX11_judge 53 = .ok (.getfield 339, 3) := by decide +kernel
theorem dX11_judge_56 : decode cX11_judge 56 = .ok (.iload 6, 2) := by decide +kernel
theorem dX11_judge_58 : decode cX11_judge 58 = .ok (.laload, 1) := by decide +kernel
theorem dX11_judge_59 : decode cX11_judge 59 = .ok (.aload_n 0, 1) := by decide +kernel
theorem dX11_judge_60 : decode cX11_judge 60 = .ok (.getfield 37, 3) := by decide +kernel
theorem dX11_judge_63 : decode cX11_judge 63 = .ok (.iload_n 3, 1) := by decide +kernel
theorem dX11_judge_64 : decode cX11_judge 64 = .ok (.iload 6, 2) := by decide +kernel
theorem dX11_judge_66 : decode cX11_judge 66 = .ok (.invokevirtual 163, 3) := by decide +kernel
theorem dX11_judge_69 : decode cX11_judge 69 = .ok (.lcmp, 1) := by decide +kernel
theorem dX11_judge_70 : decode cX11_judge 70 = .ok (.ifCond .eq 6, 3) := by decide +kernel
theorem dX11_judge_73 : decode cX11_judge 73 = .ok (.iload 6, 2) := by decide +kernel
theorem dX11_judge_75 : decode cX11_judge 75 = .ok (.ireturn, 1) := by decide +kernel
theorem dX11_judge_76 : decode cX11_judge 76 = .ok (.iinc 6 1, 3) := by decide +kernel
theorem dX11_judge_79 : decode cX11_judge 79 = .ok (.goto (-51), 3) := by decide +kernel
theorem dX11_judge_82 : decode cX11_judge 82 = .ok (.iconst (-1), 1) := by decide +kernel
theorem dX11_judge_83 : decode cX11_judge 83 = .ok (.ireturn, 1) := by decide +kernel
theorem dX11_copy_0 : decode cX11_copy 0 = .ok (.iload_n 1, 1) := by decide +kernel
theorem dX11_copy_1 : decode cX11_copy 1 = .ok (.invokestatic 325, 3) := by decide +kernel
theorem dX11_copy_4 : decode cX11_copy 4 = .ok (.ifCond .eq 10, 3) := by decide +kernel
theorem dX11_copy_7 : decode cX11_copy 7 = .ok (.iload_n 3, 1) := by decide +kernel
theorem dX11_copy_8 : decode cX11_copy 8 = .ok (.invokestatic 325, 3) := by decide +kernel
theorem dX11_copy_11 : decode cX11_copy 11 = .ok (.ifCond .ne 5, 3) := by decide +kernel
theorem dX11_copy_14 : decode cX11_copy 14 = .ok (.iconst (-1), 1) := by decide +kernel
theorem dX11_copy_15 : decode cX11_copy 15 = .ok (.ireturn, 1) := by decide +kernel
theorem dX11_copy_16 : decode cX11_copy 16 = .ok (.aload_n 0, 1) := by decide +kernel
theorem dX11_copy_17 : decode cX11_copy 17 = .ok (.getfield 30, 3) := by decide +kernel
theorem dX11_copy_20 : decode cX11_copy 20 = .ok (.iload_n 1, 1) := by decide +kernel
theorem dX11_copy_21 : decode cX11_copy 21 = .ok (.aaload, 1) := by decide +kernel
theorem dX11_copy_22 : decode cX11_copy 22 = .ok (.astore 6, 2) := by decide +kernel
theorem dX11_copy_24 : decode cX11_copy 24 = .ok (.aload_n 0, 1) := by decide +kernel
theorem dX11_copy_25 : decode cX11_copy 25 = .ok (.getfield 30, 3) := by decide +kernel
theorem dX11_copy_28 : decode cX11_copy 28 = .ok (.iload_n 3, 1) := by decide +kernel
theorem dX11_copy_29 : decode cX11_copy 29 = .ok (.aaload, 1) := by decide +kernel
theorem dX11_copy_30 : decode cX11_copy 30 = .ok (.astore 7, 2) := by decide +kernel
theorem dX11_copy_32 : decode cX11_copy 32 = .ok (.aload 6, 2) := by decide +kernel
theorem dX11_copy_34 : decode cX11_copy 34 = .ok (.invokevirtual 331, 3) := by decide +kernel
theorem dX11_copy_37 : decode cX11_copy 37 = .ok (.ifCond .ne 11, 3) := by decide +kernel
theorem dX11_copy_40 : decode cX11_copy 40 = .ok (.aload 7, 2) := by decide +kernel
theorem dX11_copy_42 : decode cX11_copy 42 = .ok (.invokevirtual 331, 3) := by decide +kernel
theorem dX11_copy_45 : decode cX11_copy 45 = .ok (.ifCond .eq 6, 3) := by decide +kernel
theorem dX11_copy_48 : decode cX11_copy 48 = .ok (.bipush (-11), 2) := by decide +kernel
theorem dX11_copy_50 : decode cX11_copy 50 = .ok (.ireturn, 1) := by decide +kernel
theorem dX11_copy_51 : decode cX11_copy 51 = .ok (.aload 6, 2) := by decide +kernel
theorem dX11_copy_53 : decode cX11_copy 53 = .ok (.getfield 351, 3) := by decide +kernel
theorem dX11_copy_56 : decode cX11_copy 56 = .ok (.aload 7, 2) := by decide +kernel
theorem dX11_copy_58 : decode cX11_copy 58 = .ok (.getfield 351, 3) := by decide +kernel
theorem dX11_copy_61 : decode cX11_copy 61 = .ok (.if_icmp .eq 6, 3) := by decide +kernel
theorem dX11_copy_64 : decode cX11_copy 64 = .ok (.bipush (-12), 2) := by decide +kernel
theorem dX11_copy_66 : decode cX11_copy 66 = .ok (.ireturn, 1) := by decide +kernel
theorem dX11_copy_67 : decode cX11_copy 67 = .ok (.aload 6, 2) := by decide +kernel
theorem dX11_copy_69 : decode cX11_copy 69 = .ok (.iload_n 2, 1) := by decide +kernel
theorem dX11_copy_70 : decode cX11_copy 70 = .ok (.iload 5, 2) := by decide +kernel
theorem dX11_copy_72 : decode cX11_copy 72 = .ok (.invokevirtual 354, 3) := by decide +kernel
theorem dX11_copy_75 : decode cX11_copy 75 = .ok (.ifCond .eq 15, 3) := by decide +kernel
theorem dX11_copy_78 : decode cX11_copy 78 = .ok (.aload 7, 2) := by decide +kernel
theorem dX11_copy_80 : decode cX11_copy 80 = .ok (.iload 4, 2) := by decide +kernel
theorem dX11_copy_82 : decode cX11_copy 82 = .ok (.iload 5, 2) := by decide +kernel
theorem dX11_copy_84 : decode cX11_copy 84 = .ok (.invokevirtual 354, 3) := by decide +kernel
theorem dX11_copy_87 : decode cX11_copy 87 = .ok (.ifCond .ne 6, 3) := by decide +kernel
theorem dX11_copy_90 : decode cX11_copy 90 = .ok (.bipush (-13), 2) := by decide +kernel
theorem dX11_copy_92 : decode cX11_copy 92 = .ok (.ireturn, 1) := by decide +kernel
theorem dX11_copy_93 : decode cX11_copy 93 = .ok (.aload 6, 2) := by decide +kernel
theorem dX11_copy_95 : decode cX11_copy 95 = .ok (.getfield 339, 3) := by decide +kernel
theorem dX11_copy_98 : decode cX11_copy 98 = .ok (.iload_n 2, 1) := by decide +kernel
theorem dX11_copy_99 : decode cX11_copy 99 = .ok (.aload 7, 2) := by decide +kernel
theorem dX11_copy_101 : decode cX11_copy 101 = .ok (.getfield 339, 3) := by decide +kernel
theorem dX11_copy_104 : decode cX11_copy 104 = .ok (.iload 4, 2) := by decide +kernel
theorem dX11_copy_106 : decode cX11_copy 106 = .ok (.iload 5, 2) := by decide +kernel
theorem dX11_copy_108 : decode cX11_copy 108 = .ok (.invokestatic 119, 3) := by decide +kernel
theorem dX11_copy_111 : decode cX11_copy 111 = .ok (.iload 5, 2) := by decide +kernel
theorem dX11_copy_113 : decode cX11_copy 113 = .ok (.ireturn, 1) := by decide +kernel
theorem dX11_count_0 : decode cX11_count 0 = .ok (.iload_n 1, 1) := by decide +kernel
theorem dX11_count_1 : decode cX11_count 1 = .ok (.tableswitch 98 0 5 #[39, 47, 55, 60, 78, 90], 39) := by decide +kernel
theorem dX11_count_40 : decode cX11_count 40 = .ok (.aload_n 0, 1) := by decide +kernel
theorem dX11_count_41 : decode cX11_count 41 = .ok (.getfield 14, 3) := by decide +kernel
theorem dX11_count_44 : decode cX11_count 44 = .ok (.getfield 234, 3) := by decide +kernel
theorem dX11_count_47 : decode cX11_count 47 = .ok (.ireturn, 1) := by decide +kernel
theorem dX11_count_48 : decode cX11_count 48 = .ok (.aload_n 0, 1) := by decide +kernel
theorem dX11_count_49 : decode cX11_count 49 = .ok (.getfield 24, 3) := by decide +kernel
theorem dX11_count_52 : decode cX11_count 52 = .ok (.getfield 106, 3) := by decide +kernel
theorem dX11_count_55 : decode cX11_count 55 = .ok (.ireturn, 1) := by decide +kernel
theorem dX11_count_56 : decode cX11_count 56 = .ok (.aload_n 0, 1) := by decide +kernel
theorem dX11_count_57 : decode cX11_count 57 = .ok (.getfield 126, 3) := by decide +kernel
theorem dX11_count_60 : decode cX11_count 60 = .ok (.ireturn, 1) := by decide +kernel
theorem dX11_count_61 : decode cX11_count 61 = .ok (.aload_n 0, 1) := by decide +kernel
theorem dX11_count_62 : decode cX11_count 62 = .ok (.iconst 0, 1) := by decide +kernel
theorem dX11_count_63 : decode cX11_count 63 = .ok (.invokevirtual 200, 3) := by decide +kernel
theorem dX11_count_66 : decode cX11_count 66 = .ok (.getfield 204, 3) := by decide +kernel
theorem dX11_count_69 : decode cX11_count 69 = .ok (.aload_n 0, 1) := by decide +kernel
theorem dX11_count_70 : decode cX11_count 70 = .ok (.iconst 1, 1) := by decide +kernel
theorem dX11_count_71 : decode cX11_count 71 = .ok (.invokevirtual 200, 3) := by decide +kernel
theorem dX11_count_74 : decode cX11_count 74 = .ok (.getfield 204, 3) := by decide +kernel
theorem dX11_count_77 : decode cX11_count 77 = .ok (.iadd, 1) := by decide +kernel
theorem dX11_count_78 : decode cX11_count 78 = .ok (.ireturn, 1) := by decide +kernel
theorem dX11_count_79 : decode cX11_count 79 = .ok (.aload_n 0, 1) := by decide +kernel
theorem dX11_count_80 : decode cX11_count 80 = .ok (.getfield 14, 3) := by decide +kernel
theorem dX11_count_83 : decode cX11_count 83 = .ok (.getfield 102, 3) := by decide +kernel
theorem dX11_count_86 : decode cX11_count 86 = .ok (.sipush 1000, 3) := by decide +kernel
theorem dX11_count_89 : decode cX11_count 89 = .ok (.iadd, 1) := by decide +kernel
theorem dX11_count_90 : decode cX11_count 90 = .ok (.ireturn, 1) := by decide +kernel
theorem dX11_count_91 : decode cX11_count 91 = .ok (.aload_n 0, 1) := by decide +kernel
theorem dX11_count_92 : decode cX11_count 92 = .ok (.getfield 14, 3) := by decide +kernel
theorem dX11_count_95 : decode cX11_count 95 = .ok (.getfield 252, 3) := by decide +kernel
theorem dX11_count_98 : decode cX11_count 98 = .ok (.ireturn, 1) := by decide +kernel
theorem dX11_count_99 : decode cX11_count 99 = .ok (.bipush (-2), 2) := by decide +kernel
theorem dX11_count_101 : decode cX11_count 101 = .ok (.ireturn, 1) := by decide +kernel
theorem dX11_image_0 : decode cX11_image 0 = .ok (.aload_n 0, 1) := by decide +kernel
theorem dX11_image_1 : decode cX11_image 1 = .ok (.getfield 18, 3) := by decide +kernel
theorem dX11_image_4 : decode cX11_image 4 = .ok (.aload_n 0, 1) := by decide +kernel
theorem dX11_image_5 : decode cX11_image 5 = .ok (.getfield 14, 3) := by decide +kernel
theorem dX11_image_8 : decode cX11_image 8 = .ok (.invokevirtual 357, 3) := by decide +kernel
theorem dX11_image_11 : decode cX11_image 11 = .ok (.aload_n 0, 1) := by decide +kernel
theorem dX11_image_12 : decode cX11_image 12 = .ok (.iconst 1, 1) := by decide +kernel
theorem dX11_image_13 : decode cX11_image 13 = .ok (.putfield 360, 3) := by decide +kernel
theorem dX11_image_16 : decode cX11_image 16 = .ok (.aload_n 0, 1) := by decide +kernel
theorem dX11_image_17 : decode cX11_image 17 = .ok (.getfield 14, 3) := by decide +kernel
theorem dX11_image_20 : decode cX11_image 20 = .ok (.getfield 234, 3) := by decide +kernel
theorem dX11_image_23 : decode cX11_image 23 = .ok (.ireturn, 1) := by decide +kernel
theorem dX11_undo_0 : decode cX11_undo 0 = .ok (.aload_n 0, 1) := by decide +kernel
theorem dX11_undo_1 : decode cX11_undo 1 = .ok (.getfield 360, 3) := by decide +kernel
theorem dX11_undo_4 : decode cX11_undo 4 = .ok (.ifCond .ne 6, 3) := by decide +kernel
theorem dX11_undo_7 : decode cX11_undo 7 = .ok (.bipush (-3), 2) := by decide +kernel
theorem dX11_undo_9 : decode cX11_undo 9 = .ok (.ireturn, 1) := by decide +kernel
theorem dX11_undo_10 : decode cX11_undo 10 = .ok (.aload_n 0, 1) := by decide +kernel
theorem dX11_undo_11 : decode cX11_undo 11 = .ok (.getfield 14, 3) := by decide +kernel
theorem dX11_undo_14 : decode cX11_undo 14 = .ok (.aload_n 0, 1) := by decide +kernel
theorem dX11_undo_15 : decode cX11_undo 15 = .ok (.getfield 18, 3) := by decide +kernel
theorem dX11_undo_18 : decode cX11_undo 18 = .ok (.invokevirtual 357, 3) := by decide +kernel
theorem dX11_undo_21 : decode cX11_undo 21 = .ok (.aload_n 0, 1) := by decide +kernel
theorem dX11_undo_22 : decode cX11_undo 22 = .ok (.invokevirtual 95, 3) := by decide +kernel
theorem dX11_undo_25 : decode cX11_undo 25 = .ok (.aload_n 0, 1) := by decide +kernel
theorem dX11_undo_26 : decode cX11_undo 26 = .ok (.getfield 14, 3) := by decide +kernel
theorem dX11_undo_29 : decode cX11_undo 29 = .ok (.getfield 234, 3) := by decide +kernel
theorem dX11_undo_32 : decode cX11_undo 32 = .ok (.ireturn, 1) := by decide +kernel
theorem dX11_isWithin_0 : decode cX11_isWithin 0 = .ok (.iload_n 0, 1) := by decide +kernel
theorem dX11_isWithin_1 : decode cX11_isWithin 1 = .ok (.iload_n 1, 1) := by decide +kernel
theorem dX11_isWithin_2 : decode cX11_isWithin 2 = .ok (.ineg, 1) := by decide +kernel
theorem dX11_isWithin_3 : decode cX11_isWithin 3 = .ok (.if_icmp .lt 12, 3) := by decide +kernel
theorem dX11_isWithin_6 : decode cX11_isWithin 6 = .ok (.iload_n 0, 1) := by decide +kernel
theorem dX11_isWithin_7 : decode cX11_isWithin 7 = .ok (.iload_n 1, 1) := by decide +kernel
theorem dX11_isWithin_8 : decode cX11_isWithin 8 = .ok (.if_icmp .gt 7, 3) := by decide +kernel
theorem dX11_isWithin_11 : decode cX11_isWithin 11 = .ok (.iconst 1, 1) := by decide +kernel
theorem dX11_isWithin_12 : decode cX11_isWithin 12 = .ok (.goto 4, 3) := by decide +kernel
theorem dX11_isWithin_15 : decode cX11_isWithin 15 = .ok (.iconst 0, 1) := by decide +kernel
theorem dX11_isWithin_16 : decode cX11_isWithin 16 = .ok (.ireturn, 1) := by decide +kernel
theorem dX11_isPower_0 : decode cX11_isPower 0 = .ok (.iload_n 0, 1) := by decide +kernel
theorem dX11_isPower_1 : decode cX11_isPower 1 = .ok (.ifCond .lt 13, 3) := by decide +kernel
theorem dX11_isPower_4 : decode cX11_isPower 4 = .ok (.iload_n 0, 1) := by decide +kernel
theorem dX11_isPower_5 : decode cX11_isPower 5 = .ok (.bipush 7, 2) := by decide +kernel
theorem dX11_isPower_7 : decode cX11_isPower 7 = .ok (.if_icmp .ge 7, 3) := by decide +kernel
theorem dX11_isPower_10 : decode cX11_isPower 10 = .ok (.iconst 1, 1) := by decide +kernel
theorem dX11_isPower_11 : decode cX11_isPower 11 = .ok (.goto 4, 3) := by decide +kernel
theorem dX11_isPower_14 : decode cX11_isPower 14 = .ok (.iconst 0, 1) := by decide +kernel
theorem dX11_isPower_15 : decode cX11_isPower 15 = .ok (.ireturn, 1) := by decide +kernel
theorem dX11_isKind_0 : decode cX11_isKind 0 = .ok (.iload_n 0, 1) := by decide +kernel
theorem dX11_isKind_1 : decode cX11_isKind 1 = .ok (.ifCond .eq 8, 3) := by decide +kernel
theorem dX11_isKind_4 : decode cX11_isKind 4 = .ok (.iload_n 0, 1) := by decide +kernel
theorem dX11_isKind_5 : decode cX11_isKind 5 = .ok (.iconst 1, 1) := by decide +kernel
theorem dX11_isKind_6 : decode cX11_isKind 6 = .ok (.if_icmp .ne 7, 3) := by decide +kernel
theorem dX11_isKind_9 : decode cX11_isKind 9 = .ok (.iconst 1, 1) := by decide +kernel
theorem dX11_isKind_10 : decode cX11_isKind 10 = .ok (.goto 4, 3) := by decide +kernel
theorem dX11_isKind_13 : decode cX11_isKind 13 = .ok (.iconst 0, 1) := by decide +kernel
theorem dX11_isKind_14 : decode cX11_isKind 14 = .ok (.ireturn, 1) := by decide +kernel
theorem dX11_isTray_0 : decode cX11_isTray 0 = .ok (.iload_n 0, 1) := by decide +kernel
theorem dX11_isTray_1 : decode cX11_isTray 1 = .ok (.ifCond .lt 12, 3) := by decide +kernel
theorem dX11_isTray_4 : decode cX11_isTray 4 = .ok (.iload_n 0, 1) := by decide +kernel
theorem dX11_isTray_5 : decode cX11_isTray 5 = .ok (.iconst 4, 1) := by decide +kernel
theorem dX11_isTray_6 : decode cX11_isTray 6 = .ok (.if_icmp .ge 7, 3) := by decide +kernel
theorem dX11_isTray_9 : decode cX11_isTray 9 = .ok (.iconst 1, 1) := by decide +kernel
theorem dX11_isTray_10 : decode cX11_isTray 10 = .ok (.goto 4, 3) := by decide +kernel
theorem dX11_isTray_13 : decode cX11_isTray 13 = .ok (.iconst 0, 1) := by decide +kernel
theorem dX11_isTray_14 : decode cX11_isTray 14 = .ok (.ireturn, 1) := by decide +kernel
theorem dX11_isForm_0 : decode cX11_isForm 0 = .ok (.iload_n 0, 1) := by decide +kernel
theorem dX11_isForm_1 : decode cX11_isForm 1 = .ok (.ifCond .lt 12, 3) := by decide +kernel
theorem dX11_isForm_4 : decode cX11_isForm 4 = .ok (.iload_n 0, 1) := by decide +kernel
theorem dX11_isForm_5 : decode cX11_isForm 5 = .ok (.iconst 3, 1) := by decide +kernel
theorem dX11_isForm_6 : decode cX11_isForm 6 = .ok (.if_icmp .gt 7, 3) := by decide +kernel
theorem dX11_isForm_9 : decode cX11_isForm 9 = .ok (.iconst 1, 1) := by decide +kernel
theorem dX11_isForm_10 : decode cX11_isForm 10 = .ok (.goto 4, 3) := by decide +kernel
theorem dX11_isForm_13 : decode cX11_isForm 13 = .ok (.iconst 0, 1) := by decide +kernel
theorem dX11_isForm_14 : decode cX11_isForm 14 = .ok (.istore_n 1, 1) := by decide +kernel
theorem dX11_isForm_15 : decode cX11_isForm 15 = .ok (.iload_n 1, 1) := by decide +kernel
theorem dX11_isForm_16 : decode cX11_isForm 16 = .ok (.ifCond .ne 15, 3) := by decide +kernel
theorem dX11_isForm_19 : decode cX11_isForm 19 = .ok (.iload_n 0, 1) := by decide +kernel
theorem dX11_isForm_20 : decode cX11_isForm 20 = .ok (.bipush 10, 2) := by decide +kernel
theorem dX11_isForm_22 : decode cX11_isForm 22 = .ok (.if_icmp .lt 13, 3) := by decide +kernel
theorem dX11_isForm_25 : decode cX11_isForm 25 = .ok (.iload_n 0, 1) := by decide +kernel
theorem dX11_isForm_26 : decode cX11_isForm 26 = .ok (.bipush 50, 2) := by decide +kernel
theorem dX11_isForm_28 : decode cX11_isForm 28 = .ok (.if_icmp .gt 7, 3) := by decide +kernel
theorem dX11_isForm_31 : decode cX11_isForm 31 = .ok (.iconst 1, 1) := by decide +kernel
theorem dX11_isForm_32 : decode cX11_isForm 32 = .ok (.goto 4, 3) := by decide +kernel
theorem dX11_isForm_35 : decode cX11_isForm 35 = .ok (.iconst 0, 1) := by decide +kernel
theorem dX11_isForm_36 : decode cX11_isForm 36 = .ok (.ireturn, 1) := by decide +kernel
theorem dX11_currentC_0 : decode cX11_currentC 0 = .ok (.aload_n 0, 1) := by decide +kernel
theorem dX11_currentC_1 : decode cX11_currentC 1 = .ok (.getfield 14, 3) := by decide +kernel
theorem dX11_currentC_4 : decode cX11_currentC 4 = .ok (.getfield 78, 3) := by decide +kernel
theorem dX11_currentC_7 : decode cX11_currentC 7 = .ok (.iconst 1, 1) := by decide +kernel
theorem dX11_currentC_8 : decode cX11_currentC 8 = .ok (.aload_n 0, 1) := by decide +kernel
theorem dX11_currentC_9 : decode cX11_currentC 9 = .ok (.getfield 14, 3) := by decide +kernel
theorem dX11_currentC_12 : decode cX11_currentC 12 = .ok (.getfield 92, 3) := by decide +kernel
theorem dX11_currentC_15 : decode cX11_currentC 15 = .ok (.aload_n 0, 1) := by decide +kernel
theorem dX11_currentC_16 : decode cX11_currentC 16 = .ok (.getfield 14, 3) := by decide +kernel
theorem dX11_currentC_19 : decode cX11_currentC 19 = .ok (.getfield 102, 3) := by decide +kernel
theorem dX11_currentC_22 : decode cX11_currentC 22 = .ok (.aload_n 0, 1) := by decide +kernel
theorem dX11_currentC_23 : decode cX11_currentC 23 = .ok (.getfield 74, 3) := by decide +kernel
theorem dX11_currentC_26 : decode cX11_currentC 26 = .ok (.invokestatic 363, 3) := by decide +kernel
theorem dX11_currentC_29 : decode cX11_currentC 29 = .ok (.aload_n 0, 1) := by decide +kernel
theorem dX11_currentC_30 : decode cX11_currentC 30 = .ok (.getfield 74, 3) := by decide +kernel
theorem dX11_currentC_33 : decode cX11_currentC 33 = .ok (.areturn, 1) := by decide +kernel
theorem dX11_tableOf_0 : decode cX11_tableOf 0 = .ok (.aload_n 0, 1) := by decide +kernel
theorem dX11_tableOf_1 : decode cX11_tableOf 1 = .ok (.getfield 37, 3) := by decide +kernel
theorem dX11_tableOf_4 : decode cX11_tableOf 4 = .ok (.aload_n 0, 1) := by decide +kernel
theorem dX11_tableOf_5 : decode cX11_tableOf 5 = .ok (.invokevirtual 98, 3) := by decide +kernel
theorem dX11_tableOf_8 : decode cX11_tableOf 8 = .ok (.iload_n 1, 1) := by decide +kernel
theorem dX11_tableOf_9 : decode cX11_tableOf 9 = .ok (.invokevirtual 135, 3) := by decide +kernel
theorem dX11_tableOf_12 : decode cX11_tableOf 12 = .ok (.aload_n 0, 1) := by decide +kernel
theorem dX11_tableOf_13 : decode cX11_tableOf 13 = .ok (.getfield 37, 3) := by decide +kernel
theorem dX11_tableOf_16 : decode cX11_tableOf 16 = .ok (.invokevirtual 367, 3) := by decide +kernel
theorem dX11_tableOf_19 : decode cX11_tableOf 19 = .ok (.aload_n 0, 1) := by decide +kernel
theorem dX11_tableOf_20 : decode cX11_tableOf 20 = .ok (.getfield 37, 3) := by decide +kernel
theorem dX11_tableOf_23 : decode cX11_tableOf 23 = .ok (.areturn, 1) := by decide +kernel
theorem dX11_spansOf_0 : decode cX11_spansOf 0 = .ok (.iload_n 1, 1) := by decide +kernel
theorem dX11_spansOf_1 : decode cX11_spansOf 1 = .ok (.ifCond .ne 10, 3) := by decide +kernel
theorem dX11_spansOf_4 : decode cX11_spansOf 4 = .ok (.aload_n 0, 1) := by decide +kernel
theorem dX11_spansOf_5 : decode cX11_spansOf 5 = .ok (.getfield 60, 3) := by decide +kernel
theorem dX11_spansOf_8 : decode cX11_spansOf 8 = .ok (.goto 7, 3) := by decide +kernel
theorem dX11_spansOf_11 : decode cX11_spansOf 11 = .ok (.aload_n 0, 1) := by decide +kernel
theorem dX11_spansOf_12 : decode cX11_spansOf 12 = .ok (.getfield 64, 3) := by decide +kernel
theorem dX11_spansOf_15 : decode cX11_spansOf 15 = .ok (.astore_n 2, 1) := by decide +kernel
theorem dX11_spansOf_16 : decode cX11_spansOf 16 = .ok (.aload_n 2, 1) := by decide +kernel
theorem dX11_spansOf_17 : decode cX11_spansOf 17 = .ok (.aload_n 0, 1) := by decide +kernel
theorem dX11_spansOf_18 : decode cX11_spansOf 18 = .ok (.getfield 14, 3) := by decide +kernel
theorem dX11_spansOf_21 : decode cX11_spansOf 21 = .ok (.aload_n 0, 1) := by decide +kernel
theorem dX11_spansOf_22 : decode cX11_spansOf 22 = .ok (.getfield 51, 3) := by decide +kernel
theorem dX11_spansOf_25 : decode cX11_spansOf 25 = .ok (.invokevirtual 369, 3) := by decide +kernel
theorem dX11_spansOf_28 : decode cX11_spansOf 28 = .ok (.aload_n 2, 1) := by decide +kernel
theorem dX11_spansOf_29 : decode cX11_spansOf 29 = .ok (.areturn, 1) := by decide +kernel
theorem dX11_forgetSurveys_0 : decode cX11_forgetSurveys 0 = .ok (.aload_n 0, 1) := by decide +kernel
theorem dX11_forgetSurveys_1 : decode cX11_forgetSurveys 1 = .ok (.getfield 60, 3) := by decide +kernel
theorem dX11_forgetSurveys_4 : decode cX11_forgetSurveys 4 = .ok (.iconst 0, 1) := by decide +kernel
theorem dX11_forgetSurveys_5 : decode cX11_forgetSurveys 5 = .ok (.putfield 372, 3) := by decide +kernel
theorem dX11_forgetSurveys_8 : decode cX11_forgetSurveys 8 = .ok (.aload_n 0, 1) := by decide +kernel
theorem dX11_forgetSurveys_9 : decode cX11_forgetSurveys 9 = .ok (.getfield 64, 3) := by decide +kernel
theorem dX11_forgetSurveys_12 : decode cX11_forgetSurveys 12 = .ok (.iconst 0, 1) := by decide +kernel
theorem dX11_forgetSurveys_13 : decode cX11_forgetSurveys 13 = .ok (.putfield 372, 3) := by decide +kernel
theorem dX11_forgetSurveys_16 : decode cX11_forgetSurveys 16 = .ok (.aload_n 0, 1) := by decide +kernel
theorem dX11_forgetSurveys_17 : decode cX11_forgetSurveys 17 = .ok (.getfield 70, 3) := by decide +kernel
theorem dX11_forgetSurveys_20 : decode cX11_forgetSurveys 20 = .ok (.iconst 0, 1) := by decide +kernel
theorem dX11_forgetSurveys_21 : decode cX11_forgetSurveys 21 = .ok (.putfield 375, 3) := by decide +kernel
theorem dX11_forgetSurveys_24 : decode cX11_forgetSurveys 24 = .ok (.return_, 1) := by decide +kernel
theorem dX11_refusalOfRow_0 : decode cX11_refusalOfRow 0 = .ok (.iload_n 1, 1) := by decide +kernel
theorem dX11_refusalOfRow_1 : decode cX11_refusalOfRow 1 = .ok (.invokestatic 325, 3) := by decide +kernel
theorem dX11_refusalOfRow_4 : decode cX11_refusalOfRow 4 = .ok (.ifCond .ne 5, 3) := by decide +kernel
theorem dX11_refusalOfRow_7 : decode cX11_refusalOfRow 7 = .ok (.iconst (-1), 1) := by decide +kernel
theorem dX11_refusalOfRow_8 : decode cX11_refusalOfRow 8 = .ok (.ireturn, 1) := by decide +kernel
theorem dX11_refusalOfRow_9 : decode cX11_refusalOfRow 9 = .ok (.iload_n 2, 1) := by decide +kernel
theorem dX11_refusalOfRow_10 : decode cX11_refusalOfRow 10 = .ok (.invokestatic 132, 3) := by decide +kernel
theorem dX11_refusalOfRow_13 : decode cX11_refusalOfRow 13 = .ok (.ifCond .ne 6, 3) := by decide +kernel
theorem dX11_refusalOfRow_16 : decode cX11_refusalOfRow 16 = .ok (.bipush (-2), 2) := by decide +kernel
theorem dX11_refusalOfRow_18 : decode cX11_refusalOfRow 18 = .ok (.ireturn, 1) := by decide +kernel
theorem dX11_refusalOfRow_19 : decode cX11_refusalOfRow 19 = .ok (.aload_n 0, 1) := by decide +kernel
theorem dX11_refusalOfRow_20 : decode cX11_refusalOfRow 20 = .ok (.getfield 30, 3) := by decide +kernel
theorem dX11_refusalOfRow_23 : decode cX11_refusalOfRow 23 = .ok (.iload_n 1, 1) := by decide +kernel
theorem dX11_refusalOfRow_24 : decode cX11_refusalOfRow 24 = .ok (.aaload, 1) := by decide +kernel
theorem dX11_refusalOfRow_25 : decode cX11_refusalOfRow 25 = .ok (.invokevirtual 331, 3) := by decide +kernel
theorem dX11_refusalOfRow_28 : decode cX11_refusalOfRow 28 = .ok (.ifCond .eq 6, 3) := by decide +kernel
theorem dX11_refusalOfRow_31 : decode cX11_refusalOfRow 31 = .ok (.bipush (-11), 2) := by decide +kernel
theorem dX11_refusalOfRow_33 : decode cX11_refusalOfRow 33 = .ok (.ireturn, 1) := by decide +kernel
theorem dX11_refusalOfRow_34 : decode cX11_refusalOfRow 34 = .ok (.aload_n 0, 1) := by decide +kernel
theorem dX11_refusalOfRow_35 : decode cX11_refusalOfRow 35 = .ok (.iload_n 2, 1) := by decide +kernel
theorem dX11_refusalOfRow_36 : decode cX11_refusalOfRow 36 = .ok (.invokevirtual 148, 3) := by decide +kernel
theorem dX11_refusalOfRow_39 : decode cX11_refusalOfRow 39 = .ok (.astore 4, 2) := by decide +kernel
theorem dX11_refusalOfRow_41 : decode cX11_refusalOfRow 41 = .ok (.aload 4, 2) := by decide +kernel
theorem dX11_refusalOfRow_43 : decode cX11_refusalOfRow 43 = .ok (.iload_n 3, 1) := by decide +kernel
theorem dX11_refusalOfRow_44 : decode cX11_refusalOfRow 44 = .ok (.invokevirtual 156, 3) := by decide +kernel
theorem dX11_refusalOfRow_47 : decode cX11_refusalOfRow 47 = .ok (.ifCond .ne 5, 3) := by decide +kernel
theorem dX11_refusalOfRow_50 : decode cX11_refusalOfRow 50 = .ok (.iconst (-1), 1) := by decide +kernel
theorem dX11_refusalOfRow_51 : decode cX11_refusalOfRow 51 = .ok (.ireturn, 1) := by decide +kernel
theorem dX11_refusalOfRow_52 : decode cX11_refusalOfRow 52 = .ok (.aload 4, 2) := by decide +kernel
theorem dX11_refusalOfRow_54 : decode cX11_refusalOfRow 54 = .ok (.getfield 152, 3) := by decide +kernel
theorem dX11_refusalOfRow_57 : decode cX11_refusalOfRow 57 = .ok (.ifCond .eq 8, 3) := by decide +kernel
theorem dX11_refusalOfRow_60 : decode cX11_refusalOfRow 60 = .ok (.bipush (-7), 2) := by decide +kernel
theorem dX11_refusalOfRow_62 : decode cX11_refusalOfRow 62 = .ok (.goto 4, 3) := by decide +kernel
theorem dX11_refusalOfRow_65 : decode cX11_refusalOfRow 65 = .ok (.iconst 0, 1) := by decide +kernel
theorem dX11_refusalOfRow_66 : decode cX11_refusalOfRow 66 = .ok (.ireturn, 1) := by decide +kernel
theorem dX12_init_0 : decode cX12_init 0 = .ok (.aload_n 0, 1) := by decide +kernel
theorem dX12_init_1 : decode cX12_init 1 = .ok (.invokespecial 3, 3) := by decide +kernel
theorem dX12_init_4 : decode cX12_init 4 = .ok (.aload_n 0, 1) := by decide +kernel
theorem dX12_init_5 : decode cX12_init 5 = .ok (.bipush 51, 2) := by decide +kernel
theorem dX12_init_7 : decode cX12_init 7 = .ok (.newarray .int, 2) := by decide +kernel
theorem dX12_init_9 : decode cX12_init 9 = .ok (.putfield 11, 3) := by decide +kernel
theorem dX12_init_12 : decode cX12_init 12 = .ok (.aload_n 0, 1) := by decide +kernel
theorem dX12_init_13 : decode cX12_init 13 = .ok (.bipush 51, 2) := by decide +kernel
theorem dX12_init_15 : decode cX12_init 15 = .ok (.newarray .int, 2) := by decide +kernel
theorem dX12_init_17 : decode cX12_init 17 = .ok (.putfield 15, 3) := by decide +kernel
theorem dX12_init_20 : decode cX12_init 20 = .ok (.aload_n 0, 1) := by decide +kernel
theorem dX12_init_21 : decode cX12_init 21 = .ok (.bipush 7, 2) := by decide +kernel
theorem dX12_init_23 : decode cX12_init 23 = .ok (.newarray .long, 2) := by decide +kernel
theorem dX12_init_25 : decode cX12_init 25 = .ok (.putfield 18, 3) := by decide +kernel
theorem dX12_init_28 : decode cX12_init 28 = .ok (.aload_n 0, 1) := by decide +kernel
theorem dX12_init_29 : decode cX12_init 29 = .ok (.bipush 7, 2) := by decide +kernel
theorem dX12_init_31 : decode cX12_init 31 = .ok (.newarray .long, 2) := by decide +kernel
theorem dX12_init_33 : decode cX12_init 33 = .ok (.putfield 22, 3) := by decide +kernel
theorem dX12_init_36 : decode cX12_init 36 = .ok (.aload_n 0, 1) := by decide +kernel
theorem dX12_init_37 : decode cX12_init 37 = .ok (.bipush 7, 2) := by decide +kernel
theorem dX12_init_39 : decode cX12_init 39 = .ok (.newarray .long, 2) := by decide +kernel
theorem dX12_init_41 : decode cX12_init 41 = .ok (.putfield 25, 3) := by decide +kernel
theorem dX12_init_44 : decode cX12_init 44 = .ok (.aload_n 0, 1) := by decide +kernel
theorem dX12_init_45 : decode cX12_init 45 = .ok (.bipush 42, 2) := by decide +kernel
theorem dX12_init_47 : decode cX12_init 47 = .ok (.newarray .long, 2) := by decide +kernel
theorem dX12_init_49 : decode cX12_init 49 = .ok (.putfield 28, 3) := by decide +kernel
theorem dX12_init_52 : decode cX12_init 52 = .ok (.aload_n 0, 1) := by decide +kernel
theorem dX12_init_53 : decode cX12_init 53 = .ok (.bipush 6, 2) := by decide +kernel
theorem dX12_init_55 : decode cX12_init 55 = .ok (.newarray .long, 2) := by decide +kernel
theorem dX12_init_57 : decode cX12_init 57 = .ok (.putfield 31, 3) := by decide +kernel
theorem dX12_init_60 : decode cX12_init 60 = .ok (.aload_n 0, 1) := by decide +kernel
theorem dX12_init_61 : decode cX12_init 61 = .ok (.bipush 7, 2) := by decide +kernel
theorem dX12_init_63 : decode cX12_init 63 = .ok (.newarray .int, 2) := by decide +kernel
theorem dX12_init_65 : decode cX12_init 65 = .ok (.putfield 34, 3) := by decide +kernel
theorem dX12_init_68 : decode cX12_init 68 = .ok (.aload_n 0, 1) := by decide +kernel
theorem dX12_init_69 : decode cX12_init 69 = .ok (.bipush 101, 2) := by decide +kernel
theorem dX12_init_71 : decode cX12_init 71 = .ok (.newarray .int, 2) := by decide +kernel
theorem dX12_init_73 : decode cX12_init 73 = .ok (.putfield 37, 3) := by decide +kernel
theorem dX12_init_76 : decode cX12_init 76 = .ok (.aload_n 0, 1) := by decide +kernel
theorem dX12_init_77 : decode cX12_init 77 = .ok (.bipush 101, 2) := by decide +kernel
theorem dX12_init_79 : decode cX12_init 79 = .ok (.newarray .int, 2) := by decide +kernel
theorem dX12_init_81 : decode cX12_init 81 = .ok (.putfield 40, 3) := by decide +kernel
theorem dX12_init_84 : decode cX12_init 84 = .ok (.aload_n 0, 1) := by decide +kernel
theorem dX12_init_85 : decode cX12_init 85 = .ok (.bipush 63, 2) := by decide +kernel
theorem dX12_init_87 : decode cX12_init 87 = .ok (.newarray .long, 2) := by decide +kernel
theorem dX12_init_89 : decode cX12_init 89 = .ok (.putfield 43, 3) := by decide +kernel
theorem dX12_init_92 : decode cX12_init 92 = .ok (.aload_n 0, 1) := by decide +kernel
theorem dX12_init_93 : decode cX12_init 93 = .ok (.bipush 7, 2) := by decide +kernel
theorem dX12_init_95 : decode cX12_init 95 = .ok (.newarray .long, 2) := by decide +kernel
theorem dX12_init_97 : decode cX12_init 97 = .ok (.putfield 46, 3) := by decide +kernel
theorem dX12_init_100 : decode cX12_init 100 = .ok (.aload_n 0, 1) := by decide +kernel
theorem dX12_init_101 : decode cX12_init 101 = .ok (.bipush 60, 2) := by decide +kernel
theorem dX12_init_103 : decode cX12_init 103 = .ok (.newarray .int, 2) := by decide +kernel
theorem dX12_init_105 : decode cX12_init 105 = .ok (.putfield 49, 3) := by decide +kernel
theorem dX12_init_108 : decode cX12_init 108 = .ok (.aload_n 0, 1) := by decide +kernel
theorem dX12_init_109 : decode cX12_init 109 = .ok (.bipush 14, 2) := by decide +kernel
theorem dX12_init_111 : decode cX12_init 111 = .ok (.newarray .int, 2) := by decide +kernel
theorem dX12_init_113 : decode cX12_init 113 = .ok (.putfield 52, 3) := by decide +kernel
theorem dX12_init_116 : decode cX12_init 116 = .ok (.aload_n 0, 1) := by decide +kernel
theorem dX12_init_117 : decode cX12_init 117 = .ok (.iconst 4, 1) := by decide +kernel
theorem dX12_init_118 : decode cX12_init 118 = .ok (.newarray .int, 2) := by decide +kernel
theorem dX12_init_120 : decode cX12_init 120 = .ok (.dup, 1) := by decide +kernel
theorem dX12_init_121 : decode cX12_init 121 = .ok (.iconst 0, 1) := by decide +kernel
theorem dX12_init_122 : decode cX12_init 122 = .ok (.iconst (-1), 1) := by decide +kernel
theorem dX12_init_123 : decode cX12_init 123 = .ok (.iastore, 1) := by decide +kernel
theorem dX12_init_124 : decode cX12_init 124 = .ok (.dup, 1) := by decide +kernel
theorem dX12_init_125 : decode cX12_init 125 = .ok (.iconst 1, 1) := by decide +kernel
theorem dX12_init_126 : decode cX12_init 126 = .ok (.iconst (-1), 1) := by decide +kernel
theorem dX12_init_127 : decode cX12_init 127 = .ok (.iastore, 1) := by decide +kernel
theorem dX12_init_128 : decode cX12_init 128 = .ok (.dup, 1) := by decide +kernel
theorem dX12_init_129 : decode cX12_init 129 = .ok (.iconst 2, 1) := by decide +kernel
theorem dX12_init_130 : decode cX12_init 130 = .ok (.iconst (-1), 1) := by decide +kernel
theorem dX12_init_131 : decode cX12_init 131 = .ok (.iastore, 1) := by decide +kernel
theorem dX12_init_132 : decode cX12_init 132 = .ok (.dup, 1) := by decide +kernel
theorem dX12_init_133 : decode cX12_init 133 = .ok (.iconst 3, 1) := by decide +kernel
theorem dX12_init_134 : decode cX12_init 134 = .ok (.iconst (-1), 1) := by decide +kernel
theorem dX12_init_135 : decode cX12_init 135 = .ok (.iastore, 1) := by decide +kernel
theorem dX12_init_136 : decode cX12_init 136 = .ok (.putfield 55, 3) := by decide +kernel
theorem dX12_init_139 : decode cX12_init 139 = .ok (.aload_n 0, 1) := by decide +kernel
theorem dX12_init_140 : decode cX12_init 140 = .ok (.iconst 4, 1) := by decide +kernel
theorem dX12_init_141 : decode cX12_init 141 = .ok (.newarray .int, 2) := by decide +kernel
theorem dX12_init_143 : decode cX12_init 143 = .ok (.putfield 58, 3) := by decide +kernel
theorem dX12_init_146 : decode cX12_init 146 = .ok (.aload_n 0, 1) := by decide +kernel
theorem dX12_init_147 : decode cX12_init 147 = .ok (.bipush 120, 2) := by decide +kernel
theorem dX12_init_149 : decode cX12_init 149 = .ok (.newarray .long, 2) := by decide +kernel
theorem dX12_init_151 : decode cX12_init 151 = .ok (.putfield 61, 3) := by decide +kernel
theorem dX12_init_154 : decode cX12_init 154 = .ok (.aload_n 0, 1) := by decide +kernel
theorem dX12_init_155 : decode cX12_init 155 = .ok (.bipush 30, 2) := by decide +kernel
theorem dX12_init_157 : decode cX12_init 157 = .ok (.newarray .long, 2) := by decide +kernel
theorem dX12_init_159 : decode cX12_init 159 = .ok (.putfield 64, 3) := by decide +kernel
theorem dX12_init_162 : decode cX12_init 162 = .ok (.aload_n 0, 1) := by decide +kernel
theorem dX12_init_163 : decode cX12_init 163 = .ok (.getfield 11, 3) := by decide +kernel
theorem dX12_init_166 : decode cX12_init 166 = .ok (.iconst 1, 1) := by decide +kernel
theorem dX12_init_167 : decode cX12_init 167 = .ok (.iconst 1, 1) := by decide +kernel
theorem dX12_init_168 : decode cX12_init 168 = .ok (.iastore, 1) := by decide +kernel
theorem dX12_init_169 : decode cX12_init 169 = .ok (.return_, 1) := by decide +kernel
theorem dX12_in_0 : decode cX12_in 0 = .ok (.lload_n 0, 1) := by decide +kernel
theorem dX12_in_1 : decode cX12_in 1 = .ok (.lload_n 2, 1) := by decide +kernel
theorem dX12_in_2 : decode cX12_in 2 = .ok (.lcmp, 1) := by decide +kernel
theorem dX12_in_3 : decode cX12_in 3 = .ok (.ifCond .lt 14, 3) := by decide +kernel
theorem dX12_in_6 : decode cX12_in 6 = .ok (.lload_n 0, 1) := by decide +kernel
theorem dX12_in_7 : decode cX12_in 7 = .ok (.lload 4, 2) := by decide +kernel
theorem dX12_in_9 : decode cX12_in 9 = .ok (.lcmp, 1) := by decide +kernel
theorem dX12_in_10 : decode cX12_in 10 = .ok (.ifCond .gt 7, 3) := by decide +kernel
theorem dX12_in_13 : decode cX12_in 13 = .ok (.iconst 1, 1) := by decide +kernel
theorem dX12_in_14 : decode cX12_in 14 = .ok (.goto 4, 3) := by decide +kernel
theorem dX12_in_17 : decode cX12_in 17 = .ok (.iconst 0, 1) := by decide +kernel
theorem dX12_in_18 : decode cX12_in 18 = .ok (.ireturn, 1) := by decide +kernel
theorem dX12_times_0 : decode cX12_times 0 = .ok (.lload_n 1, 1) := by decide +kernel
theorem dX12_times_1 : decode cX12_times 1 = .ok (.lload_n 3, 1) := by decide +kernel
theorem dX12_times_2 : decode cX12_times 2 = .ok (.lmul, 1) := by decide +kernel
theorem dX12_times_3 : decode cX12_times 3 = .ok (.lstore 5, 2) := by decide +kernel
theorem dX12_times_5 : decode cX12_times 5 = .ok (.lload_n 1, 1) := by decide +kernel
theorem dX12_times_6 : decode cX12_times 6 = .ok (.lconst 0, 1) := by decide +kernel
theorem dX12_times_7 : decode cX12_times 7 = .ok (.lcmp, 1) := by decide +kernel
theorem dX12_times_8 : decode cX12_times 8 = .ok (.ifCond .eq 25, 3) := by decide +kernel
theorem dX12_times_11 : decode cX12_times 11 = .ok (.lload 5, 2) := by decide +kernel
theorem dX12_times_13 : decode cX12_times 13 = .ok (.lload_n 1, 1) := by decide +kernel
theorem dX12_times_14 : decode cX12_times 14 = .ok (.ldiv, 1) := by decide +kernel
theorem dX12_times_15 : decode cX12_times 15 = .ok (.lload_n 3, 1) := by decide +kernel
theorem dX12_times_16 : decode cX12_times 16 = .ok (.lcmp, 1) := by decide +kernel
theorem dX12_times_17 : decode cX12_times 17 = .ok (.ifCond .ne 12, 3) := by decide +kernel
theorem dX12_times_20 : decode cX12_times 20 = .ok (.lload 5, 2) := by decide +kernel
theorem dX12_times_22 : decode cX12_times 22 = .ok (.ldc2_w 67, 3) := by decide +kernel
theorem dX12_times_25 : decode cX12_times 25 = .ok (.lcmp, 1) := by decide +kernel
theorem dX12_times_26 : decode cX12_times 26 = .ok (.ifCond .ne 7, 3) := by decide +kernel
theorem dX12_times_29 : decode cX12_times 29 = .ok (.iconst 1, 1) := by decide +kernel
theorem dX12_times_30 : decode cX12_times 30 = .ok (.goto 4, 3) := by decide +kernel
theorem dX12_times_33 : decode cX12_times 33 = .ok (.iconst 0, 1) := by decide +kernel
theorem dX12_times_34 : decode cX12_times 34 = .ok (.istore 7, 2) := by decide +kernel
theorem dX12_times_36 : decode cX12_times 36 = .ok (.aload_n 0, 1) := by decide +kernel
theorem dX12_times_37 : decode cX12_times 37 = .ok (.aload_n 0, 1) := by decide +kernel
theorem dX12_times_38 : decode cX12_times 38 = .ok (.getfield 69, 3) := by decide +kernel
theorem dX12_times_41 : decode cX12_times 41 = .ok (.ifCond .ne 8, 3) := by decide +kernel
theorem dX12_times_44 : decode cX12_times 44 = .ok (.iload 7, 2) := by decide +kernel
theorem dX12_times_46 : decode cX12_times 46 = .ok (.ifCond .eq 7, 3) := by decide +kernel
theorem dX12_times_49 : decode cX12_times 49 = .ok (.iconst 1, 1) := by decide +kernel
theorem dX12_times_50 : decode cX12_times 50 = .ok (.goto 4, 3) := by decide +kernel
theorem dX12_times_53 : decode cX12_times 53 = .ok (.iconst 0, 1) := by decide +kernel
theorem dX12_times_54 : decode cX12_times 54 = .ok (.putfield 69, 3) := by decide +kernel
theorem dX12_times_57 : decode cX12_times 57 = .ok (.lload 5, 2) := by decide +kernel
theorem dX12_times_59 : decode cX12_times 59 = .ok (.lreturn, 1) := by decide +kernel
theorem dX12_plus_0 : decode cX12_plus 0 = .ok (.lload_n 1, 1) := by decide +kernel
theorem dX12_plus_1 : decode cX12_plus 1 = .ok (.lload_n 3, 1) := by decide +kernel
theorem dX12_plus_2 : decode cX12_plus 2 = .ok (.ladd, 1) := by decide +kernel
theorem dX12_plus_3 : decode cX12_plus 3 = .ok (.lstore 5, 2) := by decide +kernel
theorem dX12_plus_5 : decode cX12_plus 5 = .ok (.aload_n 0, 1) := by decide +kernel
theorem dX12_plus_6 : decode cX12_plus 6 = .ok (.aload_n 0, 1) := by decide +kernel
theorem dX12_plus_7 : decode cX12_plus 7 = .ok (.getfield 69, 3) := by decide +kernel
theorem dX12_plus_10 : decode cX12_plus 10 = .ok (.ifCond .ne 26, 3) := by decide +kernel
theorem dX12_plus_13 : decode cX12_plus 13 = .ok (.lload_n 1, 1) := by decide +kernel
theorem dX12_plus_14 : decode cX12_plus 14 = .ok (.lload 5, 2) := by decide +kernel
theorem dX12_plus_16 : decode cX12_plus 16 = .ok (.lxor, 1) := by decide +kernel
theorem dX12_plus_17 : decode cX12_plus 17 = .ok (.lload_n 3, 1) := by decide +kernel
theorem dX12_plus_18 : decode cX12_plus 18 = .ok (.lload 5, 2) := by decide +kernel
theorem dX12_plus_20 : decode cX12_plus 20 = .ok (.lxor, 1) := by decide +kernel
theorem dX12_plus_21 : decode cX12_plus 21 = .ok (.land, 1) := by decide +kernel
theorem dX12_plus_22 : decode cX12_plus 22 = .ok (.lconst 0, 1) := by decide +kernel
theorem dX12_plus_23 : decode cX12_plus 23 = .ok (.lcmp, 1) := by decide +kernel
theorem dX12_plus_24 : decode cX12_plus 24 = .ok (.ifCond .lt 12, 3) := by decide +kernel
theorem dX12_plus_27 : decode cX12_plus 27 = .ok (.lload 5, 2) := by decide +kernel
theorem dX12_plus_29 : decode cX12_plus 29 = .ok (.ldc2_w 67, 3) := by decide +kernel
theorem dX12_plus_32 : decode cX12_plus 32 = .ok (.lcmp, 1) := by decide +kernel
theorem dX12_plus_33 : decode cX12_plus 33 = .ok (.ifCond .ne 7, 3) := by decide +kernel
theorem dX12_plus_36 : decode cX12_plus 36 = .ok (.iconst 1, 1) := by decide +kernel
theorem dX12_plus_37 : decode cX12_plus 37 = .ok (.goto 4, 3) := by decide +kernel
theorem dX12_plus_40 : decode cX12_plus 40 = .ok (.iconst 0, 1) := by decide +kernel
theorem dX12_plus_41 : decode cX12_plus 41 = .ok (.putfield 69, 3) := by decide +kernel
theorem dX12_plus_44 : decode cX12_plus 44 = .ok (.lload 5, 2) := by decide +kernel
theorem dX12_plus_46 : decode cX12_plus 46 = .ok (.lreturn, 1) := by decide +kernel
theorem dX12_turned_0 : decode cX12_turned 0 = .ok (.aload_n 0, 1) := by decide +kernel
theorem dX12_turned_1 : decode cX12_turned 1 = .ok (.aload_n 0, 1) := by decide +kernel
theorem dX12_turned_2 : decode cX12_turned 2 = .ok (.getfield 69, 3) := by decide +kernel
theorem dX12_turned_5 : decode cX12_turned 5 = .ok (.ifCond .ne 11, 3) := by decide +kernel
theorem dX12_turned_8 : decode cX12_turned 8 = .ok (.lload_n 1, 1) := by decide +kernel
theorem dX12_turned_9 : decode cX12_turned 9 = .ok (.ldc2_w 67, 3) := by decide +kernel
theorem dX12_turned_12 : decode cX12_turned 12 = .ok (.lcmp, 1) := by decide +kernel
theorem dX12_turned_13 : decode cX12_turned 13 = .ok (.ifCond .ne 7, 3) := by decide +kernel
theorem dX12_turned_16 : decode cX12_turned 16 = .ok (.iconst 1, 1) := by decide +kernel
theorem dX12_turned_17 : decode cX12_turned 17 = .ok (.goto 4, 3) := by decide +kernel
theorem dX12_turned_20 : decode cX12_turned 20 = .ok (.iconst 0, 1) := by decide +kernel
theorem dX12_turned_21 : decode cX12_turned 21 = .ok (.putfield 69, 3) := by decide +kernel
theorem dX12_turned_24 : decode cX12_turned 24 = .ok (.lload_n 1, 1) := by decide +kernel
theorem dX12_turned_25 : decode cX12_turned 25 = .ok (.lneg, 1) := by decide +kernel
theorem dX12_turned_26 : decode cX12_turned 26 = .ok (.lreturn, 1) := by decide +kernel
theorem dX12_less_0 : decode cX12_less 0 = .ok (.lload_n 1, 1) := by decide +kernel
theorem dX12_less_1 : decode cX12_less 1 = .ok (.lload_n 3, 1) := by decide +kernel
theorem dX12_less_2 : decode cX12_less 2 = .ok (.lsub, 1) := by decide +kernel
theorem dX12_less_3 : decode cX12_less 3 = .ok (.lstore 5, 2) := by decide +kernel
theorem dX12_less_5 : decode cX12_less 5 = .ok (.aload_n 0, 1) := by decide +kernel
theorem dX12_less_6 : decode cX12_less 6 = .ok (.aload_n 0, 1) := by decide +kernel
theorem dX12_less_7 : decode cX12_less 7 = .ok (.getfield 69, 3) := by decide +kernel
theorem dX12_less_10 : decode cX12_less 10 = .ok (.ifCond .ne 25, 3) := by decide +kernel
theorem dX12_less_13 : decode cX12_less 13 = .ok (.lload_n 1, 1) := by decide +kernel
theorem dX12_less_14 : decode cX12_less 14 = .ok (.lload_n 3, 1) := by decide +kernel
theorem dX12_less_15 : decode cX12_less 15 = .ok (.lxor, 1) := by decide +kernel
theorem dX12_less_16 : decode cX12_less 16 = .ok (.lload_n 1, 1) := by decide +kernel
theorem dX12_less_17 : decode cX12_less 17 = .ok (.lload 5, 2) := by decide +kernel
theorem dX12_less_19 : decode cX12_less 19 = .ok (.lxor, 1) := by decide +kernel
theorem dX12_less_20 : decode cX12_less 20 = .ok (.land, 1) := by decide +kernel
theorem dX12_less_21 : decode cX12_less 21 = .ok (.lconst 0, 1) := by decide +kernel
theorem dX12_less_22 : decode cX12_less 22 = .ok (.lcmp, 1) := by decide +kernel
theorem dX12_less_23 : decode cX12_less 23 = .ok (.ifCond .lt 12, 3) := by decide +kernel
theorem dX12_less_26 : decode cX12_less 26 = .ok (.lload 5, 2) := by decide +kernel
theorem dX12_less_28 : decode cX12_less 28 = .ok (.ldc2_w 67, 3) := by decide +kernel
theorem dX12_less_31 : decode cX12_less 31 = .ok (.lcmp, 1) := by decide +kernel
theorem dX12_less_32 : decode cX12_less 32 = .ok (.ifCond .ne 7, 3) := by decide +kernel
theorem dX12_less_35 : decode cX12_less 35 = .ok (.iconst 1, 1) := by decide +kernel
theorem dX12_less_36 : decode cX12_less 36 = .ok (.goto 4, 3) := by decide +kernel
theorem dX12_less_39 : decode cX12_less 39 = .ok (.iconst 0, 1) := by decide +kernel
theorem dX12_less_40 : decode cX12_less 40 = .ok (.putfield 69, 3) := by decide +kernel
theorem dX12_less_43 : decode cX12_less 43 = .ok (.lload 5, 2) := by decide +kernel
theorem dX12_less_45 : decode cX12_less 45 = .ok (.lreturn, 1) := by decide +kernel
theorem dX12_common_0 : decode cX12_common 0 = .ok (.lload_n 0, 1) := by decide +kernel
theorem dX12_common_1 : decode cX12_common 1 = .ok (.lstore 4, 2) := by decide +kernel
theorem dX12_common_3 : decode cX12_common 3 = .ok (.lload_n 2, 1) := by decide +kernel
theorem dX12_common_4 : decode cX12_common 4 = .ok (.lstore 6, 2) := by decide +kernel
theorem dX12_common_6 : decode cX12_common 6 = .ok (.lload 6, 2) := by decide +kernel
theorem dX12_common_8 : decode cX12_common 8 = .ok (.lconst 0, 1) := by decide +kernel
theorem dX12_common_9 : decode cX12_common 9 = .ok (.lcmp, 1) := by decide +kernel
theorem dX12_common_10 : decode cX12_common 10 = .ok (.ifCond .eq 21, 3) := by decide +kernel
theorem dX12_common_13 : decode cX12_common 13 = .ok (.lload 4, 2) := by decide +kernel
theorem dX12_common_15 : decode cX12_common 15 = .ok (.lload 6, 2) := by decide +kernel
theorem dX12_common_17 : decode cX12_common 17 = .ok (.lrem, 1) := by decide +kernel
theorem dX12_common_18 : decode cX12_common 18 = .ok (.lstore 8, 2) := by decide +kernel
theorem dX12_common_20 : decode cX12_common 20 = .ok (.lload 6, 2) := by decide +kernel
theorem dX12_common_22 : decode cX12_common 22 = .ok (.lstore 4, 2) := by decide +kernel
theorem dX12_common_24 : decode cX12_common 24 = .ok (.lload 8, 2) := by decide +kernel
theorem dX12_common_26 : decode cX12_common 26 = .ok (.lstore 6, 2) := by decide +kernel
theorem dX12_common_28 : decode cX12_common 28 = .ok (.goto (-22), 3) := by decide +kernel
theorem dX12_common_31 : decode cX12_common 31 = .ok (.lload 4, 2) := by decide +kernel
theorem dX12_common_33 : decode cX12_common 33 = .ok (.lconst 0, 1) := by decide +kernel
theorem dX12_common_34 : decode cX12_common 34 = .ok (.lcmp, 1) := by decide +kernel
theorem dX12_common_35 : decode cX12_common 35 = .ok (.ifCond .ge 9, 3) := by decide +kernel
theorem dX12_common_38 : decode cX12_common 38 = .ok (.lload 4, 2) := by decide +kernel
theorem dX12_common_40 : decode cX12_common 40 = .ok (.lneg, 1) := by decide +kernel
theorem dX12_common_41 : decode cX12_common 41 = .ok (.goto 5, 3) := by decide +kernel
theorem dX12_common_44 : decode cX12_common 44 = .ok (.lload 4, 2) := by decide +kernel
theorem dX12_common_46 : decode cX12_common 46 = .ok (.lreturn, 1) := by decide +kernel
theorem dX12_degreeOf_0 : decode cX12_degreeOf 0 = .ok (.bipush 6, 2) := by decide +kernel
theorem dX12_degreeOf_2 : decode cX12_degreeOf 2 = .ok (.istore_n 1, 1) := by decide +kernel
theorem dX12_degreeOf_3 : decode cX12_degreeOf 3 = .ok (.iload_n 1, 1) := by decide +kernel
theorem dX12_degreeOf_4 : decode cX12_degreeOf 4 = .ok (.ifCond .lt 17, 3) := by decide +kernel
theorem dX12_degreeOf_7 : decode cX12_degreeOf 7 = .ok (.aload_n 0, 1) := by decide +kernel
theorem dX12_degreeOf_8 : decode cX12_degreeOf 8 = .ok (.iload_n 1, 1) := by decide +kernel
theorem dX12_degreeOf_9 : decode cX12_degreeOf 9 = .ok (.laload, 1) := by decide +kernel
theorem dX12_degreeOf_10 : decode cX12_degreeOf 10 = .ok (.lconst 0, 1) := by decide +kernel
theorem dX12_degreeOf_11 : decode cX12_degreeOf 11 = .ok (.lcmp, 1) := by decide +kernel
theorem dX12_degreeOf_12 : decode cX12_degreeOf 12 = .ok (.ifCond .ne 9, 3) := by decide +kernel
theorem dX12_degreeOf_15 : decode cX12_degreeOf 15 = .ok (.iinc 1 (-1), 3) := by decide +kernel
theorem dX12_degreeOf_18 : decode cX12_degreeOf 18 = .ok (.goto (-15), 3) := by decide +kernel
theorem dX12_degreeOf_21 : decode cX12_degreeOf 21 = .ok (.iload_n 1, 1) := by decide +kernel
theorem dX12_degreeOf_22 : decode cX12_degreeOf 22 = .ok (.ireturn, 1) := by decide +kernel
theorem dX12_takes_0 : decode cX12_takes 0 = .ok (.iconst 0, 1) := by decide +kernel
theorem dX12_takes_1 : decode cX12_takes 1 = .ok (.istore_n 3, 1) := by decide +kernel
theorem dX12_takes_2 : decode cX12_takes 2 = .ok (.iload_n 3, 1) := by decide +kernel
theorem dX12_takes_3 : decode cX12_takes 3 = .ok (.bipush 7, 2) := by decide +kernel
theorem dX12_takes_5 : decode cX12_takes 5 = .ok (.if_icmp .ge 41, 3) := by decide +kernel
theorem dX12_takes_8 : decode cX12_takes 8 = .ok (.aload_n 0, 1) := by decide +kernel
theorem dX12_takes_9 : decode cX12_takes 9 = .ok (.getfield 18, 3) := by decide +kernel
theorem dX12_takes_12 : decode cX12_takes 12 = .ok (.iload_n 3, 1) := by decide +kernel
theorem dX12_takes_13 : decode cX12_takes 13 = .ok (.iload_n 1, 1) := by decide +kernel
theorem dX12_takes_14 : decode cX12_takes 14 = .ok (.i2l, 1) := by decide +kernel
theorem dX12_takes_15 : decode cX12_takes 15 = .ok (.aload_n 0, 1) := by decide +kernel
theorem dX12_takes_16 : decode cX12_takes 16 = .ok (.getfield 11, 3) := by decide +kernel
theorem dX12_takes_19 : decode cX12_takes 19 = .ok (.iconst 0, 1) := by decide +kernel
theorem dX12_takes_20 : decode cX12_takes 20 = .ok (.iload_n 3, 1) := by decide +kernel
theorem dX12_takes_21 : decode cX12_takes 21 = .ok (.iadd, 1) := by decide +kernel
theorem dX12_takes_22 : decode cX12_takes 22 = .ok (.iaload, 1) := by decide +kernel
theorem dX12_takes_23 : decode cX12_takes 23 = .ok (.i2l, 1) := by decide +kernel
theorem dX12_takes_24 : decode cX12_takes 24 = .ok (.lmul, 1) := by decide +kernel
theorem dX12_takes_25 : decode cX12_takes 25 = .ok (.iload_n 2, 1) := by decide +kernel
theorem dX12_takes_26 : decode cX12_takes 26 = .ok (.i2l, 1) := by decide +kernel
theorem dX12_takes_27 : decode cX12_takes 27 = .ok (.aload_n 0, 1) := by decide +kernel
theorem dX12_takes_28 : decode cX12_takes 28 = .ok (.getfield 11, 3) := by decide +kernel
theorem dX12_takes_31 : decode cX12_takes 31 = .ok (.bipush 7, 2) := by decide +kernel
theorem dX12_takes_33 : decode cX12_takes 33 = .ok (.iload_n 3, 1) := by decide +kernel
theorem dX12_takes_34 : decode cX12_takes 34 = .ok (.iadd, 1) := by decide +kernel
theorem dX12_takes_35 : decode cX12_takes 35 = .ok (.iaload, 1) := by decide +kernel
theorem dX12_takes_36 : decode cX12_takes 36 = .ok (.i2l, 1) := by decide +kernel
theorem dX12_takes_37 : decode cX12_takes 37 = .ok (.lmul, 1) := by decide +kernel
theorem dX12_takes_38 : decode cX12_takes 38 = .ok (.ladd, 1) := by decide +kernel
theorem dX12_takes_39 : decode cX12_takes 39 = .ok (.lastore, 1) := by decide +kernel
theorem dX12_takes_40 : decode cX12_takes 40 = .ok (.iinc 3 1, 3) := by decide +kernel
theorem dX12_takes_43 : decode cX12_takes 43 = .ok (.goto (-41), 3) := by decide +kernel
theorem dX12_takes_46 : decode cX12_takes 46 = .ok (.aload_n 0, 1) := by decide +kernel
theorem dX12_takes_47 : decode cX12_takes 47 = .ok (.aload_n 0, 1) := by decide +kernel
theorem dX12_takes_48 : decode cX12_takes 48 = .ok (.getfield 18, 3) := by decide +kernel
theorem dX12_takes_51 : decode cX12_takes 51 = .ok (.invokestatic 73, 3) := by decide +kernel
theorem dX12_takes_54 : decode cX12_takes 54 = .ok (.putfield 77, 3) := by decide +kernel
theorem dX12_takes_57 : decode cX12_takes 57 = .ok (.return_, 1) := by decide +kernel
theorem dX12_isPower_0 : decode cX12_isPower 0 = .ok (.iload_n 0, 1) := by decide +kernel
theorem dX12_isPower_1 : decode cX12_isPower 1 = .ok (.i2l, 1) := by decide +kernel
theorem dX12_isPower_2 : decode cX12_isPower 2 = .ok (.lconst 0, 1) := by decide +kernel
theorem dX12_isPower_3 : decode cX12_isPower 3 = .ok (.ldc2_w 81, 3) := by decide +kernel
theorem dX12_isPower_6 : decode cX12_isPower 6 = .ok (.invokestatic 83, 3) := by decide +kernel
theorem dX12_isPower_9 : decode cX12_isPower 9 = .ok (.ireturn, 1) := by decide +kernel
theorem dX12_set_0 : decode cX12_set 0 = .ok (.iload_n 1, 1) := by decide +kernel
theorem dX12_set_1 : decode cX12_set 1 = .ok (.i2l, 1) := by decide +kernel
theorem dX12_set_2 : decode cX12_set 2 = .ok (.lconst 0, 1) := by decide +kernel
theorem dX12_set_3 : decode cX12_set 3 = .ok (.lconst 1, 1) := by decide +kernel
theorem dX12_set_4 : decode cX12_set 4 = .ok (.invokestatic 83, 3) := by decide +kernel
theorem dX12_set_7 : decode cX12_set 7 = .ok (.ifCond .eq 24, 3) := by decide +kernel
theorem dX12_set_10 : decode cX12_set 10 = .ok (.iload_n 2, 1) := by decide +kernel
theorem dX12_set_11 : decode cX12_set 11 = .ok (.invokestatic 87, 3) := by decide +kernel
theorem dX12_set_14 : decode cX12_set 14 = .ok (.ifCond .eq 17, 3) := by decide +kernel
theorem dX12_set_17 : decode cX12_set 17 = .ok (.iload_n 3, 1) := by decide +kernel
theorem dX12_set_18 : decode cX12_set 18 = .ok (.i2l, 1) := by decide +kernel
theorem dX12_set_19 : decode cX12_set 19 = .ok (.ldc2_w 91, 3) := by decide +kernel
theorem dX12_set_22 : decode cX12_set 22 = .ok (.ldc2_w 93, 3) := by decide +kernel
theorem dX12_set_25 : decode cX12_set 25 = .ok (.invokestatic 83, 3) := by decide +kernel
theorem dX12_set_28 : decode cX12_set 28 = .ok (.ifCond .ne 7, 3) := by decide +kernel
theorem dX12_set_31 : decode cX12_set 31 = .ok (.ldc2_w 67, 3) := by decide +kernel
theorem dX12_set_34 : decode cX12_set 34 = .ok (.lreturn, 1) := by decide +kernel
theorem dX12_set_35 : decode cX12_set 35 = .ok (.aload_n 0, 1) := by decide +kernel
theorem dX12_set_36 : decode cX12_set 36 = .ok (.getfield 11, 3) := by decide +kernel
theorem dX12_set_39 : decode cX12_set 39 = .ok (.bipush 7, 2) := by decide +kernel
theorem dX12_set_41 : decode cX12_set 41 = .ok (.iload_n 1, 1) := by decide +kernel
theorem dX12_set_42 : decode cX12_set 42 = .ok (.imul, 1) := by decide +kernel
theorem dX12_set_43 : decode cX12_set 43 = .ok (.iload_n 2, 1) := by decide +kernel
theorem dX12_set_44 : decode cX12_set 44 = .ok (.iadd, 1) := by decide +kernel
theorem dX12_set_45 : decode cX12_set 45 = .ok (.iaload, 1) := by decide +kernel
theorem dX12_set_46 : decode cX12_set 46 = .ok (.istore 4, 2) := by decide +kernel
theorem dX12_set_48 : decode cX12_set 48 = .ok (.aload_n 0, 1) := by decide +kernel
theorem dX12_set_49 : decode cX12_set 49 = .ok (.getfield 11, 3) := by decide +kernel
theorem dX12_set_52 : decode cX12_set 52 = .ok (.bipush 7, 2) := by decide +kernel
theorem dX12_set_54 : decode cX12_set 54 = .ok (.iload_n 1, 1) := by decide +kernel
theorem dX12_set_55 : decode cX12_set 55 = .ok (.imul, 1) := by decide +kernel
theorem dX12_set_56 : decode cX12_set 56 = .ok (.iload_n 2, 1) := by decide +kernel
theorem dX12_set_57 : decode cX12_set 57 = .ok (.iadd, 1) := by decide +kernel
theorem dX12_set_58 : decode cX12_set 58 = .ok (.iload_n 3, 1) := by decide +kernel
theorem dX12_set_59 : decode cX12_set 59 = .ok (.iastore, 1) := by decide +kernel
theorem dX12_set_60 : decode cX12_set 60 = .ok (.iload 4, 2) := by decide +kernel
theorem dX12_set_62 : decode cX12_set 62 = .ok (.i2l, 1) := by decide +kernel
theorem dX12_set_63 : decode cX12_set 63 = .ok (.lreturn, 1) := by decide +kernel
theorem dX12_of_0 : decode cX12_of 0 = .ok (.iload_n 1, 1) := by decide +kernel
theorem dX12_of_1 : decode cX12_of 1 = .ok (.i2l, 1) := by decide +kernel
theorem dX12_of_2 : decode cX12_of 2 = .ok (.lconst 0, 1) := by decide +kernel
theorem dX12_of_3 : decode cX12_of 3 = .ok (.ldc2_w 95, 3) := by decide +kernel
theorem dX12_of_6 : decode cX12_of 6 = .ok (.invokestatic 83, 3) := by decide +kernel
theorem dX12_of_9 : decode cX12_of 9 = .ok (.ifCond .eq 10, 3) := by decide +kernel
theorem dX12_of_12 : decode cX12_of 12 = .ok (.iload_n 2, 1) := by decide +kernel
theorem dX12_of_13 : decode cX12_of 13 = .ok (.invokestatic 87, 3) := by decide +kernel
theorem dX12_of_16 : decode cX12_of 16 = .ok (.ifCond .ne 7, 3) := by decide +kernel
theorem dX12_of_19 : decode cX12_of 19 = .ok (.ldc2_w 67, 3) := by decide +kernel
theorem dX12_of_22 : decode cX12_of 22 = .ok (.lreturn, 1) := by decide +kernel
theorem dX12_of_23 : decode cX12_of 23 = .ok (.aload_n 0, 1) := by decide +kernel
theorem dX12_of_24 : decode cX12_of 24 = .ok (.iconst 1, 1) := by decide +kernel
theorem dX12_of_25 : decode cX12_of 25 = .ok (.aload_n 0, 1) := by decide +kernel
theorem dX12_of_26 : decode cX12_of 26 = .ok (.getfield 11, 3) := by decide +kernel
theorem dX12_of_29 : decode cX12_of 29 = .ok (.bipush 14, 2) := by decide +kernel
theorem dX12_of_31 : decode cX12_of 31 = .ok (.iaload, 1) := by decide +kernel
theorem dX12_of_32 : decode cX12_of 32 = .ok (.invokevirtual 97, 3) := by decide +kernel
theorem dX12_of_35 : decode cX12_of 35 = .ok (.iload_n 1, 1) := by decide +kernel
theorem dX12_of_36 : decode cX12_of 36 = .ok (.iconst 2, 1) := by decide +kernel
theorem dX12_of_37 : decode cX12_of 37 = .ok (.if_icmp .ne 12, 3) := by decide +kernel
theorem dX12_of_40 : decode cX12_of 40 = .ok (.aload_n 0, 1) := by decide +kernel
theorem dX12_of_41 : decode cX12_of 41 = .ok (.getfield 18, 3) := by decide +kernel
theorem dX12_of_44 : decode cX12_of 44 = .ok (.iload_n 2, 1) := by decide +kernel
theorem dX12_of_45 : decode cX12_of 45 = .ok (.laload, 1) := by decide +kernel
theorem dX12_of_46 : decode cX12_of 46 = .ok (.goto 15, 3) := by decide +kernel
theorem dX12_of_49 : decode cX12_of 49 = .ok (.aload_n 0, 1) := by decide +kernel
theorem dX12_of_50 : decode cX12_of 50 = .ok (.getfield 11, 3) := by decide +kernel
theorem dX12_of_53 : decode cX12_of 53 = .ok (.bipush 7, 2) := by decide +kernel
theorem dX12_of_55 : decode cX12_of 55 = .ok (.iload_n 1, 1) := by decide +kernel
theorem dX12_of_56 : decode cX12_of 56 = .ok (.imul, 1) := by decide +kernel
theorem dX12_of_57 : decode cX12_of 57 = .ok (.iload_n 2, 1) := by decide +kernel
theorem dX12_of_58 : decode cX12_of 58 = .ok (.iadd, 1) := by decide +kernel
theorem dX12_of_59 : decode cX12_of 59 = .ok (.iaload, 1) := by decide +kernel
theorem dX12_of_60 : decode cX12_of 60 = .ok (.i2l, 1) := by decide +kernel
theorem dX12_of_61 : decode cX12_of 61 = .ok (.lreturn, 1) := by decide +kernel
theorem dX12_gain_0 : decode cX12_gain 0 = .ok (.iload_n 1, 1) := by decide +kernel
theorem dX12_gain_1 : decode cX12_gain 1 = .ok (.i2l, 1) := by decide +kernel
theorem dX12_gain_2 : decode cX12_gain 2 = .ok (.ldc2_w 101, 3) := by decide +kernel
theorem dX12_gain_5 : decode cX12_gain 5 = .ok (.ldc2_w 103, 3) := by decide +kernel
theorem dX12_gain_8 : decode cX12_gain 8 = .ok (.invokestatic 83, 3) := by decide +kernel
theorem dX12_gain_11 : decode cX12_gain 11 = .ok (.ifCond .ne 6, 3) := by decide +kernel
theorem dX12_gain_14 : decode cX12_gain 14 = .ok (.bipush (-2), 2) := by decide +kernel
theorem dX12_gain_16 : decode cX12_gain 16 = .ok (.ireturn, 1) := by decide +kernel
theorem dX12_gain_17 : decode cX12_gain 17 = .ok (.aload_n 0, 1) := by decide +kernel
theorem dX12_gain_18 : decode cX12_gain 18 = .ok (.getfield 11, 3) := by decide +kernel
theorem dX12_gain_21 : decode cX12_gain 21 = .ok (.bipush 14, 2) := by decide +kernel
theorem dX12_gain_23 : decode cX12_gain 23 = .ok (.iload_n 1, 1) := by decide +kernel
theorem dX12_gain_24 : decode cX12_gain 24 = .ok (.iastore, 1) := by decide +kernel
theorem dX12_gain_25 : decode cX12_gain 25 = .ok (.iconst 1, 1) := by decide +kernel
theorem dX12_gain_26 : decode cX12_gain 26 = .ok (.ireturn, 1) := by decide +kernel
theorem dX12_isForm_0 : decode cX12_isForm 0 = .ok (.iload_n 0, 1) := by decide +kernel
theorem dX12_isForm_1 : decode cX12_isForm 1 = .ok (.i2l, 1) := by decide +kernel
theorem dX12_isForm_2 : decode cX12_isForm 2 = .ok (.lconst 0, 1) := by decide +kernel
theorem dX12_isForm_3 : decode cX12_isForm 3 = .ok (.ldc2_w 105, 3) := by decide +kernel
theorem dX12_isForm_6 : decode cX12_isForm 6 = .ok (.invokestatic 83, 3) := by decide +kernel
theorem dX12_isForm_9 : decode cX12_isForm 9 = .ok (.ifCond .ne 17, 3) := by decide +kernel
theorem dX12_isForm_12 : decode cX12_isForm 12 = .ok (.iload_n 0, 1) := by decide +kernel
theorem dX12_isForm_13 : decode cX12_isForm 13 = .ok (.i2l, 1) := by decide +kernel
theorem dX12_isForm_14 : decode cX12_isForm 14 = .ok (.ldc2_w 107, 3) := by decide +kernel
theorem dX12_isForm_17 : decode cX12_isForm 17 = .ok (.ldc2_w 109, 3) := by decide +kernel
theorem dX12_isForm_20 : decode cX12_isForm 20 = .ok (.invokestatic 83, 3) := by decide +kernel
theorem dX12_isForm_23 : decode cX12_isForm 23 = .ok (.ifCond .eq 7, 3) := by decide +kernel
theorem dX12_isForm_26 : decode cX12_isForm 26 = .ok (.iconst 1, 1) := by decide +kernel
theorem dX12_isForm_27 : decode cX12_isForm 27 = .ok (.goto 4, 3) := by decide +kernel
theorem dX12_isForm_30 : decode cX12_isForm 30 = .ok (.iconst 0, 1) := by decide +kernel
theorem dX12_isForm_31 : decode cX12_isForm 31 = .ok (.ireturn, 1) := by decide +kernel
theorem dX12_wider_0 : decode cX12_wider 0 = .ok (.bipush 6, 2) := by decide +kernel
theorem dX12_wider_2 : decode cX12_wider 2 = .ok (.istore_n 2, 1) := by decide +kernel
theorem dX12_wider_3 : decode cX12_wider 3 = .ok (.iload_n 2, 1) := by decide +kernel
theorem dX12_wider_4 : decode cX12_wider 4 = .ok (.ifCond .lt 41, 3) := by decide +kernel
theorem dX12_wider_7 : decode cX12_wider 7 = .ok (.aload_n 0, 1) := by decide +kernel
theorem dX12_wider_8 : decode cX12_wider 8 = .ok (.getfield 25, 3) := by decide +kernel
theorem dX12_wider_11 : decode cX12_wider 11 = .ok (.iload_n 2, 1) := by decide +kernel
theorem dX12_wider_12 : decode cX12_wider 12 = .ok (.iload_n 2, 1) := by decide +kernel
theorem dX12_wider_13 : decode cX12_wider 13 = .ok (.ifCond .le 14, 3) := by decide +kernel
theorem dX12_wider_16 : decode cX12_wider 16 = .ok (.aload_n 0, 1) := by decide +kernel
theorem dX12_wider_17 : decode cX12_wider 17 = .ok (.getfield 25, 3) := by decide +kernel
theorem dX12_wider_20 : decode cX12_wider 20 = .ok (.iload_n 2, 1) := by decide +kernel
theorem dX12_wider_21 : decode cX12_wider 21 = .ok (.iconst 1, 1) := by decide +kernel
theorem dX12_wider_22 : decode cX12_wider 22 = .ok (.isub, 1) := by decide +kernel
theorem dX12_wider_23 : decode cX12_wider 23 = .ok (.laload, 1) := by decide +kernel
theorem dX12_wider_24 : decode cX12_wider 24 = .ok (.goto 4, 3) := by decide +kernel
theorem dX12_wider_27 : decode cX12_wider 27 = .ok (.lconst 0, 1) := by decide +kernel
theorem dX12_wider_28 : decode cX12_wider 28 = .ok (.iload_n 1, 1) := by decide +kernel
theorem dX12_wider_29 : decode cX12_wider 29 = .ok (.i2l, 1) := by decide +kernel
theorem dX12_wider_30 : decode cX12_wider 30 = .ok (.aload_n 0, 1) := by decide +kernel
theorem dX12_wider_31 : decode cX12_wider 31 = .ok (.getfield 25, 3) := by decide +kernel
theorem dX12_wider_34 : decode cX12_wider 34 = .ok (.iload_n 2, 1) := by decide +kernel
theorem dX12_wider_35 : decode cX12_wider 35 = .ok (.laload, 1) := by decide +kernel
theorem dX12_wider_36 : decode cX12_wider 36 = .ok (.lmul, 1) := by decide +kernel
theorem dX12_wider_37 : decode cX12_wider 37 = .ok (.ladd, 1) := by decide +kernel
theorem dX12_wider_38 : decode cX12_wider 38 = .ok (.lastore, 1) := by decide +kernel
theorem dX12_wider_39 : decode cX12_wider 39 = .ok (.iinc 2 (-1), 3) := by decide +kernel
theorem dX12_wider_42 : decode cX12_wider 42 = .ok (.goto (-39), 3) := by decide +kernel
theorem dX12_wider_45 : decode cX12_wider 45 = .ok (.return_, 1) := by decide +kernel
theorem dX12_circles_0 : decode cX12_circles 0 = .ok (.iconst 0, 1) := by decide +kernel
theorem dX12_circles_1 : decode cX12_circles 1 = .ok (.istore_n 1, 1) := by decide +kernel
theorem dX12_circles_2 : decode cX12_circles 2 = .ok (.iload_n 1, 1) := by decide +kernel
theorem dX12_circles_3 : decode cX12_circles 3 = .ok (.bipush 7, 2) := by decide +kernel
theorem dX12_circles_5 : decode cX12_circles 5 = .ok (.if_icmp .ge 16, 3) := by decide +kernel
theorem dX12_circles_8 : decode cX12_circles 8 = .ok (.aload_n 0, 1) := by decide +kernel
theorem dX12_circles_9 : decode cX12_circles 9 = .ok (.getfield 22, 3) := by decide +kernel
theorem dX12_circles_12 : decode cX12_circles 12 = .ok (.iload_n 1, 1) := by decide +kernel
theorem dX12_circles_13 : decode cX12_circles 13 = .ok (.lconst 0, 1) := by decide +kernel
theorem dX12_circles_14 : decode cX12_circles 14 = .ok (.lastore, 1) := by decide +kernel
theorem dX12_circles_15 : decode cX12_circles 15 = .ok (.iinc 1 1, 3) := by decide +kernel
theorem dX12_circles_18 : decode cX12_circles 18 = .ok (.goto (-16), 3) := by decide +kernel
theorem dX12_circles_21 : decode cX12_circles 21 = .ok (.iconst 0, 1) := by decide +kernel
theorem dX12_circles_22 : decode cX12_circles 22 = .ok (.istore_n 1, 1) := by decide +kernel
theorem dX12_circles_23 : decode cX12_circles 23 = .ok (.iload_n 1, 1) := by decide +kernel
theorem dX12_circles_24 : decode cX12_circles 24 = .ok (.aload_n 0, 1) := by decide +kernel
theorem dX12_circles_25 : decode cX12_circles 25 = .ok (.getfield 77, 3) := by decide +kernel
theorem dX12_circles_28 : decode cX12_circles 28 = .ok (.if_icmp .gt 102, 3) := by decide +kernel
theorem dX12_circles_31 : decode cX12_circles 31 = .ok (.iconst 0, 1) := by decide +kernel
theorem dX12_circles_32 : decode cX12_circles 32 = .ok (.istore_n 2, 1) := by decide +kernel
theorem dX12_circles_33 : decode cX12_circles 33 = .ok (.iload_n 2, 1) := by decide +kernel
theorem dX12_circles_34 : decode cX12_circles 34 = .ok (.bipush 7, 2) := by decide +kernel
theorem dX12_circles_36 : decode cX12_circles 36 = .ok (.if_icmp .ge 29, 3) := by decide +kernel
theorem dX12_circles_39 : decode cX12_circles 39 = .ok (.aload_n 0, 1) := by decide +kernel
theorem dX12_circles_40 : decode cX12_circles 40 = .ok (.getfield 25, 3) := by decide +kernel
theorem dX12_circles_43 : decode cX12_circles 43 = .ok (.iload_n 2, 1) := by decide +kernel
theorem dX12_circles_44 : decode cX12_circles 44 = .ok (.iload_n 2, 1) := by decide +kernel
theorem dX12_circles_45 : decode cX12_circles 45 = .ok (.ifCond .ne 12, 3) := by decide +kernel
theorem dX12_circles_48 : decode cX12_circles 48 = .ok (.aload_n 0, 1) := by decide +kernel
theorem dX12_circles_49 : decode cX12_circles 49 = .ok (.getfield 18, 3) := by decide +kernel
theorem dX12_circles_52 : decode cX12_circles 52 = .ok (.iload_n 1, 1) := by decide +kernel
theorem dX12_circles_53 : decode cX12_circles 53 = .ok (.laload, 1) := by decide +kernel
theorem dX12_circles_54 : decode cX12_circles 54 = .ok (.goto 4, 3) := by decide +kernel
theorem dX12_circles_57 : decode cX12_circles 57 = .ok (.lconst 0, 1) := by decide +kernel
theorem dX12_circles_58 : decode cX12_circles 58 = .ok (.lastore, 1) := by decide +kernel
theorem dX12_circles_59 : decode cX12_circles 59 = .ok (.iinc 2 1, 3) := by decide +kernel
theorem dX12_circles_62 : decode cX12_circles 62 = .ok (.goto (-29), 3) := by decide +kernel
theorem dX12_circles_65 : decode cX12_circles 65 = .ok (.iconst 0, 1) := by decide +kernel
theorem dX12_circles_66 : decode cX12_circles 66 = .ok (.istore_n 2, 1) := by decide +kernel
theorem dX12_circles_67 : decode cX12_circles 67 = .ok (.iload_n 2, 1) := by decide +kernel
theorem dX12_circles_68 : decode cX12_circles 68 = .ok (.aload_n 0, 1) := by decide +kernel
theorem dX12_circles_69 : decode cX12_circles 69 = .ok (.getfield 77, 3) := by decide +kernel
theorem dX12_circles_72 : decode cX12_circles 72 = .ok (.if_icmp .ge 23, 3) := by decide +kernel
theorem dX12_circles_75 : decode cX12_circles 75 = .ok (.aload_n 0, 1) := by decide +kernel
theorem dX12_circles_76 : decode cX12_circles 76 = .ok (.iload_n 2, 1) := by decide +kernel
theorem dX12_circles_77 : decode cX12_circles 77 = .ok (.iload_n 1, 1) := by decide +kernel
theorem dX12_circles_78 : decode cX12_circles 78 = .ok (.if_icmp .ge 7, 3) := by decide +kernel
theorem dX12_circles_81 : decode cX12_circles 81 = .ok (.iconst 1, 1) := by decide +kernel
theorem dX12_circles_82 : decode cX12_circles 82 = .ok (.goto 4, 3) := by decide +kernel
theorem dX12_circles_85 : decode cX12_circles 85 = .ok (.iconst (-1), 1) := by decide +kernel
theorem dX12_circles_86 : decode cX12_circles 86 = .ok (.invokevirtual 111, 3) := by decide +kernel
theorem dX12_circles_89 : decode cX12_circles 89 = .ok (.iinc 2 1, 3) := by decide +kernel
theorem dX12_circles_92 : decode cX12_circles 92 = .ok (.goto (-25), 3) := by decide +kernel
theorem dX12_circles_95 : decode cX12_circles 95 = .ok (.iconst 0, 1) := by decide +kernel
theorem dX12_circles_96 : decode cX12_circles 96 = .ok (.istore_n 2, 1) := by decide +kernel
theorem dX12_circles_97 : decode cX12_circles 97 = .ok (.iload_n 2, 1) := by decide +kernel
theorem dX12_circles_98 : decode cX12_circles 98 = .ok (.bipush 7, 2) := by decide +kernel
theorem dX12_circles_100 : decode cX12_circles 100 = .ok (.if_icmp .ge 24, 3) := by decide +kernel
theorem dX12_circles_103 : decode cX12_circles 103 = .ok (.aload_n 0, 1) := by decide +kernel
theorem dX12_circles_104 : decode cX12_circles 104 = .ok (.getfield 22, 3) := by decide +kernel
theorem dX12_circles_107 : decode cX12_circles 107 = .ok (.iload_n 2, 1) := by decide +kernel
theorem dX12_circles_108 : decode cX12_circles 108 = .ok (.dup2, 1) := by decide +kernel
theorem dX12_circles_109 : decode cX12_circles 109 = .ok (.laload, 1) := by decide +kernel
theorem dX12_circles_110 : decode cX12_circles 110 = .ok (.aload_n 0, 1) := by decide +kernel
theorem dX12_circles_111 : decode cX12_circles 111 = .ok (.getfield 25, 3) := by decide +kernel
theorem dX12_circles_114 : decode cX12_circles 114 = .ok (.iload_n 2, 1) := by decide +kernel
theorem dX12_circles_115 : decode cX12_circles 115 = .ok (.laload, 1) := by decide +kernel
theorem dX12_circles_116 : decode cX12_circles 116 = .ok (.ladd, 1) := by decide +kernel
theorem dX12_circles_117 : decode cX12_circles 117 = .ok (.lastore, 1) := by decide +kernel
theorem dX12_circles_118 : decode cX12_circles 118 = .ok (.iinc 2 1, 3) := by decide +kernel
theorem dX12_circles_121 : decode cX12_circles 121 = .ok (.goto (-24), 3) := by decide +kernel
theorem dX12_circles_124 : decode cX12_circles 124 = .ok (.iinc 1 1, 3) := by decide +kernel
theorem dX12_circles_127 : decode cX12_circles 127 = .ok (.goto (-104), 3) := by decide +kernel
theorem dX12_circles_130 : decode cX12_circles 130 = .ok (.return_, 1) := by decide +kernel
theorem dX12_shifts_0 : decode cX12_shifts 0 = .ok (.iconst 0, 1) := by decide +kernel
theorem dX12_shifts_1 : decode cX12_shifts 1 = .ok (.istore_n 2, 1) := by decide +kernel
theorem dX12_shifts_2 : decode cX12_shifts 2 = .ok (.iload_n 2, 1) := by decide +kernel
theorem dX12_shifts_3 : decode cX12_shifts 3 = .ok (.bipush 7, 2) := by decide +kernel
theorem dX12_shifts_5 : decode cX12_shifts 5 = .ok (.if_icmp .ge 16, 3) := by decide +kernel
theorem dX12_shifts_8 : decode cX12_shifts 8 = .ok (.aload_n 0, 1) := by decide +kernel
theorem dX12_shifts_9 : decode cX12_shifts 9 = .ok (.getfield 25, 3) := by decide +kernel
theorem dX12_shifts_12 : decode cX12_shifts 12 = .ok (.iload_n 2, 1) := by decide +kernel
theorem dX12_shifts_13 : decode cX12_shifts 13 = .ok (.lconst 0, 1) := by decide +kernel
theorem dX12_shifts_14 : decode cX12_shifts 14 = .ok (.lastore, 1) := by decide +kernel
theorem dX12_shifts_15 : decode cX12_shifts 15 = .ok (.iinc 2 1, 3) := by decide +kernel
theorem dX12_shifts_18 : decode cX12_shifts 18 = .ok (.goto (-16), 3) := by decide +kernel
theorem dX12_shifts_21 : decode cX12_shifts 21 = .ok (.aload_n 0, 1) := by decide +kernel
theorem dX12_shifts_22 : decode cX12_shifts 22 = .ok (.getfield 77, 3) := by decide +kernel
theorem dX12_shifts_25 : decode cX12_shifts 25 = .ok (.istore_n 2, 1) := by decide +kernel
theorem dX12_shifts_26 : decode cX12_shifts 26 = .ok (.iload_n 2, 1) := by decide +kernel
theorem dX12_shifts_27 : decode cX12_shifts 27 = .ok (.ifCond .lt 29, 3) := by decide +kernel
theorem dX12_shifts_30 : decode cX12_shifts 30 = .ok (.aload_n 0, 1) := by decide +kernel
theorem dX12_shifts_31 : decode cX12_shifts 31 = .ok (.iload_n 1, 1) := by decide +kernel
theorem dX12_shifts_32 : decode cX12_shifts 32 = .ok (.invokevirtual 111, 3) := by decide +kernel
theorem dX12_shifts_35 : decode cX12_shifts 35 = .ok (.aload_n 0, 1) := by decide +kernel
theorem dX12_shifts_36 : decode cX12_shifts 36 = .ok (.getfield 25, 3) := by decide +kernel
theorem dX12_shifts_39 : decode cX12_shifts 39 = .ok (.iconst 0, 1) := by decide +kernel
theorem dX12_shifts_40 : decode cX12_shifts 40 = .ok (.dup2, 1) := by decide +kernel
theorem dX12_shifts_41 : decode cX12_shifts 41 = .ok (.laload, 1) := by decide +kernel
theorem dX12_shifts_42 : decode cX12_shifts 42 = .ok (.aload_n 0, 1) := by decide +kernel
theorem dX12_shifts_43 : decode cX12_shifts 43 = .ok (.getfield 18, 3) := by decide +kernel
theorem dX12_shifts_46 : decode cX12_shifts 46 = .ok (.iload_n 2, 1) := by decide +kernel
theorem dX12_shifts_47 : decode cX12_shifts 47 = .ok (.laload, 1) := by decide +kernel
theorem dX12_shifts_48 : decode cX12_shifts 48 = .ok (.ladd, 1) := by decide +kernel
theorem dX12_shifts_49 : decode cX12_shifts 49 = .ok (.lastore, 1) := by decide +kernel
theorem dX12_shifts_50 : decode cX12_shifts 50 = .ok (.iinc 2 (-1), 3) := by decide +kernel
theorem dX12_shifts_53 : decode cX12_shifts 53 = .ok (.goto (-27), 3) := by decide +kernel
theorem dX12_shifts_56 : decode cX12_shifts 56 = .ok (.iconst 0, 1) := by decide +kernel
theorem dX12_shifts_57 : decode cX12_shifts 57 = .ok (.istore_n 2, 1) := by decide +kernel
theorem dX12_shifts_58 : decode cX12_shifts 58 = .ok (.iload_n 2, 1) := by decide +kernel
theorem dX12_shifts_59 : decode cX12_shifts 59 = .ok (.bipush 7, 2) := by decide +kernel
theorem dX12_shifts_61 : decode cX12_shifts 61 = .ok (.if_icmp .ge 21, 3) := by decide +kernel
theorem dX12_shifts_64 : decode cX12_shifts 64 = .ok (.aload_n 0, 1) := by decide +kernel
theorem dX12_shifts_65 : decode cX12_shifts 65 = .ok (.getfield 22, 3) := by decide +kernel
theorem dX12_shifts_68 : decode cX12_shifts 68 = .ok (.iload_n 2, 1) := by decide +kernel
theorem dX12_shifts_69 : decode cX12_shifts 69 = .ok (.aload_n 0, 1) := by decide +kernel
theorem dX12_shifts_70 : decode cX12_shifts 70 = .ok (.getfield 25, 3) := by decide +kernel
theorem dX12_shifts_73 : decode cX12_shifts 73 = .ok (.iload_n 2, 1) := by decide +kernel
theorem dX12_shifts_74 : decode cX12_shifts 74 = .ok (.laload, 1) := by decide +kernel
theorem dX12_shifts_75 : decode cX12_shifts 75 = .ok (.lastore, 1) := by decide +kernel
theorem dX12_shifts_76 : decode cX12_shifts 76 = .ok (.iinc 2 1, 3) := by decide +kernel
theorem dX12_shifts_79 : decode cX12_shifts 79 = .ok (.goto (-21), 3) := by decide +kernel
theorem dX12_shifts_82 : decode cX12_shifts 82 = .ok (.return_, 1) := by decide +kernel
theorem dX12_forms_0 : decode cX12_forms 0 = .ok (.iload_n 1, 1) := by decide +kernel
theorem dX12_forms_1 : decode cX12_forms 1 = .ok (.iconst 3, 1) := by decide +kernel
theorem dX12_forms_2 : decode cX12_forms 2 = .ok (.if_icmp .ne 10, 3) := by decide +kernel
theorem dX12_forms_5 : decode cX12_forms 5 = .ok (.aload_n 0, 1) := by decide +kernel
theorem dX12_forms_6 : decode cX12_forms 6 = .ok (.invokevirtual 115, 3) := by decide +kernel
theorem dX12_forms_9 : decode cX12_forms 9 = .ok (.goto 99, 3) := by decide +kernel
theorem dX12_forms_12 : decode cX12_forms 12 = .ok (.iload_n 1, 1) := by decide +kernel
theorem dX12_forms_13 : decode cX12_forms 13 = .ok (.bipush 10, 2) := by decide +kernel
theorem dX12_forms_15 : decode cX12_forms 15 = .ok (.if_icmp .lt 14, 3) := by decide +kernel
theorem dX12_forms_18 : decode cX12_forms 18 = .ok (.aload_n 0, 1) := by decide +kernel
theorem dX12_forms_19 : decode cX12_forms 19 = .ok (.iload_n 1, 1) := by decide +kernel
theorem dX12_forms_20 : decode cX12_forms 20 = .ok (.bipush 30, 2) := by decide +kernel
theorem dX12_forms_22 : decode cX12_forms 22 = .ok (.isub, 1) := by decide +kernel
theorem dX12_forms_23 : decode cX12_forms 23 = .ok (.invokevirtual 118, 3) := by decide +kernel
theorem dX12_forms_26 : decode cX12_forms 26 = .ok (.goto 82, 3) := by decide +kernel
theorem dX12_forms_29 : decode cX12_forms 29 = .ok (.iconst 0, 1) := by decide +kernel
theorem dX12_forms_30 : decode cX12_forms 30 = .ok (.istore_n 2, 1) := by decide +kernel
theorem dX12_forms_31 : decode cX12_forms 31 = .ok (.iload_n 2, 1) := by decide +kernel
theorem dX12_forms_32 : decode cX12_forms 32 = .ok (.bipush 7, 2) := by decide +kernel
theorem dX12_forms_34 : decode cX12_forms 34 = .ok (.if_icmp .ge 74, 3) := by decide +kernel
theorem dX12_forms_37 : decode cX12_forms 37 = .ok (.aload_n 0, 1) := by decide +kernel
theorem dX12_forms_38 : decode cX12_forms 38 = .ok (.getfield 22, 3) := by decide +kernel
theorem dX12_forms_41 : decode cX12_forms 41 = .ok (.iload_n 2, 1) := by decide +kernel
theorem dX12_forms_42 : decode cX12_forms 42 = .ok (.iload_n 1, 1) := by decide +kernel
theorem dX12_forms_43 : decode cX12_forms 43 = .ok (.iconst 2, 1) := by decide +kernel
theorem dX12_forms_44 : decode cX12_forms 44 = .ok (.if_icmp .ne 29, 3) := by decide +kernel
theorem dX12_forms_47 : decode cX12_forms 47 = .ok (.iload_n 2, 1) := by decide +kernel
theorem dX12_forms_48 : decode cX12_forms 48 = .ok (.aload_n 0, 1) := by decide +kernel
theorem dX12_forms_49 : decode cX12_forms 49 = .ok (.getfield 77, 3) := by decide +kernel
theorem dX12_forms_52 : decode cX12_forms 52 = .ok (.if_icmp .gt 17, 3) := by decide +kernel
theorem dX12_forms_55 : decode cX12_forms 55 = .ok (.aload_n 0, 1) := by decide +kernel
theorem dX12_forms_56 : decode cX12_forms 56 = .ok (.getfield 18, 3) := by decide +kernel
theorem dX12_forms_59 : decode cX12_forms 59 = .ok (.aload_n 0, 1) := by decide +kernel
theorem dX12_forms_60 : decode cX12_forms 60 = .ok (.getfield 77, 3) := by decide +kernel
theorem dX12_forms_63 : decode cX12_forms 63 = .ok (.iload_n 2, 1) := by decide +kernel
theorem dX12_forms_64 : decode cX12_forms 64 = .ok (.isub, 1) := by decide +kernel
theorem dX12_forms_65 : decode cX12_forms 65 = .ok (.laload, 1) := by decide +kernel
theorem dX12_forms_66 : decode cX12_forms 66 = .ok (.goto 35, 3) := by decide +kernel
theorem dX12_forms_69 : decode cX12_forms 69 = .ok (.lconst 0, 1) := by decide +kernel
theorem dX12_forms_70 : decode cX12_forms 70 = .ok (.goto 31, 3) := by decide +kernel
theorem dX12_forms_73 : decode cX12_forms 73 = .ok (.iload_n 1, 1) := by decide +kernel
theorem dX12_forms_74 : decode cX12_forms 74 = .ok (.iconst 1, 1) := by decide +kernel
theorem dX12_forms_75 : decode cX12_forms 75 = .ok (.if_icmp .ne 20, 3) := by decide +kernel
theorem dX12_forms_78 : decode cX12_forms 78 = .ok (.iload_n 2, 1) := by decide +kernel
theorem dX12_forms_79 : decode cX12_forms 79 = .ok (.iconst 2, 1) := by decide +kernel
theorem dX12_forms_80 : decode cX12_forms 80 = .ok (.irem, 1) := by decide +kernel
theorem dX12_forms_81 : decode cX12_forms 81 = .ok (.iconst 1, 1) := by decide +kernel
theorem dX12_forms_82 : decode cX12_forms 82 = .ok (.if_icmp .ne 13, 3) := by decide +kernel
theorem dX12_forms_85 : decode cX12_forms 85 = .ok (.aload_n 0, 1) := by decide +kernel
theorem dX12_forms_86 : decode cX12_forms 86 = .ok (.getfield 18, 3) := by decide +kernel
theorem dX12_forms_89 : decode cX12_forms 89 = .ok (.iload_n 2, 1) := by decide +kernel
theorem dX12_forms_90 : decode cX12_forms 90 = .ok (.laload, 1) := by decide +kernel
theorem dX12_forms_91 : decode cX12_forms 91 = .ok (.lneg, 1) := by decide +kernel
theorem dX12_forms_92 : decode cX12_forms 92 = .ok (.goto 9, 3) := by decide +kernel
theorem dX12_forms_95 : decode cX12_forms 95 = .ok (.aload_n 0, 1) := by decide +kernel
theorem dX12_forms_96 : decode cX12_forms 96 = .ok (.getfield 18, 3) := by decide +kernel
theorem dX12_forms_99 : decode cX12_forms 99 = .ok (.iload_n 2, 1) := by decide +kernel
theorem dX12_forms_100 : decode cX12_forms 100 = .ok (.laload, 1) := by decide +kernel
theorem dX12_forms_101 : decode cX12_forms 101 = .ok (.lastore, 1) := by decide +kernel
theorem dX12_forms_102 : decode cX12_forms 102 = .ok (.iinc 2 1, 3) := by decide +kernel
theorem dX12_forms_105 : decode cX12_forms 105 = .ok (.goto (-74), 3) := by decide +kernel
theorem dX12_forms_108 : decode cX12_forms 108 = .ok (.aload_n 0, 1) := by decide +kernel
theorem dX12_forms_109 : decode cX12_forms 109 = .ok (.aload_n 0, 1) := by decide +kernel
theorem dX12_forms_110 : decode cX12_forms 110 = .ok (.getfield 22, 3) := by decide +kernel
theorem dX12_forms_113 : decode cX12_forms 113 = .ok (.invokestatic 73, 3) := by decide +kernel
theorem dX12_forms_116 : decode cX12_forms 116 = .ok (.putfield 121, 3) := by decide +kernel
theorem dX12_forms_119 : decode cX12_forms 119 = .ok (.aload_n 0, 1) := by decide +kernel
theorem dX12_forms_120 : decode cX12_forms 120 = .ok (.aload_n 0, 1) := by decide +kernel
theorem dX12_forms_121 : decode cX12_forms 121 = .ok (.getfield 77, 3) := by decide +kernel
theorem dX12_forms_124 : decode cX12_forms 124 = .ok (.ifCond .ge 7, 3) := by decide +kernel
theorem dX12_forms_127 : decode cX12_forms 127 = .ok (.iconst 0, 1) := by decide +kernel
theorem dX12_forms_128 : decode cX12_forms 128 = .ok (.goto 12, 3) := by decide +kernel
theorem dX12_forms_131 : decode cX12_forms 131 = .ok (.aload_n 0, 1) := by decide +kernel
theorem dX12_forms_132 : decode cX12_forms 132 = .ok (.getfield 77, 3) := by decide +kernel
theorem dX12_forms_135 : decode cX12_forms 135 = .ok (.aload_n 0, 1) := by decide +kernel
theorem dX12_forms_136 : decode cX12_forms 136 = .ok (.getfield 121, 3) := by decide +kernel
theorem dX12_forms_139 : decode cX12_forms 139 = .ok (.isub, 1) := by decide +kernel
theorem dX12_forms_140 : decode cX12_forms 140 = .ok (.putfield 124, 3) := by decide +kernel
theorem dX12_forms_143 : decode cX12_forms 143 = .ok (.return_, 1) := by decide +kernel
theorem dX12_laysForm_0 : decode cX12_laysForm 0 = .ok (.aload_n 0, 1) := by decide +kernel
theorem dX12_laysForm_1 : decode cX12_laysForm 1 = .ok (.iconst 1, 1) := by decide +kernel
theorem dX12_laysForm_2 : decode cX12_laysForm 2 = .ok (.aload_n 0, 1) := by decide +kernel
theorem dX12_laysForm_3 : decode cX12_laysForm 3 = .ok (.getfield 11, 3) := by decide +kernel
theorem dX12_laysForm_6 : decode cX12_laysForm 6 = .ok (.bipush 14, 2) := by decide +kernel
theorem dX12_laysForm_8 : decode cX12_laysForm 8 = .ok (.iaload, 1) := by decide +kernel
theorem dX12_laysForm_9 : decode cX12_laysForm 9 = .ok (.invokevirtual 97, 3) := by decide +kernel
theorem dX12_laysForm_12 : decode cX12_laysForm 12 = .ok (.aload_n 0, 1) := by decide +kernel
theorem dX12_laysForm_13 : decode cX12_laysForm 13 = .ok (.iload_n 1, 1) := by decide +kernel
theorem dX12_laysForm_14 : decode cX12_laysForm 14 = .ok (.invokevirtual 127, 3) := by decide +kernel
theorem dX12_laysForm_17 : decode cX12_laysForm 17 = .ok (.return_, 1) := by decide +kernel
theorem dX12_form_0 : decode cX12_form 0 = .ok (.iload_n 1, 1) := by decide +kernel
theorem dX12_form_1 : decode cX12_form 1 = .ok (.invokestatic 130, 3) := by decide +kernel
theorem dX12_form_4 : decode cX12_form 4 = .ok (.ifCond .eq 10, 3) := by decide +kernel
theorem dX12_form_7 : decode cX12_form 7 = .ok (.iload_n 2, 1) := by decide +kernel
theorem dX12_form_8 : decode cX12_form 8 = .ok (.invokestatic 87, 3) := by decide +kernel
theorem dX12_form_11 : decode cX12_form 11 = .ok (.ifCond .ne 7, 3) := by decide +kernel
theorem dX12_form_14 : decode cX12_form 14 = .ok (.ldc2_w 67, 3) := by decide +kernel
theorem dX12_form_17 : decode cX12_form 17 = .ok (.lreturn, 1) := by decide +kernel
theorem dX12_form_18 : decode cX12_form 18 = .ok (.aload_n 0, 1) := by decide +kernel
theorem dX12_form_19 : decode cX12_form 19 = .ok (.iload_n 1, 1) := by decide +kernel
theorem dX12_form_20 : decode cX12_form 20 = .ok (.invokevirtual 133, 3) := by decide +kernel
theorem dX12_form_23 : decode cX12_form 23 = .ok (.aload_n 0, 1) := by decide +kernel
theorem dX12_form_24 : decode cX12_form 24 = .ok (.getfield 22, 3) := by decide +kernel
theorem dX12_form_27 : decode cX12_form 27 = .ok (.iload_n 2, 1) := by decide +kernel
theorem dX12_form_28 : decode cX12_form 28 = .ok (.laload, 1) := by decide +kernel
theorem dX12_form_29 : decode cX12_form 29 = .ok (.lreturn, 1) := by decide +kernel
theorem dX12_degree_0 : decode cX12_degree 0 = .ok (.iload_n 1, 1) := by decide +kernel
theorem dX12_degree_1 : decode cX12_degree 1 = .ok (.invokestatic 130, 3) := by decide +kernel
theorem dX12_degree_4 : decode cX12_degree 4 = .ok (.ifCond .eq 13, 3) := by decide +kernel
theorem dX12_degree_7 : decode cX12_degree 7 = .ok (.iload_n 2, 1) := by decide +kernel
theorem dX12_degree_8 : decode cX12_degree 8 = .ok (.i2l, 1) := by decide +kernel
theorem dX12_degree_9 : decode cX12_degree 9 = .ok (.lconst 0, 1) := by decide +kernel
theorem dX12_degree_10 : decode cX12_degree 10 = .ok (.lconst 1, 1) := by decide +kernel
theorem dX12_degree_11 : decode cX12_degree 11 = .ok (.invokestatic 83, 3) := by decide +kernel
theorem dX12_degree_14 : decode cX12_degree 14 = .ok (.ifCond .ne 6, 3) := by decide +kernel
theorem dX12_degree_17 : decode cX12_degree 17 = .ok (.bipush (-2), 2) := by decide +kernel
theorem dX12_degree_19 : decode cX12_degree 19 = .ok (.ireturn, 1) := by decide +kernel
theorem dX12_degree_20 : decode cX12_degree 20 = .ok (.aload_n 0, 1) := by decide +kernel
theorem dX12_degree_21 : decode cX12_degree 21 = .ok (.iload_n 1, 1) := by decide +kernel
theorem dX12_degree_22 : decode cX12_degree 22 = .ok (.invokevirtual 133, 3) := by decide +kernel
theorem dX12_degree_25 : decode cX12_degree 25 = .ok (.iload_n 2, 1) := by decide +kernel
theorem dX12_degree_26 : decode cX12_degree 26 = .ok (.ifCond .ne 10, 3) := by decide +kernel
theorem dX12_degree_29 : decode cX12_degree 29 = .ok (.aload_n 0, 1) := by decide +kernel
theorem dX12_degree_30 : decode cX12_degree 30 = .ok (.getfield 121, 3) := by decide +kernel
end
section
theorem dX12_degree_33 : decode cX12_degree 33 = .ok (.goto 7, 3) := by decide +kernel
theorem dX12_degree_36 : decode cX12_degree 36 = .ok (.aload_n 0, 1) := by decide +kernel
theorem dX12_degree_37 : decode cX12_degree 37 = .ok (.getfield 124, 3) := by decide +kernel
theorem dX12_degree_40 : decode cX12_degree 40 = .ok (.ireturn, 1) := by decide +kernel
theorem dX12_itemMany_0 : decode cX12_itemMany 0 = .ok (.aload_n 0, 1) := by decide +kernel
theorem dX12_itemMany_1 : decode cX12_itemMany 1 = .ok (.getfield 121, 3) := by decide +kernel
theorem dX12_itemMany_4 : decode cX12_itemMany 4 = .ok (.iload_n 1, 1) := by decide +kernel
theorem dX12_itemMany_5 : decode cX12_itemMany 5 = .ok (.isub, 1) := by decide +kernel
theorem dX12_itemMany_6 : decode cX12_itemMany 6 = .ok (.iconst 2, 1) := by decide +kernel
theorem dX12_itemMany_7 : decode cX12_itemMany 7 = .ok (.idiv, 1) := by decide +kernel
theorem dX12_itemMany_8 : decode cX12_itemMany 8 = .ok (.iconst 1, 1) := by decide +kernel
theorem dX12_itemMany_9 : decode cX12_itemMany 9 = .ok (.iadd, 1) := by decide +kernel
theorem dX12_itemMany_10 : decode cX12_itemMany 10 = .ok (.ireturn, 1) := by decide +kernel
theorem dX12_item_0 : decode cX12_item 0 = .ok (.iload_n 2, 1) := by decide +kernel
theorem dX12_item_1 : decode cX12_item 1 = .ok (.bipush 6, 2) := by decide +kernel
theorem dX12_item_3 : decode cX12_item 3 = .ok (.if_icmp .ge 17, 3) := by decide +kernel
theorem dX12_item_6 : decode cX12_item 6 = .ok (.aload_n 0, 1) := by decide +kernel
theorem dX12_item_7 : decode cX12_item 7 = .ok (.getfield 28, 3) := by decide +kernel
theorem dX12_item_10 : decode cX12_item 10 = .ok (.bipush 6, 2) := by decide +kernel
theorem dX12_item_12 : decode cX12_item 12 = .ok (.iload_n 1, 1) := by decide +kernel
theorem dX12_item_13 : decode cX12_item 13 = .ok (.imul, 1) := by decide +kernel
theorem dX12_item_14 : decode cX12_item 14 = .ok (.iload_n 2, 1) := by decide +kernel
theorem dX12_item_15 : decode cX12_item 15 = .ok (.iadd, 1) := by decide +kernel
theorem dX12_item_16 : decode cX12_item 16 = .ok (.laload, 1) := by decide +kernel
theorem dX12_item_17 : decode cX12_item 17 = .ok (.goto 4, 3) := by decide +kernel
theorem dX12_item_20 : decode cX12_item 20 = .ok (.lconst 0, 1) := by decide +kernel
theorem dX12_item_21 : decode cX12_item 21 = .ok (.lreturn, 1) := by decide +kernel
theorem dX12_firstNot_0 : decode cX12_firstNot 0 = .ok (.iconst 0, 1) := by decide +kernel
theorem dX12_firstNot_1 : decode cX12_firstNot 1 = .ok (.istore_n 2, 1) := by decide +kernel
theorem dX12_firstNot_2 : decode cX12_firstNot 2 = .ok (.iload_n 2, 1) := by decide +kernel
theorem dX12_firstNot_3 : decode cX12_firstNot 3 = .ok (.aload_n 0, 1) := by decide +kernel
theorem dX12_firstNot_4 : decode cX12_firstNot 4 = .ok (.iload_n 1, 1) := by decide +kernel
theorem dX12_firstNot_5 : decode cX12_firstNot 5 = .ok (.invokevirtual 136, 3) := by decide +kernel
theorem dX12_firstNot_8 : decode cX12_firstNot 8 = .ok (.if_icmp .ge 20, 3) := by decide +kernel
theorem dX12_firstNot_11 : decode cX12_firstNot 11 = .ok (.aload_n 0, 1) := by decide +kernel
theorem dX12_firstNot_12 : decode cX12_firstNot 12 = .ok (.iload_n 1, 1) := by decide +kernel
theorem dX12_firstNot_13 : decode cX12_firstNot 13 = .ok (.iload_n 2, 1) := by decide +kernel
theorem dX12_firstNot_14 : decode cX12_firstNot 14 = .ok (.invokevirtual 140, 3) := by decide +kernel
theorem dX12_firstNot_17 : decode cX12_firstNot 17 = .ok (.lconst 0, 1) := by decide +kernel
theorem dX12_firstNot_18 : decode cX12_firstNot 18 = .ok (.lcmp, 1) := by decide +kernel
theorem dX12_firstNot_19 : decode cX12_firstNot 19 = .ok (.ifCond .ne 9, 3) := by decide +kernel
theorem dX12_firstNot_22 : decode cX12_firstNot 22 = .ok (.iinc 2 1, 3) := by decide +kernel
theorem dX12_firstNot_25 : decode cX12_firstNot 25 = .ok (.goto (-23), 3) := by decide +kernel
theorem dX12_firstNot_28 : decode cX12_firstNot 28 = .ok (.iload_n 2, 1) := by decide +kernel
theorem dX12_firstNot_29 : decode cX12_firstNot 29 = .ok (.ireturn, 1) := by decide +kernel
theorem dX12_mends_0 : decode cX12_mends 0 = .ok (.aload_n 0, 1) := by decide +kernel
theorem dX12_mends_1 : decode cX12_mends 1 = .ok (.iload_n 1, 1) := by decide +kernel
theorem dX12_mends_2 : decode cX12_mends 2 = .ok (.invokevirtual 144, 3) := by decide +kernel
theorem dX12_mends_5 : decode cX12_mends 5 = .ok (.istore_n 2, 1) := by decide +kernel
theorem dX12_mends_6 : decode cX12_mends 6 = .ok (.aload_n 0, 1) := by decide +kernel
theorem dX12_mends_7 : decode cX12_mends 7 = .ok (.iload_n 1, 1) := by decide +kernel
theorem dX12_mends_8 : decode cX12_mends 8 = .ok (.invokevirtual 136, 3) := by decide +kernel
theorem dX12_mends_11 : decode cX12_mends 11 = .ok (.istore_n 3, 1) := by decide +kernel
theorem dX12_mends_12 : decode cX12_mends 12 = .ok (.aload_n 0, 1) := by decide +kernel
theorem dX12_mends_13 : decode cX12_mends 13 = .ok (.getfield 34, 3) := by decide +kernel
theorem dX12_mends_16 : decode cX12_mends 16 = .ok (.iload_n 1, 1) := by decide +kernel
theorem dX12_mends_17 : decode cX12_mends 17 = .ok (.iload_n 1, 1) := by decide +kernel
theorem dX12_mends_18 : decode cX12_mends 18 = .ok (.ifCond .eq 7, 3) := by decide +kernel
theorem dX12_mends_21 : decode cX12_mends 21 = .ok (.iload_n 2, 1) := by decide +kernel
theorem dX12_mends_22 : decode cX12_mends 22 = .ok (.ifCond .ne 7, 3) := by decide +kernel
theorem dX12_mends_25 : decode cX12_mends 25 = .ok (.iconst 0, 1) := by decide +kernel
theorem dX12_mends_26 : decode cX12_mends 26 = .ok (.goto 13, 3) := by decide +kernel
theorem dX12_mends_29 : decode cX12_mends 29 = .ok (.iload_n 2, 1) := by decide +kernel
theorem dX12_mends_30 : decode cX12_mends 30 = .ok (.iload_n 3, 1) := by decide +kernel
theorem dX12_mends_31 : decode cX12_mends 31 = .ok (.if_icmp .ne 7, 3) := by decide +kernel
theorem dX12_mends_34 : decode cX12_mends 34 = .ok (.iconst 2, 1) := by decide +kernel
theorem dX12_mends_35 : decode cX12_mends 35 = .ok (.goto 4, 3) := by decide +kernel
theorem dX12_mends_38 : decode cX12_mends 38 = .ok (.iconst 1, 1) := by decide +kernel
theorem dX12_mends_39 : decode cX12_mends 39 = .ok (.iastore, 1) := by decide +kernel
theorem dX12_mends_40 : decode cX12_mends 40 = .ok (.iconst 0, 1) := by decide +kernel
theorem dX12_mends_41 : decode cX12_mends 41 = .ok (.istore 4, 2) := by decide +kernel
theorem dX12_mends_43 : decode cX12_mends 43 = .ok (.iload 4, 2) := by decide +kernel
theorem dX12_mends_45 : decode cX12_mends 45 = .ok (.bipush 6, 2) := by decide +kernel
theorem dX12_mends_47 : decode cX12_mends 47 = .ok (.if_icmp .ge 23, 3) := by decide +kernel
theorem dX12_mends_50 : decode cX12_mends 50 = .ok (.aload_n 0, 1) := by decide +kernel
theorem dX12_mends_51 : decode cX12_mends 51 = .ok (.getfield 31, 3) := by decide +kernel
theorem dX12_mends_54 : decode cX12_mends 54 = .ok (.iload 4, 2) := by decide +kernel
theorem dX12_mends_56 : decode cX12_mends 56 = .ok (.aload_n 0, 1) := by decide +kernel
theorem dX12_mends_57 : decode cX12_mends 57 = .ok (.iload_n 1, 1) := by decide +kernel
theorem dX12_mends_58 : decode cX12_mends 58 = .ok (.iload 4, 2) := by decide +kernel
theorem dX12_mends_60 : decode cX12_mends 60 = .ok (.invokevirtual 140, 3) := by decide +kernel
theorem dX12_mends_63 : decode cX12_mends 63 = .ok (.lastore, 1) := by decide +kernel
theorem dX12_mends_64 : decode cX12_mends 64 = .ok (.iinc 4 1, 3) := by decide +kernel
theorem dX12_mends_67 : decode cX12_mends 67 = .ok (.goto (-24), 3) := by decide +kernel
theorem dX12_mends_70 : decode cX12_mends 70 = .ok (.iconst 0, 1) := by decide +kernel
theorem dX12_mends_71 : decode cX12_mends 71 = .ok (.istore 4, 2) := by decide +kernel
theorem dX12_mends_73 : decode cX12_mends 73 = .ok (.iload 4, 2) := by decide +kernel
theorem dX12_mends_75 : decode cX12_mends 75 = .ok (.iload_n 3, 1) := by decide +kernel
theorem dX12_mends_76 : decode cX12_mends 76 = .ok (.if_icmp .ge 129, 3) := by decide +kernel
theorem dX12_mends_79 : decode cX12_mends 79 = .ok (.aload_n 0, 1) := by decide +kernel
theorem dX12_mends_80 : decode cX12_mends 80 = .ok (.getfield 34, 3) := by decide +kernel
theorem dX12_mends_83 : decode cX12_mends 83 = .ok (.iload_n 1, 1) := by decide +kernel
theorem dX12_mends_84 : decode cX12_mends 84 = .ok (.iaload, 1) := by decide +kernel
theorem dX12_mends_85 : decode cX12_mends 85 = .ok (.ifCond .le 120, 3) := by decide +kernel
theorem dX12_mends_88 : decode cX12_mends 88 = .ok (.iload 4, 2) := by decide +kernel
theorem dX12_mends_90 : decode cX12_mends 90 = .ok (.iload_n 2, 1) := by decide +kernel
theorem dX12_mends_91 : decode cX12_mends 91 = .ok (.iadd, 1) := by decide +kernel
theorem dX12_mends_92 : decode cX12_mends 92 = .ok (.iload_n 3, 1) := by decide +kernel
theorem dX12_mends_93 : decode cX12_mends 93 = .ok (.if_icmp .ge 38, 3) := by decide +kernel
theorem dX12_mends_96 : decode cX12_mends 96 = .ok (.iload_n 2, 1) := by decide +kernel
theorem dX12_mends_97 : decode cX12_mends 97 = .ok (.iconst 2, 1) := by decide +kernel
theorem dX12_mends_98 : decode cX12_mends 98 = .ok (.irem, 1) := by decide +kernel
theorem dX12_mends_99 : decode cX12_mends 99 = .ok (.iconst 1, 1) := by decide +kernel
theorem dX12_mends_100 : decode cX12_mends 100 = .ok (.if_icmp .ne 19, 3) := by decide +kernel
theorem dX12_mends_103 : decode cX12_mends 103 = .ok (.aload_n 0, 1) := by decide +kernel
theorem dX12_mends_104 : decode cX12_mends 104 = .ok (.aload_n 0, 1) := by decide +kernel
theorem dX12_mends_105 : decode cX12_mends 105 = .ok (.getfield 31, 3) := by decide +kernel
theorem dX12_mends_108 : decode cX12_mends 108 = .ok (.iload 4, 2) := by decide +kernel
theorem dX12_mends_110 : decode cX12_mends 110 = .ok (.iload_n 2, 1) := by decide +kernel
theorem dX12_mends_111 : decode cX12_mends 111 = .ok (.iadd, 1) := by decide +kernel
theorem dX12_mends_112 : decode cX12_mends 112 = .ok (.laload, 1) := by decide +kernel
theorem dX12_mends_113 : decode cX12_mends 113 = .ok (.invokevirtual 147, 3) := by decide +kernel
theorem dX12_mends_116 : decode cX12_mends 116 = .ok (.goto 16, 3) := by decide +kernel
theorem dX12_mends_119 : decode cX12_mends 119 = .ok (.aload_n 0, 1) := by decide +kernel
theorem dX12_mends_120 : decode cX12_mends 120 = .ok (.getfield 31, 3) := by decide +kernel
theorem dX12_mends_123 : decode cX12_mends 123 = .ok (.iload 4, 2) := by decide +kernel
theorem dX12_mends_125 : decode cX12_mends 125 = .ok (.iload_n 2, 1) := by decide +kernel
theorem dX12_mends_126 : decode cX12_mends 126 = .ok (.iadd, 1) := by decide +kernel
theorem dX12_mends_127 : decode cX12_mends 127 = .ok (.laload, 1) := by decide +kernel
theorem dX12_mends_128 : decode cX12_mends 128 = .ok (.goto 4, 3) := by decide +kernel
theorem dX12_mends_131 : decode cX12_mends 131 = .ok (.lconst 0, 1) := by decide +kernel
theorem dX12_mends_132 : decode cX12_mends 132 = .ok (.lstore 5, 2) := by decide +kernel
theorem dX12_mends_134 : decode cX12_mends 134 = .ok (.aload_n 0, 1) := by decide +kernel
theorem dX12_mends_135 : decode cX12_mends 135 = .ok (.getfield 28, 3) := by decide +kernel
theorem dX12_mends_138 : decode cX12_mends 138 = .ok (.bipush 6, 2) := by decide +kernel
theorem dX12_mends_140 : decode cX12_mends 140 = .ok (.iload_n 1, 1) := by decide +kernel
theorem dX12_mends_141 : decode cX12_mends 141 = .ok (.imul, 1) := by decide +kernel
theorem dX12_mends_142 : decode cX12_mends 142 = .ok (.iload 4, 2) := by decide +kernel
theorem dX12_mends_144 : decode cX12_mends 144 = .ok (.iadd, 1) := by decide +kernel
theorem dX12_mends_145 : decode cX12_mends 145 = .ok (.aload_n 0, 1) := by decide +kernel
theorem dX12_mends_146 : decode cX12_mends 146 = .ok (.getfield 34, 3) := by decide +kernel
theorem dX12_mends_149 : decode cX12_mends 149 = .ok (.iload_n 1, 1) := by decide +kernel
theorem dX12_mends_150 : decode cX12_mends 150 = .ok (.iaload, 1) := by decide +kernel
theorem dX12_mends_151 : decode cX12_mends 151 = .ok (.iconst 2, 1) := by decide +kernel
theorem dX12_mends_152 : decode cX12_mends 152 = .ok (.if_icmp .ne 33, 3) := by decide +kernel
theorem dX12_mends_155 : decode cX12_mends 155 = .ok (.aload_n 0, 1) := by decide +kernel
theorem dX12_mends_156 : decode cX12_mends 156 = .ok (.aload_n 0, 1) := by decide +kernel
theorem dX12_mends_157 : decode cX12_mends 157 = .ok (.iload_n 1, 1) := by decide +kernel
theorem dX12_mends_158 : decode cX12_mends 158 = .ok (.iconst 1, 1) := by decide +kernel
theorem dX12_mends_159 : decode cX12_mends 159 = .ok (.isub, 1) := by decide +kernel
theorem dX12_mends_160 : decode cX12_mends 160 = .ok (.iload 4, 2) := by decide +kernel
theorem dX12_mends_162 : decode cX12_mends 162 = .ok (.invokevirtual 140, 3) := by decide +kernel
theorem dX12_mends_165 : decode cX12_mends 165 = .ok (.aload_n 0, 1) := by decide +kernel
theorem dX12_mends_166 : decode cX12_mends 166 = .ok (.getfield 121, 3) := by decide +kernel
theorem dX12_mends_169 : decode cX12_mends 169 = .ok (.iload_n 1, 1) := by decide +kernel
theorem dX12_mends_170 : decode cX12_mends 170 = .ok (.isub, 1) := by decide +kernel
theorem dX12_mends_171 : decode cX12_mends 171 = .ok (.iconst 1, 1) := by decide +kernel
theorem dX12_mends_172 : decode cX12_mends 172 = .ok (.iadd, 1) := by decide +kernel
theorem dX12_mends_173 : decode cX12_mends 173 = .ok (.iconst 2, 1) := by decide +kernel
theorem dX12_mends_174 : decode cX12_mends 174 = .ok (.iload 4, 2) := by decide +kernel
theorem dX12_mends_176 : decode cX12_mends 176 = .ok (.imul, 1) := by decide +kernel
theorem dX12_mends_177 : decode cX12_mends 177 = .ok (.isub, 1) := by decide +kernel
theorem dX12_mends_178 : decode cX12_mends 178 = .ok (.i2l, 1) := by decide +kernel
theorem dX12_mends_179 : decode cX12_mends 179 = .ok (.invokevirtual 151, 3) := by decide +kernel
theorem dX12_mends_182 : decode cX12_mends 182 = .ok (.goto 16, 3) := by decide +kernel
theorem dX12_mends_185 : decode cX12_mends 185 = .ok (.aload_n 0, 1) := by decide +kernel
theorem dX12_mends_186 : decode cX12_mends 186 = .ok (.aload_n 0, 1) := by decide +kernel
theorem dX12_mends_187 : decode cX12_mends 187 = .ok (.getfield 31, 3) := by decide +kernel
theorem dX12_mends_190 : decode cX12_mends 190 = .ok (.iload 4, 2) := by decide +kernel
theorem dX12_mends_192 : decode cX12_mends 192 = .ok (.laload, 1) := by decide +kernel
theorem dX12_mends_193 : decode cX12_mends 193 = .ok (.lload 5, 2) := by decide +kernel
theorem dX12_mends_195 : decode cX12_mends 195 = .ok (.invokevirtual 155, 3) := by decide +kernel
theorem dX12_mends_198 : decode cX12_mends 198 = .ok (.lastore, 1) := by decide +kernel
theorem dX12_mends_199 : decode cX12_mends 199 = .ok (.iinc 4 1, 3) := by decide +kernel
theorem dX12_mends_202 : decode cX12_mends 202 = .ok (.goto (-129), 3) := by decide +kernel
theorem dX12_mends_205 : decode cX12_mends 205 = .ok (.lconst 0, 1) := by decide +kernel
theorem dX12_mends_206 : decode cX12_mends 206 = .ok (.lstore 4, 2) := by decide +kernel
theorem dX12_mends_208 : decode cX12_mends 208 = .ok (.iconst 0, 1) := by decide +kernel
theorem dX12_mends_209 : decode cX12_mends 209 = .ok (.istore 6, 2) := by decide +kernel
theorem dX12_mends_211 : decode cX12_mends 211 = .ok (.iload 6, 2) := by decide +kernel
theorem dX12_mends_213 : decode cX12_mends 213 = .ok (.iload_n 3, 1) := by decide +kernel
theorem dX12_mends_214 : decode cX12_mends 214 = .ok (.if_icmp .ge 23, 3) := by decide +kernel
theorem dX12_mends_217 : decode cX12_mends 217 = .ok (.aload_n 0, 1) := by decide +kernel
theorem dX12_mends_218 : decode cX12_mends 218 = .ok (.iload_n 1, 1) := by decide +kernel
theorem dX12_mends_219 : decode cX12_mends 219 = .ok (.iload 6, 2) := by decide +kernel
theorem dX12_mends_221 : decode cX12_mends 221 = .ok (.invokevirtual 140, 3) := by decide +kernel
theorem dX12_mends_224 : decode cX12_mends 224 = .ok (.lload 4, 2) := by decide +kernel
theorem dX12_mends_226 : decode cX12_mends 226 = .ok (.invokestatic 158, 3) := by decide +kernel
theorem dX12_mends_229 : decode cX12_mends 229 = .ok (.lstore 4, 2) := by decide +kernel
theorem dX12_mends_231 : decode cX12_mends 231 = .ok (.iinc 6 1, 3) := by decide +kernel
theorem dX12_mends_234 : decode cX12_mends 234 = .ok (.goto (-23), 3) := by decide +kernel
theorem dX12_mends_237 : decode cX12_mends 237 = .ok (.iconst 0, 1) := by decide +kernel
theorem dX12_mends_238 : decode cX12_mends 238 = .ok (.istore 6, 2) := by decide +kernel
theorem dX12_mends_240 : decode cX12_mends 240 = .ok (.iload 6, 2) := by decide +kernel
theorem dX12_mends_242 : decode cX12_mends 242 = .ok (.iload_n 3, 1) := by decide +kernel
theorem dX12_mends_243 : decode cX12_mends 243 = .ok (.if_icmp .ge 33, 3) := by decide +kernel
theorem dX12_mends_246 : decode cX12_mends 246 = .ok (.aload_n 0, 1) := by decide +kernel
theorem dX12_mends_247 : decode cX12_mends 247 = .ok (.getfield 69, 3) := by decide +kernel
theorem dX12_mends_250 : decode cX12_mends 250 = .ok (.ifCond .ne 26, 3) := by decide +kernel
theorem dX12_mends_253 : decode cX12_mends 253 = .ok (.aload_n 0, 1) := by decide +kernel
theorem dX12_mends_254 : decode cX12_mends 254 = .ok (.getfield 28, 3) := by decide +kernel
theorem dX12_mends_257 : decode cX12_mends 257 = .ok (.bipush 6, 2) := by decide +kernel
theorem dX12_mends_259 : decode cX12_mends 259 = .ok (.iload_n 1, 1) := by decide +kernel
theorem dX12_mends_260 : decode cX12_mends 260 = .ok (.imul, 1) := by decide +kernel
theorem dX12_mends_261 : decode cX12_mends 261 = .ok (.iload 6, 2) := by decide +kernel
theorem dX12_mends_263 : decode cX12_mends 263 = .ok (.iadd, 1) := by decide +kernel
theorem dX12_mends_264 : decode cX12_mends 264 = .ok (.dup2, 1) := by decide +kernel
theorem dX12_mends_265 : decode cX12_mends 265 = .ok (.laload, 1) := by decide +kernel
theorem dX12_mends_266 : decode cX12_mends 266 = .ok (.lload 4, 2) := by decide +kernel
theorem dX12_mends_268 : decode cX12_mends 268 = .ok (.ldiv, 1) := by decide +kernel
theorem dX12_mends_269 : decode cX12_mends 269 = .ok (.lastore, 1) := by decide +kernel
theorem dX12_mends_270 : decode cX12_mends 270 = .ok (.iinc 6 1, 3) := by decide +kernel
theorem dX12_mends_273 : decode cX12_mends 273 = .ok (.goto (-33), 3) := by decide +kernel
theorem dX12_mends_276 : decode cX12_mends 276 = .ok (.return_, 1) := by decide +kernel
theorem dX12_works_0 : decode cX12_works 0 = .ok (.aload_n 0, 1) := by decide +kernel
theorem dX12_works_1 : decode cX12_works 1 = .ok (.iload_n 1, 1) := by decide +kernel
theorem dX12_works_2 : decode cX12_works 2 = .ok (.iconst 2, 1) := by decide +kernel
theorem dX12_works_3 : decode cX12_works 3 = .ok (.isub, 1) := by decide +kernel
theorem dX12_works_4 : decode cX12_works 4 = .ok (.iconst 0, 1) := by decide +kernel
theorem dX12_works_5 : decode cX12_works 5 = .ok (.invokevirtual 140, 3) := by decide +kernel
theorem dX12_works_8 : decode cX12_works 8 = .ok (.lstore_n 2, 1) := by decide +kernel
theorem dX12_works_9 : decode cX12_works 9 = .ok (.aload_n 0, 1) := by decide +kernel
theorem dX12_works_10 : decode cX12_works 10 = .ok (.iload_n 1, 1) := by decide +kernel
theorem dX12_works_11 : decode cX12_works 11 = .ok (.iconst 1, 1) := by decide +kernel
theorem dX12_works_12 : decode cX12_works 12 = .ok (.isub, 1) := by decide +kernel
theorem dX12_works_13 : decode cX12_works 13 = .ok (.iconst 0, 1) := by decide +kernel
theorem dX12_works_14 : decode cX12_works 14 = .ok (.invokevirtual 140, 3) := by decide +kernel
theorem dX12_works_17 : decode cX12_works 17 = .ok (.lstore 4, 2) := by decide +kernel
theorem dX12_works_19 : decode cX12_works 19 = .ok (.iconst 0, 1) := by decide +kernel
theorem dX12_works_20 : decode cX12_works 20 = .ok (.istore 6, 2) := by decide +kernel
theorem dX12_works_22 : decode cX12_works 22 = .ok (.iload 6, 2) := by decide +kernel
theorem dX12_works_24 : decode cX12_works 24 = .ok (.aload_n 0, 1) := by decide +kernel
theorem dX12_works_25 : decode cX12_works 25 = .ok (.iload_n 1, 1) := by decide +kernel
theorem dX12_works_26 : decode cX12_works 26 = .ok (.invokevirtual 136, 3) := by decide +kernel
theorem dX12_works_29 : decode cX12_works 29 = .ok (.if_icmp .ge 78, 3) := by decide +kernel
theorem dX12_works_32 : decode cX12_works 32 = .ok (.aload_n 0, 1) := by decide +kernel
theorem dX12_works_33 : decode cX12_works 33 = .ok (.aload_n 0, 1) := by decide +kernel
theorem dX12_works_34 : decode cX12_works 34 = .ok (.lload 4, 2) := by decide +kernel
theorem dX12_works_36 : decode cX12_works 36 = .ok (.aload_n 0, 1) := by decide +kernel
theorem dX12_works_37 : decode cX12_works 37 = .ok (.iload_n 1, 1) := by decide +kernel
theorem dX12_works_38 : decode cX12_works 38 = .ok (.iconst 2, 1) := by decide +kernel
theorem dX12_works_39 : decode cX12_works 39 = .ok (.isub, 1) := by decide +kernel
theorem dX12_works_40 : decode cX12_works 40 = .ok (.iload 6, 2) := by decide +kernel
theorem dX12_works_42 : decode cX12_works 42 = .ok (.iconst 1, 1) := by decide +kernel
theorem dX12_works_43 : decode cX12_works 43 = .ok (.iadd, 1) := by decide +kernel
theorem dX12_works_44 : decode cX12_works 44 = .ok (.invokevirtual 140, 3) := by decide +kernel
theorem dX12_works_47 : decode cX12_works 47 = .ok (.invokevirtual 151, 3) := by decide +kernel
theorem dX12_works_50 : decode cX12_works 50 = .ok (.aload_n 0, 1) := by decide +kernel
theorem dX12_works_51 : decode cX12_works 51 = .ok (.lload_n 2, 1) := by decide +kernel
theorem dX12_works_52 : decode cX12_works 52 = .ok (.aload_n 0, 1) := by decide +kernel
theorem dX12_works_53 : decode cX12_works 53 = .ok (.iload_n 1, 1) := by decide +kernel
theorem dX12_works_54 : decode cX12_works 54 = .ok (.iconst 1, 1) := by decide +kernel
theorem dX12_works_55 : decode cX12_works 55 = .ok (.isub, 1) := by decide +kernel
theorem dX12_works_56 : decode cX12_works 56 = .ok (.iload 6, 2) := by decide +kernel
theorem dX12_works_58 : decode cX12_works 58 = .ok (.iconst 1, 1) := by decide +kernel
theorem dX12_works_59 : decode cX12_works 59 = .ok (.iadd, 1) := by decide +kernel
theorem dX12_works_60 : decode cX12_works 60 = .ok (.invokevirtual 140, 3) := by decide +kernel
theorem dX12_works_63 : decode cX12_works 63 = .ok (.invokevirtual 151, 3) := by decide +kernel
theorem dX12_works_66 : decode cX12_works 66 = .ok (.invokevirtual 161, 3) := by decide +kernel
theorem dX12_works_69 : decode cX12_works 69 = .ok (.lstore 7, 2) := by decide +kernel
theorem dX12_works_71 : decode cX12_works 71 = .ok (.aload_n 0, 1) := by decide +kernel
theorem dX12_works_72 : decode cX12_works 72 = .ok (.getfield 28, 3) := by decide +kernel
theorem dX12_works_75 : decode cX12_works 75 = .ok (.bipush 6, 2) := by decide +kernel
theorem dX12_works_77 : decode cX12_works 77 = .ok (.iload_n 1, 1) := by decide +kernel
theorem dX12_works_78 : decode cX12_works 78 = .ok (.imul, 1) := by decide +kernel
theorem dX12_works_79 : decode cX12_works 79 = .ok (.iload 6, 2) := by decide +kernel
theorem dX12_works_81 : decode cX12_works 81 = .ok (.iadd, 1) := by decide +kernel
theorem dX12_works_82 : decode cX12_works 82 = .ok (.lload 4, 2) := by decide +kernel
theorem dX12_works_84 : decode cX12_works 84 = .ok (.lconst 0, 1) := by decide +kernel
theorem dX12_works_85 : decode cX12_works 85 = .ok (.lcmp, 1) := by decide +kernel
theorem dX12_works_86 : decode cX12_works 86 = .ok (.ifCond .ge 12, 3) := by decide +kernel
theorem dX12_works_89 : decode cX12_works 89 = .ok (.aload_n 0, 1) := by decide +kernel
theorem dX12_works_90 : decode cX12_works 90 = .ok (.lload 7, 2) := by decide +kernel
theorem dX12_works_92 : decode cX12_works 92 = .ok (.invokevirtual 147, 3) := by decide +kernel
theorem dX12_works_95 : decode cX12_works 95 = .ok (.goto 5, 3) := by decide +kernel
theorem dX12_works_98 : decode cX12_works 98 = .ok (.lload 7, 2) := by decide +kernel
theorem dX12_works_100 : decode cX12_works 100 = .ok (.lastore, 1) := by decide +kernel
theorem dX12_works_101 : decode cX12_works 101 = .ok (.iinc 6 1, 3) := by decide +kernel
theorem dX12_works_104 : decode cX12_works 104 = .ok (.goto (-82), 3) := by decide +kernel
theorem dX12_works_107 : decode cX12_works 107 = .ok (.return_, 1) := by decide +kernel
theorem dX12_laysRows_0 : decode cX12_laysRows 0 = .ok (.aload_n 0, 1) := by decide +kernel
theorem dX12_laysRows_1 : decode cX12_laysRows 1 = .ok (.iconst 0, 1) := by decide +kernel
theorem dX12_laysRows_2 : decode cX12_laysRows 2 = .ok (.putfield 69, 3) := by decide +kernel
theorem dX12_laysRows_5 : decode cX12_laysRows 5 = .ok (.iconst 0, 1) := by decide +kernel
theorem dX12_laysRows_6 : decode cX12_laysRows 6 = .ok (.istore_n 1, 1) := by decide +kernel
theorem dX12_laysRows_7 : decode cX12_laysRows 7 = .ok (.iload_n 1, 1) := by decide +kernel
theorem dX12_laysRows_8 : decode cX12_laysRows 8 = .ok (.bipush 42, 2) := by decide +kernel
theorem dX12_laysRows_10 : decode cX12_laysRows 10 = .ok (.if_icmp .ge 16, 3) := by decide +kernel
theorem dX12_laysRows_13 : decode cX12_laysRows 13 = .ok (.aload_n 0, 1) := by decide +kernel
theorem dX12_laysRows_14 : decode cX12_laysRows 14 = .ok (.getfield 28, 3) := by decide +kernel
theorem dX12_laysRows_17 : decode cX12_laysRows 17 = .ok (.iload_n 1, 1) := by decide +kernel
theorem dX12_laysRows_18 : decode cX12_laysRows 18 = .ok (.lconst 0, 1) := by decide +kernel
theorem dX12_laysRows_19 : decode cX12_laysRows 19 = .ok (.lastore, 1) := by decide +kernel
theorem dX12_laysRows_20 : decode cX12_laysRows 20 = .ok (.iinc 1 1, 3) := by decide +kernel
theorem dX12_laysRows_23 : decode cX12_laysRows 23 = .ok (.goto (-16), 3) := by decide +kernel
theorem dX12_laysRows_26 : decode cX12_laysRows 26 = .ok (.iconst 0, 1) := by decide +kernel
theorem dX12_laysRows_27 : decode cX12_laysRows 27 = .ok (.istore_n 1, 1) := by decide +kernel
theorem dX12_laysRows_28 : decode cX12_laysRows 28 = .ok (.iload_n 1, 1) := by decide +kernel
theorem dX12_laysRows_29 : decode cX12_laysRows 29 = .ok (.aload_n 0, 1) := by decide +kernel
theorem dX12_laysRows_30 : decode cX12_laysRows 30 = .ok (.getfield 121, 3) := by decide +kernel
theorem dX12_laysRows_33 : decode cX12_laysRows 33 = .ok (.if_icmp .gt 86, 3) := by decide +kernel
theorem dX12_laysRows_36 : decode cX12_laysRows 36 = .ok (.aload_n 0, 1) := by decide +kernel
theorem dX12_laysRows_37 : decode cX12_laysRows 37 = .ok (.getfield 69, 3) := by decide +kernel
theorem dX12_laysRows_40 : decode cX12_laysRows 40 = .ok (.ifCond .ne 79, 3) := by decide +kernel
theorem dX12_laysRows_43 : decode cX12_laysRows 43 = .ok (.iconst 0, 1) := by decide +kernel
theorem dX12_laysRows_44 : decode cX12_laysRows 44 = .ok (.istore_n 2, 1) := by decide +kernel
theorem dX12_laysRows_45 : decode cX12_laysRows 45 = .ok (.iload_n 2, 1) := by decide +kernel
theorem dX12_laysRows_46 : decode cX12_laysRows 46 = .ok (.aload_n 0, 1) := by decide +kernel
theorem dX12_laysRows_47 : decode cX12_laysRows 47 = .ok (.iload_n 1, 1) := by decide +kernel
theorem dX12_laysRows_48 : decode cX12_laysRows 48 = .ok (.invokevirtual 136, 3) := by decide +kernel
theorem dX12_laysRows_51 : decode cX12_laysRows 51 = .ok (.if_icmp .ge 40, 3) := by decide +kernel
theorem dX12_laysRows_54 : decode cX12_laysRows 54 = .ok (.iload_n 1, 1) := by decide +kernel
theorem dX12_laysRows_55 : decode cX12_laysRows 55 = .ok (.iconst 2, 1) := by decide +kernel
theorem dX12_laysRows_56 : decode cX12_laysRows 56 = .ok (.if_icmp .ge 35, 3) := by decide +kernel
theorem dX12_laysRows_59 : decode cX12_laysRows 59 = .ok (.aload_n 0, 1) := by decide +kernel
theorem dX12_laysRows_60 : decode cX12_laysRows 60 = .ok (.getfield 28, 3) := by decide +kernel
theorem dX12_laysRows_63 : decode cX12_laysRows 63 = .ok (.bipush 6, 2) := by decide +kernel
theorem dX12_laysRows_65 : decode cX12_laysRows 65 = .ok (.iload_n 1, 1) := by decide +kernel
theorem dX12_laysRows_66 : decode cX12_laysRows 66 = .ok (.imul, 1) := by decide +kernel
theorem dX12_laysRows_67 : decode cX12_laysRows 67 = .ok (.iload_n 2, 1) := by decide +kernel
theorem dX12_laysRows_68 : decode cX12_laysRows 68 = .ok (.iadd, 1) := by decide +kernel
theorem dX12_laysRows_69 : decode cX12_laysRows 69 = .ok (.aload_n 0, 1) := by decide +kernel
theorem dX12_laysRows_70 : decode cX12_laysRows 70 = .ok (.getfield 22, 3) := by decide +kernel
theorem dX12_laysRows_73 : decode cX12_laysRows 73 = .ok (.aload_n 0, 1) := by decide +kernel
theorem dX12_laysRows_74 : decode cX12_laysRows 74 = .ok (.getfield 121, 3) := by decide +kernel
theorem dX12_laysRows_77 : decode cX12_laysRows 77 = .ok (.iload_n 1, 1) := by decide +kernel
theorem dX12_laysRows_78 : decode cX12_laysRows 78 = .ok (.isub, 1) := by decide +kernel
theorem dX12_laysRows_79 : decode cX12_laysRows 79 = .ok (.iconst 2, 1) := by decide +kernel
theorem dX12_laysRows_80 : decode cX12_laysRows 80 = .ok (.iload_n 2, 1) := by decide +kernel
theorem dX12_laysRows_81 : decode cX12_laysRows 81 = .ok (.imul, 1) := by decide +kernel
theorem dX12_laysRows_82 : decode cX12_laysRows 82 = .ok (.isub, 1) := by decide +kernel
theorem dX12_laysRows_83 : decode cX12_laysRows 83 = .ok (.laload, 1) := by decide +kernel
theorem dX12_laysRows_84 : decode cX12_laysRows 84 = .ok (.lastore, 1) := by decide +kernel
theorem dX12_laysRows_85 : decode cX12_laysRows 85 = .ok (.iinc 2 1, 3) := by decide +kernel
theorem dX12_laysRows_88 : decode cX12_laysRows 88 = .ok (.goto (-43), 3) := by decide +kernel
theorem dX12_laysRows_91 : decode cX12_laysRows 91 = .ok (.iload_n 1, 1) := by decide +kernel
theorem dX12_laysRows_92 : decode cX12_laysRows 92 = .ok (.iconst 1, 1) := by decide +kernel
theorem dX12_laysRows_93 : decode cX12_laysRows 93 = .ok (.if_icmp .le 8, 3) := by decide +kernel
theorem dX12_laysRows_96 : decode cX12_laysRows 96 = .ok (.aload_n 0, 1) := by decide +kernel
theorem dX12_laysRows_97 : decode cX12_laysRows 97 = .ok (.iload_n 1, 1) := by decide +kernel
theorem dX12_laysRows_98 : decode cX12_laysRows 98 = .ok (.invokevirtual 164, 3) := by decide +kernel
theorem dX12_laysRows_101 : decode cX12_laysRows 101 = .ok (.aload_n 0, 1) := by decide +kernel
theorem dX12_laysRows_102 : decode cX12_laysRows 102 = .ok (.getfield 69, 3) := by decide +kernel
theorem dX12_laysRows_105 : decode cX12_laysRows 105 = .ok (.ifCond .ne 8, 3) := by decide +kernel
theorem dX12_laysRows_108 : decode cX12_laysRows 108 = .ok (.aload_n 0, 1) := by decide +kernel
theorem dX12_laysRows_109 : decode cX12_laysRows 109 = .ok (.iload_n 1, 1) := by decide +kernel
theorem dX12_laysRows_110 : decode cX12_laysRows 110 = .ok (.invokevirtual 167, 3) := by decide +kernel
theorem dX12_laysRows_113 : decode cX12_laysRows 113 = .ok (.iinc 1 1, 3) := by decide +kernel
theorem dX12_laysRows_116 : decode cX12_laysRows 116 = .ok (.goto (-88), 3) := by decide +kernel
theorem dX12_laysRows_119 : decode cX12_laysRows 119 = .ok (.return_, 1) := by decide +kernel
theorem dX12_laysRowsOf_0 : decode cX12_laysRowsOf 0 = .ok (.aload_n 0, 1) := by decide +kernel
theorem dX12_laysRowsOf_1 : decode cX12_laysRowsOf 1 = .ok (.iload_n 1, 1) := by decide +kernel
theorem dX12_laysRowsOf_2 : decode cX12_laysRowsOf 2 = .ok (.invokevirtual 133, 3) := by decide +kernel
theorem dX12_laysRowsOf_5 : decode cX12_laysRowsOf 5 = .ok (.aload_n 0, 1) := by decide +kernel
theorem dX12_laysRowsOf_6 : decode cX12_laysRowsOf 6 = .ok (.invokevirtual 170, 3) := by decide +kernel
theorem dX12_laysRowsOf_9 : decode cX12_laysRowsOf 9 = .ok (.return_, 1) := by decide +kernel
theorem dX12_isRow_0 : decode cX12_isRow 0 = .ok (.iload_n 1, 1) := by decide +kernel
theorem dX12_isRow_1 : decode cX12_isRow 1 = .ok (.i2l, 1) := by decide +kernel
theorem dX12_isRow_2 : decode cX12_isRow 2 = .ok (.lconst 0, 1) := by decide +kernel
theorem dX12_isRow_3 : decode cX12_isRow 3 = .ok (.aload_n 0, 1) := by decide +kernel
theorem dX12_isRow_4 : decode cX12_isRow 4 = .ok (.getfield 121, 3) := by decide +kernel
theorem dX12_isRow_7 : decode cX12_isRow 7 = .ok (.i2l, 1) := by decide +kernel
theorem dX12_isRow_8 : decode cX12_isRow 8 = .ok (.invokestatic 83, 3) := by decide +kernel
theorem dX12_isRow_11 : decode cX12_isRow 11 = .ok (.ireturn, 1) := by decide +kernel
theorem dX12_row_0 : decode cX12_row 0 = .ok (.iload_n 1, 1) := by decide +kernel
theorem dX12_row_1 : decode cX12_row 1 = .ok (.invokestatic 130, 3) := by decide +kernel
theorem dX12_row_4 : decode cX12_row 4 = .ok (.ifCond .ne 7, 3) := by decide +kernel
theorem dX12_row_7 : decode cX12_row 7 = .ok (.ldc2_w 67, 3) := by decide +kernel
theorem dX12_row_10 : decode cX12_row 10 = .ok (.lreturn, 1) := by decide +kernel
theorem dX12_row_11 : decode cX12_row 11 = .ok (.aload_n 0, 1) := by decide +kernel
theorem dX12_row_12 : decode cX12_row 12 = .ok (.iload_n 1, 1) := by decide +kernel
theorem dX12_row_13 : decode cX12_row 13 = .ok (.invokevirtual 173, 3) := by decide +kernel
theorem dX12_row_16 : decode cX12_row 16 = .ok (.aload_n 0, 1) := by decide +kernel
theorem dX12_row_17 : decode cX12_row 17 = .ok (.iload_n 2, 1) := by decide +kernel
theorem dX12_row_18 : decode cX12_row 18 = .ok (.invokevirtual 176, 3) := by decide +kernel
theorem dX12_row_21 : decode cX12_row 21 = .ok (.ifCond .eq 27, 3) := by decide +kernel
theorem dX12_row_24 : decode cX12_row 24 = .ok (.iload_n 3, 1) := by decide +kernel
theorem dX12_row_25 : decode cX12_row 25 = .ok (.i2l, 1) := by decide +kernel
theorem dX12_row_26 : decode cX12_row 26 = .ok (.lconst 0, 1) := by decide +kernel
theorem dX12_row_27 : decode cX12_row 27 = .ok (.aload_n 0, 1) := by decide +kernel
theorem dX12_row_28 : decode cX12_row 28 = .ok (.iload_n 2, 1) := by decide +kernel
theorem dX12_row_29 : decode cX12_row 29 = .ok (.invokevirtual 136, 3) := by decide +kernel
theorem dX12_row_32 : decode cX12_row 32 = .ok (.iconst 1, 1) := by decide +kernel
theorem dX12_row_33 : decode cX12_row 33 = .ok (.isub, 1) := by decide +kernel
theorem dX12_row_34 : decode cX12_row 34 = .ok (.i2l, 1) := by decide +kernel
theorem dX12_row_35 : decode cX12_row 35 = .ok (.invokestatic 83, 3) := by decide +kernel
theorem dX12_row_38 : decode cX12_row 38 = .ok (.ifCond .eq 10, 3) := by decide +kernel
theorem dX12_row_41 : decode cX12_row 41 = .ok (.aload_n 0, 1) := by decide +kernel
theorem dX12_row_42 : decode cX12_row 42 = .ok (.getfield 69, 3) := by decide +kernel
theorem dX12_row_45 : decode cX12_row 45 = .ok (.ifCond .eq 9, 3) := by decide +kernel
theorem dX12_row_48 : decode cX12_row 48 = .ok (.ldc2_w 67, 3) := by decide +kernel
theorem dX12_row_51 : decode cX12_row 51 = .ok (.goto 9, 3) := by decide +kernel
theorem dX12_row_54 : decode cX12_row 54 = .ok (.aload_n 0, 1) := by decide +kernel
theorem dX12_row_55 : decode cX12_row 55 = .ok (.iload_n 2, 1) := by decide +kernel
theorem dX12_row_56 : decode cX12_row 56 = .ok (.iload_n 3, 1) := by decide +kernel
theorem dX12_row_57 : decode cX12_row 57 = .ok (.invokevirtual 140, 3) := by decide +kernel
theorem dX12_row_60 : decode cX12_row 60 = .ok (.lreturn, 1) := by decide +kernel
theorem dX12_caseOf_0 : decode cX12_caseOf 0 = .ok (.iload_n 1, 1) := by decide +kernel
theorem dX12_caseOf_1 : decode cX12_caseOf 1 = .ok (.invokestatic 130, 3) := by decide +kernel
theorem dX12_caseOf_4 : decode cX12_caseOf 4 = .ok (.ifCond .ne 6, 3) := by decide +kernel
theorem dX12_caseOf_7 : decode cX12_caseOf 7 = .ok (.bipush (-2), 2) := by decide +kernel
theorem dX12_caseOf_9 : decode cX12_caseOf 9 = .ok (.ireturn, 1) := by decide +kernel
theorem dX12_caseOf_10 : decode cX12_caseOf 10 = .ok (.aload_n 0, 1) := by decide +kernel
theorem dX12_caseOf_11 : decode cX12_caseOf 11 = .ok (.iload_n 1, 1) := by decide +kernel
theorem dX12_caseOf_12 : decode cX12_caseOf 12 = .ok (.invokevirtual 173, 3) := by decide +kernel
theorem dX12_caseOf_15 : decode cX12_caseOf 15 = .ok (.aload_n 0, 1) := by decide +kernel
theorem dX12_caseOf_16 : decode cX12_caseOf 16 = .ok (.iload_n 2, 1) := by decide +kernel
theorem dX12_caseOf_17 : decode cX12_caseOf 17 = .ok (.invokevirtual 176, 3) := by decide +kernel
theorem dX12_caseOf_20 : decode cX12_caseOf 20 = .ok (.ifCond .ne 7, 3) := by decide +kernel
theorem dX12_caseOf_23 : decode cX12_caseOf 23 = .ok (.iconst (-1), 1) := by decide +kernel
theorem dX12_caseOf_24 : decode cX12_caseOf 24 = .ok (.goto 21, 3) := by decide +kernel
theorem dX12_caseOf_27 : decode cX12_caseOf 27 = .ok (.aload_n 0, 1) := by decide +kernel
theorem dX12_caseOf_28 : decode cX12_caseOf 28 = .ok (.getfield 69, 3) := by decide +kernel
theorem dX12_caseOf_31 : decode cX12_caseOf 31 = .ok (.ifCond .eq 8, 3) := by decide +kernel
theorem dX12_caseOf_34 : decode cX12_caseOf 34 = .ok (.bipush (-7), 2) := by decide +kernel
theorem dX12_caseOf_36 : decode cX12_caseOf 36 = .ok (.goto 9, 3) := by decide +kernel
theorem dX12_caseOf_39 : decode cX12_caseOf 39 = .ok (.aload_n 0, 1) := by decide +kernel
theorem dX12_caseOf_40 : decode cX12_caseOf 40 = .ok (.getfield 34, 3) := by decide +kernel
theorem dX12_caseOf_43 : decode cX12_caseOf 43 = .ok (.iload_n 2, 1) := by decide +kernel
theorem dX12_caseOf_44 : decode cX12_caseOf 44 = .ok (.iaload, 1) := by decide +kernel
theorem dX12_caseOf_45 : decode cX12_caseOf 45 = .ok (.ireturn, 1) := by decide +kernel
theorem dX12_changesIn_0 : decode cX12_changesIn 0 = .ok (.iconst 0, 1) := by decide +kernel
theorem dX12_changesIn_1 : decode cX12_changesIn 1 = .ok (.istore_n 3, 1) := by decide +kernel
theorem dX12_changesIn_2 : decode cX12_changesIn 2 = .ok (.iload_n 1, 1) := by decide +kernel
theorem dX12_changesIn_3 : decode cX12_changesIn 3 = .ok (.iconst 1, 1) := by decide +kernel
theorem dX12_changesIn_4 : decode cX12_changesIn 4 = .ok (.iadd, 1) := by decide +kernel
theorem dX12_changesIn_5 : decode cX12_changesIn 5 = .ok (.istore 4, 2) := by decide +kernel
theorem dX12_changesIn_7 : decode cX12_changesIn 7 = .ok (.iload 4, 2) := by decide +kernel
theorem dX12_changesIn_9 : decode cX12_changesIn 9 = .ok (.iload_n 2, 1) := by decide +kernel
theorem dX12_changesIn_10 : decode cX12_changesIn 10 = .ok (.if_icmp .gt 56, 3) := by decide +kernel
theorem dX12_changesIn_13 : decode cX12_changesIn 13 = .ok (.iload_n 3, 1) := by decide +kernel
theorem dX12_changesIn_14 : decode cX12_changesIn 14 = .ok (.aload_n 0, 1) := by decide +kernel
theorem dX12_changesIn_15 : decode cX12_changesIn 15 = .ok (.iload 4, 2) := by decide +kernel
theorem dX12_changesIn_17 : decode cX12_changesIn 17 = .ok (.iconst 0, 1) := by decide +kernel
theorem dX12_changesIn_18 : decode cX12_changesIn 18 = .ok (.invokevirtual 140, 3) := by decide +kernel
theorem dX12_changesIn_21 : decode cX12_changesIn 21 = .ok (.lconst 0, 1) := by decide +kernel
theorem dX12_changesIn_22 : decode cX12_changesIn 22 = .ok (.lcmp, 1) := by decide +kernel
theorem dX12_changesIn_23 : decode cX12_changesIn 23 = .ok (.ifCond .ge 7, 3) := by decide +kernel
theorem dX12_changesIn_26 : decode cX12_changesIn 26 = .ok (.iconst 1, 1) := by decide +kernel
theorem dX12_changesIn_27 : decode cX12_changesIn 27 = .ok (.goto 4, 3) := by decide +kernel
theorem dX12_changesIn_30 : decode cX12_changesIn 30 = .ok (.iconst 0, 1) := by decide +kernel
theorem dX12_changesIn_31 : decode cX12_changesIn 31 = .ok (.aload_n 0, 1) := by decide +kernel
theorem dX12_changesIn_32 : decode cX12_changesIn 32 = .ok (.iload 4, 2) := by decide +kernel
theorem dX12_changesIn_34 : decode cX12_changesIn 34 = .ok (.iconst 1, 1) := by decide +kernel
theorem dX12_changesIn_35 : decode cX12_changesIn 35 = .ok (.isub, 1) := by decide +kernel
theorem dX12_changesIn_36 : decode cX12_changesIn 36 = .ok (.iconst 0, 1) := by decide +kernel
theorem dX12_changesIn_37 : decode cX12_changesIn 37 = .ok (.invokevirtual 140, 3) := by decide +kernel
theorem dX12_changesIn_40 : decode cX12_changesIn 40 = .ok (.lconst 0, 1) := by decide +kernel
theorem dX12_changesIn_41 : decode cX12_changesIn 41 = .ok (.lcmp, 1) := by decide +kernel
theorem dX12_changesIn_42 : decode cX12_changesIn 42 = .ok (.ifCond .ge 7, 3) := by decide +kernel
theorem dX12_changesIn_45 : decode cX12_changesIn 45 = .ok (.iconst 1, 1) := by decide +kernel
theorem dX12_changesIn_46 : decode cX12_changesIn 46 = .ok (.goto 4, 3) := by decide +kernel
theorem dX12_changesIn_49 : decode cX12_changesIn 49 = .ok (.iconst 0, 1) := by decide +kernel
theorem dX12_changesIn_50 : decode cX12_changesIn 50 = .ok (.if_icmp .ne 7, 3) := by decide +kernel
theorem dX12_changesIn_53 : decode cX12_changesIn 53 = .ok (.iconst 0, 1) := by decide +kernel
theorem dX12_changesIn_54 : decode cX12_changesIn 54 = .ok (.goto 4, 3) := by decide +kernel
theorem dX12_changesIn_57 : decode cX12_changesIn 57 = .ok (.iconst 1, 1) := by decide +kernel
theorem dX12_changesIn_58 : decode cX12_changesIn 58 = .ok (.iadd, 1) := by decide +kernel
theorem dX12_changesIn_59 : decode cX12_changesIn 59 = .ok (.istore_n 3, 1) := by decide +kernel
theorem dX12_changesIn_60 : decode cX12_changesIn 60 = .ok (.iinc 4 1, 3) := by decide +kernel
theorem dX12_changesIn_63 : decode cX12_changesIn 63 = .ok (.goto (-56), 3) := by decide +kernel
theorem dX12_changesIn_66 : decode cX12_changesIn 66 = .ok (.iload_n 3, 1) := by decide +kernel
theorem dX12_changesIn_67 : decode cX12_changesIn 67 = .ok (.ireturn, 1) := by decide +kernel
theorem dX12_firstCase_0 : decode cX12_firstCase 0 = .ok (.iconst 0, 1) := by decide +kernel
theorem dX12_firstCase_1 : decode cX12_firstCase 1 = .ok (.istore_n 1, 1) := by decide +kernel
theorem dX12_firstCase_2 : decode cX12_firstCase 2 = .ok (.iload_n 1, 1) := by decide +kernel
theorem dX12_firstCase_3 : decode cX12_firstCase 3 = .ok (.aload_n 0, 1) := by decide +kernel
theorem dX12_firstCase_4 : decode cX12_firstCase 4 = .ok (.getfield 121, 3) := by decide +kernel
theorem dX12_firstCase_7 : decode cX12_firstCase 7 = .ok (.if_icmp .gt 21, 3) := by decide +kernel
theorem dX12_firstCase_10 : decode cX12_firstCase 10 = .ok (.aload_n 0, 1) := by decide +kernel
theorem dX12_firstCase_11 : decode cX12_firstCase 11 = .ok (.getfield 34, 3) := by decide +kernel
theorem dX12_firstCase_14 : decode cX12_firstCase 14 = .ok (.iload_n 1, 1) := by decide +kernel
theorem dX12_firstCase_15 : decode cX12_firstCase 15 = .ok (.iaload, 1) := by decide +kernel
theorem dX12_firstCase_16 : decode cX12_firstCase 16 = .ok (.iconst 2, 1) := by decide +kernel
theorem dX12_firstCase_17 : decode cX12_firstCase 17 = .ok (.if_icmp .ne 5, 3) := by decide +kernel
theorem dX12_firstCase_20 : decode cX12_firstCase 20 = .ok (.iload_n 1, 1) := by decide +kernel
theorem dX12_firstCase_21 : decode cX12_firstCase 21 = .ok (.ireturn, 1) := by decide +kernel
theorem dX12_firstCase_22 : decode cX12_firstCase 22 = .ok (.iinc 1 1, 3) := by decide +kernel
theorem dX12_firstCase_25 : decode cX12_firstCase 25 = .ok (.goto (-23), 3) := by decide +kernel
theorem dX12_firstCase_28 : decode cX12_firstCase 28 = .ok (.iconst (-1), 1) := by decide +kernel
theorem dX12_firstCase_29 : decode cX12_firstCase 29 = .ok (.ireturn, 1) := by decide +kernel
theorem dX12_right_0 : decode cX12_right 0 = .ok (.aload_n 0, 1) := by decide +kernel
theorem dX12_right_1 : decode cX12_right 1 = .ok (.iconst 0, 1) := by decide +kernel
theorem dX12_right_2 : decode cX12_right 2 = .ok (.aload_n 0, 1) := by decide +kernel
theorem dX12_right_3 : decode cX12_right 3 = .ok (.getfield 121, 3) := by decide +kernel
theorem dX12_right_6 : decode cX12_right 6 = .ok (.invokevirtual 179, 3) := by decide +kernel
theorem dX12_right_9 : decode cX12_right 9 = .ok (.ireturn, 1) := by decide +kernel
theorem dX12_axis_0 : decode cX12_axis 0 = .ok (.aload_n 0, 1) := by decide +kernel
theorem dX12_axis_1 : decode cX12_axis 1 = .ok (.invokevirtual 183, 3) := by decide +kernel
theorem dX12_axis_4 : decode cX12_axis 4 = .ok (.istore_n 1, 1) := by decide +kernel
theorem dX12_axis_5 : decode cX12_axis 5 = .ok (.iload_n 1, 1) := by decide +kernel
theorem dX12_axis_6 : decode cX12_axis 6 = .ok (.ifCond .ge 7, 3) := by decide +kernel
theorem dX12_axis_9 : decode cX12_axis 9 = .ok (.iconst 0, 1) := by decide +kernel
theorem dX12_axis_10 : decode cX12_axis 10 = .ok (.goto 25, 3) := by decide +kernel
theorem dX12_axis_13 : decode cX12_axis 13 = .ok (.aload_n 0, 1) := by decide +kernel
theorem dX12_axis_14 : decode cX12_axis 14 = .ok (.getfield 121, 3) := by decide +kernel
theorem dX12_axis_17 : decode cX12_axis 17 = .ok (.iload_n 1, 1) := by decide +kernel
theorem dX12_axis_18 : decode cX12_axis 18 = .ok (.isub, 1) := by decide +kernel
theorem dX12_axis_19 : decode cX12_axis 19 = .ok (.iconst 1, 1) := by decide +kernel
theorem dX12_axis_20 : decode cX12_axis 20 = .ok (.iadd, 1) := by decide +kernel
theorem dX12_axis_21 : decode cX12_axis 21 = .ok (.iconst 2, 1) := by decide +kernel
theorem dX12_axis_22 : decode cX12_axis 22 = .ok (.aload_n 0, 1) := by decide +kernel
theorem dX12_axis_23 : decode cX12_axis 23 = .ok (.iload_n 1, 1) := by decide +kernel
theorem dX12_axis_24 : decode cX12_axis 24 = .ok (.iconst 1, 1) := by decide +kernel
theorem dX12_axis_25 : decode cX12_axis 25 = .ok (.isub, 1) := by decide +kernel
theorem dX12_axis_26 : decode cX12_axis 26 = .ok (.aload_n 0, 1) := by decide +kernel
theorem dX12_axis_27 : decode cX12_axis 27 = .ok (.getfield 121, 3) := by decide +kernel
theorem dX12_axis_30 : decode cX12_axis 30 = .ok (.invokevirtual 179, 3) := by decide +kernel
theorem dX12_axis_33 : decode cX12_axis 33 = .ok (.imul, 1) := by decide +kernel
theorem dX12_axis_34 : decode cX12_axis 34 = .ok (.isub, 1) := by decide +kernel
theorem dX12_axis_35 : decode cX12_axis 35 = .ok (.ireturn, 1) := by decide +kernel
theorem dX12_left_0 : decode cX12_left 0 = .ok (.aload_n 0, 1) := by decide +kernel
theorem dX12_left_1 : decode cX12_left 1 = .ok (.getfield 121, 3) := by decide +kernel
theorem dX12_left_4 : decode cX12_left 4 = .ok (.ifCond .ge 7, 3) := by decide +kernel
theorem dX12_left_7 : decode cX12_left 7 = .ok (.iconst 0, 1) := by decide +kernel
theorem dX12_left_8 : decode cX12_left 8 = .ok (.goto 17, 3) := by decide +kernel
theorem dX12_left_11 : decode cX12_left 11 = .ok (.aload_n 0, 1) := by decide +kernel
theorem dX12_left_12 : decode cX12_left 12 = .ok (.getfield 121, 3) := by decide +kernel
theorem dX12_left_15 : decode cX12_left 15 = .ok (.aload_n 0, 1) := by decide +kernel
theorem dX12_left_16 : decode cX12_left 16 = .ok (.invokevirtual 187, 3) := by decide +kernel
theorem dX12_left_19 : decode cX12_left 19 = .ok (.isub, 1) := by decide +kernel
theorem dX12_left_20 : decode cX12_left 20 = .ok (.aload_n 0, 1) := by decide +kernel
theorem dX12_left_21 : decode cX12_left 21 = .ok (.invokevirtual 190, 3) := by decide +kernel
theorem dX12_left_24 : decode cX12_left 24 = .ok (.isub, 1) := by decide +kernel
theorem dX12_left_25 : decode cX12_left 25 = .ok (.ireturn, 1) := by decide +kernel
theorem dX12_roots_0 : decode cX12_roots 0 = .ok (.iload_n 1, 1) := by decide +kernel
theorem dX12_roots_1 : decode cX12_roots 1 = .ok (.invokestatic 130, 3) := by decide +kernel
theorem dX12_roots_4 : decode cX12_roots 4 = .ok (.ifCond .eq 15, 3) := by decide +kernel
theorem dX12_roots_7 : decode cX12_roots 7 = .ok (.iload_n 2, 1) := by decide +kernel
theorem dX12_roots_8 : decode cX12_roots 8 = .ok (.i2l, 1) := by decide +kernel
theorem dX12_roots_9 : decode cX12_roots 9 = .ok (.lconst 0, 1) := by decide +kernel
theorem dX12_roots_10 : decode cX12_roots 10 = .ok (.ldc2_w 193, 3) := by decide +kernel
theorem dX12_roots_13 : decode cX12_roots 13 = .ok (.invokestatic 83, 3) := by decide +kernel
theorem dX12_roots_16 : decode cX12_roots 16 = .ok (.ifCond .ne 6, 3) := by decide +kernel
theorem dX12_roots_19 : decode cX12_roots 19 = .ok (.bipush (-2), 2) := by decide +kernel
theorem dX12_roots_21 : decode cX12_roots 21 = .ok (.ireturn, 1) := by decide +kernel
theorem dX12_roots_22 : decode cX12_roots 22 = .ok (.aload_n 0, 1) := by decide +kernel
theorem dX12_roots_23 : decode cX12_roots 23 = .ok (.iload_n 1, 1) := by decide +kernel
theorem dX12_roots_24 : decode cX12_roots 24 = .ok (.invokevirtual 173, 3) := by decide +kernel
theorem dX12_roots_27 : decode cX12_roots 27 = .ok (.aload_n 0, 1) := by decide +kernel
theorem dX12_roots_28 : decode cX12_roots 28 = .ok (.getfield 69, 3) := by decide +kernel
theorem dX12_roots_31 : decode cX12_roots 31 = .ok (.ifCond .eq 6, 3) := by decide +kernel
theorem dX12_roots_34 : decode cX12_roots 34 = .ok (.bipush (-7), 2) := by decide +kernel
theorem dX12_roots_36 : decode cX12_roots 36 = .ok (.ireturn, 1) := by decide +kernel
theorem dX12_roots_37 : decode cX12_roots 37 = .ok (.iload_n 2, 1) := by decide +kernel
theorem dX12_roots_38 : decode cX12_roots 38 = .ok (.tableswitch 50 0 3 #[30, 35, 40, 45], 30) := by decide +kernel
theorem dX12_roots_68 : decode cX12_roots 68 = .ok (.aload_n 0, 1) := by decide +kernel
theorem dX12_roots_69 : decode cX12_roots 69 = .ok (.invokevirtual 187, 3) := by decide +kernel
theorem dX12_roots_72 : decode cX12_roots 72 = .ok (.ireturn, 1) := by decide +kernel
theorem dX12_roots_73 : decode cX12_roots 73 = .ok (.aload_n 0, 1) := by decide +kernel
theorem dX12_roots_74 : decode cX12_roots 74 = .ok (.invokevirtual 190, 3) := by decide +kernel
theorem dX12_roots_77 : decode cX12_roots 77 = .ok (.ireturn, 1) := by decide +kernel
theorem dX12_roots_78 : decode cX12_roots 78 = .ok (.aload_n 0, 1) := by decide +kernel
theorem dX12_roots_79 : decode cX12_roots 79 = .ok (.invokevirtual 195, 3) := by decide +kernel
theorem dX12_roots_82 : decode cX12_roots 82 = .ok (.ireturn, 1) := by decide +kernel
theorem dX12_roots_83 : decode cX12_roots 83 = .ok (.aload_n 0, 1) := by decide +kernel
theorem dX12_roots_84 : decode cX12_roots 84 = .ok (.invokevirtual 183, 3) := by decide +kernel
theorem dX12_roots_87 : decode cX12_roots 87 = .ok (.ireturn, 1) := by decide +kernel
theorem dX12_roots_88 : decode cX12_roots 88 = .ok (.aload_n 0, 1) := by decide +kernel
theorem dX12_roots_89 : decode cX12_roots 89 = .ok (.invokevirtual 190, 3) := by decide +kernel
theorem dX12_roots_92 : decode cX12_roots 92 = .ok (.iload_n 1, 1) := by decide +kernel
theorem dX12_roots_93 : decode cX12_roots 93 = .ok (.iconst 3, 1) := by decide +kernel
theorem dX12_roots_94 : decode cX12_roots 94 = .ok (.if_icmp .ne 10, 3) := by decide +kernel
theorem dX12_roots_97 : decode cX12_roots 97 = .ok (.aload_n 0, 1) := by decide +kernel
theorem dX12_roots_98 : decode cX12_roots 98 = .ok (.getfield 124, 3) := by decide +kernel
theorem dX12_roots_101 : decode cX12_roots 101 = .ok (.goto 4, 3) := by decide +kernel
theorem dX12_roots_104 : decode cX12_roots 104 = .ok (.iconst 0, 1) := by decide +kernel
theorem dX12_roots_105 : decode cX12_roots 105 = .ok (.iadd, 1) := by decide +kernel
theorem dX12_roots_106 : decode cX12_roots 106 = .ok (.ireturn, 1) := by decide +kernel
theorem dX12_changes_0 : decode cX12_changes 0 = .ok (.iload_n 1, 1) := by decide +kernel
theorem dX12_changes_1 : decode cX12_changes 1 = .ok (.invokestatic 130, 3) := by decide +kernel
theorem dX12_changes_4 : decode cX12_changes 4 = .ok (.ifCond .ne 6, 3) := by decide +kernel
theorem dX12_changes_7 : decode cX12_changes 7 = .ok (.bipush (-2), 2) := by decide +kernel
theorem dX12_changes_9 : decode cX12_changes 9 = .ok (.ireturn, 1) := by decide +kernel
theorem dX12_changes_10 : decode cX12_changes 10 = .ok (.aload_n 0, 1) := by decide +kernel
theorem dX12_changes_11 : decode cX12_changes 11 = .ok (.iload_n 1, 1) := by decide +kernel
theorem dX12_changes_12 : decode cX12_changes 12 = .ok (.invokevirtual 173, 3) := by decide +kernel
theorem dX12_changes_15 : decode cX12_changes 15 = .ok (.aload_n 0, 1) := by decide +kernel
theorem dX12_changes_16 : decode cX12_changes 16 = .ok (.iload_n 2, 1) := by decide +kernel
theorem dX12_changes_17 : decode cX12_changes 17 = .ok (.invokevirtual 176, 3) := by decide +kernel
theorem dX12_changes_20 : decode cX12_changes 20 = .ok (.ifCond .eq 16, 3) := by decide +kernel
theorem dX12_changes_23 : decode cX12_changes 23 = .ok (.aload_n 0, 1) := by decide +kernel
theorem dX12_changes_24 : decode cX12_changes 24 = .ok (.iload_n 3, 1) := by decide +kernel
theorem dX12_changes_25 : decode cX12_changes 25 = .ok (.invokevirtual 176, 3) := by decide +kernel
theorem dX12_changes_28 : decode cX12_changes 28 = .ok (.ifCond .eq 8, 3) := by decide +kernel
theorem dX12_changes_31 : decode cX12_changes 31 = .ok (.iload_n 3, 1) := by decide +kernel
theorem dX12_changes_32 : decode cX12_changes 32 = .ok (.iload_n 2, 1) := by decide +kernel
theorem dX12_changes_33 : decode cX12_changes 33 = .ok (.if_icmp .ge 7, 3) := by decide +kernel
theorem dX12_changes_36 : decode cX12_changes 36 = .ok (.iconst (-1), 1) := by decide +kernel
theorem dX12_changes_37 : decode cX12_changes 37 = .ok (.goto 21, 3) := by decide +kernel
theorem dX12_changes_40 : decode cX12_changes 40 = .ok (.aload_n 0, 1) := by decide +kernel
theorem dX12_changes_41 : decode cX12_changes 41 = .ok (.getfield 69, 3) := by decide +kernel
theorem dX12_changes_44 : decode cX12_changes 44 = .ok (.ifCond .eq 8, 3) := by decide +kernel
theorem dX12_changes_47 : decode cX12_changes 47 = .ok (.bipush (-7), 2) := by decide +kernel
theorem dX12_changes_49 : decode cX12_changes 49 = .ok (.goto 9, 3) := by decide +kernel
theorem dX12_changes_52 : decode cX12_changes 52 = .ok (.aload_n 0, 1) := by decide +kernel
theorem dX12_changes_53 : decode cX12_changes 53 = .ok (.iload_n 2, 1) := by decide +kernel
theorem dX12_changes_54 : decode cX12_changes 54 = .ok (.iload_n 3, 1) := by decide +kernel
theorem dX12_changes_55 : decode cX12_changes 55 = .ok (.invokevirtual 179, 3) := by decide +kernel
theorem dX12_changes_58 : decode cX12_changes 58 = .ok (.ireturn, 1) := by decide +kernel
theorem dX12_isFar_0 : decode cX12_isFar 0 = .ok (.iload_n 0, 1) := by decide +kernel
theorem dX12_isFar_1 : decode cX12_isFar 1 = .ok (.i2l, 1) := by decide +kernel
theorem dX12_isFar_2 : decode cX12_isFar 2 = .ok (.ldc2_w 197, 3) := by decide +kernel
theorem dX12_isFar_5 : decode cX12_isFar 5 = .ok (.ldc2_w 199, 3) := by decide +kernel
theorem dX12_isFar_8 : decode cX12_isFar 8 = .ok (.invokestatic 83, 3) := by decide +kernel
theorem dX12_isFar_11 : decode cX12_isFar 11 = .ok (.ireturn, 1) := by decide +kernel
theorem dX12_strip_0 : decode cX12_strip 0 = .ok (.iload_n 1, 1) := by decide +kernel
theorem dX12_strip_1 : decode cX12_strip 1 = .ok (.invokestatic 201, 3) := by decide +kernel
theorem dX12_strip_4 : decode cX12_strip 4 = .ok (.ifCond .eq 15, 3) := by decide +kernel
theorem dX12_strip_7 : decode cX12_strip 7 = .ok (.iload_n 2, 1) := by decide +kernel
theorem dX12_strip_8 : decode cX12_strip 8 = .ok (.invokestatic 201, 3) := by decide +kernel
theorem dX12_strip_11 : decode cX12_strip 11 = .ok (.ifCond .eq 8, 3) := by decide +kernel
theorem dX12_strip_14 : decode cX12_strip 14 = .ok (.iload_n 2, 1) := by decide +kernel
theorem dX12_strip_15 : decode cX12_strip 15 = .ok (.iload_n 1, 1) := by decide +kernel
theorem dX12_strip_16 : decode cX12_strip 16 = .ok (.if_icmp .gt 6, 3) := by decide +kernel
theorem dX12_strip_19 : decode cX12_strip 19 = .ok (.bipush (-2), 2) := by decide +kernel
theorem dX12_strip_21 : decode cX12_strip 21 = .ok (.ireturn, 1) := by decide +kernel
theorem dX12_strip_22 : decode cX12_strip 22 = .ok (.aload_n 0, 1) := by decide +kernel
theorem dX12_strip_23 : decode cX12_strip 23 = .ok (.bipush 30, 2) := by decide +kernel
theorem dX12_strip_25 : decode cX12_strip 25 = .ok (.iload_n 2, 1) := by decide +kernel
theorem dX12_strip_26 : decode cX12_strip 26 = .ok (.iadd, 1) := by decide +kernel
theorem dX12_strip_27 : decode cX12_strip 27 = .ok (.invokevirtual 173, 3) := by decide +kernel
theorem dX12_strip_30 : decode cX12_strip 30 = .ok (.aload_n 0, 1) := by decide +kernel
theorem dX12_strip_31 : decode cX12_strip 31 = .ok (.invokevirtual 195, 3) := by decide +kernel
theorem dX12_strip_34 : decode cX12_strip 34 = .ok (.istore_n 3, 1) := by decide +kernel
theorem dX12_strip_35 : decode cX12_strip 35 = .ok (.aload_n 0, 1) := by decide +kernel
theorem dX12_strip_36 : decode cX12_strip 36 = .ok (.getfield 69, 3) := by decide +kernel
theorem dX12_strip_39 : decode cX12_strip 39 = .ok (.istore 4, 2) := by decide +kernel
theorem dX12_strip_41 : decode cX12_strip 41 = .ok (.aload_n 0, 1) := by decide +kernel
theorem dX12_strip_42 : decode cX12_strip 42 = .ok (.bipush 30, 2) := by decide +kernel
theorem dX12_strip_44 : decode cX12_strip 44 = .ok (.iload_n 1, 1) := by decide +kernel
theorem dX12_strip_45 : decode cX12_strip 45 = .ok (.iadd, 1) := by decide +kernel
theorem dX12_strip_46 : decode cX12_strip 46 = .ok (.invokevirtual 173, 3) := by decide +kernel
theorem dX12_strip_49 : decode cX12_strip 49 = .ok (.iload 4, 2) := by decide +kernel
theorem dX12_strip_51 : decode cX12_strip 51 = .ok (.ifCond .ne 10, 3) := by decide +kernel
theorem dX12_strip_54 : decode cX12_strip 54 = .ok (.aload_n 0, 1) := by decide +kernel
theorem dX12_strip_55 : decode cX12_strip 55 = .ok (.getfield 69, 3) := by decide +kernel
theorem dX12_strip_58 : decode cX12_strip 58 = .ok (.ifCond .eq 8, 3) := by decide +kernel
theorem dX12_strip_61 : decode cX12_strip 61 = .ok (.bipush (-7), 2) := by decide +kernel
theorem dX12_strip_63 : decode cX12_strip 63 = .ok (.goto 14, 3) := by decide +kernel
theorem dX12_strip_66 : decode cX12_strip 66 = .ok (.iload_n 3, 1) := by decide +kernel
theorem dX12_strip_67 : decode cX12_strip 67 = .ok (.aload_n 0, 1) := by decide +kernel
theorem dX12_strip_68 : decode cX12_strip 68 = .ok (.invokevirtual 195, 3) := by decide +kernel
theorem dX12_strip_71 : decode cX12_strip 71 = .ok (.isub, 1) := by decide +kernel
theorem dX12_strip_72 : decode cX12_strip 72 = .ok (.aload_n 0, 1) := by decide +kernel
theorem dX12_strip_73 : decode cX12_strip 73 = .ok (.invokevirtual 190, 3) := by decide +kernel
theorem dX12_strip_76 : decode cX12_strip 76 = .ok (.isub, 1) := by decide +kernel
theorem dX12_strip_77 : decode cX12_strip 77 = .ok (.ireturn, 1) := by decide +kernel
theorem dX12_reach_0 : decode cX12_reach 0 = .ok (.aload_n 0, 1) := by decide +kernel
theorem dX12_reach_1 : decode cX12_reach 1 = .ok (.iconst 1, 1) := by decide +kernel
theorem dX12_reach_2 : decode cX12_reach 2 = .ok (.aload_n 0, 1) := by decide +kernel
theorem dX12_reach_3 : decode cX12_reach 3 = .ok (.getfield 11, 3) := by decide +kernel
theorem dX12_reach_6 : decode cX12_reach 6 = .ok (.bipush 14, 2) := by decide +kernel
theorem dX12_reach_8 : decode cX12_reach 8 = .ok (.iaload, 1) := by decide +kernel
theorem dX12_reach_9 : decode cX12_reach 9 = .ok (.invokevirtual 97, 3) := by decide +kernel
theorem dX12_reach_12 : decode cX12_reach 12 = .ok (.aload_n 0, 1) := by decide +kernel
theorem dX12_reach_13 : decode cX12_reach 13 = .ok (.getfield 77, 3) := by decide +kernel
theorem dX12_reach_16 : decode cX12_reach 16 = .ok (.iconst 1, 1) := by decide +kernel
theorem dX12_reach_17 : decode cX12_reach 17 = .ok (.if_icmp .ge 6, 3) := by decide +kernel
theorem dX12_reach_20 : decode cX12_reach 20 = .ok (.bipush (-2), 2) := by decide +kernel
theorem dX12_reach_22 : decode cX12_reach 22 = .ok (.ireturn, 1) := by decide +kernel
theorem dX12_reach_23 : decode cX12_reach 23 = .ok (.bipush (-21), 2) := by decide +kernel
theorem dX12_reach_25 : decode cX12_reach 25 = .ok (.istore_n 1, 1) := by decide +kernel
theorem dX12_reach_26 : decode cX12_reach 26 = .ok (.bipush 21, 2) := by decide +kernel
theorem dX12_reach_28 : decode cX12_reach 28 = .ok (.istore_n 2, 1) := by decide +kernel
theorem dX12_reach_29 : decode cX12_reach 29 = .ok (.iload_n 2, 1) := by decide +kernel
theorem dX12_reach_30 : decode cX12_reach 30 = .ok (.iload_n 1, 1) := by decide +kernel
theorem dX12_reach_31 : decode cX12_reach 31 = .ok (.isub, 1) := by decide +kernel
theorem dX12_reach_32 : decode cX12_reach 32 = .ok (.iconst 1, 1) := by decide +kernel
theorem dX12_reach_33 : decode cX12_reach 33 = .ok (.if_icmp .le 70, 3) := by decide +kernel
theorem dX12_reach_36 : decode cX12_reach 36 = .ok (.iload_n 1, 1) := by decide +kernel
theorem dX12_reach_37 : decode cX12_reach 37 = .ok (.iload_n 2, 1) := by decide +kernel
theorem dX12_reach_38 : decode cX12_reach 38 = .ok (.iadd, 1) := by decide +kernel
theorem dX12_reach_39 : decode cX12_reach 39 = .ok (.iconst 2, 1) := by decide +kernel
theorem dX12_reach_40 : decode cX12_reach 40 = .ok (.idiv, 1) := by decide +kernel
theorem dX12_reach_41 : decode cX12_reach 41 = .ok (.istore_n 3, 1) := by decide +kernel
theorem dX12_reach_42 : decode cX12_reach 42 = .ok (.aload_n 0, 1) := by decide +kernel
theorem dX12_reach_43 : decode cX12_reach 43 = .ok (.bipush 30, 2) := by decide +kernel
theorem dX12_reach_45 : decode cX12_reach 45 = .ok (.iload_n 3, 1) := by decide +kernel
theorem dX12_reach_46 : decode cX12_reach 46 = .ok (.iadd, 1) := by decide +kernel
theorem dX12_reach_47 : decode cX12_reach 47 = .ok (.invokevirtual 173, 3) := by decide +kernel
theorem dX12_reach_50 : decode cX12_reach 50 = .ok (.aload_n 0, 1) := by decide +kernel
theorem dX12_reach_51 : decode cX12_reach 51 = .ok (.getfield 69, 3) := by decide +kernel
theorem dX12_reach_54 : decode cX12_reach 54 = .ok (.ifCond .eq 6, 3) := by decide +kernel
theorem dX12_reach_57 : decode cX12_reach 57 = .ok (.bipush (-7), 2) := by decide +kernel
theorem dX12_reach_59 : decode cX12_reach 59 = .ok (.ireturn, 1) := by decide +kernel
theorem dX12_reach_60 : decode cX12_reach 60 = .ok (.aload_n 0, 1) := by decide +kernel
theorem dX12_reach_61 : decode cX12_reach 61 = .ok (.invokevirtual 195, 3) := by decide +kernel
theorem dX12_reach_64 : decode cX12_reach 64 = .ok (.aload_n 0, 1) := by decide +kernel
theorem dX12_reach_65 : decode cX12_reach 65 = .ok (.getfield 77, 3) := by decide +kernel
theorem dX12_reach_68 : decode cX12_reach 68 = .ok (.if_icmp .ne 7, 3) := by decide +kernel
theorem dX12_reach_71 : decode cX12_reach 71 = .ok (.iconst 1, 1) := by decide +kernel
theorem dX12_reach_72 : decode cX12_reach 72 = .ok (.goto 4, 3) := by decide +kernel
theorem dX12_reach_75 : decode cX12_reach 75 = .ok (.iconst 0, 1) := by decide +kernel
theorem dX12_reach_76 : decode cX12_reach 76 = .ok (.istore 4, 2) := by decide +kernel
theorem dX12_reach_78 : decode cX12_reach 78 = .ok (.iload 4, 2) := by decide +kernel
theorem dX12_reach_80 : decode cX12_reach 80 = .ok (.ifCond .eq 7, 3) := by decide +kernel
theorem dX12_reach_83 : decode cX12_reach 83 = .ok (.iload_n 3, 1) := by decide +kernel
theorem dX12_reach_84 : decode cX12_reach 84 = .ok (.goto 4, 3) := by decide +kernel
theorem dX12_reach_87 : decode cX12_reach 87 = .ok (.iload_n 2, 1) := by decide +kernel
theorem dX12_reach_88 : decode cX12_reach 88 = .ok (.istore_n 2, 1) := by decide +kernel
theorem dX12_reach_89 : decode cX12_reach 89 = .ok (.iload 4, 2) := by decide +kernel
theorem dX12_reach_91 : decode cX12_reach 91 = .ok (.ifCond .eq 7, 3) := by decide +kernel
theorem dX12_reach_94 : decode cX12_reach 94 = .ok (.iload_n 1, 1) := by decide +kernel
theorem dX12_reach_95 : decode cX12_reach 95 = .ok (.goto 4, 3) := by decide +kernel
theorem dX12_reach_98 : decode cX12_reach 98 = .ok (.iload_n 3, 1) := by decide +kernel
theorem dX12_reach_99 : decode cX12_reach 99 = .ok (.istore_n 1, 1) := by decide +kernel
theorem dX12_reach_100 : decode cX12_reach 100 = .ok (.goto (-71), 3) := by decide +kernel
theorem dX12_reach_103 : decode cX12_reach 103 = .ok (.iload_n 2, 1) := by decide +kernel
theorem dX12_reach_104 : decode cX12_reach 104 = .ok (.bipush 20, 2) := by decide +kernel
theorem dX12_reach_106 : decode cX12_reach 106 = .ok (.if_icmp .le 7, 3) := by decide +kernel
theorem dX12_reach_109 : decode cX12_reach 109 = .ok (.iconst (-1), 1) := by decide +kernel
theorem dX12_reach_110 : decode cX12_reach 110 = .ok (.goto 8, 3) := by decide +kernel
theorem dX12_reach_113 : decode cX12_reach 113 = .ok (.iload_n 2, 1) := by decide +kernel
theorem dX12_reach_114 : decode cX12_reach 114 = .ok (.sipush 1000, 3) := by decide +kernel
theorem dX12_reach_117 : decode cX12_reach 117 = .ok (.iadd, 1) := by decide +kernel
theorem dX12_reach_118 : decode cX12_reach 118 = .ok (.ireturn, 1) := by decide +kernel
theorem dX12_isSteady_0 : decode cX12_isSteady 0 = .ok (.bipush 6, 2) := by decide +kernel
theorem dX12_isSteady_2 : decode cX12_isSteady 2 = .ok (.istore 4, 2) := by decide +kernel
theorem dX12_isSteady_4 : decode cX12_isSteady 4 = .ok (.iload 4, 2) := by decide +kernel
theorem dX12_isSteady_6 : decode cX12_isSteady 6 = .ok (.ifCond .lt 34, 3) := by decide +kernel
theorem dX12_isSteady_9 : decode cX12_isSteady 9 = .ok (.aload_n 0, 1) := by decide +kernel
theorem dX12_isSteady_10 : decode cX12_isSteady 10 = .ok (.getfield 11, 3) := by decide +kernel
theorem dX12_isSteady_13 : decode cX12_isSteady 13 = .ok (.iconst 0, 1) := by decide +kernel
theorem dX12_isSteady_14 : decode cX12_isSteady 14 = .ok (.iload 4, 2) := by decide +kernel
theorem dX12_isSteady_16 : decode cX12_isSteady 16 = .ok (.iadd, 1) := by decide +kernel
theorem dX12_isSteady_17 : decode cX12_isSteady 17 = .ok (.iaload, 1) := by decide +kernel
theorem dX12_isSteady_18 : decode cX12_isSteady 18 = .ok (.ifCond .ne 22, 3) := by decide +kernel
theorem dX12_isSteady_21 : decode cX12_isSteady 21 = .ok (.aload_n 0, 1) := by decide +kernel
theorem dX12_isSteady_22 : decode cX12_isSteady 22 = .ok (.getfield 11, 3) := by decide +kernel
theorem dX12_isSteady_25 : decode cX12_isSteady 25 = .ok (.bipush 7, 2) := by decide +kernel
theorem dX12_isSteady_27 : decode cX12_isSteady 27 = .ok (.iload 4, 2) := by decide +kernel
theorem dX12_isSteady_29 : decode cX12_isSteady 29 = .ok (.iadd, 1) := by decide +kernel
theorem dX12_isSteady_30 : decode cX12_isSteady 30 = .ok (.iaload, 1) := by decide +kernel
theorem dX12_isSteady_31 : decode cX12_isSteady 31 = .ok (.ifCond .ne 9, 3) := by decide +kernel
theorem dX12_isSteady_34 : decode cX12_isSteady 34 = .ok (.iinc 4 (-1), 3) := by decide +kernel
theorem dX12_isSteady_37 : decode cX12_isSteady 37 = .ok (.goto (-33), 3) := by decide +kernel
theorem dX12_isSteady_40 : decode cX12_isSteady 40 = .ok (.aload_n 0, 1) := by decide +kernel
theorem dX12_isSteady_41 : decode cX12_isSteady 41 = .ok (.iload_n 2, 1) := by decide +kernel
theorem dX12_isSteady_42 : decode cX12_isSteady 42 = .ok (.iload_n 3, 1) := by decide +kernel
theorem dX12_isSteady_43 : decode cX12_isSteady 43 = .ok (.invokevirtual 97, 3) := by decide +kernel
theorem dX12_isSteady_46 : decode cX12_isSteady 46 = .ok (.aload_n 0, 1) := by decide +kernel
theorem dX12_isSteady_47 : decode cX12_isSteady 47 = .ok (.getfield 77, 3) := by decide +kernel
theorem dX12_isSteady_50 : decode cX12_isSteady 50 = .ok (.iconst 1, 1) := by decide +kernel
theorem dX12_isSteady_51 : decode cX12_isSteady 51 = .ok (.if_icmp .lt 12, 3) := by decide +kernel
theorem dX12_isSteady_54 : decode cX12_isSteady 54 = .ok (.aload_n 0, 1) := by decide +kernel
theorem dX12_isSteady_55 : decode cX12_isSteady 55 = .ok (.getfield 77, 3) := by decide +kernel
theorem dX12_isSteady_58 : decode cX12_isSteady 58 = .ok (.iload 4, 2) := by decide +kernel
theorem dX12_isSteady_60 : decode cX12_isSteady 60 = .ok (.if_icmp .eq 5, 3) := by decide +kernel
theorem dX12_isSteady_63 : decode cX12_isSteady 63 = .ok (.iconst 0, 1) := by decide +kernel
theorem dX12_isSteady_64 : decode cX12_isSteady 64 = .ok (.ireturn, 1) := by decide +kernel
theorem dX12_isSteady_65 : decode cX12_isSteady 65 = .ok (.aload_n 0, 1) := by decide +kernel
theorem dX12_isSteady_66 : decode cX12_isSteady 66 = .ok (.iload_n 1, 1) := by decide +kernel
theorem dX12_isSteady_67 : decode cX12_isSteady 67 = .ok (.ifCond .ne 7, 3) := by decide +kernel
theorem dX12_isSteady_70 : decode cX12_isSteady 70 = .ok (.iconst 0, 1) := by decide +kernel
theorem dX12_isSteady_71 : decode cX12_isSteady 71 = .ok (.goto 4, 3) := by decide +kernel
theorem dX12_isSteady_74 : decode cX12_isSteady 74 = .ok (.iconst 3, 1) := by decide +kernel
theorem dX12_isSteady_75 : decode cX12_isSteady 75 = .ok (.invokevirtual 127, 3) := by decide +kernel
theorem dX12_isSteady_78 : decode cX12_isSteady 78 = .ok (.aload_n 0, 1) := by decide +kernel
theorem dX12_isSteady_79 : decode cX12_isSteady 79 = .ok (.invokevirtual 170, 3) := by decide +kernel
theorem dX12_isSteady_82 : decode cX12_isSteady 82 = .ok (.aload_n 0, 1) := by decide +kernel
theorem dX12_isSteady_83 : decode cX12_isSteady 83 = .ok (.getfield 69, 3) := by decide +kernel
theorem dX12_isSteady_86 : decode cX12_isSteady 86 = .ok (.ifCond .ne 32, 3) := by decide +kernel
theorem dX12_isSteady_89 : decode cX12_isSteady 89 = .ok (.aload_n 0, 1) := by decide +kernel
theorem dX12_isSteady_90 : decode cX12_isSteady 90 = .ok (.invokevirtual 187, 3) := by decide +kernel
theorem dX12_isSteady_93 : decode cX12_isSteady 93 = .ok (.ifCond .ne 25, 3) := by decide +kernel
theorem dX12_isSteady_96 : decode cX12_isSteady 96 = .ok (.aload_n 0, 1) := by decide +kernel
theorem dX12_isSteady_97 : decode cX12_isSteady 97 = .ok (.invokevirtual 190, 3) := by decide +kernel
theorem dX12_isSteady_100 : decode cX12_isSteady 100 = .ok (.ifCond .ne 18, 3) := by decide +kernel
theorem dX12_isSteady_103 : decode cX12_isSteady 103 = .ok (.iload_n 1, 1) := by decide +kernel
theorem dX12_isSteady_104 : decode cX12_isSteady 104 = .ok (.ifCond .eq 10, 3) := by decide +kernel
theorem dX12_isSteady_107 : decode cX12_isSteady 107 = .ok (.aload_n 0, 1) := by decide +kernel
theorem dX12_isSteady_108 : decode cX12_isSteady 108 = .ok (.getfield 124, 3) := by decide +kernel
theorem dX12_isSteady_111 : decode cX12_isSteady 111 = .ok (.ifCond .ne 7, 3) := by decide +kernel
theorem dX12_isSteady_114 : decode cX12_isSteady 114 = .ok (.iconst 1, 1) := by decide +kernel
theorem dX12_isSteady_115 : decode cX12_isSteady 115 = .ok (.goto 4, 3) := by decide +kernel
theorem dX12_isSteady_118 : decode cX12_isSteady 118 = .ok (.iconst 0, 1) := by decide +kernel
theorem dX12_isSteady_119 : decode cX12_isSteady 119 = .ok (.ireturn, 1) := by decide +kernel
theorem dX12_isKind_0 : decode cX12_isKind 0 = .ok (.iload_n 0, 1) := by decide +kernel
theorem dX12_isKind_1 : decode cX12_isKind 1 = .ok (.i2l, 1) := by decide +kernel
theorem dX12_isKind_2 : decode cX12_isKind 2 = .ok (.lconst 0, 1) := by decide +kernel
theorem dX12_isKind_3 : decode cX12_isKind 3 = .ok (.lconst 1, 1) := by decide +kernel
theorem dX12_isKind_4 : decode cX12_isKind 4 = .ok (.invokestatic 83, 3) := by decide +kernel
theorem dX12_isKind_7 : decode cX12_isKind 7 = .ok (.ireturn, 1) := by decide +kernel
theorem dX12_steady_0 : decode cX12_steady 0 = .ok (.iload_n 1, 1) := by decide +kernel
theorem dX12_steady_1 : decode cX12_steady 1 = .ok (.invokestatic 204, 3) := by decide +kernel
theorem dX12_steady_4 : decode cX12_steady 4 = .ok (.ifCond .eq 29, 3) := by decide +kernel
theorem dX12_steady_7 : decode cX12_steady 7 = .ok (.iload_n 2, 1) := by decide +kernel
theorem dX12_steady_8 : decode cX12_steady 8 = .ok (.i2l, 1) := by decide +kernel
theorem dX12_steady_9 : decode cX12_steady 9 = .ok (.lconst 1, 1) := by decide +kernel
theorem dX12_steady_10 : decode cX12_steady 10 = .ok (.ldc2_w 207, 3) := by decide +kernel
theorem dX12_steady_13 : decode cX12_steady 13 = .ok (.invokestatic 83, 3) := by decide +kernel
theorem dX12_steady_16 : decode cX12_steady 16 = .ok (.ifCond .eq 17, 3) := by decide +kernel
theorem dX12_steady_19 : decode cX12_steady 19 = .ok (.iload_n 3, 1) := by decide +kernel
theorem dX12_steady_20 : decode cX12_steady 20 = .ok (.i2l, 1) := by decide +kernel
theorem dX12_steady_21 : decode cX12_steady 21 = .ok (.ldc2_w 209, 3) := by decide +kernel
theorem dX12_steady_24 : decode cX12_steady 24 = .ok (.ldc2_w 211, 3) := by decide +kernel
theorem dX12_steady_27 : decode cX12_steady 27 = .ok (.invokestatic 83, 3) := by decide +kernel
theorem dX12_steady_30 : decode cX12_steady 30 = .ok (.ifCond .ne 6, 3) := by decide +kernel
theorem dX12_steady_33 : decode cX12_steady 33 = .ok (.bipush (-2), 2) := by decide +kernel
theorem dX12_steady_35 : decode cX12_steady 35 = .ok (.ireturn, 1) := by decide +kernel
theorem dX12_steady_36 : decode cX12_steady 36 = .ok (.aload_n 0, 1) := by decide +kernel
theorem dX12_steady_37 : decode cX12_steady 37 = .ok (.iload_n 1, 1) := by decide +kernel
theorem dX12_steady_38 : decode cX12_steady 38 = .ok (.iload_n 2, 1) := by decide +kernel
theorem dX12_steady_39 : decode cX12_steady 39 = .ok (.iload_n 3, 1) := by decide +kernel
theorem dX12_steady_40 : decode cX12_steady 40 = .ok (.invokevirtual 213, 3) := by decide +kernel
theorem dX12_steady_43 : decode cX12_steady 43 = .ok (.ifCond .eq 7, 3) := by decide +kernel
theorem dX12_steady_46 : decode cX12_steady 46 = .ok (.iconst 1, 1) := by decide +kernel
theorem dX12_steady_47 : decode cX12_steady 47 = .ok (.goto 4, 3) := by decide +kernel
theorem dX12_steady_50 : decode cX12_steady 50 = .ok (.iconst 0, 1) := by decide +kernel
theorem dX12_steady_51 : decode cX12_steady 51 = .ok (.ireturn, 1) := by decide +kernel
theorem dX12_laysSpans_0 : decode cX12_laysSpans 0 = .ok (.aload_n 0, 1) := by decide +kernel
theorem dX12_laysSpans_1 : decode cX12_laysSpans 1 = .ok (.iconst 0, 1) := by decide +kernel
theorem dX12_laysSpans_2 : decode cX12_laysSpans 2 = .ok (.putfield 217, 3) := by decide +kernel
theorem dX12_laysSpans_5 : decode cX12_laysSpans 5 = .ok (.iconst 0, 1) := by decide +kernel
theorem dX12_laysSpans_6 : decode cX12_laysSpans 6 = .ok (.istore_n 2, 1) := by decide +kernel
theorem dX12_laysSpans_7 : decode cX12_laysSpans 7 = .ok (.bipush (-100), 2) := by decide +kernel
theorem dX12_laysSpans_9 : decode cX12_laysSpans 9 = .ok (.istore_n 3, 1) := by decide +kernel
theorem dX12_laysSpans_10 : decode cX12_laysSpans 10 = .ok (.iload_n 3, 1) := by decide +kernel
theorem dX12_laysSpans_11 : decode cX12_laysSpans 11 = .ok (.bipush 100, 2) := by decide +kernel
theorem dX12_laysSpans_13 : decode cX12_laysSpans 13 = .ok (.if_icmp .gt 67, 3) := by decide +kernel
theorem dX12_laysSpans_16 : decode cX12_laysSpans 16 = .ok (.aload_n 0, 1) := by decide +kernel
theorem dX12_laysSpans_17 : decode cX12_laysSpans 17 = .ok (.iload_n 1, 1) := by decide +kernel
theorem dX12_laysSpans_18 : decode cX12_laysSpans 18 = .ok (.iconst 1, 1) := by decide +kernel
theorem dX12_laysSpans_19 : decode cX12_laysSpans 19 = .ok (.iload_n 3, 1) := by decide +kernel
theorem dX12_laysSpans_20 : decode cX12_laysSpans 20 = .ok (.invokevirtual 213, 3) := by decide +kernel
theorem dX12_laysSpans_23 : decode cX12_laysSpans 23 = .ok (.istore 4, 2) := by decide +kernel
theorem dX12_laysSpans_25 : decode cX12_laysSpans 25 = .ok (.iload 4, 2) := by decide +kernel
theorem dX12_laysSpans_27 : decode cX12_laysSpans 27 = .ok (.ifCond .eq 27, 3) := by decide +kernel
theorem dX12_laysSpans_30 : decode cX12_laysSpans 30 = .ok (.iload_n 2, 1) := by decide +kernel
theorem dX12_laysSpans_31 : decode cX12_laysSpans 31 = .ok (.ifCond .ne 23, 3) := by decide +kernel
theorem dX12_laysSpans_34 : decode cX12_laysSpans 34 = .ok (.aload_n 0, 1) := by decide +kernel
theorem dX12_laysSpans_35 : decode cX12_laysSpans 35 = .ok (.getfield 37, 3) := by decide +kernel
theorem dX12_laysSpans_38 : decode cX12_laysSpans 38 = .ok (.aload_n 0, 1) := by decide +kernel
theorem dX12_laysSpans_39 : decode cX12_laysSpans 39 = .ok (.getfield 217, 3) := by decide +kernel
theorem dX12_laysSpans_42 : decode cX12_laysSpans 42 = .ok (.iload_n 3, 1) := by decide +kernel
theorem dX12_laysSpans_43 : decode cX12_laysSpans 43 = .ok (.iastore, 1) := by decide +kernel
theorem dX12_laysSpans_44 : decode cX12_laysSpans 44 = .ok (.aload_n 0, 1) := by decide +kernel
theorem dX12_laysSpans_45 : decode cX12_laysSpans 45 = .ok (.dup, 1) := by decide +kernel
theorem dX12_laysSpans_46 : decode cX12_laysSpans 46 = .ok (.getfield 217, 3) := by decide +kernel
theorem dX12_laysSpans_49 : decode cX12_laysSpans 49 = .ok (.iconst 1, 1) := by decide +kernel
theorem dX12_laysSpans_50 : decode cX12_laysSpans 50 = .ok (.iadd, 1) := by decide +kernel
theorem dX12_laysSpans_51 : decode cX12_laysSpans 51 = .ok (.putfield 217, 3) := by decide +kernel
theorem dX12_laysSpans_54 : decode cX12_laysSpans 54 = .ok (.iload 4, 2) := by decide +kernel
theorem dX12_laysSpans_56 : decode cX12_laysSpans 56 = .ok (.ifCond .eq 15, 3) := by decide +kernel
theorem dX12_laysSpans_59 : decode cX12_laysSpans 59 = .ok (.aload_n 0, 1) := by decide +kernel
theorem dX12_laysSpans_60 : decode cX12_laysSpans 60 = .ok (.getfield 40, 3) := by decide +kernel
theorem dX12_laysSpans_63 : decode cX12_laysSpans 63 = .ok (.aload_n 0, 1) := by decide +kernel
theorem dX12_laysSpans_64 : decode cX12_laysSpans 64 = .ok (.getfield 217, 3) := by decide +kernel
theorem dX12_laysSpans_67 : decode cX12_laysSpans 67 = .ok (.iconst 1, 1) := by decide +kernel
theorem dX12_laysSpans_68 : decode cX12_laysSpans 68 = .ok (.isub, 1) := by decide +kernel
theorem dX12_laysSpans_69 : decode cX12_laysSpans 69 = .ok (.iload_n 3, 1) := by decide +kernel
theorem dX12_laysSpans_70 : decode cX12_laysSpans 70 = .ok (.iastore, 1) := by decide +kernel
theorem dX12_laysSpans_71 : decode cX12_laysSpans 71 = .ok (.iload 4, 2) := by decide +kernel
theorem dX12_laysSpans_73 : decode cX12_laysSpans 73 = .ok (.istore_n 2, 1) := by decide +kernel
theorem dX12_laysSpans_74 : decode cX12_laysSpans 74 = .ok (.iinc 3 1, 3) := by decide +kernel
theorem dX12_laysSpans_77 : decode cX12_laysSpans 77 = .ok (.goto (-67), 3) := by decide +kernel
theorem dX12_laysSpans_80 : decode cX12_laysSpans 80 = .ok (.return_, 1) := by decide +kernel
theorem dX12_spans_0 : decode cX12_spans 0 = .ok (.iload_n 1, 1) := by decide +kernel
theorem dX12_spans_1 : decode cX12_spans 1 = .ok (.invokestatic 204, 3) := by decide +kernel
theorem dX12_spans_4 : decode cX12_spans 4 = .ok (.ifCond .ne 6, 3) := by decide +kernel
theorem dX12_spans_7 : decode cX12_spans 7 = .ok (.bipush (-2), 2) := by decide +kernel
theorem dX12_spans_9 : decode cX12_spans 9 = .ok (.ireturn, 1) := by decide +kernel
theorem dX12_spans_10 : decode cX12_spans 10 = .ok (.aload_n 0, 1) := by decide +kernel
theorem dX12_spans_11 : decode cX12_spans 11 = .ok (.iload_n 1, 1) := by decide +kernel
theorem dX12_spans_12 : decode cX12_spans 12 = .ok (.invokevirtual 220, 3) := by decide +kernel
theorem dX12_spans_15 : decode cX12_spans 15 = .ok (.aload_n 0, 1) := by decide +kernel
theorem dX12_spans_16 : decode cX12_spans 16 = .ok (.getfield 217, 3) := by decide +kernel
theorem dX12_spans_19 : decode cX12_spans 19 = .ok (.ireturn, 1) := by decide +kernel
theorem dX12_lastEdge_0 : decode cX12_lastEdge 0 = .ok (.bipush 16, 2) := by decide +kernel
theorem dX12_lastEdge_2 : decode cX12_lastEdge 2 = .ok (.iload_n 2, 1) := by decide +kernel
theorem dX12_lastEdge_3 : decode cX12_lastEdge 3 = .ok (.imul, 1) := by decide +kernel
theorem dX12_lastEdge_4 : decode cX12_lastEdge 4 = .ok (.istore_n 3, 1) := by decide +kernel
theorem dX12_lastEdge_5 : decode cX12_lastEdge 5 = .ok (.iload_n 3, 1) := by decide +kernel
theorem dX12_lastEdge_6 : decode cX12_lastEdge 6 = .ok (.bipush 16, 2) := by decide +kernel
theorem dX12_lastEdge_8 : decode cX12_lastEdge 8 = .ok (.iadd, 1) := by decide +kernel
theorem dX12_lastEdge_9 : decode cX12_lastEdge 9 = .ok (.istore 4, 2) := by decide +kernel
theorem dX12_lastEdge_11 : decode cX12_lastEdge 11 = .ok (.iconst 0, 1) := by decide +kernel
theorem dX12_lastEdge_12 : decode cX12_lastEdge 12 = .ok (.istore 5, 2) := by decide +kernel
theorem dX12_lastEdge_14 : decode cX12_lastEdge 14 = .ok (.iload 5, 2) := by decide +kernel
theorem dX12_lastEdge_16 : decode cX12_lastEdge 16 = .ok (.iconst 4, 1) := by decide +kernel
theorem dX12_lastEdge_17 : decode cX12_lastEdge 17 = .ok (.if_icmp .ge 60, 3) := by decide +kernel
theorem dX12_lastEdge_20 : decode cX12_lastEdge 20 = .ok (.iload_n 2, 1) := by decide +kernel
theorem dX12_lastEdge_21 : decode cX12_lastEdge 21 = .ok (.bipush 100, 2) := by decide +kernel
theorem dX12_lastEdge_23 : decode cX12_lastEdge 23 = .ok (.if_icmp .ge 54, 3) := by decide +kernel
theorem dX12_lastEdge_26 : decode cX12_lastEdge 26 = .ok (.iload_n 3, 1) := by decide +kernel
theorem dX12_lastEdge_27 : decode cX12_lastEdge 27 = .ok (.iload 4, 2) := by decide +kernel
theorem dX12_lastEdge_29 : decode cX12_lastEdge 29 = .ok (.iadd, 1) := by decide +kernel
theorem dX12_lastEdge_30 : decode cX12_lastEdge 30 = .ok (.iconst 2, 1) := by decide +kernel
theorem dX12_lastEdge_31 : decode cX12_lastEdge 31 = .ok (.idiv, 1) := by decide +kernel
theorem dX12_lastEdge_32 : decode cX12_lastEdge 32 = .ok (.istore 6, 2) := by decide +kernel
theorem dX12_lastEdge_34 : decode cX12_lastEdge 34 = .ok (.aload_n 0, 1) := by decide +kernel
theorem dX12_lastEdge_35 : decode cX12_lastEdge 35 = .ok (.iload_n 1, 1) := by decide +kernel
theorem dX12_lastEdge_36 : decode cX12_lastEdge 36 = .ok (.bipush 16, 2) := by decide +kernel
theorem dX12_lastEdge_38 : decode cX12_lastEdge 38 = .ok (.iload 6, 2) := by decide +kernel
theorem dX12_lastEdge_40 : decode cX12_lastEdge 40 = .ok (.invokevirtual 213, 3) := by decide +kernel
theorem dX12_lastEdge_43 : decode cX12_lastEdge 43 = .ok (.istore 7, 2) := by decide +kernel
theorem dX12_lastEdge_45 : decode cX12_lastEdge 45 = .ok (.iload 7, 2) := by decide +kernel
theorem dX12_lastEdge_47 : decode cX12_lastEdge 47 = .ok (.ifCond .eq 8, 3) := by decide +kernel
theorem dX12_lastEdge_50 : decode cX12_lastEdge 50 = .ok (.iload 6, 2) := by decide +kernel
theorem dX12_lastEdge_52 : decode cX12_lastEdge 52 = .ok (.goto 4, 3) := by decide +kernel
theorem dX12_lastEdge_55 : decode cX12_lastEdge 55 = .ok (.iload_n 3, 1) := by decide +kernel
theorem dX12_lastEdge_56 : decode cX12_lastEdge 56 = .ok (.istore_n 3, 1) := by decide +kernel
theorem dX12_lastEdge_57 : decode cX12_lastEdge 57 = .ok (.iload 7, 2) := by decide +kernel
theorem dX12_lastEdge_59 : decode cX12_lastEdge 59 = .ok (.ifCond .eq 8, 3) := by decide +kernel
theorem dX12_lastEdge_62 : decode cX12_lastEdge 62 = .ok (.iload 4, 2) := by decide +kernel
theorem dX12_lastEdge_64 : decode cX12_lastEdge 64 = .ok (.goto 5, 3) := by decide +kernel
theorem dX12_lastEdge_67 : decode cX12_lastEdge 67 = .ok (.iload 6, 2) := by decide +kernel
theorem dX12_lastEdge_69 : decode cX12_lastEdge 69 = .ok (.istore 4, 2) := by decide +kernel
theorem dX12_lastEdge_71 : decode cX12_lastEdge 71 = .ok (.iinc 5 1, 3) := by decide +kernel
theorem dX12_lastEdge_74 : decode cX12_lastEdge 74 = .ok (.goto (-60), 3) := by decide +kernel
theorem dX12_lastEdge_77 : decode cX12_lastEdge 77 = .ok (.iload_n 3, 1) := by decide +kernel
theorem dX12_lastEdge_78 : decode cX12_lastEdge 78 = .ok (.ireturn, 1) := by decide +kernel
theorem dX12_firstEdge_0 : decode cX12_firstEdge 0 = .ok (.bipush 16, 2) := by decide +kernel
theorem dX12_firstEdge_2 : decode cX12_firstEdge 2 = .ok (.iload_n 2, 1) := by decide +kernel
theorem dX12_firstEdge_3 : decode cX12_firstEdge 3 = .ok (.imul, 1) := by decide +kernel
theorem dX12_firstEdge_4 : decode cX12_firstEdge 4 = .ok (.istore_n 3, 1) := by decide +kernel
theorem dX12_firstEdge_5 : decode cX12_firstEdge 5 = .ok (.iload_n 3, 1) := by decide +kernel
theorem dX12_firstEdge_6 : decode cX12_firstEdge 6 = .ok (.bipush 16, 2) := by decide +kernel
theorem dX12_firstEdge_8 : decode cX12_firstEdge 8 = .ok (.isub, 1) := by decide +kernel
theorem dX12_firstEdge_9 : decode cX12_firstEdge 9 = .ok (.istore 4, 2) := by decide +kernel
theorem dX12_firstEdge_11 : decode cX12_firstEdge 11 = .ok (.iconst 0, 1) := by decide +kernel
theorem dX12_firstEdge_12 : decode cX12_firstEdge 12 = .ok (.istore 5, 2) := by decide +kernel
theorem dX12_firstEdge_14 : decode cX12_firstEdge 14 = .ok (.iload 5, 2) := by decide +kernel
theorem dX12_firstEdge_16 : decode cX12_firstEdge 16 = .ok (.iconst 4, 1) := by decide +kernel
theorem dX12_firstEdge_17 : decode cX12_firstEdge 17 = .ok (.if_icmp .ge 60, 3) := by decide +kernel
theorem dX12_firstEdge_20 : decode cX12_firstEdge 20 = .ok (.iload_n 2, 1) := by decide +kernel
theorem dX12_firstEdge_21 : decode cX12_firstEdge 21 = .ok (.bipush (-100), 2) := by decide +kernel
theorem dX12_firstEdge_23 : decode cX12_firstEdge 23 = .ok (.if_icmp .le 54, 3) := by decide +kernel
theorem dX12_firstEdge_26 : decode cX12_firstEdge 26 = .ok (.iload 4, 2) := by decide +kernel
theorem dX12_firstEdge_28 : decode cX12_firstEdge 28 = .ok (.iload_n 3, 1) := by decide +kernel
theorem dX12_firstEdge_29 : decode cX12_firstEdge 29 = .ok (.iadd, 1) := by decide +kernel
theorem dX12_firstEdge_30 : decode cX12_firstEdge 30 = .ok (.iconst 2, 1) := by decide +kernel
theorem dX12_firstEdge_31 : decode cX12_firstEdge 31 = .ok (.idiv, 1) := by decide +kernel
theorem dX12_firstEdge_32 : decode cX12_firstEdge 32 = .ok (.istore 6, 2) := by decide +kernel
theorem dX12_firstEdge_34 : decode cX12_firstEdge 34 = .ok (.aload_n 0, 1) := by decide +kernel
theorem dX12_firstEdge_35 : decode cX12_firstEdge 35 = .ok (.iload_n 1, 1) := by decide +kernel
theorem dX12_firstEdge_36 : decode cX12_firstEdge 36 = .ok (.bipush 16, 2) := by decide +kernel
theorem dX12_firstEdge_38 : decode cX12_firstEdge 38 = .ok (.iload 6, 2) := by decide +kernel
theorem dX12_firstEdge_40 : decode cX12_firstEdge 40 = .ok (.invokevirtual 213, 3) := by decide +kernel
theorem dX12_firstEdge_43 : decode cX12_firstEdge 43 = .ok (.istore 7, 2) := by decide +kernel
theorem dX12_firstEdge_45 : decode cX12_firstEdge 45 = .ok (.iload 7, 2) := by decide +kernel
theorem dX12_firstEdge_47 : decode cX12_firstEdge 47 = .ok (.ifCond .eq 8, 3) := by decide +kernel
theorem dX12_firstEdge_50 : decode cX12_firstEdge 50 = .ok (.iload 6, 2) := by decide +kernel
theorem dX12_firstEdge_52 : decode cX12_firstEdge 52 = .ok (.goto 4, 3) := by decide +kernel
theorem dX12_firstEdge_55 : decode cX12_firstEdge 55 = .ok (.iload_n 3, 1) := by decide +kernel
theorem dX12_firstEdge_56 : decode cX12_firstEdge 56 = .ok (.istore_n 3, 1) := by decide +kernel
theorem dX12_firstEdge_57 : decode cX12_firstEdge 57 = .ok (.iload 7, 2) := by decide +kernel
theorem dX12_firstEdge_59 : decode cX12_firstEdge 59 = .ok (.ifCond .eq 8, 3) := by decide +kernel
theorem dX12_firstEdge_62 : decode cX12_firstEdge 62 = .ok (.iload 4, 2) := by decide +kernel
theorem dX12_firstEdge_64 : decode cX12_firstEdge 64 = .ok (.goto 5, 3) := by decide +kernel
theorem dX12_firstEdge_67 : decode cX12_firstEdge 67 = .ok (.iload 6, 2) := by decide +kernel
theorem dX12_firstEdge_69 : decode cX12_firstEdge 69 = .ok (.istore 4, 2) := by decide +kernel
theorem dX12_firstEdge_71 : decode cX12_firstEdge 71 = .ok (.iinc 5 1, 3) := by decide +kernel
theorem dX12_firstEdge_74 : decode cX12_firstEdge 74 = .ok (.goto (-60), 3) := by decide +kernel
theorem dX12_firstEdge_77 : decode cX12_firstEdge 77 = .ok (.iload_n 3, 1) := by decide +kernel
theorem dX12_firstEdge_78 : decode cX12_firstEdge 78 = .ok (.ireturn, 1) := by decide +kernel
theorem dX12_span_0 : decode cX12_span 0 = .ok (.iload_n 1, 1) := by decide +kernel
theorem dX12_span_1 : decode cX12_span 1 = .ok (.invokestatic 204, 3) := by decide +kernel
theorem dX12_span_4 : decode cX12_span 4 = .ok (.ifCond .eq 15, 3) := by decide +kernel
theorem dX12_span_7 : decode cX12_span 7 = .ok (.iload_n 3, 1) := by decide +kernel
theorem dX12_span_8 : decode cX12_span 8 = .ok (.i2l, 1) := by decide +kernel
theorem dX12_span_9 : decode cX12_span 9 = .ok (.lconst 0, 1) := by decide +kernel
theorem dX12_span_10 : decode cX12_span 10 = .ok (.ldc2_w 193, 3) := by decide +kernel
theorem dX12_span_13 : decode cX12_span 13 = .ok (.invokestatic 83, 3) := by decide +kernel
theorem dX12_span_16 : decode cX12_span 16 = .ok (.ifCond .ne 6, 3) := by decide +kernel
theorem dX12_span_19 : decode cX12_span 19 = .ok (.bipush (-2), 2) := by decide +kernel
theorem dX12_span_21 : decode cX12_span 21 = .ok (.ireturn, 1) := by decide +kernel
theorem dX12_span_22 : decode cX12_span 22 = .ok (.aload_n 0, 1) := by decide +kernel
theorem dX12_span_23 : decode cX12_span 23 = .ok (.iload_n 1, 1) := by decide +kernel
theorem dX12_span_24 : decode cX12_span 24 = .ok (.invokevirtual 220, 3) := by decide +kernel
theorem dX12_span_27 : decode cX12_span 27 = .ok (.iload_n 2, 1) := by decide +kernel
theorem dX12_span_28 : decode cX12_span 28 = .ok (.i2l, 1) := by decide +kernel
theorem dX12_span_29 : decode cX12_span 29 = .ok (.lconst 0, 1) := by decide +kernel
theorem dX12_span_30 : decode cX12_span 30 = .ok (.aload_n 0, 1) := by decide +kernel
theorem dX12_span_31 : decode cX12_span 31 = .ok (.getfield 217, 3) := by decide +kernel
theorem dX12_span_34 : decode cX12_span 34 = .ok (.iconst 1, 1) := by decide +kernel
theorem dX12_span_35 : decode cX12_span 35 = .ok (.isub, 1) := by decide +kernel
theorem dX12_span_36 : decode cX12_span 36 = .ok (.i2l, 1) := by decide +kernel
theorem dX12_span_37 : decode cX12_span 37 = .ok (.invokestatic 83, 3) := by decide +kernel
theorem dX12_span_40 : decode cX12_span 40 = .ok (.ifCond .ne 5, 3) := by decide +kernel
theorem dX12_span_43 : decode cX12_span 43 = .ok (.iconst (-1), 1) := by decide +kernel
theorem dX12_span_44 : decode cX12_span 44 = .ok (.ireturn, 1) := by decide +kernel
theorem dX12_span_45 : decode cX12_span 45 = .ok (.aload_n 0, 1) := by decide +kernel
theorem dX12_span_46 : decode cX12_span 46 = .ok (.getfield 37, 3) := by decide +kernel
theorem dX12_span_49 : decode cX12_span 49 = .ok (.iload_n 2, 1) := by decide +kernel
theorem dX12_span_50 : decode cX12_span 50 = .ok (.iaload, 1) := by decide +kernel
theorem dX12_span_51 : decode cX12_span 51 = .ok (.istore 4, 2) := by decide +kernel
theorem dX12_span_53 : decode cX12_span 53 = .ok (.aload_n 0, 1) := by decide +kernel
theorem dX12_span_54 : decode cX12_span 54 = .ok (.getfield 40, 3) := by decide +kernel
theorem dX12_span_57 : decode cX12_span 57 = .ok (.iload_n 2, 1) := by decide +kernel
theorem dX12_span_58 : decode cX12_span 58 = .ok (.iaload, 1) := by decide +kernel
theorem dX12_span_59 : decode cX12_span 59 = .ok (.istore 5, 2) := by decide +kernel
theorem dX12_span_61 : decode cX12_span 61 = .ok (.iload_n 3, 1) := by decide +kernel
theorem dX12_span_62 : decode cX12_span 62 = .ok (.tableswitch 68 0 3 #[30, 37, 44, 56], 30) := by decide +kernel
theorem dX12_span_92 : decode cX12_span 92 = .ok (.iload 4, 2) := by decide +kernel
theorem dX12_span_94 : decode cX12_span 94 = .ok (.sipush 1000, 3) := by decide +kernel
theorem dX12_span_97 : decode cX12_span 97 = .ok (.iadd, 1) := by decide +kernel
theorem dX12_span_98 : decode cX12_span 98 = .ok (.ireturn, 1) := by decide +kernel
theorem dX12_span_99 : decode cX12_span 99 = .ok (.iload 5, 2) := by decide +kernel
theorem dX12_span_101 : decode cX12_span 101 = .ok (.sipush 1000, 3) := by decide +kernel
theorem dX12_span_104 : decode cX12_span 104 = .ok (.iadd, 1) := by decide +kernel
theorem dX12_span_105 : decode cX12_span 105 = .ok (.ireturn, 1) := by decide +kernel
theorem dX12_span_106 : decode cX12_span 106 = .ok (.aload_n 0, 1) := by decide +kernel
theorem dX12_span_107 : decode cX12_span 107 = .ok (.iload_n 1, 1) := by decide +kernel
theorem dX12_span_108 : decode cX12_span 108 = .ok (.iload 4, 2) := by decide +kernel
theorem dX12_span_110 : decode cX12_span 110 = .ok (.invokevirtual 223, 3) := by decide +kernel
theorem dX12_span_113 : decode cX12_span 113 = .ok (.sipush 10000, 3) := by decide +kernel
theorem dX12_span_116 : decode cX12_span 116 = .ok (.iadd, 1) := by decide +kernel
theorem dX12_span_117 : decode cX12_span 117 = .ok (.ireturn, 1) := by decide +kernel
theorem dX12_span_118 : decode cX12_span 118 = .ok (.aload_n 0, 1) := by decide +kernel
theorem dX12_span_119 : decode cX12_span 119 = .ok (.iload_n 1, 1) := by decide +kernel
theorem dX12_span_120 : decode cX12_span 120 = .ok (.iload 5, 2) := by decide +kernel
theorem dX12_span_122 : decode cX12_span 122 = .ok (.invokevirtual 226, 3) := by decide +kernel
theorem dX12_span_125 : decode cX12_span 125 = .ok (.sipush 10000, 3) := by decide +kernel
theorem dX12_span_128 : decode cX12_span 128 = .ok (.iadd, 1) := by decide +kernel
theorem dX12_span_129 : decode cX12_span 129 = .ok (.ireturn, 1) := by decide +kernel
theorem dX12_span_130 : decode cX12_span 130 = .ok (.iload 5, 2) := by decide +kernel
theorem dX12_span_132 : decode cX12_span 132 = .ok (.iload 4, 2) := by decide +kernel
theorem dX12_span_134 : decode cX12_span 134 = .ok (.isub, 1) := by decide +kernel
theorem dX12_span_135 : decode cX12_span 135 = .ok (.iconst 1, 1) := by decide +kernel
theorem dX12_span_136 : decode cX12_span 136 = .ok (.iadd, 1) := by decide +kernel
theorem dX12_span_137 : decode cX12_span 137 = .ok (.ireturn, 1) := by decide +kernel
theorem dX12_nearest_0 : decode cX12_nearest 0 = .ok (.iload_n 1, 1) := by decide +kernel
theorem dX12_nearest_1 : decode cX12_nearest 1 = .ok (.invokestatic 204, 3) := by decide +kernel
theorem dX12_nearest_4 : decode cX12_nearest 4 = .ok (.ifCond .eq 17, 3) := by decide +kernel
theorem dX12_nearest_7 : decode cX12_nearest 7 = .ok (.iload_n 2, 1) := by decide +kernel
theorem dX12_nearest_8 : decode cX12_nearest 8 = .ok (.i2l, 1) := by decide +kernel
theorem dX12_nearest_9 : decode cX12_nearest 9 = .ok (.ldc2_w 101, 3) := by decide +kernel
theorem dX12_nearest_12 : decode cX12_nearest 12 = .ok (.ldc2_w 103, 3) := by decide +kernel
theorem dX12_nearest_15 : decode cX12_nearest 15 = .ok (.invokestatic 83, 3) := by decide +kernel
theorem dX12_nearest_18 : decode cX12_nearest 18 = .ok (.ifCond .ne 6, 3) := by decide +kernel
theorem dX12_nearest_21 : decode cX12_nearest 21 = .ok (.bipush (-2), 2) := by decide +kernel
theorem dX12_nearest_23 : decode cX12_nearest 23 = .ok (.ireturn, 1) := by decide +kernel
theorem dX12_nearest_24 : decode cX12_nearest 24 = .ok (.aload_n 0, 1) := by decide +kernel
theorem dX12_nearest_25 : decode cX12_nearest 25 = .ok (.iload_n 1, 1) := by decide +kernel
theorem dX12_nearest_26 : decode cX12_nearest 26 = .ok (.invokevirtual 220, 3) := by decide +kernel
theorem dX12_nearest_29 : decode cX12_nearest 29 = .ok (.iconst (-1), 1) := by decide +kernel
theorem dX12_nearest_30 : decode cX12_nearest 30 = .ok (.istore_n 3, 1) := by decide +kernel
theorem dX12_nearest_31 : decode cX12_nearest 31 = .ok (.iconst 0, 1) := by decide +kernel
theorem dX12_nearest_32 : decode cX12_nearest 32 = .ok (.istore 4, 2) := by decide +kernel
theorem dX12_nearest_34 : decode cX12_nearest 34 = .ok (.iconst 0, 1) := by decide +kernel
theorem dX12_nearest_35 : decode cX12_nearest 35 = .ok (.istore 5, 2) := by decide +kernel
theorem dX12_nearest_37 : decode cX12_nearest 37 = .ok (.iload 5, 2) := by decide +kernel
theorem dX12_nearest_39 : decode cX12_nearest 39 = .ok (.aload_n 0, 1) := by decide +kernel
theorem dX12_nearest_40 : decode cX12_nearest 40 = .ok (.getfield 217, 3) := by decide +kernel
theorem dX12_nearest_43 : decode cX12_nearest 43 = .ok (.if_icmp .ge 76, 3) := by decide +kernel
theorem dX12_nearest_46 : decode cX12_nearest 46 = .ok (.iload_n 2, 1) := by decide +kernel
theorem dX12_nearest_47 : decode cX12_nearest 47 = .ok (.aload_n 0, 1) := by decide +kernel
theorem dX12_nearest_48 : decode cX12_nearest 48 = .ok (.getfield 37, 3) := by decide +kernel
theorem dX12_nearest_51 : decode cX12_nearest 51 = .ok (.iload 5, 2) := by decide +kernel
theorem dX12_nearest_53 : decode cX12_nearest 53 = .ok (.iaload, 1) := by decide +kernel
theorem dX12_nearest_54 : decode cX12_nearest 54 = .ok (.if_icmp .ge 15, 3) := by decide +kernel
theorem dX12_nearest_57 : decode cX12_nearest 57 = .ok (.aload_n 0, 1) := by decide +kernel
theorem dX12_nearest_58 : decode cX12_nearest 58 = .ok (.getfield 37, 3) := by decide +kernel
theorem dX12_nearest_61 : decode cX12_nearest 61 = .ok (.iload 5, 2) := by decide +kernel
theorem dX12_nearest_63 : decode cX12_nearest 63 = .ok (.iaload, 1) := by decide +kernel
theorem dX12_nearest_64 : decode cX12_nearest 64 = .ok (.iload_n 2, 1) := by decide +kernel
theorem dX12_nearest_65 : decode cX12_nearest 65 = .ok (.isub, 1) := by decide +kernel
theorem dX12_nearest_66 : decode cX12_nearest 66 = .ok (.goto 27, 3) := by decide +kernel
theorem dX12_nearest_69 : decode cX12_nearest 69 = .ok (.iload_n 2, 1) := by decide +kernel
theorem dX12_nearest_70 : decode cX12_nearest 70 = .ok (.aload_n 0, 1) := by decide +kernel
theorem dX12_nearest_71 : decode cX12_nearest 71 = .ok (.getfield 40, 3) := by decide +kernel
theorem dX12_nearest_74 : decode cX12_nearest 74 = .ok (.iload 5, 2) := by decide +kernel
theorem dX12_nearest_76 : decode cX12_nearest 76 = .ok (.iaload, 1) := by decide +kernel
theorem dX12_nearest_77 : decode cX12_nearest 77 = .ok (.if_icmp .le 15, 3) := by decide +kernel
theorem dX12_nearest_80 : decode cX12_nearest 80 = .ok (.iload_n 2, 1) := by decide +kernel
theorem dX12_nearest_81 : decode cX12_nearest 81 = .ok (.aload_n 0, 1) := by decide +kernel
theorem dX12_nearest_82 : decode cX12_nearest 82 = .ok (.getfield 40, 3) := by decide +kernel
theorem dX12_nearest_85 : decode cX12_nearest 85 = .ok (.iload 5, 2) := by decide +kernel
theorem dX12_nearest_87 : decode cX12_nearest 87 = .ok (.iaload, 1) := by decide +kernel
theorem dX12_nearest_88 : decode cX12_nearest 88 = .ok (.isub, 1) := by decide +kernel
theorem dX12_nearest_89 : decode cX12_nearest 89 = .ok (.goto 4, 3) := by decide +kernel
theorem dX12_nearest_92 : decode cX12_nearest 92 = .ok (.iconst 0, 1) := by decide +kernel
theorem dX12_nearest_93 : decode cX12_nearest 93 = .ok (.istore 6, 2) := by decide +kernel
theorem dX12_nearest_95 : decode cX12_nearest 95 = .ok (.iload_n 3, 1) := by decide +kernel
theorem dX12_nearest_96 : decode cX12_nearest 96 = .ok (.ifCond .lt 10, 3) := by decide +kernel
theorem dX12_nearest_99 : decode cX12_nearest 99 = .ok (.iload 6, 2) := by decide +kernel
theorem dX12_nearest_101 : decode cX12_nearest 101 = .ok (.iload 4, 2) := by decide +kernel
theorem dX12_nearest_103 : decode cX12_nearest 103 = .ok (.if_icmp .ge 10, 3) := by decide +kernel
theorem dX12_nearest_106 : decode cX12_nearest 106 = .ok (.iload 5, 2) := by decide +kernel
theorem dX12_nearest_108 : decode cX12_nearest 108 = .ok (.istore_n 3, 1) := by decide +kernel
theorem dX12_nearest_109 : decode cX12_nearest 109 = .ok (.iload 6, 2) := by decide +kernel
theorem dX12_nearest_111 : decode cX12_nearest 111 = .ok (.istore 4, 2) := by decide +kernel
theorem dX12_nearest_113 : decode cX12_nearest 113 = .ok (.iinc 5 1, 3) := by decide +kernel
theorem dX12_nearest_116 : decode cX12_nearest 116 = .ok (.goto (-79), 3) := by decide +kernel
theorem dX12_nearest_119 : decode cX12_nearest 119 = .ok (.iload_n 3, 1) := by decide +kernel
theorem dX12_nearest_120 : decode cX12_nearest 120 = .ok (.ireturn, 1) := by decide +kernel
theorem dX12_degreeOfLink_0 : decode cX12_degreeOfLink 0 = .ok (.bipush 6, 2) := by decide +kernel
theorem dX12_degreeOfLink_2 : decode cX12_degreeOfLink 2 = .ok (.istore_n 2, 1) := by decide +kernel
theorem dX12_degreeOfLink_3 : decode cX12_degreeOfLink 3 = .ok (.iload_n 2, 1) := by decide +kernel
theorem dX12_degreeOfLink_4 : decode cX12_degreeOfLink 4 = .ok (.ifCond .lt 25, 3) := by decide +kernel
theorem dX12_degreeOfLink_7 : decode cX12_degreeOfLink 7 = .ok (.aload_n 0, 1) := by decide +kernel
theorem dX12_degreeOfLink_8 : decode cX12_degreeOfLink 8 = .ok (.getfield 43, 3) := by decide +kernel
theorem dX12_degreeOfLink_11 : decode cX12_degreeOfLink 11 = .ok (.bipush 7, 2) := by decide +kernel
theorem dX12_degreeOfLink_13 : decode cX12_degreeOfLink 13 = .ok (.iload_n 1, 1) := by decide +kernel
theorem dX12_degreeOfLink_14 : decode cX12_degreeOfLink 14 = .ok (.imul, 1) := by decide +kernel
theorem dX12_degreeOfLink_15 : decode cX12_degreeOfLink 15 = .ok (.iload_n 2, 1) := by decide +kernel
theorem dX12_degreeOfLink_16 : decode cX12_degreeOfLink 16 = .ok (.iadd, 1) := by decide +kernel
theorem dX12_degreeOfLink_17 : decode cX12_degreeOfLink 17 = .ok (.laload, 1) := by decide +kernel
theorem dX12_degreeOfLink_18 : decode cX12_degreeOfLink 18 = .ok (.lconst 0, 1) := by decide +kernel
theorem dX12_degreeOfLink_19 : decode cX12_degreeOfLink 19 = .ok (.lcmp, 1) := by decide +kernel
theorem dX12_degreeOfLink_20 : decode cX12_degreeOfLink 20 = .ok (.ifCond .ne 9, 3) := by decide +kernel
theorem dX12_degreeOfLink_23 : decode cX12_degreeOfLink 23 = .ok (.iinc 2 (-1), 3) := by decide +kernel
theorem dX12_degreeOfLink_26 : decode cX12_degreeOfLink 26 = .ok (.goto (-23), 3) := by decide +kernel
theorem dX12_degreeOfLink_29 : decode cX12_degreeOfLink 29 = .ok (.iload_n 2, 1) := by decide +kernel
theorem dX12_degreeOfLink_30 : decode cX12_degreeOfLink 30 = .ok (.ireturn, 1) := by decide +kernel
theorem dX12_dividesLink_0 : decode cX12_dividesLink 0 = .ok (.lconst 0, 1) := by decide +kernel
theorem dX12_dividesLink_1 : decode cX12_dividesLink 1 = .ok (.lstore_n 2, 1) := by decide +kernel
theorem dX12_dividesLink_2 : decode cX12_dividesLink 2 = .ok (.iconst 0, 1) := by decide +kernel
theorem dX12_dividesLink_3 : decode cX12_dividesLink 3 = .ok (.istore 4, 2) := by decide +kernel
theorem dX12_dividesLink_5 : decode cX12_dividesLink 5 = .ok (.iload 4, 2) := by decide +kernel
theorem dX12_dividesLink_7 : decode cX12_dividesLink 7 = .ok (.bipush 7, 2) := by decide +kernel
theorem dX12_dividesLink_9 : decode cX12_dividesLink 9 = .ok (.if_icmp .ge 26, 3) := by decide +kernel
theorem dX12_dividesLink_12 : decode cX12_dividesLink 12 = .ok (.aload_n 0, 1) := by decide +kernel
theorem dX12_dividesLink_13 : decode cX12_dividesLink 13 = .ok (.getfield 43, 3) := by decide +kernel
theorem dX12_dividesLink_16 : decode cX12_dividesLink 16 = .ok (.bipush 7, 2) := by decide +kernel
theorem dX12_dividesLink_18 : decode cX12_dividesLink 18 = .ok (.iload_n 1, 1) := by decide +kernel
theorem dX12_dividesLink_19 : decode cX12_dividesLink 19 = .ok (.imul, 1) := by decide +kernel
theorem dX12_dividesLink_20 : decode cX12_dividesLink 20 = .ok (.iload 4, 2) := by decide +kernel
theorem dX12_dividesLink_22 : decode cX12_dividesLink 22 = .ok (.iadd, 1) := by decide +kernel
theorem dX12_dividesLink_23 : decode cX12_dividesLink 23 = .ok (.laload, 1) := by decide +kernel
theorem dX12_dividesLink_24 : decode cX12_dividesLink 24 = .ok (.lload_n 2, 1) := by decide +kernel
theorem dX12_dividesLink_25 : decode cX12_dividesLink 25 = .ok (.invokestatic 158, 3) := by decide +kernel
theorem dX12_dividesLink_28 : decode cX12_dividesLink 28 = .ok (.lstore_n 2, 1) := by decide +kernel
theorem dX12_dividesLink_29 : decode cX12_dividesLink 29 = .ok (.iinc 4 1, 3) := by decide +kernel
theorem dX12_dividesLink_32 : decode cX12_dividesLink 32 = .ok (.goto (-27), 3) := by decide +kernel
theorem dX12_dividesLink_35 : decode cX12_dividesLink 35 = .ok (.iconst 0, 1) := by decide +kernel
theorem dX12_dividesLink_36 : decode cX12_dividesLink 36 = .ok (.istore 4, 2) := by decide +kernel
theorem dX12_dividesLink_38 : decode cX12_dividesLink 38 = .ok (.iload 4, 2) := by decide +kernel
theorem dX12_dividesLink_40 : decode cX12_dividesLink 40 = .ok (.bipush 7, 2) := by decide +kernel
theorem dX12_dividesLink_42 : decode cX12_dividesLink 42 = .ok (.if_icmp .ge 25, 3) := by decide +kernel
theorem dX12_dividesLink_45 : decode cX12_dividesLink 45 = .ok (.aload_n 0, 1) := by decide +kernel
theorem dX12_dividesLink_46 : decode cX12_dividesLink 46 = .ok (.getfield 43, 3) := by decide +kernel
theorem dX12_dividesLink_49 : decode cX12_dividesLink 49 = .ok (.bipush 7, 2) := by decide +kernel
theorem dX12_dividesLink_51 : decode cX12_dividesLink 51 = .ok (.iload_n 1, 1) := by decide +kernel
theorem dX12_dividesLink_52 : decode cX12_dividesLink 52 = .ok (.imul, 1) := by decide +kernel
theorem dX12_dividesLink_53 : decode cX12_dividesLink 53 = .ok (.iload 4, 2) := by decide +kernel
theorem dX12_dividesLink_55 : decode cX12_dividesLink 55 = .ok (.iadd, 1) := by decide +kernel
theorem dX12_dividesLink_56 : decode cX12_dividesLink 56 = .ok (.dup2, 1) := by decide +kernel
theorem dX12_dividesLink_57 : decode cX12_dividesLink 57 = .ok (.laload, 1) := by decide +kernel
theorem dX12_dividesLink_58 : decode cX12_dividesLink 58 = .ok (.lload_n 2, 1) := by decide +kernel
theorem dX12_dividesLink_59 : decode cX12_dividesLink 59 = .ok (.ldiv, 1) := by decide +kernel
theorem dX12_dividesLink_60 : decode cX12_dividesLink 60 = .ok (.lastore, 1) := by decide +kernel
theorem dX12_dividesLink_61 : decode cX12_dividesLink 61 = .ok (.iinc 4 1, 3) := by decide +kernel
theorem dX12_dividesLink_64 : decode cX12_dividesLink 64 = .ok (.goto (-26), 3) := by decide +kernel
theorem dX12_dividesLink_67 : decode cX12_dividesLink 67 = .ok (.aload_n 0, 1) := by decide +kernel
theorem dX12_dividesLink_68 : decode cX12_dividesLink 68 = .ok (.dup, 1) := by decide +kernel
theorem dX12_dividesLink_69 : decode cX12_dividesLink 69 = .ok (.getfield 229, 3) := by decide +kernel
theorem dX12_dividesLink_72 : decode cX12_dividesLink 72 = .ok (.iconst 1, 1) := by decide +kernel
theorem dX12_dividesLink_73 : decode cX12_dividesLink 73 = .ok (.iadd, 1) := by decide +kernel
theorem dX12_dividesLink_74 : decode cX12_dividesLink 74 = .ok (.putfield 229, 3) := by decide +kernel
theorem dX12_dividesLink_77 : decode cX12_dividesLink 77 = .ok (.return_, 1) := by decide +kernel
theorem dX12_goesOn_0 : decode cX12_goesOn 0 = .ok (.aload_n 0, 1) := by decide +kernel
theorem dX12_goesOn_1 : decode cX12_goesOn 1 = .ok (.getfield 229, 3) := by decide +kernel
theorem dX12_goesOn_4 : decode cX12_goesOn 4 = .ok (.iconst 1, 1) := by decide +kernel
theorem dX12_goesOn_5 : decode cX12_goesOn 5 = .ok (.isub, 1) := by decide +kernel
theorem dX12_goesOn_6 : decode cX12_goesOn 6 = .ok (.istore_n 1, 1) := by decide +kernel
theorem dX12_goesOn_7 : decode cX12_goesOn 7 = .ok (.aload_n 0, 1) := by decide +kernel
theorem dX12_goesOn_8 : decode cX12_goesOn 8 = .ok (.iload_n 1, 1) := by decide +kernel
theorem dX12_goesOn_9 : decode cX12_goesOn 9 = .ok (.invokevirtual 232, 3) := by decide +kernel
theorem dX12_goesOn_12 : decode cX12_goesOn 12 = .ok (.istore_n 2, 1) := by decide +kernel
theorem dX12_goesOn_13 : decode cX12_goesOn 13 = .ok (.iconst 0, 1) := by decide +kernel
theorem dX12_goesOn_14 : decode cX12_goesOn 14 = .ok (.istore_n 3, 1) := by decide +kernel
theorem dX12_goesOn_15 : decode cX12_goesOn 15 = .ok (.iload_n 3, 1) := by decide +kernel
theorem dX12_goesOn_16 : decode cX12_goesOn 16 = .ok (.bipush 7, 2) := by decide +kernel
theorem dX12_goesOn_18 : decode cX12_goesOn 18 = .ok (.if_icmp .ge 28, 3) := by decide +kernel
theorem dX12_goesOn_21 : decode cX12_goesOn 21 = .ok (.aload_n 0, 1) := by decide +kernel
theorem dX12_goesOn_22 : decode cX12_goesOn 22 = .ok (.getfield 46, 3) := by decide +kernel
theorem dX12_goesOn_25 : decode cX12_goesOn 25 = .ok (.iload_n 3, 1) := by decide +kernel
theorem dX12_goesOn_26 : decode cX12_goesOn 26 = .ok (.aload_n 0, 1) := by decide +kernel
theorem dX12_goesOn_27 : decode cX12_goesOn 27 = .ok (.getfield 43, 3) := by decide +kernel
theorem dX12_goesOn_30 : decode cX12_goesOn 30 = .ok (.bipush 7, 2) := by decide +kernel
theorem dX12_goesOn_32 : decode cX12_goesOn 32 = .ok (.iload_n 1, 1) := by decide +kernel
theorem dX12_goesOn_33 : decode cX12_goesOn 33 = .ok (.iconst 1, 1) := by decide +kernel
theorem dX12_goesOn_34 : decode cX12_goesOn 34 = .ok (.isub, 1) := by decide +kernel
theorem dX12_goesOn_35 : decode cX12_goesOn 35 = .ok (.imul, 1) := by decide +kernel
theorem dX12_goesOn_36 : decode cX12_goesOn 36 = .ok (.iload_n 3, 1) := by decide +kernel
theorem dX12_goesOn_37 : decode cX12_goesOn 37 = .ok (.iadd, 1) := by decide +kernel
theorem dX12_goesOn_38 : decode cX12_goesOn 38 = .ok (.laload, 1) := by decide +kernel
theorem dX12_goesOn_39 : decode cX12_goesOn 39 = .ok (.lastore, 1) := by decide +kernel
theorem dX12_goesOn_40 : decode cX12_goesOn 40 = .ok (.iinc 3 1, 3) := by decide +kernel
theorem dX12_goesOn_43 : decode cX12_goesOn 43 = .ok (.goto (-28), 3) := by decide +kernel
theorem dX12_goesOn_46 : decode cX12_goesOn 46 = .ok (.aload_n 0, 1) := by decide +kernel
theorem dX12_goesOn_47 : decode cX12_goesOn 47 = .ok (.getfield 43, 3) := by decide +kernel
theorem dX12_goesOn_50 : decode cX12_goesOn 50 = .ok (.bipush 7, 2) := by decide +kernel
theorem dX12_goesOn_52 : decode cX12_goesOn 52 = .ok (.iload_n 1, 1) := by decide +kernel
theorem dX12_goesOn_53 : decode cX12_goesOn 53 = .ok (.imul, 1) := by decide +kernel
theorem dX12_goesOn_54 : decode cX12_goesOn 54 = .ok (.iload_n 2, 1) := by decide +kernel
theorem dX12_goesOn_55 : decode cX12_goesOn 55 = .ok (.iadd, 1) := by decide +kernel
theorem dX12_goesOn_56 : decode cX12_goesOn 56 = .ok (.laload, 1) := by decide +kernel
theorem dX12_goesOn_57 : decode cX12_goesOn 57 = .ok (.lstore_n 3, 1) := by decide +kernel
theorem dX12_goesOn_58 : decode cX12_goesOn 58 = .ok (.lload_n 3, 1) := by decide +kernel
theorem dX12_goesOn_59 : decode cX12_goesOn 59 = .ok (.lconst 0, 1) := by decide +kernel
theorem dX12_goesOn_60 : decode cX12_goesOn 60 = .ok (.lcmp, 1) := by decide +kernel
theorem dX12_goesOn_61 : decode cX12_goesOn 61 = .ok (.ifCond .ge 11, 3) := by decide +kernel
theorem dX12_goesOn_64 : decode cX12_goesOn 64 = .ok (.aload_n 0, 1) := by decide +kernel
theorem dX12_goesOn_65 : decode cX12_goesOn 65 = .ok (.lload_n 3, 1) := by decide +kernel
theorem dX12_goesOn_66 : decode cX12_goesOn 66 = .ok (.invokevirtual 147, 3) := by decide +kernel
theorem dX12_goesOn_69 : decode cX12_goesOn 69 = .ok (.goto 4, 3) := by decide +kernel
theorem dX12_goesOn_72 : decode cX12_goesOn 72 = .ok (.lload_n 3, 1) := by decide +kernel
theorem dX12_goesOn_73 : decode cX12_goesOn 73 = .ok (.lstore 5, 2) := by decide +kernel
theorem dX12_goesOn_75 : decode cX12_goesOn 75 = .ok (.aload_n 0, 1) := by decide +kernel
theorem dX12_goesOn_76 : decode cX12_goesOn 76 = .ok (.getfield 46, 3) := by decide +kernel
theorem dX12_goesOn_79 : decode cX12_goesOn 79 = .ok (.invokestatic 73, 3) := by decide +kernel
theorem dX12_goesOn_82 : decode cX12_goesOn 82 = .ok (.istore 7, 2) := by decide +kernel
theorem dX12_goesOn_84 : decode cX12_goesOn 84 = .ok (.iload 7, 2) := by decide +kernel
theorem dX12_goesOn_86 : decode cX12_goesOn 86 = .ok (.iload_n 2, 1) := by decide +kernel
theorem dX12_goesOn_87 : decode cX12_goesOn 87 = .ok (.if_icmp .lt 147, 3) := by decide +kernel
theorem dX12_goesOn_90 : decode cX12_goesOn 90 = .ok (.aload_n 0, 1) := by decide +kernel
theorem dX12_goesOn_91 : decode cX12_goesOn 91 = .ok (.getfield 69, 3) := by decide +kernel
theorem dX12_goesOn_94 : decode cX12_goesOn 94 = .ok (.ifCond .ne 140, 3) := by decide +kernel
theorem dX12_goesOn_97 : decode cX12_goesOn 97 = .ok (.aload_n 0, 1) := by decide +kernel
theorem dX12_goesOn_98 : decode cX12_goesOn 98 = .ok (.getfield 46, 3) := by decide +kernel
theorem dX12_goesOn_101 : decode cX12_goesOn 101 = .ok (.iload 7, 2) := by decide +kernel
theorem dX12_goesOn_103 : decode cX12_goesOn 103 = .ok (.laload, 1) := by decide +kernel
theorem dX12_goesOn_104 : decode cX12_goesOn 104 = .ok (.lstore 8, 2) := by decide +kernel
theorem dX12_goesOn_106 : decode cX12_goesOn 106 = .ok (.iconst 0, 1) := by decide +kernel
theorem dX12_goesOn_107 : decode cX12_goesOn 107 = .ok (.istore 10, 2) := by decide +kernel
theorem dX12_goesOn_109 : decode cX12_goesOn 109 = .ok (.iload 10, 2) := by decide +kernel
theorem dX12_goesOn_111 : decode cX12_goesOn 111 = .ok (.bipush 7, 2) := by decide +kernel
theorem dX12_goesOn_113 : decode cX12_goesOn 113 = .ok (.if_icmp .ge 29, 3) := by decide +kernel
theorem dX12_goesOn_116 : decode cX12_goesOn 116 = .ok (.aload_n 0, 1) := by decide +kernel
theorem dX12_goesOn_117 : decode cX12_goesOn 117 = .ok (.getfield 46, 3) := by decide +kernel
theorem dX12_goesOn_120 : decode cX12_goesOn 120 = .ok (.iload 10, 2) := by decide +kernel
theorem dX12_goesOn_122 : decode cX12_goesOn 122 = .ok (.aload_n 0, 1) := by decide +kernel
theorem dX12_goesOn_123 : decode cX12_goesOn 123 = .ok (.aload_n 0, 1) := by decide +kernel
theorem dX12_goesOn_124 : decode cX12_goesOn 124 = .ok (.getfield 46, 3) := by decide +kernel
theorem dX12_goesOn_127 : decode cX12_goesOn 127 = .ok (.iload 10, 2) := by decide +kernel
theorem dX12_goesOn_129 : decode cX12_goesOn 129 = .ok (.laload, 1) := by decide +kernel
theorem dX12_goesOn_130 : decode cX12_goesOn 130 = .ok (.lload 5, 2) := by decide +kernel
theorem dX12_goesOn_132 : decode cX12_goesOn 132 = .ok (.invokevirtual 151, 3) := by decide +kernel
theorem dX12_goesOn_135 : decode cX12_goesOn 135 = .ok (.lastore, 1) := by decide +kernel
theorem dX12_goesOn_136 : decode cX12_goesOn 136 = .ok (.iinc 10 1, 3) := by decide +kernel
theorem dX12_goesOn_139 : decode cX12_goesOn 139 = .ok (.goto (-30), 3) := by decide +kernel
theorem dX12_goesOn_142 : decode cX12_goesOn 142 = .ok (.iconst 0, 1) := by decide +kernel
theorem dX12_goesOn_143 : decode cX12_goesOn 143 = .ok (.istore 10, 2) := by decide +kernel
theorem dX12_goesOn_145 : decode cX12_goesOn 145 = .ok (.iload 10, 2) := by decide +kernel
theorem dX12_goesOn_147 : decode cX12_goesOn 147 = .ok (.iload_n 2, 1) := by decide +kernel
theorem dX12_goesOn_148 : decode cX12_goesOn 148 = .ok (.if_icmp .gt 74, 3) := by decide +kernel
theorem dX12_goesOn_151 : decode cX12_goesOn 151 = .ok (.aload_n 0, 1) := by decide +kernel
theorem dX12_goesOn_152 : decode cX12_goesOn 152 = .ok (.lload 8, 2) := by decide +kernel
theorem dX12_goesOn_154 : decode cX12_goesOn 154 = .ok (.aload_n 0, 1) := by decide +kernel
theorem dX12_goesOn_155 : decode cX12_goesOn 155 = .ok (.getfield 43, 3) := by decide +kernel
theorem dX12_goesOn_158 : decode cX12_goesOn 158 = .ok (.bipush 7, 2) := by decide +kernel
theorem dX12_goesOn_160 : decode cX12_goesOn 160 = .ok (.iload_n 1, 1) := by decide +kernel
theorem dX12_goesOn_161 : decode cX12_goesOn 161 = .ok (.imul, 1) := by decide +kernel
theorem dX12_goesOn_162 : decode cX12_goesOn 162 = .ok (.iload 10, 2) := by decide +kernel
theorem dX12_goesOn_164 : decode cX12_goesOn 164 = .ok (.iadd, 1) := by decide +kernel
theorem dX12_goesOn_165 : decode cX12_goesOn 165 = .ok (.laload, 1) := by decide +kernel
theorem dX12_goesOn_166 : decode cX12_goesOn 166 = .ok (.invokevirtual 151, 3) := by decide +kernel
theorem dX12_goesOn_169 : decode cX12_goesOn 169 = .ok (.lstore 11, 2) := by decide +kernel
theorem dX12_goesOn_171 : decode cX12_goesOn 171 = .ok (.aload_n 0, 1) := by decide +kernel
theorem dX12_goesOn_172 : decode cX12_goesOn 172 = .ok (.getfield 46, 3) := by decide +kernel
theorem dX12_goesOn_175 : decode cX12_goesOn 175 = .ok (.iload 10, 2) := by decide +kernel
theorem dX12_goesOn_177 : decode cX12_goesOn 177 = .ok (.iload 7, 2) := by decide +kernel
theorem dX12_goesOn_179 : decode cX12_goesOn 179 = .ok (.iadd, 1) := by decide +kernel
theorem dX12_goesOn_180 : decode cX12_goesOn 180 = .ok (.iload_n 2, 1) := by decide +kernel
theorem dX12_goesOn_181 : decode cX12_goesOn 181 = .ok (.isub, 1) := by decide +kernel
theorem dX12_goesOn_182 : decode cX12_goesOn 182 = .ok (.aload_n 0, 1) := by decide +kernel
end
section
theorem dX12_goesOn_183 : decode cX12_goesOn 183 = .ok (.aload_n 0, 1) := by decide +kernel
theorem dX12_goesOn_184 : decode cX12_goesOn 184 = .ok (.getfield 46, 3) := by decide +kernel
theorem dX12_goesOn_187 : decode cX12_goesOn 187 = .ok (.iload 10, 2) := by decide +kernel
theorem dX12_goesOn_189 : decode cX12_goesOn 189 = .ok (.iload 7, 2) := by decide +kernel
theorem dX12_goesOn_191 : decode cX12_goesOn 191 = .ok (.iadd, 1) := by decide +kernel
theorem dX12_goesOn_192 : decode cX12_goesOn 192 = .ok (.iload_n 2, 1) := by decide +kernel
theorem dX12_goesOn_193 : decode cX12_goesOn 193 = .ok (.isub, 1) := by decide +kernel
theorem dX12_goesOn_194 : decode cX12_goesOn 194 = .ok (.laload, 1) := by decide +kernel
theorem dX12_goesOn_195 : decode cX12_goesOn 195 = .ok (.lload_n 3, 1) := by decide +kernel
theorem dX12_goesOn_196 : decode cX12_goesOn 196 = .ok (.lconst 0, 1) := by decide +kernel
theorem dX12_goesOn_197 : decode cX12_goesOn 197 = .ok (.lcmp, 1) := by decide +kernel
theorem dX12_goesOn_198 : decode cX12_goesOn 198 = .ok (.ifCond .ge 12, 3) := by decide +kernel
theorem dX12_goesOn_201 : decode cX12_goesOn 201 = .ok (.aload_n 0, 1) := by decide +kernel
theorem dX12_goesOn_202 : decode cX12_goesOn 202 = .ok (.lload 11, 2) := by decide +kernel
theorem dX12_goesOn_204 : decode cX12_goesOn 204 = .ok (.invokevirtual 147, 3) := by decide +kernel
theorem dX12_goesOn_207 : decode cX12_goesOn 207 = .ok (.goto 5, 3) := by decide +kernel
theorem dX12_goesOn_210 : decode cX12_goesOn 210 = .ok (.lload 11, 2) := by decide +kernel
theorem dX12_goesOn_212 : decode cX12_goesOn 212 = .ok (.invokevirtual 161, 3) := by decide +kernel
theorem dX12_goesOn_215 : decode cX12_goesOn 215 = .ok (.lastore, 1) := by decide +kernel
theorem dX12_goesOn_216 : decode cX12_goesOn 216 = .ok (.iinc 10 1, 3) := by decide +kernel
theorem dX12_goesOn_219 : decode cX12_goesOn 219 = .ok (.goto (-74), 3) := by decide +kernel
theorem dX12_goesOn_222 : decode cX12_goesOn 222 = .ok (.aload_n 0, 1) := by decide +kernel
theorem dX12_goesOn_223 : decode cX12_goesOn 223 = .ok (.getfield 46, 3) := by decide +kernel
theorem dX12_goesOn_226 : decode cX12_goesOn 226 = .ok (.invokestatic 73, 3) := by decide +kernel
theorem dX12_goesOn_229 : decode cX12_goesOn 229 = .ok (.istore 7, 2) := by decide +kernel
theorem dX12_goesOn_231 : decode cX12_goesOn 231 = .ok (.goto (-147), 3) := by decide +kernel
theorem dX12_goesOn_234 : decode cX12_goesOn 234 = .ok (.iconst 0, 1) := by decide +kernel
theorem dX12_goesOn_235 : decode cX12_goesOn 235 = .ok (.istore 7, 2) := by decide +kernel
theorem dX12_goesOn_237 : decode cX12_goesOn 237 = .ok (.iload 7, 2) := by decide +kernel
theorem dX12_goesOn_239 : decode cX12_goesOn 239 = .ok (.bipush 7, 2) := by decide +kernel
theorem dX12_goesOn_241 : decode cX12_goesOn 241 = .ok (.if_icmp .ge 42, 3) := by decide +kernel
theorem dX12_goesOn_244 : decode cX12_goesOn 244 = .ok (.aload_n 0, 1) := by decide +kernel
theorem dX12_goesOn_245 : decode cX12_goesOn 245 = .ok (.getfield 69, 3) := by decide +kernel
theorem dX12_goesOn_248 : decode cX12_goesOn 248 = .ok (.ifCond .ne 35, 3) := by decide +kernel
theorem dX12_goesOn_251 : decode cX12_goesOn 251 = .ok (.aload_n 0, 1) := by decide +kernel
theorem dX12_goesOn_252 : decode cX12_goesOn 252 = .ok (.getfield 43, 3) := by decide +kernel
theorem dX12_goesOn_255 : decode cX12_goesOn 255 = .ok (.bipush 7, 2) := by decide +kernel
theorem dX12_goesOn_257 : decode cX12_goesOn 257 = .ok (.aload_n 0, 1) := by decide +kernel
theorem dX12_goesOn_258 : decode cX12_goesOn 258 = .ok (.getfield 229, 3) := by decide +kernel
theorem dX12_goesOn_261 : decode cX12_goesOn 261 = .ok (.imul, 1) := by decide +kernel
theorem dX12_goesOn_262 : decode cX12_goesOn 262 = .ok (.iload 7, 2) := by decide +kernel
theorem dX12_goesOn_264 : decode cX12_goesOn 264 = .ok (.iadd, 1) := by decide +kernel
theorem dX12_goesOn_265 : decode cX12_goesOn 265 = .ok (.aload_n 0, 1) := by decide +kernel
theorem dX12_goesOn_266 : decode cX12_goesOn 266 = .ok (.aload_n 0, 1) := by decide +kernel
theorem dX12_goesOn_267 : decode cX12_goesOn 267 = .ok (.getfield 46, 3) := by decide +kernel
theorem dX12_goesOn_270 : decode cX12_goesOn 270 = .ok (.iload 7, 2) := by decide +kernel
theorem dX12_goesOn_272 : decode cX12_goesOn 272 = .ok (.laload, 1) := by decide +kernel
theorem dX12_goesOn_273 : decode cX12_goesOn 273 = .ok (.invokevirtual 147, 3) := by decide +kernel
theorem dX12_goesOn_276 : decode cX12_goesOn 276 = .ok (.lastore, 1) := by decide +kernel
theorem dX12_goesOn_277 : decode cX12_goesOn 277 = .ok (.iinc 7 1, 3) := by decide +kernel
theorem dX12_goesOn_280 : decode cX12_goesOn 280 = .ok (.goto (-43), 3) := by decide +kernel
theorem dX12_goesOn_283 : decode cX12_goesOn 283 = .ok (.aload_n 0, 1) := by decide +kernel
theorem dX12_goesOn_284 : decode cX12_goesOn 284 = .ok (.getfield 69, 3) := by decide +kernel
theorem dX12_goesOn_287 : decode cX12_goesOn 287 = .ok (.ifCond .ne 17, 3) := by decide +kernel
theorem dX12_goesOn_290 : decode cX12_goesOn 290 = .ok (.aload_n 0, 1) := by decide +kernel
theorem dX12_goesOn_291 : decode cX12_goesOn 291 = .ok (.getfield 46, 3) := by decide +kernel
theorem dX12_goesOn_294 : decode cX12_goesOn 294 = .ok (.invokestatic 73, 3) := by decide +kernel
theorem dX12_goesOn_297 : decode cX12_goesOn 297 = .ok (.ifCond .lt 7, 3) := by decide +kernel
theorem dX12_goesOn_300 : decode cX12_goesOn 300 = .ok (.iconst 1, 1) := by decide +kernel
theorem dX12_goesOn_301 : decode cX12_goesOn 301 = .ok (.goto 4, 3) := by decide +kernel
theorem dX12_goesOn_304 : decode cX12_goesOn 304 = .ok (.iconst 0, 1) := by decide +kernel
theorem dX12_goesOn_305 : decode cX12_goesOn 305 = .ok (.ireturn, 1) := by decide +kernel
theorem dX12_laysChain_0 : decode cX12_laysChain 0 = .ok (.aload_n 0, 1) := by decide +kernel
theorem dX12_laysChain_1 : decode cX12_laysChain 1 = .ok (.iconst 1, 1) := by decide +kernel
theorem dX12_laysChain_2 : decode cX12_laysChain 2 = .ok (.aload_n 0, 1) := by decide +kernel
theorem dX12_laysChain_3 : decode cX12_laysChain 3 = .ok (.getfield 11, 3) := by decide +kernel
theorem dX12_laysChain_6 : decode cX12_laysChain 6 = .ok (.bipush 14, 2) := by decide +kernel
theorem dX12_laysChain_8 : decode cX12_laysChain 8 = .ok (.iaload, 1) := by decide +kernel
theorem dX12_laysChain_9 : decode cX12_laysChain 9 = .ok (.invokevirtual 97, 3) := by decide +kernel
theorem dX12_laysChain_12 : decode cX12_laysChain 12 = .ok (.aload_n 0, 1) := by decide +kernel
theorem dX12_laysChain_13 : decode cX12_laysChain 13 = .ok (.iconst 0, 1) := by decide +kernel
theorem dX12_laysChain_14 : decode cX12_laysChain 14 = .ok (.putfield 69, 3) := by decide +kernel
theorem dX12_laysChain_17 : decode cX12_laysChain 17 = .ok (.aload_n 0, 1) := by decide +kernel
theorem dX12_laysChain_18 : decode cX12_laysChain 18 = .ok (.iconst 0, 1) := by decide +kernel
theorem dX12_laysChain_19 : decode cX12_laysChain 19 = .ok (.putfield 229, 3) := by decide +kernel
theorem dX12_laysChain_22 : decode cX12_laysChain 22 = .ok (.aload_n 0, 1) := by decide +kernel
theorem dX12_laysChain_23 : decode cX12_laysChain 23 = .ok (.getfield 77, 3) := by decide +kernel
theorem dX12_laysChain_26 : decode cX12_laysChain 26 = .ok (.iconst 1, 1) := by decide +kernel
theorem dX12_laysChain_27 : decode cX12_laysChain 27 = .ok (.if_icmp .ge 6, 3) := by decide +kernel
theorem dX12_laysChain_30 : decode cX12_laysChain 30 = .ok (.bipush (-2), 2) := by decide +kernel
theorem dX12_laysChain_32 : decode cX12_laysChain 32 = .ok (.ireturn, 1) := by decide +kernel
theorem dX12_laysChain_33 : decode cX12_laysChain 33 = .ok (.iconst 0, 1) := by decide +kernel
theorem dX12_laysChain_34 : decode cX12_laysChain 34 = .ok (.istore_n 1, 1) := by decide +kernel
theorem dX12_laysChain_35 : decode cX12_laysChain 35 = .ok (.iload_n 1, 1) := by decide +kernel
theorem dX12_laysChain_36 : decode cX12_laysChain 36 = .ok (.bipush 7, 2) := by decide +kernel
theorem dX12_laysChain_38 : decode cX12_laysChain 38 = .ok (.if_icmp .ge 53, 3) := by decide +kernel
theorem dX12_laysChain_41 : decode cX12_laysChain 41 = .ok (.aload_n 0, 1) := by decide +kernel
theorem dX12_laysChain_42 : decode cX12_laysChain 42 = .ok (.getfield 43, 3) := by decide +kernel
theorem dX12_laysChain_45 : decode cX12_laysChain 45 = .ok (.iload_n 1, 1) := by decide +kernel
theorem dX12_laysChain_46 : decode cX12_laysChain 46 = .ok (.aload_n 0, 1) := by decide +kernel
theorem dX12_laysChain_47 : decode cX12_laysChain 47 = .ok (.getfield 18, 3) := by decide +kernel
theorem dX12_laysChain_50 : decode cX12_laysChain 50 = .ok (.iload_n 1, 1) := by decide +kernel
theorem dX12_laysChain_51 : decode cX12_laysChain 51 = .ok (.laload, 1) := by decide +kernel
theorem dX12_laysChain_52 : decode cX12_laysChain 52 = .ok (.lastore, 1) := by decide +kernel
theorem dX12_laysChain_53 : decode cX12_laysChain 53 = .ok (.aload_n 0, 1) := by decide +kernel
theorem dX12_laysChain_54 : decode cX12_laysChain 54 = .ok (.getfield 43, 3) := by decide +kernel
theorem dX12_laysChain_57 : decode cX12_laysChain 57 = .ok (.bipush 7, 2) := by decide +kernel
theorem dX12_laysChain_59 : decode cX12_laysChain 59 = .ok (.iload_n 1, 1) := by decide +kernel
theorem dX12_laysChain_60 : decode cX12_laysChain 60 = .ok (.iadd, 1) := by decide +kernel
theorem dX12_laysChain_61 : decode cX12_laysChain 61 = .ok (.iload_n 1, 1) := by decide +kernel
theorem dX12_laysChain_62 : decode cX12_laysChain 62 = .ok (.bipush 6, 2) := by decide +kernel
theorem dX12_laysChain_64 : decode cX12_laysChain 64 = .ok (.if_icmp .ge 19, 3) := by decide +kernel
theorem dX12_laysChain_67 : decode cX12_laysChain 67 = .ok (.iload_n 1, 1) := by decide +kernel
theorem dX12_laysChain_68 : decode cX12_laysChain 68 = .ok (.iconst 1, 1) := by decide +kernel
theorem dX12_laysChain_69 : decode cX12_laysChain 69 = .ok (.iadd, 1) := by decide +kernel
theorem dX12_laysChain_70 : decode cX12_laysChain 70 = .ok (.i2l, 1) := by decide +kernel
theorem dX12_laysChain_71 : decode cX12_laysChain 71 = .ok (.aload_n 0, 1) := by decide +kernel
theorem dX12_laysChain_72 : decode cX12_laysChain 72 = .ok (.getfield 18, 3) := by decide +kernel
theorem dX12_laysChain_75 : decode cX12_laysChain 75 = .ok (.iload_n 1, 1) := by decide +kernel
theorem dX12_laysChain_76 : decode cX12_laysChain 76 = .ok (.iconst 1, 1) := by decide +kernel
theorem dX12_laysChain_77 : decode cX12_laysChain 77 = .ok (.iadd, 1) := by decide +kernel
theorem dX12_laysChain_78 : decode cX12_laysChain 78 = .ok (.laload, 1) := by decide +kernel
theorem dX12_laysChain_79 : decode cX12_laysChain 79 = .ok (.lmul, 1) := by decide +kernel
theorem dX12_laysChain_80 : decode cX12_laysChain 80 = .ok (.goto 4, 3) := by decide +kernel
theorem dX12_laysChain_83 : decode cX12_laysChain 83 = .ok (.lconst 0, 1) := by decide +kernel
theorem dX12_laysChain_84 : decode cX12_laysChain 84 = .ok (.lastore, 1) := by decide +kernel
theorem dX12_laysChain_85 : decode cX12_laysChain 85 = .ok (.iinc 1 1, 3) := by decide +kernel
theorem dX12_laysChain_88 : decode cX12_laysChain 88 = .ok (.goto (-53), 3) := by decide +kernel
theorem dX12_laysChain_91 : decode cX12_laysChain 91 = .ok (.aload_n 0, 1) := by decide +kernel
theorem dX12_laysChain_92 : decode cX12_laysChain 92 = .ok (.iconst 0, 1) := by decide +kernel
theorem dX12_laysChain_93 : decode cX12_laysChain 93 = .ok (.invokevirtual 235, 3) := by decide +kernel
theorem dX12_laysChain_96 : decode cX12_laysChain 96 = .ok (.aload_n 0, 1) := by decide +kernel
theorem dX12_laysChain_97 : decode cX12_laysChain 97 = .ok (.iconst 1, 1) := by decide +kernel
theorem dX12_laysChain_98 : decode cX12_laysChain 98 = .ok (.invokevirtual 235, 3) := by decide +kernel
theorem dX12_laysChain_101 : decode cX12_laysChain 101 = .ok (.aload_n 0, 1) := by decide +kernel
theorem dX12_laysChain_102 : decode cX12_laysChain 102 = .ok (.invokevirtual 238, 3) := by decide +kernel
theorem dX12_laysChain_105 : decode cX12_laysChain 105 = .ok (.ifCond .eq 14, 3) := by decide +kernel
theorem dX12_laysChain_108 : decode cX12_laysChain 108 = .ok (.aload_n 0, 1) := by decide +kernel
theorem dX12_laysChain_109 : decode cX12_laysChain 109 = .ok (.aload_n 0, 1) := by decide +kernel
theorem dX12_laysChain_110 : decode cX12_laysChain 110 = .ok (.getfield 229, 3) := by decide +kernel
theorem dX12_laysChain_113 : decode cX12_laysChain 113 = .ok (.invokevirtual 235, 3) := by decide +kernel
theorem dX12_laysChain_116 : decode cX12_laysChain 116 = .ok (.goto (-15), 3) := by decide +kernel
theorem dX12_laysChain_119 : decode cX12_laysChain 119 = .ok (.aload_n 0, 1) := by decide +kernel
theorem dX12_laysChain_120 : decode cX12_laysChain 120 = .ok (.getfield 69, 3) := by decide +kernel
theorem dX12_laysChain_123 : decode cX12_laysChain 123 = .ok (.ifCond .eq 8, 3) := by decide +kernel
theorem dX12_laysChain_126 : decode cX12_laysChain 126 = .ok (.bipush (-7), 2) := by decide +kernel
theorem dX12_laysChain_128 : decode cX12_laysChain 128 = .ok (.goto 4, 3) := by decide +kernel
theorem dX12_laysChain_131 : decode cX12_laysChain 131 = .ok (.iconst 0, 1) := by decide +kernel
theorem dX12_laysChain_132 : decode cX12_laysChain 132 = .ok (.ireturn, 1) := by decide +kernel
theorem dX12_links_0 : decode cX12_links 0 = .ok (.aload_n 0, 1) := by decide +kernel
theorem dX12_links_1 : decode cX12_links 1 = .ok (.invokevirtual 242, 3) := by decide +kernel
theorem dX12_links_4 : decode cX12_links 4 = .ok (.istore_n 1, 1) := by decide +kernel
theorem dX12_links_5 : decode cX12_links 5 = .ok (.iload_n 1, 1) := by decide +kernel
theorem dX12_links_6 : decode cX12_links 6 = .ok (.ifCond .ge 7, 3) := by decide +kernel
theorem dX12_links_9 : decode cX12_links 9 = .ok (.iload_n 1, 1) := by decide +kernel
theorem dX12_links_10 : decode cX12_links 10 = .ok (.goto 7, 3) := by decide +kernel
theorem dX12_links_13 : decode cX12_links 13 = .ok (.aload_n 0, 1) := by decide +kernel
theorem dX12_links_14 : decode cX12_links 14 = .ok (.getfield 229, 3) := by decide +kernel
theorem dX12_links_17 : decode cX12_links 17 = .ok (.ireturn, 1) := by decide +kernel
theorem dX12_link_0 : decode cX12_link 0 = .ok (.aload_n 0, 1) := by decide +kernel
theorem dX12_link_1 : decode cX12_link 1 = .ok (.invokevirtual 242, 3) := by decide +kernel
theorem dX12_link_4 : decode cX12_link 4 = .ok (.ifCond .lt 26, 3) := by decide +kernel
theorem dX12_link_7 : decode cX12_link 7 = .ok (.iload_n 1, 1) := by decide +kernel
theorem dX12_link_8 : decode cX12_link 8 = .ok (.i2l, 1) := by decide +kernel
theorem dX12_link_9 : decode cX12_link 9 = .ok (.lconst 0, 1) := by decide +kernel
theorem dX12_link_10 : decode cX12_link 10 = .ok (.aload_n 0, 1) := by decide +kernel
theorem dX12_link_11 : decode cX12_link 11 = .ok (.getfield 229, 3) := by decide +kernel
theorem dX12_link_14 : decode cX12_link 14 = .ok (.iconst 1, 1) := by decide +kernel
theorem dX12_link_15 : decode cX12_link 15 = .ok (.isub, 1) := by decide +kernel
theorem dX12_link_16 : decode cX12_link 16 = .ok (.i2l, 1) := by decide +kernel
theorem dX12_link_17 : decode cX12_link 17 = .ok (.invokestatic 83, 3) := by decide +kernel
theorem dX12_link_20 : decode cX12_link 20 = .ok (.ifCond .eq 10, 3) := by decide +kernel
theorem dX12_link_23 : decode cX12_link 23 = .ok (.iload_n 2, 1) := by decide +kernel
theorem dX12_link_24 : decode cX12_link 24 = .ok (.invokestatic 87, 3) := by decide +kernel
theorem dX12_link_27 : decode cX12_link 27 = .ok (.ifCond .ne 9, 3) := by decide +kernel
theorem dX12_link_30 : decode cX12_link 30 = .ok (.ldc2_w 67, 3) := by decide +kernel
theorem dX12_link_33 : decode cX12_link 33 = .ok (.goto 14, 3) := by decide +kernel
theorem dX12_link_36 : decode cX12_link 36 = .ok (.aload_n 0, 1) := by decide +kernel
theorem dX12_link_37 : decode cX12_link 37 = .ok (.getfield 43, 3) := by decide +kernel
theorem dX12_link_40 : decode cX12_link 40 = .ok (.bipush 7, 2) := by decide +kernel
theorem dX12_link_42 : decode cX12_link 42 = .ok (.iload_n 1, 1) := by decide +kernel
theorem dX12_link_43 : decode cX12_link 43 = .ok (.imul, 1) := by decide +kernel
theorem dX12_link_44 : decode cX12_link 44 = .ok (.iload_n 2, 1) := by decide +kernel
theorem dX12_link_45 : decode cX12_link 45 = .ok (.iadd, 1) := by decide +kernel
theorem dX12_link_46 : decode cX12_link 46 = .ok (.laload, 1) := by decide +kernel
theorem dX12_link_47 : decode cX12_link 47 = .ok (.lreturn, 1) := by decide +kernel
theorem dX12_valueAt_0 : decode cX12_valueAt 0 = .ok (.aload_n 0, 1) := by decide +kernel
theorem dX12_valueAt_1 : decode cX12_valueAt 1 = .ok (.iload_n 1, 1) := by decide +kernel
theorem dX12_valueAt_2 : decode cX12_valueAt 2 = .ok (.invokevirtual 232, 3) := by decide +kernel
theorem dX12_valueAt_5 : decode cX12_valueAt 5 = .ok (.istore_n 3, 1) := by decide +kernel
theorem dX12_valueAt_6 : decode cX12_valueAt 6 = .ok (.aload_n 0, 1) := by decide +kernel
theorem dX12_valueAt_7 : decode cX12_valueAt 7 = .ok (.getfield 43, 3) := by decide +kernel
theorem dX12_valueAt_10 : decode cX12_valueAt 10 = .ok (.bipush 7, 2) := by decide +kernel
theorem dX12_valueAt_12 : decode cX12_valueAt 12 = .ok (.iload_n 1, 1) := by decide +kernel
theorem dX12_valueAt_13 : decode cX12_valueAt 13 = .ok (.imul, 1) := by decide +kernel
theorem dX12_valueAt_14 : decode cX12_valueAt 14 = .ok (.iload_n 3, 1) := by decide +kernel
theorem dX12_valueAt_15 : decode cX12_valueAt 15 = .ok (.iadd, 1) := by decide +kernel
theorem dX12_valueAt_16 : decode cX12_valueAt 16 = .ok (.laload, 1) := by decide +kernel
theorem dX12_valueAt_17 : decode cX12_valueAt 17 = .ok (.lstore 4, 2) := by decide +kernel
theorem dX12_valueAt_19 : decode cX12_valueAt 19 = .ok (.iload_n 3, 1) := by decide +kernel
theorem dX12_valueAt_20 : decode cX12_valueAt 20 = .ok (.iconst 1, 1) := by decide +kernel
theorem dX12_valueAt_21 : decode cX12_valueAt 21 = .ok (.isub, 1) := by decide +kernel
theorem dX12_valueAt_22 : decode cX12_valueAt 22 = .ok (.istore 6, 2) := by decide +kernel
theorem dX12_valueAt_24 : decode cX12_valueAt 24 = .ok (.iload 6, 2) := by decide +kernel
theorem dX12_valueAt_26 : decode cX12_valueAt 26 = .ok (.ifCond .lt 35, 3) := by decide +kernel
theorem dX12_valueAt_29 : decode cX12_valueAt 29 = .ok (.aload_n 0, 1) := by decide +kernel
theorem dX12_valueAt_30 : decode cX12_valueAt 30 = .ok (.aload_n 0, 1) := by decide +kernel
theorem dX12_valueAt_31 : decode cX12_valueAt 31 = .ok (.lload 4, 2) := by decide +kernel
theorem dX12_valueAt_33 : decode cX12_valueAt 33 = .ok (.iload_n 2, 1) := by decide +kernel
theorem dX12_valueAt_34 : decode cX12_valueAt 34 = .ok (.i2l, 1) := by decide +kernel
theorem dX12_valueAt_35 : decode cX12_valueAt 35 = .ok (.invokevirtual 151, 3) := by decide +kernel
theorem dX12_valueAt_38 : decode cX12_valueAt 38 = .ok (.aload_n 0, 1) := by decide +kernel
theorem dX12_valueAt_39 : decode cX12_valueAt 39 = .ok (.getfield 43, 3) := by decide +kernel
theorem dX12_valueAt_42 : decode cX12_valueAt 42 = .ok (.bipush 7, 2) := by decide +kernel
theorem dX12_valueAt_44 : decode cX12_valueAt 44 = .ok (.iload_n 1, 1) := by decide +kernel
theorem dX12_valueAt_45 : decode cX12_valueAt 45 = .ok (.imul, 1) := by decide +kernel
theorem dX12_valueAt_46 : decode cX12_valueAt 46 = .ok (.iload 6, 2) := by decide +kernel
theorem dX12_valueAt_48 : decode cX12_valueAt 48 = .ok (.iadd, 1) := by decide +kernel
theorem dX12_valueAt_49 : decode cX12_valueAt 49 = .ok (.laload, 1) := by decide +kernel
theorem dX12_valueAt_50 : decode cX12_valueAt 50 = .ok (.invokevirtual 155, 3) := by decide +kernel
theorem dX12_valueAt_53 : decode cX12_valueAt 53 = .ok (.lstore 4, 2) := by decide +kernel
theorem dX12_valueAt_55 : decode cX12_valueAt 55 = .ok (.iinc 6 (-1), 3) := by decide +kernel
theorem dX12_valueAt_58 : decode cX12_valueAt 58 = .ok (.goto (-34), 3) := by decide +kernel
theorem dX12_valueAt_61 : decode cX12_valueAt 61 = .ok (.lload 4, 2) := by decide +kernel
theorem dX12_valueAt_63 : decode cX12_valueAt 63 = .ok (.lreturn, 1) := by decide +kernel
theorem dX12_changesAt_0 : decode cX12_changesAt 0 = .ok (.iconst 0, 1) := by decide +kernel
theorem dX12_changesAt_1 : decode cX12_changesAt 1 = .ok (.istore_n 2, 1) := by decide +kernel
theorem dX12_changesAt_2 : decode cX12_changesAt 2 = .ok (.lconst 0, 1) := by decide +kernel
theorem dX12_changesAt_3 : decode cX12_changesAt 3 = .ok (.lstore_n 3, 1) := by decide +kernel
theorem dX12_changesAt_4 : decode cX12_changesAt 4 = .ok (.iconst 0, 1) := by decide +kernel
theorem dX12_changesAt_5 : decode cX12_changesAt 5 = .ok (.istore 5, 2) := by decide +kernel
theorem dX12_changesAt_7 : decode cX12_changesAt 7 = .ok (.iload 5, 2) := by decide +kernel
theorem dX12_changesAt_9 : decode cX12_changesAt 9 = .ok (.aload_n 0, 1) := by decide +kernel
theorem dX12_changesAt_10 : decode cX12_changesAt 10 = .ok (.getfield 229, 3) := by decide +kernel
theorem dX12_changesAt_13 : decode cX12_changesAt 13 = .ok (.if_icmp .ge 79, 3) := by decide +kernel
theorem dX12_changesAt_16 : decode cX12_changesAt 16 = .ok (.aload_n 0, 1) := by decide +kernel
theorem dX12_changesAt_17 : decode cX12_changesAt 17 = .ok (.iload 5, 2) := by decide +kernel
theorem dX12_changesAt_19 : decode cX12_changesAt 19 = .ok (.iload_n 1, 1) := by decide +kernel
theorem dX12_changesAt_20 : decode cX12_changesAt 20 = .ok (.invokevirtual 245, 3) := by decide +kernel
theorem dX12_changesAt_23 : decode cX12_changesAt 23 = .ok (.lstore 6, 2) := by decide +kernel
theorem dX12_changesAt_25 : decode cX12_changesAt 25 = .ok (.iload_n 2, 1) := by decide +kernel
theorem dX12_changesAt_26 : decode cX12_changesAt 26 = .ok (.lload 6, 2) := by decide +kernel
theorem dX12_changesAt_28 : decode cX12_changesAt 28 = .ok (.lconst 0, 1) := by decide +kernel
theorem dX12_changesAt_29 : decode cX12_changesAt 29 = .ok (.lcmp, 1) := by decide +kernel
theorem dX12_changesAt_30 : decode cX12_changesAt 30 = .ok (.ifCond .eq 39, 3) := by decide +kernel
theorem dX12_changesAt_33 : decode cX12_changesAt 33 = .ok (.lload_n 3, 1) := by decide +kernel
theorem dX12_changesAt_34 : decode cX12_changesAt 34 = .ok (.lconst 0, 1) := by decide +kernel
theorem dX12_changesAt_35 : decode cX12_changesAt 35 = .ok (.lcmp, 1) := by decide +kernel
theorem dX12_changesAt_36 : decode cX12_changesAt 36 = .ok (.ifCond .eq 33, 3) := by decide +kernel
theorem dX12_changesAt_39 : decode cX12_changesAt 39 = .ok (.lload 6, 2) := by decide +kernel
theorem dX12_changesAt_41 : decode cX12_changesAt 41 = .ok (.lconst 0, 1) := by decide +kernel
theorem dX12_changesAt_42 : decode cX12_changesAt 42 = .ok (.lcmp, 1) := by decide +kernel
theorem dX12_changesAt_43 : decode cX12_changesAt 43 = .ok (.ifCond .ge 7, 3) := by decide +kernel
theorem dX12_changesAt_46 : decode cX12_changesAt 46 = .ok (.iconst 1, 1) := by decide +kernel
theorem dX12_changesAt_47 : decode cX12_changesAt 47 = .ok (.goto 4, 3) := by decide +kernel
theorem dX12_changesAt_50 : decode cX12_changesAt 50 = .ok (.iconst 0, 1) := by decide +kernel
theorem dX12_changesAt_51 : decode cX12_changesAt 51 = .ok (.lload_n 3, 1) := by decide +kernel
theorem dX12_changesAt_52 : decode cX12_changesAt 52 = .ok (.lconst 0, 1) := by decide +kernel
theorem dX12_changesAt_53 : decode cX12_changesAt 53 = .ok (.lcmp, 1) := by decide +kernel
theorem dX12_changesAt_54 : decode cX12_changesAt 54 = .ok (.ifCond .ge 7, 3) := by decide +kernel
theorem dX12_changesAt_57 : decode cX12_changesAt 57 = .ok (.iconst 1, 1) := by decide +kernel
theorem dX12_changesAt_58 : decode cX12_changesAt 58 = .ok (.goto 4, 3) := by decide +kernel
theorem dX12_changesAt_61 : decode cX12_changesAt 61 = .ok (.iconst 0, 1) := by decide +kernel
theorem dX12_changesAt_62 : decode cX12_changesAt 62 = .ok (.if_icmp .eq 7, 3) := by decide +kernel
theorem dX12_changesAt_65 : decode cX12_changesAt 65 = .ok (.iconst 1, 1) := by decide +kernel
theorem dX12_changesAt_66 : decode cX12_changesAt 66 = .ok (.goto 4, 3) := by decide +kernel
theorem dX12_changesAt_69 : decode cX12_changesAt 69 = .ok (.iconst 0, 1) := by decide +kernel
theorem dX12_changesAt_70 : decode cX12_changesAt 70 = .ok (.iadd, 1) := by decide +kernel
theorem dX12_changesAt_71 : decode cX12_changesAt 71 = .ok (.istore_n 2, 1) := by decide +kernel
theorem dX12_changesAt_72 : decode cX12_changesAt 72 = .ok (.lload 6, 2) := by decide +kernel
theorem dX12_changesAt_74 : decode cX12_changesAt 74 = .ok (.lconst 0, 1) := by decide +kernel
theorem dX12_changesAt_75 : decode cX12_changesAt 75 = .ok (.lcmp, 1) := by decide +kernel
theorem dX12_changesAt_76 : decode cX12_changesAt 76 = .ok (.ifCond .ne 7, 3) := by decide +kernel
theorem dX12_changesAt_79 : decode cX12_changesAt 79 = .ok (.lload_n 3, 1) := by decide +kernel
theorem dX12_changesAt_80 : decode cX12_changesAt 80 = .ok (.goto 5, 3) := by decide +kernel
theorem dX12_changesAt_83 : decode cX12_changesAt 83 = .ok (.lload 6, 2) := by decide +kernel
theorem dX12_changesAt_85 : decode cX12_changesAt 85 = .ok (.lstore_n 3, 1) := by decide +kernel
theorem dX12_changesAt_86 : decode cX12_changesAt 86 = .ok (.iinc 5 1, 3) := by decide +kernel
theorem dX12_changesAt_89 : decode cX12_changesAt 89 = .ok (.goto (-82), 3) := by decide +kernel
theorem dX12_changesAt_92 : decode cX12_changesAt 92 = .ok (.iload_n 2, 1) := by decide +kernel
theorem dX12_changesAt_93 : decode cX12_changesAt 93 = .ok (.ireturn, 1) := by decide +kernel
theorem dX12_chain_0 : decode cX12_chain 0 = .ok (.iload_n 1, 1) := by decide +kernel
theorem dX12_chain_1 : decode cX12_chain 1 = .ok (.invokestatic 201, 3) := by decide +kernel
theorem dX12_chain_4 : decode cX12_chain 4 = .ok (.ifCond .eq 10, 3) := by decide +kernel
theorem dX12_chain_7 : decode cX12_chain 7 = .ok (.aload_n 0, 1) := by decide +kernel
theorem dX12_chain_8 : decode cX12_chain 8 = .ok (.invokevirtual 242, 3) := by decide +kernel
theorem dX12_chain_11 : decode cX12_chain 11 = .ok (.goto 5, 3) := by decide +kernel
theorem dX12_chain_14 : decode cX12_chain 14 = .ok (.bipush (-2), 2) := by decide +kernel
theorem dX12_chain_16 : decode cX12_chain 16 = .ok (.istore_n 2, 1) := by decide +kernel
theorem dX12_chain_17 : decode cX12_chain 17 = .ok (.iload_n 2, 1) := by decide +kernel
theorem dX12_chain_18 : decode cX12_chain 18 = .ok (.ifCond .ge 5, 3) := by decide +kernel
theorem dX12_chain_21 : decode cX12_chain 21 = .ok (.iload_n 2, 1) := by decide +kernel
theorem dX12_chain_22 : decode cX12_chain 22 = .ok (.ireturn, 1) := by decide +kernel
theorem dX12_chain_23 : decode cX12_chain 23 = .ok (.aload_n 0, 1) := by decide +kernel
theorem dX12_chain_24 : decode cX12_chain 24 = .ok (.iload_n 1, 1) := by decide +kernel
theorem dX12_chain_25 : decode cX12_chain 25 = .ok (.invokevirtual 248, 3) := by decide +kernel
theorem dX12_chain_28 : decode cX12_chain 28 = .ok (.istore_n 3, 1) := by decide +kernel
theorem dX12_chain_29 : decode cX12_chain 29 = .ok (.aload_n 0, 1) := by decide +kernel
theorem dX12_chain_30 : decode cX12_chain 30 = .ok (.getfield 69, 3) := by decide +kernel
theorem dX12_chain_33 : decode cX12_chain 33 = .ok (.ifCond .eq 8, 3) := by decide +kernel
theorem dX12_chain_36 : decode cX12_chain 36 = .ok (.bipush (-7), 2) := by decide +kernel
theorem dX12_chain_38 : decode cX12_chain 38 = .ok (.goto 4, 3) := by decide +kernel
theorem dX12_chain_41 : decode cX12_chain 41 = .ok (.iload_n 3, 1) := by decide +kernel
theorem dX12_chain_42 : decode cX12_chain 42 = .ok (.ireturn, 1) := by decide +kernel
theorem dX12_real_0 : decode cX12_real 0 = .ok (.iload_n 1, 1) := by decide +kernel
theorem dX12_real_1 : decode cX12_real 1 = .ok (.invokestatic 201, 3) := by decide +kernel
theorem dX12_real_4 : decode cX12_real 4 = .ok (.ifCond .eq 22, 3) := by decide +kernel
theorem dX12_real_7 : decode cX12_real 7 = .ok (.iload_n 2, 1) := by decide +kernel
theorem dX12_real_8 : decode cX12_real 8 = .ok (.invokestatic 201, 3) := by decide +kernel
theorem dX12_real_11 : decode cX12_real 11 = .ok (.ifCond .eq 15, 3) := by decide +kernel
theorem dX12_real_14 : decode cX12_real 14 = .ok (.iload_n 2, 1) := by decide +kernel
theorem dX12_real_15 : decode cX12_real 15 = .ok (.iload_n 1, 1) := by decide +kernel
theorem dX12_real_16 : decode cX12_real 16 = .ok (.if_icmp .le 10, 3) := by decide +kernel
theorem dX12_real_19 : decode cX12_real 19 = .ok (.aload_n 0, 1) := by decide +kernel
theorem dX12_real_20 : decode cX12_real 20 = .ok (.invokevirtual 242, 3) := by decide +kernel
theorem dX12_real_23 : decode cX12_real 23 = .ok (.goto 5, 3) := by decide +kernel
theorem dX12_real_26 : decode cX12_real 26 = .ok (.bipush (-2), 2) := by decide +kernel
theorem dX12_real_28 : decode cX12_real 28 = .ok (.istore_n 3, 1) := by decide +kernel
theorem dX12_real_29 : decode cX12_real 29 = .ok (.iload_n 3, 1) := by decide +kernel
theorem dX12_real_30 : decode cX12_real 30 = .ok (.ifCond .ge 5, 3) := by decide +kernel
theorem dX12_real_33 : decode cX12_real 33 = .ok (.iload_n 3, 1) := by decide +kernel
theorem dX12_real_34 : decode cX12_real 34 = .ok (.ireturn, 1) := by decide +kernel
theorem dX12_real_35 : decode cX12_real 35 = .ok (.aload_n 0, 1) := by decide +kernel
theorem dX12_real_36 : decode cX12_real 36 = .ok (.iload_n 1, 1) := by decide +kernel
theorem dX12_real_37 : decode cX12_real 37 = .ok (.invokevirtual 248, 3) := by decide +kernel
theorem dX12_real_40 : decode cX12_real 40 = .ok (.aload_n 0, 1) := by decide +kernel
theorem dX12_real_41 : decode cX12_real 41 = .ok (.iload_n 2, 1) := by decide +kernel
theorem dX12_real_42 : decode cX12_real 42 = .ok (.invokevirtual 248, 3) := by decide +kernel
theorem dX12_real_45 : decode cX12_real 45 = .ok (.isub, 1) := by decide +kernel
theorem dX12_real_46 : decode cX12_real 46 = .ok (.bipush 100, 2) := by decide +kernel
theorem dX12_real_48 : decode cX12_real 48 = .ok (.iadd, 1) := by decide +kernel
theorem dX12_real_49 : decode cX12_real 49 = .ok (.istore 4, 2) := by decide +kernel
theorem dX12_real_51 : decode cX12_real 51 = .ok (.aload_n 0, 1) := by decide +kernel
theorem dX12_real_52 : decode cX12_real 52 = .ok (.getfield 69, 3) := by decide +kernel
theorem dX12_real_55 : decode cX12_real 55 = .ok (.ifCond .eq 8, 3) := by decide +kernel
theorem dX12_real_58 : decode cX12_real 58 = .ok (.bipush (-7), 2) := by decide +kernel
theorem dX12_real_60 : decode cX12_real 60 = .ok (.goto 5, 3) := by decide +kernel
theorem dX12_real_63 : decode cX12_real 63 = .ok (.iload 4, 2) := by decide +kernel
theorem dX12_real_65 : decode cX12_real 65 = .ok (.ireturn, 1) := by decide +kernel
theorem dX12_feed_0 : decode cX12_feed 0 = .ok (.iload_n 1, 1) := by decide +kernel
theorem dX12_feed_1 : decode cX12_feed 1 = .ok (.i2l, 1) := by decide +kernel
theorem dX12_feed_2 : decode cX12_feed 2 = .ok (.lconst 0, 1) := by decide +kernel
theorem dX12_feed_3 : decode cX12_feed 3 = .ok (.ldc2_w 251, 3) := by decide +kernel
theorem dX12_feed_6 : decode cX12_feed 6 = .ok (.invokestatic 83, 3) := by decide +kernel
theorem dX12_feed_9 : decode cX12_feed 9 = .ok (.ifCond .ne 6, 3) := by decide +kernel
theorem dX12_feed_12 : decode cX12_feed 12 = .ok (.bipush (-2), 2) := by decide +kernel
theorem dX12_feed_14 : decode cX12_feed 14 = .ok (.ireturn, 1) := by decide +kernel
theorem dX12_feed_15 : decode cX12_feed 15 = .ok (.aload_n 0, 1) := by decide +kernel
theorem dX12_feed_16 : decode cX12_feed 16 = .ok (.getfield 253, 3) := by decide +kernel
theorem dX12_feed_19 : decode cX12_feed 19 = .ok (.bipush 60, 2) := by decide +kernel
theorem dX12_feed_21 : decode cX12_feed 21 = .ok (.if_icmp .ne 6, 3) := by decide +kernel
theorem dX12_feed_24 : decode cX12_feed 24 = .ok (.bipush (-4), 2) := by decide +kernel
theorem dX12_feed_26 : decode cX12_feed 26 = .ok (.ireturn, 1) := by decide +kernel
theorem dX12_feed_27 : decode cX12_feed 27 = .ok (.aload_n 0, 1) := by decide +kernel
theorem dX12_feed_28 : decode cX12_feed 28 = .ok (.getfield 49, 3) := by decide +kernel
theorem dX12_feed_31 : decode cX12_feed 31 = .ok (.aload_n 0, 1) := by decide +kernel
theorem dX12_feed_32 : decode cX12_feed 32 = .ok (.getfield 253, 3) := by decide +kernel
theorem dX12_feed_35 : decode cX12_feed 35 = .ok (.iload_n 1, 1) := by decide +kernel
theorem dX12_feed_36 : decode cX12_feed 36 = .ok (.iastore, 1) := by decide +kernel
theorem dX12_feed_37 : decode cX12_feed 37 = .ok (.aload_n 0, 1) := by decide +kernel
theorem dX12_feed_38 : decode cX12_feed 38 = .ok (.dup, 1) := by decide +kernel
theorem dX12_feed_39 : decode cX12_feed 39 = .ok (.getfield 253, 3) := by decide +kernel
theorem dX12_feed_42 : decode cX12_feed 42 = .ok (.iconst 1, 1) := by decide +kernel
theorem dX12_feed_43 : decode cX12_feed 43 = .ok (.iadd, 1) := by decide +kernel
theorem dX12_feed_44 : decode cX12_feed 44 = .ok (.putfield 253, 3) := by decide +kernel
theorem dX12_feed_47 : decode cX12_feed 47 = .ok (.aload_n 0, 1) := by decide +kernel
theorem dX12_feed_48 : decode cX12_feed 48 = .ok (.getfield 253, 3) := by decide +kernel
theorem dX12_feed_51 : decode cX12_feed 51 = .ok (.ireturn, 1) := by decide +kernel
theorem dX12_here_0 : decode cX12_here 0 = .ok (.aload_n 0, 1) := by decide +kernel
theorem dX12_here_1 : decode cX12_here 1 = .ok (.getfield 256, 3) := by decide +kernel
theorem dX12_here_4 : decode cX12_here 4 = .ok (.aload_n 0, 1) := by decide +kernel
theorem dX12_here_5 : decode cX12_here 5 = .ok (.getfield 253, 3) := by decide +kernel
theorem dX12_here_8 : decode cX12_here 8 = .ok (.if_icmp .ge 15, 3) := by decide +kernel
theorem dX12_here_11 : decode cX12_here 11 = .ok (.aload_n 0, 1) := by decide +kernel
theorem dX12_here_12 : decode cX12_here 12 = .ok (.getfield 49, 3) := by decide +kernel
theorem dX12_here_15 : decode cX12_here 15 = .ok (.aload_n 0, 1) := by decide +kernel
theorem dX12_here_16 : decode cX12_here 16 = .ok (.getfield 256, 3) := by decide +kernel
theorem dX12_here_19 : decode cX12_here 19 = .ok (.iaload, 1) := by decide +kernel
theorem dX12_here_20 : decode cX12_here 20 = .ok (.goto 4, 3) := by decide +kernel
theorem dX12_here_23 : decode cX12_here 23 = .ok (.iconst (-1), 1) := by decide +kernel
theorem dX12_here_24 : decode cX12_here 24 = .ok (.ireturn, 1) := by decide +kernel
theorem dX12_isDigit_0 : decode cX12_isDigit 0 = .ok (.aload_n 0, 1) := by decide +kernel
theorem dX12_isDigit_1 : decode cX12_isDigit 1 = .ok (.invokevirtual 259, 3) := by decide +kernel
theorem dX12_isDigit_4 : decode cX12_isDigit 4 = .ok (.i2l, 1) := by decide +kernel
theorem dX12_isDigit_5 : decode cX12_isDigit 5 = .ok (.ldc2_w 262, 3) := by decide +kernel
theorem dX12_isDigit_8 : decode cX12_isDigit 8 = .ok (.ldc2_w 264, 3) := by decide +kernel
theorem dX12_isDigit_11 : decode cX12_isDigit 11 = .ok (.invokestatic 83, 3) := by decide +kernel
theorem dX12_isDigit_14 : decode cX12_isDigit 14 = .ok (.ireturn, 1) := by decide +kernel
theorem dX12_isSign_0 : decode cX12_isSign 0 = .ok (.aload_n 0, 1) := by decide +kernel
theorem dX12_isSign_1 : decode cX12_isSign 1 = .ok (.invokevirtual 259, 3) := by decide +kernel
theorem dX12_isSign_4 : decode cX12_isSign 4 = .ok (.bipush 43, 2) := by decide +kernel
theorem dX12_isSign_6 : decode cX12_isSign 6 = .ok (.if_icmp .eq 12, 3) := by decide +kernel
theorem dX12_isSign_9 : decode cX12_isSign 9 = .ok (.aload_n 0, 1) := by decide +kernel
theorem dX12_isSign_10 : decode cX12_isSign 10 = .ok (.invokevirtual 259, 3) := by decide +kernel
theorem dX12_isSign_13 : decode cX12_isSign 13 = .ok (.bipush 45, 2) := by decide +kernel
theorem dX12_isSign_15 : decode cX12_isSign 15 = .ok (.if_icmp .ne 7, 3) := by decide +kernel
theorem dX12_isSign_18 : decode cX12_isSign 18 = .ok (.iconst 1, 1) := by decide +kernel
theorem dX12_isSign_19 : decode cX12_isSign 19 = .ok (.goto 4, 3) := by decide +kernel
theorem dX12_isSign_22 : decode cX12_isSign 22 = .ok (.iconst 0, 1) := by decide +kernel
theorem dX12_isSign_23 : decode cX12_isSign 23 = .ok (.ireturn, 1) := by decide +kernel
theorem dX12_term_0 : decode cX12_term 0 = .ok (.aload_n 0, 1) := by decide +kernel
theorem dX12_term_1 : decode cX12_term 1 = .ok (.getfield 256, 3) := by decide +kernel
theorem dX12_term_4 : decode cX12_term 4 = .ok (.istore_n 3, 1) := by decide +kernel
theorem dX12_term_5 : decode cX12_term 5 = .ok (.aload_n 0, 1) := by decide +kernel
theorem dX12_term_6 : decode cX12_term 6 = .ok (.invokevirtual 266, 3) := by decide +kernel
theorem dX12_term_9 : decode cX12_term 9 = .ok (.ifCond .ne 21, 3) := by decide +kernel
theorem dX12_term_12 : decode cX12_term 12 = .ok (.aload_n 0, 1) := by decide +kernel
theorem dX12_term_13 : decode cX12_term 13 = .ok (.invokevirtual 259, 3) := by decide +kernel
theorem dX12_term_16 : decode cX12_term 16 = .ok (.bipush 115, 2) := by decide +kernel
theorem dX12_term_18 : decode cX12_term 18 = .ok (.if_icmp .eq 12, 3) := by decide +kernel
theorem dX12_term_21 : decode cX12_term 21 = .ok (.aload_n 0, 1) := by decide +kernel
theorem dX12_term_22 : decode cX12_term 22 = .ok (.aload_n 0, 1) := by decide +kernel
theorem dX12_term_23 : decode cX12_term 23 = .ok (.getfield 256, 3) := by decide +kernel
theorem dX12_term_26 : decode cX12_term 26 = .ok (.putfield 269, 3) := by decide +kernel
theorem dX12_term_29 : decode cX12_term 29 = .ok (.return_, 1) := by decide +kernel
theorem dX12_term_30 : decode cX12_term 30 = .ok (.aload_n 0, 1) := by decide +kernel
theorem dX12_term_31 : decode cX12_term 31 = .ok (.invokevirtual 266, 3) := by decide +kernel
theorem dX12_term_34 : decode cX12_term 34 = .ok (.ifCond .eq 7, 3) := by decide +kernel
theorem dX12_term_37 : decode cX12_term 37 = .ok (.iconst 0, 1) := by decide +kernel
theorem dX12_term_38 : decode cX12_term 38 = .ok (.goto 4, 3) := by decide +kernel
theorem dX12_term_41 : decode cX12_term 41 = .ok (.iconst 1, 1) := by decide +kernel
theorem dX12_term_42 : decode cX12_term 42 = .ok (.istore 4, 2) := by decide +kernel
theorem dX12_term_44 : decode cX12_term 44 = .ok (.iconst 0, 1) := by decide +kernel
theorem dX12_term_45 : decode cX12_term 45 = .ok (.istore 5, 2) := by decide +kernel
theorem dX12_term_47 : decode cX12_term 47 = .ok (.iload 5, 2) := by decide +kernel
theorem dX12_term_49 : decode cX12_term 49 = .ok (.iconst 2, 1) := by decide +kernel
theorem dX12_term_50 : decode cX12_term 50 = .ok (.if_icmp .ge 41, 3) := by decide +kernel
theorem dX12_term_53 : decode cX12_term 53 = .ok (.aload_n 0, 1) := by decide +kernel
theorem dX12_term_54 : decode cX12_term 54 = .ok (.invokevirtual 266, 3) := by decide +kernel
theorem dX12_term_57 : decode cX12_term 57 = .ok (.ifCond .eq 34, 3) := by decide +kernel
theorem dX12_term_60 : decode cX12_term 60 = .ok (.bipush 10, 2) := by decide +kernel
theorem dX12_term_62 : decode cX12_term 62 = .ok (.iload 4, 2) := by decide +kernel
theorem dX12_term_64 : decode cX12_term 64 = .ok (.imul, 1) := by decide +kernel
theorem dX12_term_65 : decode cX12_term 65 = .ok (.aload_n 0, 1) := by decide +kernel
theorem dX12_term_66 : decode cX12_term 66 = .ok (.invokevirtual 259, 3) := by decide +kernel
theorem dX12_term_69 : decode cX12_term 69 = .ok (.iadd, 1) := by decide +kernel
theorem dX12_term_70 : decode cX12_term 70 = .ok (.bipush 48, 2) := by decide +kernel
theorem dX12_term_72 : decode cX12_term 72 = .ok (.isub, 1) := by decide +kernel
theorem dX12_term_73 : decode cX12_term 73 = .ok (.istore 4, 2) := by decide +kernel
theorem dX12_term_75 : decode cX12_term 75 = .ok (.aload_n 0, 1) := by decide +kernel
theorem dX12_term_76 : decode cX12_term 76 = .ok (.dup, 1) := by decide +kernel
theorem dX12_term_77 : decode cX12_term 77 = .ok (.getfield 256, 3) := by decide +kernel
theorem dX12_term_80 : decode cX12_term 80 = .ok (.iconst 1, 1) := by decide +kernel
theorem dX12_term_81 : decode cX12_term 81 = .ok (.iadd, 1) := by decide +kernel
theorem dX12_term_82 : decode cX12_term 82 = .ok (.putfield 256, 3) := by decide +kernel
theorem dX12_term_85 : decode cX12_term 85 = .ok (.iinc 5 1, 3) := by decide +kernel
theorem dX12_term_88 : decode cX12_term 88 = .ok (.goto (-41), 3) := by decide +kernel
theorem dX12_term_91 : decode cX12_term 91 = .ok (.iconst 0, 1) := by decide +kernel
theorem dX12_term_92 : decode cX12_term 92 = .ok (.istore 5, 2) := by decide +kernel
theorem dX12_term_94 : decode cX12_term 94 = .ok (.aload_n 0, 1) := by decide +kernel
theorem dX12_term_95 : decode cX12_term 95 = .ok (.invokevirtual 259, 3) := by decide +kernel
theorem dX12_term_98 : decode cX12_term 98 = .ok (.bipush 115, 2) := by decide +kernel
theorem dX12_term_100 : decode cX12_term 100 = .ok (.if_icmp .ne 52, 3) := by decide +kernel
theorem dX12_term_103 : decode cX12_term 103 = .ok (.aload_n 0, 1) := by decide +kernel
theorem dX12_term_104 : decode cX12_term 104 = .ok (.dup, 1) := by decide +kernel
theorem dX12_term_105 : decode cX12_term 105 = .ok (.getfield 256, 3) := by decide +kernel
theorem dX12_term_108 : decode cX12_term 108 = .ok (.iconst 1, 1) := by decide +kernel
theorem dX12_term_109 : decode cX12_term 109 = .ok (.iadd, 1) := by decide +kernel
theorem dX12_term_110 : decode cX12_term 110 = .ok (.putfield 256, 3) := by decide +kernel
theorem dX12_term_113 : decode cX12_term 113 = .ok (.iconst 1, 1) := by decide +kernel
theorem dX12_term_114 : decode cX12_term 114 = .ok (.istore 5, 2) := by decide +kernel
theorem dX12_term_116 : decode cX12_term 116 = .ok (.aload_n 0, 1) := by decide +kernel
theorem dX12_term_117 : decode cX12_term 117 = .ok (.invokevirtual 259, 3) := by decide +kernel
theorem dX12_term_120 : decode cX12_term 120 = .ok (.i2l, 1) := by decide +kernel
theorem dX12_term_121 : decode cX12_term 121 = .ok (.ldc2_w 272, 3) := by decide +kernel
theorem dX12_term_124 : decode cX12_term 124 = .ok (.ldc2_w 274, 3) := by decide +kernel
theorem dX12_term_127 : decode cX12_term 127 = .ok (.invokestatic 83, 3) := by decide +kernel
theorem dX12_term_130 : decode cX12_term 130 = .ok (.ifCond .eq 22, 3) := by decide +kernel
theorem dX12_term_133 : decode cX12_term 133 = .ok (.aload_n 0, 1) := by decide +kernel
theorem dX12_term_134 : decode cX12_term 134 = .ok (.invokevirtual 259, 3) := by decide +kernel
theorem dX12_term_137 : decode cX12_term 137 = .ok (.bipush 48, 2) := by decide +kernel
theorem dX12_term_139 : decode cX12_term 139 = .ok (.isub, 1) := by decide +kernel
theorem dX12_term_140 : decode cX12_term 140 = .ok (.istore 5, 2) := by decide +kernel
theorem dX12_term_142 : decode cX12_term 142 = .ok (.aload_n 0, 1) := by decide +kernel
theorem dX12_term_143 : decode cX12_term 143 = .ok (.dup, 1) := by decide +kernel
theorem dX12_term_144 : decode cX12_term 144 = .ok (.getfield 256, 3) := by decide +kernel
theorem dX12_term_147 : decode cX12_term 147 = .ok (.iconst 1, 1) := by decide +kernel
theorem dX12_term_148 : decode cX12_term 148 = .ok (.iadd, 1) := by decide +kernel
theorem dX12_term_149 : decode cX12_term 149 = .ok (.putfield 256, 3) := by decide +kernel
theorem dX12_term_152 : decode cX12_term 152 = .ok (.bipush 7, 2) := by decide +kernel
theorem dX12_term_154 : decode cX12_term 154 = .ok (.iload_n 1, 1) := by decide +kernel
theorem dX12_term_155 : decode cX12_term 155 = .ok (.imul, 1) := by decide +kernel
theorem dX12_term_156 : decode cX12_term 156 = .ok (.iload 5, 2) := by decide +kernel
theorem dX12_term_158 : decode cX12_term 158 = .ok (.iadd, 1) := by decide +kernel
theorem dX12_term_159 : decode cX12_term 159 = .ok (.istore 6, 2) := by decide +kernel
theorem dX12_term_161 : decode cX12_term 161 = .ok (.aload_n 0, 1) := by decide +kernel
theorem dX12_term_162 : decode cX12_term 162 = .ok (.getfield 52, 3) := by decide +kernel
theorem dX12_term_165 : decode cX12_term 165 = .ok (.iload 6, 2) := by decide +kernel
theorem dX12_term_167 : decode cX12_term 167 = .ok (.dup2, 1) := by decide +kernel
theorem dX12_term_168 : decode cX12_term 168 = .ok (.iaload, 1) := by decide +kernel
theorem dX12_term_169 : decode cX12_term 169 = .ok (.iload_n 2, 1) := by decide +kernel
theorem dX12_term_170 : decode cX12_term 170 = .ok (.ifCond .eq 9, 3) := by decide +kernel
theorem dX12_term_173 : decode cX12_term 173 = .ok (.iload 4, 2) := by decide +kernel
theorem dX12_term_175 : decode cX12_term 175 = .ok (.ineg, 1) := by decide +kernel
theorem dX12_term_176 : decode cX12_term 176 = .ok (.goto 5, 3) := by decide +kernel
theorem dX12_term_179 : decode cX12_term 179 = .ok (.iload 4, 2) := by decide +kernel
theorem dX12_term_181 : decode cX12_term 181 = .ok (.iadd, 1) := by decide +kernel
theorem dX12_term_182 : decode cX12_term 182 = .ok (.iastore, 1) := by decide +kernel
theorem dX12_term_183 : decode cX12_term 183 = .ok (.aload_n 0, 1) := by decide +kernel
theorem dX12_term_184 : decode cX12_term 184 = .ok (.dup, 1) := by decide +kernel
theorem dX12_term_185 : decode cX12_term 185 = .ok (.getfield 276, 3) := by decide +kernel
theorem dX12_term_188 : decode cX12_term 188 = .ok (.iconst 1, 1) := by decide +kernel
theorem dX12_term_189 : decode cX12_term 189 = .ok (.iadd, 1) := by decide +kernel
theorem dX12_term_190 : decode cX12_term 190 = .ok (.putfield 276, 3) := by decide +kernel
theorem dX12_term_193 : decode cX12_term 193 = .ok (.aload_n 0, 1) := by decide +kernel
theorem dX12_term_194 : decode cX12_term 194 = .ok (.aload_n 0, 1) := by decide +kernel
theorem dX12_term_195 : decode cX12_term 195 = .ok (.getfield 52, 3) := by decide +kernel
theorem dX12_term_198 : decode cX12_term 198 = .ok (.iload 6, 2) := by decide +kernel
theorem dX12_term_200 : decode cX12_term 200 = .ok (.iaload, 1) := by decide +kernel
theorem dX12_term_201 : decode cX12_term 201 = .ok (.i2l, 1) := by decide +kernel
theorem dX12_term_202 : decode cX12_term 202 = .ok (.ldc2_w 91, 3) := by decide +kernel
theorem dX12_term_205 : decode cX12_term 205 = .ok (.ldc2_w 93, 3) := by decide +kernel
theorem dX12_term_208 : decode cX12_term 208 = .ok (.invokestatic 83, 3) := by decide +kernel
theorem dX12_term_211 : decode cX12_term 211 = .ok (.ifCond .eq 10, 3) := by decide +kernel
theorem dX12_term_214 : decode cX12_term 214 = .ok (.aload_n 0, 1) := by decide +kernel
theorem dX12_term_215 : decode cX12_term 215 = .ok (.getfield 269, 3) := by decide +kernel
theorem dX12_term_218 : decode cX12_term 218 = .ok (.goto 4, 3) := by decide +kernel
theorem dX12_term_221 : decode cX12_term 221 = .ok (.iload_n 3, 1) := by decide +kernel
theorem dX12_term_222 : decode cX12_term 222 = .ok (.putfield 269, 3) := by decide +kernel
theorem dX12_term_225 : decode cX12_term 225 = .ok (.return_, 1) := by decide +kernel
theorem dX12_terms_0 : decode cX12_terms 0 = .ok (.aload_n 0, 1) := by decide +kernel
theorem dX12_terms_1 : decode cX12_terms 1 = .ok (.invokevirtual 259, 3) := by decide +kernel
theorem dX12_terms_4 : decode cX12_terms 4 = .ok (.bipush 45, 2) := by decide +kernel
theorem dX12_terms_6 : decode cX12_terms 6 = .ok (.if_icmp .ne 7, 3) := by decide +kernel
theorem dX12_terms_9 : decode cX12_terms 9 = .ok (.iconst 1, 1) := by decide +kernel
theorem dX12_terms_10 : decode cX12_terms 10 = .ok (.goto 4, 3) := by decide +kernel
theorem dX12_terms_13 : decode cX12_terms 13 = .ok (.iconst 0, 1) := by decide +kernel
theorem dX12_terms_14 : decode cX12_terms 14 = .ok (.istore_n 2, 1) := by decide +kernel
theorem dX12_terms_15 : decode cX12_terms 15 = .ok (.aload_n 0, 1) := by decide +kernel
theorem dX12_terms_16 : decode cX12_terms 16 = .ok (.dup, 1) := by decide +kernel
theorem dX12_terms_17 : decode cX12_terms 17 = .ok (.getfield 256, 3) := by decide +kernel
theorem dX12_terms_20 : decode cX12_terms 20 = .ok (.iload_n 2, 1) := by decide +kernel
theorem dX12_terms_21 : decode cX12_terms 21 = .ok (.ifCond .eq 7, 3) := by decide +kernel
theorem dX12_terms_24 : decode cX12_terms 24 = .ok (.iconst 1, 1) := by decide +kernel
theorem dX12_terms_25 : decode cX12_terms 25 = .ok (.goto 4, 3) := by decide +kernel
theorem dX12_terms_28 : decode cX12_terms 28 = .ok (.iconst 0, 1) := by decide +kernel
theorem dX12_terms_29 : decode cX12_terms 29 = .ok (.iadd, 1) := by decide +kernel
theorem dX12_terms_30 : decode cX12_terms 30 = .ok (.putfield 256, 3) := by decide +kernel
theorem dX12_terms_33 : decode cX12_terms 33 = .ok (.aload_n 0, 1) := by decide +kernel
theorem dX12_terms_34 : decode cX12_terms 34 = .ok (.iload_n 1, 1) := by decide +kernel
theorem dX12_terms_35 : decode cX12_terms 35 = .ok (.iload_n 2, 1) := by decide +kernel
theorem dX12_terms_36 : decode cX12_terms 36 = .ok (.invokevirtual 279, 3) := by decide +kernel
theorem dX12_terms_39 : decode cX12_terms 39 = .ok (.aload_n 0, 1) := by decide +kernel
theorem dX12_terms_40 : decode cX12_terms 40 = .ok (.getfield 269, 3) := by decide +kernel
theorem dX12_terms_43 : decode cX12_terms 43 = .ok (.ifCond .ge 77, 3) := by decide +kernel
theorem dX12_terms_46 : decode cX12_terms 46 = .ok (.aload_n 0, 1) := by decide +kernel
theorem dX12_terms_47 : decode cX12_terms 47 = .ok (.invokevirtual 283, 3) := by decide +kernel
theorem dX12_terms_50 : decode cX12_terms 50 = .ok (.ifCond .eq 70, 3) := by decide +kernel
theorem dX12_terms_53 : decode cX12_terms 53 = .ok (.iload_n 1, 1) := by decide +kernel
theorem dX12_terms_54 : decode cX12_terms 54 = .ok (.ifCond .ne 32, 3) := by decide +kernel
theorem dX12_terms_57 : decode cX12_terms 57 = .ok (.aload_n 0, 1) := by decide +kernel
theorem dX12_terms_58 : decode cX12_terms 58 = .ok (.getfield 256, 3) := by decide +kernel
theorem dX12_terms_61 : decode cX12_terms 61 = .ok (.iconst 1, 1) := by decide +kernel
theorem dX12_terms_62 : decode cX12_terms 62 = .ok (.iadd, 1) := by decide +kernel
theorem dX12_terms_63 : decode cX12_terms 63 = .ok (.aload_n 0, 1) := by decide +kernel
theorem dX12_terms_64 : decode cX12_terms 64 = .ok (.getfield 253, 3) := by decide +kernel
theorem dX12_terms_67 : decode cX12_terms 67 = .ok (.if_icmp .ge 19, 3) := by decide +kernel
theorem dX12_terms_70 : decode cX12_terms 70 = .ok (.aload_n 0, 1) := by decide +kernel
theorem dX12_terms_71 : decode cX12_terms 71 = .ok (.getfield 49, 3) := by decide +kernel
theorem dX12_terms_74 : decode cX12_terms 74 = .ok (.aload_n 0, 1) := by decide +kernel
theorem dX12_terms_75 : decode cX12_terms 75 = .ok (.getfield 256, 3) := by decide +kernel
theorem dX12_terms_78 : decode cX12_terms 78 = .ok (.iconst 1, 1) := by decide +kernel
theorem dX12_terms_79 : decode cX12_terms 79 = .ok (.iadd, 1) := by decide +kernel
theorem dX12_terms_80 : decode cX12_terms 80 = .ok (.iaload, 1) := by decide +kernel
theorem dX12_terms_81 : decode cX12_terms 81 = .ok (.bipush 75, 2) := by decide +kernel
theorem dX12_terms_83 : decode cX12_terms 83 = .ok (.if_icmp .eq 37, 3) := by decide +kernel
theorem dX12_terms_86 : decode cX12_terms 86 = .ok (.aload_n 0, 1) := by decide +kernel
theorem dX12_terms_87 : decode cX12_terms 87 = .ok (.invokevirtual 259, 3) := by decide +kernel
theorem dX12_terms_90 : decode cX12_terms 90 = .ok (.bipush 45, 2) := by decide +kernel
theorem dX12_terms_92 : decode cX12_terms 92 = .ok (.if_icmp .ne 7, 3) := by decide +kernel
theorem dX12_terms_95 : decode cX12_terms 95 = .ok (.iconst 1, 1) := by decide +kernel
theorem dX12_terms_96 : decode cX12_terms 96 = .ok (.goto 4, 3) := by decide +kernel
theorem dX12_terms_99 : decode cX12_terms 99 = .ok (.iconst 0, 1) := by decide +kernel
theorem dX12_terms_100 : decode cX12_terms 100 = .ok (.istore_n 2, 1) := by decide +kernel
theorem dX12_terms_101 : decode cX12_terms 101 = .ok (.aload_n 0, 1) := by decide +kernel
theorem dX12_terms_102 : decode cX12_terms 102 = .ok (.dup, 1) := by decide +kernel
theorem dX12_terms_103 : decode cX12_terms 103 = .ok (.getfield 256, 3) := by decide +kernel
theorem dX12_terms_106 : decode cX12_terms 106 = .ok (.iconst 1, 1) := by decide +kernel
theorem dX12_terms_107 : decode cX12_terms 107 = .ok (.iadd, 1) := by decide +kernel
theorem dX12_terms_108 : decode cX12_terms 108 = .ok (.putfield 256, 3) := by decide +kernel
theorem dX12_terms_111 : decode cX12_terms 111 = .ok (.aload_n 0, 1) := by decide +kernel
theorem dX12_terms_112 : decode cX12_terms 112 = .ok (.iload_n 1, 1) := by decide +kernel
theorem dX12_terms_113 : decode cX12_terms 113 = .ok (.iload_n 2, 1) := by decide +kernel
theorem dX12_terms_114 : decode cX12_terms 114 = .ok (.invokevirtual 279, 3) := by decide +kernel
theorem dX12_terms_117 : decode cX12_terms 117 = .ok (.goto (-78), 3) := by decide +kernel
theorem dX12_terms_120 : decode cX12_terms 120 = .ok (.return_, 1) := by decide +kernel
theorem dX12_must_0 : decode cX12_must 0 = .ok (.aload_n 0, 1) := by decide +kernel
theorem dX12_must_1 : decode cX12_must 1 = .ok (.getfield 269, 3) := by decide +kernel
theorem dX12_must_4 : decode cX12_must 4 = .ok (.ifCond .ge 36, 3) := by decide +kernel
theorem dX12_must_7 : decode cX12_must 7 = .ok (.aload_n 0, 1) := by decide +kernel
theorem dX12_must_8 : decode cX12_must 8 = .ok (.aload_n 0, 1) := by decide +kernel
theorem dX12_must_9 : decode cX12_must 9 = .ok (.invokevirtual 259, 3) := by decide +kernel
theorem dX12_must_12 : decode cX12_must 12 = .ok (.iload_n 1, 1) := by decide +kernel
theorem dX12_must_13 : decode cX12_must 13 = .ok (.if_icmp .ne 10, 3) := by decide +kernel
theorem dX12_must_16 : decode cX12_must 16 = .ok (.aload_n 0, 1) := by decide +kernel
theorem dX12_must_17 : decode cX12_must 17 = .ok (.getfield 269, 3) := by decide +kernel
theorem dX12_must_20 : decode cX12_must 20 = .ok (.goto 7, 3) := by decide +kernel
theorem dX12_must_23 : decode cX12_must 23 = .ok (.aload_n 0, 1) := by decide +kernel
theorem dX12_must_24 : decode cX12_must 24 = .ok (.getfield 256, 3) := by decide +kernel
theorem dX12_must_27 : decode cX12_must 27 = .ok (.putfield 269, 3) := by decide +kernel
theorem dX12_must_30 : decode cX12_must 30 = .ok (.aload_n 0, 1) := by decide +kernel
theorem dX12_must_31 : decode cX12_must 31 = .ok (.dup, 1) := by decide +kernel
theorem dX12_must_32 : decode cX12_must 32 = .ok (.getfield 256, 3) := by decide +kernel
theorem dX12_must_35 : decode cX12_must 35 = .ok (.iconst 1, 1) := by decide +kernel
theorem dX12_must_36 : decode cX12_must 36 = .ok (.iadd, 1) := by decide +kernel
theorem dX12_must_37 : decode cX12_must 37 = .ok (.putfield 256, 3) := by decide +kernel
theorem dX12_must_40 : decode cX12_must 40 = .ok (.return_, 1) := by decide +kernel
theorem dX12_read_0 : decode cX12_read 0 = .ok (.aload_n 0, 1) := by decide +kernel
theorem dX12_read_1 : decode cX12_read 1 = .ok (.iconst 0, 1) := by decide +kernel
theorem dX12_read_2 : decode cX12_read 2 = .ok (.putfield 256, 3) := by decide +kernel
theorem dX12_read_5 : decode cX12_read 5 = .ok (.aload_n 0, 1) := by decide +kernel
theorem dX12_read_6 : decode cX12_read 6 = .ok (.iconst (-1), 1) := by decide +kernel
theorem dX12_read_7 : decode cX12_read 7 = .ok (.putfield 269, 3) := by decide +kernel
theorem dX12_read_10 : decode cX12_read 10 = .ok (.aload_n 0, 1) := by decide +kernel
theorem dX12_read_11 : decode cX12_read 11 = .ok (.iconst 0, 1) := by decide +kernel
theorem dX12_read_12 : decode cX12_read 12 = .ok (.putfield 276, 3) := by decide +kernel
theorem dX12_read_15 : decode cX12_read 15 = .ok (.iconst 0, 1) := by decide +kernel
theorem dX12_read_16 : decode cX12_read 16 = .ok (.istore_n 1, 1) := by decide +kernel
theorem dX12_read_17 : decode cX12_read 17 = .ok (.iload_n 1, 1) := by decide +kernel
theorem dX12_read_18 : decode cX12_read 18 = .ok (.bipush 14, 2) := by decide +kernel
theorem dX12_read_20 : decode cX12_read 20 = .ok (.if_icmp .ge 16, 3) := by decide +kernel
theorem dX12_read_23 : decode cX12_read 23 = .ok (.aload_n 0, 1) := by decide +kernel
theorem dX12_read_24 : decode cX12_read 24 = .ok (.getfield 52, 3) := by decide +kernel
theorem dX12_read_27 : decode cX12_read 27 = .ok (.iload_n 1, 1) := by decide +kernel
theorem dX12_read_28 : decode cX12_read 28 = .ok (.iconst 0, 1) := by decide +kernel
theorem dX12_read_29 : decode cX12_read 29 = .ok (.iastore, 1) := by decide +kernel
theorem dX12_read_30 : decode cX12_read 30 = .ok (.iinc 1 1, 3) := by decide +kernel
theorem dX12_read_33 : decode cX12_read 33 = .ok (.goto (-16), 3) := by decide +kernel
theorem dX12_read_36 : decode cX12_read 36 = .ok (.aload_n 0, 1) := by decide +kernel
theorem dX12_read_37 : decode cX12_read 37 = .ok (.iconst 0, 1) := by decide +kernel
theorem dX12_read_38 : decode cX12_read 38 = .ok (.invokevirtual 286, 3) := by decide +kernel
theorem dX12_read_41 : decode cX12_read 41 = .ok (.aload_n 0, 1) := by decide +kernel
theorem dX12_read_42 : decode cX12_read 42 = .ok (.invokevirtual 259, 3) := by decide +kernel
theorem dX12_read_45 : decode cX12_read 45 = .ok (.bipush 45, 2) := by decide +kernel
theorem dX12_read_47 : decode cX12_read 47 = .ok (.if_icmp .ne 7, 3) := by decide +kernel
theorem dX12_read_50 : decode cX12_read 50 = .ok (.iconst 1, 1) := by decide +kernel
theorem dX12_read_51 : decode cX12_read 51 = .ok (.goto 4, 3) := by decide +kernel
theorem dX12_read_54 : decode cX12_read 54 = .ok (.iconst 0, 1) := by decide +kernel
theorem dX12_read_55 : decode cX12_read 55 = .ok (.istore_n 1, 1) := by decide +kernel
theorem dX12_read_56 : decode cX12_read 56 = .ok (.aload_n 0, 1) := by decide +kernel
theorem dX12_read_57 : decode cX12_read 57 = .ok (.getfield 269, 3) := by decide +kernel
theorem dX12_read_60 : decode cX12_read 60 = .ok (.ifCond .ge 44, 3) := by decide +kernel
theorem dX12_read_63 : decode cX12_read 63 = .ok (.aload_n 0, 1) := by decide +kernel
theorem dX12_read_64 : decode cX12_read 64 = .ok (.invokevirtual 283, 3) := by decide +kernel
theorem dX12_read_67 : decode cX12_read 67 = .ok (.ifCond .eq 37, 3) := by decide +kernel
theorem dX12_read_70 : decode cX12_read 70 = .ok (.aload_n 0, 1) := by decide +kernel
theorem dX12_read_71 : decode cX12_read 71 = .ok (.dup, 1) := by decide +kernel
theorem dX12_read_72 : decode cX12_read 72 = .ok (.getfield 256, 3) := by decide +kernel
theorem dX12_read_75 : decode cX12_read 75 = .ok (.iconst 2, 1) := by decide +kernel
theorem dX12_read_76 : decode cX12_read 76 = .ok (.iadd, 1) := by decide +kernel
theorem dX12_read_77 : decode cX12_read 77 = .ok (.putfield 256, 3) := by decide +kernel
theorem dX12_read_80 : decode cX12_read 80 = .ok (.aload_n 0, 1) := by decide +kernel
theorem dX12_read_81 : decode cX12_read 81 = .ok (.bipush 40, 2) := by decide +kernel
theorem dX12_read_83 : decode cX12_read 83 = .ok (.invokevirtual 288, 3) := by decide +kernel
theorem dX12_read_86 : decode cX12_read 86 = .ok (.aload_n 0, 1) := by decide +kernel
theorem dX12_read_87 : decode cX12_read 87 = .ok (.getfield 269, 3) := by decide +kernel
theorem dX12_read_90 : decode cX12_read 90 = .ok (.ifCond .ge 8, 3) := by decide +kernel
theorem dX12_read_93 : decode cX12_read 93 = .ok (.aload_n 0, 1) := by decide +kernel
theorem dX12_read_94 : decode cX12_read 94 = .ok (.iconst 1, 1) := by decide +kernel
theorem dX12_read_95 : decode cX12_read 95 = .ok (.invokevirtual 286, 3) := by decide +kernel
theorem dX12_read_98 : decode cX12_read 98 = .ok (.aload_n 0, 1) := by decide +kernel
theorem dX12_read_99 : decode cX12_read 99 = .ok (.bipush 41, 2) := by decide +kernel
theorem dX12_read_101 : decode cX12_read 101 = .ok (.invokevirtual 288, 3) := by decide +kernel
theorem dX12_read_104 : decode cX12_read 104 = .ok (.aload_n 0, 1) := by decide +kernel
theorem dX12_read_105 : decode cX12_read 105 = .ok (.getfield 269, 3) := by decide +kernel
theorem dX12_read_108 : decode cX12_read 108 = .ok (.ifCond .ge 22, 3) := by decide +kernel
theorem dX12_read_111 : decode cX12_read 111 = .ok (.aload_n 0, 1) := by decide +kernel
theorem dX12_read_112 : decode cX12_read 112 = .ok (.getfield 256, 3) := by decide +kernel
theorem dX12_read_115 : decode cX12_read 115 = .ok (.aload_n 0, 1) := by decide +kernel
theorem dX12_read_116 : decode cX12_read 116 = .ok (.getfield 253, 3) := by decide +kernel
theorem dX12_read_119 : decode cX12_read 119 = .ok (.if_icmp .ge 11, 3) := by decide +kernel
theorem dX12_read_122 : decode cX12_read 122 = .ok (.aload_n 0, 1) := by decide +kernel
theorem dX12_read_123 : decode cX12_read 123 = .ok (.aload_n 0, 1) := by decide +kernel
theorem dX12_read_124 : decode cX12_read 124 = .ok (.getfield 256, 3) := by decide +kernel
theorem dX12_read_127 : decode cX12_read 127 = .ok (.putfield 269, 3) := by decide +kernel
theorem dX12_read_130 : decode cX12_read 130 = .ok (.aload_n 0, 1) := by decide +kernel
theorem dX12_read_131 : decode cX12_read 131 = .ok (.iconst 0, 1) := by decide +kernel
theorem dX12_read_132 : decode cX12_read 132 = .ok (.putfield 253, 3) := by decide +kernel
theorem dX12_read_135 : decode cX12_read 135 = .ok (.aload_n 0, 1) := by decide +kernel
theorem dX12_read_136 : decode cX12_read 136 = .ok (.getfield 269, 3) := by decide +kernel
theorem dX12_read_139 : decode cX12_read 139 = .ok (.ifCond .lt 11, 3) := by decide +kernel
theorem dX12_read_142 : decode cX12_read 142 = .ok (.bipush (-100), 2) := by decide +kernel
theorem dX12_read_144 : decode cX12_read 144 = .ok (.aload_n 0, 1) := by decide +kernel
theorem dX12_read_145 : decode cX12_read 145 = .ok (.getfield 269, 3) := by decide +kernel
theorem dX12_read_148 : decode cX12_read 148 = .ok (.isub, 1) := by decide +kernel
theorem dX12_read_149 : decode cX12_read 149 = .ok (.ireturn, 1) := by decide +kernel
theorem dX12_read_150 : decode cX12_read 150 = .ok (.iconst 0, 1) := by decide +kernel
theorem dX12_read_151 : decode cX12_read 151 = .ok (.istore_n 2, 1) := by decide +kernel
theorem dX12_read_152 : decode cX12_read 152 = .ok (.iload_n 2, 1) := by decide +kernel
theorem dX12_read_153 : decode cX12_read 153 = .ok (.bipush 7, 2) := by decide +kernel
theorem dX12_read_155 : decode cX12_read 155 = .ok (.if_icmp .ge 58, 3) := by decide +kernel
theorem dX12_read_158 : decode cX12_read 158 = .ok (.aload_n 0, 1) := by decide +kernel
theorem dX12_read_159 : decode cX12_read 159 = .ok (.getfield 11, 3) := by decide +kernel
theorem dX12_read_162 : decode cX12_read 162 = .ok (.iconst 0, 1) := by decide +kernel
theorem dX12_read_163 : decode cX12_read 163 = .ok (.iload_n 2, 1) := by decide +kernel
theorem dX12_read_164 : decode cX12_read 164 = .ok (.iadd, 1) := by decide +kernel
theorem dX12_read_165 : decode cX12_read 165 = .ok (.aload_n 0, 1) := by decide +kernel
theorem dX12_read_166 : decode cX12_read 166 = .ok (.getfield 52, 3) := by decide +kernel
theorem dX12_read_169 : decode cX12_read 169 = .ok (.iload_n 2, 1) := by decide +kernel
theorem dX12_read_170 : decode cX12_read 170 = .ok (.iaload, 1) := by decide +kernel
theorem dX12_read_171 : decode cX12_read 171 = .ok (.iastore, 1) := by decide +kernel
theorem dX12_read_172 : decode cX12_read 172 = .ok (.aload_n 0, 1) := by decide +kernel
theorem dX12_read_173 : decode cX12_read 173 = .ok (.getfield 11, 3) := by decide +kernel
theorem dX12_read_176 : decode cX12_read 176 = .ok (.bipush 7, 2) := by decide +kernel
theorem dX12_read_178 : decode cX12_read 178 = .ok (.iload_n 2, 1) := by decide +kernel
theorem dX12_read_179 : decode cX12_read 179 = .ok (.iadd, 1) := by decide +kernel
theorem dX12_read_180 : decode cX12_read 180 = .ok (.iload_n 1, 1) := by decide +kernel
theorem dX12_read_181 : decode cX12_read 181 = .ok (.ifCond .eq 16, 3) := by decide +kernel
theorem dX12_read_184 : decode cX12_read 184 = .ok (.aload_n 0, 1) := by decide +kernel
theorem dX12_read_185 : decode cX12_read 185 = .ok (.getfield 52, 3) := by decide +kernel
theorem dX12_read_188 : decode cX12_read 188 = .ok (.bipush 7, 2) := by decide +kernel
theorem dX12_read_190 : decode cX12_read 190 = .ok (.iload_n 2, 1) := by decide +kernel
theorem dX12_read_191 : decode cX12_read 191 = .ok (.iadd, 1) := by decide +kernel
theorem dX12_read_192 : decode cX12_read 192 = .ok (.iaload, 1) := by decide +kernel
theorem dX12_read_193 : decode cX12_read 193 = .ok (.ineg, 1) := by decide +kernel
theorem dX12_read_194 : decode cX12_read 194 = .ok (.goto 12, 3) := by decide +kernel
theorem dX12_read_197 : decode cX12_read 197 = .ok (.aload_n 0, 1) := by decide +kernel
theorem dX12_read_198 : decode cX12_read 198 = .ok (.getfield 52, 3) := by decide +kernel
theorem dX12_read_201 : decode cX12_read 201 = .ok (.bipush 7, 2) := by decide +kernel
theorem dX12_read_203 : decode cX12_read 203 = .ok (.iload_n 2, 1) := by decide +kernel
theorem dX12_read_204 : decode cX12_read 204 = .ok (.iadd, 1) := by decide +kernel
theorem dX12_read_205 : decode cX12_read 205 = .ok (.iaload, 1) := by decide +kernel
theorem dX12_read_206 : decode cX12_read 206 = .ok (.iastore, 1) := by decide +kernel
theorem dX12_read_207 : decode cX12_read 207 = .ok (.iinc 2 1, 3) := by decide +kernel
theorem dX12_read_210 : decode cX12_read 210 = .ok (.goto (-58), 3) := by decide +kernel
theorem dX12_read_213 : decode cX12_read 213 = .ok (.aload_n 0, 1) := by decide +kernel
theorem dX12_read_214 : decode cX12_read 214 = .ok (.dup, 1) := by decide +kernel
theorem dX12_read_215 : decode cX12_read 215 = .ok (.getfield 291, 3) := by decide +kernel
theorem dX12_read_218 : decode cX12_read 218 = .ok (.iconst 1, 1) := by decide +kernel
theorem dX12_read_219 : decode cX12_read 219 = .ok (.iadd, 1) := by decide +kernel
theorem dX12_read_220 : decode cX12_read 220 = .ok (.putfield 291, 3) := by decide +kernel
theorem dX12_read_223 : decode cX12_read 223 = .ok (.aload_n 0, 1) := by decide +kernel
theorem dX12_read_224 : decode cX12_read 224 = .ok (.getfield 276, 3) := by decide +kernel
theorem dX12_read_227 : decode cX12_read 227 = .ok (.ireturn, 1) := by decide +kernel
theorem dX12_await_0 : decode cX12_await 0 = .ok (.iload_n 1, 1) := by decide +kernel
theorem dX12_await_1 : decode cX12_await 1 = .ok (.i2l, 1) := by decide +kernel
theorem dX12_await_2 : decode cX12_await 2 = .ok (.ldc2_w 101, 3) := by decide +kernel
theorem dX12_await_5 : decode cX12_await 5 = .ok (.ldc2_w 103, 3) := by decide +kernel
theorem dX12_await_8 : decode cX12_await 8 = .ok (.invokestatic 83, 3) := by decide +kernel
theorem dX12_await_11 : decode cX12_await 11 = .ok (.ifCond .ne 6, 3) := by decide +kernel
theorem dX12_await_14 : decode cX12_await 14 = .ok (.bipush (-2), 2) := by decide +kernel
theorem dX12_await_16 : decode cX12_await 16 = .ok (.ireturn, 1) := by decide +kernel
theorem dX12_await_17 : decode cX12_await 17 = .ok (.aload_n 0, 1) := by decide +kernel
theorem dX12_await_18 : decode cX12_await 18 = .ok (.getfield 11, 3) := by decide +kernel
theorem dX12_await_21 : decode cX12_await 21 = .ok (.bipush 15, 2) := by decide +kernel
theorem dX12_await_23 : decode cX12_await 23 = .ok (.iaload, 1) := by decide +kernel
theorem dX12_await_24 : decode cX12_await 24 = .ok (.bipush 16, 2) := by decide +kernel
theorem dX12_await_26 : decode cX12_await 26 = .ok (.if_icmp .ne 6, 3) := by decide +kernel
theorem dX12_await_29 : decode cX12_await 29 = .ok (.bipush (-4), 2) := by decide +kernel
theorem dX12_await_31 : decode cX12_await 31 = .ok (.ireturn, 1) := by decide +kernel
theorem dX12_await_32 : decode cX12_await 32 = .ok (.aload_n 0, 1) := by decide +kernel
theorem dX12_await_33 : decode cX12_await 33 = .ok (.getfield 11, 3) := by decide +kernel
theorem dX12_await_36 : decode cX12_await 36 = .ok (.bipush 16, 2) := by decide +kernel
theorem dX12_await_38 : decode cX12_await 38 = .ok (.aload_n 0, 1) := by decide +kernel
theorem dX12_await_39 : decode cX12_await 39 = .ok (.getfield 11, 3) := by decide +kernel
theorem dX12_await_42 : decode cX12_await 42 = .ok (.bipush 15, 2) := by decide +kernel
theorem dX12_await_44 : decode cX12_await 44 = .ok (.iaload, 1) := by decide +kernel
theorem dX12_await_45 : decode cX12_await 45 = .ok (.iadd, 1) := by decide +kernel
theorem dX12_await_46 : decode cX12_await 46 = .ok (.iload_n 1, 1) := by decide +kernel
theorem dX12_await_47 : decode cX12_await 47 = .ok (.iastore, 1) := by decide +kernel
theorem dX12_await_48 : decode cX12_await 48 = .ok (.aload_n 0, 1) := by decide +kernel
theorem dX12_await_49 : decode cX12_await 49 = .ok (.getfield 11, 3) := by decide +kernel
theorem dX12_await_52 : decode cX12_await 52 = .ok (.bipush 15, 2) := by decide +kernel
theorem dX12_await_54 : decode cX12_await 54 = .ok (.dup2, 1) := by decide +kernel
theorem dX12_await_55 : decode cX12_await 55 = .ok (.iaload, 1) := by decide +kernel
theorem dX12_await_56 : decode cX12_await 56 = .ok (.iconst 1, 1) := by decide +kernel
theorem dX12_await_57 : decode cX12_await 57 = .ok (.iadd, 1) := by decide +kernel
theorem dX12_await_58 : decode cX12_await 58 = .ok (.iastore, 1) := by decide +kernel
theorem dX12_await_59 : decode cX12_await 59 = .ok (.aload_n 0, 1) := by decide +kernel
theorem dX12_await_60 : decode cX12_await 60 = .ok (.getfield 11, 3) := by decide +kernel
theorem dX12_await_63 : decode cX12_await 63 = .ok (.bipush 15, 2) := by decide +kernel
theorem dX12_await_65 : decode cX12_await 65 = .ok (.iaload, 1) := by decide +kernel
theorem dX12_await_66 : decode cX12_await 66 = .ok (.ireturn, 1) := by decide +kernel
theorem dX12_leaves_0 : decode cX12_leaves 0 = .ok (.aload_n 0, 1) := by decide +kernel
theorem dX12_leaves_1 : decode cX12_leaves 1 = .ok (.getfield 11, 3) := by decide +kernel
theorem dX12_leaves_4 : decode cX12_leaves 4 = .ok (.bipush 15, 2) := by decide +kernel
theorem dX12_leaves_6 : decode cX12_leaves 6 = .ok (.dup2, 1) := by decide +kernel
theorem dX12_leaves_7 : decode cX12_leaves 7 = .ok (.iaload, 1) := by decide +kernel
theorem dX12_leaves_8 : decode cX12_leaves 8 = .ok (.iconst 1, 1) := by decide +kernel
theorem dX12_leaves_9 : decode cX12_leaves 9 = .ok (.isub, 1) := by decide +kernel
theorem dX12_leaves_10 : decode cX12_leaves 10 = .ok (.iastore, 1) := by decide +kernel
theorem dX12_leaves_11 : decode cX12_leaves 11 = .ok (.iload_n 1, 1) := by decide +kernel
theorem dX12_leaves_12 : decode cX12_leaves 12 = .ok (.istore_n 2, 1) := by decide +kernel
theorem dX12_leaves_13 : decode cX12_leaves 13 = .ok (.iload_n 2, 1) := by decide +kernel
theorem dX12_leaves_14 : decode cX12_leaves 14 = .ok (.aload_n 0, 1) := by decide +kernel
theorem dX12_leaves_15 : decode cX12_leaves 15 = .ok (.getfield 11, 3) := by decide +kernel
theorem dX12_leaves_18 : decode cX12_leaves 18 = .ok (.bipush 15, 2) := by decide +kernel
theorem dX12_leaves_20 : decode cX12_leaves 20 = .ok (.iaload, 1) := by decide +kernel
theorem dX12_leaves_21 : decode cX12_leaves 21 = .ok (.if_icmp .ge 29, 3) := by decide +kernel
theorem dX12_leaves_24 : decode cX12_leaves 24 = .ok (.aload_n 0, 1) := by decide +kernel
theorem dX12_leaves_25 : decode cX12_leaves 25 = .ok (.getfield 11, 3) := by decide +kernel
theorem dX12_leaves_28 : decode cX12_leaves 28 = .ok (.bipush 16, 2) := by decide +kernel
theorem dX12_leaves_30 : decode cX12_leaves 30 = .ok (.iload_n 2, 1) := by decide +kernel
theorem dX12_leaves_31 : decode cX12_leaves 31 = .ok (.iadd, 1) := by decide +kernel
theorem dX12_leaves_32 : decode cX12_leaves 32 = .ok (.aload_n 0, 1) := by decide +kernel
theorem dX12_leaves_33 : decode cX12_leaves 33 = .ok (.getfield 11, 3) := by decide +kernel
theorem dX12_leaves_36 : decode cX12_leaves 36 = .ok (.bipush 16, 2) := by decide +kernel
theorem dX12_leaves_38 : decode cX12_leaves 38 = .ok (.iload_n 2, 1) := by decide +kernel
theorem dX12_leaves_39 : decode cX12_leaves 39 = .ok (.iadd, 1) := by decide +kernel
theorem dX12_leaves_40 : decode cX12_leaves 40 = .ok (.iconst 1, 1) := by decide +kernel
theorem dX12_leaves_41 : decode cX12_leaves 41 = .ok (.iadd, 1) := by decide +kernel
theorem dX12_leaves_42 : decode cX12_leaves 42 = .ok (.iaload, 1) := by decide +kernel
theorem dX12_leaves_43 : decode cX12_leaves 43 = .ok (.iastore, 1) := by decide +kernel
theorem dX12_leaves_44 : decode cX12_leaves 44 = .ok (.iinc 2 1, 3) := by decide +kernel
theorem dX12_leaves_47 : decode cX12_leaves 47 = .ok (.goto (-34), 3) := by decide +kernel
theorem dX12_leaves_50 : decode cX12_leaves 50 = .ok (.return_, 1) := by decide +kernel
theorem dX12_next_0 : decode cX12_next 0 = .ok (.aload_n 0, 1) := by decide +kernel
theorem dX12_next_1 : decode cX12_next 1 = .ok (.getfield 11, 3) := by decide +kernel
theorem dX12_next_4 : decode cX12_next 4 = .ok (.bipush 15, 2) := by decide +kernel
theorem dX12_next_6 : decode cX12_next 6 = .ok (.iaload, 1) := by decide +kernel
theorem dX12_next_7 : decode cX12_next 7 = .ok (.ifCond .ne 6, 3) := by decide +kernel
theorem dX12_next_10 : decode cX12_next 10 = .ok (.bipush (-3), 2) := by decide +kernel
theorem dX12_next_12 : decode cX12_next 12 = .ok (.ireturn, 1) := by decide +kernel
theorem dX12_next_13 : decode cX12_next 13 = .ok (.aload_n 0, 1) := by decide +kernel
theorem dX12_next_14 : decode cX12_next 14 = .ok (.getfield 11, 3) := by decide +kernel
theorem dX12_next_17 : decode cX12_next 17 = .ok (.bipush 14, 2) := by decide +kernel
theorem dX12_next_19 : decode cX12_next 19 = .ok (.aload_n 0, 1) := by decide +kernel
theorem dX12_next_20 : decode cX12_next 20 = .ok (.getfield 11, 3) := by decide +kernel
theorem dX12_next_23 : decode cX12_next 23 = .ok (.bipush 16, 2) := by decide +kernel
theorem dX12_next_25 : decode cX12_next 25 = .ok (.iaload, 1) := by decide +kernel
theorem dX12_next_26 : decode cX12_next 26 = .ok (.iastore, 1) := by decide +kernel
theorem dX12_next_27 : decode cX12_next 27 = .ok (.aload_n 0, 1) := by decide +kernel
theorem dX12_next_28 : decode cX12_next 28 = .ok (.iconst 0, 1) := by decide +kernel
theorem dX12_next_29 : decode cX12_next 29 = .ok (.invokevirtual 294, 3) := by decide +kernel
theorem dX12_next_32 : decode cX12_next 32 = .ok (.aload_n 0, 1) := by decide +kernel
theorem dX12_next_33 : decode cX12_next 33 = .ok (.getfield 11, 3) := by decide +kernel
theorem dX12_next_36 : decode cX12_next 36 = .ok (.bipush 15, 2) := by decide +kernel
theorem dX12_next_38 : decode cX12_next 38 = .ok (.iaload, 1) := by decide +kernel
theorem dX12_next_39 : decode cX12_next 39 = .ok (.ireturn, 1) := by decide +kernel
theorem dX12_waiting_0 : decode cX12_waiting 0 = .ok (.iload_n 1, 1) := by decide +kernel
theorem dX12_waiting_1 : decode cX12_waiting 1 = .ok (.i2l, 1) := by decide +kernel
theorem dX12_waiting_2 : decode cX12_waiting 2 = .ok (.lconst 0, 1) := by decide +kernel
theorem dX12_waiting_3 : decode cX12_waiting 3 = .ok (.aload_n 0, 1) := by decide +kernel
theorem dX12_waiting_4 : decode cX12_waiting 4 = .ok (.getfield 11, 3) := by decide +kernel
theorem dX12_waiting_7 : decode cX12_waiting 7 = .ok (.bipush 15, 2) := by decide +kernel
theorem dX12_waiting_9 : decode cX12_waiting 9 = .ok (.iaload, 1) := by decide +kernel
theorem dX12_waiting_10 : decode cX12_waiting 10 = .ok (.iconst 1, 1) := by decide +kernel
theorem dX12_waiting_11 : decode cX12_waiting 11 = .ok (.isub, 1) := by decide +kernel
theorem dX12_waiting_12 : decode cX12_waiting 12 = .ok (.i2l, 1) := by decide +kernel
theorem dX12_waiting_13 : decode cX12_waiting 13 = .ok (.invokestatic 83, 3) := by decide +kernel
theorem dX12_waiting_16 : decode cX12_waiting 16 = .ok (.ifCond .eq 19, 3) := by decide +kernel
theorem dX12_waiting_19 : decode cX12_waiting 19 = .ok (.aload_n 0, 1) := by decide +kernel
theorem dX12_waiting_20 : decode cX12_waiting 20 = .ok (.getfield 11, 3) := by decide +kernel
theorem dX12_waiting_23 : decode cX12_waiting 23 = .ok (.bipush 16, 2) := by decide +kernel
theorem dX12_waiting_25 : decode cX12_waiting 25 = .ok (.iload_n 1, 1) := by decide +kernel
theorem dX12_waiting_26 : decode cX12_waiting 26 = .ok (.iadd, 1) := by decide +kernel
theorem dX12_waiting_27 : decode cX12_waiting 27 = .ok (.iaload, 1) := by decide +kernel
theorem dX12_waiting_28 : decode cX12_waiting 28 = .ok (.sipush 1000, 3) := by decide +kernel
theorem dX12_waiting_31 : decode cX12_waiting 31 = .ok (.iadd, 1) := by decide +kernel
theorem dX12_waiting_32 : decode cX12_waiting 32 = .ok (.goto 4, 3) := by decide +kernel
theorem dX12_waiting_35 : decode cX12_waiting 35 = .ok (.iconst (-1), 1) := by decide +kernel
theorem dX12_waiting_36 : decode cX12_waiting 36 = .ok (.ireturn, 1) := by decide +kernel
theorem dX12_isTwice_0 : decode cX12_isTwice 0 = .ok (.iconst 0, 1) := by decide +kernel
theorem dX12_isTwice_1 : decode cX12_isTwice 1 = .ok (.istore_n 2, 1) := by decide +kernel
theorem dX12_isTwice_2 : decode cX12_isTwice 2 = .ok (.iconst 0, 1) := by decide +kernel
theorem dX12_isTwice_3 : decode cX12_isTwice 3 = .ok (.istore_n 3, 1) := by decide +kernel
theorem dX12_isTwice_4 : decode cX12_isTwice 4 = .ok (.iload_n 3, 1) := by decide +kernel
theorem dX12_isTwice_5 : decode cX12_isTwice 5 = .ok (.iload_n 1, 1) := by decide +kernel
theorem dX12_isTwice_6 : decode cX12_isTwice 6 = .ok (.if_icmp .ge 40, 3) := by decide +kernel
theorem dX12_isTwice_9 : decode cX12_isTwice 9 = .ok (.iload_n 2, 1) := by decide +kernel
theorem dX12_isTwice_10 : decode cX12_isTwice 10 = .ok (.ifCond .ne 24, 3) := by decide +kernel
theorem dX12_isTwice_13 : decode cX12_isTwice 13 = .ok (.aload_n 0, 1) := by decide +kernel
theorem dX12_isTwice_14 : decode cX12_isTwice 14 = .ok (.getfield 11, 3) := by decide +kernel
theorem dX12_isTwice_17 : decode cX12_isTwice 17 = .ok (.bipush 16, 2) := by decide +kernel
theorem dX12_isTwice_19 : decode cX12_isTwice 19 = .ok (.iload_n 3, 1) := by decide +kernel
theorem dX12_isTwice_20 : decode cX12_isTwice 20 = .ok (.iadd, 1) := by decide +kernel
theorem dX12_isTwice_21 : decode cX12_isTwice 21 = .ok (.iaload, 1) := by decide +kernel
theorem dX12_isTwice_22 : decode cX12_isTwice 22 = .ok (.aload_n 0, 1) := by decide +kernel
theorem dX12_isTwice_23 : decode cX12_isTwice 23 = .ok (.getfield 11, 3) := by decide +kernel
theorem dX12_isTwice_26 : decode cX12_isTwice 26 = .ok (.bipush 16, 2) := by decide +kernel
theorem dX12_isTwice_28 : decode cX12_isTwice 28 = .ok (.iload_n 1, 1) := by decide +kernel
theorem dX12_isTwice_29 : decode cX12_isTwice 29 = .ok (.iadd, 1) := by decide +kernel
theorem dX12_isTwice_30 : decode cX12_isTwice 30 = .ok (.iaload, 1) := by decide +kernel
theorem dX12_isTwice_31 : decode cX12_isTwice 31 = .ok (.if_icmp .ne 7, 3) := by decide +kernel
theorem dX12_isTwice_34 : decode cX12_isTwice 34 = .ok (.iconst 1, 1) := by decide +kernel
theorem dX12_isTwice_35 : decode cX12_isTwice 35 = .ok (.goto 4, 3) := by decide +kernel
theorem dX12_isTwice_38 : decode cX12_isTwice 38 = .ok (.iconst 0, 1) := by decide +kernel
theorem dX12_isTwice_39 : decode cX12_isTwice 39 = .ok (.istore_n 2, 1) := by decide +kernel
theorem dX12_isTwice_40 : decode cX12_isTwice 40 = .ok (.iinc 3 1, 3) := by decide +kernel
theorem dX12_isTwice_43 : decode cX12_isTwice 43 = .ok (.goto (-39), 3) := by decide +kernel
theorem dX12_isTwice_46 : decode cX12_isTwice 46 = .ok (.iload_n 2, 1) := by decide +kernel
theorem dX12_isTwice_47 : decode cX12_isTwice 47 = .ok (.ireturn, 1) := by decide +kernel
theorem dX12_weed_0 : decode cX12_weed 0 = .ok (.iload_n 1, 1) := by decide +kernel
theorem dX12_weed_1 : decode cX12_weed 1 = .ok (.invokestatic 204, 3) := by decide +kernel
theorem dX12_weed_4 : decode cX12_weed 4 = .ok (.ifCond .eq 15, 3) := by decide +kernel
theorem dX12_weed_7 : decode cX12_weed 7 = .ok (.iload_n 2, 1) := by decide +kernel
theorem dX12_weed_8 : decode cX12_weed 8 = .ok (.i2l, 1) := by decide +kernel
theorem dX12_weed_9 : decode cX12_weed 9 = .ok (.lconst 0, 1) := by decide +kernel
theorem dX12_weed_10 : decode cX12_weed 10 = .ok (.ldc2_w 95, 3) := by decide +kernel
theorem dX12_weed_13 : decode cX12_weed 13 = .ok (.invokestatic 83, 3) := by decide +kernel
theorem dX12_weed_16 : decode cX12_weed 16 = .ok (.ifCond .ne 6, 3) := by decide +kernel
theorem dX12_weed_19 : decode cX12_weed 19 = .ok (.bipush (-2), 2) := by decide +kernel
theorem dX12_weed_21 : decode cX12_weed 21 = .ok (.ireturn, 1) := by decide +kernel
theorem dX12_weed_22 : decode cX12_weed 22 = .ok (.aload_n 0, 1) := by decide +kernel
theorem dX12_weed_23 : decode cX12_weed 23 = .ok (.getfield 11, 3) := by decide +kernel
theorem dX12_weed_26 : decode cX12_weed 26 = .ok (.bipush 15, 2) := by decide +kernel
theorem dX12_weed_28 : decode cX12_weed 28 = .ok (.iaload, 1) := by decide +kernel
theorem dX12_weed_29 : decode cX12_weed 29 = .ok (.istore_n 3, 1) := by decide +kernel
theorem dX12_weed_30 : decode cX12_weed 30 = .ok (.iload_n 3, 1) := by decide +kernel
theorem dX12_weed_31 : decode cX12_weed 31 = .ok (.iconst 1, 1) := by decide +kernel
theorem dX12_weed_32 : decode cX12_weed 32 = .ok (.isub, 1) := by decide +kernel
theorem dX12_weed_33 : decode cX12_weed 33 = .ok (.istore 4, 2) := by decide +kernel
theorem dX12_weed_35 : decode cX12_weed 35 = .ok (.iload 4, 2) := by decide +kernel
theorem dX12_weed_37 : decode cX12_weed 37 = .ok (.ifCond .lt 70, 3) := by decide +kernel
theorem dX12_weed_40 : decode cX12_weed 40 = .ok (.iload_n 2, 1) := by decide +kernel
theorem dX12_weed_41 : decode cX12_weed 41 = .ok (.iconst 2, 1) := by decide +kernel
theorem dX12_weed_42 : decode cX12_weed 42 = .ok (.if_icmp .ne 12, 3) := by decide +kernel
theorem dX12_weed_45 : decode cX12_weed 45 = .ok (.aload_n 0, 1) := by decide +kernel
theorem dX12_weed_46 : decode cX12_weed 46 = .ok (.iload 4, 2) := by decide +kernel
theorem dX12_weed_48 : decode cX12_weed 48 = .ok (.invokevirtual 297, 3) := by decide +kernel
theorem dX12_weed_51 : decode cX12_weed 51 = .ok (.goto 37, 3) := by decide +kernel
theorem dX12_weed_54 : decode cX12_weed 54 = .ok (.aload_n 0, 1) := by decide +kernel
theorem dX12_weed_55 : decode cX12_weed 55 = .ok (.iload_n 1, 1) := by decide +kernel
theorem dX12_weed_56 : decode cX12_weed 56 = .ok (.iconst 1, 1) := by decide +kernel
theorem dX12_weed_57 : decode cX12_weed 57 = .ok (.aload_n 0, 1) := by decide +kernel
theorem dX12_weed_58 : decode cX12_weed 58 = .ok (.getfield 11, 3) := by decide +kernel
theorem dX12_weed_61 : decode cX12_weed 61 = .ok (.bipush 16, 2) := by decide +kernel
theorem dX12_weed_63 : decode cX12_weed 63 = .ok (.iload 4, 2) := by decide +kernel
theorem dX12_weed_65 : decode cX12_weed 65 = .ok (.iadd, 1) := by decide +kernel
theorem dX12_weed_66 : decode cX12_weed 66 = .ok (.iaload, 1) := by decide +kernel
theorem dX12_weed_67 : decode cX12_weed 67 = .ok (.invokevirtual 213, 3) := by decide +kernel
theorem dX12_weed_70 : decode cX12_weed 70 = .ok (.iload_n 2, 1) := by decide +kernel
theorem dX12_weed_71 : decode cX12_weed 71 = .ok (.iconst 1, 1) := by decide +kernel
theorem dX12_weed_72 : decode cX12_weed 72 = .ok (.if_icmp .ne 7, 3) := by decide +kernel
theorem dX12_weed_75 : decode cX12_weed 75 = .ok (.iconst 1, 1) := by decide +kernel
theorem dX12_weed_76 : decode cX12_weed 76 = .ok (.goto 4, 3) := by decide +kernel
theorem dX12_weed_79 : decode cX12_weed 79 = .ok (.iconst 0, 1) := by decide +kernel
theorem dX12_weed_80 : decode cX12_weed 80 = .ok (.if_icmp .ne 7, 3) := by decide +kernel
theorem dX12_weed_83 : decode cX12_weed 83 = .ok (.iconst 1, 1) := by decide +kernel
theorem dX12_weed_84 : decode cX12_weed 84 = .ok (.goto 4, 3) := by decide +kernel
theorem dX12_weed_87 : decode cX12_weed 87 = .ok (.iconst 0, 1) := by decide +kernel
theorem dX12_weed_88 : decode cX12_weed 88 = .ok (.istore 5, 2) := by decide +kernel
theorem dX12_weed_90 : decode cX12_weed 90 = .ok (.iload 5, 2) := by decide +kernel
theorem dX12_weed_92 : decode cX12_weed 92 = .ok (.ifCond .eq 9, 3) := by decide +kernel
theorem dX12_weed_95 : decode cX12_weed 95 = .ok (.aload_n 0, 1) := by decide +kernel
theorem dX12_weed_96 : decode cX12_weed 96 = .ok (.iload 4, 2) := by decide +kernel
theorem dX12_weed_98 : decode cX12_weed 98 = .ok (.invokevirtual 294, 3) := by decide +kernel
theorem dX12_weed_101 : decode cX12_weed 101 = .ok (.iinc 4 (-1), 3) := by decide +kernel
theorem dX12_weed_104 : decode cX12_weed 104 = .ok (.goto (-69), 3) := by decide +kernel
theorem dX12_weed_107 : decode cX12_weed 107 = .ok (.iload_n 3, 1) := by decide +kernel
theorem dX12_weed_108 : decode cX12_weed 108 = .ok (.aload_n 0, 1) := by decide +kernel
theorem dX12_weed_109 : decode cX12_weed 109 = .ok (.getfield 11, 3) := by decide +kernel
theorem dX12_weed_112 : decode cX12_weed 112 = .ok (.bipush 15, 2) := by decide +kernel
theorem dX12_weed_114 : decode cX12_weed 114 = .ok (.iaload, 1) := by decide +kernel
theorem dX12_weed_115 : decode cX12_weed 115 = .ok (.isub, 1) := by decide +kernel
theorem dX12_weed_116 : decode cX12_weed 116 = .ok (.ireturn, 1) := by decide +kernel
theorem dX12_exchanges_0 : decode cX12_exchanges 0 = .ok (.aload_n 0, 1) := by decide +kernel
theorem dX12_exchanges_1 : decode cX12_exchanges 1 = .ok (.getfield 11, 3) := by decide +kernel
theorem dX12_exchanges_4 : decode cX12_exchanges 4 = .ok (.bipush 16, 2) := by decide +kernel
theorem dX12_exchanges_6 : decode cX12_exchanges 6 = .ok (.iload_n 1, 1) := by decide +kernel
theorem dX12_exchanges_7 : decode cX12_exchanges 7 = .ok (.iadd, 1) := by decide +kernel
theorem dX12_exchanges_8 : decode cX12_exchanges 8 = .ok (.iaload, 1) := by decide +kernel
theorem dX12_exchanges_9 : decode cX12_exchanges 9 = .ok (.istore_n 3, 1) := by decide +kernel
theorem dX12_exchanges_10 : decode cX12_exchanges 10 = .ok (.aload_n 0, 1) := by decide +kernel
theorem dX12_exchanges_11 : decode cX12_exchanges 11 = .ok (.getfield 11, 3) := by decide +kernel
theorem dX12_exchanges_14 : decode cX12_exchanges 14 = .ok (.bipush 16, 2) := by decide +kernel
theorem dX12_exchanges_16 : decode cX12_exchanges 16 = .ok (.iload_n 1, 1) := by decide +kernel
theorem dX12_exchanges_17 : decode cX12_exchanges 17 = .ok (.iadd, 1) := by decide +kernel
theorem dX12_exchanges_18 : decode cX12_exchanges 18 = .ok (.aload_n 0, 1) := by decide +kernel
theorem dX12_exchanges_19 : decode cX12_exchanges 19 = .ok (.getfield 11, 3) := by decide +kernel
theorem dX12_exchanges_22 : decode cX12_exchanges 22 = .ok (.bipush 16, 2) := by decide +kernel
theorem dX12_exchanges_24 : decode cX12_exchanges 24 = .ok (.iload_n 2, 1) := by decide +kernel
theorem dX12_exchanges_25 : decode cX12_exchanges 25 = .ok (.iadd, 1) := by decide +kernel
theorem dX12_exchanges_26 : decode cX12_exchanges 26 = .ok (.iaload, 1) := by decide +kernel
theorem dX12_exchanges_27 : decode cX12_exchanges 27 = .ok (.iastore, 1) := by decide +kernel
theorem dX12_exchanges_28 : decode cX12_exchanges 28 = .ok (.aload_n 0, 1) := by decide +kernel
theorem dX12_exchanges_29 : decode cX12_exchanges 29 = .ok (.getfield 11, 3) := by decide +kernel
theorem dX12_exchanges_32 : decode cX12_exchanges 32 = .ok (.bipush 16, 2) := by decide +kernel
theorem dX12_exchanges_34 : decode cX12_exchanges 34 = .ok (.iload_n 2, 1) := by decide +kernel
theorem dX12_exchanges_35 : decode cX12_exchanges 35 = .ok (.iadd, 1) := by decide +kernel
theorem dX12_exchanges_36 : decode cX12_exchanges 36 = .ok (.iload_n 3, 1) := by decide +kernel
theorem dX12_exchanges_37 : decode cX12_exchanges 37 = .ok (.iastore, 1) := by decide +kernel
theorem dX12_exchanges_38 : decode cX12_exchanges 38 = .ok (.return_, 1) := by decide +kernel
theorem dX12_swap_0 : decode cX12_swap 0 = .ok (.iload_n 1, 1) := by decide +kernel
theorem dX12_swap_1 : decode cX12_swap 1 = .ok (.i2l, 1) := by decide +kernel
theorem dX12_swap_2 : decode cX12_swap 2 = .ok (.lconst 0, 1) := by decide +kernel
theorem dX12_swap_3 : decode cX12_swap 3 = .ok (.ldc2_w 95, 3) := by decide +kernel
theorem dX12_swap_6 : decode cX12_swap 6 = .ok (.invokestatic 83, 3) := by decide +kernel
theorem dX12_swap_9 : decode cX12_swap 9 = .ok (.ifCond .ne 6, 3) := by decide +kernel
theorem dX12_swap_12 : decode cX12_swap 12 = .ok (.bipush (-2), 2) := by decide +kernel
theorem dX12_swap_14 : decode cX12_swap 14 = .ok (.ireturn, 1) := by decide +kernel
theorem dX12_swap_15 : decode cX12_swap 15 = .ok (.iconst 0, 1) := by decide +kernel
theorem dX12_swap_16 : decode cX12_swap 16 = .ok (.istore_n 2, 1) := by decide +kernel
theorem dX12_swap_17 : decode cX12_swap 17 = .ok (.iload_n 2, 1) := by decide +kernel
theorem dX12_swap_18 : decode cX12_swap 18 = .ok (.aload_n 0, 1) := by decide +kernel
theorem dX12_swap_19 : decode cX12_swap 19 = .ok (.getfield 11, 3) := by decide +kernel
theorem dX12_swap_22 : decode cX12_swap 22 = .ok (.bipush 15, 2) := by decide +kernel
theorem dX12_swap_24 : decode cX12_swap 24 = .ok (.iaload, 1) := by decide +kernel
theorem dX12_swap_25 : decode cX12_swap 25 = .ok (.if_icmp .ge 116, 3) := by decide +kernel
theorem dX12_swap_28 : decode cX12_swap 28 = .ok (.iload_n 2, 1) := by decide +kernel
theorem dX12_swap_29 : decode cX12_swap 29 = .ok (.iconst 1, 1) := by decide +kernel
theorem dX12_swap_30 : decode cX12_swap 30 = .ok (.iadd, 1) := by decide +kernel
theorem dX12_swap_31 : decode cX12_swap 31 = .ok (.istore_n 3, 1) := by decide +kernel
theorem dX12_swap_32 : decode cX12_swap 32 = .ok (.iload_n 3, 1) := by decide +kernel
theorem dX12_swap_33 : decode cX12_swap 33 = .ok (.aload_n 0, 1) := by decide +kernel
theorem dX12_swap_34 : decode cX12_swap 34 = .ok (.getfield 11, 3) := by decide +kernel
theorem dX12_swap_37 : decode cX12_swap 37 = .ok (.bipush 15, 2) := by decide +kernel
theorem dX12_swap_39 : decode cX12_swap 39 = .ok (.iaload, 1) := by decide +kernel
theorem dX12_swap_40 : decode cX12_swap 40 = .ok (.if_icmp .ge 95, 3) := by decide +kernel
theorem dX12_swap_43 : decode cX12_swap 43 = .ok (.iload_n 1, 1) := by decide +kernel
theorem dX12_swap_44 : decode cX12_swap 44 = .ok (.ifCond .ne 26, 3) := by decide +kernel
theorem dX12_swap_47 : decode cX12_swap 47 = .ok (.iload_n 2, 1) := by decide +kernel
theorem dX12_swap_48 : decode cX12_swap 48 = .ok (.iload_n 3, 1) := by decide +kernel
theorem dX12_swap_49 : decode cX12_swap 49 = .ok (.iadd, 1) := by decide +kernel
theorem dX12_swap_50 : decode cX12_swap 50 = .ok (.aload_n 0, 1) := by decide +kernel
theorem dX12_swap_51 : decode cX12_swap 51 = .ok (.getfield 11, 3) := by decide +kernel
theorem dX12_swap_54 : decode cX12_swap 54 = .ok (.bipush 15, 2) := by decide +kernel
theorem dX12_swap_56 : decode cX12_swap 56 = .ok (.iaload, 1) := by decide +kernel
theorem dX12_swap_57 : decode cX12_swap 57 = .ok (.iconst 1, 1) := by decide +kernel
theorem dX12_swap_58 : decode cX12_swap 58 = .ok (.isub, 1) := by decide +kernel
theorem dX12_swap_59 : decode cX12_swap 59 = .ok (.if_icmp .ne 7, 3) := by decide +kernel
theorem dX12_swap_62 : decode cX12_swap 62 = .ok (.iconst 1, 1) := by decide +kernel
theorem dX12_swap_63 : decode cX12_swap 63 = .ok (.goto 53, 3) := by decide +kernel
theorem dX12_swap_66 : decode cX12_swap 66 = .ok (.iconst 0, 1) := by decide +kernel
theorem dX12_swap_67 : decode cX12_swap 67 = .ok (.goto 49, 3) := by decide +kernel
theorem dX12_swap_70 : decode cX12_swap 70 = .ok (.iload_n 1, 1) := by decide +kernel
theorem dX12_swap_71 : decode cX12_swap 71 = .ok (.iconst 1, 1) := by decide +kernel
theorem dX12_swap_72 : decode cX12_swap 72 = .ok (.if_icmp .ne 32, 3) := by decide +kernel
theorem dX12_swap_75 : decode cX12_swap 75 = .ok (.aload_n 0, 1) := by decide +kernel
theorem dX12_swap_76 : decode cX12_swap 76 = .ok (.getfield 11, 3) := by decide +kernel
theorem dX12_swap_79 : decode cX12_swap 79 = .ok (.bipush 16, 2) := by decide +kernel
theorem dX12_swap_81 : decode cX12_swap 81 = .ok (.iload_n 3, 1) := by decide +kernel
theorem dX12_swap_82 : decode cX12_swap 82 = .ok (.iadd, 1) := by decide +kernel
theorem dX12_swap_83 : decode cX12_swap 83 = .ok (.iaload, 1) := by decide +kernel
theorem dX12_swap_84 : decode cX12_swap 84 = .ok (.aload_n 0, 1) := by decide +kernel
theorem dX12_swap_85 : decode cX12_swap 85 = .ok (.getfield 11, 3) := by decide +kernel
theorem dX12_swap_88 : decode cX12_swap 88 = .ok (.bipush 16, 2) := by decide +kernel
theorem dX12_swap_90 : decode cX12_swap 90 = .ok (.iload_n 2, 1) := by decide +kernel
theorem dX12_swap_91 : decode cX12_swap 91 = .ok (.iadd, 1) := by decide +kernel
theorem dX12_swap_92 : decode cX12_swap 92 = .ok (.iaload, 1) := by decide +kernel
theorem dX12_swap_93 : decode cX12_swap 93 = .ok (.if_icmp .ge 7, 3) := by decide +kernel
theorem dX12_swap_96 : decode cX12_swap 96 = .ok (.iconst 1, 1) := by decide +kernel
theorem dX12_swap_97 : decode cX12_swap 97 = .ok (.goto 19, 3) := by decide +kernel
theorem dX12_swap_100 : decode cX12_swap 100 = .ok (.iconst 0, 1) := by decide +kernel
theorem dX12_swap_101 : decode cX12_swap 101 = .ok (.goto 15, 3) := by decide +kernel
theorem dX12_swap_104 : decode cX12_swap 104 = .ok (.iload_n 3, 1) := by decide +kernel
theorem dX12_swap_105 : decode cX12_swap 105 = .ok (.iload_n 2, 1) := by decide +kernel
theorem dX12_swap_106 : decode cX12_swap 106 = .ok (.iconst 1, 1) := by decide +kernel
theorem dX12_swap_107 : decode cX12_swap 107 = .ok (.iadd, 1) := by decide +kernel
theorem dX12_swap_108 : decode cX12_swap 108 = .ok (.if_icmp .ne 7, 3) := by decide +kernel
theorem dX12_swap_111 : decode cX12_swap 111 = .ok (.iconst 1, 1) := by decide +kernel
theorem dX12_swap_112 : decode cX12_swap 112 = .ok (.goto 4, 3) := by decide +kernel
theorem dX12_swap_115 : decode cX12_swap 115 = .ok (.iconst 0, 1) := by decide +kernel
theorem dX12_swap_116 : decode cX12_swap 116 = .ok (.istore 4, 2) := by decide +kernel
theorem dX12_swap_118 : decode cX12_swap 118 = .ok (.iload 4, 2) := by decide +kernel
theorem dX12_swap_120 : decode cX12_swap 120 = .ok (.ifCond .eq 9, 3) := by decide +kernel
theorem dX12_swap_123 : decode cX12_swap 123 = .ok (.aload_n 0, 1) := by decide +kernel
theorem dX12_swap_124 : decode cX12_swap 124 = .ok (.iload_n 2, 1) := by decide +kernel
theorem dX12_swap_125 : decode cX12_swap 125 = .ok (.iload_n 3, 1) := by decide +kernel
theorem dX12_swap_126 : decode cX12_swap 126 = .ok (.invokevirtual 300, 3) := by decide +kernel
theorem dX12_swap_129 : decode cX12_swap 129 = .ok (.iinc 3 1, 3) := by decide +kernel
theorem dX12_swap_132 : decode cX12_swap 132 = .ok (.goto (-100), 3) := by decide +kernel
theorem dX12_swap_135 : decode cX12_swap 135 = .ok (.iinc 2 1, 3) := by decide +kernel
theorem dX12_swap_138 : decode cX12_swap 138 = .ok (.goto (-121), 3) := by decide +kernel
theorem dX12_swap_141 : decode cX12_swap 141 = .ok (.aload_n 0, 1) := by decide +kernel
theorem dX12_swap_142 : decode cX12_swap 142 = .ok (.getfield 11, 3) := by decide +kernel
theorem dX12_swap_145 : decode cX12_swap 145 = .ok (.bipush 15, 2) := by decide +kernel
theorem dX12_swap_147 : decode cX12_swap 147 = .ok (.iaload, 1) := by decide +kernel
theorem dX12_swap_148 : decode cX12_swap 148 = .ok (.ireturn, 1) := by decide +kernel
theorem dX12_isTray_0 : decode cX12_isTray 0 = .ok (.iload_n 0, 1) := by decide +kernel
theorem dX12_isTray_1 : decode cX12_isTray 1 = .ok (.i2l, 1) := by decide +kernel
theorem dX12_isTray_2 : decode cX12_isTray 2 = .ok (.lconst 0, 1) := by decide +kernel
theorem dX12_isTray_3 : decode cX12_isTray 3 = .ok (.ldc2_w 105, 3) := by decide +kernel
theorem dX12_isTray_6 : decode cX12_isTray 6 = .ok (.invokestatic 83, 3) := by decide +kernel
theorem dX12_isTray_9 : decode cX12_isTray 9 = .ok (.ireturn, 1) := by decide +kernel
theorem dX12_tray_0 : decode cX12_tray 0 = .ok (.iload_n 1, 1) := by decide +kernel
theorem dX12_tray_1 : decode cX12_tray 1 = .ok (.invokestatic 303, 3) := by decide +kernel
theorem dX12_tray_4 : decode cX12_tray 4 = .ok (.ifCond .ne 5, 3) := by decide +kernel
theorem dX12_tray_7 : decode cX12_tray 7 = .ok (.iconst (-1), 1) := by decide +kernel
theorem dX12_tray_8 : decode cX12_tray 8 = .ok (.ireturn, 1) := by decide +kernel
theorem dX12_tray_9 : decode cX12_tray 9 = .ok (.iload_n 2, 1) := by decide +kernel
theorem dX12_tray_10 : decode cX12_tray 10 = .ok (.i2l, 1) := by decide +kernel
theorem dX12_tray_11 : decode cX12_tray 11 = .ok (.ldc2_w 306, 3) := by decide +kernel
theorem dX12_tray_14 : decode cX12_tray 14 = .ok (.lconst 1, 1) := by decide +kernel
theorem dX12_tray_15 : decode cX12_tray 15 = .ok (.invokestatic 83, 3) := by decide +kernel
theorem dX12_tray_18 : decode cX12_tray 18 = .ok (.ifCond .eq 13, 3) := by decide +kernel
theorem dX12_tray_21 : decode cX12_tray 21 = .ok (.iload_n 2, 1) := by decide +kernel
theorem dX12_tray_22 : decode cX12_tray 22 = .ok (.ifCond .lt 12, 3) := by decide +kernel
theorem dX12_tray_25 : decode cX12_tray 25 = .ok (.iload_n 3, 1) := by decide +kernel
theorem dX12_tray_26 : decode cX12_tray 26 = .ok (.bipush 30, 2) := by decide +kernel
theorem dX12_tray_28 : decode cX12_tray 28 = .ok (.if_icmp .le 6, 3) := by decide +kernel
theorem dX12_tray_31 : decode cX12_tray 31 = .ok (.bipush (-2), 2) := by decide +kernel
theorem dX12_tray_33 : decode cX12_tray 33 = .ok (.ireturn, 1) := by decide +kernel
theorem dX12_tray_34 : decode cX12_tray 34 = .ok (.iload_n 2, 1) := by decide +kernel
theorem dX12_tray_35 : decode cX12_tray 35 = .ok (.ifCond .lt 10, 3) := by decide +kernel
theorem dX12_tray_38 : decode cX12_tray 38 = .ok (.iload_n 3, 1) := by decide +kernel
theorem dX12_tray_39 : decode cX12_tray 39 = .ok (.ifCond .ge 6, 3) := by decide +kernel
theorem dX12_tray_42 : decode cX12_tray 42 = .ok (.bipush (-14), 2) := by decide +kernel
theorem dX12_tray_44 : decode cX12_tray 44 = .ok (.ireturn, 1) := by decide +kernel
theorem dX12_tray_45 : decode cX12_tray 45 = .ok (.aload_n 0, 1) := by decide +kernel
theorem dX12_tray_46 : decode cX12_tray 46 = .ok (.getfield 55, 3) := by decide +kernel
theorem dX12_tray_49 : decode cX12_tray 49 = .ok (.iload_n 1, 1) := by decide +kernel
theorem dX12_tray_50 : decode cX12_tray 50 = .ok (.iload_n 2, 1) := by decide +kernel
theorem dX12_tray_51 : decode cX12_tray 51 = .ok (.iastore, 1) := by decide +kernel
theorem dX12_tray_52 : decode cX12_tray 52 = .ok (.aload_n 0, 1) := by decide +kernel
theorem dX12_tray_53 : decode cX12_tray 53 = .ok (.getfield 58, 3) := by decide +kernel
theorem dX12_tray_56 : decode cX12_tray 56 = .ok (.iload_n 1, 1) := by decide +kernel
theorem dX12_tray_57 : decode cX12_tray 57 = .ok (.iload_n 2, 1) := by decide +kernel
theorem dX12_tray_58 : decode cX12_tray 58 = .ok (.ifCond .ge 7, 3) := by decide +kernel
theorem dX12_tray_61 : decode cX12_tray 61 = .ok (.iconst 0, 1) := by decide +kernel
theorem dX12_tray_62 : decode cX12_tray 62 = .ok (.goto 4, 3) := by decide +kernel
theorem dX12_tray_65 : decode cX12_tray 65 = .ok (.iload_n 3, 1) := by decide +kernel
theorem dX12_tray_66 : decode cX12_tray 66 = .ok (.iastore, 1) := by decide +kernel
theorem dX12_tray_67 : decode cX12_tray 67 = .ok (.iconst 0, 1) := by decide +kernel
theorem dX12_tray_68 : decode cX12_tray 68 = .ok (.istore 4, 2) := by decide +kernel
theorem dX12_tray_70 : decode cX12_tray 70 = .ok (.iload 4, 2) := by decide +kernel
theorem dX12_tray_72 : decode cX12_tray 72 = .ok (.bipush 30, 2) := by decide +kernel
theorem dX12_tray_74 : decode cX12_tray 74 = .ok (.if_icmp .ge 22, 3) := by decide +kernel
theorem dX12_tray_77 : decode cX12_tray 77 = .ok (.aload_n 0, 1) := by decide +kernel
theorem dX12_tray_78 : decode cX12_tray 78 = .ok (.getfield 61, 3) := by decide +kernel
theorem dX12_tray_81 : decode cX12_tray 81 = .ok (.bipush 30, 2) := by decide +kernel
theorem dX12_tray_83 : decode cX12_tray 83 = .ok (.iload_n 1, 1) := by decide +kernel
theorem dX12_tray_84 : decode cX12_tray 84 = .ok (.imul, 1) := by decide +kernel
theorem dX12_tray_85 : decode cX12_tray 85 = .ok (.iload 4, 2) := by decide +kernel
theorem dX12_tray_87 : decode cX12_tray 87 = .ok (.iadd, 1) := by decide +kernel
theorem dX12_tray_88 : decode cX12_tray 88 = .ok (.lconst 0, 1) := by decide +kernel
theorem dX12_tray_89 : decode cX12_tray 89 = .ok (.lastore, 1) := by decide +kernel
theorem dX12_tray_90 : decode cX12_tray 90 = .ok (.iinc 4 1, 3) := by decide +kernel
theorem dX12_tray_93 : decode cX12_tray 93 = .ok (.goto (-23), 3) := by decide +kernel
theorem dX12_tray_96 : decode cX12_tray 96 = .ok (.iconst 1, 1) := by decide +kernel
theorem dX12_tray_97 : decode cX12_tray 97 = .ok (.ireturn, 1) := by decide +kernel
theorem dX12_lays_0 : decode cX12_lays 0 = .ok (.aload_n 0, 1) := by decide +kernel
theorem dX12_lays_1 : decode cX12_lays 1 = .ok (.getfield 61, 3) := by decide +kernel
theorem dX12_lays_4 : decode cX12_lays 4 = .ok (.bipush 30, 2) := by decide +kernel
theorem dX12_lays_6 : decode cX12_lays 6 = .ok (.iload_n 1, 1) := by decide +kernel
theorem dX12_lays_7 : decode cX12_lays 7 = .ok (.imul, 1) := by decide +kernel
theorem dX12_lays_8 : decode cX12_lays 8 = .ok (.iload_n 2, 1) := by decide +kernel
theorem dX12_lays_9 : decode cX12_lays 9 = .ok (.iadd, 1) := by decide +kernel
theorem dX12_lays_10 : decode cX12_lays 10 = .ok (.aload_n 0, 1) := by decide +kernel
theorem dX12_lays_11 : decode cX12_lays 11 = .ok (.getfield 55, 3) := by decide +kernel
theorem dX12_lays_14 : decode cX12_lays 14 = .ok (.iload_n 1, 1) := by decide +kernel
theorem dX12_lays_15 : decode cX12_lays 15 = .ok (.iaload, 1) := by decide +kernel
theorem dX12_lays_16 : decode cX12_lays 16 = .ok (.iconst 1, 1) := by decide +kernel
theorem dX12_lays_17 : decode cX12_lays 17 = .ok (.if_icmp .ne 9, 3) := by decide +kernel
theorem dX12_lays_20 : decode cX12_lays 20 = .ok (.lload_n 3, 1) := by decide +kernel
theorem dX12_lays_21 : decode cX12_lays 21 = .ok (.l2i, 1) := by decide +kernel
theorem dX12_lays_22 : decode cX12_lays 22 = .ok (.i2l, 1) := by decide +kernel
theorem dX12_lays_23 : decode cX12_lays 23 = .ok (.goto 4, 3) := by decide +kernel
theorem dX12_lays_26 : decode cX12_lays 26 = .ok (.lload_n 3, 1) := by decide +kernel
theorem dX12_lays_27 : decode cX12_lays 27 = .ok (.lastore, 1) := by decide +kernel
theorem dX12_lays_28 : decode cX12_lays 28 = .ok (.return_, 1) := by decide +kernel
theorem dX12_put_0 : decode cX12_put 0 = .ok (.iload_n 1, 1) := by decide +kernel
theorem dX12_put_1 : decode cX12_put 1 = .ok (.invokestatic 303, 3) := by decide +kernel
theorem dX12_put_4 : decode cX12_put 4 = .ok (.ifCond .ne 5, 3) := by decide +kernel
theorem dX12_put_7 : decode cX12_put 7 = .ok (.iconst (-1), 1) := by decide +kernel
theorem dX12_put_8 : decode cX12_put 8 = .ok (.ireturn, 1) := by decide +kernel
theorem dX12_put_9 : decode cX12_put 9 = .ok (.aload_n 0, 1) := by decide +kernel
theorem dX12_put_10 : decode cX12_put 10 = .ok (.getfield 55, 3) := by decide +kernel
theorem dX12_put_13 : decode cX12_put 13 = .ok (.iload_n 1, 1) := by decide +kernel
theorem dX12_put_14 : decode cX12_put 14 = .ok (.iaload, 1) := by decide +kernel
theorem dX12_put_15 : decode cX12_put 15 = .ok (.ifCond .ge 6, 3) := by decide +kernel
theorem dX12_put_18 : decode cX12_put 18 = .ok (.bipush (-11), 2) := by decide +kernel
theorem dX12_put_20 : decode cX12_put 20 = .ok (.ireturn, 1) := by decide +kernel
theorem dX12_put_21 : decode cX12_put 21 = .ok (.iload_n 2, 1) := by decide +kernel
theorem dX12_put_22 : decode cX12_put 22 = .ok (.i2l, 1) := by decide +kernel
theorem dX12_put_23 : decode cX12_put 23 = .ok (.lconst 0, 1) := by decide +kernel
theorem dX12_put_24 : decode cX12_put 24 = .ok (.aload_n 0, 1) := by decide +kernel
theorem dX12_put_25 : decode cX12_put 25 = .ok (.getfield 58, 3) := by decide +kernel
theorem dX12_put_28 : decode cX12_put 28 = .ok (.iload_n 1, 1) := by decide +kernel
theorem dX12_put_29 : decode cX12_put 29 = .ok (.iaload, 1) := by decide +kernel
theorem dX12_put_30 : decode cX12_put 30 = .ok (.iconst 1, 1) := by decide +kernel
theorem dX12_put_31 : decode cX12_put 31 = .ok (.isub, 1) := by decide +kernel
theorem dX12_put_32 : decode cX12_put 32 = .ok (.i2l, 1) := by decide +kernel
theorem dX12_put_33 : decode cX12_put 33 = .ok (.invokestatic 83, 3) := by decide +kernel
theorem dX12_put_36 : decode cX12_put 36 = .ok (.ifCond .ne 6, 3) := by decide +kernel
theorem dX12_put_39 : decode cX12_put 39 = .ok (.bipush (-13), 2) := by decide +kernel
theorem dX12_put_41 : decode cX12_put 41 = .ok (.ireturn, 1) := by decide +kernel
theorem dX12_put_42 : decode cX12_put 42 = .ok (.aload_n 0, 1) := by decide +kernel
theorem dX12_put_43 : decode cX12_put 43 = .ok (.iload_n 1, 1) := by decide +kernel
theorem dX12_put_44 : decode cX12_put 44 = .ok (.iload_n 2, 1) := by decide +kernel
theorem dX12_put_45 : decode cX12_put 45 = .ok (.lload_n 3, 1) := by decide +kernel
theorem dX12_put_46 : decode cX12_put 46 = .ok (.invokevirtual 308, 3) := by decide +kernel
theorem dX12_put_49 : decode cX12_put 49 = .ok (.iconst 1, 1) := by decide +kernel
theorem dX12_put_50 : decode cX12_put 50 = .ok (.ireturn, 1) := by decide +kernel
theorem dX12_get_0 : decode cX12_get 0 = .ok (.iload_n 1, 1) := by decide +kernel
theorem dX12_get_1 : decode cX12_get 1 = .ok (.invokestatic 303, 3) := by decide +kernel
theorem dX12_get_4 : decode cX12_get 4 = .ok (.ifCond .eq 35, 3) := by decide +kernel
theorem dX12_get_7 : decode cX12_get 7 = .ok (.iload_n 2, 1) := by decide +kernel
theorem dX12_get_8 : decode cX12_get 8 = .ok (.i2l, 1) := by decide +kernel
theorem dX12_get_9 : decode cX12_get 9 = .ok (.lconst 0, 1) := by decide +kernel
theorem dX12_get_10 : decode cX12_get 10 = .ok (.aload_n 0, 1) := by decide +kernel
theorem dX12_get_11 : decode cX12_get 11 = .ok (.getfield 58, 3) := by decide +kernel
theorem dX12_get_14 : decode cX12_get 14 = .ok (.iload_n 1, 1) := by decide +kernel
theorem dX12_get_15 : decode cX12_get 15 = .ok (.iaload, 1) := by decide +kernel
theorem dX12_get_16 : decode cX12_get 16 = .ok (.iconst 1, 1) := by decide +kernel
theorem dX12_get_17 : decode cX12_get 17 = .ok (.isub, 1) := by decide +kernel
theorem dX12_get_18 : decode cX12_get 18 = .ok (.i2l, 1) := by decide +kernel
theorem dX12_get_19 : decode cX12_get 19 = .ok (.invokestatic 83, 3) := by decide +kernel
theorem dX12_get_22 : decode cX12_get 22 = .ok (.ifCond .eq 17, 3) := by decide +kernel
theorem dX12_get_25 : decode cX12_get 25 = .ok (.aload_n 0, 1) := by decide +kernel
theorem dX12_get_26 : decode cX12_get 26 = .ok (.getfield 61, 3) := by decide +kernel
theorem dX12_get_29 : decode cX12_get 29 = .ok (.bipush 30, 2) := by decide +kernel
theorem dX12_get_31 : decode cX12_get 31 = .ok (.iload_n 1, 1) := by decide +kernel
theorem dX12_get_32 : decode cX12_get 32 = .ok (.imul, 1) := by decide +kernel
theorem dX12_get_33 : decode cX12_get 33 = .ok (.iload_n 2, 1) := by decide +kernel
theorem dX12_get_34 : decode cX12_get 34 = .ok (.iadd, 1) := by decide +kernel
theorem dX12_get_35 : decode cX12_get 35 = .ok (.laload, 1) := by decide +kernel
theorem dX12_get_36 : decode cX12_get 36 = .ok (.goto 6, 3) := by decide +kernel
theorem dX12_get_39 : decode cX12_get 39 = .ok (.ldc2_w 67, 3) := by decide +kernel
theorem dX12_get_42 : decode cX12_get 42 = .ok (.lreturn, 1) := by decide +kernel
theorem dX12_wrongRow_0 : decode cX12_wrongRow 0 = .ok (.iload_n 1, 1) := by decide +kernel
theorem dX12_wrongRow_1 : decode cX12_wrongRow 1 = .ok (.invokestatic 303, 3) := by decide +kernel
theorem dX12_wrongRow_4 : decode cX12_wrongRow 4 = .ok (.ifCond .ne 5, 3) := by decide +kernel
theorem dX12_wrongRow_7 : decode cX12_wrongRow 7 = .ok (.iconst (-1), 1) := by decide +kernel
theorem dX12_wrongRow_8 : decode cX12_wrongRow 8 = .ok (.ireturn, 1) := by decide +kernel
theorem dX12_wrongRow_9 : decode cX12_wrongRow 9 = .ok (.iload_n 2, 1) := by decide +kernel
theorem dX12_wrongRow_10 : decode cX12_wrongRow 10 = .ok (.invokestatic 130, 3) := by decide +kernel
theorem dX12_wrongRow_13 : decode cX12_wrongRow 13 = .ok (.ifCond .ne 6, 3) := by decide +kernel
theorem dX12_wrongRow_16 : decode cX12_wrongRow 16 = .ok (.bipush (-2), 2) := by decide +kernel
theorem dX12_wrongRow_18 : decode cX12_wrongRow 18 = .ok (.ireturn, 1) := by decide +kernel
theorem dX12_wrongRow_19 : decode cX12_wrongRow 19 = .ok (.aload_n 0, 1) := by decide +kernel
theorem dX12_wrongRow_20 : decode cX12_wrongRow 20 = .ok (.getfield 55, 3) := by decide +kernel
theorem dX12_wrongRow_23 : decode cX12_wrongRow 23 = .ok (.iload_n 1, 1) := by decide +kernel
theorem dX12_wrongRow_24 : decode cX12_wrongRow 24 = .ok (.iaload, 1) := by decide +kernel
theorem dX12_wrongRow_25 : decode cX12_wrongRow 25 = .ok (.ifCond .ge 6, 3) := by decide +kernel
theorem dX12_wrongRow_28 : decode cX12_wrongRow 28 = .ok (.bipush (-11), 2) := by decide +kernel
theorem dX12_wrongRow_30 : decode cX12_wrongRow 30 = .ok (.ireturn, 1) := by decide +kernel
theorem dX12_wrongRow_31 : decode cX12_wrongRow 31 = .ok (.aload_n 0, 1) := by decide +kernel
theorem dX12_wrongRow_32 : decode cX12_wrongRow 32 = .ok (.iload_n 2, 1) := by decide +kernel
theorem dX12_wrongRow_33 : decode cX12_wrongRow 33 = .ok (.invokevirtual 173, 3) := by decide +kernel
theorem dX12_wrongRow_36 : decode cX12_wrongRow 36 = .ok (.aload_n 0, 1) := by decide +kernel
theorem dX12_wrongRow_37 : decode cX12_wrongRow 37 = .ok (.iload_n 3, 1) := by decide +kernel
theorem dX12_wrongRow_38 : decode cX12_wrongRow 38 = .ok (.invokevirtual 176, 3) := by decide +kernel
theorem dX12_wrongRow_41 : decode cX12_wrongRow 41 = .ok (.ifCond .ne 7, 3) := by decide +kernel
theorem dX12_wrongRow_44 : decode cX12_wrongRow 44 = .ok (.iconst (-1), 1) := by decide +kernel
theorem dX12_wrongRow_45 : decode cX12_wrongRow 45 = .ok (.goto 16, 3) := by decide +kernel
theorem dX12_wrongRow_48 : decode cX12_wrongRow 48 = .ok (.aload_n 0, 1) := by decide +kernel
theorem dX12_wrongRow_49 : decode cX12_wrongRow 49 = .ok (.getfield 69, 3) := by decide +kernel
theorem dX12_wrongRow_52 : decode cX12_wrongRow 52 = .ok (.ifCond .eq 8, 3) := by decide +kernel
theorem dX12_wrongRow_55 : decode cX12_wrongRow 55 = .ok (.bipush (-7), 2) := by decide +kernel
theorem dX12_wrongRow_57 : decode cX12_wrongRow 57 = .ok (.goto 4, 3) := by decide +kernel
theorem dX12_wrongRow_60 : decode cX12_wrongRow 60 = .ok (.iconst 0, 1) := by decide +kernel
theorem dX12_wrongRow_61 : decode cX12_wrongRow 61 = .ok (.ireturn, 1) := by decide +kernel
theorem dX12_fill_0 : decode cX12_fill 0 = .ok (.aload_n 0, 1) := by decide +kernel
theorem dX12_fill_1 : decode cX12_fill 1 = .ok (.iload_n 1, 1) := by decide +kernel
theorem dX12_fill_2 : decode cX12_fill 2 = .ok (.iload_n 2, 1) := by decide +kernel
theorem dX12_fill_3 : decode cX12_fill 3 = .ok (.iload_n 3, 1) := by decide +kernel
theorem dX12_fill_4 : decode cX12_fill 4 = .ok (.invokevirtual 312, 3) := by decide +kernel
theorem dX12_fill_7 : decode cX12_fill 7 = .ok (.istore 4, 2) := by decide +kernel
theorem dX12_fill_9 : decode cX12_fill 9 = .ok (.iload 4, 2) := by decide +kernel
theorem dX12_fill_11 : decode cX12_fill 11 = .ok (.ifCond .ge 6, 3) := by decide +kernel
theorem dX12_fill_14 : decode cX12_fill 14 = .ok (.iload 4, 2) := by decide +kernel
theorem dX12_fill_16 : decode cX12_fill 16 = .ok (.ireturn, 1) := by decide +kernel
theorem dX12_fill_17 : decode cX12_fill 17 = .ok (.aload_n 0, 1) := by decide +kernel
theorem dX12_fill_18 : decode cX12_fill 18 = .ok (.iload_n 3, 1) := by decide +kernel
theorem dX12_fill_19 : decode cX12_fill 19 = .ok (.invokevirtual 136, 3) := by decide +kernel
theorem dX12_fill_22 : decode cX12_fill 22 = .ok (.aload_n 0, 1) := by decide +kernel
theorem dX12_fill_23 : decode cX12_fill 23 = .ok (.getfield 58, 3) := by decide +kernel
theorem dX12_fill_26 : decode cX12_fill 26 = .ok (.iload_n 1, 1) := by decide +kernel
theorem dX12_fill_27 : decode cX12_fill 27 = .ok (.iaload, 1) := by decide +kernel
theorem dX12_fill_28 : decode cX12_fill 28 = .ok (.if_icmp .ge 11, 3) := by decide +kernel
theorem dX12_fill_31 : decode cX12_fill 31 = .ok (.aload_n 0, 1) := by decide +kernel
theorem dX12_fill_32 : decode cX12_fill 32 = .ok (.iload_n 3, 1) := by decide +kernel
theorem dX12_fill_33 : decode cX12_fill 33 = .ok (.invokevirtual 136, 3) := by decide +kernel
theorem dX12_fill_36 : decode cX12_fill 36 = .ok (.goto 9, 3) := by decide +kernel
theorem dX12_fill_39 : decode cX12_fill 39 = .ok (.aload_n 0, 1) := by decide +kernel
theorem dX12_fill_40 : decode cX12_fill 40 = .ok (.getfield 58, 3) := by decide +kernel
theorem dX12_fill_43 : decode cX12_fill 43 = .ok (.iload_n 1, 1) := by decide +kernel
theorem dX12_fill_44 : decode cX12_fill 44 = .ok (.iaload, 1) := by decide +kernel
theorem dX12_fill_45 : decode cX12_fill 45 = .ok (.istore 5, 2) := by decide +kernel
end
section
theorem dX12_fill_47 : decode cX12_fill 47 = .ok (.iconst 0, 1) := by decide +kernel
theorem dX12_fill_48 : decode cX12_fill 48 = .ok (.istore 6, 2) := by decide +kernel
theorem dX12_fill_50 : decode cX12_fill 50 = .ok (.iload 6, 2) := by decide +kernel
theorem dX12_fill_52 : decode cX12_fill 52 = .ok (.iload 5, 2) := by decide +kernel
theorem dX12_fill_54 : decode cX12_fill 54 = .ok (.if_icmp .ge 23, 3) := by decide +kernel
theorem dX12_fill_57 : decode cX12_fill 57 = .ok (.aload_n 0, 1) := by decide +kernel
theorem dX12_fill_58 : decode cX12_fill 58 = .ok (.iload_n 1, 1) := by decide +kernel
theorem dX12_fill_59 : decode cX12_fill 59 = .ok (.iload 6, 2) := by decide +kernel
theorem dX12_fill_61 : decode cX12_fill 61 = .ok (.aload_n 0, 1) := by decide +kernel
theorem dX12_fill_62 : decode cX12_fill 62 = .ok (.iload_n 3, 1) := by decide +kernel
theorem dX12_fill_63 : decode cX12_fill 63 = .ok (.iload 6, 2) := by decide +kernel
theorem dX12_fill_65 : decode cX12_fill 65 = .ok (.invokevirtual 140, 3) := by decide +kernel
theorem dX12_fill_68 : decode cX12_fill 68 = .ok (.invokevirtual 308, 3) := by decide +kernel
theorem dX12_fill_71 : decode cX12_fill 71 = .ok (.iinc 6 1, 3) := by decide +kernel
theorem dX12_fill_74 : decode cX12_fill 74 = .ok (.goto (-24), 3) := by decide +kernel
theorem dX12_fill_77 : decode cX12_fill 77 = .ok (.iload 5, 2) := by decide +kernel
theorem dX12_fill_79 : decode cX12_fill 79 = .ok (.ireturn, 1) := by decide +kernel
theorem dX12_judge_0 : decode cX12_judge 0 = .ok (.aload_n 0, 1) := by decide +kernel
theorem dX12_judge_1 : decode cX12_judge 1 = .ok (.iload_n 1, 1) := by decide +kernel
theorem dX12_judge_2 : decode cX12_judge 2 = .ok (.iload_n 2, 1) := by decide +kernel
theorem dX12_judge_3 : decode cX12_judge 3 = .ok (.iload_n 3, 1) := by decide +kernel
theorem dX12_judge_4 : decode cX12_judge 4 = .ok (.invokevirtual 312, 3) := by decide +kernel
theorem dX12_judge_7 : decode cX12_judge 7 = .ok (.istore 4, 2) := by decide +kernel
theorem dX12_judge_9 : decode cX12_judge 9 = .ok (.iload 4, 2) := by decide +kernel
theorem dX12_judge_11 : decode cX12_judge 11 = .ok (.ifCond .ge 6, 3) := by decide +kernel
theorem dX12_judge_14 : decode cX12_judge 14 = .ok (.iload 4, 2) := by decide +kernel
theorem dX12_judge_16 : decode cX12_judge 16 = .ok (.ireturn, 1) := by decide +kernel
theorem dX12_judge_17 : decode cX12_judge 17 = .ok (.iconst 0, 1) := by decide +kernel
theorem dX12_judge_18 : decode cX12_judge 18 = .ok (.istore 5, 2) := by decide +kernel
theorem dX12_judge_20 : decode cX12_judge 20 = .ok (.iload 5, 2) := by decide +kernel
theorem dX12_judge_22 : decode cX12_judge 22 = .ok (.aload_n 0, 1) := by decide +kernel
theorem dX12_judge_23 : decode cX12_judge 23 = .ok (.getfield 58, 3) := by decide +kernel
theorem dX12_judge_26 : decode cX12_judge 26 = .ok (.iload_n 1, 1) := by decide +kernel
theorem dX12_judge_27 : decode cX12_judge 27 = .ok (.iaload, 1) := by decide +kernel
theorem dX12_judge_28 : decode cX12_judge 28 = .ok (.if_icmp .ge 45, 3) := by decide +kernel
theorem dX12_judge_31 : decode cX12_judge 31 = .ok (.iload 5, 2) := by decide +kernel
theorem dX12_judge_33 : decode cX12_judge 33 = .ok (.aload_n 0, 1) := by decide +kernel
theorem dX12_judge_34 : decode cX12_judge 34 = .ok (.iload_n 3, 1) := by decide +kernel
theorem dX12_judge_35 : decode cX12_judge 35 = .ok (.invokevirtual 136, 3) := by decide +kernel
theorem dX12_judge_38 : decode cX12_judge 38 = .ok (.if_icmp .ge 26, 3) := by decide +kernel
theorem dX12_judge_41 : decode cX12_judge 41 = .ok (.aload_n 0, 1) := by decide +kernel
theorem dX12_judge_42 : decode cX12_judge 42 = .ok (.getfield 61, 3) := by decide +kernel
theorem dX12_judge_45 : decode cX12_judge 45 = .ok (.bipush 30, 2) := by decide +kernel
theorem dX12_judge_47 : decode cX12_judge 47 = .ok (.iload_n 1, 1) := by decide +kernel
theorem dX12_judge_48 : decode cX12_judge 48 = .ok (.imul, 1) := by decide +kernel
theorem dX12_judge_49 : decode cX12_judge 49 = .ok (.iload 5, 2) := by decide +kernel
theorem dX12_judge_51 : decode cX12_judge 51 = .ok (.iadd, 1) := by decide +kernel
theorem dX12_judge_52 : decode cX12_judge 52 = .ok (.laload, 1) := by decide +kernel
theorem dX12_judge_53 : decode cX12_judge 53 = .ok (.aload_n 0, 1) := by decide +kernel
theorem dX12_judge_54 : decode cX12_judge 54 = .ok (.iload_n 3, 1) := by decide +kernel
theorem dX12_judge_55 : decode cX12_judge 55 = .ok (.iload 5, 2) := by decide +kernel
theorem dX12_judge_57 : decode cX12_judge 57 = .ok (.invokevirtual 140, 3) := by decide +kernel
theorem dX12_judge_60 : decode cX12_judge 60 = .ok (.lcmp, 1) := by decide +kernel
theorem dX12_judge_61 : decode cX12_judge 61 = .ok (.ifCond .eq 6, 3) := by decide +kernel
theorem dX12_judge_64 : decode cX12_judge 64 = .ok (.iload 5, 2) := by decide +kernel
theorem dX12_judge_66 : decode cX12_judge 66 = .ok (.ireturn, 1) := by decide +kernel
theorem dX12_judge_67 : decode cX12_judge 67 = .ok (.iinc 5 1, 3) := by decide +kernel
theorem dX12_judge_70 : decode cX12_judge 70 = .ok (.goto (-50), 3) := by decide +kernel
theorem dX12_judge_73 : decode cX12_judge 73 = .ok (.iconst (-1), 1) := by decide +kernel
theorem dX12_judge_74 : decode cX12_judge 74 = .ok (.ireturn, 1) := by decide +kernel
theorem dX12_copy_0 : decode cX12_copy 0 = .ok (.iload_n 1, 1) := by decide +kernel
theorem dX12_copy_1 : decode cX12_copy 1 = .ok (.invokestatic 303, 3) := by decide +kernel
theorem dX12_copy_4 : decode cX12_copy 4 = .ok (.ifCond .eq 10, 3) := by decide +kernel
theorem dX12_copy_7 : decode cX12_copy 7 = .ok (.iload_n 3, 1) := by decide +kernel
theorem dX12_copy_8 : decode cX12_copy 8 = .ok (.invokestatic 303, 3) := by decide +kernel
theorem dX12_copy_11 : decode cX12_copy 11 = .ok (.ifCond .ne 5, 3) := by decide +kernel
theorem dX12_copy_14 : decode cX12_copy 14 = .ok (.iconst (-1), 1) := by decide +kernel
theorem dX12_copy_15 : decode cX12_copy 15 = .ok (.ireturn, 1) := by decide +kernel
theorem dX12_copy_16 : decode cX12_copy 16 = .ok (.aload_n 0, 1) := by decide +kernel
theorem dX12_copy_17 : decode cX12_copy 17 = .ok (.getfield 55, 3) := by decide +kernel
theorem dX12_copy_20 : decode cX12_copy 20 = .ok (.iload_n 1, 1) := by decide +kernel
theorem dX12_copy_21 : decode cX12_copy 21 = .ok (.iaload, 1) := by decide +kernel
theorem dX12_copy_22 : decode cX12_copy 22 = .ok (.ifCond .lt 12, 3) := by decide +kernel
theorem dX12_copy_25 : decode cX12_copy 25 = .ok (.aload_n 0, 1) := by decide +kernel
theorem dX12_copy_26 : decode cX12_copy 26 = .ok (.getfield 55, 3) := by decide +kernel
theorem dX12_copy_29 : decode cX12_copy 29 = .ok (.iload_n 3, 1) := by decide +kernel
theorem dX12_copy_30 : decode cX12_copy 30 = .ok (.iaload, 1) := by decide +kernel
theorem dX12_copy_31 : decode cX12_copy 31 = .ok (.ifCond .ge 6, 3) := by decide +kernel
theorem dX12_copy_34 : decode cX12_copy 34 = .ok (.bipush (-11), 2) := by decide +kernel
theorem dX12_copy_36 : decode cX12_copy 36 = .ok (.ireturn, 1) := by decide +kernel
theorem dX12_copy_37 : decode cX12_copy 37 = .ok (.aload_n 0, 1) := by decide +kernel
theorem dX12_copy_38 : decode cX12_copy 38 = .ok (.getfield 55, 3) := by decide +kernel
theorem dX12_copy_41 : decode cX12_copy 41 = .ok (.iload_n 1, 1) := by decide +kernel
theorem dX12_copy_42 : decode cX12_copy 42 = .ok (.iaload, 1) := by decide +kernel
theorem dX12_copy_43 : decode cX12_copy 43 = .ok (.aload_n 0, 1) := by decide +kernel
theorem dX12_copy_44 : decode cX12_copy 44 = .ok (.getfield 55, 3) := by decide +kernel
theorem dX12_copy_47 : decode cX12_copy 47 = .ok (.iload_n 3, 1) := by decide +kernel
theorem dX12_copy_48 : decode cX12_copy 48 = .ok (.iaload, 1) := by decide +kernel
theorem dX12_copy_49 : decode cX12_copy 49 = .ok (.if_icmp .eq 6, 3) := by decide +kernel
theorem dX12_copy_52 : decode cX12_copy 52 = .ok (.bipush (-12), 2) := by decide +kernel
theorem dX12_copy_54 : decode cX12_copy 54 = .ok (.ireturn, 1) := by decide +kernel
theorem dX12_copy_55 : decode cX12_copy 55 = .ok (.iload 5, 2) := by decide +kernel
theorem dX12_copy_57 : decode cX12_copy 57 = .ok (.ifCond .lt 39, 3) := by decide +kernel
theorem dX12_copy_60 : decode cX12_copy 60 = .ok (.iload_n 2, 1) := by decide +kernel
theorem dX12_copy_61 : decode cX12_copy 61 = .ok (.ifCond .lt 35, 3) := by decide +kernel
theorem dX12_copy_64 : decode cX12_copy 64 = .ok (.iload 4, 2) := by decide +kernel
theorem dX12_copy_66 : decode cX12_copy 66 = .ok (.ifCond .lt 30, 3) := by decide +kernel
theorem dX12_copy_69 : decode cX12_copy 69 = .ok (.iload_n 2, 1) := by decide +kernel
theorem dX12_copy_70 : decode cX12_copy 70 = .ok (.aload_n 0, 1) := by decide +kernel
theorem dX12_copy_71 : decode cX12_copy 71 = .ok (.getfield 58, 3) := by decide +kernel
theorem dX12_copy_74 : decode cX12_copy 74 = .ok (.iload_n 1, 1) := by decide +kernel
theorem dX12_copy_75 : decode cX12_copy 75 = .ok (.iaload, 1) := by decide +kernel
theorem dX12_copy_76 : decode cX12_copy 76 = .ok (.iload 5, 2) := by decide +kernel
theorem dX12_copy_78 : decode cX12_copy 78 = .ok (.isub, 1) := by decide +kernel
theorem dX12_copy_79 : decode cX12_copy 79 = .ok (.if_icmp .gt 17, 3) := by decide +kernel
theorem dX12_copy_82 : decode cX12_copy 82 = .ok (.iload 4, 2) := by decide +kernel
theorem dX12_copy_84 : decode cX12_copy 84 = .ok (.aload_n 0, 1) := by decide +kernel
theorem dX12_copy_85 : decode cX12_copy 85 = .ok (.getfield 58, 3) := by decide +kernel
theorem dX12_copy_88 : decode cX12_copy 88 = .ok (.iload_n 3, 1) := by decide +kernel
theorem dX12_copy_89 : decode cX12_copy 89 = .ok (.iaload, 1) := by decide +kernel
theorem dX12_copy_90 : decode cX12_copy 90 = .ok (.iload 5, 2) := by decide +kernel
theorem dX12_copy_92 : decode cX12_copy 92 = .ok (.isub, 1) := by decide +kernel
theorem dX12_copy_93 : decode cX12_copy 93 = .ok (.if_icmp .le 6, 3) := by decide +kernel
theorem dX12_copy_96 : decode cX12_copy 96 = .ok (.bipush (-13), 2) := by decide +kernel
theorem dX12_copy_98 : decode cX12_copy 98 = .ok (.ireturn, 1) := by decide +kernel
theorem dX12_copy_99 : decode cX12_copy 99 = .ok (.iconst 0, 1) := by decide +kernel
theorem dX12_copy_100 : decode cX12_copy 100 = .ok (.istore 6, 2) := by decide +kernel
theorem dX12_copy_102 : decode cX12_copy 102 = .ok (.iload 6, 2) := by decide +kernel
theorem dX12_copy_104 : decode cX12_copy 104 = .ok (.iload 5, 2) := by decide +kernel
theorem dX12_copy_106 : decode cX12_copy 106 = .ok (.if_icmp .ge 30, 3) := by decide +kernel
theorem dX12_copy_109 : decode cX12_copy 109 = .ok (.aload_n 0, 1) := by decide +kernel
theorem dX12_copy_110 : decode cX12_copy 110 = .ok (.getfield 64, 3) := by decide +kernel
theorem dX12_copy_113 : decode cX12_copy 113 = .ok (.iload 6, 2) := by decide +kernel
theorem dX12_copy_115 : decode cX12_copy 115 = .ok (.aload_n 0, 1) := by decide +kernel
theorem dX12_copy_116 : decode cX12_copy 116 = .ok (.getfield 61, 3) := by decide +kernel
theorem dX12_copy_119 : decode cX12_copy 119 = .ok (.bipush 30, 2) := by decide +kernel
theorem dX12_copy_121 : decode cX12_copy 121 = .ok (.iload_n 1, 1) := by decide +kernel
theorem dX12_copy_122 : decode cX12_copy 122 = .ok (.imul, 1) := by decide +kernel
theorem dX12_copy_123 : decode cX12_copy 123 = .ok (.iload_n 2, 1) := by decide +kernel
theorem dX12_copy_124 : decode cX12_copy 124 = .ok (.iadd, 1) := by decide +kernel
theorem dX12_copy_125 : decode cX12_copy 125 = .ok (.iload 6, 2) := by decide +kernel
theorem dX12_copy_127 : decode cX12_copy 127 = .ok (.iadd, 1) := by decide +kernel
theorem dX12_copy_128 : decode cX12_copy 128 = .ok (.laload, 1) := by decide +kernel
theorem dX12_copy_129 : decode cX12_copy 129 = .ok (.lastore, 1) := by decide +kernel
theorem dX12_copy_130 : decode cX12_copy 130 = .ok (.iinc 6 1, 3) := by decide +kernel
theorem dX12_copy_133 : decode cX12_copy 133 = .ok (.goto (-31), 3) := by decide +kernel
theorem dX12_copy_136 : decode cX12_copy 136 = .ok (.iconst 0, 1) := by decide +kernel
theorem dX12_copy_137 : decode cX12_copy 137 = .ok (.istore 6, 2) := by decide +kernel
theorem dX12_copy_139 : decode cX12_copy 139 = .ok (.iload 6, 2) := by decide +kernel
theorem dX12_copy_141 : decode cX12_copy 141 = .ok (.iload 5, 2) := by decide +kernel
theorem dX12_copy_143 : decode cX12_copy 143 = .ok (.if_icmp .ge 31, 3) := by decide +kernel
theorem dX12_copy_146 : decode cX12_copy 146 = .ok (.aload_n 0, 1) := by decide +kernel
theorem dX12_copy_147 : decode cX12_copy 147 = .ok (.getfield 61, 3) := by decide +kernel
theorem dX12_copy_150 : decode cX12_copy 150 = .ok (.bipush 30, 2) := by decide +kernel
theorem dX12_copy_152 : decode cX12_copy 152 = .ok (.iload_n 3, 1) := by decide +kernel
theorem dX12_copy_153 : decode cX12_copy 153 = .ok (.imul, 1) := by decide +kernel
theorem dX12_copy_154 : decode cX12_copy 154 = .ok (.iload 4, 2) := by decide +kernel
theorem dX12_copy_156 : decode cX12_copy 156 = .ok (.iadd, 1) := by decide +kernel
theorem dX12_copy_157 : decode cX12_copy 157 = .ok (.iload 6, 2) := by decide +kernel
theorem dX12_copy_159 : decode cX12_copy 159 = .ok (.iadd, 1) := by decide +kernel
theorem dX12_copy_160 : decode cX12_copy 160 = .ok (.aload_n 0, 1) := by decide +kernel
theorem dX12_copy_161 : decode cX12_copy 161 = .ok (.getfield 64, 3) := by decide +kernel
theorem dX12_copy_164 : decode cX12_copy 164 = .ok (.iload 6, 2) := by decide +kernel
theorem dX12_copy_166 : decode cX12_copy 166 = .ok (.laload, 1) := by decide +kernel
theorem dX12_copy_167 : decode cX12_copy 167 = .ok (.lastore, 1) := by decide +kernel
theorem dX12_copy_168 : decode cX12_copy 168 = .ok (.iinc 6 1, 3) := by decide +kernel
theorem dX12_copy_171 : decode cX12_copy 171 = .ok (.goto (-32), 3) := by decide +kernel
theorem dX12_copy_174 : decode cX12_copy 174 = .ok (.iload 5, 2) := by decide +kernel
theorem dX12_copy_176 : decode cX12_copy 176 = .ok (.ireturn, 1) := by decide +kernel
theorem dX12_count_0 : decode cX12_count 0 = .ok (.iload_n 1, 1) := by decide +kernel
theorem dX12_count_1 : decode cX12_count 1 = .ok (.tableswitch 89 0 5 #[39, 47, 52, 57, 69, 81], 39) := by decide +kernel
theorem dX12_count_40 : decode cX12_count 40 = .ok (.aload_n 0, 1) := by decide +kernel
theorem dX12_count_41 : decode cX12_count 41 = .ok (.getfield 11, 3) := by decide +kernel
theorem dX12_count_44 : decode cX12_count 44 = .ok (.bipush 15, 2) := by decide +kernel
theorem dX12_count_46 : decode cX12_count 46 = .ok (.iaload, 1) := by decide +kernel
theorem dX12_count_47 : decode cX12_count 47 = .ok (.ireturn, 1) := by decide +kernel
theorem dX12_count_48 : decode cX12_count 48 = .ok (.aload_n 0, 1) := by decide +kernel
theorem dX12_count_49 : decode cX12_count 49 = .ok (.getfield 253, 3) := by decide +kernel
theorem dX12_count_52 : decode cX12_count 52 = .ok (.ireturn, 1) := by decide +kernel
theorem dX12_count_53 : decode cX12_count 53 = .ok (.aload_n 0, 1) := by decide +kernel
theorem dX12_count_54 : decode cX12_count 54 = .ok (.getfield 291, 3) := by decide +kernel
theorem dX12_count_57 : decode cX12_count 57 = .ok (.ireturn, 1) := by decide +kernel
theorem dX12_count_58 : decode cX12_count 58 = .ok (.aload_n 0, 1) := by decide +kernel
theorem dX12_count_59 : decode cX12_count 59 = .ok (.iconst 0, 1) := by decide +kernel
theorem dX12_count_60 : decode cX12_count 60 = .ok (.invokevirtual 316, 3) := by decide +kernel
theorem dX12_count_63 : decode cX12_count 63 = .ok (.aload_n 0, 1) := by decide +kernel
theorem dX12_count_64 : decode cX12_count 64 = .ok (.iconst 1, 1) := by decide +kernel
theorem dX12_count_65 : decode cX12_count 65 = .ok (.invokevirtual 316, 3) := by decide +kernel
theorem dX12_count_68 : decode cX12_count 68 = .ok (.iadd, 1) := by decide +kernel
theorem dX12_count_69 : decode cX12_count 69 = .ok (.ireturn, 1) := by decide +kernel
theorem dX12_count_70 : decode cX12_count 70 = .ok (.aload_n 0, 1) := by decide +kernel
theorem dX12_count_71 : decode cX12_count 71 = .ok (.getfield 11, 3) := by decide +kernel
theorem dX12_count_74 : decode cX12_count 74 = .ok (.bipush 14, 2) := by decide +kernel
theorem dX12_count_76 : decode cX12_count 76 = .ok (.iaload, 1) := by decide +kernel
theorem dX12_count_77 : decode cX12_count 77 = .ok (.sipush 1000, 3) := by decide +kernel
theorem dX12_count_80 : decode cX12_count 80 = .ok (.iadd, 1) := by decide +kernel
theorem dX12_count_81 : decode cX12_count 81 = .ok (.ireturn, 1) := by decide +kernel
theorem dX12_count_82 : decode cX12_count 82 = .ok (.aload_n 0, 1) := by decide +kernel
theorem dX12_count_83 : decode cX12_count 83 = .ok (.getfield 11, 3) := by decide +kernel
theorem dX12_count_86 : decode cX12_count 86 = .ok (.bipush 32, 2) := by decide +kernel
theorem dX12_count_88 : decode cX12_count 88 = .ok (.iaload, 1) := by decide +kernel
theorem dX12_count_89 : decode cX12_count 89 = .ok (.ireturn, 1) := by decide +kernel
theorem dX12_count_90 : decode cX12_count 90 = .ok (.bipush (-2), 2) := by decide +kernel
theorem dX12_count_92 : decode cX12_count 92 = .ok (.ireturn, 1) := by decide +kernel
theorem dX12_isFactor_0 : decode cX12_isFactor 0 = .ok (.iload_n 1, 1) := by decide +kernel
theorem dX12_isFactor_1 : decode cX12_isFactor 1 = .ok (.i2l, 1) := by decide +kernel
theorem dX12_isFactor_2 : decode cX12_isFactor 2 = .ok (.lconst 0, 1) := by decide +kernel
theorem dX12_isFactor_3 : decode cX12_isFactor 3 = .ok (.aload_n 0, 1) := by decide +kernel
theorem dX12_isFactor_4 : decode cX12_isFactor 4 = .ok (.getfield 11, 3) := by decide +kernel
theorem dX12_isFactor_7 : decode cX12_isFactor 7 = .ok (.bipush 32, 2) := by decide +kernel
theorem dX12_isFactor_9 : decode cX12_isFactor 9 = .ok (.iaload, 1) := by decide +kernel
theorem dX12_isFactor_10 : decode cX12_isFactor 10 = .ok (.iconst 1, 1) := by decide +kernel
theorem dX12_isFactor_11 : decode cX12_isFactor 11 = .ok (.isub, 1) := by decide +kernel
theorem dX12_isFactor_12 : decode cX12_isFactor 12 = .ok (.i2l, 1) := by decide +kernel
theorem dX12_isFactor_13 : decode cX12_isFactor 13 = .ok (.invokestatic 83, 3) := by decide +kernel
theorem dX12_isFactor_16 : decode cX12_isFactor 16 = .ok (.ireturn, 1) := by decide +kernel
theorem dX12_factor_0 : decode cX12_factor 0 = .ok (.iload_n 1, 1) := by decide +kernel
theorem dX12_factor_1 : decode cX12_factor 1 = .ok (.i2l, 1) := by decide +kernel
theorem dX12_factor_2 : decode cX12_factor 2 = .ok (.lconst 0, 1) := by decide +kernel
theorem dX12_factor_3 : decode cX12_factor 3 = .ok (.ldc2_w 105, 3) := by decide +kernel
theorem dX12_factor_6 : decode cX12_factor 6 = .ok (.invokestatic 83, 3) := by decide +kernel
theorem dX12_factor_9 : decode cX12_factor 9 = .ok (.ifCond .ne 5, 3) := by decide +kernel
theorem dX12_factor_12 : decode cX12_factor 12 = .ok (.iconst (-1), 1) := by decide +kernel
theorem dX12_factor_13 : decode cX12_factor 13 = .ok (.ireturn, 1) := by decide +kernel
theorem dX12_factor_14 : decode cX12_factor 14 = .ok (.iload_n 1, 1) := by decide +kernel
theorem dX12_factor_15 : decode cX12_factor 15 = .ok (.iconst 2, 1) := by decide +kernel
theorem dX12_factor_16 : decode cX12_factor 16 = .ok (.if_icmp .ge 17, 3) := by decide +kernel
theorem dX12_factor_19 : decode cX12_factor 19 = .ok (.iload_n 2, 1) := by decide +kernel
theorem dX12_factor_20 : decode cX12_factor 20 = .ok (.i2l, 1) := by decide +kernel
theorem dX12_factor_21 : decode cX12_factor 21 = .ok (.ldc2_w 197, 3) := by decide +kernel
theorem dX12_factor_24 : decode cX12_factor 24 = .ok (.ldc2_w 199, 3) := by decide +kernel
theorem dX12_factor_27 : decode cX12_factor 27 = .ok (.invokestatic 83, 3) := by decide +kernel
theorem dX12_factor_30 : decode cX12_factor 30 = .ok (.ifCond .eq 24, 3) := by decide +kernel
theorem dX12_factor_33 : decode cX12_factor 33 = .ok (.iload_n 1, 1) := by decide +kernel
theorem dX12_factor_34 : decode cX12_factor 34 = .ok (.iconst 2, 1) := by decide +kernel
theorem dX12_factor_35 : decode cX12_factor 35 = .ok (.irem, 1) := by decide +kernel
theorem dX12_factor_36 : decode cX12_factor 36 = .ok (.iconst 1, 1) := by decide +kernel
theorem dX12_factor_37 : decode cX12_factor 37 = .ok (.if_icmp .ne 20, 3) := by decide +kernel
theorem dX12_factor_40 : decode cX12_factor 40 = .ok (.iload_n 3, 1) := by decide +kernel
theorem dX12_factor_41 : decode cX12_factor 41 = .ok (.i2l, 1) := by decide +kernel
theorem dX12_factor_42 : decode cX12_factor 42 = .ok (.ldc2_w 197, 3) := by decide +kernel
theorem dX12_factor_45 : decode cX12_factor 45 = .ok (.ldc2_w 199, 3) := by decide +kernel
theorem dX12_factor_48 : decode cX12_factor 48 = .ok (.invokestatic 83, 3) := by decide +kernel
theorem dX12_factor_51 : decode cX12_factor 51 = .ok (.ifCond .ne 6, 3) := by decide +kernel
theorem dX12_factor_54 : decode cX12_factor 54 = .ok (.bipush (-2), 2) := by decide +kernel
theorem dX12_factor_56 : decode cX12_factor 56 = .ok (.ireturn, 1) := by decide +kernel
theorem dX12_factor_57 : decode cX12_factor 57 = .ok (.aload_n 0, 1) := by decide +kernel
theorem dX12_factor_58 : decode cX12_factor 58 = .ok (.getfield 11, 3) := by decide +kernel
theorem dX12_factor_61 : decode cX12_factor 61 = .ok (.bipush 32, 2) := by decide +kernel
theorem dX12_factor_63 : decode cX12_factor 63 = .ok (.iaload, 1) := by decide +kernel
theorem dX12_factor_64 : decode cX12_factor 64 = .ok (.istore 4, 2) := by decide +kernel
theorem dX12_factor_66 : decode cX12_factor 66 = .ok (.iload 4, 2) := by decide +kernel
theorem dX12_factor_68 : decode cX12_factor 68 = .ok (.bipush 6, 2) := by decide +kernel
theorem dX12_factor_70 : decode cX12_factor 70 = .ok (.if_icmp .ne 6, 3) := by decide +kernel
theorem dX12_factor_73 : decode cX12_factor 73 = .ok (.bipush (-4), 2) := by decide +kernel
theorem dX12_factor_75 : decode cX12_factor 75 = .ok (.ireturn, 1) := by decide +kernel
theorem dX12_factor_76 : decode cX12_factor 76 = .ok (.aload_n 0, 1) := by decide +kernel
theorem dX12_factor_77 : decode cX12_factor 77 = .ok (.getfield 11, 3) := by decide +kernel
theorem dX12_factor_80 : decode cX12_factor 80 = .ok (.bipush 33, 2) := by decide +kernel
theorem dX12_factor_82 : decode cX12_factor 82 = .ok (.iload 4, 2) := by decide +kernel
theorem dX12_factor_84 : decode cX12_factor 84 = .ok (.iadd, 1) := by decide +kernel
theorem dX12_factor_85 : decode cX12_factor 85 = .ok (.iload_n 1, 1) := by decide +kernel
theorem dX12_factor_86 : decode cX12_factor 86 = .ok (.iastore, 1) := by decide +kernel
theorem dX12_factor_87 : decode cX12_factor 87 = .ok (.aload_n 0, 1) := by decide +kernel
theorem dX12_factor_88 : decode cX12_factor 88 = .ok (.getfield 11, 3) := by decide +kernel
theorem dX12_factor_91 : decode cX12_factor 91 = .ok (.bipush 39, 2) := by decide +kernel
theorem dX12_factor_93 : decode cX12_factor 93 = .ok (.iload 4, 2) := by decide +kernel
theorem dX12_factor_95 : decode cX12_factor 95 = .ok (.iadd, 1) := by decide +kernel
theorem dX12_factor_96 : decode cX12_factor 96 = .ok (.iload_n 1, 1) := by decide +kernel
theorem dX12_factor_97 : decode cX12_factor 97 = .ok (.iconst 2, 1) := by decide +kernel
theorem dX12_factor_98 : decode cX12_factor 98 = .ok (.if_icmp .ge 7, 3) := by decide +kernel
theorem dX12_factor_101 : decode cX12_factor 101 = .ok (.iload_n 2, 1) := by decide +kernel
theorem dX12_factor_102 : decode cX12_factor 102 = .ok (.goto 4, 3) := by decide +kernel
theorem dX12_factor_105 : decode cX12_factor 105 = .ok (.iconst 0, 1) := by decide +kernel
theorem dX12_factor_106 : decode cX12_factor 106 = .ok (.iastore, 1) := by decide +kernel
theorem dX12_factor_107 : decode cX12_factor 107 = .ok (.aload_n 0, 1) := by decide +kernel
theorem dX12_factor_108 : decode cX12_factor 108 = .ok (.getfield 11, 3) := by decide +kernel
theorem dX12_factor_111 : decode cX12_factor 111 = .ok (.bipush 45, 2) := by decide +kernel
theorem dX12_factor_113 : decode cX12_factor 113 = .ok (.iload 4, 2) := by decide +kernel
theorem dX12_factor_115 : decode cX12_factor 115 = .ok (.iadd, 1) := by decide +kernel
theorem dX12_factor_116 : decode cX12_factor 116 = .ok (.iload_n 1, 1) := by decide +kernel
theorem dX12_factor_117 : decode cX12_factor 117 = .ok (.iconst 2, 1) := by decide +kernel
theorem dX12_factor_118 : decode cX12_factor 118 = .ok (.irem, 1) := by decide +kernel
theorem dX12_factor_119 : decode cX12_factor 119 = .ok (.iconst 1, 1) := by decide +kernel
theorem dX12_factor_120 : decode cX12_factor 120 = .ok (.if_icmp .ne 7, 3) := by decide +kernel
theorem dX12_factor_123 : decode cX12_factor 123 = .ok (.iload_n 3, 1) := by decide +kernel
theorem dX12_factor_124 : decode cX12_factor 124 = .ok (.goto 4, 3) := by decide +kernel
theorem dX12_factor_127 : decode cX12_factor 127 = .ok (.iconst 0, 1) := by decide +kernel
theorem dX12_factor_128 : decode cX12_factor 128 = .ok (.iastore, 1) := by decide +kernel
theorem dX12_factor_129 : decode cX12_factor 129 = .ok (.aload_n 0, 1) := by decide +kernel
theorem dX12_factor_130 : decode cX12_factor 130 = .ok (.getfield 11, 3) := by decide +kernel
theorem dX12_factor_133 : decode cX12_factor 133 = .ok (.bipush 32, 2) := by decide +kernel
theorem dX12_factor_135 : decode cX12_factor 135 = .ok (.dup2, 1) := by decide +kernel
theorem dX12_factor_136 : decode cX12_factor 136 = .ok (.iaload, 1) := by decide +kernel
theorem dX12_factor_137 : decode cX12_factor 137 = .ok (.iconst 1, 1) := by decide +kernel
theorem dX12_factor_138 : decode cX12_factor 138 = .ok (.iadd, 1) := by decide +kernel
theorem dX12_factor_139 : decode cX12_factor 139 = .ok (.iastore, 1) := by decide +kernel
theorem dX12_factor_140 : decode cX12_factor 140 = .ok (.aload_n 0, 1) := by decide +kernel
theorem dX12_factor_141 : decode cX12_factor 141 = .ok (.getfield 11, 3) := by decide +kernel
theorem dX12_factor_144 : decode cX12_factor 144 = .ok (.bipush 32, 2) := by decide +kernel
theorem dX12_factor_146 : decode cX12_factor 146 = .ok (.iaload, 1) := by decide +kernel
theorem dX12_factor_147 : decode cX12_factor 147 = .ok (.ireturn, 1) := by decide +kernel
theorem dX12_unfactor_0 : decode cX12_unfactor 0 = .ok (.aload_n 0, 1) := by decide +kernel
theorem dX12_unfactor_1 : decode cX12_unfactor 1 = .ok (.iload_n 1, 1) := by decide +kernel
theorem dX12_unfactor_2 : decode cX12_unfactor 2 = .ok (.invokevirtual 319, 3) := by decide +kernel
theorem dX12_unfactor_5 : decode cX12_unfactor 5 = .ok (.ifCond .ne 5, 3) := by decide +kernel
theorem dX12_unfactor_8 : decode cX12_unfactor 8 = .ok (.iconst (-1), 1) := by decide +kernel
theorem dX12_unfactor_9 : decode cX12_unfactor 9 = .ok (.ireturn, 1) := by decide +kernel
theorem dX12_unfactor_10 : decode cX12_unfactor 10 = .ok (.aload_n 0, 1) := by decide +kernel
theorem dX12_unfactor_11 : decode cX12_unfactor 11 = .ok (.getfield 11, 3) := by decide +kernel
theorem dX12_unfactor_14 : decode cX12_unfactor 14 = .ok (.bipush 32, 2) := by decide +kernel
theorem dX12_unfactor_16 : decode cX12_unfactor 16 = .ok (.dup2, 1) := by decide +kernel
theorem dX12_unfactor_17 : decode cX12_unfactor 17 = .ok (.iaload, 1) := by decide +kernel
theorem dX12_unfactor_18 : decode cX12_unfactor 18 = .ok (.iconst 1, 1) := by decide +kernel
theorem dX12_unfactor_19 : decode cX12_unfactor 19 = .ok (.isub, 1) := by decide +kernel
theorem dX12_unfactor_20 : decode cX12_unfactor 20 = .ok (.iastore, 1) := by decide +kernel
theorem dX12_unfactor_21 : decode cX12_unfactor 21 = .ok (.iload_n 1, 1) := by decide +kernel
theorem dX12_unfactor_22 : decode cX12_unfactor 22 = .ok (.istore_n 2, 1) := by decide +kernel
theorem dX12_unfactor_23 : decode cX12_unfactor 23 = .ok (.iload_n 2, 1) := by decide +kernel
theorem dX12_unfactor_24 : decode cX12_unfactor 24 = .ok (.aload_n 0, 1) := by decide +kernel
theorem dX12_unfactor_25 : decode cX12_unfactor 25 = .ok (.getfield 11, 3) := by decide +kernel
theorem dX12_unfactor_28 : decode cX12_unfactor 28 = .ok (.bipush 32, 2) := by decide +kernel
theorem dX12_unfactor_30 : decode cX12_unfactor 30 = .ok (.iaload, 1) := by decide +kernel
theorem dX12_unfactor_31 : decode cX12_unfactor 31 = .ok (.if_icmp .ge 69, 3) := by decide +kernel
theorem dX12_unfactor_34 : decode cX12_unfactor 34 = .ok (.aload_n 0, 1) := by decide +kernel
theorem dX12_unfactor_35 : decode cX12_unfactor 35 = .ok (.getfield 11, 3) := by decide +kernel
theorem dX12_unfactor_38 : decode cX12_unfactor 38 = .ok (.bipush 33, 2) := by decide +kernel
theorem dX12_unfactor_40 : decode cX12_unfactor 40 = .ok (.iload_n 2, 1) := by decide +kernel
theorem dX12_unfactor_41 : decode cX12_unfactor 41 = .ok (.iadd, 1) := by decide +kernel
theorem dX12_unfactor_42 : decode cX12_unfactor 42 = .ok (.aload_n 0, 1) := by decide +kernel
theorem dX12_unfactor_43 : decode cX12_unfactor 43 = .ok (.getfield 11, 3) := by decide +kernel
theorem dX12_unfactor_46 : decode cX12_unfactor 46 = .ok (.bipush 33, 2) := by decide +kernel
theorem dX12_unfactor_48 : decode cX12_unfactor 48 = .ok (.iload_n 2, 1) := by decide +kernel
theorem dX12_unfactor_49 : decode cX12_unfactor 49 = .ok (.iadd, 1) := by decide +kernel
theorem dX12_unfactor_50 : decode cX12_unfactor 50 = .ok (.iconst 1, 1) := by decide +kernel
theorem dX12_unfactor_51 : decode cX12_unfactor 51 = .ok (.iadd, 1) := by decide +kernel
theorem dX12_unfactor_52 : decode cX12_unfactor 52 = .ok (.iaload, 1) := by decide +kernel
theorem dX12_unfactor_53 : decode cX12_unfactor 53 = .ok (.iastore, 1) := by decide +kernel
theorem dX12_unfactor_54 : decode cX12_unfactor 54 = .ok (.aload_n 0, 1) := by decide +kernel
theorem dX12_unfactor_55 : decode cX12_unfactor 55 = .ok (.getfield 11, 3) := by decide +kernel
theorem dX12_unfactor_58 : decode cX12_unfactor 58 = .ok (.bipush 39, 2) := by decide +kernel
theorem dX12_unfactor_60 : decode cX12_unfactor 60 = .ok (.iload_n 2, 1) := by decide +kernel
theorem dX12_unfactor_61 : decode cX12_unfactor 61 = .ok (.iadd, 1) := by decide +kernel
theorem dX12_unfactor_62 : decode cX12_unfactor 62 = .ok (.aload_n 0, 1) := by decide +kernel
theorem dX12_unfactor_63 : decode cX12_unfactor 63 = .ok (.getfield 11, 3) := by decide +kernel
theorem dX12_unfactor_66 : decode cX12_unfactor 66 = .ok (.bipush 39, 2) := by decide +kernel
theorem dX12_unfactor_68 : decode cX12_unfactor 68 = .ok (.iload_n 2, 1) := by decide +kernel
theorem dX12_unfactor_69 : decode cX12_unfactor 69 = .ok (.iadd, 1) := by decide +kernel
theorem dX12_unfactor_70 : decode cX12_unfactor 70 = .ok (.iconst 1, 1) := by decide +kernel
theorem dX12_unfactor_71 : decode cX12_unfactor 71 = .ok (.iadd, 1) := by decide +kernel
theorem dX12_unfactor_72 : decode cX12_unfactor 72 = .ok (.iaload, 1) := by decide +kernel
theorem dX12_unfactor_73 : decode cX12_unfactor 73 = .ok (.iastore, 1) := by decide +kernel
theorem dX12_unfactor_74 : decode cX12_unfactor 74 = .ok (.aload_n 0, 1) := by decide +kernel
theorem dX12_unfactor_75 : decode cX12_unfactor 75 = .ok (.getfield 11, 3) := by decide +kernel
theorem dX12_unfactor_78 : decode cX12_unfactor 78 = .ok (.bipush 45, 2) := by decide +kernel
theorem dX12_unfactor_80 : decode cX12_unfactor 80 = .ok (.iload_n 2, 1) := by decide +kernel
theorem dX12_unfactor_81 : decode cX12_unfactor 81 = .ok (.iadd, 1) := by decide +kernel
theorem dX12_unfactor_82 : decode cX12_unfactor 82 = .ok (.aload_n 0, 1) := by decide +kernel
theorem dX12_unfactor_83 : decode cX12_unfactor 83 = .ok (.getfield 11, 3) := by decide +kernel
theorem dX12_unfactor_86 : decode cX12_unfactor 86 = .ok (.bipush 45, 2) := by decide +kernel
theorem dX12_unfactor_88 : decode cX12_unfactor 88 = .ok (.iload_n 2, 1) := by decide +kernel
theorem dX12_unfactor_89 : decode cX12_unfactor 89 = .ok (.iadd, 1) := by decide +kernel
theorem dX12_unfactor_90 : decode cX12_unfactor 90 = .ok (.iconst 1, 1) := by decide +kernel
theorem dX12_unfactor_91 : decode cX12_unfactor 91 = .ok (.iadd, 1) := by decide +kernel
theorem dX12_unfactor_92 : decode cX12_unfactor 92 = .ok (.iaload, 1) := by decide +kernel
theorem dX12_unfactor_93 : decode cX12_unfactor 93 = .ok (.iastore, 1) := by decide +kernel
theorem dX12_unfactor_94 : decode cX12_unfactor 94 = .ok (.iinc 2 1, 3) := by decide +kernel
theorem dX12_unfactor_97 : decode cX12_unfactor 97 = .ok (.goto (-74), 3) := by decide +kernel
theorem dX12_unfactor_100 : decode cX12_unfactor 100 = .ok (.aload_n 0, 1) := by decide +kernel
theorem dX12_unfactor_101 : decode cX12_unfactor 101 = .ok (.getfield 11, 3) := by decide +kernel
theorem dX12_unfactor_104 : decode cX12_unfactor 104 = .ok (.bipush 32, 2) := by decide +kernel
theorem dX12_unfactor_106 : decode cX12_unfactor 106 = .ok (.iaload, 1) := by decide +kernel
theorem dX12_unfactor_107 : decode cX12_unfactor 107 = .ok (.ireturn, 1) := by decide +kernel
theorem dX12_sizeOf_0 : decode cX12_sizeOf 0 = .ok (.iconst 1, 1) := by decide +kernel
theorem dX12_sizeOf_1 : decode cX12_sizeOf 1 = .ok (.aload_n 0, 1) := by decide +kernel
theorem dX12_sizeOf_2 : decode cX12_sizeOf 2 = .ok (.getfield 11, 3) := by decide +kernel
theorem dX12_sizeOf_5 : decode cX12_sizeOf 5 = .ok (.bipush 33, 2) := by decide +kernel
theorem dX12_sizeOf_7 : decode cX12_sizeOf 7 = .ok (.iload_n 1, 1) := by decide +kernel
theorem dX12_sizeOf_8 : decode cX12_sizeOf 8 = .ok (.iadd, 1) := by decide +kernel
theorem dX12_sizeOf_9 : decode cX12_sizeOf 9 = .ok (.iaload, 1) := by decide +kernel
theorem dX12_sizeOf_10 : decode cX12_sizeOf 10 = .ok (.iconst 2, 1) := by decide +kernel
theorem dX12_sizeOf_11 : decode cX12_sizeOf 11 = .ok (.irem, 1) := by decide +kernel
theorem dX12_sizeOf_12 : decode cX12_sizeOf 12 = .ok (.iadd, 1) := by decide +kernel
theorem dX12_sizeOf_13 : decode cX12_sizeOf 13 = .ok (.ireturn, 1) := by decide +kernel
theorem dX12_knownOf_0 : decode cX12_knownOf 0 = .ok (.aload_n 0, 1) := by decide +kernel
theorem dX12_knownOf_1 : decode cX12_knownOf 1 = .ok (.getfield 11, 3) := by decide +kernel
theorem dX12_knownOf_4 : decode cX12_knownOf 4 = .ok (.bipush 39, 2) := by decide +kernel
theorem dX12_knownOf_6 : decode cX12_knownOf 6 = .ok (.iload_n 1, 1) := by decide +kernel
theorem dX12_knownOf_7 : decode cX12_knownOf 7 = .ok (.iadd, 1) := by decide +kernel
theorem dX12_knownOf_8 : decode cX12_knownOf 8 = .ok (.iaload, 1) := by decide +kernel
theorem dX12_knownOf_9 : decode cX12_knownOf 9 = .ok (.istore_n 3, 1) := by decide +kernel
theorem dX12_knownOf_10 : decode cX12_knownOf 10 = .ok (.aload_n 0, 1) := by decide +kernel
theorem dX12_knownOf_11 : decode cX12_knownOf 11 = .ok (.getfield 11, 3) := by decide +kernel
theorem dX12_knownOf_14 : decode cX12_knownOf 14 = .ok (.bipush 45, 2) := by decide +kernel
theorem dX12_knownOf_16 : decode cX12_knownOf 16 = .ok (.iload_n 1, 1) := by decide +kernel
theorem dX12_knownOf_17 : decode cX12_knownOf 17 = .ok (.iadd, 1) := by decide +kernel
theorem dX12_knownOf_18 : decode cX12_knownOf 18 = .ok (.iaload, 1) := by decide +kernel
theorem dX12_knownOf_19 : decode cX12_knownOf 19 = .ok (.istore 4, 2) := by decide +kernel
theorem dX12_knownOf_21 : decode cX12_knownOf 21 = .ok (.iload_n 3, 1) := by decide +kernel
theorem dX12_knownOf_22 : decode cX12_knownOf 22 = .ok (.ifCond .ge 7, 3) := by decide +kernel
theorem dX12_knownOf_25 : decode cX12_knownOf 25 = .ok (.iconst 0, 1) := by decide +kernel
theorem dX12_knownOf_26 : decode cX12_knownOf 26 = .ok (.goto 12, 3) := by decide +kernel
theorem dX12_knownOf_29 : decode cX12_knownOf 29 = .ok (.iload_n 3, 1) := by decide +kernel
theorem dX12_knownOf_30 : decode cX12_knownOf 30 = .ok (.ifCond .ne 7, 3) := by decide +kernel
theorem dX12_knownOf_33 : decode cX12_knownOf 33 = .ok (.iconst 1, 1) := by decide +kernel
theorem dX12_knownOf_34 : decode cX12_knownOf 34 = .ok (.goto 4, 3) := by decide +kernel
theorem dX12_knownOf_37 : decode cX12_knownOf 37 = .ok (.iconst 2, 1) := by decide +kernel
theorem dX12_knownOf_38 : decode cX12_knownOf 38 = .ok (.istore 5, 2) := by decide +kernel
theorem dX12_knownOf_40 : decode cX12_knownOf 40 = .ok (.iload 5, 2) := by decide +kernel
theorem dX12_knownOf_42 : decode cX12_knownOf 42 = .ok (.iload_n 2, 1) := by decide +kernel
theorem dX12_knownOf_43 : decode cX12_knownOf 43 = .ok (.if_icmp .ne 7, 3) := by decide +kernel
theorem dX12_knownOf_46 : decode cX12_knownOf 46 = .ok (.iconst 1, 1) := by decide +kernel
theorem dX12_knownOf_47 : decode cX12_knownOf 47 = .ok (.goto 4, 3) := by decide +kernel
theorem dX12_knownOf_50 : decode cX12_knownOf 50 = .ok (.iconst 0, 1) := by decide +kernel
theorem dX12_knownOf_51 : decode cX12_knownOf 51 = .ok (.istore 6, 2) := by decide +kernel
theorem dX12_knownOf_53 : decode cX12_knownOf 53 = .ok (.aload_n 0, 1) := by decide +kernel
theorem dX12_knownOf_54 : decode cX12_knownOf 54 = .ok (.iload_n 1, 1) := by decide +kernel
theorem dX12_knownOf_55 : decode cX12_knownOf 55 = .ok (.invokevirtual 322, 3) := by decide +kernel
theorem dX12_knownOf_58 : decode cX12_knownOf 58 = .ok (.iconst 1, 1) := by decide +kernel
theorem dX12_knownOf_59 : decode cX12_knownOf 59 = .ok (.if_icmp .ne 6, 3) := by decide +kernel
theorem dX12_knownOf_62 : decode cX12_knownOf 62 = .ok (.iload 6, 2) := by decide +kernel
theorem dX12_knownOf_64 : decode cX12_knownOf 64 = .ok (.ireturn, 1) := by decide +kernel
theorem dX12_knownOf_65 : decode cX12_knownOf 65 = .ok (.iload 4, 2) := by decide +kernel
theorem dX12_knownOf_67 : decode cX12_knownOf 67 = .ok (.ifCond .ge 16, 3) := by decide +kernel
theorem dX12_knownOf_70 : decode cX12_knownOf 70 = .ok (.iload_n 2, 1) := by decide +kernel
theorem dX12_knownOf_71 : decode cX12_knownOf 71 = .ok (.iconst 1, 1) := by decide +kernel
theorem dX12_knownOf_72 : decode cX12_knownOf 72 = .ok (.if_icmp .ne 7, 3) := by decide +kernel
theorem dX12_knownOf_75 : decode cX12_knownOf 75 = .ok (.iconst 0, 1) := by decide +kernel
theorem dX12_knownOf_76 : decode cX12_knownOf 76 = .ok (.goto 32, 3) := by decide +kernel
theorem dX12_knownOf_79 : decode cX12_knownOf 79 = .ok (.iconst 1, 1) := by decide +kernel
theorem dX12_knownOf_80 : decode cX12_knownOf 80 = .ok (.goto 28, 3) := by decide +kernel
theorem dX12_knownOf_83 : decode cX12_knownOf 83 = .ok (.iload 4, 2) := by decide +kernel
theorem dX12_knownOf_85 : decode cX12_knownOf 85 = .ok (.ifCond .ne 19, 3) := by decide +kernel
theorem dX12_knownOf_88 : decode cX12_knownOf 88 = .ok (.iload 6, 2) := by decide +kernel
theorem dX12_knownOf_90 : decode cX12_knownOf 90 = .ok (.iload_n 2, 1) := by decide +kernel
theorem dX12_knownOf_91 : decode cX12_knownOf 91 = .ok (.iconst 1, 1) := by decide +kernel
theorem dX12_knownOf_92 : decode cX12_knownOf 92 = .ok (.if_icmp .ne 7, 3) := by decide +kernel
theorem dX12_knownOf_95 : decode cX12_knownOf 95 = .ok (.iconst 1, 1) := by decide +kernel
theorem dX12_knownOf_96 : decode cX12_knownOf 96 = .ok (.goto 4, 3) := by decide +kernel
theorem dX12_knownOf_99 : decode cX12_knownOf 99 = .ok (.iconst 0, 1) := by decide +kernel
theorem dX12_knownOf_100 : decode cX12_knownOf 100 = .ok (.iadd, 1) := by decide +kernel
theorem dX12_knownOf_101 : decode cX12_knownOf 101 = .ok (.goto 7, 3) := by decide +kernel
theorem dX12_knownOf_104 : decode cX12_knownOf 104 = .ok (.iconst 2, 1) := by decide +kernel
theorem dX12_knownOf_105 : decode cX12_knownOf 105 = .ok (.iload 6, 2) := by decide +kernel
theorem dX12_knownOf_107 : decode cX12_knownOf 107 = .ok (.imul, 1) := by decide +kernel
theorem dX12_knownOf_108 : decode cX12_knownOf 108 = .ok (.ireturn, 1) := by decide +kernel
theorem dX12_knownAll_0 : decode cX12_knownAll 0 = .ok (.iconst 0, 1) := by decide +kernel
theorem dX12_knownAll_1 : decode cX12_knownAll 1 = .ok (.istore_n 2, 1) := by decide +kernel
theorem dX12_knownAll_2 : decode cX12_knownAll 2 = .ok (.iconst 0, 1) := by decide +kernel
theorem dX12_knownAll_3 : decode cX12_knownAll 3 = .ok (.istore_n 3, 1) := by decide +kernel
theorem dX12_knownAll_4 : decode cX12_knownAll 4 = .ok (.iload_n 3, 1) := by decide +kernel
theorem dX12_knownAll_5 : decode cX12_knownAll 5 = .ok (.aload_n 0, 1) := by decide +kernel
theorem dX12_knownAll_6 : decode cX12_knownAll 6 = .ok (.getfield 11, 3) := by decide +kernel
theorem dX12_knownAll_9 : decode cX12_knownAll 9 = .ok (.bipush 32, 2) := by decide +kernel
theorem dX12_knownAll_11 : decode cX12_knownAll 11 = .ok (.iaload, 1) := by decide +kernel
theorem dX12_knownAll_12 : decode cX12_knownAll 12 = .ok (.if_icmp .ge 31, 3) := by decide +kernel
theorem dX12_knownAll_15 : decode cX12_knownAll 15 = .ok (.iload_n 2, 1) := by decide +kernel
theorem dX12_knownAll_16 : decode cX12_knownAll 16 = .ok (.iload_n 1, 1) := by decide +kernel
theorem dX12_knownAll_17 : decode cX12_knownAll 17 = .ok (.iconst 3, 1) := by decide +kernel
theorem dX12_knownAll_18 : decode cX12_knownAll 18 = .ok (.if_icmp .ne 11, 3) := by decide +kernel
theorem dX12_knownAll_21 : decode cX12_knownAll 21 = .ok (.aload_n 0, 1) := by decide +kernel
theorem dX12_knownAll_22 : decode cX12_knownAll 22 = .ok (.iload_n 3, 1) := by decide +kernel
theorem dX12_knownAll_23 : decode cX12_knownAll 23 = .ok (.invokevirtual 322, 3) := by decide +kernel
theorem dX12_knownAll_26 : decode cX12_knownAll 26 = .ok (.goto 9, 3) := by decide +kernel
theorem dX12_knownAll_29 : decode cX12_knownAll 29 = .ok (.aload_n 0, 1) := by decide +kernel
theorem dX12_knownAll_30 : decode cX12_knownAll 30 = .ok (.iload_n 3, 1) := by decide +kernel
theorem dX12_knownAll_31 : decode cX12_knownAll 31 = .ok (.iload_n 1, 1) := by decide +kernel
theorem dX12_knownAll_32 : decode cX12_knownAll 32 = .ok (.invokevirtual 325, 3) := by decide +kernel
theorem dX12_knownAll_35 : decode cX12_knownAll 35 = .ok (.iadd, 1) := by decide +kernel
theorem dX12_knownAll_36 : decode cX12_knownAll 36 = .ok (.istore_n 2, 1) := by decide +kernel
theorem dX12_knownAll_37 : decode cX12_knownAll 37 = .ok (.iinc 3 1, 3) := by decide +kernel
theorem dX12_knownAll_40 : decode cX12_knownAll 40 = .ok (.goto (-36), 3) := by decide +kernel
theorem dX12_knownAll_43 : decode cX12_knownAll 43 = .ok (.iload_n 2, 1) := by decide +kernel
theorem dX12_knownAll_44 : decode cX12_knownAll 44 = .ok (.ireturn, 1) := by decide +kernel
theorem dX12_known_0 : decode cX12_known 0 = .ok (.iload_n 1, 1) := by decide +kernel
theorem dX12_known_1 : decode cX12_known 1 = .ok (.i2l, 1) := by decide +kernel
theorem dX12_known_2 : decode cX12_known 2 = .ok (.lconst 0, 1) := by decide +kernel
theorem dX12_known_3 : decode cX12_known 3 = .ok (.ldc2_w 105, 3) := by decide +kernel
theorem dX12_known_6 : decode cX12_known 6 = .ok (.invokestatic 83, 3) := by decide +kernel
theorem dX12_known_9 : decode cX12_known 9 = .ok (.ifCond .eq 11, 3) := by decide +kernel
theorem dX12_known_12 : decode cX12_known 12 = .ok (.aload_n 0, 1) := by decide +kernel
theorem dX12_known_13 : decode cX12_known 13 = .ok (.iload_n 1, 1) := by decide +kernel
theorem dX12_known_14 : decode cX12_known 14 = .ok (.invokevirtual 328, 3) := by decide +kernel
theorem dX12_known_17 : decode cX12_known 17 = .ok (.goto 5, 3) := by decide +kernel
theorem dX12_known_20 : decode cX12_known 20 = .ok (.bipush (-2), 2) := by decide +kernel
theorem dX12_known_22 : decode cX12_known 22 = .ok (.ireturn, 1) := by decide +kernel
theorem dX12_isDivided_0 : decode cX12_isDivided 0 = .ok (.aload_n 0, 1) := by decide +kernel
theorem dX12_isDivided_1 : decode cX12_isDivided 1 = .ok (.iload_n 1, 1) := by decide +kernel
theorem dX12_isDivided_2 : decode cX12_isDivided 2 = .ok (.invokevirtual 322, 3) := by decide +kernel
theorem dX12_isDivided_5 : decode cX12_isDivided 5 = .ok (.istore_n 2, 1) := by decide +kernel
theorem dX12_isDivided_6 : decode cX12_isDivided 6 = .ok (.aload_n 0, 1) := by decide +kernel
theorem dX12_isDivided_7 : decode cX12_isDivided 7 = .ok (.getfield 18, 3) := by decide +kernel
theorem dX12_isDivided_10 : decode cX12_isDivided 10 = .ok (.invokestatic 73, 3) := by decide +kernel
theorem dX12_isDivided_13 : decode cX12_isDivided 13 = .ok (.istore_n 3, 1) := by decide +kernel
theorem dX12_isDivided_14 : decode cX12_isDivided 14 = .ok (.iconst 0, 1) := by decide +kernel
theorem dX12_isDivided_15 : decode cX12_isDivided 15 = .ok (.istore 4, 2) := by decide +kernel
theorem dX12_isDivided_17 : decode cX12_isDivided 17 = .ok (.iload 4, 2) := by decide +kernel
theorem dX12_isDivided_19 : decode cX12_isDivided 19 = .ok (.bipush 7, 2) := by decide +kernel
theorem dX12_isDivided_21 : decode cX12_isDivided 21 = .ok (.if_icmp .ge 23, 3) := by decide +kernel
theorem dX12_isDivided_24 : decode cX12_isDivided 24 = .ok (.aload_n 0, 1) := by decide +kernel
theorem dX12_isDivided_25 : decode cX12_isDivided 25 = .ok (.getfield 25, 3) := by decide +kernel
theorem dX12_isDivided_28 : decode cX12_isDivided 28 = .ok (.iload 4, 2) := by decide +kernel
theorem dX12_isDivided_30 : decode cX12_isDivided 30 = .ok (.aload_n 0, 1) := by decide +kernel
theorem dX12_isDivided_31 : decode cX12_isDivided 31 = .ok (.getfield 18, 3) := by decide +kernel
theorem dX12_isDivided_34 : decode cX12_isDivided 34 = .ok (.iload 4, 2) := by decide +kernel
theorem dX12_isDivided_36 : decode cX12_isDivided 36 = .ok (.laload, 1) := by decide +kernel
theorem dX12_isDivided_37 : decode cX12_isDivided 37 = .ok (.lastore, 1) := by decide +kernel
theorem dX12_isDivided_38 : decode cX12_isDivided 38 = .ok (.iinc 4 1, 3) := by decide +kernel
theorem dX12_isDivided_41 : decode cX12_isDivided 41 = .ok (.goto (-24), 3) := by decide +kernel
theorem dX12_isDivided_44 : decode cX12_isDivided 44 = .ok (.iload_n 3, 1) := by decide +kernel
theorem dX12_isDivided_45 : decode cX12_isDivided 45 = .ok (.istore 4, 2) := by decide +kernel
theorem dX12_isDivided_47 : decode cX12_isDivided 47 = .ok (.iload 4, 2) := by decide +kernel
theorem dX12_isDivided_49 : decode cX12_isDivided 49 = .ok (.iload_n 2, 1) := by decide +kernel
theorem dX12_isDivided_50 : decode cX12_isDivided 50 = .ok (.if_icmp .lt 74, 3) := by decide +kernel
theorem dX12_isDivided_53 : decode cX12_isDivided 53 = .ok (.aload_n 0, 1) := by decide +kernel
theorem dX12_isDivided_54 : decode cX12_isDivided 54 = .ok (.getfield 25, 3) := by decide +kernel
theorem dX12_isDivided_57 : decode cX12_isDivided 57 = .ok (.iload 4, 2) := by decide +kernel
theorem dX12_isDivided_59 : decode cX12_isDivided 59 = .ok (.iconst 1, 1) := by decide +kernel
theorem dX12_isDivided_60 : decode cX12_isDivided 60 = .ok (.isub, 1) := by decide +kernel
theorem dX12_isDivided_61 : decode cX12_isDivided 61 = .ok (.dup2, 1) := by decide +kernel
theorem dX12_isDivided_62 : decode cX12_isDivided 62 = .ok (.laload, 1) := by decide +kernel
theorem dX12_isDivided_63 : decode cX12_isDivided 63 = .ok (.aload_n 0, 1) := by decide +kernel
theorem dX12_isDivided_64 : decode cX12_isDivided 64 = .ok (.getfield 11, 3) := by decide +kernel
theorem dX12_isDivided_67 : decode cX12_isDivided 67 = .ok (.bipush 39, 2) := by decide +kernel
theorem dX12_isDivided_69 : decode cX12_isDivided 69 = .ok (.iload_n 1, 1) := by decide +kernel
theorem dX12_isDivided_70 : decode cX12_isDivided 70 = .ok (.iadd, 1) := by decide +kernel
theorem dX12_isDivided_71 : decode cX12_isDivided 71 = .ok (.iaload, 1) := by decide +kernel
theorem dX12_isDivided_72 : decode cX12_isDivided 72 = .ok (.i2l, 1) := by decide +kernel
theorem dX12_isDivided_73 : decode cX12_isDivided 73 = .ok (.aload_n 0, 1) := by decide +kernel
theorem dX12_isDivided_74 : decode cX12_isDivided 74 = .ok (.getfield 25, 3) := by decide +kernel
theorem dX12_isDivided_77 : decode cX12_isDivided 77 = .ok (.iload 4, 2) := by decide +kernel
theorem dX12_isDivided_79 : decode cX12_isDivided 79 = .ok (.laload, 1) := by decide +kernel
theorem dX12_isDivided_80 : decode cX12_isDivided 80 = .ok (.lmul, 1) := by decide +kernel
theorem dX12_isDivided_81 : decode cX12_isDivided 81 = .ok (.lsub, 1) := by decide +kernel
theorem dX12_isDivided_82 : decode cX12_isDivided 82 = .ok (.lastore, 1) := by decide +kernel
theorem dX12_isDivided_83 : decode cX12_isDivided 83 = .ok (.iload_n 2, 1) := by decide +kernel
theorem dX12_isDivided_84 : decode cX12_isDivided 84 = .ok (.iconst 2, 1) := by decide +kernel
theorem dX12_isDivided_85 : decode cX12_isDivided 85 = .ok (.if_icmp .ne 33, 3) := by decide +kernel
theorem dX12_isDivided_88 : decode cX12_isDivided 88 = .ok (.aload_n 0, 1) := by decide +kernel
theorem dX12_isDivided_89 : decode cX12_isDivided 89 = .ok (.getfield 25, 3) := by decide +kernel
theorem dX12_isDivided_92 : decode cX12_isDivided 92 = .ok (.iload 4, 2) := by decide +kernel
theorem dX12_isDivided_94 : decode cX12_isDivided 94 = .ok (.iconst 2, 1) := by decide +kernel
theorem dX12_isDivided_95 : decode cX12_isDivided 95 = .ok (.isub, 1) := by decide +kernel
theorem dX12_isDivided_96 : decode cX12_isDivided 96 = .ok (.dup2, 1) := by decide +kernel
theorem dX12_isDivided_97 : decode cX12_isDivided 97 = .ok (.laload, 1) := by decide +kernel
theorem dX12_isDivided_98 : decode cX12_isDivided 98 = .ok (.aload_n 0, 1) := by decide +kernel
theorem dX12_isDivided_99 : decode cX12_isDivided 99 = .ok (.getfield 11, 3) := by decide +kernel
theorem dX12_isDivided_102 : decode cX12_isDivided 102 = .ok (.bipush 45, 2) := by decide +kernel
theorem dX12_isDivided_104 : decode cX12_isDivided 104 = .ok (.iload_n 1, 1) := by decide +kernel
theorem dX12_isDivided_105 : decode cX12_isDivided 105 = .ok (.iadd, 1) := by decide +kernel
theorem dX12_isDivided_106 : decode cX12_isDivided 106 = .ok (.iaload, 1) := by decide +kernel
theorem dX12_isDivided_107 : decode cX12_isDivided 107 = .ok (.i2l, 1) := by decide +kernel
theorem dX12_isDivided_108 : decode cX12_isDivided 108 = .ok (.aload_n 0, 1) := by decide +kernel
theorem dX12_isDivided_109 : decode cX12_isDivided 109 = .ok (.getfield 25, 3) := by decide +kernel
theorem dX12_isDivided_112 : decode cX12_isDivided 112 = .ok (.iload 4, 2) := by decide +kernel
theorem dX12_isDivided_114 : decode cX12_isDivided 114 = .ok (.laload, 1) := by decide +kernel
theorem dX12_isDivided_115 : decode cX12_isDivided 115 = .ok (.lmul, 1) := by decide +kernel
theorem dX12_isDivided_116 : decode cX12_isDivided 116 = .ok (.lsub, 1) := by decide +kernel
theorem dX12_isDivided_117 : decode cX12_isDivided 117 = .ok (.lastore, 1) := by decide +kernel
theorem dX12_isDivided_118 : decode cX12_isDivided 118 = .ok (.iinc 4 (-1), 3) := by decide +kernel
theorem dX12_isDivided_121 : decode cX12_isDivided 121 = .ok (.goto (-74), 3) := by decide +kernel
theorem dX12_isDivided_124 : decode cX12_isDivided 124 = .ok (.iload_n 3, 1) := by decide +kernel
theorem dX12_isDivided_125 : decode cX12_isDivided 125 = .ok (.iload_n 2, 1) := by decide +kernel
theorem dX12_isDivided_126 : decode cX12_isDivided 126 = .ok (.if_icmp .lt 34, 3) := by decide +kernel
theorem dX12_isDivided_129 : decode cX12_isDivided 129 = .ok (.aload_n 0, 1) := by decide +kernel
theorem dX12_isDivided_130 : decode cX12_isDivided 130 = .ok (.getfield 25, 3) := by decide +kernel
theorem dX12_isDivided_133 : decode cX12_isDivided 133 = .ok (.iconst 0, 1) := by decide +kernel
theorem dX12_isDivided_134 : decode cX12_isDivided 134 = .ok (.laload, 1) := by decide +kernel
theorem dX12_isDivided_135 : decode cX12_isDivided 135 = .ok (.lconst 0, 1) := by decide +kernel
theorem dX12_isDivided_136 : decode cX12_isDivided 136 = .ok (.lcmp, 1) := by decide +kernel
theorem dX12_isDivided_137 : decode cX12_isDivided 137 = .ok (.ifCond .ne 23, 3) := by decide +kernel
theorem dX12_isDivided_140 : decode cX12_isDivided 140 = .ok (.iload_n 2, 1) := by decide +kernel
theorem dX12_isDivided_141 : decode cX12_isDivided 141 = .ok (.iconst 1, 1) := by decide +kernel
theorem dX12_isDivided_142 : decode cX12_isDivided 142 = .ok (.if_icmp .eq 14, 3) := by decide +kernel
theorem dX12_isDivided_145 : decode cX12_isDivided 145 = .ok (.aload_n 0, 1) := by decide +kernel
theorem dX12_isDivided_146 : decode cX12_isDivided 146 = .ok (.getfield 25, 3) := by decide +kernel
theorem dX12_isDivided_149 : decode cX12_isDivided 149 = .ok (.iconst 1, 1) := by decide +kernel
theorem dX12_isDivided_150 : decode cX12_isDivided 150 = .ok (.laload, 1) := by decide +kernel
theorem dX12_isDivided_151 : decode cX12_isDivided 151 = .ok (.lconst 0, 1) := by decide +kernel
theorem dX12_isDivided_152 : decode cX12_isDivided 152 = .ok (.lcmp, 1) := by decide +kernel
theorem dX12_isDivided_153 : decode cX12_isDivided 153 = .ok (.ifCond .ne 7, 3) := by decide +kernel
theorem dX12_isDivided_156 : decode cX12_isDivided 156 = .ok (.iconst 1, 1) := by decide +kernel
theorem dX12_isDivided_157 : decode cX12_isDivided 157 = .ok (.goto 4, 3) := by decide +kernel
theorem dX12_isDivided_160 : decode cX12_isDivided 160 = .ok (.iconst 0, 1) := by decide +kernel
theorem dX12_isDivided_161 : decode cX12_isDivided 161 = .ok (.istore 4, 2) := by decide +kernel
theorem dX12_isDivided_163 : decode cX12_isDivided 163 = .ok (.iconst 0, 1) := by decide +kernel
theorem dX12_isDivided_164 : decode cX12_isDivided 164 = .ok (.istore 5, 2) := by decide +kernel
theorem dX12_isDivided_166 : decode cX12_isDivided 166 = .ok (.iload 5, 2) := by decide +kernel
theorem dX12_isDivided_168 : decode cX12_isDivided 168 = .ok (.bipush 7, 2) := by decide +kernel
theorem dX12_isDivided_170 : decode cX12_isDivided 170 = .ok (.if_icmp .ge 43, 3) := by decide +kernel
theorem dX12_isDivided_173 : decode cX12_isDivided 173 = .ok (.iload 4, 2) := by decide +kernel
theorem dX12_isDivided_175 : decode cX12_isDivided 175 = .ok (.ifCond .eq 38, 3) := by decide +kernel
theorem dX12_isDivided_178 : decode cX12_isDivided 178 = .ok (.aload_n 0, 1) := by decide +kernel
theorem dX12_isDivided_179 : decode cX12_isDivided 179 = .ok (.getfield 18, 3) := by decide +kernel
theorem dX12_isDivided_182 : decode cX12_isDivided 182 = .ok (.iload 5, 2) := by decide +kernel
theorem dX12_isDivided_184 : decode cX12_isDivided 184 = .ok (.iload 5, 2) := by decide +kernel
theorem dX12_isDivided_186 : decode cX12_isDivided 186 = .ok (.iload_n 2, 1) := by decide +kernel
theorem dX12_isDivided_187 : decode cX12_isDivided 187 = .ok (.iadd, 1) := by decide +kernel
theorem dX12_isDivided_188 : decode cX12_isDivided 188 = .ok (.bipush 7, 2) := by decide +kernel
theorem dX12_isDivided_190 : decode cX12_isDivided 190 = .ok (.if_icmp .ge 15, 3) := by decide +kernel
theorem dX12_isDivided_193 : decode cX12_isDivided 193 = .ok (.aload_n 0, 1) := by decide +kernel
theorem dX12_isDivided_194 : decode cX12_isDivided 194 = .ok (.getfield 25, 3) := by decide +kernel
theorem dX12_isDivided_197 : decode cX12_isDivided 197 = .ok (.iload 5, 2) := by decide +kernel
theorem dX12_isDivided_199 : decode cX12_isDivided 199 = .ok (.iload_n 2, 1) := by decide +kernel
theorem dX12_isDivided_200 : decode cX12_isDivided 200 = .ok (.iadd, 1) := by decide +kernel
theorem dX12_isDivided_201 : decode cX12_isDivided 201 = .ok (.laload, 1) := by decide +kernel
theorem dX12_isDivided_202 : decode cX12_isDivided 202 = .ok (.goto 4, 3) := by decide +kernel
theorem dX12_isDivided_205 : decode cX12_isDivided 205 = .ok (.lconst 0, 1) := by decide +kernel
theorem dX12_isDivided_206 : decode cX12_isDivided 206 = .ok (.lastore, 1) := by decide +kernel
theorem dX12_isDivided_207 : decode cX12_isDivided 207 = .ok (.iinc 5 1, 3) := by decide +kernel
theorem dX12_isDivided_210 : decode cX12_isDivided 210 = .ok (.goto (-44), 3) := by decide +kernel
theorem dX12_isDivided_213 : decode cX12_isDivided 213 = .ok (.iload 4, 2) := by decide +kernel
theorem dX12_isDivided_215 : decode cX12_isDivided 215 = .ok (.ireturn, 1) := by decide +kernel
theorem dX12_factored_0 : decode cX12_factored 0 = .ok (.aload_n 0, 1) := by decide +kernel
theorem dX12_factored_1 : decode cX12_factored 1 = .ok (.iload_n 1, 1) := by decide +kernel
theorem dX12_factored_2 : decode cX12_factored 2 = .ok (.invokevirtual 319, 3) := by decide +kernel
theorem dX12_factored_5 : decode cX12_factored 5 = .ok (.ifCond .eq 15, 3) := by decide +kernel
theorem dX12_factored_8 : decode cX12_factored 8 = .ok (.iload_n 2, 1) := by decide +kernel
theorem dX12_factored_9 : decode cX12_factored 9 = .ok (.i2l, 1) := by decide +kernel
theorem dX12_factored_10 : decode cX12_factored 10 = .ok (.lconst 0, 1) := by decide +kernel
theorem dX12_factored_11 : decode cX12_factored 11 = .ok (.ldc2_w 331, 3) := by decide +kernel
theorem dX12_factored_14 : decode cX12_factored 14 = .ok (.invokestatic 83, 3) := by decide +kernel
theorem dX12_factored_17 : decode cX12_factored 17 = .ok (.ifCond .ne 5, 3) := by decide +kernel
theorem dX12_factored_20 : decode cX12_factored 20 = .ok (.iconst (-1), 1) := by decide +kernel
theorem dX12_factored_21 : decode cX12_factored 21 = .ok (.ireturn, 1) := by decide +kernel
theorem dX12_factored_22 : decode cX12_factored 22 = .ok (.iconst 0, 1) := by decide +kernel
theorem dX12_factored_23 : decode cX12_factored 23 = .ok (.istore_n 3, 1) := by decide +kernel
theorem dX12_factored_24 : decode cX12_factored 24 = .ok (.aload_n 0, 1) := by decide +kernel
theorem dX12_factored_25 : decode cX12_factored 25 = .ok (.iconst 1, 1) := by decide +kernel
theorem dX12_factored_26 : decode cX12_factored 26 = .ok (.aload_n 0, 1) := by decide +kernel
theorem dX12_factored_27 : decode cX12_factored 27 = .ok (.getfield 11, 3) := by decide +kernel
theorem dX12_factored_30 : decode cX12_factored 30 = .ok (.bipush 14, 2) := by decide +kernel
theorem dX12_factored_32 : decode cX12_factored 32 = .ok (.iaload, 1) := by decide +kernel
theorem dX12_factored_33 : decode cX12_factored 33 = .ok (.invokevirtual 97, 3) := by decide +kernel
theorem dX12_factored_36 : decode cX12_factored 36 = .ok (.iload_n 2, 1) := by decide +kernel
theorem dX12_factored_37 : decode cX12_factored 37 = .ok (.bipush 7, 2) := by decide +kernel
theorem dX12_factored_39 : decode cX12_factored 39 = .ok (.if_icmp .ne 17, 3) := by decide +kernel
theorem dX12_factored_42 : decode cX12_factored 42 = .ok (.aload_n 0, 1) := by decide +kernel
theorem dX12_factored_43 : decode cX12_factored 43 = .ok (.iload_n 1, 1) := by decide +kernel
theorem dX12_factored_44 : decode cX12_factored 44 = .ok (.invokevirtual 333, 3) := by decide +kernel
theorem dX12_factored_47 : decode cX12_factored 47 = .ok (.ifCond .eq 9, 3) := by decide +kernel
theorem dX12_factored_50 : decode cX12_factored 50 = .ok (.iinc 3 1, 3) := by decide +kernel
theorem dX12_factored_53 : decode cX12_factored 53 = .ok (.goto (-17), 3) := by decide +kernel
theorem dX12_factored_56 : decode cX12_factored 56 = .ok (.iload_n 2, 1) := by decide +kernel
theorem dX12_factored_57 : decode cX12_factored 57 = .ok (.tableswitch 104 0 7 #[47, 57, 70, 96, 104, 104, 104, 102], 47) := by decide +kernel
theorem dX12_factored_104 : decode cX12_factored 104 = .ok (.aload_n 0, 1) := by decide +kernel
theorem dX12_factored_105 : decode cX12_factored 105 = .ok (.getfield 11, 3) := by decide +kernel
theorem dX12_factored_108 : decode cX12_factored 108 = .ok (.bipush 33, 2) := by decide +kernel
theorem dX12_factored_110 : decode cX12_factored 110 = .ok (.iload_n 1, 1) := by decide +kernel
theorem dX12_factored_111 : decode cX12_factored 111 = .ok (.iadd, 1) := by decide +kernel
theorem dX12_factored_112 : decode cX12_factored 112 = .ok (.iaload, 1) := by decide +kernel
theorem dX12_factored_113 : decode cX12_factored 113 = .ok (.ireturn, 1) := by decide +kernel
theorem dX12_factored_114 : decode cX12_factored 114 = .ok (.aload_n 0, 1) := by decide +kernel
theorem dX12_factored_115 : decode cX12_factored 115 = .ok (.getfield 11, 3) := by decide +kernel
theorem dX12_factored_118 : decode cX12_factored 118 = .ok (.bipush 39, 2) := by decide +kernel
theorem dX12_factored_120 : decode cX12_factored 120 = .ok (.iload_n 1, 1) := by decide +kernel
theorem dX12_factored_121 : decode cX12_factored 121 = .ok (.iadd, 1) := by decide +kernel
theorem dX12_factored_122 : decode cX12_factored 122 = .ok (.iaload, 1) := by decide +kernel
theorem dX12_factored_123 : decode cX12_factored 123 = .ok (.bipush 100, 2) := by decide +kernel
theorem dX12_factored_125 : decode cX12_factored 125 = .ok (.iadd, 1) := by decide +kernel
theorem dX12_factored_126 : decode cX12_factored 126 = .ok (.ireturn, 1) := by decide +kernel
theorem dX12_factored_127 : decode cX12_factored 127 = .ok (.aload_n 0, 1) := by decide +kernel
theorem dX12_factored_128 : decode cX12_factored 128 = .ok (.iload_n 1, 1) := by decide +kernel
theorem dX12_factored_129 : decode cX12_factored 129 = .ok (.invokevirtual 322, 3) := by decide +kernel
theorem dX12_factored_132 : decode cX12_factored 132 = .ok (.iconst 2, 1) := by decide +kernel
theorem dX12_factored_133 : decode cX12_factored 133 = .ok (.if_icmp .ne 18, 3) := by decide +kernel
theorem dX12_factored_136 : decode cX12_factored 136 = .ok (.aload_n 0, 1) := by decide +kernel
theorem dX12_factored_137 : decode cX12_factored 137 = .ok (.getfield 11, 3) := by decide +kernel
theorem dX12_factored_140 : decode cX12_factored 140 = .ok (.bipush 45, 2) := by decide +kernel
theorem dX12_factored_142 : decode cX12_factored 142 = .ok (.iload_n 1, 1) := by decide +kernel
theorem dX12_factored_143 : decode cX12_factored 143 = .ok (.iadd, 1) := by decide +kernel
theorem dX12_factored_144 : decode cX12_factored 144 = .ok (.iaload, 1) := by decide +kernel
theorem dX12_factored_145 : decode cX12_factored 145 = .ok (.bipush 100, 2) := by decide +kernel
theorem dX12_factored_147 : decode cX12_factored 147 = .ok (.iadd, 1) := by decide +kernel
theorem dX12_factored_148 : decode cX12_factored 148 = .ok (.goto 4, 3) := by decide +kernel
theorem dX12_factored_151 : decode cX12_factored 151 = .ok (.iconst (-1), 1) := by decide +kernel
theorem dX12_factored_152 : decode cX12_factored 152 = .ok (.ireturn, 1) := by decide +kernel
theorem dX12_factored_153 : decode cX12_factored 153 = .ok (.aload_n 0, 1) := by decide +kernel
theorem dX12_factored_154 : decode cX12_factored 154 = .ok (.iload_n 1, 1) := by decide +kernel
theorem dX12_factored_155 : decode cX12_factored 155 = .ok (.invokevirtual 322, 3) := by decide +kernel
theorem dX12_factored_158 : decode cX12_factored 158 = .ok (.ireturn, 1) := by decide +kernel
theorem dX12_factored_159 : decode cX12_factored 159 = .ok (.iload_n 3, 1) := by decide +kernel
theorem dX12_factored_160 : decode cX12_factored 160 = .ok (.ireturn, 1) := by decide +kernel
theorem dX12_factored_161 : decode cX12_factored 161 = .ok (.aload_n 0, 1) := by decide +kernel
theorem dX12_factored_162 : decode cX12_factored 162 = .ok (.iload_n 1, 1) := by decide +kernel
theorem dX12_factored_163 : decode cX12_factored 163 = .ok (.iload_n 2, 1) := by decide +kernel
theorem dX12_factored_164 : decode cX12_factored 164 = .ok (.iconst 4, 1) := by decide +kernel
theorem dX12_factored_165 : decode cX12_factored 165 = .ok (.isub, 1) := by decide +kernel
theorem dX12_factored_166 : decode cX12_factored 166 = .ok (.invokevirtual 325, 3) := by decide +kernel
theorem dX12_factored_169 : decode cX12_factored 169 = .ok (.ireturn, 1) := by decide +kernel
theorem dX12_multiply_0 : decode cX12_multiply 0 = .ok (.aload_n 0, 1) := by decide +kernel
theorem dX12_multiply_1 : decode cX12_multiply 1 = .ok (.iconst 3, 1) := by decide +kernel
theorem dX12_multiply_2 : decode cX12_multiply 2 = .ok (.invokevirtual 328, 3) := by decide +kernel
theorem dX12_multiply_5 : decode cX12_multiply 5 = .ok (.istore_n 1, 1) := by decide +kernel
theorem dX12_multiply_6 : decode cX12_multiply 6 = .ok (.iload_n 1, 1) := by decide +kernel
theorem dX12_multiply_7 : decode cX12_multiply 7 = .ok (.bipush 6, 2) := by decide +kernel
theorem dX12_multiply_9 : decode cX12_multiply 9 = .ok (.if_icmp .le 6, 3) := by decide +kernel
theorem dX12_multiply_12 : decode cX12_multiply 12 = .ok (.bipush (-3), 2) := by decide +kernel
theorem dX12_multiply_14 : decode cX12_multiply 14 = .ok (.ireturn, 1) := by decide +kernel
theorem dX12_multiply_15 : decode cX12_multiply 15 = .ok (.iconst 0, 1) := by decide +kernel
theorem dX12_multiply_16 : decode cX12_multiply 16 = .ok (.istore_n 2, 1) := by decide +kernel
theorem dX12_multiply_17 : decode cX12_multiply 17 = .ok (.iload_n 2, 1) := by decide +kernel
theorem dX12_multiply_18 : decode cX12_multiply 18 = .ok (.bipush 7, 2) := by decide +kernel
theorem dX12_multiply_20 : decode cX12_multiply 20 = .ok (.if_icmp .ge 24, 3) := by decide +kernel
theorem dX12_multiply_23 : decode cX12_multiply 23 = .ok (.aload_n 0, 1) := by decide +kernel
theorem dX12_multiply_24 : decode cX12_multiply 24 = .ok (.getfield 25, 3) := by decide +kernel
theorem dX12_multiply_27 : decode cX12_multiply 27 = .ok (.iload_n 2, 1) := by decide +kernel
theorem dX12_multiply_28 : decode cX12_multiply 28 = .ok (.iload_n 2, 1) := by decide +kernel
theorem dX12_multiply_29 : decode cX12_multiply 29 = .ok (.ifCond .ne 7, 3) := by decide +kernel
theorem dX12_multiply_32 : decode cX12_multiply 32 = .ok (.lconst 1, 1) := by decide +kernel
theorem dX12_multiply_33 : decode cX12_multiply 33 = .ok (.goto 4, 3) := by decide +kernel
theorem dX12_multiply_36 : decode cX12_multiply 36 = .ok (.lconst 0, 1) := by decide +kernel
theorem dX12_multiply_37 : decode cX12_multiply 37 = .ok (.lastore, 1) := by decide +kernel
theorem dX12_multiply_38 : decode cX12_multiply 38 = .ok (.iinc 2 1, 3) := by decide +kernel
theorem dX12_multiply_41 : decode cX12_multiply 41 = .ok (.goto (-24), 3) := by decide +kernel
theorem dX12_multiply_44 : decode cX12_multiply 44 = .ok (.iconst 0, 1) := by decide +kernel
theorem dX12_multiply_45 : decode cX12_multiply 45 = .ok (.istore_n 2, 1) := by decide +kernel
theorem dX12_multiply_46 : decode cX12_multiply 46 = .ok (.iload_n 2, 1) := by decide +kernel
theorem dX12_multiply_47 : decode cX12_multiply 47 = .ok (.aload_n 0, 1) := by decide +kernel
theorem dX12_multiply_48 : decode cX12_multiply 48 = .ok (.getfield 11, 3) := by decide +kernel
theorem dX12_multiply_51 : decode cX12_multiply 51 = .ok (.bipush 32, 2) := by decide +kernel
theorem dX12_multiply_53 : decode cX12_multiply 53 = .ok (.iaload, 1) := by decide +kernel
theorem dX12_multiply_54 : decode cX12_multiply 54 = .ok (.if_icmp .ge 131, 3) := by decide +kernel
theorem dX12_multiply_57 : decode cX12_multiply 57 = .ok (.bipush 6, 2) := by decide +kernel
theorem dX12_multiply_59 : decode cX12_multiply 59 = .ok (.istore_n 3, 1) := by decide +kernel
theorem dX12_multiply_60 : decode cX12_multiply 60 = .ok (.iload_n 3, 1) := by decide +kernel
theorem dX12_multiply_61 : decode cX12_multiply 61 = .ok (.ifCond .lt 118, 3) := by decide +kernel
theorem dX12_multiply_64 : decode cX12_multiply 64 = .ok (.iload_n 3, 1) := by decide +kernel
theorem dX12_multiply_65 : decode cX12_multiply 65 = .ok (.ifCond .le 14, 3) := by decide +kernel
theorem dX12_multiply_68 : decode cX12_multiply 68 = .ok (.aload_n 0, 1) := by decide +kernel
theorem dX12_multiply_69 : decode cX12_multiply 69 = .ok (.getfield 25, 3) := by decide +kernel
theorem dX12_multiply_72 : decode cX12_multiply 72 = .ok (.iload_n 3, 1) := by decide +kernel
theorem dX12_multiply_73 : decode cX12_multiply 73 = .ok (.iconst 1, 1) := by decide +kernel
theorem dX12_multiply_74 : decode cX12_multiply 74 = .ok (.isub, 1) := by decide +kernel
theorem dX12_multiply_75 : decode cX12_multiply 75 = .ok (.laload, 1) := by decide +kernel
theorem dX12_multiply_76 : decode cX12_multiply 76 = .ok (.goto 4, 3) := by decide +kernel
theorem dX12_multiply_79 : decode cX12_multiply 79 = .ok (.lconst 0, 1) := by decide +kernel
theorem dX12_multiply_80 : decode cX12_multiply 80 = .ok (.lstore 4, 2) := by decide +kernel
theorem dX12_multiply_82 : decode cX12_multiply 82 = .ok (.iload_n 3, 1) := by decide +kernel
theorem dX12_multiply_83 : decode cX12_multiply 83 = .ok (.iconst 1, 1) := by decide +kernel
theorem dX12_multiply_84 : decode cX12_multiply 84 = .ok (.if_icmp .le 14, 3) := by decide +kernel
theorem dX12_multiply_87 : decode cX12_multiply 87 = .ok (.aload_n 0, 1) := by decide +kernel
theorem dX12_multiply_88 : decode cX12_multiply 88 = .ok (.getfield 25, 3) := by decide +kernel
theorem dX12_multiply_91 : decode cX12_multiply 91 = .ok (.iload_n 3, 1) := by decide +kernel
theorem dX12_multiply_92 : decode cX12_multiply 92 = .ok (.iconst 2, 1) := by decide +kernel
theorem dX12_multiply_93 : decode cX12_multiply 93 = .ok (.isub, 1) := by decide +kernel
theorem dX12_multiply_94 : decode cX12_multiply 94 = .ok (.laload, 1) := by decide +kernel
theorem dX12_multiply_95 : decode cX12_multiply 95 = .ok (.goto 4, 3) := by decide +kernel
theorem dX12_multiply_98 : decode cX12_multiply 98 = .ok (.lconst 0, 1) := by decide +kernel
theorem dX12_multiply_99 : decode cX12_multiply 99 = .ok (.lstore 6, 2) := by decide +kernel
theorem dX12_multiply_101 : decode cX12_multiply 101 = .ok (.aload_n 0, 1) := by decide +kernel
theorem dX12_multiply_102 : decode cX12_multiply 102 = .ok (.getfield 11, 3) := by decide +kernel
theorem dX12_multiply_105 : decode cX12_multiply 105 = .ok (.bipush 39, 2) := by decide +kernel
theorem dX12_multiply_107 : decode cX12_multiply 107 = .ok (.iload_n 2, 1) := by decide +kernel
theorem dX12_multiply_108 : decode cX12_multiply 108 = .ok (.iadd, 1) := by decide +kernel
theorem dX12_multiply_109 : decode cX12_multiply 109 = .ok (.iaload, 1) := by decide +kernel
theorem dX12_multiply_110 : decode cX12_multiply 110 = .ok (.i2l, 1) := by decide +kernel
theorem dX12_multiply_111 : decode cX12_multiply 111 = .ok (.lstore 8, 2) := by decide +kernel
theorem dX12_multiply_113 : decode cX12_multiply 113 = .ok (.aload_n 0, 1) := by decide +kernel
theorem dX12_multiply_114 : decode cX12_multiply 114 = .ok (.getfield 11, 3) := by decide +kernel
theorem dX12_multiply_117 : decode cX12_multiply 117 = .ok (.bipush 45, 2) := by decide +kernel
theorem dX12_multiply_119 : decode cX12_multiply 119 = .ok (.iload_n 2, 1) := by decide +kernel
theorem dX12_multiply_120 : decode cX12_multiply 120 = .ok (.iadd, 1) := by decide +kernel
theorem dX12_multiply_121 : decode cX12_multiply 121 = .ok (.iaload, 1) := by decide +kernel
theorem dX12_multiply_122 : decode cX12_multiply 122 = .ok (.i2l, 1) := by decide +kernel
theorem dX12_multiply_123 : decode cX12_multiply 123 = .ok (.lstore 10, 2) := by decide +kernel
theorem dX12_multiply_125 : decode cX12_multiply 125 = .ok (.aload_n 0, 1) := by decide +kernel
theorem dX12_multiply_126 : decode cX12_multiply 126 = .ok (.getfield 25, 3) := by decide +kernel
theorem dX12_multiply_129 : decode cX12_multiply 129 = .ok (.iload_n 3, 1) := by decide +kernel
theorem dX12_multiply_130 : decode cX12_multiply 130 = .ok (.aload_n 0, 1) := by decide +kernel
theorem dX12_multiply_131 : decode cX12_multiply 131 = .ok (.iload_n 2, 1) := by decide +kernel
theorem dX12_multiply_132 : decode cX12_multiply 132 = .ok (.invokevirtual 322, 3) := by decide +kernel
theorem dX12_multiply_135 : decode cX12_multiply 135 = .ok (.iconst 1, 1) := by decide +kernel
theorem dX12_multiply_136 : decode cX12_multiply 136 = .ok (.if_icmp .ne 18, 3) := by decide +kernel
theorem dX12_multiply_139 : decode cX12_multiply 139 = .ok (.lload 4, 2) := by decide +kernel
theorem dX12_multiply_141 : decode cX12_multiply 141 = .ok (.lload 8, 2) := by decide +kernel
theorem dX12_multiply_143 : decode cX12_multiply 143 = .ok (.aload_n 0, 1) := by decide +kernel
theorem dX12_multiply_144 : decode cX12_multiply 144 = .ok (.getfield 25, 3) := by decide +kernel
theorem dX12_multiply_147 : decode cX12_multiply 147 = .ok (.iload_n 3, 1) := by decide +kernel
theorem dX12_multiply_148 : decode cX12_multiply 148 = .ok (.laload, 1) := by decide +kernel
theorem dX12_multiply_149 : decode cX12_multiply 149 = .ok (.lmul, 1) := by decide +kernel
theorem dX12_multiply_150 : decode cX12_multiply 150 = .ok (.ladd, 1) := by decide +kernel
theorem dX12_multiply_151 : decode cX12_multiply 151 = .ok (.goto 21, 3) := by decide +kernel
theorem dX12_multiply_154 : decode cX12_multiply 154 = .ok (.lload 6, 2) := by decide +kernel
theorem dX12_multiply_156 : decode cX12_multiply 156 = .ok (.lload 8, 2) := by decide +kernel
theorem dX12_multiply_158 : decode cX12_multiply 158 = .ok (.lload 4, 2) := by decide +kernel
theorem dX12_multiply_160 : decode cX12_multiply 160 = .ok (.lmul, 1) := by decide +kernel
theorem dX12_multiply_161 : decode cX12_multiply 161 = .ok (.ladd, 1) := by decide +kernel
theorem dX12_multiply_162 : decode cX12_multiply 162 = .ok (.lload 10, 2) := by decide +kernel
theorem dX12_multiply_164 : decode cX12_multiply 164 = .ok (.aload_n 0, 1) := by decide +kernel
theorem dX12_multiply_165 : decode cX12_multiply 165 = .ok (.getfield 25, 3) := by decide +kernel
theorem dX12_multiply_168 : decode cX12_multiply 168 = .ok (.iload_n 3, 1) := by decide +kernel
theorem dX12_multiply_169 : decode cX12_multiply 169 = .ok (.laload, 1) := by decide +kernel
theorem dX12_multiply_170 : decode cX12_multiply 170 = .ok (.lmul, 1) := by decide +kernel
theorem dX12_multiply_171 : decode cX12_multiply 171 = .ok (.ladd, 1) := by decide +kernel
theorem dX12_multiply_172 : decode cX12_multiply 172 = .ok (.lastore, 1) := by decide +kernel
theorem dX12_multiply_173 : decode cX12_multiply 173 = .ok (.iinc 3 (-1), 3) := by decide +kernel
theorem dX12_multiply_176 : decode cX12_multiply 176 = .ok (.goto (-116), 3) := by decide +kernel
theorem dX12_multiply_179 : decode cX12_multiply 179 = .ok (.iinc 2 1, 3) := by decide +kernel
theorem dX12_multiply_182 : decode cX12_multiply 182 = .ok (.goto (-136), 3) := by decide +kernel
theorem dX12_multiply_185 : decode cX12_multiply 185 = .ok (.iconst 1, 1) := by decide +kernel
theorem dX12_multiply_186 : decode cX12_multiply 186 = .ok (.istore_n 2, 1) := by decide +kernel
theorem dX12_multiply_187 : decode cX12_multiply 187 = .ok (.iconst 0, 1) := by decide +kernel
theorem dX12_multiply_188 : decode cX12_multiply 188 = .ok (.istore_n 3, 1) := by decide +kernel
theorem dX12_multiply_189 : decode cX12_multiply 189 = .ok (.iload_n 3, 1) := by decide +kernel
theorem dX12_multiply_190 : decode cX12_multiply 190 = .ok (.bipush 7, 2) := by decide +kernel
theorem dX12_multiply_192 : decode cX12_multiply 192 = .ok (.if_icmp .ge 37, 3) := by decide +kernel
theorem dX12_multiply_195 : decode cX12_multiply 195 = .ok (.iload_n 2, 1) := by decide +kernel
theorem dX12_multiply_196 : decode cX12_multiply 196 = .ok (.ifCond .eq 25, 3) := by decide +kernel
theorem dX12_multiply_199 : decode cX12_multiply 199 = .ok (.aload_n 0, 1) := by decide +kernel
theorem dX12_multiply_200 : decode cX12_multiply 200 = .ok (.getfield 25, 3) := by decide +kernel
theorem dX12_multiply_203 : decode cX12_multiply 203 = .ok (.iload_n 3, 1) := by decide +kernel
theorem dX12_multiply_204 : decode cX12_multiply 204 = .ok (.laload, 1) := by decide +kernel
theorem dX12_multiply_205 : decode cX12_multiply 205 = .ok (.ldc2_w 91, 3) := by decide +kernel
theorem dX12_multiply_208 : decode cX12_multiply 208 = .ok (.ldc2_w 93, 3) := by decide +kernel
theorem dX12_multiply_211 : decode cX12_multiply 211 = .ok (.invokestatic 83, 3) := by decide +kernel
theorem dX12_multiply_214 : decode cX12_multiply 214 = .ok (.ifCond .eq 7, 3) := by decide +kernel
theorem dX12_multiply_217 : decode cX12_multiply 217 = .ok (.iconst 1, 1) := by decide +kernel
theorem dX12_multiply_218 : decode cX12_multiply 218 = .ok (.goto 4, 3) := by decide +kernel
theorem dX12_multiply_221 : decode cX12_multiply 221 = .ok (.iconst 0, 1) := by decide +kernel
theorem dX12_multiply_222 : decode cX12_multiply 222 = .ok (.istore_n 2, 1) := by decide +kernel
theorem dX12_multiply_223 : decode cX12_multiply 223 = .ok (.iinc 3 1, 3) := by decide +kernel
theorem dX12_multiply_226 : decode cX12_multiply 226 = .ok (.goto (-37), 3) := by decide +kernel
theorem dX12_multiply_229 : decode cX12_multiply 229 = .ok (.iconst 0, 1) := by decide +kernel
theorem dX12_multiply_230 : decode cX12_multiply 230 = .ok (.istore_n 3, 1) := by decide +kernel
theorem dX12_multiply_231 : decode cX12_multiply 231 = .ok (.iload_n 3, 1) := by decide +kernel
theorem dX12_multiply_232 : decode cX12_multiply 232 = .ok (.bipush 7, 2) := by decide +kernel
theorem dX12_multiply_234 : decode cX12_multiply 234 = .ok (.if_icmp .ge 28, 3) := by decide +kernel
theorem dX12_multiply_237 : decode cX12_multiply 237 = .ok (.iload_n 2, 1) := by decide +kernel
theorem dX12_multiply_238 : decode cX12_multiply 238 = .ok (.ifCond .eq 24, 3) := by decide +kernel
theorem dX12_multiply_241 : decode cX12_multiply 241 = .ok (.aload_n 0, 1) := by decide +kernel
theorem dX12_multiply_242 : decode cX12_multiply 242 = .ok (.getfield 11, 3) := by decide +kernel
theorem dX12_multiply_245 : decode cX12_multiply 245 = .ok (.iconst 0, 1) := by decide +kernel
theorem dX12_multiply_246 : decode cX12_multiply 246 = .ok (.iload_n 3, 1) := by decide +kernel
theorem dX12_multiply_247 : decode cX12_multiply 247 = .ok (.iadd, 1) := by decide +kernel
theorem dX12_multiply_248 : decode cX12_multiply 248 = .ok (.aload_n 0, 1) := by decide +kernel
theorem dX12_multiply_249 : decode cX12_multiply 249 = .ok (.getfield 25, 3) := by decide +kernel
theorem dX12_multiply_252 : decode cX12_multiply 252 = .ok (.iload_n 3, 1) := by decide +kernel
theorem dX12_multiply_253 : decode cX12_multiply 253 = .ok (.laload, 1) := by decide +kernel
theorem dX12_multiply_254 : decode cX12_multiply 254 = .ok (.l2i, 1) := by decide +kernel
theorem dX12_multiply_255 : decode cX12_multiply 255 = .ok (.iastore, 1) := by decide +kernel
theorem dX12_multiply_256 : decode cX12_multiply 256 = .ok (.iinc 3 1, 3) := by decide +kernel
theorem dX12_multiply_259 : decode cX12_multiply 259 = .ok (.goto (-28), 3) := by decide +kernel
theorem dX12_multiply_262 : decode cX12_multiply 262 = .ok (.iload_n 2, 1) := by decide +kernel
theorem dX12_multiply_263 : decode cX12_multiply 263 = .ok (.ifCond .eq 7, 3) := by decide +kernel
theorem dX12_multiply_266 : decode cX12_multiply 266 = .ok (.iload_n 1, 1) := by decide +kernel
theorem dX12_multiply_267 : decode cX12_multiply 267 = .ok (.goto 5, 3) := by decide +kernel
theorem dX12_multiply_270 : decode cX12_multiply 270 = .ok (.bipush (-7), 2) := by decide +kernel
theorem dX12_multiply_272 : decode cX12_multiply 272 = .ok (.ireturn, 1) := by decide +kernel
theorem dX12_rightsAt_0 : decode cX12_rightsAt 0 = .ok (.aload_n 0, 1) := by decide +kernel
theorem dX12_rightsAt_1 : decode cX12_rightsAt 1 = .ok (.iconst 1, 1) := by decide +kernel
theorem dX12_rightsAt_2 : decode cX12_rightsAt 2 = .ok (.iload_n 1, 1) := by decide +kernel
theorem dX12_rightsAt_3 : decode cX12_rightsAt 3 = .ok (.invokevirtual 97, 3) := by decide +kernel
theorem dX12_rightsAt_6 : decode cX12_rightsAt 6 = .ok (.aload_n 0, 1) := by decide +kernel
theorem dX12_rightsAt_7 : decode cX12_rightsAt 7 = .ok (.iconst 0, 1) := by decide +kernel
theorem dX12_rightsAt_8 : decode cX12_rightsAt 8 = .ok (.invokevirtual 127, 3) := by decide +kernel
theorem dX12_rightsAt_11 : decode cX12_rightsAt 11 = .ok (.aload_n 0, 1) := by decide +kernel
theorem dX12_rightsAt_12 : decode cX12_rightsAt 12 = .ok (.invokevirtual 170, 3) := by decide +kernel
theorem dX12_rightsAt_15 : decode cX12_rightsAt 15 = .ok (.aload_n 0, 1) := by decide +kernel
theorem dX12_rightsAt_16 : decode cX12_rightsAt 16 = .ok (.getfield 69, 3) := by decide +kernel
theorem dX12_rightsAt_19 : decode cX12_rightsAt 19 = .ok (.ifCond .eq 8, 3) := by decide +kernel
theorem dX12_rightsAt_22 : decode cX12_rightsAt 22 = .ok (.bipush (-7), 2) := by decide +kernel
theorem dX12_rightsAt_24 : decode cX12_rightsAt 24 = .ok (.goto 7, 3) := by decide +kernel
theorem dX12_rightsAt_27 : decode cX12_rightsAt 27 = .ok (.aload_n 0, 1) := by decide +kernel
theorem dX12_rightsAt_28 : decode cX12_rightsAt 28 = .ok (.invokevirtual 187, 3) := by decide +kernel
theorem dX12_rightsAt_31 : decode cX12_rightsAt 31 = .ok (.ireturn, 1) := by decide +kernel
theorem dX12_rights_0 : decode cX12_rights 0 = .ok (.iload_n 1, 1) := by decide +kernel
theorem dX12_rights_1 : decode cX12_rights 1 = .ok (.i2l, 1) := by decide +kernel
theorem dX12_rights_2 : decode cX12_rights 2 = .ok (.ldc2_w 101, 3) := by decide +kernel
theorem dX12_rights_5 : decode cX12_rights 5 = .ok (.ldc2_w 103, 3) := by decide +kernel
theorem dX12_rights_8 : decode cX12_rights 8 = .ok (.invokestatic 83, 3) := by decide +kernel
theorem dX12_rights_11 : decode cX12_rights 11 = .ok (.ifCond .eq 11, 3) := by decide +kernel
theorem dX12_rights_14 : decode cX12_rights 14 = .ok (.aload_n 0, 1) := by decide +kernel
theorem dX12_rights_15 : decode cX12_rights 15 = .ok (.iload_n 1, 1) := by decide +kernel
theorem dX12_rights_16 : decode cX12_rights 16 = .ok (.invokevirtual 336, 3) := by decide +kernel
theorem dX12_rights_19 : decode cX12_rights 19 = .ok (.goto 5, 3) := by decide +kernel
theorem dX12_rights_22 : decode cX12_rights 22 = .ok (.bipush (-2), 2) := by decide +kernel
theorem dX12_rights_24 : decode cX12_rights 24 = .ok (.ireturn, 1) := by decide +kernel
theorem dX12_findsJump_0 : decode cX12_findsJump 0 = .ok (.aload_n 0, 1) := by decide +kernel
theorem dX12_findsJump_1 : decode cX12_findsJump 1 = .ok (.iconst 0, 1) := by decide +kernel
theorem dX12_findsJump_2 : decode cX12_findsJump 2 = .ok (.putfield 339, 3) := by decide +kernel
theorem dX12_findsJump_5 : decode cX12_findsJump 5 = .ok (.aload_n 0, 1) := by decide +kernel
theorem dX12_findsJump_6 : decode cX12_findsJump 6 = .ok (.bipush (-100), 2) := by decide +kernel
theorem dX12_findsJump_8 : decode cX12_findsJump 8 = .ok (.invokevirtual 336, 3) := by decide +kernel
theorem dX12_findsJump_11 : decode cX12_findsJump 11 = .ok (.istore_n 2, 1) := by decide +kernel
theorem dX12_findsJump_12 : decode cX12_findsJump 12 = .ok (.bipush (-99), 2) := by decide +kernel
theorem dX12_findsJump_14 : decode cX12_findsJump 14 = .ok (.istore_n 3, 1) := by decide +kernel
theorem dX12_findsJump_15 : decode cX12_findsJump 15 = .ok (.iload_n 3, 1) := by decide +kernel
theorem dX12_findsJump_16 : decode cX12_findsJump 16 = .ok (.bipush 100, 2) := by decide +kernel
theorem dX12_findsJump_18 : decode cX12_findsJump 18 = .ok (.if_icmp .gt 55, 3) := by decide +kernel
theorem dX12_findsJump_21 : decode cX12_findsJump 21 = .ok (.aload_n 0, 1) := by decide +kernel
theorem dX12_findsJump_22 : decode cX12_findsJump 22 = .ok (.iload_n 3, 1) := by decide +kernel
theorem dX12_findsJump_23 : decode cX12_findsJump 23 = .ok (.invokevirtual 336, 3) := by decide +kernel
theorem dX12_findsJump_26 : decode cX12_findsJump 26 = .ok (.istore 4, 2) := by decide +kernel
theorem dX12_findsJump_28 : decode cX12_findsJump 28 = .ok (.iload 4, 2) := by decide +kernel
theorem dX12_findsJump_30 : decode cX12_findsJump 30 = .ok (.iload_n 2, 1) := by decide +kernel
theorem dX12_findsJump_31 : decode cX12_findsJump 31 = .ok (.if_icmp .eq 33, 3) := by decide +kernel
theorem dX12_findsJump_34 : decode cX12_findsJump 34 = .ok (.aload_n 0, 1) := by decide +kernel
theorem dX12_findsJump_35 : decode cX12_findsJump 35 = .ok (.aload_n 0, 1) := by decide +kernel
theorem dX12_findsJump_36 : decode cX12_findsJump 36 = .ok (.getfield 339, 3) := by decide +kernel
theorem dX12_findsJump_39 : decode cX12_findsJump 39 = .ok (.iload_n 1, 1) := by decide +kernel
theorem dX12_findsJump_40 : decode cX12_findsJump 40 = .ok (.if_icmp .ne 7, 3) := by decide +kernel
theorem dX12_findsJump_43 : decode cX12_findsJump 43 = .ok (.iload_n 3, 1) := by decide +kernel
theorem dX12_findsJump_44 : decode cX12_findsJump 44 = .ok (.goto 7, 3) := by decide +kernel
theorem dX12_findsJump_47 : decode cX12_findsJump 47 = .ok (.aload_n 0, 1) := by decide +kernel
theorem dX12_findsJump_48 : decode cX12_findsJump 48 = .ok (.getfield 342, 3) := by decide +kernel
theorem dX12_findsJump_51 : decode cX12_findsJump 51 = .ok (.putfield 342, 3) := by decide +kernel
theorem dX12_findsJump_54 : decode cX12_findsJump 54 = .ok (.aload_n 0, 1) := by decide +kernel
theorem dX12_findsJump_55 : decode cX12_findsJump 55 = .ok (.dup, 1) := by decide +kernel
theorem dX12_findsJump_56 : decode cX12_findsJump 56 = .ok (.getfield 339, 3) := by decide +kernel
theorem dX12_findsJump_59 : decode cX12_findsJump 59 = .ok (.iconst 1, 1) := by decide +kernel
theorem dX12_findsJump_60 : decode cX12_findsJump 60 = .ok (.iadd, 1) := by decide +kernel
theorem dX12_findsJump_61 : decode cX12_findsJump 61 = .ok (.putfield 339, 3) := by decide +kernel
theorem dX12_findsJump_64 : decode cX12_findsJump 64 = .ok (.iload 4, 2) := by decide +kernel
theorem dX12_findsJump_66 : decode cX12_findsJump 66 = .ok (.istore_n 2, 1) := by decide +kernel
theorem dX12_findsJump_67 : decode cX12_findsJump 67 = .ok (.iinc 3 1, 3) := by decide +kernel
theorem dX12_findsJump_70 : decode cX12_findsJump 70 = .ok (.goto (-55), 3) := by decide +kernel
theorem dX12_findsJump_73 : decode cX12_findsJump 73 = .ok (.return_, 1) := by decide +kernel
theorem dX12_jumps_0 : decode cX12_jumps 0 = .ok (.aload_n 0, 1) := by decide +kernel
theorem dX12_jumps_1 : decode cX12_jumps 1 = .ok (.iconst 0, 1) := by decide +kernel
theorem dX12_jumps_2 : decode cX12_jumps 2 = .ok (.invokevirtual 345, 3) := by decide +kernel
theorem dX12_jumps_5 : decode cX12_jumps 5 = .ok (.aload_n 0, 1) := by decide +kernel
theorem dX12_jumps_6 : decode cX12_jumps 6 = .ok (.getfield 339, 3) := by decide +kernel
theorem dX12_jumps_9 : decode cX12_jumps 9 = .ok (.ireturn, 1) := by decide +kernel
theorem dX12_jump_0 : decode cX12_jump 0 = .ok (.aload_n 0, 1) := by decide +kernel
theorem dX12_jump_1 : decode cX12_jump 1 = .ok (.iload_n 1, 1) := by decide +kernel
theorem dX12_jump_2 : decode cX12_jump 2 = .ok (.invokevirtual 345, 3) := by decide +kernel
theorem dX12_jump_5 : decode cX12_jump 5 = .ok (.iload_n 1, 1) := by decide +kernel
theorem dX12_jump_6 : decode cX12_jump 6 = .ok (.i2l, 1) := by decide +kernel
theorem dX12_jump_7 : decode cX12_jump 7 = .ok (.lconst 0, 1) := by decide +kernel
theorem dX12_jump_8 : decode cX12_jump 8 = .ok (.aload_n 0, 1) := by decide +kernel
theorem dX12_jump_9 : decode cX12_jump 9 = .ok (.getfield 339, 3) := by decide +kernel
theorem dX12_jump_12 : decode cX12_jump 12 = .ok (.iconst 1, 1) := by decide +kernel
theorem dX12_jump_13 : decode cX12_jump 13 = .ok (.isub, 1) := by decide +kernel
theorem dX12_jump_14 : decode cX12_jump 14 = .ok (.i2l, 1) := by decide +kernel
theorem dX12_jump_15 : decode cX12_jump 15 = .ok (.invokestatic 83, 3) := by decide +kernel
theorem dX12_jump_18 : decode cX12_jump 18 = .ok (.ifCond .eq 14, 3) := by decide +kernel
theorem dX12_jump_21 : decode cX12_jump 21 = .ok (.aload_n 0, 1) := by decide +kernel
theorem dX12_jump_22 : decode cX12_jump 22 = .ok (.getfield 342, 3) := by decide +kernel
theorem dX12_jump_25 : decode cX12_jump 25 = .ok (.sipush 1000, 3) := by decide +kernel
theorem dX12_jump_28 : decode cX12_jump 28 = .ok (.iadd, 1) := by decide +kernel
theorem dX12_jump_29 : decode cX12_jump 29 = .ok (.goto 4, 3) := by decide +kernel
theorem dX12_jump_32 : decode cX12_jump 32 = .ok (.iconst (-1), 1) := by decide +kernel
theorem dX12_jump_33 : decode cX12_jump 33 = .ok (.ireturn, 1) := by decide +kernel
theorem dX12_best_0 : decode cX12_best 0 = .ok (.iconst 0, 1) := by decide +kernel
theorem dX12_best_1 : decode cX12_best 1 = .ok (.istore_n 1, 1) := by decide +kernel
theorem dX12_best_2 : decode cX12_best 2 = .ok (.iconst (-1), 1) := by decide +kernel
theorem dX12_best_3 : decode cX12_best 3 = .ok (.istore_n 2, 1) := by decide +kernel
theorem dX12_best_4 : decode cX12_best 4 = .ok (.iconst 0, 1) := by decide +kernel
theorem dX12_best_5 : decode cX12_best 5 = .ok (.istore_n 3, 1) := by decide +kernel
theorem dX12_best_6 : decode cX12_best 6 = .ok (.iload_n 3, 1) := by decide +kernel
theorem dX12_best_7 : decode cX12_best 7 = .ok (.sipush 200, 3) := by decide +kernel
theorem dX12_best_10 : decode cX12_best 10 = .ok (.if_icmp .gt 58, 3) := by decide +kernel
theorem dX12_best_13 : decode cX12_best 13 = .ok (.iload_n 3, 1) := by decide +kernel
theorem dX12_best_14 : decode cX12_best 14 = .ok (.iconst 2, 1) := by decide +kernel
theorem dX12_best_15 : decode cX12_best 15 = .ok (.irem, 1) := by decide +kernel
theorem dX12_best_16 : decode cX12_best 16 = .ok (.ifCond .ne 9, 3) := by decide +kernel
theorem dX12_best_19 : decode cX12_best 19 = .ok (.iload_n 3, 1) := by decide +kernel
theorem dX12_best_20 : decode cX12_best 20 = .ok (.iconst 2, 1) := by decide +kernel
theorem dX12_best_21 : decode cX12_best 21 = .ok (.idiv, 1) := by decide +kernel
theorem dX12_best_22 : decode cX12_best 22 = .ok (.goto 9, 3) := by decide +kernel
theorem dX12_best_25 : decode cX12_best 25 = .ok (.iload_n 3, 1) := by decide +kernel
theorem dX12_best_26 : decode cX12_best 26 = .ok (.iconst 1, 1) := by decide +kernel
theorem dX12_best_27 : decode cX12_best 27 = .ok (.iadd, 1) := by decide +kernel
theorem dX12_best_28 : decode cX12_best 28 = .ok (.ineg, 1) := by decide +kernel
theorem dX12_best_29 : decode cX12_best 29 = .ok (.iconst 2, 1) := by decide +kernel
theorem dX12_best_30 : decode cX12_best 30 = .ok (.idiv, 1) := by decide +kernel
theorem dX12_best_31 : decode cX12_best 31 = .ok (.istore 4, 2) := by decide +kernel
theorem dX12_best_33 : decode cX12_best 33 = .ok (.aload_n 0, 1) := by decide +kernel
theorem dX12_best_34 : decode cX12_best 34 = .ok (.iload 4, 2) := by decide +kernel
theorem dX12_best_36 : decode cX12_best 36 = .ok (.invokevirtual 336, 3) := by decide +kernel
theorem dX12_best_39 : decode cX12_best 39 = .ok (.istore 5, 2) := by decide +kernel
theorem dX12_best_41 : decode cX12_best 41 = .ok (.iload 5, 2) := by decide +kernel
theorem dX12_best_43 : decode cX12_best 43 = .ok (.ifCond .lt 19, 3) := by decide +kernel
theorem dX12_best_46 : decode cX12_best 46 = .ok (.iload_n 2, 1) := by decide +kernel
theorem dX12_best_47 : decode cX12_best 47 = .ok (.ifCond .lt 9, 3) := by decide +kernel
theorem dX12_best_50 : decode cX12_best 50 = .ok (.iload 5, 2) := by decide +kernel
theorem dX12_best_52 : decode cX12_best 52 = .ok (.iload_n 2, 1) := by decide +kernel
theorem dX12_best_53 : decode cX12_best 53 = .ok (.if_icmp .ge 9, 3) := by decide +kernel
theorem dX12_best_56 : decode cX12_best 56 = .ok (.iload 4, 2) := by decide +kernel
theorem dX12_best_58 : decode cX12_best 58 = .ok (.istore_n 1, 1) := by decide +kernel
theorem dX12_best_59 : decode cX12_best 59 = .ok (.iload 5, 2) := by decide +kernel
theorem dX12_best_61 : decode cX12_best 61 = .ok (.istore_n 2, 1) := by decide +kernel
theorem dX12_best_62 : decode cX12_best 62 = .ok (.iinc 3 1, 3) := by decide +kernel
theorem dX12_best_65 : decode cX12_best 65 = .ok (.goto (-59), 3) := by decide +kernel
theorem dX12_best_68 : decode cX12_best 68 = .ok (.iload_n 2, 1) := by decide +kernel
theorem dX12_best_69 : decode cX12_best 69 = .ok (.ifCond .ge 7, 3) := by decide +kernel
theorem dX12_best_72 : decode cX12_best 72 = .ok (.iconst (-1), 1) := by decide +kernel
theorem dX12_best_73 : decode cX12_best 73 = .ok (.goto 8, 3) := by decide +kernel
theorem dX12_best_76 : decode cX12_best 76 = .ok (.iload_n 1, 1) := by decide +kernel
theorem dX12_best_77 : decode cX12_best 77 = .ok (.sipush 1000, 3) := by decide +kernel
theorem dX12_best_80 : decode cX12_best 80 = .ok (.iadd, 1) := by decide +kernel
theorem dX12_best_81 : decode cX12_best 81 = .ok (.ireturn, 1) := by decide +kernel
theorem dX12_copies_0 : decode cX12_copies 0 = .ok (.iconst 0, 1) := by decide +kernel
theorem dX12_copies_1 : decode cX12_copies 1 = .ok (.istore_n 2, 1) := by decide +kernel
theorem dX12_copies_2 : decode cX12_copies 2 = .ok (.iload_n 2, 1) := by decide +kernel
theorem dX12_copies_3 : decode cX12_copies 3 = .ok (.bipush 51, 2) := by decide +kernel
theorem dX12_copies_5 : decode cX12_copies 5 = .ok (.if_icmp .ge 15, 3) := by decide +kernel
theorem dX12_copies_8 : decode cX12_copies 8 = .ok (.aload_n 1, 1) := by decide +kernel
theorem dX12_copies_9 : decode cX12_copies 9 = .ok (.iload_n 2, 1) := by decide +kernel
theorem dX12_copies_10 : decode cX12_copies 10 = .ok (.aload_n 0, 1) := by decide +kernel
theorem dX12_copies_11 : decode cX12_copies 11 = .ok (.iload_n 2, 1) := by decide +kernel
theorem dX12_copies_12 : decode cX12_copies 12 = .ok (.iaload, 1) := by decide +kernel
theorem dX12_copies_13 : decode cX12_copies 13 = .ok (.iastore, 1) := by decide +kernel
theorem dX12_copies_14 : decode cX12_copies 14 = .ok (.iinc 2 1, 3) := by decide +kernel
theorem dX12_copies_17 : decode cX12_copies 17 = .ok (.goto (-15), 3) := by decide +kernel
theorem dX12_copies_20 : decode cX12_copies 20 = .ok (.return_, 1) := by decide +kernel
theorem dX12_image_0 : decode cX12_image 0 = .ok (.aload_n 0, 1) := by decide +kernel
theorem dX12_image_1 : decode cX12_image 1 = .ok (.getfield 11, 3) := by decide +kernel
theorem dX12_image_4 : decode cX12_image 4 = .ok (.aload_n 0, 1) := by decide +kernel
theorem dX12_image_5 : decode cX12_image 5 = .ok (.getfield 15, 3) := by decide +kernel
theorem dX12_image_8 : decode cX12_image 8 = .ok (.invokestatic 348, 3) := by decide +kernel
theorem dX12_image_11 : decode cX12_image 11 = .ok (.aload_n 0, 1) := by decide +kernel
theorem dX12_image_12 : decode cX12_image 12 = .ok (.iconst 1, 1) := by decide +kernel
theorem dX12_image_13 : decode cX12_image 13 = .ok (.putfield 352, 3) := by decide +kernel
theorem dX12_image_16 : decode cX12_image 16 = .ok (.aload_n 0, 1) := by decide +kernel
theorem dX12_image_17 : decode cX12_image 17 = .ok (.getfield 11, 3) := by decide +kernel
theorem dX12_image_20 : decode cX12_image 20 = .ok (.bipush 15, 2) := by decide +kernel
theorem dX12_image_22 : decode cX12_image 22 = .ok (.iaload, 1) := by decide +kernel
theorem dX12_image_23 : decode cX12_image 23 = .ok (.ireturn, 1) := by decide +kernel
theorem dX12_undo_0 : decode cX12_undo 0 = .ok (.aload_n 0, 1) := by decide +kernel
theorem dX12_undo_1 : decode cX12_undo 1 = .ok (.getfield 352, 3) := by decide +kernel
theorem dX12_undo_4 : decode cX12_undo 4 = .ok (.ifCond .ne 6, 3) := by decide +kernel
theorem dX12_undo_7 : decode cX12_undo 7 = .ok (.bipush (-3), 2) := by decide +kernel
theorem dX12_undo_9 : decode cX12_undo 9 = .ok (.ireturn, 1) := by decide +kernel
theorem dX12_undo_10 : decode cX12_undo 10 = .ok (.aload_n 0, 1) := by decide +kernel
theorem dX12_undo_11 : decode cX12_undo 11 = .ok (.getfield 15, 3) := by decide +kernel
theorem dX12_undo_14 : decode cX12_undo 14 = .ok (.aload_n 0, 1) := by decide +kernel
theorem dX12_undo_15 : decode cX12_undo 15 = .ok (.getfield 11, 3) := by decide +kernel
theorem dX12_undo_18 : decode cX12_undo 18 = .ok (.invokestatic 348, 3) := by decide +kernel
theorem dX12_undo_21 : decode cX12_undo 21 = .ok (.aload_n 0, 1) := by decide +kernel
theorem dX12_undo_22 : decode cX12_undo 22 = .ok (.getfield 11, 3) := by decide +kernel
theorem dX12_undo_25 : decode cX12_undo 25 = .ok (.bipush 15, 2) := by decide +kernel
theorem dX12_undo_27 : decode cX12_undo 27 = .ok (.iaload, 1) := by decide +kernel
theorem dX12_undo_28 : decode cX12_undo 28 = .ok (.ireturn, 1) := by decide +kernel
theorem dJ9_abs_0f7a4_0 : decode cJ9_abs_0f7a4 0 = .ok (.iload_n 0, 1) := by decide +kernel
theorem dJ9_abs_0f7a4_1 : decode cJ9_abs_0f7a4 1 = .ok (.ifCond .ge 8, 3) := by decide +kernel
theorem dJ9_abs_0f7a4_4 : decode cJ9_abs_0f7a4 4 = .ok (.iload_n 0, 1) := by decide +kernel
theorem dJ9_abs_0f7a4_5 : decode cJ9_abs_0f7a4 5 = .ok (.ineg, 1) := by decide +kernel
theorem dJ9_abs_0f7a4_6 : decode cJ9_abs_0f7a4 6 = .ok (.goto 4, 3) := by decide +kernel
theorem dJ9_abs_0f7a4_9 : decode cJ9_abs_0f7a4 9 = .ok (.iload_n 0, 1) := by decide +kernel
theorem dJ9_abs_0f7a4_10 : decode cJ9_abs_0f7a4 10 = .ok (.ireturn, 1) := by decide +kernel
theorem dJ9_abs_067f4_0 : decode cJ9_abs_067f4 0 = .ok (.lload_n 0, 1) := by decide +kernel
theorem dJ9_abs_067f4_1 : decode cJ9_abs_067f4 1 = .ok (.lconst 0, 1) := by decide +kernel
theorem dJ9_abs_067f4_2 : decode cJ9_abs_067f4 2 = .ok (.lcmp, 1) := by decide +kernel
theorem dJ9_abs_067f4_3 : decode cJ9_abs_067f4 3 = .ok (.ifCond .ge 8, 3) := by decide +kernel
theorem dJ9_abs_067f4_6 : decode cJ9_abs_067f4 6 = .ok (.lload_n 0, 1) := by decide +kernel
theorem dJ9_abs_067f4_7 : decode cJ9_abs_067f4 7 = .ok (.lneg, 1) := by decide +kernel
theorem dJ9_abs_067f4_8 : decode cJ9_abs_067f4 8 = .ok (.goto 4, 3) := by decide +kernel
theorem dJ9_abs_067f4_11 : decode cJ9_abs_067f4 11 = .ok (.lload_n 0, 1) := by decide +kernel
theorem dJ9_abs_067f4_12 : decode cJ9_abs_067f4 12 = .ok (.lreturn, 1) := by decide +kernel
theorem dJ9_max_7cf53_0 : decode cJ9_max_7cf53 0 = .ok (.iload_n 0, 1) := by decide +kernel
theorem dJ9_max_7cf53_1 : decode cJ9_max_7cf53 1 = .ok (.iload_n 1, 1) := by decide +kernel
theorem dJ9_max_7cf53_2 : decode cJ9_max_7cf53 2 = .ok (.if_icmp .lt 7, 3) := by decide +kernel
theorem dJ9_max_7cf53_5 : decode cJ9_max_7cf53 5 = .ok (.iload_n 0, 1) := by decide +kernel
theorem dJ9_max_7cf53_6 : decode cJ9_max_7cf53 6 = .ok (.goto 4, 3) := by decide +kernel
theorem dJ9_max_7cf53_9 : decode cJ9_max_7cf53 9 = .ok (.iload_n 1, 1) := by decide +kernel
theorem dJ9_max_7cf53_10 : decode cJ9_max_7cf53 10 = .ok (.ireturn, 1) := by decide +kernel
theorem dJ9_min_7cf53_0 : decode cJ9_min_7cf53 0 = .ok (.iload_n 0, 1) := by decide +kernel
theorem dJ9_min_7cf53_1 : decode cJ9_min_7cf53 1 = .ok (.iload_n 1, 1) := by decide +kernel
theorem dJ9_min_7cf53_2 : decode cJ9_min_7cf53 2 = .ok (.if_icmp .gt 7, 3) := by decide +kernel
theorem dJ9_min_7cf53_5 : decode cJ9_min_7cf53 5 = .ok (.iload_n 0, 1) := by decide +kernel
theorem dJ9_min_7cf53_6 : decode cJ9_min_7cf53 6 = .ok (.goto 4, 3) := by decide +kernel
theorem dJ9_min_7cf53_9 : decode cJ9_min_7cf53 9 = .ok (.iload_n 1, 1) := by decide +kernel
theorem dJ9_min_7cf53_10 : decode cJ9_min_7cf53 10 = .ok (.ireturn, 1) := by decide +kernel
theorem dL_law_0 : decode cL_law 0 = .ok (.new 7, 3) := by decide +kernel
theorem dL_law_3 : decode cL_law 3 = .ok (.dup, 1) := by decide +kernel
theorem dL_law_4 : decode cL_law 4 = .ok (.invokespecial 9, 3) := by decide +kernel
theorem dL_law_7 : decode cL_law 7 = .ok (.astore_n 1, 1) := by decide +kernel
theorem dL_law_8 : decode cL_law 8 = .ok (.new 10, 3) := by decide +kernel
theorem dL_law_11 : decode cL_law 11 = .ok (.dup, 1) := by decide +kernel
theorem dL_law_12 : decode cL_law 12 = .ok (.invokespecial 12, 3) := by decide +kernel
theorem dL_law_15 : decode cL_law 15 = .ok (.astore_n 2, 1) := by decide +kernel
theorem dL_law_16 : decode cL_law 16 = .ok (.iconst 0, 1) := by decide +kernel
theorem dL_law_17 : decode cL_law 17 = .ok (.istore_n 3, 1) := by decide +kernel
theorem dL_law_18 : decode cL_law 18 = .ok (.iload_n 3, 1) := by decide +kernel
theorem dL_law_19 : decode cL_law 19 = .ok (.aload_n 0, 1) := by decide +kernel
theorem dL_law_20 : decode cL_law 20 = .ok (.arraylength, 1) := by decide +kernel
theorem dL_law_21 : decode cL_law 21 = .ok (.bipush 6, 2) := by decide +kernel
theorem dL_law_23 : decode cL_law 23 = .ok (.isub, 1) := by decide +kernel
theorem dL_law_24 : decode cL_law 24 = .ok (.if_icmp .gt 1524, 3) := by decide +kernel
theorem dL_law_27 : decode cL_law 27 = .ok (.aload_n 0, 1) := by decide +kernel
theorem dL_law_28 : decode cL_law 28 = .ok (.iload_n 3, 1) := by decide +kernel
theorem dL_law_29 : decode cL_law 29 = .ok (.iaload, 1) := by decide +kernel
theorem dL_law_30 : decode cL_law 30 = .ok (.bipush 63, 2) := by decide +kernel
theorem dL_law_32 : decode cL_law 32 = .ok (.iand, 1) := by decide +kernel
theorem dL_law_33 : decode cL_law 33 = .ok (.tableswitch 1509 0 43 #[191, 235, 269, 292, 315, 328, 362, 395, 439, 472, 505, 548, 581, 594, 637, 660, 703, 736, 749, 783, 806, 839, 862, 875, 898, 931, 954, 997, 1030, 1053, 1076, 1089, 1112, 1125, 1148, 1161, 1204, 1277, 1311, 1354, 1397, 1460, 1483, 1496], 191) := by decide +kernel
theorem dL_law_224 : decode cL_law 224 = .ok (.aload_n 1, 1) := by decide +kernel
theorem dL_law_225 : decode cL_law 225 = .ok (.aload_n 0, 1) := by decide +kernel
theorem dL_law_226 : decode cL_law 226 = .ok (.iload_n 3, 1) := by decide +kernel
theorem dL_law_227 : decode cL_law 227 = .ok (.iconst 1, 1) := by decide +kernel
theorem dL_law_228 : decode cL_law 228 = .ok (.iadd, 1) := by decide +kernel
theorem dL_law_229 : decode cL_law 229 = .ok (.iaload, 1) := by decide +kernel
theorem dL_law_230 : decode cL_law 230 = .ok (.aload_n 0, 1) := by decide +kernel
theorem dL_law_231 : decode cL_law 231 = .ok (.iload_n 3, 1) := by decide +kernel
theorem dL_law_232 : decode cL_law 232 = .ok (.iconst 2, 1) := by decide +kernel
theorem dL_law_233 : decode cL_law 233 = .ok (.iadd, 1) := by decide +kernel
theorem dL_law_234 : decode cL_law 234 = .ok (.iaload, 1) := by decide +kernel
theorem dL_law_235 : decode cL_law 235 = .ok (.aload_n 0, 1) := by decide +kernel
theorem dL_law_236 : decode cL_law 236 = .ok (.iload_n 3, 1) := by decide +kernel
theorem dL_law_237 : decode cL_law 237 = .ok (.iconst 3, 1) := by decide +kernel
theorem dL_law_238 : decode cL_law 238 = .ok (.iadd, 1) := by decide +kernel
theorem dL_law_239 : decode cL_law 239 = .ok (.iaload, 1) := by decide +kernel
theorem dL_law_240 : decode cL_law 240 = .ok (.invokevirtual 13, 3) := by decide +kernel
theorem dL_law_243 : decode cL_law 243 = .ok (.aload_n 2, 1) := by decide +kernel
theorem dL_law_244 : decode cL_law 244 = .ok (.aload_n 0, 1) := by decide +kernel
theorem dL_law_245 : decode cL_law 245 = .ok (.iload_n 3, 1) := by decide +kernel
theorem dL_law_246 : decode cL_law 246 = .ok (.iconst 1, 1) := by decide +kernel
theorem dL_law_247 : decode cL_law 247 = .ok (.iadd, 1) := by decide +kernel
theorem dL_law_248 : decode cL_law 248 = .ok (.iaload, 1) := by decide +kernel
theorem dL_law_249 : decode cL_law 249 = .ok (.aload_n 0, 1) := by decide +kernel
theorem dL_law_250 : decode cL_law 250 = .ok (.iload_n 3, 1) := by decide +kernel
theorem dL_law_251 : decode cL_law 251 = .ok (.iconst 2, 1) := by decide +kernel
theorem dL_law_252 : decode cL_law 252 = .ok (.iadd, 1) := by decide +kernel
theorem dL_law_253 : decode cL_law 253 = .ok (.iaload, 1) := by decide +kernel
theorem dL_law_254 : decode cL_law 254 = .ok (.aload_n 0, 1) := by decide +kernel
theorem dL_law_255 : decode cL_law 255 = .ok (.iload_n 3, 1) := by decide +kernel
theorem dL_law_256 : decode cL_law 256 = .ok (.iconst 3, 1) := by decide +kernel
theorem dL_law_257 : decode cL_law 257 = .ok (.iadd, 1) := by decide +kernel
theorem dL_law_258 : decode cL_law 258 = .ok (.iaload, 1) := by decide +kernel
theorem dL_law_259 : decode cL_law 259 = .ok (.invokevirtual 17, 3) := by decide +kernel
theorem dL_law_262 : decode cL_law 262 = .ok (.lcmp, 1) := by decide +kernel
theorem dL_law_263 : decode cL_law 263 = .ok (.ifCond .eq 1279, 3) := by decide +kernel
theorem dL_law_266 : decode cL_law 266 = .ok (.iconst 0, 1) := by decide +kernel
theorem dL_law_267 : decode cL_law 267 = .ok (.ireturn, 1) := by decide +kernel
theorem dL_law_268 : decode cL_law 268 = .ok (.aload_n 1, 1) := by decide +kernel
theorem dL_law_269 : decode cL_law 269 = .ok (.aload_n 0, 1) := by decide +kernel
theorem dL_law_270 : decode cL_law 270 = .ok (.iload_n 3, 1) := by decide +kernel
theorem dL_law_271 : decode cL_law 271 = .ok (.iconst 1, 1) := by decide +kernel
theorem dL_law_272 : decode cL_law 272 = .ok (.iadd, 1) := by decide +kernel
theorem dL_law_273 : decode cL_law 273 = .ok (.iaload, 1) := by decide +kernel
theorem dL_law_274 : decode cL_law 274 = .ok (.aload_n 0, 1) := by decide +kernel
theorem dL_law_275 : decode cL_law 275 = .ok (.iload_n 3, 1) := by decide +kernel
theorem dL_law_276 : decode cL_law 276 = .ok (.iconst 2, 1) := by decide +kernel
theorem dL_law_277 : decode cL_law 277 = .ok (.iadd, 1) := by decide +kernel
theorem dL_law_278 : decode cL_law 278 = .ok (.iaload, 1) := by decide +kernel
theorem dL_law_279 : decode cL_law 279 = .ok (.invokevirtual 18, 3) := by decide +kernel
theorem dL_law_282 : decode cL_law 282 = .ok (.aload_n 2, 1) := by decide +kernel
theorem dL_law_283 : decode cL_law 283 = .ok (.aload_n 0, 1) := by decide +kernel
theorem dL_law_284 : decode cL_law 284 = .ok (.iload_n 3, 1) := by decide +kernel
theorem dL_law_285 : decode cL_law 285 = .ok (.iconst 1, 1) := by decide +kernel
theorem dL_law_286 : decode cL_law 286 = .ok (.iadd, 1) := by decide +kernel
theorem dL_law_287 : decode cL_law 287 = .ok (.iaload, 1) := by decide +kernel
theorem dL_law_288 : decode cL_law 288 = .ok (.aload_n 0, 1) := by decide +kernel
theorem dL_law_289 : decode cL_law 289 = .ok (.iload_n 3, 1) := by decide +kernel
theorem dL_law_290 : decode cL_law 290 = .ok (.iconst 2, 1) := by decide +kernel
theorem dL_law_291 : decode cL_law 291 = .ok (.iadd, 1) := by decide +kernel
theorem dL_law_292 : decode cL_law 292 = .ok (.iaload, 1) := by decide +kernel
theorem dL_law_293 : decode cL_law 293 = .ok (.invokevirtual 22, 3) := by decide +kernel
theorem dL_law_296 : decode cL_law 296 = .ok (.lcmp, 1) := by decide +kernel
theorem dL_law_297 : decode cL_law 297 = .ok (.ifCond .eq 1245, 3) := by decide +kernel
theorem dL_law_300 : decode cL_law 300 = .ok (.iconst 0, 1) := by decide +kernel
theorem dL_law_301 : decode cL_law 301 = .ok (.ireturn, 1) := by decide +kernel
theorem dL_law_302 : decode cL_law 302 = .ok (.aload_n 1, 1) := by decide +kernel
theorem dL_law_303 : decode cL_law 303 = .ok (.aload_n 0, 1) := by decide +kernel
theorem dL_law_304 : decode cL_law 304 = .ok (.iload_n 3, 1) := by decide +kernel
theorem dL_law_305 : decode cL_law 305 = .ok (.iconst 1, 1) := by decide +kernel
theorem dL_law_306 : decode cL_law 306 = .ok (.iadd, 1) := by decide +kernel
theorem dL_law_307 : decode cL_law 307 = .ok (.iaload, 1) := by decide +kernel
theorem dL_law_308 : decode cL_law 308 = .ok (.invokevirtual 23, 3) := by decide +kernel
theorem dL_law_311 : decode cL_law 311 = .ok (.aload_n 2, 1) := by decide +kernel
theorem dL_law_312 : decode cL_law 312 = .ok (.aload_n 0, 1) := by decide +kernel
theorem dL_law_313 : decode cL_law 313 = .ok (.iload_n 3, 1) := by decide +kernel
theorem dL_law_314 : decode cL_law 314 = .ok (.iconst 1, 1) := by decide +kernel
theorem dL_law_315 : decode cL_law 315 = .ok (.iadd, 1) := by decide +kernel
theorem dL_law_316 : decode cL_law 316 = .ok (.iaload, 1) := by decide +kernel
theorem dL_law_317 : decode cL_law 317 = .ok (.invokevirtual 27, 3) := by decide +kernel
theorem dL_law_320 : decode cL_law 320 = .ok (.if_icmp .eq 1222, 3) := by decide +kernel
theorem dL_law_323 : decode cL_law 323 = .ok (.iconst 0, 1) := by decide +kernel
theorem dL_law_324 : decode cL_law 324 = .ok (.ireturn, 1) := by decide +kernel
theorem dL_law_325 : decode cL_law 325 = .ok (.aload_n 1, 1) := by decide +kernel
theorem dL_law_326 : decode cL_law 326 = .ok (.aload_n 0, 1) := by decide +kernel
theorem dL_law_327 : decode cL_law 327 = .ok (.iload_n 3, 1) := by decide +kernel
theorem dL_law_328 : decode cL_law 328 = .ok (.iconst 1, 1) := by decide +kernel
theorem dL_law_329 : decode cL_law 329 = .ok (.iadd, 1) := by decide +kernel
theorem dL_law_330 : decode cL_law 330 = .ok (.iaload, 1) := by decide +kernel
theorem dL_law_331 : decode cL_law 331 = .ok (.invokevirtual 28, 3) := by decide +kernel
theorem dL_law_334 : decode cL_law 334 = .ok (.aload_n 2, 1) := by decide +kernel
theorem dL_law_335 : decode cL_law 335 = .ok (.aload_n 0, 1) := by decide +kernel
theorem dL_law_336 : decode cL_law 336 = .ok (.iload_n 3, 1) := by decide +kernel
theorem dL_law_337 : decode cL_law 337 = .ok (.iconst 1, 1) := by decide +kernel
theorem dL_law_338 : decode cL_law 338 = .ok (.iadd, 1) := by decide +kernel
theorem dL_law_339 : decode cL_law 339 = .ok (.iaload, 1) := by decide +kernel
theorem dL_law_340 : decode cL_law 340 = .ok (.invokevirtual 31, 3) := by decide +kernel
theorem dL_law_343 : decode cL_law 343 = .ok (.if_icmp .eq 1199, 3) := by decide +kernel
theorem dL_law_346 : decode cL_law 346 = .ok (.iconst 0, 1) := by decide +kernel
theorem dL_law_347 : decode cL_law 347 = .ok (.ireturn, 1) := by decide +kernel
theorem dL_law_348 : decode cL_law 348 = .ok (.aload_n 1, 1) := by decide +kernel
theorem dL_law_349 : decode cL_law 349 = .ok (.invokevirtual 32, 3) := by decide +kernel
theorem dL_law_352 : decode cL_law 352 = .ok (.aload_n 2, 1) := by decide +kernel
theorem dL_law_353 : decode cL_law 353 = .ok (.invokevirtual 36, 3) := by decide +kernel
theorem dL_law_356 : decode cL_law 356 = .ok (.if_icmp .eq 1186, 3) := by decide +kernel
theorem dL_law_359 : decode cL_law 359 = .ok (.iconst 0, 1) := by decide +kernel
theorem dL_law_360 : decode cL_law 360 = .ok (.ireturn, 1) := by decide +kernel
theorem dL_law_361 : decode cL_law 361 = .ok (.aload_n 1, 1) := by decide +kernel
theorem dL_law_362 : decode cL_law 362 = .ok (.aload_n 0, 1) := by decide +kernel
theorem dL_law_363 : decode cL_law 363 = .ok (.iload_n 3, 1) := by decide +kernel
theorem dL_law_364 : decode cL_law 364 = .ok (.iconst 1, 1) := by decide +kernel
theorem dL_law_365 : decode cL_law 365 = .ok (.iadd, 1) := by decide +kernel
theorem dL_law_366 : decode cL_law 366 = .ok (.iaload, 1) := by decide +kernel
theorem dL_law_367 : decode cL_law 367 = .ok (.aload_n 0, 1) := by decide +kernel
theorem dL_law_368 : decode cL_law 368 = .ok (.iload_n 3, 1) := by decide +kernel
theorem dL_law_369 : decode cL_law 369 = .ok (.iconst 2, 1) := by decide +kernel
theorem dL_law_370 : decode cL_law 370 = .ok (.iadd, 1) := by decide +kernel
theorem dL_law_371 : decode cL_law 371 = .ok (.iaload, 1) := by decide +kernel
theorem dL_law_372 : decode cL_law 372 = .ok (.invokevirtual 37, 3) := by decide +kernel
theorem dL_law_375 : decode cL_law 375 = .ok (.aload_n 2, 1) := by decide +kernel
theorem dL_law_376 : decode cL_law 376 = .ok (.aload_n 0, 1) := by decide +kernel
theorem dL_law_377 : decode cL_law 377 = .ok (.iload_n 3, 1) := by decide +kernel
theorem dL_law_378 : decode cL_law 378 = .ok (.iconst 1, 1) := by decide +kernel
theorem dL_law_379 : decode cL_law 379 = .ok (.iadd, 1) := by decide +kernel
theorem dL_law_380 : decode cL_law 380 = .ok (.iaload, 1) := by decide +kernel
theorem dL_law_381 : decode cL_law 381 = .ok (.aload_n 0, 1) := by decide +kernel
theorem dL_law_382 : decode cL_law 382 = .ok (.iload_n 3, 1) := by decide +kernel
theorem dL_law_383 : decode cL_law 383 = .ok (.iconst 2, 1) := by decide +kernel
theorem dL_law_384 : decode cL_law 384 = .ok (.iadd, 1) := by decide +kernel
theorem dL_law_385 : decode cL_law 385 = .ok (.iaload, 1) := by decide +kernel
theorem dL_law_386 : decode cL_law 386 = .ok (.invokevirtual 40, 3) := by decide +kernel
theorem dL_law_389 : decode cL_law 389 = .ok (.lcmp, 1) := by decide +kernel
theorem dL_law_390 : decode cL_law 390 = .ok (.ifCond .eq 1152, 3) := by decide +kernel
theorem dL_law_393 : decode cL_law 393 = .ok (.iconst 0, 1) := by decide +kernel
theorem dL_law_394 : decode cL_law 394 = .ok (.ireturn, 1) := by decide +kernel
theorem dL_law_395 : decode cL_law 395 = .ok (.aload_n 1, 1) := by decide +kernel
theorem dL_law_396 : decode cL_law 396 = .ok (.aload_n 0, 1) := by decide +kernel
theorem dL_law_397 : decode cL_law 397 = .ok (.iload_n 3, 1) := by decide +kernel
theorem dL_law_398 : decode cL_law 398 = .ok (.iconst 1, 1) := by decide +kernel
theorem dL_law_399 : decode cL_law 399 = .ok (.iadd, 1) := by decide +kernel
theorem dL_law_400 : decode cL_law 400 = .ok (.iaload, 1) := by decide +kernel
theorem dL_law_401 : decode cL_law 401 = .ok (.aload_n 0, 1) := by decide +kernel
theorem dL_law_402 : decode cL_law 402 = .ok (.iload_n 3, 1) := by decide +kernel
theorem dL_law_403 : decode cL_law 403 = .ok (.iconst 2, 1) := by decide +kernel
theorem dL_law_404 : decode cL_law 404 = .ok (.iadd, 1) := by decide +kernel
theorem dL_law_405 : decode cL_law 405 = .ok (.iaload, 1) := by decide +kernel
theorem dL_law_406 : decode cL_law 406 = .ok (.invokevirtual 41, 3) := by decide +kernel
theorem dL_law_409 : decode cL_law 409 = .ok (.aload_n 2, 1) := by decide +kernel
theorem dL_law_410 : decode cL_law 410 = .ok (.aload_n 0, 1) := by decide +kernel
theorem dL_law_411 : decode cL_law 411 = .ok (.iload_n 3, 1) := by decide +kernel
theorem dL_law_412 : decode cL_law 412 = .ok (.iconst 1, 1) := by decide +kernel
theorem dL_law_413 : decode cL_law 413 = .ok (.iadd, 1) := by decide +kernel
theorem dL_law_414 : decode cL_law 414 = .ok (.iaload, 1) := by decide +kernel
theorem dL_law_415 : decode cL_law 415 = .ok (.aload_n 0, 1) := by decide +kernel
theorem dL_law_416 : decode cL_law 416 = .ok (.iload_n 3, 1) := by decide +kernel
theorem dL_law_417 : decode cL_law 417 = .ok (.iconst 2, 1) := by decide +kernel
theorem dL_law_418 : decode cL_law 418 = .ok (.iadd, 1) := by decide +kernel
theorem dL_law_419 : decode cL_law 419 = .ok (.iaload, 1) := by decide +kernel
theorem dL_law_420 : decode cL_law 420 = .ok (.invokevirtual 45, 3) := by decide +kernel
theorem dL_law_423 : decode cL_law 423 = .ok (.if_icmp .eq 1119, 3) := by decide +kernel
theorem dL_law_426 : decode cL_law 426 = .ok (.iconst 0, 1) := by decide +kernel
theorem dL_law_427 : decode cL_law 427 = .ok (.ireturn, 1) := by decide +kernel
theorem dL_law_428 : decode cL_law 428 = .ok (.aload_n 1, 1) := by decide +kernel
theorem dL_law_429 : decode cL_law 429 = .ok (.aload_n 0, 1) := by decide +kernel
theorem dL_law_430 : decode cL_law 430 = .ok (.iload_n 3, 1) := by decide +kernel
theorem dL_law_431 : decode cL_law 431 = .ok (.iconst 1, 1) := by decide +kernel
theorem dL_law_432 : decode cL_law 432 = .ok (.iadd, 1) := by decide +kernel
theorem dL_law_433 : decode cL_law 433 = .ok (.iaload, 1) := by decide +kernel
theorem dL_law_434 : decode cL_law 434 = .ok (.aload_n 0, 1) := by decide +kernel
theorem dL_law_435 : decode cL_law 435 = .ok (.iload_n 3, 1) := by decide +kernel
theorem dL_law_436 : decode cL_law 436 = .ok (.iconst 2, 1) := by decide +kernel
theorem dL_law_437 : decode cL_law 437 = .ok (.iadd, 1) := by decide +kernel
theorem dL_law_438 : decode cL_law 438 = .ok (.iaload, 1) := by decide +kernel
end
section
theorem dL_law_439 : decode cL_law 439 = .ok (.aload_n 0, 1) := by decide +kernel
theorem dL_law_440 : decode cL_law 440 = .ok (.iload_n 3, 1) := by decide +kernel
theorem dL_law_441 : decode cL_law 441 = .ok (.iconst 3, 1) := by decide +kernel
theorem dL_law_442 : decode cL_law 442 = .ok (.iadd, 1) := by decide +kernel
theorem dL_law_443 : decode cL_law 443 = .ok (.iaload, 1) := by decide +kernel
theorem dL_law_444 : decode cL_law 444 = .ok (.invokevirtual 46, 3) := by decide +kernel
theorem dL_law_447 : decode cL_law 447 = .ok (.aload_n 2, 1) := by decide +kernel
theorem dL_law_448 : decode cL_law 448 = .ok (.aload_n 0, 1) := by decide +kernel
theorem dL_law_449 : decode cL_law 449 = .ok (.iload_n 3, 1) := by decide +kernel
theorem dL_law_450 : decode cL_law 450 = .ok (.iconst 1, 1) := by decide +kernel
theorem dL_law_451 : decode cL_law 451 = .ok (.iadd, 1) := by decide +kernel
theorem dL_law_452 : decode cL_law 452 = .ok (.iaload, 1) := by decide +kernel
theorem dL_law_453 : decode cL_law 453 = .ok (.aload_n 0, 1) := by decide +kernel
theorem dL_law_454 : decode cL_law 454 = .ok (.iload_n 3, 1) := by decide +kernel
theorem dL_law_455 : decode cL_law 455 = .ok (.iconst 2, 1) := by decide +kernel
theorem dL_law_456 : decode cL_law 456 = .ok (.iadd, 1) := by decide +kernel
theorem dL_law_457 : decode cL_law 457 = .ok (.iaload, 1) := by decide +kernel
theorem dL_law_458 : decode cL_law 458 = .ok (.aload_n 0, 1) := by decide +kernel
theorem dL_law_459 : decode cL_law 459 = .ok (.iload_n 3, 1) := by decide +kernel
theorem dL_law_460 : decode cL_law 460 = .ok (.iconst 3, 1) := by decide +kernel
theorem dL_law_461 : decode cL_law 461 = .ok (.iadd, 1) := by decide +kernel
theorem dL_law_462 : decode cL_law 462 = .ok (.iaload, 1) := by decide +kernel
theorem dL_law_463 : decode cL_law 463 = .ok (.invokevirtual 49, 3) := by decide +kernel
theorem dL_law_466 : decode cL_law 466 = .ok (.lcmp, 1) := by decide +kernel
theorem dL_law_467 : decode cL_law 467 = .ok (.ifCond .eq 1075, 3) := by decide +kernel
theorem dL_law_470 : decode cL_law 470 = .ok (.iconst 0, 1) := by decide +kernel
theorem dL_law_471 : decode cL_law 471 = .ok (.ireturn, 1) := by decide +kernel
theorem dL_law_472 : decode cL_law 472 = .ok (.aload_n 1, 1) := by decide +kernel
theorem dL_law_473 : decode cL_law 473 = .ok (.aload_n 0, 1) := by decide +kernel
theorem dL_law_474 : decode cL_law 474 = .ok (.iload_n 3, 1) := by decide +kernel
theorem dL_law_475 : decode cL_law 475 = .ok (.iconst 1, 1) := by decide +kernel
theorem dL_law_476 : decode cL_law 476 = .ok (.iadd, 1) := by decide +kernel
theorem dL_law_477 : decode cL_law 477 = .ok (.iaload, 1) := by decide +kernel
theorem dL_law_478 : decode cL_law 478 = .ok (.aload_n 0, 1) := by decide +kernel
theorem dL_law_479 : decode cL_law 479 = .ok (.iload_n 3, 1) := by decide +kernel
theorem dL_law_480 : decode cL_law 480 = .ok (.iconst 2, 1) := by decide +kernel
theorem dL_law_481 : decode cL_law 481 = .ok (.iadd, 1) := by decide +kernel
theorem dL_law_482 : decode cL_law 482 = .ok (.iaload, 1) := by decide +kernel
theorem dL_law_483 : decode cL_law 483 = .ok (.invokevirtual 50, 3) := by decide +kernel
theorem dL_law_486 : decode cL_law 486 = .ok (.aload_n 2, 1) := by decide +kernel
theorem dL_law_487 : decode cL_law 487 = .ok (.aload_n 0, 1) := by decide +kernel
theorem dL_law_488 : decode cL_law 488 = .ok (.iload_n 3, 1) := by decide +kernel
theorem dL_law_489 : decode cL_law 489 = .ok (.iconst 1, 1) := by decide +kernel
theorem dL_law_490 : decode cL_law 490 = .ok (.iadd, 1) := by decide +kernel
theorem dL_law_491 : decode cL_law 491 = .ok (.iaload, 1) := by decide +kernel
theorem dL_law_492 : decode cL_law 492 = .ok (.aload_n 0, 1) := by decide +kernel
theorem dL_law_493 : decode cL_law 493 = .ok (.iload_n 3, 1) := by decide +kernel
theorem dL_law_494 : decode cL_law 494 = .ok (.iconst 2, 1) := by decide +kernel
theorem dL_law_495 : decode cL_law 495 = .ok (.iadd, 1) := by decide +kernel
theorem dL_law_496 : decode cL_law 496 = .ok (.iaload, 1) := by decide +kernel
theorem dL_law_497 : decode cL_law 497 = .ok (.invokevirtual 53, 3) := by decide +kernel
theorem dL_law_500 : decode cL_law 500 = .ok (.if_icmp .eq 1042, 3) := by decide +kernel
theorem dL_law_503 : decode cL_law 503 = .ok (.iconst 0, 1) := by decide +kernel
theorem dL_law_504 : decode cL_law 504 = .ok (.ireturn, 1) := by decide +kernel
theorem dL_law_505 : decode cL_law 505 = .ok (.aload_n 1, 1) := by decide +kernel
theorem dL_law_506 : decode cL_law 506 = .ok (.aload_n 0, 1) := by decide +kernel
theorem dL_law_507 : decode cL_law 507 = .ok (.iload_n 3, 1) := by decide +kernel
theorem dL_law_508 : decode cL_law 508 = .ok (.iconst 1, 1) := by decide +kernel
theorem dL_law_509 : decode cL_law 509 = .ok (.iadd, 1) := by decide +kernel
theorem dL_law_510 : decode cL_law 510 = .ok (.iaload, 1) := by decide +kernel
theorem dL_law_511 : decode cL_law 511 = .ok (.aload_n 0, 1) := by decide +kernel
theorem dL_law_512 : decode cL_law 512 = .ok (.iload_n 3, 1) := by decide +kernel
theorem dL_law_513 : decode cL_law 513 = .ok (.iconst 2, 1) := by decide +kernel
theorem dL_law_514 : decode cL_law 514 = .ok (.iadd, 1) := by decide +kernel
theorem dL_law_515 : decode cL_law 515 = .ok (.iaload, 1) := by decide +kernel
theorem dL_law_516 : decode cL_law 516 = .ok (.invokevirtual 54, 3) := by decide +kernel
theorem dL_law_519 : decode cL_law 519 = .ok (.aload_n 2, 1) := by decide +kernel
theorem dL_law_520 : decode cL_law 520 = .ok (.aload_n 0, 1) := by decide +kernel
theorem dL_law_521 : decode cL_law 521 = .ok (.iload_n 3, 1) := by decide +kernel
theorem dL_law_522 : decode cL_law 522 = .ok (.iconst 1, 1) := by decide +kernel
theorem dL_law_523 : decode cL_law 523 = .ok (.iadd, 1) := by decide +kernel
theorem dL_law_524 : decode cL_law 524 = .ok (.iaload, 1) := by decide +kernel
theorem dL_law_525 : decode cL_law 525 = .ok (.aload_n 0, 1) := by decide +kernel
theorem dL_law_526 : decode cL_law 526 = .ok (.iload_n 3, 1) := by decide +kernel
theorem dL_law_527 : decode cL_law 527 = .ok (.iconst 2, 1) := by decide +kernel
theorem dL_law_528 : decode cL_law 528 = .ok (.iadd, 1) := by decide +kernel
theorem dL_law_529 : decode cL_law 529 = .ok (.iaload, 1) := by decide +kernel
theorem dL_law_530 : decode cL_law 530 = .ok (.invokevirtual 57, 3) := by decide +kernel
theorem dL_law_533 : decode cL_law 533 = .ok (.if_icmp .eq 1009, 3) := by decide +kernel
theorem dL_law_536 : decode cL_law 536 = .ok (.iconst 0, 1) := by decide +kernel
theorem dL_law_537 : decode cL_law 537 = .ok (.ireturn, 1) := by decide +kernel
theorem dL_law_538 : decode cL_law 538 = .ok (.aload_n 1, 1) := by decide +kernel
theorem dL_law_539 : decode cL_law 539 = .ok (.aload_n 0, 1) := by decide +kernel
theorem dL_law_540 : decode cL_law 540 = .ok (.iload_n 3, 1) := by decide +kernel
theorem dL_law_541 : decode cL_law 541 = .ok (.iconst 1, 1) := by decide +kernel
theorem dL_law_542 : decode cL_law 542 = .ok (.iadd, 1) := by decide +kernel
theorem dL_law_543 : decode cL_law 543 = .ok (.iaload, 1) := by decide +kernel
theorem dL_law_544 : decode cL_law 544 = .ok (.aload_n 0, 1) := by decide +kernel
theorem dL_law_545 : decode cL_law 545 = .ok (.iload_n 3, 1) := by decide +kernel
theorem dL_law_546 : decode cL_law 546 = .ok (.iconst 2, 1) := by decide +kernel
theorem dL_law_547 : decode cL_law 547 = .ok (.iadd, 1) := by decide +kernel
theorem dL_law_548 : decode cL_law 548 = .ok (.iaload, 1) := by decide +kernel
theorem dL_law_549 : decode cL_law 549 = .ok (.aload_n 0, 1) := by decide +kernel
theorem dL_law_550 : decode cL_law 550 = .ok (.iload_n 3, 1) := by decide +kernel
theorem dL_law_551 : decode cL_law 551 = .ok (.iconst 3, 1) := by decide +kernel
theorem dL_law_552 : decode cL_law 552 = .ok (.iadd, 1) := by decide +kernel
theorem dL_law_553 : decode cL_law 553 = .ok (.iaload, 1) := by decide +kernel
theorem dL_law_554 : decode cL_law 554 = .ok (.invokevirtual 58, 3) := by decide +kernel
theorem dL_law_557 : decode cL_law 557 = .ok (.aload_n 2, 1) := by decide +kernel
theorem dL_law_558 : decode cL_law 558 = .ok (.aload_n 0, 1) := by decide +kernel
theorem dL_law_559 : decode cL_law 559 = .ok (.iload_n 3, 1) := by decide +kernel
theorem dL_law_560 : decode cL_law 560 = .ok (.iconst 1, 1) := by decide +kernel
theorem dL_law_561 : decode cL_law 561 = .ok (.iadd, 1) := by decide +kernel
theorem dL_law_562 : decode cL_law 562 = .ok (.iaload, 1) := by decide +kernel
theorem dL_law_563 : decode cL_law 563 = .ok (.aload_n 0, 1) := by decide +kernel
theorem dL_law_564 : decode cL_law 564 = .ok (.iload_n 3, 1) := by decide +kernel
theorem dL_law_565 : decode cL_law 565 = .ok (.iconst 2, 1) := by decide +kernel
theorem dL_law_566 : decode cL_law 566 = .ok (.iadd, 1) := by decide +kernel
theorem dL_law_567 : decode cL_law 567 = .ok (.iaload, 1) := by decide +kernel
theorem dL_law_568 : decode cL_law 568 = .ok (.aload_n 0, 1) := by decide +kernel
theorem dL_law_569 : decode cL_law 569 = .ok (.iload_n 3, 1) := by decide +kernel
theorem dL_law_570 : decode cL_law 570 = .ok (.iconst 3, 1) := by decide +kernel
theorem dL_law_571 : decode cL_law 571 = .ok (.iadd, 1) := by decide +kernel
theorem dL_law_572 : decode cL_law 572 = .ok (.iaload, 1) := by decide +kernel
theorem dL_law_573 : decode cL_law 573 = .ok (.invokevirtual 62, 3) := by decide +kernel
theorem dL_law_576 : decode cL_law 576 = .ok (.if_icmp .eq 966, 3) := by decide +kernel
theorem dL_law_579 : decode cL_law 579 = .ok (.iconst 0, 1) := by decide +kernel
theorem dL_law_580 : decode cL_law 580 = .ok (.ireturn, 1) := by decide +kernel
theorem dL_law_581 : decode cL_law 581 = .ok (.aload_n 1, 1) := by decide +kernel
theorem dL_law_582 : decode cL_law 582 = .ok (.aload_n 0, 1) := by decide +kernel
theorem dL_law_583 : decode cL_law 583 = .ok (.iload_n 3, 1) := by decide +kernel
theorem dL_law_584 : decode cL_law 584 = .ok (.iconst 1, 1) := by decide +kernel
theorem dL_law_585 : decode cL_law 585 = .ok (.iadd, 1) := by decide +kernel
theorem dL_law_586 : decode cL_law 586 = .ok (.iaload, 1) := by decide +kernel
theorem dL_law_587 : decode cL_law 587 = .ok (.aload_n 0, 1) := by decide +kernel
theorem dL_law_588 : decode cL_law 588 = .ok (.iload_n 3, 1) := by decide +kernel
theorem dL_law_589 : decode cL_law 589 = .ok (.iconst 2, 1) := by decide +kernel
theorem dL_law_590 : decode cL_law 590 = .ok (.iadd, 1) := by decide +kernel
theorem dL_law_591 : decode cL_law 591 = .ok (.iaload, 1) := by decide +kernel
theorem dL_law_592 : decode cL_law 592 = .ok (.invokevirtual 63, 3) := by decide +kernel
theorem dL_law_595 : decode cL_law 595 = .ok (.aload_n 2, 1) := by decide +kernel
theorem dL_law_596 : decode cL_law 596 = .ok (.aload_n 0, 1) := by decide +kernel
theorem dL_law_597 : decode cL_law 597 = .ok (.iload_n 3, 1) := by decide +kernel
theorem dL_law_598 : decode cL_law 598 = .ok (.iconst 1, 1) := by decide +kernel
theorem dL_law_599 : decode cL_law 599 = .ok (.iadd, 1) := by decide +kernel
theorem dL_law_600 : decode cL_law 600 = .ok (.iaload, 1) := by decide +kernel
theorem dL_law_601 : decode cL_law 601 = .ok (.aload_n 0, 1) := by decide +kernel
theorem dL_law_602 : decode cL_law 602 = .ok (.iload_n 3, 1) := by decide +kernel
theorem dL_law_603 : decode cL_law 603 = .ok (.iconst 2, 1) := by decide +kernel
theorem dL_law_604 : decode cL_law 604 = .ok (.iadd, 1) := by decide +kernel
theorem dL_law_605 : decode cL_law 605 = .ok (.iaload, 1) := by decide +kernel
theorem dL_law_606 : decode cL_law 606 = .ok (.invokevirtual 66, 3) := by decide +kernel
theorem dL_law_609 : decode cL_law 609 = .ok (.if_icmp .eq 933, 3) := by decide +kernel
theorem dL_law_612 : decode cL_law 612 = .ok (.iconst 0, 1) := by decide +kernel
theorem dL_law_613 : decode cL_law 613 = .ok (.ireturn, 1) := by decide +kernel
theorem dL_law_614 : decode cL_law 614 = .ok (.aload_n 1, 1) := by decide +kernel
theorem dL_law_615 : decode cL_law 615 = .ok (.invokevirtual 67, 3) := by decide +kernel
theorem dL_law_618 : decode cL_law 618 = .ok (.aload_n 2, 1) := by decide +kernel
theorem dL_law_619 : decode cL_law 619 = .ok (.invokevirtual 70, 3) := by decide +kernel
theorem dL_law_622 : decode cL_law 622 = .ok (.if_icmp .eq 920, 3) := by decide +kernel
theorem dL_law_625 : decode cL_law 625 = .ok (.iconst 0, 1) := by decide +kernel
theorem dL_law_626 : decode cL_law 626 = .ok (.ireturn, 1) := by decide +kernel
theorem dL_law_627 : decode cL_law 627 = .ok (.aload_n 1, 1) := by decide +kernel
theorem dL_law_628 : decode cL_law 628 = .ok (.aload_n 0, 1) := by decide +kernel
theorem dL_law_629 : decode cL_law 629 = .ok (.iload_n 3, 1) := by decide +kernel
theorem dL_law_630 : decode cL_law 630 = .ok (.iconst 1, 1) := by decide +kernel
theorem dL_law_631 : decode cL_law 631 = .ok (.iadd, 1) := by decide +kernel
theorem dL_law_632 : decode cL_law 632 = .ok (.iaload, 1) := by decide +kernel
theorem dL_law_633 : decode cL_law 633 = .ok (.aload_n 0, 1) := by decide +kernel
theorem dL_law_634 : decode cL_law 634 = .ok (.iload_n 3, 1) := by decide +kernel
theorem dL_law_635 : decode cL_law 635 = .ok (.iconst 2, 1) := by decide +kernel
theorem dL_law_636 : decode cL_law 636 = .ok (.iadd, 1) := by decide +kernel
theorem dL_law_637 : decode cL_law 637 = .ok (.iaload, 1) := by decide +kernel
theorem dL_law_638 : decode cL_law 638 = .ok (.aload_n 0, 1) := by decide +kernel
theorem dL_law_639 : decode cL_law 639 = .ok (.iload_n 3, 1) := by decide +kernel
theorem dL_law_640 : decode cL_law 640 = .ok (.iconst 3, 1) := by decide +kernel
theorem dL_law_641 : decode cL_law 641 = .ok (.iadd, 1) := by decide +kernel
theorem dL_law_642 : decode cL_law 642 = .ok (.iaload, 1) := by decide +kernel
theorem dL_law_643 : decode cL_law 643 = .ok (.invokevirtual 71, 3) := by decide +kernel
theorem dL_law_646 : decode cL_law 646 = .ok (.aload_n 2, 1) := by decide +kernel
theorem dL_law_647 : decode cL_law 647 = .ok (.aload_n 0, 1) := by decide +kernel
theorem dL_law_648 : decode cL_law 648 = .ok (.iload_n 3, 1) := by decide +kernel
theorem dL_law_649 : decode cL_law 649 = .ok (.iconst 1, 1) := by decide +kernel
theorem dL_law_650 : decode cL_law 650 = .ok (.iadd, 1) := by decide +kernel
theorem dL_law_651 : decode cL_law 651 = .ok (.iaload, 1) := by decide +kernel
theorem dL_law_652 : decode cL_law 652 = .ok (.aload_n 0, 1) := by decide +kernel
theorem dL_law_653 : decode cL_law 653 = .ok (.iload_n 3, 1) := by decide +kernel
theorem dL_law_654 : decode cL_law 654 = .ok (.iconst 2, 1) := by decide +kernel
theorem dL_law_655 : decode cL_law 655 = .ok (.iadd, 1) := by decide +kernel
theorem dL_law_656 : decode cL_law 656 = .ok (.iaload, 1) := by decide +kernel
theorem dL_law_657 : decode cL_law 657 = .ok (.aload_n 0, 1) := by decide +kernel
theorem dL_law_658 : decode cL_law 658 = .ok (.iload_n 3, 1) := by decide +kernel
theorem dL_law_659 : decode cL_law 659 = .ok (.iconst 3, 1) := by decide +kernel
theorem dL_law_660 : decode cL_law 660 = .ok (.iadd, 1) := by decide +kernel
theorem dL_law_661 : decode cL_law 661 = .ok (.iaload, 1) := by decide +kernel
theorem dL_law_662 : decode cL_law 662 = .ok (.invokevirtual 74, 3) := by decide +kernel
theorem dL_law_665 : decode cL_law 665 = .ok (.if_icmp .eq 877, 3) := by decide +kernel
theorem dL_law_668 : decode cL_law 668 = .ok (.iconst 0, 1) := by decide +kernel
theorem dL_law_669 : decode cL_law 669 = .ok (.ireturn, 1) := by decide +kernel
theorem dL_law_670 : decode cL_law 670 = .ok (.aload_n 1, 1) := by decide +kernel
theorem dL_law_671 : decode cL_law 671 = .ok (.aload_n 0, 1) := by decide +kernel
theorem dL_law_672 : decode cL_law 672 = .ok (.iload_n 3, 1) := by decide +kernel
theorem dL_law_673 : decode cL_law 673 = .ok (.iconst 1, 1) := by decide +kernel
theorem dL_law_674 : decode cL_law 674 = .ok (.iadd, 1) := by decide +kernel
theorem dL_law_675 : decode cL_law 675 = .ok (.iaload, 1) := by decide +kernel
theorem dL_law_676 : decode cL_law 676 = .ok (.invokevirtual 75, 3) := by decide +kernel
theorem dL_law_679 : decode cL_law 679 = .ok (.aload_n 2, 1) := by decide +kernel
theorem dL_law_680 : decode cL_law 680 = .ok (.aload_n 0, 1) := by decide +kernel
theorem dL_law_681 : decode cL_law 681 = .ok (.iload_n 3, 1) := by decide +kernel
theorem dL_law_682 : decode cL_law 682 = .ok (.iconst 1, 1) := by decide +kernel
theorem dL_law_683 : decode cL_law 683 = .ok (.iadd, 1) := by decide +kernel
theorem dL_law_684 : decode cL_law 684 = .ok (.iaload, 1) := by decide +kernel
theorem dL_law_685 : decode cL_law 685 = .ok (.invokevirtual 78, 3) := by decide +kernel
theorem dL_law_688 : decode cL_law 688 = .ok (.if_icmp .eq 854, 3) := by decide +kernel
theorem dL_law_691 : decode cL_law 691 = .ok (.iconst 0, 1) := by decide +kernel
theorem dL_law_692 : decode cL_law 692 = .ok (.ireturn, 1) := by decide +kernel
theorem dL_law_693 : decode cL_law 693 = .ok (.aload_n 1, 1) := by decide +kernel
theorem dL_law_694 : decode cL_law 694 = .ok (.aload_n 0, 1) := by decide +kernel
theorem dL_law_695 : decode cL_law 695 = .ok (.iload_n 3, 1) := by decide +kernel
theorem dL_law_696 : decode cL_law 696 = .ok (.iconst 1, 1) := by decide +kernel
theorem dL_law_697 : decode cL_law 697 = .ok (.iadd, 1) := by decide +kernel
theorem dL_law_698 : decode cL_law 698 = .ok (.iaload, 1) := by decide +kernel
theorem dL_law_699 : decode cL_law 699 = .ok (.aload_n 0, 1) := by decide +kernel
theorem dL_law_700 : decode cL_law 700 = .ok (.iload_n 3, 1) := by decide +kernel
theorem dL_law_701 : decode cL_law 701 = .ok (.iconst 2, 1) := by decide +kernel
theorem dL_law_702 : decode cL_law 702 = .ok (.iadd, 1) := by decide +kernel
theorem dL_law_703 : decode cL_law 703 = .ok (.iaload, 1) := by decide +kernel
theorem dL_law_704 : decode cL_law 704 = .ok (.aload_n 0, 1) := by decide +kernel
theorem dL_law_705 : decode cL_law 705 = .ok (.iload_n 3, 1) := by decide +kernel
theorem dL_law_706 : decode cL_law 706 = .ok (.iconst 3, 1) := by decide +kernel
theorem dL_law_707 : decode cL_law 707 = .ok (.iadd, 1) := by decide +kernel
theorem dL_law_708 : decode cL_law 708 = .ok (.iaload, 1) := by decide +kernel
theorem dL_law_709 : decode cL_law 709 = .ok (.invokevirtual 79, 3) := by decide +kernel
theorem dL_law_712 : decode cL_law 712 = .ok (.aload_n 2, 1) := by decide +kernel
theorem dL_law_713 : decode cL_law 713 = .ok (.aload_n 0, 1) := by decide +kernel
theorem dL_law_714 : decode cL_law 714 = .ok (.iload_n 3, 1) := by decide +kernel
theorem dL_law_715 : decode cL_law 715 = .ok (.iconst 1, 1) := by decide +kernel
theorem dL_law_716 : decode cL_law 716 = .ok (.iadd, 1) := by decide +kernel
theorem dL_law_717 : decode cL_law 717 = .ok (.iaload, 1) := by decide +kernel
theorem dL_law_718 : decode cL_law 718 = .ok (.aload_n 0, 1) := by decide +kernel
theorem dL_law_719 : decode cL_law 719 = .ok (.iload_n 3, 1) := by decide +kernel
theorem dL_law_720 : decode cL_law 720 = .ok (.iconst 2, 1) := by decide +kernel
theorem dL_law_721 : decode cL_law 721 = .ok (.iadd, 1) := by decide +kernel
theorem dL_law_722 : decode cL_law 722 = .ok (.iaload, 1) := by decide +kernel
theorem dL_law_723 : decode cL_law 723 = .ok (.aload_n 0, 1) := by decide +kernel
theorem dL_law_724 : decode cL_law 724 = .ok (.iload_n 3, 1) := by decide +kernel
theorem dL_law_725 : decode cL_law 725 = .ok (.iconst 3, 1) := by decide +kernel
theorem dL_law_726 : decode cL_law 726 = .ok (.iadd, 1) := by decide +kernel
theorem dL_law_727 : decode cL_law 727 = .ok (.iaload, 1) := by decide +kernel
theorem dL_law_728 : decode cL_law 728 = .ok (.invokevirtual 82, 3) := by decide +kernel
theorem dL_law_731 : decode cL_law 731 = .ok (.if_icmp .eq 811, 3) := by decide +kernel
theorem dL_law_734 : decode cL_law 734 = .ok (.iconst 0, 1) := by decide +kernel
theorem dL_law_735 : decode cL_law 735 = .ok (.ireturn, 1) := by decide +kernel
theorem dL_law_736 : decode cL_law 736 = .ok (.aload_n 1, 1) := by decide +kernel
theorem dL_law_737 : decode cL_law 737 = .ok (.aload_n 0, 1) := by decide +kernel
theorem dL_law_738 : decode cL_law 738 = .ok (.iload_n 3, 1) := by decide +kernel
theorem dL_law_739 : decode cL_law 739 = .ok (.iconst 1, 1) := by decide +kernel
theorem dL_law_740 : decode cL_law 740 = .ok (.iadd, 1) := by decide +kernel
theorem dL_law_741 : decode cL_law 741 = .ok (.iaload, 1) := by decide +kernel
theorem dL_law_742 : decode cL_law 742 = .ok (.aload_n 0, 1) := by decide +kernel
theorem dL_law_743 : decode cL_law 743 = .ok (.iload_n 3, 1) := by decide +kernel
theorem dL_law_744 : decode cL_law 744 = .ok (.iconst 2, 1) := by decide +kernel
theorem dL_law_745 : decode cL_law 745 = .ok (.iadd, 1) := by decide +kernel
theorem dL_law_746 : decode cL_law 746 = .ok (.iaload, 1) := by decide +kernel
theorem dL_law_747 : decode cL_law 747 = .ok (.invokevirtual 83, 3) := by decide +kernel
theorem dL_law_750 : decode cL_law 750 = .ok (.aload_n 2, 1) := by decide +kernel
theorem dL_law_751 : decode cL_law 751 = .ok (.aload_n 0, 1) := by decide +kernel
theorem dL_law_752 : decode cL_law 752 = .ok (.iload_n 3, 1) := by decide +kernel
theorem dL_law_753 : decode cL_law 753 = .ok (.iconst 1, 1) := by decide +kernel
theorem dL_law_754 : decode cL_law 754 = .ok (.iadd, 1) := by decide +kernel
theorem dL_law_755 : decode cL_law 755 = .ok (.iaload, 1) := by decide +kernel
theorem dL_law_756 : decode cL_law 756 = .ok (.aload_n 0, 1) := by decide +kernel
theorem dL_law_757 : decode cL_law 757 = .ok (.iload_n 3, 1) := by decide +kernel
theorem dL_law_758 : decode cL_law 758 = .ok (.iconst 2, 1) := by decide +kernel
theorem dL_law_759 : decode cL_law 759 = .ok (.iadd, 1) := by decide +kernel
theorem dL_law_760 : decode cL_law 760 = .ok (.iaload, 1) := by decide +kernel
theorem dL_law_761 : decode cL_law 761 = .ok (.invokevirtual 86, 3) := by decide +kernel
theorem dL_law_764 : decode cL_law 764 = .ok (.if_icmp .eq 778, 3) := by decide +kernel
theorem dL_law_767 : decode cL_law 767 = .ok (.iconst 0, 1) := by decide +kernel
theorem dL_law_768 : decode cL_law 768 = .ok (.ireturn, 1) := by decide +kernel
theorem dL_law_769 : decode cL_law 769 = .ok (.aload_n 1, 1) := by decide +kernel
theorem dL_law_770 : decode cL_law 770 = .ok (.invokevirtual 87, 3) := by decide +kernel
theorem dL_law_773 : decode cL_law 773 = .ok (.aload_n 2, 1) := by decide +kernel
theorem dL_law_774 : decode cL_law 774 = .ok (.invokevirtual 90, 3) := by decide +kernel
theorem dL_law_777 : decode cL_law 777 = .ok (.if_icmp .eq 765, 3) := by decide +kernel
theorem dL_law_780 : decode cL_law 780 = .ok (.iconst 0, 1) := by decide +kernel
theorem dL_law_781 : decode cL_law 781 = .ok (.ireturn, 1) := by decide +kernel
theorem dL_law_782 : decode cL_law 782 = .ok (.aload_n 1, 1) := by decide +kernel
theorem dL_law_783 : decode cL_law 783 = .ok (.aload_n 0, 1) := by decide +kernel
theorem dL_law_784 : decode cL_law 784 = .ok (.iload_n 3, 1) := by decide +kernel
theorem dL_law_785 : decode cL_law 785 = .ok (.iconst 1, 1) := by decide +kernel
theorem dL_law_786 : decode cL_law 786 = .ok (.iadd, 1) := by decide +kernel
theorem dL_law_787 : decode cL_law 787 = .ok (.iaload, 1) := by decide +kernel
theorem dL_law_788 : decode cL_law 788 = .ok (.aload_n 0, 1) := by decide +kernel
theorem dL_law_789 : decode cL_law 789 = .ok (.iload_n 3, 1) := by decide +kernel
theorem dL_law_790 : decode cL_law 790 = .ok (.iconst 2, 1) := by decide +kernel
theorem dL_law_791 : decode cL_law 791 = .ok (.iadd, 1) := by decide +kernel
theorem dL_law_792 : decode cL_law 792 = .ok (.iaload, 1) := by decide +kernel
theorem dL_law_793 : decode cL_law 793 = .ok (.invokevirtual 91, 3) := by decide +kernel
theorem dL_law_796 : decode cL_law 796 = .ok (.aload_n 2, 1) := by decide +kernel
theorem dL_law_797 : decode cL_law 797 = .ok (.aload_n 0, 1) := by decide +kernel
theorem dL_law_798 : decode cL_law 798 = .ok (.iload_n 3, 1) := by decide +kernel
theorem dL_law_799 : decode cL_law 799 = .ok (.iconst 1, 1) := by decide +kernel
theorem dL_law_800 : decode cL_law 800 = .ok (.iadd, 1) := by decide +kernel
theorem dL_law_801 : decode cL_law 801 = .ok (.iaload, 1) := by decide +kernel
theorem dL_law_802 : decode cL_law 802 = .ok (.aload_n 0, 1) := by decide +kernel
theorem dL_law_803 : decode cL_law 803 = .ok (.iload_n 3, 1) := by decide +kernel
theorem dL_law_804 : decode cL_law 804 = .ok (.iconst 2, 1) := by decide +kernel
theorem dL_law_805 : decode cL_law 805 = .ok (.iadd, 1) := by decide +kernel
theorem dL_law_806 : decode cL_law 806 = .ok (.iaload, 1) := by decide +kernel
theorem dL_law_807 : decode cL_law 807 = .ok (.invokevirtual 94, 3) := by decide +kernel
theorem dL_law_810 : decode cL_law 810 = .ok (.lcmp, 1) := by decide +kernel
theorem dL_law_811 : decode cL_law 811 = .ok (.ifCond .eq 731, 3) := by decide +kernel
theorem dL_law_814 : decode cL_law 814 = .ok (.iconst 0, 1) := by decide +kernel
theorem dL_law_815 : decode cL_law 815 = .ok (.ireturn, 1) := by decide +kernel
theorem dL_law_816 : decode cL_law 816 = .ok (.aload_n 1, 1) := by decide +kernel
theorem dL_law_817 : decode cL_law 817 = .ok (.aload_n 0, 1) := by decide +kernel
theorem dL_law_818 : decode cL_law 818 = .ok (.iload_n 3, 1) := by decide +kernel
theorem dL_law_819 : decode cL_law 819 = .ok (.iconst 1, 1) := by decide +kernel
theorem dL_law_820 : decode cL_law 820 = .ok (.iadd, 1) := by decide +kernel
theorem dL_law_821 : decode cL_law 821 = .ok (.iaload, 1) := by decide +kernel
theorem dL_law_822 : decode cL_law 822 = .ok (.invokevirtual 95, 3) := by decide +kernel
theorem dL_law_825 : decode cL_law 825 = .ok (.aload_n 2, 1) := by decide +kernel
theorem dL_law_826 : decode cL_law 826 = .ok (.aload_n 0, 1) := by decide +kernel
theorem dL_law_827 : decode cL_law 827 = .ok (.iload_n 3, 1) := by decide +kernel
theorem dL_law_828 : decode cL_law 828 = .ok (.iconst 1, 1) := by decide +kernel
theorem dL_law_829 : decode cL_law 829 = .ok (.iadd, 1) := by decide +kernel
theorem dL_law_830 : decode cL_law 830 = .ok (.iaload, 1) := by decide +kernel
theorem dL_law_831 : decode cL_law 831 = .ok (.invokevirtual 98, 3) := by decide +kernel
theorem dL_law_834 : decode cL_law 834 = .ok (.if_icmp .eq 708, 3) := by decide +kernel
theorem dL_law_837 : decode cL_law 837 = .ok (.iconst 0, 1) := by decide +kernel
theorem dL_law_838 : decode cL_law 838 = .ok (.ireturn, 1) := by decide +kernel
theorem dL_law_839 : decode cL_law 839 = .ok (.aload_n 1, 1) := by decide +kernel
theorem dL_law_840 : decode cL_law 840 = .ok (.aload_n 0, 1) := by decide +kernel
theorem dL_law_841 : decode cL_law 841 = .ok (.iload_n 3, 1) := by decide +kernel
theorem dL_law_842 : decode cL_law 842 = .ok (.iconst 1, 1) := by decide +kernel
theorem dL_law_843 : decode cL_law 843 = .ok (.iadd, 1) := by decide +kernel
theorem dL_law_844 : decode cL_law 844 = .ok (.iaload, 1) := by decide +kernel
theorem dL_law_845 : decode cL_law 845 = .ok (.aload_n 0, 1) := by decide +kernel
theorem dL_law_846 : decode cL_law 846 = .ok (.iload_n 3, 1) := by decide +kernel
theorem dL_law_847 : decode cL_law 847 = .ok (.iconst 2, 1) := by decide +kernel
theorem dL_law_848 : decode cL_law 848 = .ok (.iadd, 1) := by decide +kernel
theorem dL_law_849 : decode cL_law 849 = .ok (.iaload, 1) := by decide +kernel
theorem dL_law_850 : decode cL_law 850 = .ok (.invokevirtual 99, 3) := by decide +kernel
theorem dL_law_853 : decode cL_law 853 = .ok (.aload_n 2, 1) := by decide +kernel
theorem dL_law_854 : decode cL_law 854 = .ok (.aload_n 0, 1) := by decide +kernel
theorem dL_law_855 : decode cL_law 855 = .ok (.iload_n 3, 1) := by decide +kernel
theorem dL_law_856 : decode cL_law 856 = .ok (.iconst 1, 1) := by decide +kernel
theorem dL_law_857 : decode cL_law 857 = .ok (.iadd, 1) := by decide +kernel
theorem dL_law_858 : decode cL_law 858 = .ok (.iaload, 1) := by decide +kernel
theorem dL_law_859 : decode cL_law 859 = .ok (.aload_n 0, 1) := by decide +kernel
theorem dL_law_860 : decode cL_law 860 = .ok (.iload_n 3, 1) := by decide +kernel
theorem dL_law_861 : decode cL_law 861 = .ok (.iconst 2, 1) := by decide +kernel
theorem dL_law_862 : decode cL_law 862 = .ok (.iadd, 1) := by decide +kernel
theorem dL_law_863 : decode cL_law 863 = .ok (.iaload, 1) := by decide +kernel
theorem dL_law_864 : decode cL_law 864 = .ok (.invokevirtual 102, 3) := by decide +kernel
theorem dL_law_867 : decode cL_law 867 = .ok (.if_icmp .eq 675, 3) := by decide +kernel
theorem dL_law_870 : decode cL_law 870 = .ok (.iconst 0, 1) := by decide +kernel
theorem dL_law_871 : decode cL_law 871 = .ok (.ireturn, 1) := by decide +kernel
theorem dL_law_872 : decode cL_law 872 = .ok (.aload_n 1, 1) := by decide +kernel
theorem dL_law_873 : decode cL_law 873 = .ok (.aload_n 0, 1) := by decide +kernel
theorem dL_law_874 : decode cL_law 874 = .ok (.iload_n 3, 1) := by decide +kernel
theorem dL_law_875 : decode cL_law 875 = .ok (.iconst 1, 1) := by decide +kernel
theorem dL_law_876 : decode cL_law 876 = .ok (.iadd, 1) := by decide +kernel
theorem dL_law_877 : decode cL_law 877 = .ok (.iaload, 1) := by decide +kernel
theorem dL_law_878 : decode cL_law 878 = .ok (.invokevirtual 103, 3) := by decide +kernel
theorem dL_law_881 : decode cL_law 881 = .ok (.aload_n 2, 1) := by decide +kernel
theorem dL_law_882 : decode cL_law 882 = .ok (.aload_n 0, 1) := by decide +kernel
theorem dL_law_883 : decode cL_law 883 = .ok (.iload_n 3, 1) := by decide +kernel
theorem dL_law_884 : decode cL_law 884 = .ok (.iconst 1, 1) := by decide +kernel
theorem dL_law_885 : decode cL_law 885 = .ok (.iadd, 1) := by decide +kernel
theorem dL_law_886 : decode cL_law 886 = .ok (.iaload, 1) := by decide +kernel
theorem dL_law_887 : decode cL_law 887 = .ok (.invokevirtual 106, 3) := by decide +kernel
theorem dL_law_890 : decode cL_law 890 = .ok (.if_icmp .eq 652, 3) := by decide +kernel
theorem dL_law_893 : decode cL_law 893 = .ok (.iconst 0, 1) := by decide +kernel
theorem dL_law_894 : decode cL_law 894 = .ok (.ireturn, 1) := by decide +kernel
theorem dL_law_895 : decode cL_law 895 = .ok (.aload_n 1, 1) := by decide +kernel
theorem dL_law_896 : decode cL_law 896 = .ok (.invokevirtual 107, 3) := by decide +kernel
theorem dL_law_899 : decode cL_law 899 = .ok (.aload_n 2, 1) := by decide +kernel
theorem dL_law_900 : decode cL_law 900 = .ok (.invokevirtual 110, 3) := by decide +kernel
theorem dL_law_903 : decode cL_law 903 = .ok (.if_icmp .eq 639, 3) := by decide +kernel
theorem dL_law_906 : decode cL_law 906 = .ok (.iconst 0, 1) := by decide +kernel
theorem dL_law_907 : decode cL_law 907 = .ok (.ireturn, 1) := by decide +kernel
theorem dL_law_908 : decode cL_law 908 = .ok (.aload_n 1, 1) := by decide +kernel
theorem dL_law_909 : decode cL_law 909 = .ok (.aload_n 0, 1) := by decide +kernel
theorem dL_law_910 : decode cL_law 910 = .ok (.iload_n 3, 1) := by decide +kernel
theorem dL_law_911 : decode cL_law 911 = .ok (.iconst 1, 1) := by decide +kernel
theorem dL_law_912 : decode cL_law 912 = .ok (.iadd, 1) := by decide +kernel
theorem dL_law_913 : decode cL_law 913 = .ok (.iaload, 1) := by decide +kernel
theorem dL_law_914 : decode cL_law 914 = .ok (.invokevirtual 111, 3) := by decide +kernel
theorem dL_law_917 : decode cL_law 917 = .ok (.aload_n 2, 1) := by decide +kernel
theorem dL_law_918 : decode cL_law 918 = .ok (.aload_n 0, 1) := by decide +kernel
theorem dL_law_919 : decode cL_law 919 = .ok (.iload_n 3, 1) := by decide +kernel
theorem dL_law_920 : decode cL_law 920 = .ok (.iconst 1, 1) := by decide +kernel
theorem dL_law_921 : decode cL_law 921 = .ok (.iadd, 1) := by decide +kernel
theorem dL_law_922 : decode cL_law 922 = .ok (.iaload, 1) := by decide +kernel
theorem dL_law_923 : decode cL_law 923 = .ok (.invokevirtual 114, 3) := by decide +kernel
theorem dL_law_926 : decode cL_law 926 = .ok (.if_icmp .eq 616, 3) := by decide +kernel
theorem dL_law_929 : decode cL_law 929 = .ok (.iconst 0, 1) := by decide +kernel
theorem dL_law_930 : decode cL_law 930 = .ok (.ireturn, 1) := by decide +kernel
theorem dL_law_931 : decode cL_law 931 = .ok (.aload_n 1, 1) := by decide +kernel
theorem dL_law_932 : decode cL_law 932 = .ok (.aload_n 0, 1) := by decide +kernel
theorem dL_law_933 : decode cL_law 933 = .ok (.iload_n 3, 1) := by decide +kernel
theorem dL_law_934 : decode cL_law 934 = .ok (.iconst 1, 1) := by decide +kernel
theorem dL_law_935 : decode cL_law 935 = .ok (.iadd, 1) := by decide +kernel
theorem dL_law_936 : decode cL_law 936 = .ok (.iaload, 1) := by decide +kernel
theorem dL_law_937 : decode cL_law 937 = .ok (.aload_n 0, 1) := by decide +kernel
theorem dL_law_938 : decode cL_law 938 = .ok (.iload_n 3, 1) := by decide +kernel
theorem dL_law_939 : decode cL_law 939 = .ok (.iconst 2, 1) := by decide +kernel
theorem dL_law_940 : decode cL_law 940 = .ok (.iadd, 1) := by decide +kernel
theorem dL_law_941 : decode cL_law 941 = .ok (.iaload, 1) := by decide +kernel
theorem dL_law_942 : decode cL_law 942 = .ok (.invokevirtual 115, 3) := by decide +kernel
theorem dL_law_945 : decode cL_law 945 = .ok (.aload_n 2, 1) := by decide +kernel
theorem dL_law_946 : decode cL_law 946 = .ok (.aload_n 0, 1) := by decide +kernel
theorem dL_law_947 : decode cL_law 947 = .ok (.iload_n 3, 1) := by decide +kernel
theorem dL_law_948 : decode cL_law 948 = .ok (.iconst 1, 1) := by decide +kernel
theorem dL_law_949 : decode cL_law 949 = .ok (.iadd, 1) := by decide +kernel
theorem dL_law_950 : decode cL_law 950 = .ok (.iaload, 1) := by decide +kernel
theorem dL_law_951 : decode cL_law 951 = .ok (.aload_n 0, 1) := by decide +kernel
theorem dL_law_952 : decode cL_law 952 = .ok (.iload_n 3, 1) := by decide +kernel
theorem dL_law_953 : decode cL_law 953 = .ok (.iconst 2, 1) := by decide +kernel
theorem dL_law_954 : decode cL_law 954 = .ok (.iadd, 1) := by decide +kernel
theorem dL_law_955 : decode cL_law 955 = .ok (.iaload, 1) := by decide +kernel
theorem dL_law_956 : decode cL_law 956 = .ok (.invokevirtual 118, 3) := by decide +kernel
theorem dL_law_959 : decode cL_law 959 = .ok (.if_icmp .eq 583, 3) := by decide +kernel
theorem dL_law_962 : decode cL_law 962 = .ok (.iconst 0, 1) := by decide +kernel
theorem dL_law_963 : decode cL_law 963 = .ok (.ireturn, 1) := by decide +kernel
theorem dL_law_964 : decode cL_law 964 = .ok (.aload_n 1, 1) := by decide +kernel
theorem dL_law_965 : decode cL_law 965 = .ok (.aload_n 0, 1) := by decide +kernel
theorem dL_law_966 : decode cL_law 966 = .ok (.iload_n 3, 1) := by decide +kernel
theorem dL_law_967 : decode cL_law 967 = .ok (.iconst 1, 1) := by decide +kernel
theorem dL_law_968 : decode cL_law 968 = .ok (.iadd, 1) := by decide +kernel
theorem dL_law_969 : decode cL_law 969 = .ok (.iaload, 1) := by decide +kernel
theorem dL_law_970 : decode cL_law 970 = .ok (.invokevirtual 119, 3) := by decide +kernel
theorem dL_law_973 : decode cL_law 973 = .ok (.aload_n 2, 1) := by decide +kernel
theorem dL_law_974 : decode cL_law 974 = .ok (.aload_n 0, 1) := by decide +kernel
theorem dL_law_975 : decode cL_law 975 = .ok (.iload_n 3, 1) := by decide +kernel
theorem dL_law_976 : decode cL_law 976 = .ok (.iconst 1, 1) := by decide +kernel
theorem dL_law_977 : decode cL_law 977 = .ok (.iadd, 1) := by decide +kernel
theorem dL_law_978 : decode cL_law 978 = .ok (.iaload, 1) := by decide +kernel
theorem dL_law_979 : decode cL_law 979 = .ok (.invokevirtual 122, 3) := by decide +kernel
theorem dL_law_982 : decode cL_law 982 = .ok (.if_icmp .eq 560, 3) := by decide +kernel
theorem dL_law_985 : decode cL_law 985 = .ok (.iconst 0, 1) := by decide +kernel
theorem dL_law_986 : decode cL_law 986 = .ok (.ireturn, 1) := by decide +kernel
theorem dL_law_987 : decode cL_law 987 = .ok (.aload_n 1, 1) := by decide +kernel
theorem dL_law_988 : decode cL_law 988 = .ok (.aload_n 0, 1) := by decide +kernel
theorem dL_law_989 : decode cL_law 989 = .ok (.iload_n 3, 1) := by decide +kernel
theorem dL_law_990 : decode cL_law 990 = .ok (.iconst 1, 1) := by decide +kernel
theorem dL_law_991 : decode cL_law 991 = .ok (.iadd, 1) := by decide +kernel
theorem dL_law_992 : decode cL_law 992 = .ok (.iaload, 1) := by decide +kernel
theorem dL_law_993 : decode cL_law 993 = .ok (.aload_n 0, 1) := by decide +kernel
theorem dL_law_994 : decode cL_law 994 = .ok (.iload_n 3, 1) := by decide +kernel
theorem dL_law_995 : decode cL_law 995 = .ok (.iconst 2, 1) := by decide +kernel
theorem dL_law_996 : decode cL_law 996 = .ok (.iadd, 1) := by decide +kernel
theorem dL_law_997 : decode cL_law 997 = .ok (.iaload, 1) := by decide +kernel
theorem dL_law_998 : decode cL_law 998 = .ok (.aload_n 0, 1) := by decide +kernel
theorem dL_law_999 : decode cL_law 999 = .ok (.iload_n 3, 1) := by decide +kernel
theorem dL_law_1000 : decode cL_law 1000 = .ok (.iconst 3, 1) := by decide +kernel
theorem dL_law_1001 : decode cL_law 1001 = .ok (.iadd, 1) := by decide +kernel
theorem dL_law_1002 : decode cL_law 1002 = .ok (.iaload, 1) := by decide +kernel
theorem dL_law_1003 : decode cL_law 1003 = .ok (.invokevirtual 123, 3) := by decide +kernel
theorem dL_law_1006 : decode cL_law 1006 = .ok (.aload_n 2, 1) := by decide +kernel
theorem dL_law_1007 : decode cL_law 1007 = .ok (.aload_n 0, 1) := by decide +kernel
theorem dL_law_1008 : decode cL_law 1008 = .ok (.iload_n 3, 1) := by decide +kernel
theorem dL_law_1009 : decode cL_law 1009 = .ok (.iconst 1, 1) := by decide +kernel
theorem dL_law_1010 : decode cL_law 1010 = .ok (.iadd, 1) := by decide +kernel
theorem dL_law_1011 : decode cL_law 1011 = .ok (.iaload, 1) := by decide +kernel
theorem dL_law_1012 : decode cL_law 1012 = .ok (.aload_n 0, 1) := by decide +kernel
theorem dL_law_1013 : decode cL_law 1013 = .ok (.iload_n 3, 1) := by decide +kernel
theorem dL_law_1014 : decode cL_law 1014 = .ok (.iconst 2, 1) := by decide +kernel
theorem dL_law_1015 : decode cL_law 1015 = .ok (.iadd, 1) := by decide +kernel
theorem dL_law_1016 : decode cL_law 1016 = .ok (.iaload, 1) := by decide +kernel
theorem dL_law_1017 : decode cL_law 1017 = .ok (.aload_n 0, 1) := by decide +kernel
theorem dL_law_1018 : decode cL_law 1018 = .ok (.iload_n 3, 1) := by decide +kernel
theorem dL_law_1019 : decode cL_law 1019 = .ok (.iconst 3, 1) := by decide +kernel
theorem dL_law_1020 : decode cL_law 1020 = .ok (.iadd, 1) := by decide +kernel
theorem dL_law_1021 : decode cL_law 1021 = .ok (.iaload, 1) := by decide +kernel
theorem dL_law_1022 : decode cL_law 1022 = .ok (.invokevirtual 126, 3) := by decide +kernel
theorem dL_law_1025 : decode cL_law 1025 = .ok (.if_icmp .eq 517, 3) := by decide +kernel
theorem dL_law_1028 : decode cL_law 1028 = .ok (.iconst 0, 1) := by decide +kernel
theorem dL_law_1029 : decode cL_law 1029 = .ok (.ireturn, 1) := by decide +kernel
theorem dL_law_1030 : decode cL_law 1030 = .ok (.aload_n 1, 1) := by decide +kernel
theorem dL_law_1031 : decode cL_law 1031 = .ok (.aload_n 0, 1) := by decide +kernel
theorem dL_law_1032 : decode cL_law 1032 = .ok (.iload_n 3, 1) := by decide +kernel
theorem dL_law_1033 : decode cL_law 1033 = .ok (.iconst 1, 1) := by decide +kernel
theorem dL_law_1034 : decode cL_law 1034 = .ok (.iadd, 1) := by decide +kernel
theorem dL_law_1035 : decode cL_law 1035 = .ok (.iaload, 1) := by decide +kernel
theorem dL_law_1036 : decode cL_law 1036 = .ok (.aload_n 0, 1) := by decide +kernel
theorem dL_law_1037 : decode cL_law 1037 = .ok (.iload_n 3, 1) := by decide +kernel
theorem dL_law_1038 : decode cL_law 1038 = .ok (.iconst 2, 1) := by decide +kernel
theorem dL_law_1039 : decode cL_law 1039 = .ok (.iadd, 1) := by decide +kernel
theorem dL_law_1040 : decode cL_law 1040 = .ok (.iaload, 1) := by decide +kernel
theorem dL_law_1041 : decode cL_law 1041 = .ok (.invokevirtual 127, 3) := by decide +kernel
theorem dL_law_1044 : decode cL_law 1044 = .ok (.aload_n 2, 1) := by decide +kernel
theorem dL_law_1045 : decode cL_law 1045 = .ok (.aload_n 0, 1) := by decide +kernel
theorem dL_law_1046 : decode cL_law 1046 = .ok (.iload_n 3, 1) := by decide +kernel
theorem dL_law_1047 : decode cL_law 1047 = .ok (.iconst 1, 1) := by decide +kernel
theorem dL_law_1048 : decode cL_law 1048 = .ok (.iadd, 1) := by decide +kernel
theorem dL_law_1049 : decode cL_law 1049 = .ok (.iaload, 1) := by decide +kernel
theorem dL_law_1050 : decode cL_law 1050 = .ok (.aload_n 0, 1) := by decide +kernel
theorem dL_law_1051 : decode cL_law 1051 = .ok (.iload_n 3, 1) := by decide +kernel
theorem dL_law_1052 : decode cL_law 1052 = .ok (.iconst 2, 1) := by decide +kernel
theorem dL_law_1053 : decode cL_law 1053 = .ok (.iadd, 1) := by decide +kernel
theorem dL_law_1054 : decode cL_law 1054 = .ok (.iaload, 1) := by decide +kernel
theorem dL_law_1055 : decode cL_law 1055 = .ok (.invokevirtual 130, 3) := by decide +kernel
theorem dL_law_1058 : decode cL_law 1058 = .ok (.if_icmp .eq 484, 3) := by decide +kernel
theorem dL_law_1061 : decode cL_law 1061 = .ok (.iconst 0, 1) := by decide +kernel
theorem dL_law_1062 : decode cL_law 1062 = .ok (.ireturn, 1) := by decide +kernel
theorem dL_law_1063 : decode cL_law 1063 = .ok (.aload_n 1, 1) := by decide +kernel
theorem dL_law_1064 : decode cL_law 1064 = .ok (.aload_n 0, 1) := by decide +kernel
theorem dL_law_1065 : decode cL_law 1065 = .ok (.iload_n 3, 1) := by decide +kernel
theorem dL_law_1066 : decode cL_law 1066 = .ok (.iconst 1, 1) := by decide +kernel
theorem dL_law_1067 : decode cL_law 1067 = .ok (.iadd, 1) := by decide +kernel
theorem dL_law_1068 : decode cL_law 1068 = .ok (.iaload, 1) := by decide +kernel
theorem dL_law_1069 : decode cL_law 1069 = .ok (.invokevirtual 131, 3) := by decide +kernel
theorem dL_law_1072 : decode cL_law 1072 = .ok (.aload_n 2, 1) := by decide +kernel
theorem dL_law_1073 : decode cL_law 1073 = .ok (.aload_n 0, 1) := by decide +kernel
theorem dL_law_1074 : decode cL_law 1074 = .ok (.iload_n 3, 1) := by decide +kernel
theorem dL_law_1075 : decode cL_law 1075 = .ok (.iconst 1, 1) := by decide +kernel
theorem dL_law_1076 : decode cL_law 1076 = .ok (.iadd, 1) := by decide +kernel
theorem dL_law_1077 : decode cL_law 1077 = .ok (.iaload, 1) := by decide +kernel
theorem dL_law_1078 : decode cL_law 1078 = .ok (.invokevirtual 134, 3) := by decide +kernel
theorem dL_law_1081 : decode cL_law 1081 = .ok (.if_icmp .eq 461, 3) := by decide +kernel
theorem dL_law_1084 : decode cL_law 1084 = .ok (.iconst 0, 1) := by decide +kernel
theorem dL_law_1085 : decode cL_law 1085 = .ok (.ireturn, 1) := by decide +kernel
theorem dL_law_1086 : decode cL_law 1086 = .ok (.aload_n 1, 1) := by decide +kernel
theorem dL_law_1087 : decode cL_law 1087 = .ok (.aload_n 0, 1) := by decide +kernel
theorem dL_law_1088 : decode cL_law 1088 = .ok (.iload_n 3, 1) := by decide +kernel
theorem dL_law_1089 : decode cL_law 1089 = .ok (.iconst 1, 1) := by decide +kernel
theorem dL_law_1090 : decode cL_law 1090 = .ok (.iadd, 1) := by decide +kernel
theorem dL_law_1091 : decode cL_law 1091 = .ok (.iaload, 1) := by decide +kernel
theorem dL_law_1092 : decode cL_law 1092 = .ok (.invokevirtual 135, 3) := by decide +kernel
theorem dL_law_1095 : decode cL_law 1095 = .ok (.aload_n 2, 1) := by decide +kernel
theorem dL_law_1096 : decode cL_law 1096 = .ok (.aload_n 0, 1) := by decide +kernel
theorem dL_law_1097 : decode cL_law 1097 = .ok (.iload_n 3, 1) := by decide +kernel
theorem dL_law_1098 : decode cL_law 1098 = .ok (.iconst 1, 1) := by decide +kernel
theorem dL_law_1099 : decode cL_law 1099 = .ok (.iadd, 1) := by decide +kernel
theorem dL_law_1100 : decode cL_law 1100 = .ok (.iaload, 1) := by decide +kernel
theorem dL_law_1101 : decode cL_law 1101 = .ok (.invokevirtual 138, 3) := by decide +kernel
theorem dL_law_1104 : decode cL_law 1104 = .ok (.if_icmp .eq 438, 3) := by decide +kernel
theorem dL_law_1107 : decode cL_law 1107 = .ok (.iconst 0, 1) := by decide +kernel
theorem dL_law_1108 : decode cL_law 1108 = .ok (.ireturn, 1) := by decide +kernel
theorem dL_law_1109 : decode cL_law 1109 = .ok (.aload_n 1, 1) := by decide +kernel
theorem dL_law_1110 : decode cL_law 1110 = .ok (.invokevirtual 139, 3) := by decide +kernel
theorem dL_law_1113 : decode cL_law 1113 = .ok (.aload_n 2, 1) := by decide +kernel
theorem dL_law_1114 : decode cL_law 1114 = .ok (.invokevirtual 142, 3) := by decide +kernel
theorem dL_law_1117 : decode cL_law 1117 = .ok (.if_icmp .eq 425, 3) := by decide +kernel
theorem dL_law_1120 : decode cL_law 1120 = .ok (.iconst 0, 1) := by decide +kernel
theorem dL_law_1121 : decode cL_law 1121 = .ok (.ireturn, 1) := by decide +kernel
theorem dL_law_1122 : decode cL_law 1122 = .ok (.aload_n 1, 1) := by decide +kernel
theorem dL_law_1123 : decode cL_law 1123 = .ok (.aload_n 0, 1) := by decide +kernel
theorem dL_law_1124 : decode cL_law 1124 = .ok (.iload_n 3, 1) := by decide +kernel
theorem dL_law_1125 : decode cL_law 1125 = .ok (.iconst 1, 1) := by decide +kernel
theorem dL_law_1126 : decode cL_law 1126 = .ok (.iadd, 1) := by decide +kernel
theorem dL_law_1127 : decode cL_law 1127 = .ok (.iaload, 1) := by decide +kernel
theorem dL_law_1128 : decode cL_law 1128 = .ok (.invokevirtual 143, 3) := by decide +kernel
theorem dL_law_1131 : decode cL_law 1131 = .ok (.aload_n 2, 1) := by decide +kernel
theorem dL_law_1132 : decode cL_law 1132 = .ok (.aload_n 0, 1) := by decide +kernel
theorem dL_law_1133 : decode cL_law 1133 = .ok (.iload_n 3, 1) := by decide +kernel
theorem dL_law_1134 : decode cL_law 1134 = .ok (.iconst 1, 1) := by decide +kernel
theorem dL_law_1135 : decode cL_law 1135 = .ok (.iadd, 1) := by decide +kernel
theorem dL_law_1136 : decode cL_law 1136 = .ok (.iaload, 1) := by decide +kernel
theorem dL_law_1137 : decode cL_law 1137 = .ok (.invokevirtual 146, 3) := by decide +kernel
theorem dL_law_1140 : decode cL_law 1140 = .ok (.if_icmp .eq 402, 3) := by decide +kernel
theorem dL_law_1143 : decode cL_law 1143 = .ok (.iconst 0, 1) := by decide +kernel
theorem dL_law_1144 : decode cL_law 1144 = .ok (.ireturn, 1) := by decide +kernel
theorem dL_law_1145 : decode cL_law 1145 = .ok (.aload_n 1, 1) := by decide +kernel
theorem dL_law_1146 : decode cL_law 1146 = .ok (.invokevirtual 147, 3) := by decide +kernel
theorem dL_law_1149 : decode cL_law 1149 = .ok (.aload_n 2, 1) := by decide +kernel
theorem dL_law_1150 : decode cL_law 1150 = .ok (.invokevirtual 150, 3) := by decide +kernel
theorem dL_law_1153 : decode cL_law 1153 = .ok (.if_icmp .eq 389, 3) := by decide +kernel
theorem dL_law_1156 : decode cL_law 1156 = .ok (.iconst 0, 1) := by decide +kernel
theorem dL_law_1157 : decode cL_law 1157 = .ok (.ireturn, 1) := by decide +kernel
theorem dL_law_1158 : decode cL_law 1158 = .ok (.aload_n 1, 1) := by decide +kernel
theorem dL_law_1159 : decode cL_law 1159 = .ok (.aload_n 0, 1) := by decide +kernel
theorem dL_law_1160 : decode cL_law 1160 = .ok (.iload_n 3, 1) := by decide +kernel
theorem dL_law_1161 : decode cL_law 1161 = .ok (.iconst 1, 1) := by decide +kernel
theorem dL_law_1162 : decode cL_law 1162 = .ok (.iadd, 1) := by decide +kernel
theorem dL_law_1163 : decode cL_law 1163 = .ok (.iaload, 1) := by decide +kernel
theorem dL_law_1164 : decode cL_law 1164 = .ok (.invokevirtual 151, 3) := by decide +kernel
theorem dL_law_1167 : decode cL_law 1167 = .ok (.aload_n 2, 1) := by decide +kernel
theorem dL_law_1168 : decode cL_law 1168 = .ok (.aload_n 0, 1) := by decide +kernel
theorem dL_law_1169 : decode cL_law 1169 = .ok (.iload_n 3, 1) := by decide +kernel
theorem dL_law_1170 : decode cL_law 1170 = .ok (.iconst 1, 1) := by decide +kernel
theorem dL_law_1171 : decode cL_law 1171 = .ok (.iadd, 1) := by decide +kernel
theorem dL_law_1172 : decode cL_law 1172 = .ok (.iaload, 1) := by decide +kernel
theorem dL_law_1173 : decode cL_law 1173 = .ok (.invokevirtual 154, 3) := by decide +kernel
theorem dL_law_1176 : decode cL_law 1176 = .ok (.if_icmp .eq 366, 3) := by decide +kernel
theorem dL_law_1179 : decode cL_law 1179 = .ok (.iconst 0, 1) := by decide +kernel
theorem dL_law_1180 : decode cL_law 1180 = .ok (.ireturn, 1) := by decide +kernel
theorem dL_law_1181 : decode cL_law 1181 = .ok (.aload_n 1, 1) := by decide +kernel
theorem dL_law_1182 : decode cL_law 1182 = .ok (.invokevirtual 155, 3) := by decide +kernel
theorem dL_law_1185 : decode cL_law 1185 = .ok (.aload_n 2, 1) := by decide +kernel
theorem dL_law_1186 : decode cL_law 1186 = .ok (.invokevirtual 158, 3) := by decide +kernel
theorem dL_law_1189 : decode cL_law 1189 = .ok (.if_icmp .eq 353, 3) := by decide +kernel
theorem dL_law_1192 : decode cL_law 1192 = .ok (.iconst 0, 1) := by decide +kernel
theorem dL_law_1193 : decode cL_law 1193 = .ok (.ireturn, 1) := by decide +kernel
theorem dL_law_1194 : decode cL_law 1194 = .ok (.aload_n 1, 1) := by decide +kernel
theorem dL_law_1195 : decode cL_law 1195 = .ok (.aload_n 0, 1) := by decide +kernel
theorem dL_law_1196 : decode cL_law 1196 = .ok (.iload_n 3, 1) := by decide +kernel
theorem dL_law_1197 : decode cL_law 1197 = .ok (.iconst 1, 1) := by decide +kernel
theorem dL_law_1198 : decode cL_law 1198 = .ok (.iadd, 1) := by decide +kernel
theorem dL_law_1199 : decode cL_law 1199 = .ok (.iaload, 1) := by decide +kernel
theorem dL_law_1200 : decode cL_law 1200 = .ok (.aload_n 0, 1) := by decide +kernel
theorem dL_law_1201 : decode cL_law 1201 = .ok (.iload_n 3, 1) := by decide +kernel
theorem dL_law_1202 : decode cL_law 1202 = .ok (.iconst 2, 1) := by decide +kernel
theorem dL_law_1203 : decode cL_law 1203 = .ok (.iadd, 1) := by decide +kernel
theorem dL_law_1204 : decode cL_law 1204 = .ok (.iaload, 1) := by decide +kernel
theorem dL_law_1205 : decode cL_law 1205 = .ok (.aload_n 0, 1) := by decide +kernel
theorem dL_law_1206 : decode cL_law 1206 = .ok (.iload_n 3, 1) := by decide +kernel
theorem dL_law_1207 : decode cL_law 1207 = .ok (.iconst 3, 1) := by decide +kernel
theorem dL_law_1208 : decode cL_law 1208 = .ok (.iadd, 1) := by decide +kernel
theorem dL_law_1209 : decode cL_law 1209 = .ok (.iaload, 1) := by decide +kernel
theorem dL_law_1210 : decode cL_law 1210 = .ok (.invokevirtual 159, 3) := by decide +kernel
theorem dL_law_1213 : decode cL_law 1213 = .ok (.aload_n 2, 1) := by decide +kernel
theorem dL_law_1214 : decode cL_law 1214 = .ok (.aload_n 0, 1) := by decide +kernel
theorem dL_law_1215 : decode cL_law 1215 = .ok (.iload_n 3, 1) := by decide +kernel
theorem dL_law_1216 : decode cL_law 1216 = .ok (.iconst 1, 1) := by decide +kernel
theorem dL_law_1217 : decode cL_law 1217 = .ok (.iadd, 1) := by decide +kernel
theorem dL_law_1218 : decode cL_law 1218 = .ok (.iaload, 1) := by decide +kernel
theorem dL_law_1219 : decode cL_law 1219 = .ok (.aload_n 0, 1) := by decide +kernel
theorem dL_law_1220 : decode cL_law 1220 = .ok (.iload_n 3, 1) := by decide +kernel
theorem dL_law_1221 : decode cL_law 1221 = .ok (.iconst 2, 1) := by decide +kernel
theorem dL_law_1222 : decode cL_law 1222 = .ok (.iadd, 1) := by decide +kernel
theorem dL_law_1223 : decode cL_law 1223 = .ok (.iaload, 1) := by decide +kernel
theorem dL_law_1224 : decode cL_law 1224 = .ok (.aload_n 0, 1) := by decide +kernel
theorem dL_law_1225 : decode cL_law 1225 = .ok (.iload_n 3, 1) := by decide +kernel
theorem dL_law_1226 : decode cL_law 1226 = .ok (.iconst 3, 1) := by decide +kernel
theorem dL_law_1227 : decode cL_law 1227 = .ok (.iadd, 1) := by decide +kernel
theorem dL_law_1228 : decode cL_law 1228 = .ok (.iaload, 1) := by decide +kernel
theorem dL_law_1229 : decode cL_law 1229 = .ok (.invokevirtual 162, 3) := by decide +kernel
theorem dL_law_1232 : decode cL_law 1232 = .ok (.if_icmp .eq 310, 3) := by decide +kernel
theorem dL_law_1235 : decode cL_law 1235 = .ok (.iconst 0, 1) := by decide +kernel
theorem dL_law_1236 : decode cL_law 1236 = .ok (.ireturn, 1) := by decide +kernel
theorem dL_law_1237 : decode cL_law 1237 = .ok (.aload_n 1, 1) := by decide +kernel
theorem dL_law_1238 : decode cL_law 1238 = .ok (.aload_n 0, 1) := by decide +kernel
theorem dL_law_1239 : decode cL_law 1239 = .ok (.iload_n 3, 1) := by decide +kernel
theorem dL_law_1240 : decode cL_law 1240 = .ok (.iconst 1, 1) := by decide +kernel
theorem dL_law_1241 : decode cL_law 1241 = .ok (.iadd, 1) := by decide +kernel
theorem dL_law_1242 : decode cL_law 1242 = .ok (.iaload, 1) := by decide +kernel
theorem dL_law_1243 : decode cL_law 1243 = .ok (.aload_n 0, 1) := by decide +kernel
theorem dL_law_1244 : decode cL_law 1244 = .ok (.iload_n 3, 1) := by decide +kernel
theorem dL_law_1245 : decode cL_law 1245 = .ok (.iconst 2, 1) := by decide +kernel
theorem dL_law_1246 : decode cL_law 1246 = .ok (.iadd, 1) := by decide +kernel
theorem dL_law_1247 : decode cL_law 1247 = .ok (.iaload, 1) := by decide +kernel
theorem dL_law_1248 : decode cL_law 1248 = .ok (.aload_n 0, 1) := by decide +kernel
theorem dL_law_1249 : decode cL_law 1249 = .ok (.iload_n 3, 1) := by decide +kernel
theorem dL_law_1250 : decode cL_law 1250 = .ok (.iconst 3, 1) := by decide +kernel
theorem dL_law_1251 : decode cL_law 1251 = .ok (.iadd, 1) := by decide +kernel
theorem dL_law_1252 : decode cL_law 1252 = .ok (.iaload, 1) := by decide +kernel
theorem dL_law_1253 : decode cL_law 1253 = .ok (.i2l, 1) := by decide +kernel
theorem dL_law_1254 : decode cL_law 1254 = .ok (.bipush 32, 2) := by decide +kernel
theorem dL_law_1256 : decode cL_law 1256 = .ok (.lshl, 1) := by decide +kernel
theorem dL_law_1257 : decode cL_law 1257 = .ok (.aload_n 0, 1) := by decide +kernel
theorem dL_law_1258 : decode cL_law 1258 = .ok (.iload_n 3, 1) := by decide +kernel
theorem dL_law_1259 : decode cL_law 1259 = .ok (.iconst 4, 1) := by decide +kernel
theorem dL_law_1260 : decode cL_law 1260 = .ok (.iadd, 1) := by decide +kernel
theorem dL_law_1261 : decode cL_law 1261 = .ok (.iaload, 1) := by decide +kernel
theorem dL_law_1262 : decode cL_law 1262 = .ok (.i2l, 1) := by decide +kernel
theorem dL_law_1263 : decode cL_law 1263 = .ok (.ldc2_w 163, 3) := by decide +kernel
theorem dL_law_1266 : decode cL_law 1266 = .ok (.land, 1) := by decide +kernel
theorem dL_law_1267 : decode cL_law 1267 = .ok (.lor, 1) := by decide +kernel
theorem dL_law_1268 : decode cL_law 1268 = .ok (.invokevirtual 165, 3) := by decide +kernel
theorem dL_law_1271 : decode cL_law 1271 = .ok (.aload_n 2, 1) := by decide +kernel
theorem dL_law_1272 : decode cL_law 1272 = .ok (.aload_n 0, 1) := by decide +kernel
theorem dL_law_1273 : decode cL_law 1273 = .ok (.iload_n 3, 1) := by decide +kernel
theorem dL_law_1274 : decode cL_law 1274 = .ok (.iconst 1, 1) := by decide +kernel
theorem dL_law_1275 : decode cL_law 1275 = .ok (.iadd, 1) := by decide +kernel
theorem dL_law_1276 : decode cL_law 1276 = .ok (.iaload, 1) := by decide +kernel
theorem dL_law_1277 : decode cL_law 1277 = .ok (.aload_n 0, 1) := by decide +kernel
theorem dL_law_1278 : decode cL_law 1278 = .ok (.iload_n 3, 1) := by decide +kernel
theorem dL_law_1279 : decode cL_law 1279 = .ok (.iconst 2, 1) := by decide +kernel
theorem dL_law_1280 : decode cL_law 1280 = .ok (.iadd, 1) := by decide +kernel
theorem dL_law_1281 : decode cL_law 1281 = .ok (.iaload, 1) := by decide +kernel
theorem dL_law_1282 : decode cL_law 1282 = .ok (.aload_n 0, 1) := by decide +kernel
theorem dL_law_1283 : decode cL_law 1283 = .ok (.iload_n 3, 1) := by decide +kernel
theorem dL_law_1284 : decode cL_law 1284 = .ok (.iconst 3, 1) := by decide +kernel
theorem dL_law_1285 : decode cL_law 1285 = .ok (.iadd, 1) := by decide +kernel
theorem dL_law_1286 : decode cL_law 1286 = .ok (.iaload, 1) := by decide +kernel
theorem dL_law_1287 : decode cL_law 1287 = .ok (.i2l, 1) := by decide +kernel
theorem dL_law_1288 : decode cL_law 1288 = .ok (.bipush 32, 2) := by decide +kernel
theorem dL_law_1290 : decode cL_law 1290 = .ok (.lshl, 1) := by decide +kernel
theorem dL_law_1291 : decode cL_law 1291 = .ok (.aload_n 0, 1) := by decide +kernel
theorem dL_law_1292 : decode cL_law 1292 = .ok (.iload_n 3, 1) := by decide +kernel
theorem dL_law_1293 : decode cL_law 1293 = .ok (.iconst 4, 1) := by decide +kernel
theorem dL_law_1294 : decode cL_law 1294 = .ok (.iadd, 1) := by decide +kernel
theorem dL_law_1295 : decode cL_law 1295 = .ok (.iaload, 1) := by decide +kernel
theorem dL_law_1296 : decode cL_law 1296 = .ok (.i2l, 1) := by decide +kernel
theorem dL_law_1297 : decode cL_law 1297 = .ok (.ldc2_w 163, 3) := by decide +kernel
theorem dL_law_1300 : decode cL_law 1300 = .ok (.land, 1) := by decide +kernel
theorem dL_law_1301 : decode cL_law 1301 = .ok (.lor, 1) := by decide +kernel
theorem dL_law_1302 : decode cL_law 1302 = .ok (.invokevirtual 169, 3) := by decide +kernel
theorem dL_law_1305 : decode cL_law 1305 = .ok (.if_icmp .eq 237, 3) := by decide +kernel
theorem dL_law_1308 : decode cL_law 1308 = .ok (.iconst 0, 1) := by decide +kernel
theorem dL_law_1309 : decode cL_law 1309 = .ok (.ireturn, 1) := by decide +kernel
theorem dL_law_1310 : decode cL_law 1310 = .ok (.aload_n 1, 1) := by decide +kernel
theorem dL_law_1311 : decode cL_law 1311 = .ok (.aload_n 0, 1) := by decide +kernel
theorem dL_law_1312 : decode cL_law 1312 = .ok (.iload_n 3, 1) := by decide +kernel
theorem dL_law_1313 : decode cL_law 1313 = .ok (.iconst 1, 1) := by decide +kernel
theorem dL_law_1314 : decode cL_law 1314 = .ok (.iadd, 1) := by decide +kernel
theorem dL_law_1315 : decode cL_law 1315 = .ok (.iaload, 1) := by decide +kernel
theorem dL_law_1316 : decode cL_law 1316 = .ok (.aload_n 0, 1) := by decide +kernel
theorem dL_law_1317 : decode cL_law 1317 = .ok (.iload_n 3, 1) := by decide +kernel
theorem dL_law_1318 : decode cL_law 1318 = .ok (.iconst 2, 1) := by decide +kernel
theorem dL_law_1319 : decode cL_law 1319 = .ok (.iadd, 1) := by decide +kernel
theorem dL_law_1320 : decode cL_law 1320 = .ok (.iaload, 1) := by decide +kernel
theorem dL_law_1321 : decode cL_law 1321 = .ok (.invokevirtual 170, 3) := by decide +kernel
theorem dL_law_1324 : decode cL_law 1324 = .ok (.aload_n 2, 1) := by decide +kernel
theorem dL_law_1325 : decode cL_law 1325 = .ok (.aload_n 0, 1) := by decide +kernel
theorem dL_law_1326 : decode cL_law 1326 = .ok (.iload_n 3, 1) := by decide +kernel
theorem dL_law_1327 : decode cL_law 1327 = .ok (.iconst 1, 1) := by decide +kernel
theorem dL_law_1328 : decode cL_law 1328 = .ok (.iadd, 1) := by decide +kernel
theorem dL_law_1329 : decode cL_law 1329 = .ok (.iaload, 1) := by decide +kernel
theorem dL_law_1330 : decode cL_law 1330 = .ok (.aload_n 0, 1) := by decide +kernel
theorem dL_law_1331 : decode cL_law 1331 = .ok (.iload_n 3, 1) := by decide +kernel
theorem dL_law_1332 : decode cL_law 1332 = .ok (.iconst 2, 1) := by decide +kernel
theorem dL_law_1333 : decode cL_law 1333 = .ok (.iadd, 1) := by decide +kernel
theorem dL_law_1334 : decode cL_law 1334 = .ok (.iaload, 1) := by decide +kernel
theorem dL_law_1335 : decode cL_law 1335 = .ok (.invokevirtual 173, 3) := by decide +kernel
theorem dL_law_1338 : decode cL_law 1338 = .ok (.lcmp, 1) := by decide +kernel
theorem dL_law_1339 : decode cL_law 1339 = .ok (.ifCond .eq 203, 3) := by decide +kernel
theorem dL_law_1342 : decode cL_law 1342 = .ok (.iconst 0, 1) := by decide +kernel
theorem dL_law_1343 : decode cL_law 1343 = .ok (.ireturn, 1) := by decide +kernel
theorem dL_law_1344 : decode cL_law 1344 = .ok (.aload_n 1, 1) := by decide +kernel
theorem dL_law_1345 : decode cL_law 1345 = .ok (.aload_n 0, 1) := by decide +kernel
theorem dL_law_1346 : decode cL_law 1346 = .ok (.iload_n 3, 1) := by decide +kernel
theorem dL_law_1347 : decode cL_law 1347 = .ok (.iconst 1, 1) := by decide +kernel
theorem dL_law_1348 : decode cL_law 1348 = .ok (.iadd, 1) := by decide +kernel
theorem dL_law_1349 : decode cL_law 1349 = .ok (.iaload, 1) := by decide +kernel
theorem dL_law_1350 : decode cL_law 1350 = .ok (.aload_n 0, 1) := by decide +kernel
theorem dL_law_1351 : decode cL_law 1351 = .ok (.iload_n 3, 1) := by decide +kernel
theorem dL_law_1352 : decode cL_law 1352 = .ok (.iconst 2, 1) := by decide +kernel
theorem dL_law_1353 : decode cL_law 1353 = .ok (.iadd, 1) := by decide +kernel
theorem dL_law_1354 : decode cL_law 1354 = .ok (.iaload, 1) := by decide +kernel
theorem dL_law_1355 : decode cL_law 1355 = .ok (.aload_n 0, 1) := by decide +kernel
theorem dL_law_1356 : decode cL_law 1356 = .ok (.iload_n 3, 1) := by decide +kernel
theorem dL_law_1357 : decode cL_law 1357 = .ok (.iconst 3, 1) := by decide +kernel
theorem dL_law_1358 : decode cL_law 1358 = .ok (.iadd, 1) := by decide +kernel
theorem dL_law_1359 : decode cL_law 1359 = .ok (.iaload, 1) := by decide +kernel
theorem dL_law_1360 : decode cL_law 1360 = .ok (.invokevirtual 174, 3) := by decide +kernel
theorem dL_law_1363 : decode cL_law 1363 = .ok (.aload_n 2, 1) := by decide +kernel
theorem dL_law_1364 : decode cL_law 1364 = .ok (.aload_n 0, 1) := by decide +kernel
theorem dL_law_1365 : decode cL_law 1365 = .ok (.iload_n 3, 1) := by decide +kernel
theorem dL_law_1366 : decode cL_law 1366 = .ok (.iconst 1, 1) := by decide +kernel
theorem dL_law_1367 : decode cL_law 1367 = .ok (.iadd, 1) := by decide +kernel
theorem dL_law_1368 : decode cL_law 1368 = .ok (.iaload, 1) := by decide +kernel
theorem dL_law_1369 : decode cL_law 1369 = .ok (.aload_n 0, 1) := by decide +kernel
theorem dL_law_1370 : decode cL_law 1370 = .ok (.iload_n 3, 1) := by decide +kernel
theorem dL_law_1371 : decode cL_law 1371 = .ok (.iconst 2, 1) := by decide +kernel
theorem dL_law_1372 : decode cL_law 1372 = .ok (.iadd, 1) := by decide +kernel
theorem dL_law_1373 : decode cL_law 1373 = .ok (.iaload, 1) := by decide +kernel
theorem dL_law_1374 : decode cL_law 1374 = .ok (.aload_n 0, 1) := by decide +kernel
theorem dL_law_1375 : decode cL_law 1375 = .ok (.iload_n 3, 1) := by decide +kernel
theorem dL_law_1376 : decode cL_law 1376 = .ok (.iconst 3, 1) := by decide +kernel
theorem dL_law_1377 : decode cL_law 1377 = .ok (.iadd, 1) := by decide +kernel
theorem dL_law_1378 : decode cL_law 1378 = .ok (.iaload, 1) := by decide +kernel
theorem dL_law_1379 : decode cL_law 1379 = .ok (.invokevirtual 177, 3) := by decide +kernel
theorem dL_law_1382 : decode cL_law 1382 = .ok (.if_icmp .eq 160, 3) := by decide +kernel
theorem dL_law_1385 : decode cL_law 1385 = .ok (.iconst 0, 1) := by decide +kernel
theorem dL_law_1386 : decode cL_law 1386 = .ok (.ireturn, 1) := by decide +kernel
theorem dL_law_1387 : decode cL_law 1387 = .ok (.aload_n 1, 1) := by decide +kernel
theorem dL_law_1388 : decode cL_law 1388 = .ok (.aload_n 0, 1) := by decide +kernel
theorem dL_law_1389 : decode cL_law 1389 = .ok (.iload_n 3, 1) := by decide +kernel
theorem dL_law_1390 : decode cL_law 1390 = .ok (.iconst 1, 1) := by decide +kernel
theorem dL_law_1391 : decode cL_law 1391 = .ok (.iadd, 1) := by decide +kernel
theorem dL_law_1392 : decode cL_law 1392 = .ok (.iaload, 1) := by decide +kernel
theorem dL_law_1393 : decode cL_law 1393 = .ok (.aload_n 0, 1) := by decide +kernel
theorem dL_law_1394 : decode cL_law 1394 = .ok (.iload_n 3, 1) := by decide +kernel
theorem dL_law_1395 : decode cL_law 1395 = .ok (.iconst 2, 1) := by decide +kernel
theorem dL_law_1396 : decode cL_law 1396 = .ok (.iadd, 1) := by decide +kernel
theorem dL_law_1397 : decode cL_law 1397 = .ok (.iaload, 1) := by decide +kernel
theorem dL_law_1398 : decode cL_law 1398 = .ok (.aload_n 0, 1) := by decide +kernel
theorem dL_law_1399 : decode cL_law 1399 = .ok (.iload_n 3, 1) := by decide +kernel
theorem dL_law_1400 : decode cL_law 1400 = .ok (.iconst 3, 1) := by decide +kernel
theorem dL_law_1401 : decode cL_law 1401 = .ok (.iadd, 1) := by decide +kernel
theorem dL_law_1402 : decode cL_law 1402 = .ok (.iaload, 1) := by decide +kernel
theorem dL_law_1403 : decode cL_law 1403 = .ok (.invokevirtual 178, 3) := by decide +kernel
theorem dL_law_1406 : decode cL_law 1406 = .ok (.aload_n 2, 1) := by decide +kernel
theorem dL_law_1407 : decode cL_law 1407 = .ok (.aload_n 0, 1) := by decide +kernel
theorem dL_law_1408 : decode cL_law 1408 = .ok (.iload_n 3, 1) := by decide +kernel
theorem dL_law_1409 : decode cL_law 1409 = .ok (.iconst 1, 1) := by decide +kernel
theorem dL_law_1410 : decode cL_law 1410 = .ok (.iadd, 1) := by decide +kernel
theorem dL_law_1411 : decode cL_law 1411 = .ok (.iaload, 1) := by decide +kernel
theorem dL_law_1412 : decode cL_law 1412 = .ok (.aload_n 0, 1) := by decide +kernel
theorem dL_law_1413 : decode cL_law 1413 = .ok (.iload_n 3, 1) := by decide +kernel
theorem dL_law_1414 : decode cL_law 1414 = .ok (.iconst 2, 1) := by decide +kernel
theorem dL_law_1415 : decode cL_law 1415 = .ok (.iadd, 1) := by decide +kernel
theorem dL_law_1416 : decode cL_law 1416 = .ok (.iaload, 1) := by decide +kernel
theorem dL_law_1417 : decode cL_law 1417 = .ok (.aload_n 0, 1) := by decide +kernel
theorem dL_law_1418 : decode cL_law 1418 = .ok (.iload_n 3, 1) := by decide +kernel
theorem dL_law_1419 : decode cL_law 1419 = .ok (.iconst 3, 1) := by decide +kernel
theorem dL_law_1420 : decode cL_law 1420 = .ok (.iadd, 1) := by decide +kernel
theorem dL_law_1421 : decode cL_law 1421 = .ok (.iaload, 1) := by decide +kernel
theorem dL_law_1422 : decode cL_law 1422 = .ok (.invokevirtual 181, 3) := by decide +kernel
theorem dL_law_1425 : decode cL_law 1425 = .ok (.if_icmp .eq 117, 3) := by decide +kernel
theorem dL_law_1428 : decode cL_law 1428 = .ok (.iconst 0, 1) := by decide +kernel
theorem dL_law_1429 : decode cL_law 1429 = .ok (.ireturn, 1) := by decide +kernel
theorem dL_law_1430 : decode cL_law 1430 = .ok (.aload_n 1, 1) := by decide +kernel
theorem dL_law_1431 : decode cL_law 1431 = .ok (.aload_n 0, 1) := by decide +kernel
theorem dL_law_1432 : decode cL_law 1432 = .ok (.iload_n 3, 1) := by decide +kernel
theorem dL_law_1433 : decode cL_law 1433 = .ok (.iconst 1, 1) := by decide +kernel
theorem dL_law_1434 : decode cL_law 1434 = .ok (.iadd, 1) := by decide +kernel
theorem dL_law_1435 : decode cL_law 1435 = .ok (.iaload, 1) := by decide +kernel
theorem dL_law_1436 : decode cL_law 1436 = .ok (.aload_n 0, 1) := by decide +kernel
theorem dL_law_1437 : decode cL_law 1437 = .ok (.iload_n 3, 1) := by decide +kernel
theorem dL_law_1438 : decode cL_law 1438 = .ok (.iconst 2, 1) := by decide +kernel
theorem dL_law_1439 : decode cL_law 1439 = .ok (.iadd, 1) := by decide +kernel
theorem dL_law_1440 : decode cL_law 1440 = .ok (.iaload, 1) := by decide +kernel
theorem dL_law_1441 : decode cL_law 1441 = .ok (.aload_n 0, 1) := by decide +kernel
theorem dL_law_1442 : decode cL_law 1442 = .ok (.iload_n 3, 1) := by decide +kernel
theorem dL_law_1443 : decode cL_law 1443 = .ok (.iconst 3, 1) := by decide +kernel
theorem dL_law_1444 : decode cL_law 1444 = .ok (.iadd, 1) := by decide +kernel
theorem dL_law_1445 : decode cL_law 1445 = .ok (.iaload, 1) := by decide +kernel
theorem dL_law_1446 : decode cL_law 1446 = .ok (.aload_n 0, 1) := by decide +kernel
theorem dL_law_1447 : decode cL_law 1447 = .ok (.iload_n 3, 1) := by decide +kernel
theorem dL_law_1448 : decode cL_law 1448 = .ok (.iconst 4, 1) := by decide +kernel
theorem dL_law_1449 : decode cL_law 1449 = .ok (.iadd, 1) := by decide +kernel
theorem dL_law_1450 : decode cL_law 1450 = .ok (.iaload, 1) := by decide +kernel
theorem dL_law_1451 : decode cL_law 1451 = .ok (.aload_n 0, 1) := by decide +kernel
theorem dL_law_1452 : decode cL_law 1452 = .ok (.iload_n 3, 1) := by decide +kernel
theorem dL_law_1453 : decode cL_law 1453 = .ok (.iconst 5, 1) := by decide +kernel
theorem dL_law_1454 : decode cL_law 1454 = .ok (.iadd, 1) := by decide +kernel
theorem dL_law_1455 : decode cL_law 1455 = .ok (.iaload, 1) := by decide +kernel
theorem dL_law_1456 : decode cL_law 1456 = .ok (.invokevirtual 182, 3) := by decide +kernel
theorem dL_law_1459 : decode cL_law 1459 = .ok (.aload_n 2, 1) := by decide +kernel
theorem dL_law_1460 : decode cL_law 1460 = .ok (.aload_n 0, 1) := by decide +kernel
theorem dL_law_1461 : decode cL_law 1461 = .ok (.iload_n 3, 1) := by decide +kernel
theorem dL_law_1462 : decode cL_law 1462 = .ok (.iconst 1, 1) := by decide +kernel
theorem dL_law_1463 : decode cL_law 1463 = .ok (.iadd, 1) := by decide +kernel
theorem dL_law_1464 : decode cL_law 1464 = .ok (.iaload, 1) := by decide +kernel
theorem dL_law_1465 : decode cL_law 1465 = .ok (.aload_n 0, 1) := by decide +kernel
theorem dL_law_1466 : decode cL_law 1466 = .ok (.iload_n 3, 1) := by decide +kernel
theorem dL_law_1467 : decode cL_law 1467 = .ok (.iconst 2, 1) := by decide +kernel
theorem dL_law_1468 : decode cL_law 1468 = .ok (.iadd, 1) := by decide +kernel
theorem dL_law_1469 : decode cL_law 1469 = .ok (.iaload, 1) := by decide +kernel
theorem dL_law_1470 : decode cL_law 1470 = .ok (.aload_n 0, 1) := by decide +kernel
theorem dL_law_1471 : decode cL_law 1471 = .ok (.iload_n 3, 1) := by decide +kernel
theorem dL_law_1472 : decode cL_law 1472 = .ok (.iconst 3, 1) := by decide +kernel
theorem dL_law_1473 : decode cL_law 1473 = .ok (.iadd, 1) := by decide +kernel
theorem dL_law_1474 : decode cL_law 1474 = .ok (.iaload, 1) := by decide +kernel
theorem dL_law_1475 : decode cL_law 1475 = .ok (.aload_n 0, 1) := by decide +kernel
theorem dL_law_1476 : decode cL_law 1476 = .ok (.iload_n 3, 1) := by decide +kernel
theorem dL_law_1477 : decode cL_law 1477 = .ok (.iconst 4, 1) := by decide +kernel
theorem dL_law_1478 : decode cL_law 1478 = .ok (.iadd, 1) := by decide +kernel
theorem dL_law_1479 : decode cL_law 1479 = .ok (.iaload, 1) := by decide +kernel
theorem dL_law_1480 : decode cL_law 1480 = .ok (.aload_n 0, 1) := by decide +kernel
theorem dL_law_1481 : decode cL_law 1481 = .ok (.iload_n 3, 1) := by decide +kernel
theorem dL_law_1482 : decode cL_law 1482 = .ok (.iconst 5, 1) := by decide +kernel
theorem dL_law_1483 : decode cL_law 1483 = .ok (.iadd, 1) := by decide +kernel
theorem dL_law_1484 : decode cL_law 1484 = .ok (.iaload, 1) := by decide +kernel
theorem dL_law_1485 : decode cL_law 1485 = .ok (.invokevirtual 186, 3) := by decide +kernel
theorem dL_law_1488 : decode cL_law 1488 = .ok (.if_icmp .eq 54, 3) := by decide +kernel
theorem dL_law_1491 : decode cL_law 1491 = .ok (.iconst 0, 1) := by decide +kernel
theorem dL_law_1492 : decode cL_law 1492 = .ok (.ireturn, 1) := by decide +kernel
theorem dL_law_1493 : decode cL_law 1493 = .ok (.aload_n 1, 1) := by decide +kernel
theorem dL_law_1494 : decode cL_law 1494 = .ok (.aload_n 0, 1) := by decide +kernel
theorem dL_law_1495 : decode cL_law 1495 = .ok (.iload_n 3, 1) := by decide +kernel
theorem dL_law_1496 : decode cL_law 1496 = .ok (.iconst 1, 1) := by decide +kernel
theorem dL_law_1497 : decode cL_law 1497 = .ok (.iadd, 1) := by decide +kernel
theorem dL_law_1498 : decode cL_law 1498 = .ok (.iaload, 1) := by decide +kernel
theorem dL_law_1499 : decode cL_law 1499 = .ok (.invokevirtual 187, 3) := by decide +kernel
theorem dL_law_1502 : decode cL_law 1502 = .ok (.aload_n 2, 1) := by decide +kernel
theorem dL_law_1503 : decode cL_law 1503 = .ok (.aload_n 0, 1) := by decide +kernel
theorem dL_law_1504 : decode cL_law 1504 = .ok (.iload_n 3, 1) := by decide +kernel
theorem dL_law_1505 : decode cL_law 1505 = .ok (.iconst 1, 1) := by decide +kernel
theorem dL_law_1506 : decode cL_law 1506 = .ok (.iadd, 1) := by decide +kernel
theorem dL_law_1507 : decode cL_law 1507 = .ok (.iaload, 1) := by decide +kernel
theorem dL_law_1508 : decode cL_law 1508 = .ok (.invokevirtual 190, 3) := by decide +kernel
theorem dL_law_1511 : decode cL_law 1511 = .ok (.if_icmp .eq 31, 3) := by decide +kernel
theorem dL_law_1514 : decode cL_law 1514 = .ok (.iconst 0, 1) := by decide +kernel
theorem dL_law_1515 : decode cL_law 1515 = .ok (.ireturn, 1) := by decide +kernel
theorem dL_law_1516 : decode cL_law 1516 = .ok (.aload_n 1, 1) := by decide +kernel
theorem dL_law_1517 : decode cL_law 1517 = .ok (.invokevirtual 191, 3) := by decide +kernel
theorem dL_law_1520 : decode cL_law 1520 = .ok (.aload_n 2, 1) := by decide +kernel
theorem dL_law_1521 : decode cL_law 1521 = .ok (.invokevirtual 194, 3) := by decide +kernel
theorem dL_law_1524 : decode cL_law 1524 = .ok (.if_icmp .eq 18, 3) := by decide +kernel
theorem dL_law_1527 : decode cL_law 1527 = .ok (.iconst 0, 1) := by decide +kernel
theorem dL_law_1528 : decode cL_law 1528 = .ok (.ireturn, 1) := by decide +kernel
theorem dL_law_1529 : decode cL_law 1529 = .ok (.aload_n 1, 1) := by decide +kernel
theorem dL_law_1530 : decode cL_law 1530 = .ok (.invokevirtual 195, 3) := by decide +kernel
theorem dL_law_1533 : decode cL_law 1533 = .ok (.aload_n 2, 1) := by decide +kernel
theorem dL_law_1534 : decode cL_law 1534 = .ok (.invokevirtual 198, 3) := by decide +kernel
theorem dL_law_1537 : decode cL_law 1537 = .ok (.if_icmp .eq 5, 3) := by decide +kernel
theorem dL_law_1540 : decode cL_law 1540 = .ok (.iconst 0, 1) := by decide +kernel
theorem dL_law_1541 : decode cL_law 1541 = .ok (.ireturn, 1) := by decide +kernel
theorem dL_law_1542 : decode cL_law 1542 = .ok (.iinc 3 6, 3) := by decide +kernel
theorem dL_law_1545 : decode cL_law 1545 = .ok (.goto (-1527), 3) := by decide +kernel
theorem dL_law_1548 : decode cL_law 1548 = .ok (.iconst 1, 1) := by decide +kernel
theorem dL_law_1549 : decode cL_law 1549 = .ok (.ireturn, 1) := by decide +kernel
end
section
/-! The core: an abstract world (cells by number, primitives in one memory, references fixed), the judgement zZ over it, a row an instruction. -/
abbrev ZShp : Type := Nat × Nat × List (Option Nat)
abbrev ZMem : Type := (Nat → Nat → Int32) × (Nat → Nat → Int64)
/-- an abstract value's own: a reference is the number of a cell -/
def zz_tr (ad : Nat → Nat) : Value → Value
  | .ref k => .ref (ad k)
  | v => v
def zz_fv (ad : Nat → Nat) (f : Nat → Int32) (j : Nat) : Option Nat → Value
  | some t => .ref (ad t)
  | none => .int (f j)
/-- the cell k of the shape sh: 0 object (class, slots), 1 ints, 2 longs, else references -/
def zz_cel (cy : Nat → ClassId) (ad : Nat → Nat) (μ : ZMem) (k : Nat) (sh : ZShp) : va_E :=
  match sh with
  | (0, ci, rs) => .inr (ci, rs.mapIdx (zz_fv ad (μ.1 k)))
  | (1, n, _) => .inl (cy 0, n, .inl (μ.1 k))
  | (2, n, _) => .inl (cy 1, n, .inr (.inl (μ.2 k)))
  | (_ + 3, w, rs) => .inl (cy w, rs.length, .inr (.inr (.inr (.inr (fun i => (rs.getD i none).map ad)))))
def zz_wld (S : List ZShp) (cy : Nat → ClassId) (ad : Nat → Nat) (μ : ZMem) : va_W := S.mapIdx (fun k sh => (ad k, zz_cel cy ad μ k sh))
def zz_tys (cy : Nat → ClassId) : List (ClassId × FieldType) := [(cy 0, .int), (cy 1, .long), (cy 2, .object "SignTables$Factor"), (cy 3, .object "SignTables$Tray"), (cy 4, .array .long)]
def zz_upI (μ : ZMem) (k i : Nat) (v : Int32) : ZMem := (fun a => if a = k then upd (μ.1 k) i v else μ.1 a, μ.2)
def zz_upJ (μ : ZMem) (k i : Nat) (v : Int64) : ZMem := (μ.1, fun a => if a = k then vp_updL (μ.2 k) i v else μ.2 a)
def zz_cpI (μ : ZMem) (k0 k1 sp dp n : Nat) : ZMem := (fun a => if a = k1 then va_cpy (μ.1 k0) (μ.1 k1) sp dp n else μ.1 a, μ.2)
def zz_cpJ (μ : ZMem) (k0 k1 sp dp n : Nat) : ZMem := (μ.1, fun a => if a = k1 then va_cpy (μ.2 k0) (μ.2 k1) sp dp n else μ.2 a)
/-- rows of references: b, b + 1, .. and b, b + 2, .. -/
def zz_rw1 (b n : Nat) : List (Option Nat) := (List.range n).map (fun i => some (b + i))
def zz_rw2 (b n : Nat) : List (Option Nat) := (List.range n).map (fun i => some (b + 2 * i))
theorem zz_tr_cat (ad : Nat → Nat) (v : Value) : (zz_tr ad v).category = v.category := by cases v <;> rfl
theorem zz_tr_sum (ad : Nat → Nat) (l : List Value) : ((l.map (zz_tr ad)).map fun v => v.category).sum = (l.map fun v => v.category).sum := by
  rw [List.map_map]
  congr 1
  apply List.map_congr_left
  intro v _
  exact zz_tr_cat ad v
theorem zz_wld_get {S : List ZShp} {cy : Nat → ClassId} {ad : Nat → Nat} {μ : ZMem} {k : Nat} {sh : ZShp} (h : S[k]? = some sh) : (zz_wld S cy ad μ)[k]? = some (ad k, zz_cel cy ad μ k sh) := by
  simp only [zz_wld, List.getElem?_mapIdx, h, Option.map_some]
theorem zz_wld_set {S : List ZShp} {cy : Nat → ClassId} {ad : Nat → Nat} {μ μ' : ZMem} {k : Nat} {e : va_E} {sh : ZShp} (h : S[k]? = some sh) (he : zz_cel cy ad μ' k sh = e) (h1 : ∀ j, j ≠ k → μ'.1 j = μ.1 j) (h2 : ∀ j, j ≠ k → μ'.2 j = μ.2 j) : (zz_wld S cy ad μ).set k (ad k, e) = zz_wld S cy ad μ' := by
  apply List.ext_getElem?
  intro j
  by_cases hj : j = k
  · subst hj
    have hl : j < (zz_wld S cy ad μ).length := by
      have := (List.getElem?_eq_some_iff.mp h).1
      simpa [zz_wld] using this
    rw [List.getElem?_set_self hl, zz_wld_get h, he]
  · rw [List.getElem?_set_ne (fun q => hj q.symm)]
    simp only [zz_wld, List.getElem?_mapIdx]
    cases hs : S[j]? with
    | none => rfl
    | some sj =>
      obtain ⟨tg, n, rs⟩ := sj
      simp only [Option.map_some]
      congr 2
      match tg with
      | 0 => simp only [zz_cel, h1 j hj]
      | 1 => simp only [zz_cel, h1 j hj]
      | 2 => simp only [zz_cel, h2 j hj]
      | _ + 3 => rfl
theorem zz_wld_D {S : List ZShp} {cy : Nat → ClassId} {ad : Nat → Nat} {μ μ' : ZMem} {A A' : Nat → Prop} (h : va_D A (zz_wld S cy ad μ)) (hA : ∀ k, k < S.length → A' (ad k)) : va_D A' (zz_wld S cy ad μ') := by
  have key : ∀ (i : Nat) (q : Nat × va_E), (zz_wld S cy ad μ')[i]? = some q → i < S.length ∧ q.1 = ad i ∧ ∃ e, (zz_wld S cy ad μ)[i]? = some (ad i, e) := by
    intro i q hq
    simp only [zz_wld, List.getElem?_mapIdx] at hq ⊢
    cases hs : S[i]? with
    | none => rw [hs] at hq; cases hq
    | some sh =>
      rw [hs] at hq
      cases hq
      exact ⟨(List.getElem?_eq_some_iff.mp hs).1, rfl, _, rfl⟩
  refine ⟨fun i j p q hi hj hpq => ?_, fun k q hk => ?_⟩
  · obtain ⟨-, e1, e2, g1⟩ := key i p hi
    obtain ⟨-, e3, e4, g2⟩ := key j q hj
    exact h.1 i j _ _ g1 g2 (by show ad i = ad j; rw [← e1, ← e3]; exact hpq)
  · obtain ⟨hl, e1, -⟩ := key k q hk
    rw [e1]
    exact hA k hl
def zz_A (S : List ZShp) (ad : Nat → Nat) : Nat → Prop := fun q => ∃ k, k < S.length ∧ q = ad k
theorem zz_A_of {S : List ZShp} {cy : Nat → ClassId} {ad : Nat → Nat} {μ μ' : ZMem} {A : Nat → Prop} (h : va_D A (zz_wld S cy ad μ)) : va_D (zz_A S ad) (zz_wld S cy ad μ') := zz_wld_D h (fun k hk => ⟨k, hk, rfl⟩)
/-- what is fixed while a method runs -/
def ZCx : Type := Program × Launch × Env × Room × State × MethodId × Array Value × List Frame × Method × Code × va_G × (Nat → ClassId) × (Nat → Nat) × List ZShp
def ZCx.p (E : ZCx) : Program := E.1
def ZCx.l (E : ZCx) : Launch := E.2.1
def ZCx.e (E : ZCx) : Env := E.2.2.1
def ZCx.R (E : ZCx) : Room := E.2.2.2.1
def ZCx.s (E : ZCx) : State := E.2.2.2.2.1
def ZCx.m (E : ZCx) : MethodId := E.2.2.2.2.2.1
def ZCx.args (E : ZCx) : Array Value := E.2.2.2.2.2.2.1
def ZCx.below (E : ZCx) : List Frame := E.2.2.2.2.2.2.2.1
def ZCx.meth (E : ZCx) : Method := E.2.2.2.2.2.2.2.2.1
def ZCx.c (E : ZCx) : Code := E.2.2.2.2.2.2.2.2.2.1
def ZCx.D (E : ZCx) : va_G := E.2.2.2.2.2.2.2.2.2.2.1
def ZCx.cy (E : ZCx) : Nat → ClassId := E.2.2.2.2.2.2.2.2.2.2.2.1
def ZCx.ad (E : ZCx) : Nat → Nat := E.2.2.2.2.2.2.2.2.2.2.2.2.1
def ZCx.S (E : ZCx) : List ZShp := E.2.2.2.2.2.2.2.2.2.2.2.2.2
/-- the room of a method over which at most d calls stand -/
def zz_rm (d : Nat) : Room := { frames := d + 1, cells := 0, slots := 0, locals := 40 + 32 * d }
/-- the context is a method's own: its bytes, its locals, its class, what it returns, its depth, the shapes -/
def zz_Ok (E : ZCx) (cc : ByteArray) (nL : Nat) (own : String) (rt : Option FieldType) (d : Nat) (S : List ZShp) : Prop :=
  E.p.tables.exec = Jvm.exec ∧ E.c.code = cc ∧ E.c.maxLocals = nL ∧ E.s.vm.findClass own = some E.m.cls ∧ (∀ w ∈ lw_tbl, w.before E.args E.s = true) ∧ E.meth.locks = false ∧ E.meth.sig.returnType = rt ∧ E.R = zz_rm d ∧ E.S = S ∧ va_K E.D vwCl (zz_tys E.cy) E.s ∧ ∀ μ, va_D (zz_A E.S E.ad) (zz_wld E.S E.cy E.ad μ)
/-- a contract's end -/
def zz_Q (D : va_G) (cy : Nat → ClassId) (ad : Nat → Nat) (S : List ZShp) (Φ : Option Value → ZMem → Prop) : Array Value → State → Outcome → State → Prop := fun _ st oc t =>
  (∃ (r : Option Value) (μ : ZMem), oc = .returned (r.map (zz_tr ad)) ∧ Φ r μ ∧ va_P D vwCl (zz_wld S cy ad μ) t.heap) ∧ va_F (zz_A S ad) st t
def zZ (E : ZCx) (Φ : Option Value → ZMem → Prop) (pc : Nat) (lv : List (Nat × Value)) (st : List Value) (μ : ZMem) : Prop :=
  ∀ (H : Heap) (locs : List Loc) (ls : Array Slot), va_P E.D vwCl (zz_wld E.S E.cy E.ad μ) H → va_S (zz_A E.S E.ad) E.s.heap H locs → lv_has ls E.c.maxLocals (lv.map fun q => (q.1, zz_tr E.ad q.2)) →
    W E.p E.l E.e E.R E.s E.m E.args E.below E.meth E.c H locs 0 0 (MQ E.below (zz_Q E.D E.cy E.ad E.S Φ) E.args E.s 0 0 (zz_A E.S E.ad)) (F0 E.m pc ls (st.map (zz_tr E.ad)))
def zz_ws (y : MethodName) (bytes : ByteArray) (maxL : Nat) (ret : Option FieldType) : List Cond := Cond.code y bytes maxL ret :: lw_tbl
/-- a method's contract -/
def zM (S : List ZShp) (y : MethodName) (bytes : ByteArray) (maxL : Nat) (ret : Option FieldType) (d : Nat) (As : List Value) (μ : ZMem) (Φ : Option Value → ZMem → Prop) : Prop :=
  ∀ (l : Launch) (D : va_G) (cy : Nat → ClassId) (ad : Nat → Nat), Met l y (zz_ws y bytes maxL ret) (zz_rm d)
    (va_Pc (As.map (zz_tr ad)) (fun U => va_P D vwCl (zz_wld S cy ad μ) U.heap ∧ va_K D vwCl (zz_tys cy) U ∧ va_D (fun _ => True) (zz_wld S cy ad μ))) (zz_Q D cy ad S Φ) 0 0 (zz_A S ad)
theorem zz_args (ad : Nat → Nat) (As : List Value) : ∀ n, (lv_args n As).map (fun q => (q.1, zz_tr ad q.2)) = lv_args n (As.map (zz_tr ad)) := by
  induction As with
  | nil => intro n; rfl
  | cons v vs ih =>
    intro n
    simp only [lv_args, List.map_cons, zz_tr_cat, ih]
theorem zM_intro {S : List ZShp} {y : MethodName} {bytes : ByteArray} {maxL : Nat} {ret : Option FieldType} {d : Nat} {As : List Value} {μ : ZMem} {Φ : Option Value → ZMem → Prop} (hy : plainName y.cls = true) (hlen : (lg_sl As).length ≤ maxL)
    (hb : ∀ E : ZCx, zz_Ok E bytes maxL y.cls ret d S → zZ E Φ 0 (lv_args 0 As) [] μ) : zM S y bytes maxL ret d As μ Φ := by
  intro l D cy ad
  refine Met.ofW (cc := bytes) (maxL := maxL) (ret := ret) hy rfl ?_
  intro p e s m args below meth c s₁ B hml hv
  obtain ⟨rfl, hP, hK, hD⟩ := hv
  have hts0 := atoms_spec (ws := zz_ws y bytes maxL ret) B.pre
  have hts : ∀ w ∈ lw_tbl, w.before (As.map (zz_tr ad)).toArray s = true := fun w hw => hts0 w (List.mem_cons_of_mem _ hw)
  have hown : s.vm.findClass y.cls = some m.cls := findClass_of_methodNamed B.named
  have hE : zz_Ok (p, l, e, zz_rm d, s, m, (As.map (zz_tr ad)).toArray, below, meth, c, D, cy, ad, S) bytes maxL y.cls ret d S :=
    ⟨B.exec, B.bytes, hml, hown, hts, B.notSynchronized, B.returns, rfl, rfl, hK, fun μ' => zz_A_of hD⟩
  have hlen2 : (lg_sl (As.map (zz_tr ad))).length ≤ maxL := by
    have e : ∀ l : List Value, (lg_sl (l.map (zz_tr ad))).length = (lg_sl l).length := by
      intro l
      induction l with
      | nil => rfl
      | cons v vs ih =>
        simp only [lg_sl, List.map_cons, List.flatMap_cons, List.length_append] at ih ⊢
        rw [ih, zz_tr_cat]
        congr 1
        split <;> rfl
    rw [e]; exact hlen
  have hl := lv_entry (As.map (zz_tr ad)) (n := maxL) hlen2
  rw [lg_entry_eq]
  refine hb _ hE s.heap [] _ hP va_S.rf ?_
  show lv_has _ c.maxLocals _
  rw [hml, zz_args]
  exact hl
end
