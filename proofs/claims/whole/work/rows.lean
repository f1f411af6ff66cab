section
-- ===== PART A: goes FIRST, ahead of the names: the tables' words, and 'selects' of the private methods out of them =====
/-- a private method of a class that the tables say can be made, by its rows of tables_1 -/
def lw_okq (q : MethodName × Nat) : Prop := (q.1.cls ≠ "java/lang/invoke/MethodHandle" ∧ q.1.cls ≠ "java/lang/invoke/VarHandle") ∧ Cond.instantiable q.1.cls q.2 ∈ tables_1 ∧ Cond.privateMethod q.1 ∈ tables_1 ∧ Cond.instanceMethod q.1 ∈ tables_1
theorem lw_p0 : lw_okq (⟨"LittleCompiler", "append", "(I)V"⟩, 6) := ⟨⟨by decide +kernel, by decide +kernel⟩, List.mem_of_getElem? (i := 15) (by decide +kernel), List.mem_of_getElem? (i := 295) (by decide +kernel), List.mem_of_getElem? (i := 296) (by decide +kernel)⟩
theorem lw_p1 : lw_okq (⟨"LittleCompiler", "forgetText", "()V"⟩, 6) := ⟨⟨by decide +kernel, by decide +kernel⟩, List.mem_of_getElem? (i := 15) (by decide +kernel), List.mem_of_getElem? (i := 299) (by decide +kernel), List.mem_of_getElem? (i := 300) (by decide +kernel)⟩
theorem lw_p2 : lw_okq (⟨"LittleCompiler$Parser", "restart", "()V"⟩, 9) := ⟨⟨by decide +kernel, by decide +kernel⟩, List.mem_of_getElem? (i := 78) (by decide +kernel), List.mem_of_getElem? (i := 333) (by decide +kernel), List.mem_of_getElem? (i := 334) (by decide +kernel)⟩
theorem lw_p3 : lw_okq (⟨"LittleCompiler$Expressions", "endOperators", "(I)V"⟩, 4) := ⟨⟨by decide +kernel, by decide +kernel⟩, List.mem_of_getElem? (i := 133) (by decide +kernel), List.mem_of_getElem? (i := 360) (by decide +kernel), List.mem_of_getElem? (i := 361) (by decide +kernel)⟩
theorem lw_p4 : lw_okq (⟨"LittleCompiler$Expressions", "endOperator", "(III)V"⟩, 4) := ⟨⟨by decide +kernel, by decide +kernel⟩, List.mem_of_getElem? (i := 133) (by decide +kernel), List.mem_of_getElem? (i := 384) (by decide +kernel), List.mem_of_getElem? (i := 385) (by decide +kernel)⟩
theorem lw_p5 : lw_okq (⟨"LittleCompiler$Parser", "acceptInHead", "(III)I"⟩, 9) := ⟨⟨by decide +kernel, by decide +kernel⟩, List.mem_of_getElem? (i := 78) (by decide +kernel), List.mem_of_getElem? (i := 412) (by decide +kernel), List.mem_of_getElem? (i := 413) (by decide +kernel)⟩
theorem lw_p6 : lw_okq (⟨"LittleCompiler$Parser", "beginMain", "(I)I"⟩, 9) := ⟨⟨by decide +kernel, by decide +kernel⟩, List.mem_of_getElem? (i := 78) (by decide +kernel), List.mem_of_getElem? (i := 416) (by decide +kernel), List.mem_of_getElem? (i := 417) (by decide +kernel)⟩
theorem lw_p7 : lw_okq (⟨"LittleCompiler$Parser", "beginProcedure", "(II)I"⟩, 9) := ⟨⟨by decide +kernel, by decide +kernel⟩, List.mem_of_getElem? (i := 78) (by decide +kernel), List.mem_of_getElem? (i := 432) (by decide +kernel), List.mem_of_getElem? (i := 433) (by decide +kernel)⟩
theorem lw_p8 : lw_okq (⟨"LittleCompiler$Procedures", "noteFault", "(I)V"⟩, 10) := ⟨⟨by decide +kernel, by decide +kernel⟩, List.mem_of_getElem? (i := 40) (by decide +kernel), List.mem_of_getElem? (i := 441) (by decide +kernel), List.mem_of_getElem? (i := 442) (by decide +kernel)⟩
theorem lw_p9 : lw_okq (⟨"LittleCompiler$Parser", "parameter", "(II)I"⟩, 9) := ⟨⟨by decide +kernel, by decide +kernel⟩, List.mem_of_getElem? (i := 78) (by decide +kernel), List.mem_of_getElem? (i := 445) (by decide +kernel), List.mem_of_getElem? (i := 446) (by decide +kernel)⟩
theorem lw_p10 : lw_okq (⟨"LittleCompiler$Parser", "beginBody", "(I)I"⟩, 9) := ⟨⟨by decide +kernel, by decide +kernel⟩, List.mem_of_getElem? (i := 78) (by decide +kernel), List.mem_of_getElem? (i := 464) (by decide +kernel), List.mem_of_getElem? (i := 465) (by decide +kernel)⟩
theorem lw_p11 : lw_okq (⟨"LittleCompiler$Parser", "local", "(II)I"⟩, 9) := ⟨⟨by decide +kernel, by decide +kernel⟩, List.mem_of_getElem? (i := 78) (by decide +kernel), List.mem_of_getElem? (i := 472) (by decide +kernel), List.mem_of_getElem? (i := 473) (by decide +kernel)⟩
theorem lw_p12 : lw_okq (⟨"LittleCompiler$Parser", "accept", "(III)I"⟩, 9) := ⟨⟨by decide +kernel, by decide +kernel⟩, List.mem_of_getElem? (i := 78) (by decide +kernel), List.mem_of_getElem? (i := 477) (by decide +kernel), List.mem_of_getElem? (i := 478) (by decide +kernel)⟩
theorem lw_p13 : lw_okq (⟨"LittleCompiler$Statements", "awaitLast", "(II)I"⟩, 3) := ⟨⟨by decide +kernel, by decide +kernel⟩, List.mem_of_getElem? (i := 152) (by decide +kernel), List.mem_of_getElem? (i := 491) (by decide +kernel), List.mem_of_getElem? (i := 492) (by decide +kernel)⟩
theorem lw_p14 : lw_okq (⟨"LittleCompiler$Statements", "endThen", "(I)I"⟩, 3) := ⟨⟨by decide +kernel, by decide +kernel⟩, List.mem_of_getElem? (i := 152) (by decide +kernel), List.mem_of_getElem? (i := 508) (by decide +kernel), List.mem_of_getElem? (i := 509) (by decide +kernel)⟩
theorem lw_p15 : lw_okq (⟨"LittleCompiler$Statements", "endIf", "()I"⟩, 3) := ⟨⟨by decide +kernel, by decide +kernel⟩, List.mem_of_getElem? (i := 152) (by decide +kernel), List.mem_of_getElem? (i := 514) (by decide +kernel), List.mem_of_getElem? (i := 515) (by decide +kernel)⟩
def lw_privs_1 : List (MethodName × Nat) := [(⟨"LittleCompiler", "append", "(I)V"⟩, 6), (⟨"LittleCompiler", "forgetText", "()V"⟩, 6), (⟨"LittleCompiler$Parser", "restart", "()V"⟩, 9), (⟨"LittleCompiler$Expressions", "endOperators", "(I)V"⟩, 4), (⟨"LittleCompiler$Expressions", "endOperator", "(III)V"⟩, 4), (⟨"LittleCompiler$Parser", "acceptInHead", "(III)I"⟩, 9), (⟨"LittleCompiler$Parser", "beginMain", "(I)I"⟩, 9), (⟨"LittleCompiler$Parser", "beginProcedure", "(II)I"⟩, 9), (⟨"LittleCompiler$Procedures", "noteFault", "(I)V"⟩, 10), (⟨"LittleCompiler$Parser", "parameter", "(II)I"⟩, 9), (⟨"LittleCompiler$Parser", "beginBody", "(I)I"⟩, 9), (⟨"LittleCompiler$Parser", "local", "(II)I"⟩, 9), (⟨"LittleCompiler$Parser", "accept", "(III)I"⟩, 9), (⟨"LittleCompiler$Statements", "awaitLast", "(II)I"⟩, 3), (⟨"LittleCompiler$Statements", "endThen", "(I)I"⟩, 3), (⟨"LittleCompiler$Statements", "endIf", "()I"⟩, 3)]
theorem lw_r1 : ∀ q ∈ lw_privs_1, lw_okq q := List.forall_mem_cons.mpr ⟨lw_p0, List.forall_mem_cons.mpr ⟨lw_p1, List.forall_mem_cons.mpr ⟨lw_p2, List.forall_mem_cons.mpr ⟨lw_p3, List.forall_mem_cons.mpr ⟨lw_p4, List.forall_mem_cons.mpr ⟨lw_p5, List.forall_mem_cons.mpr ⟨lw_p6, List.forall_mem_cons.mpr ⟨lw_p7, List.forall_mem_cons.mpr ⟨lw_p8, List.forall_mem_cons.mpr ⟨lw_p9, List.forall_mem_cons.mpr ⟨lw_p10, List.forall_mem_cons.mpr ⟨lw_p11, List.forall_mem_cons.mpr ⟨lw_p12, List.forall_mem_cons.mpr ⟨lw_p13, List.forall_mem_cons.mpr ⟨lw_p14, List.forall_mem_cons.mpr ⟨lw_p15, fun _ h => absurd h List.not_mem_nil⟩⟩⟩⟩⟩⟩⟩⟩⟩⟩⟩⟩⟩⟩⟩⟩
theorem lw_p16 : lw_okq (⟨"LittleCompiler$Statements", "endWhile", "()I"⟩, 3) := ⟨⟨by decide +kernel, by decide +kernel⟩, List.mem_of_getElem? (i := 152) (by decide +kernel), List.mem_of_getElem? (i := 530) (by decide +kernel), List.mem_of_getElem? (i := 531) (by decide +kernel)⟩
theorem lw_p17 : lw_okq (⟨"LittleCompiler$Statements", "beginUntil", "()I"⟩, 3) := ⟨⟨by decide +kernel, by decide +kernel⟩, List.mem_of_getElem? (i := 152) (by decide +kernel), List.mem_of_getElem? (i := 534) (by decide +kernel), List.mem_of_getElem? (i := 535) (by decide +kernel)⟩
theorem lw_p18 : lw_okq (⟨"LittleCompiler$Statements", "endBody", "(I)I"⟩, 3) := ⟨⟨by decide +kernel, by decide +kernel⟩, List.mem_of_getElem? (i := 152) (by decide +kernel), List.mem_of_getElem? (i := 538) (by decide +kernel), List.mem_of_getElem? (i := 539) (by decide +kernel)⟩
theorem lw_p19 : lw_okq (⟨"LittleCompiler$Expressions", "simpleFactor", "(II)I"⟩, 4) := ⟨⟨by decide +kernel, by decide +kernel⟩, List.mem_of_getElem? (i := 133) (by decide +kernel), List.mem_of_getElem? (i := 558) (by decide +kernel), List.mem_of_getElem? (i := 559) (by decide +kernel)⟩
theorem lw_p20 : lw_okq (⟨"LittleCompiler$Procedures", "fits", "(II)Z"⟩, 10) := ⟨⟨by decide +kernel, by decide +kernel⟩, List.mem_of_getElem? (i := 40) (by decide +kernel), List.mem_of_getElem? (i := 619) (by decide +kernel), List.mem_of_getElem? (i := 620) (by decide +kernel)⟩
theorem lw_p21 : lw_okq (⟨"LittleCompiler$PlainForm", "isBesideEmptyStatement", "([III)Z"⟩, 7) := ⟨⟨by decide +kernel, by decide +kernel⟩, List.mem_of_getElem? (i := 103) (by decide +kernel), List.mem_of_getElem? (i := 627) (by decide +kernel), List.mem_of_getElem? (i := 628) (by decide +kernel)⟩
theorem lw_p22 : lw_okq (⟨"LittleCompiler", "execute", "()Z"⟩, 6) := ⟨⟨by decide +kernel, by decide +kernel⟩, List.mem_of_getElem? (i := 15) (by decide +kernel), List.mem_of_getElem? (i := 657) (by decide +kernel), List.mem_of_getElem? (i := 658) (by decide +kernel)⟩
theorem lw_p23 : lw_okq (⟨"LittleCompiler$Machine", "step", "()V"⟩, 17) := ⟨⟨by decide +kernel, by decide +kernel⟩, List.mem_of_getElem? (i := 200) (by decide +kernel), List.mem_of_getElem? (i := 670) (by decide +kernel), List.mem_of_getElem? (i := 671) (by decide +kernel)⟩
theorem lw_p24 : lw_okq (⟨"LittleCompiler$Machine", "calculate", "(I)V"⟩, 17) := ⟨⟨by decide +kernel, by decide +kernel⟩, List.mem_of_getElem? (i := 200) (by decide +kernel), List.mem_of_getElem? (i := 682) (by decide +kernel), List.mem_of_getElem? (i := 683) (by decide +kernel)⟩
theorem lw_p25 : lw_okq (⟨"LittleCompiler$Machine", "pop", "()I"⟩, 17) := ⟨⟨by decide +kernel, by decide +kernel⟩, List.mem_of_getElem? (i := 200) (by decide +kernel), List.mem_of_getElem? (i := 686) (by decide +kernel), List.mem_of_getElem? (i := 687) (by decide +kernel)⟩
theorem lw_p26 : lw_okq (⟨"LittleCompiler$Machine", "divide", "(III)V"⟩, 17) := ⟨⟨by decide +kernel, by decide +kernel⟩, List.mem_of_getElem? (i := 200) (by decide +kernel), List.mem_of_getElem? (i := 690) (by decide +kernel), List.mem_of_getElem? (i := 691) (by decide +kernel)⟩
theorem lw_p27 : lw_okq (⟨"LittleCompiler$Machine", "finish", "(I)V"⟩, 17) := ⟨⟨by decide +kernel, by decide +kernel⟩, List.mem_of_getElem? (i := 200) (by decide +kernel), List.mem_of_getElem? (i := 694) (by decide +kernel), List.mem_of_getElem? (i := 695) (by decide +kernel)⟩
theorem lw_p28 : lw_okq (⟨"LittleCompiler$Machine", "push", "(I)V"⟩, 17) := ⟨⟨by decide +kernel, by decide +kernel⟩, List.mem_of_getElem? (i := 200) (by decide +kernel), List.mem_of_getElem? (i := 698) (by decide +kernel), List.mem_of_getElem? (i := 699) (by decide +kernel)⟩
theorem lw_p29 : lw_okq (⟨"LittleCompiler$Machine", "go", "(II)V"⟩, 17) := ⟨⟨by decide +kernel, by decide +kernel⟩, List.mem_of_getElem? (i := 200) (by decide +kernel), List.mem_of_getElem? (i := 705) (by decide +kernel), List.mem_of_getElem? (i := 706) (by decide +kernel)⟩
theorem lw_p30 : lw_okq (⟨"LittleCompiler$Machine", "takeTurn", "()V"⟩, 17) := ⟨⟨by decide +kernel, by decide +kernel⟩, List.mem_of_getElem? (i := 200) (by decide +kernel), List.mem_of_getElem? (i := 709) (by decide +kernel), List.mem_of_getElem? (i := 710) (by decide +kernel)⟩
theorem lw_p31 : lw_okq (⟨"LittleCompiler$Machine", "call", "(I)V"⟩, 17) := ⟨⟨by decide +kernel, by decide +kernel⟩, List.mem_of_getElem? (i := 200) (by decide +kernel), List.mem_of_getElem? (i := 713) (by decide +kernel), List.mem_of_getElem? (i := 714) (by decide +kernel)⟩
def lw_privs_2 : List (MethodName × Nat) := [(⟨"LittleCompiler$Statements", "endWhile", "()I"⟩, 3), (⟨"LittleCompiler$Statements", "beginUntil", "()I"⟩, 3), (⟨"LittleCompiler$Statements", "endBody", "(I)I"⟩, 3), (⟨"LittleCompiler$Expressions", "simpleFactor", "(II)I"⟩, 4), (⟨"LittleCompiler$Procedures", "fits", "(II)Z"⟩, 10), (⟨"LittleCompiler$PlainForm", "isBesideEmptyStatement", "([III)Z"⟩, 7), (⟨"LittleCompiler", "execute", "()Z"⟩, 6), (⟨"LittleCompiler$Machine", "step", "()V"⟩, 17), (⟨"LittleCompiler$Machine", "calculate", "(I)V"⟩, 17), (⟨"LittleCompiler$Machine", "pop", "()I"⟩, 17), (⟨"LittleCompiler$Machine", "divide", "(III)V"⟩, 17), (⟨"LittleCompiler$Machine", "finish", "(I)V"⟩, 17), (⟨"LittleCompiler$Machine", "push", "(I)V"⟩, 17), (⟨"LittleCompiler$Machine", "go", "(II)V"⟩, 17), (⟨"LittleCompiler$Machine", "takeTurn", "()V"⟩, 17), (⟨"LittleCompiler$Machine", "call", "(I)V"⟩, 17)]
theorem lw_r2 : ∀ q ∈ lw_privs_2, lw_okq q := List.forall_mem_cons.mpr ⟨lw_p16, List.forall_mem_cons.mpr ⟨lw_p17, List.forall_mem_cons.mpr ⟨lw_p18, List.forall_mem_cons.mpr ⟨lw_p19, List.forall_mem_cons.mpr ⟨lw_p20, List.forall_mem_cons.mpr ⟨lw_p21, List.forall_mem_cons.mpr ⟨lw_p22, List.forall_mem_cons.mpr ⟨lw_p23, List.forall_mem_cons.mpr ⟨lw_p24, List.forall_mem_cons.mpr ⟨lw_p25, List.forall_mem_cons.mpr ⟨lw_p26, List.forall_mem_cons.mpr ⟨lw_p27, List.forall_mem_cons.mpr ⟨lw_p28, List.forall_mem_cons.mpr ⟨lw_p29, List.forall_mem_cons.mpr ⟨lw_p30, List.forall_mem_cons.mpr ⟨lw_p31, fun _ h => absurd h List.not_mem_nil⟩⟩⟩⟩⟩⟩⟩⟩⟩⟩⟩⟩⟩⟩⟩⟩
theorem lw_p32 : lw_okq (⟨"LittleCompiler$Machine", "storeLocal", "(II)V"⟩, 17) := ⟨⟨by decide +kernel, by decide +kernel⟩, List.mem_of_getElem? (i := 200) (by decide +kernel), List.mem_of_getElem? (i := 718) (by decide +kernel), List.mem_of_getElem? (i := 719) (by decide +kernel)⟩
theorem lw_p33 : lw_okq (⟨"LittleCompiler$Machine", "leave", "()V"⟩, 17) := ⟨⟨by decide +kernel, by decide +kernel⟩, List.mem_of_getElem? (i := 200) (by decide +kernel), List.mem_of_getElem? (i := 737) (by decide +kernel), List.mem_of_getElem? (i := 738) (by decide +kernel)⟩
theorem lw_p34 : lw_okq (⟨"LittleCompiler$Machine", "move", "(II)V"⟩, 17) := ⟨⟨by decide +kernel, by decide +kernel⟩, List.mem_of_getElem? (i := 200) (by decide +kernel), List.mem_of_getElem? (i := 741) (by decide +kernel), List.mem_of_getElem? (i := 742) (by decide +kernel)⟩
theorem lw_p35 : lw_okq (⟨"LittleCompiler$Machine", "loadLocal", "(I)I"⟩, 17) := ⟨⟨by decide +kernel, by decide +kernel⟩, List.mem_of_getElem? (i := 200) (by decide +kernel), List.mem_of_getElem? (i := 745) (by decide +kernel), List.mem_of_getElem? (i := 746) (by decide +kernel)⟩
theorem lw_p36 : lw_okq (⟨"LittleCompiler$Machine", "loadCell", "(I)I"⟩, 17) := ⟨⟨by decide +kernel, by decide +kernel⟩, List.mem_of_getElem? (i := 200) (by decide +kernel), List.mem_of_getElem? (i := 749) (by decide +kernel), List.mem_of_getElem? (i := 750) (by decide +kernel)⟩
theorem lw_p37 : lw_okq (⟨"LittleCompiler$Machine", "storeGlobal", "(II)V"⟩, 17) := ⟨⟨by decide +kernel, by decide +kernel⟩, List.mem_of_getElem? (i := 200) (by decide +kernel), List.mem_of_getElem? (i := 753) (by decide +kernel), List.mem_of_getElem? (i := 754) (by decide +kernel)⟩
theorem lw_p38 : lw_okq (⟨"LittleCompiler$Machine", "storeCell", "(II)V"⟩, 17) := ⟨⟨by decide +kernel, by decide +kernel⟩, List.mem_of_getElem? (i := 200) (by decide +kernel), List.mem_of_getElem? (i := 757) (by decide +kernel), List.mem_of_getElem? (i := 758) (by decide +kernel)⟩
theorem lw_p39 : lw_okq (⟨"LittleCompiler$Machine", "putOut", "(I)V"⟩, 17) := ⟨⟨by decide +kernel, by decide +kernel⟩, List.mem_of_getElem? (i := 200) (by decide +kernel), List.mem_of_getElem? (i := 761) (by decide +kernel), List.mem_of_getElem? (i := 762) (by decide +kernel)⟩
theorem lw_p40 : lw_okq (⟨"LittleCompilerModel", "isToken", "(I)Z"⟩, 46) := ⟨⟨by decide +kernel, by decide +kernel⟩, List.mem_of_getElem? (i := 801) (by decide +kernel), List.mem_of_getElem? (i := 950) (by decide +kernel), List.mem_of_getElem? (i := 951) (by decide +kernel)⟩
theorem lw_p41 : lw_okq (⟨"LittleCompilerModel", "readText", "()I"⟩, 46) := ⟨⟨by decide +kernel, by decide +kernel⟩, List.mem_of_getElem? (i := 801) (by decide +kernel), List.mem_of_getElem? (i := 974) (by decide +kernel), List.mem_of_getElem? (i := 975) (by decide +kernel)⟩
theorem lw_p42 : lw_okq (⟨"LittleCompilerModel", "task", "(I)V"⟩, 46) := ⟨⟨by decide +kernel, by decide +kernel⟩, List.mem_of_getElem? (i := 801) (by decide +kernel), List.mem_of_getElem? (i := 978) (by decide +kernel), List.mem_of_getElem? (i := 979) (by decide +kernel)⟩
theorem lw_p43 : lw_okq (⟨"LittleCompilerModel", "step", "()V"⟩, 46) := ⟨⟨by decide +kernel, by decide +kernel⟩, List.mem_of_getElem? (i := 801) (by decide +kernel), List.mem_of_getElem? (i := 982) (by decide +kernel), List.mem_of_getElem? (i := 983) (by decide +kernel)⟩
theorem lw_p44 : lw_okq (⟨"LittleCompilerModel", "look", "()I"⟩, 46) := ⟨⟨by decide +kernel, by decide +kernel⟩, List.mem_of_getElem? (i := 801) (by decide +kernel), List.mem_of_getElem? (i := 986) (by decide +kernel), List.mem_of_getElem? (i := 987) (by decide +kernel)⟩
theorem lw_p45 : lw_okq (⟨"LittleCompilerModel", "finishStatement", "(II)V"⟩, 46) := ⟨⟨by decide +kernel, by decide +kernel⟩, List.mem_of_getElem? (i := 801) (by decide +kernel), List.mem_of_getElem? (i := 990) (by decide +kernel), List.mem_of_getElem? (i := 991) (by decide +kernel)⟩
theorem lw_p46 : lw_okq (⟨"LittleCompilerModel", "pop", "()I"⟩, 46) := ⟨⟨by decide +kernel, by decide +kernel⟩, List.mem_of_getElem? (i := 801) (by decide +kernel), List.mem_of_getElem? (i := 994) (by decide +kernel), List.mem_of_getElem? (i := 995) (by decide +kernel)⟩
theorem lw_p47 : lw_okq (⟨"LittleCompilerModel", "node", "(IIII)I"⟩, 46) := ⟨⟨by decide +kernel, by decide +kernel⟩, List.mem_of_getElem? (i := 801) (by decide +kernel), List.mem_of_getElem? (i := 998) (by decide +kernel), List.mem_of_getElem? (i := 999) (by decide +kernel)⟩
def lw_privs_3 : List (MethodName × Nat) := [(⟨"LittleCompiler$Machine", "storeLocal", "(II)V"⟩, 17), (⟨"LittleCompiler$Machine", "leave", "()V"⟩, 17), (⟨"LittleCompiler$Machine", "move", "(II)V"⟩, 17), (⟨"LittleCompiler$Machine", "loadLocal", "(I)I"⟩, 17), (⟨"LittleCompiler$Machine", "loadCell", "(I)I"⟩, 17), (⟨"LittleCompiler$Machine", "storeGlobal", "(II)V"⟩, 17), (⟨"LittleCompiler$Machine", "storeCell", "(II)V"⟩, 17), (⟨"LittleCompiler$Machine", "putOut", "(I)V"⟩, 17), (⟨"LittleCompilerModel", "isToken", "(I)Z"⟩, 46), (⟨"LittleCompilerModel", "readText", "()I"⟩, 46), (⟨"LittleCompilerModel", "task", "(I)V"⟩, 46), (⟨"LittleCompilerModel", "step", "()V"⟩, 46), (⟨"LittleCompilerModel", "look", "()I"⟩, 46), (⟨"LittleCompilerModel", "finishStatement", "(II)V"⟩, 46), (⟨"LittleCompilerModel", "pop", "()I"⟩, 46), (⟨"LittleCompilerModel", "node", "(IIII)I"⟩, 46)]
theorem lw_r3 : ∀ q ∈ lw_privs_3, lw_okq q := List.forall_mem_cons.mpr ⟨lw_p32, List.forall_mem_cons.mpr ⟨lw_p33, List.forall_mem_cons.mpr ⟨lw_p34, List.forall_mem_cons.mpr ⟨lw_p35, List.forall_mem_cons.mpr ⟨lw_p36, List.forall_mem_cons.mpr ⟨lw_p37, List.forall_mem_cons.mpr ⟨lw_p38, List.forall_mem_cons.mpr ⟨lw_p39, List.forall_mem_cons.mpr ⟨lw_p40, List.forall_mem_cons.mpr ⟨lw_p41, List.forall_mem_cons.mpr ⟨lw_p42, List.forall_mem_cons.mpr ⟨lw_p43, List.forall_mem_cons.mpr ⟨lw_p44, List.forall_mem_cons.mpr ⟨lw_p45, List.forall_mem_cons.mpr ⟨lw_p46, List.forall_mem_cons.mpr ⟨lw_p47, fun _ h => absurd h List.not_mem_nil⟩⟩⟩⟩⟩⟩⟩⟩⟩⟩⟩⟩⟩⟩⟩⟩
theorem lw_p48 : lw_okq (⟨"LittleCompilerModel", "push", "(I)V"⟩, 46) := ⟨⟨by decide +kernel, by decide +kernel⟩, List.mem_of_getElem? (i := 801) (by decide +kernel), List.mem_of_getElem? (i := 1002) (by decide +kernel), List.mem_of_getElem? (i := 1003) (by decide +kernel)⟩
theorem lw_p49 : lw_okq (⟨"LittleCompilerModel", "finishPart", "(II)V"⟩, 46) := ⟨⟨by decide +kernel, by decide +kernel⟩, List.mem_of_getElem? (i := 801) (by decide +kernel), List.mem_of_getElem? (i := 1006) (by decide +kernel), List.mem_of_getElem? (i := 1007) (by decide +kernel)⟩
theorem lw_p50 : lw_okq (⟨"LittleCompilerModel", "append", "(II)V"⟩, 46) := ⟨⟨by decide +kernel, by decide +kernel⟩, List.mem_of_getElem? (i := 801) (by decide +kernel), List.mem_of_getElem? (i := 1010) (by decide +kernel), List.mem_of_getElem? (i := 1011) (by decide +kernel)⟩
theorem lw_p51 : lw_okq (⟨"LittleCompilerModel", "isIn", "(III)Z"⟩, 46) := ⟨⟨by decide +kernel, by decide +kernel⟩, List.mem_of_getElem? (i := 801) (by decide +kernel), List.mem_of_getElem? (i := 1014) (by decide +kernel), List.mem_of_getElem? (i := 1015) (by decide +kernel)⟩
theorem lw_p52 : lw_okq (⟨"LittleCompilerModel", "readNames", "(II)V"⟩, 46) := ⟨⟨by decide +kernel, by decide +kernel⟩, List.mem_of_getElem? (i := 801) (by decide +kernel), List.mem_of_getElem? (i := 1018) (by decide +kernel), List.mem_of_getElem? (i := 1019) (by decide +kernel)⟩
theorem lw_p53 : lw_okq (⟨"LittleCompilerModel", "noteFault", "(Z)V"⟩, 46) := ⟨⟨by decide +kernel, by decide +kernel⟩, List.mem_of_getElem? (i := 801) (by decide +kernel), List.mem_of_getElem? (i := 1022) (by decide +kernel), List.mem_of_getElem? (i := 1023) (by decide +kernel)⟩
theorem lw_p54 : lw_okq (⟨"LittleCompilerModel", "readStatement", "(I)V"⟩, 46) := ⟨⟨by decide +kernel, by decide +kernel⟩, List.mem_of_getElem? (i := 801) (by decide +kernel), List.mem_of_getElem? (i := 1026) (by decide +kernel), List.mem_of_getElem? (i := 1027) (by decide +kernel)⟩
theorem lw_p55 : lw_okq (⟨"LittleCompilerModel", "tasksOf", "(IIII)V"⟩, 46) := ⟨⟨by decide +kernel, by decide +kernel⟩, List.mem_of_getElem? (i := 801) (by decide +kernel), List.mem_of_getElem? (i := 1030) (by decide +kernel), List.mem_of_getElem? (i := 1031) (by decide +kernel)⟩
theorem lw_p56 : lw_okq (⟨"LittleCompilerModel", "readIf", "(I)V"⟩, 46) := ⟨⟨by decide +kernel, by decide +kernel⟩, List.mem_of_getElem? (i := 801) (by decide +kernel), List.mem_of_getElem? (i := 1034) (by decide +kernel), List.mem_of_getElem? (i := 1035) (by decide +kernel)⟩
theorem lw_p57 : lw_okq (⟨"LittleCompilerModel", "readFactor", "(I)V"⟩, 46) := ⟨⟨by decide +kernel, by decide +kernel⟩, List.mem_of_getElem? (i := 801) (by decide +kernel), List.mem_of_getElem? (i := 1038) (by decide +kernel), List.mem_of_getElem? (i := 1039) (by decide +kernel)⟩
theorem lw_p58 : lw_okq (⟨"LittleCompilerModel", "readCall", "(II)V"⟩, 46) := ⟨⟨by decide +kernel, by decide +kernel⟩, List.mem_of_getElem? (i := 801) (by decide +kernel), List.mem_of_getElem? (i := 1042) (by decide +kernel), List.mem_of_getElem? (i := 1043) (by decide +kernel)⟩
theorem lw_p59 : lw_okq (⟨"LittleCompilerModel", "readExpression", "(II)V"⟩, 46) := ⟨⟨by decide +kernel, by decide +kernel⟩, List.mem_of_getElem? (i := 801) (by decide +kernel), List.mem_of_getElem? (i := 1046) (by decide +kernel), List.mem_of_getElem? (i := 1047) (by decide +kernel)⟩
theorem lw_p60 : lw_okq (⟨"LittleCompilerModel", "readParts", "(II)V"⟩, 46) := ⟨⟨by decide +kernel, by decide +kernel⟩, List.mem_of_getElem? (i := 801) (by decide +kernel), List.mem_of_getElem? (i := 1050) (by decide +kernel), List.mem_of_getElem? (i := 1051) (by decide +kernel)⟩
theorem lw_p61 : lw_okq (⟨"LittleCompilerModel", "beginsStatement", "(I)Z"⟩, 46) := ⟨⟨by decide +kernel, by decide +kernel⟩, List.mem_of_getElem? (i := 801) (by decide +kernel), List.mem_of_getElem? (i := 1054) (by decide +kernel), List.mem_of_getElem? (i := 1055) (by decide +kernel)⟩
theorem lw_p62 : lw_okq (⟨"LittleCompilerModel", "findFault", "()I"⟩, 46) := ⟨⟨by decide +kernel, by decide +kernel⟩, List.mem_of_getElem? (i := 801) (by decide +kernel), List.mem_of_getElem? (i := 1062) (by decide +kernel), List.mem_of_getElem? (i := 1063) (by decide +kernel)⟩
theorem lw_p63 : lw_okq (⟨"LittleCompilerModel", "argumentsOf", "(I)I"⟩, 46) := ⟨⟨by decide +kernel, by decide +kernel⟩, List.mem_of_getElem? (i := 801) (by decide +kernel), List.mem_of_getElem? (i := 1066) (by decide +kernel), List.mem_of_getElem? (i := 1067) (by decide +kernel)⟩
def lw_privs_4 : List (MethodName × Nat) := [(⟨"LittleCompilerModel", "push", "(I)V"⟩, 46), (⟨"LittleCompilerModel", "finishPart", "(II)V"⟩, 46), (⟨"LittleCompilerModel", "append", "(II)V"⟩, 46), (⟨"LittleCompilerModel", "isIn", "(III)Z"⟩, 46), (⟨"LittleCompilerModel", "readNames", "(II)V"⟩, 46), (⟨"LittleCompilerModel", "noteFault", "(Z)V"⟩, 46), (⟨"LittleCompilerModel", "readStatement", "(I)V"⟩, 46), (⟨"LittleCompilerModel", "tasksOf", "(IIII)V"⟩, 46), (⟨"LittleCompilerModel", "readIf", "(I)V"⟩, 46), (⟨"LittleCompilerModel", "readFactor", "(I)V"⟩, 46), (⟨"LittleCompilerModel", "readCall", "(II)V"⟩, 46), (⟨"LittleCompilerModel", "readExpression", "(II)V"⟩, 46), (⟨"LittleCompilerModel", "readParts", "(II)V"⟩, 46), (⟨"LittleCompilerModel", "beginsStatement", "(I)Z"⟩, 46), (⟨"LittleCompilerModel", "findFault", "()I"⟩, 46), (⟨"LittleCompilerModel", "argumentsOf", "(I)I"⟩, 46)]
theorem lw_r4 : ∀ q ∈ lw_privs_4, lw_okq q := List.forall_mem_cons.mpr ⟨lw_p48, List.forall_mem_cons.mpr ⟨lw_p49, List.forall_mem_cons.mpr ⟨lw_p50, List.forall_mem_cons.mpr ⟨lw_p51, List.forall_mem_cons.mpr ⟨lw_p52, List.forall_mem_cons.mpr ⟨lw_p53, List.forall_mem_cons.mpr ⟨lw_p54, List.forall_mem_cons.mpr ⟨lw_p55, List.forall_mem_cons.mpr ⟨lw_p56, List.forall_mem_cons.mpr ⟨lw_p57, List.forall_mem_cons.mpr ⟨lw_p58, List.forall_mem_cons.mpr ⟨lw_p59, List.forall_mem_cons.mpr ⟨lw_p60, List.forall_mem_cons.mpr ⟨lw_p61, List.forall_mem_cons.mpr ⟨lw_p62, List.forall_mem_cons.mpr ⟨lw_p63, fun _ h => absurd h List.not_mem_nil⟩⟩⟩⟩⟩⟩⟩⟩⟩⟩⟩⟩⟩⟩⟩⟩
theorem lw_p64 : lw_okq (⟨"LittleCompilerModel", "work", "()Z"⟩, 46) := ⟨⟨by decide +kernel, by decide +kernel⟩, List.mem_of_getElem? (i := 801) (by decide +kernel), List.mem_of_getElem? (i := 1082) (by decide +kernel), List.mem_of_getElem? (i := 1083) (by decide +kernel)⟩
theorem lw_p65 : lw_okq (⟨"LittleCompilerModel", "wait", "(II)V"⟩, 46) := ⟨⟨by decide +kernel, by decide +kernel⟩, List.mem_of_getElem? (i := 801) (by decide +kernel), List.mem_of_getElem? (i := 1086) (by decide +kernel), List.mem_of_getElem? (i := 1087) (by decide +kernel)⟩
theorem lw_p66 : lw_okq (⟨"LittleCompilerModel", "goOn", "()V"⟩, 46) := ⟨⟨by decide +kernel, by decide +kernel⟩, List.mem_of_getElem? (i := 801) (by decide +kernel), List.mem_of_getElem? (i := 1090) (by decide +kernel), List.mem_of_getElem? (i := 1091) (by decide +kernel)⟩
theorem lw_p67 : lw_okq (⟨"LittleCompilerModel", "hold", "(I)V"⟩, 46) := ⟨⟨by decide +kernel, by decide +kernel⟩, List.mem_of_getElem? (i := 801) (by decide +kernel), List.mem_of_getElem? (i := 1094) (by decide +kernel), List.mem_of_getElem? (i := 1095) (by decide +kernel)⟩
theorem lw_p68 : lw_okq (⟨"LittleCompilerModel", "begin", "(I)V"⟩, 46) := ⟨⟨by decide +kernel, by decide +kernel⟩, List.mem_of_getElem? (i := 801) (by decide +kernel), List.mem_of_getElem? (i := 1098) (by decide +kernel), List.mem_of_getElem? (i := 1099) (by decide +kernel)⟩
theorem lw_p69 : lw_okq (⟨"LittleCompilerModel", "isLocal", "(I)Z"⟩, 46) := ⟨⟨by decide +kernel, by decide +kernel⟩, List.mem_of_getElem? (i := 801) (by decide +kernel), List.mem_of_getElem? (i := 1102) (by decide +kernel), List.mem_of_getElem? (i := 1103) (by decide +kernel)⟩
theorem lw_p70 : lw_okq (⟨"LittleCompilerModel", "takeTurn", "()Z"⟩, 46) := ⟨⟨by decide +kernel, by decide +kernel⟩, List.mem_of_getElem? (i := 801) (by decide +kernel), List.mem_of_getElem? (i := 1106) (by decide +kernel), List.mem_of_getElem? (i := 1107) (by decide +kernel)⟩
theorem lw_p71 : lw_okq (⟨"LittleCompilerModel", "goOnStatement", "(II)V"⟩, 46) := ⟨⟨by decide +kernel, by decide +kernel⟩, List.mem_of_getElem? (i := 801) (by decide +kernel), List.mem_of_getElem? (i := 1110) (by decide +kernel), List.mem_of_getElem? (i := 1111) (by decide +kernel)⟩
theorem lw_p72 : lw_okq (⟨"LittleCompilerModel", "release", "()I"⟩, 46) := ⟨⟨by decide +kernel, by decide +kernel⟩, List.mem_of_getElem? (i := 801) (by decide +kernel), List.mem_of_getElem? (i := 1114) (by decide +kernel), List.mem_of_getElem? (i := 1115) (by decide +kernel)⟩
theorem lw_p73 : lw_okq (⟨"LittleCompilerModel", "setName", "(II)V"⟩, 46) := ⟨⟨by decide +kernel, by decide +kernel⟩, List.mem_of_getElem? (i := 801) (by decide +kernel), List.mem_of_getElem? (i := 1118) (by decide +kernel), List.mem_of_getElem? (i := 1119) (by decide +kernel)⟩
theorem lw_p74 : lw_okq (⟨"LittleCompilerModel", "print", "(I)V"⟩, 46) := ⟨⟨by decide +kernel, by decide +kernel⟩, List.mem_of_getElem? (i := 801) (by decide +kernel), List.mem_of_getElem? (i := 1122) (by decide +kernel), List.mem_of_getElem? (i := 1123) (by decide +kernel)⟩
theorem lw_p75 : lw_okq (⟨"LittleCompilerModel", "comeBack", "(I)V"⟩, 46) := ⟨⟨by decide +kernel, by decide +kernel⟩, List.mem_of_getElem? (i := 801) (by decide +kernel), List.mem_of_getElem? (i := 1126) (by decide +kernel), List.mem_of_getElem? (i := 1127) (by decide +kernel)⟩
theorem lw_p76 : lw_okq (⟨"LittleCompilerModel", "goOnExpression", "(II)V"⟩, 46) := ⟨⟨by decide +kernel, by decide +kernel⟩, List.mem_of_getElem? (i := 801) (by decide +kernel), List.mem_of_getElem? (i := 1130) (by decide +kernel), List.mem_of_getElem? (i := 1131) (by decide +kernel)⟩
theorem lw_p77 : lw_okq (⟨"LittleCompilerModel", "call", "(I)V"⟩, 46) := ⟨⟨by decide +kernel, by decide +kernel⟩, List.mem_of_getElem? (i := 801) (by decide +kernel), List.mem_of_getElem? (i := 1134) (by decide +kernel), List.mem_of_getElem? (i := 1135) (by decide +kernel)⟩
theorem lw_p78 : lw_okq (⟨"LittleCompilerModel", "operate", "(I)V"⟩, 46) := ⟨⟨by decide +kernel, by decide +kernel⟩, List.mem_of_getElem? (i := 801) (by decide +kernel), List.mem_of_getElem? (i := 1138) (by decide +kernel), List.mem_of_getElem? (i := 1139) (by decide +kernel)⟩
theorem lw_p79 : lw_okq (⟨"LittleCompilerModel", "writePlain", "()Z"⟩, 46) := ⟨⟨by decide +kernel, by decide +kernel⟩, List.mem_of_getElem? (i := 801) (by decide +kernel), List.mem_of_getElem? (i := 1170) (by decide +kernel), List.mem_of_getElem? (i := 1171) (by decide +kernel)⟩
def lw_privs_5 : List (MethodName × Nat) := [(⟨"LittleCompilerModel", "work", "()Z"⟩, 46), (⟨"LittleCompilerModel", "wait", "(II)V"⟩, 46), (⟨"LittleCompilerModel", "goOn", "()V"⟩, 46), (⟨"LittleCompilerModel", "hold", "(I)V"⟩, 46), (⟨"LittleCompilerModel", "begin", "(I)V"⟩, 46), (⟨"LittleCompilerModel", "isLocal", "(I)Z"⟩, 46), (⟨"LittleCompilerModel", "takeTurn", "()Z"⟩, 46), (⟨"LittleCompilerModel", "goOnStatement", "(II)V"⟩, 46), (⟨"LittleCompilerModel", "release", "()I"⟩, 46), (⟨"LittleCompilerModel", "setName", "(II)V"⟩, 46), (⟨"LittleCompilerModel", "print", "(I)V"⟩, 46), (⟨"LittleCompilerModel", "comeBack", "(I)V"⟩, 46), (⟨"LittleCompilerModel", "goOnExpression", "(II)V"⟩, 46), (⟨"LittleCompilerModel", "call", "(I)V"⟩, 46), (⟨"LittleCompilerModel", "operate", "(I)V"⟩, 46), (⟨"LittleCompilerModel", "writePlain", "()Z"⟩, 46)]
theorem lw_r5 : ∀ q ∈ lw_privs_5, lw_okq q := List.forall_mem_cons.mpr ⟨lw_p64, List.forall_mem_cons.mpr ⟨lw_p65, List.forall_mem_cons.mpr ⟨lw_p66, List.forall_mem_cons.mpr ⟨lw_p67, List.forall_mem_cons.mpr ⟨lw_p68, List.forall_mem_cons.mpr ⟨lw_p69, List.forall_mem_cons.mpr ⟨lw_p70, List.forall_mem_cons.mpr ⟨lw_p71, List.forall_mem_cons.mpr ⟨lw_p72, List.forall_mem_cons.mpr ⟨lw_p73, List.forall_mem_cons.mpr ⟨lw_p74, List.forall_mem_cons.mpr ⟨lw_p75, List.forall_mem_cons.mpr ⟨lw_p76, List.forall_mem_cons.mpr ⟨lw_p77, List.forall_mem_cons.mpr ⟨lw_p78, List.forall_mem_cons.mpr ⟨lw_p79, fun _ h => absurd h List.not_mem_nil⟩⟩⟩⟩⟩⟩⟩⟩⟩⟩⟩⟩⟩⟩⟩⟩
theorem lw_p80 : lw_okq (⟨"LittleCompilerModel", "emit", "(I)V"⟩, 46) := ⟨⟨by decide +kernel, by decide +kernel⟩, List.mem_of_getElem? (i := 801) (by decide +kernel), List.mem_of_getElem? (i := 1174) (by decide +kernel), List.mem_of_getElem? (i := 1175) (by decide +kernel)⟩
theorem lw_p81 : lw_okq (⟨"LittleCompilerModel", "write", "(I)V"⟩, 46) := ⟨⟨by decide +kernel, by decide +kernel⟩, List.mem_of_getElem? (i := 801) (by decide +kernel), List.mem_of_getElem? (i := 1178) (by decide +kernel), List.mem_of_getElem? (i := 1179) (by decide +kernel)⟩
theorem lw_p82 : lw_okq (⟨"LittleCompilerModel", "writeExpression", "(II)V"⟩, 46) := ⟨⟨by decide +kernel, by decide +kernel⟩, List.mem_of_getElem? (i := 801) (by decide +kernel), List.mem_of_getElem? (i := 1182) (by decide +kernel), List.mem_of_getElem? (i := 1183) (by decide +kernel)⟩
theorem lw_p83 : lw_okq (⟨"LittleCompilerModel", "levelOf", "(I)I"⟩, 46) := ⟨⟨by decide +kernel, by decide +kernel⟩, List.mem_of_getElem? (i := 801) (by decide +kernel), List.mem_of_getElem? (i := 1186) (by decide +kernel), List.mem_of_getElem? (i := 1187) (by decide +kernel)⟩
theorem lw_p84 : lw_okq (⟨"LittleCompilerModel", "expression", "(II)I"⟩, 46) := ⟨⟨by decide +kernel, by decide +kernel⟩, List.mem_of_getElem? (i := 801) (by decide +kernel), List.mem_of_getElem? (i := 1190) (by decide +kernel), List.mem_of_getElem? (i := 1191) (by decide +kernel)⟩
theorem lw_p85 : lw_okq (⟨"LittleCompilerModel", "writeStatement", "(I)V"⟩, 46) := ⟨⟨by decide +kernel, by decide +kernel⟩, List.mem_of_getElem? (i := 801) (by decide +kernel), List.mem_of_getElem? (i := 1194) (by decide +kernel), List.mem_of_getElem? (i := 1195) (by decide +kernel)⟩
theorem lw_p86 : lw_okq (⟨"LittleCompilerModel", "writeRest", "(I)V"⟩, 46) := ⟨⟨by decide +kernel, by decide +kernel⟩, List.mem_of_getElem? (i := 801) (by decide +kernel), List.mem_of_getElem? (i := 1198) (by decide +kernel), List.mem_of_getElem? (i := 1199) (by decide +kernel)⟩
def lw_privs_6 : List (MethodName × Nat) := [(⟨"LittleCompilerModel", "emit", "(I)V"⟩, 46), (⟨"LittleCompilerModel", "write", "(I)V"⟩, 46), (⟨"LittleCompilerModel", "writeExpression", "(II)V"⟩, 46), (⟨"LittleCompilerModel", "levelOf", "(I)I"⟩, 46), (⟨"LittleCompilerModel", "expression", "(II)I"⟩, 46), (⟨"LittleCompilerModel", "writeStatement", "(I)V"⟩, 46), (⟨"LittleCompilerModel", "writeRest", "(I)V"⟩, 46)]
theorem lw_r6 : ∀ q ∈ lw_privs_6, lw_okq q := List.forall_mem_cons.mpr ⟨lw_p80, List.forall_mem_cons.mpr ⟨lw_p81, List.forall_mem_cons.mpr ⟨lw_p82, List.forall_mem_cons.mpr ⟨lw_p83, List.forall_mem_cons.mpr ⟨lw_p84, List.forall_mem_cons.mpr ⟨lw_p85, List.forall_mem_cons.mpr ⟨lw_p86, fun _ h => absurd h List.not_mem_nil⟩⟩⟩⟩⟩⟩⟩
def lw_privs : List (MethodName × Nat) := lw_privs_1 ++ (lw_privs_2 ++ (lw_privs_3 ++ (lw_privs_4 ++ (lw_privs_5 ++ (lw_privs_6)))))
def lw_tbl : List Cond := k2_sels lw_privs ++ tables_1
theorem lw_privs_ok : ∀ q ∈ lw_privs, lw_okq q := by
  show ∀ q ∈ lw_privs_1 ++ (lw_privs_2 ++ (lw_privs_3 ++ (lw_privs_4 ++ (lw_privs_5 ++ (lw_privs_6))))), lw_okq q
  exact List.forall_mem_append.mpr ⟨lw_r1, List.forall_mem_append.mpr ⟨lw_r2, List.forall_mem_append.mpr ⟨lw_r3, List.forall_mem_append.mpr ⟨lw_r4, List.forall_mem_append.mpr ⟨lw_r5, lw_r6⟩⟩⟩⟩⟩
end
section
def ztbl : List Cond := lw_tbl.filter goodWord
theorem zmem {w : Cond} (i : Nat) (h : lw_tbl[i]? = some w) (g : goodWord w = true := by rfl) : w ∈ ztbl := List.mem_filter.mpr ⟨List.mem_of_getElem? h, g⟩
theorem zsub {ws : List Cond} (ps : List Nat) (h : ps.filterMap (fun i => lw_tbl[i]?) = ws) (g : ws.all goodWord = true) : ∀ w ∈ ws, w ∈ ztbl := fun w hw => by have g1 := List.all_eq_true.mp g w hw; rw [← h] at hw; obtain ⟨i, -, hi⟩ := List.mem_filterMap.mp hw; exact List.mem_filter.mpr ⟨List.mem_of_getElem? hi, g1⟩
def zT0 : u_T := fun k => match k with
  | 0 => ("LittleCompiler", "text", "[I", true)
  | 1 => ("LittleCompiler", "globalsBefore", "[I", true)
  | 2 => ("LittleCompiler", "cellsBefore", "[I", true)
  | 3 => ("LittleCompiler", "parser", "LLittleCompiler$Parser;", true)
  | 4 => ("LittleCompiler", "machine", "LLittleCompiler$Machine;", true)
  | _ => ("LittleCompiler", "length", "I", false)
def zy0 : Nat → FieldType := fun k => match k with
  | 0 => (.array .int)
  | 1 => (.array .int)
  | 2 => (.array .int)
  | 3 => (.object "LittleCompiler$Parser")
  | 4 => (.object "LittleCompiler$Machine")
  | _ => .int
theorem zn0 : ∀ a, a < 6 → ∀ b, b < 6 → a ≠ b → (zT0 a).2.1 ≠ (zT0 b).2.1 := by decide +kernel
theorem zyok0 : ∀ k, k < 6 → parseFieldDescriptor (zT0 k).2.2.1 = some (zy0 k) := by decide +kernel
theorem zi0 : ∀ w ∈ u_ws "LittleCompiler" zT0 6, w ∈ ztbl := zsub [358, 360, 362, 364, 366, 368] (by decide +kernel) (by decide +kernel)
def zT1 : u_T := fun k => match k with
  | 0 => ("LittleCompiler$Code", "operations", "[I", true)
  | 1 => ("LittleCompiler$Code", "operands", "[I", true)
  | _ => ("LittleCompiler$Code", "size", "I", false)
def zy1 : Nat → FieldType := fun k => match k with
  | 0 => (.array .int)
  | 1 => (.array .int)
  | _ => .int
theorem zn1 : ∀ a, a < 3 → ∀ b, b < 3 → a ≠ b → (zT1 a).2.1 ≠ (zT1 b).2.1 := by decide +kernel
theorem zyok1 : ∀ k, k < 3 → parseFieldDescriptor (zT1 k).2.2.1 = some (zy1 k) := by decide +kernel
theorem zi1 : ∀ w ∈ u_ws "LittleCompiler$Code" zT1 3, w ∈ ztbl := zsub [118, 120, 122] (by decide +kernel) (by decide +kernel)
def zT2 : u_T := fun k => match k with
  | 0 => ("LittleCompiler$Procedures", "known", "[Z", true)
  | 1 => ("LittleCompiler$Procedures", "entries", "[I", true)
  | 2 => ("LittleCompiler$Procedures", "parameterCounts", "[I", true)
  | 3 => ("LittleCompiler$Procedures", "parameters", "[I", true)
  | 4 => ("LittleCompiler$Procedures", "callees", "[I", true)
  | 5 => ("LittleCompiler$Procedures", "argumentCounts", "[I", true)
  | 6 => ("LittleCompiler$Procedures", "mainEntry", "I", false)
  | 7 => ("LittleCompiler$Procedures", "current", "I", false)
  | 8 => ("LittleCompiler$Procedures", "ownNames", "I", false)
  | _ => ("LittleCompiler$Procedures", "firstFault", "I", false)
def zy2 : Nat → FieldType := fun k => match k with
  | 0 => (.array .boolean)
  | 1 => (.array .int)
  | 2 => (.array .int)
  | 3 => (.array .int)
  | 4 => (.array .int)
  | 5 => (.array .int)
  | 6 => .int
  | 7 => .int
  | 8 => .int
  | _ => .int
theorem zn2 : ∀ a, a < 10 → ∀ b, b < 10 → a ≠ b → (zT2 a).2.1 ≠ (zT2 b).2.1 := by decide +kernel
theorem zyok2 : ∀ k, k < 10 → parseFieldDescriptor (zT2 k).2.2.1 = some (zy2 k) := by decide +kernel
theorem zi2 : ∀ w ∈ u_ws "LittleCompiler$Procedures" zT2 10, w ∈ ztbl := zsub [142, 144, 146, 148, 150, 152, 154, 156, 158, 160] (by decide +kernel) (by decide +kernel)
def zT3 : u_T := fun k => match k with
  | 0 => ("LittleCompiler$Parser", "plainForm", "LLittleCompiler$PlainForm;", true)
  | 1 => ("LittleCompiler$Parser", "wrongToken", "I", false)
  | 2 => ("LittleCompiler$Parser", "faultyToken", "I", false)
  | 3 => ("LittleCompiler$Parser", "stale", "Z", false)
  | 4 => ("LittleCompiler$Parser", "code", "LLittleCompiler$Code;", true)
  | 5 => ("LittleCompiler$Parser", "procedures", "LLittleCompiler$Procedures;", true)
  | 6 => ("LittleCompiler$Parser", "pending", "LLittleCompiler$Pending;", true)
  | 7 => ("LittleCompiler$Parser", "expressions", "LLittleCompiler$Expressions;", true)
  | _ => ("LittleCompiler$Parser", "statements", "LLittleCompiler$Statements;", true)
def zy3 : Nat → FieldType := fun k => match k with
  | 0 => (.object "LittleCompiler$PlainForm")
  | 1 => .int
  | 2 => .int
  | 3 => .boolean
  | 4 => (.object "LittleCompiler$Code")
  | 5 => (.object "LittleCompiler$Procedures")
  | 6 => (.object "LittleCompiler$Pending")
  | 7 => (.object "LittleCompiler$Expressions")
  | _ => (.object "LittleCompiler$Statements")
theorem zn3 : ∀ a, a < 9 → ∀ b, b < 9 → a ≠ b → (zT3 a).2.1 ≠ (zT3 b).2.1 := by decide +kernel
theorem zyok3 : ∀ k, k < 9 → parseFieldDescriptor (zT3 k).2.2.1 = some (zy3 k) := by decide +kernel
theorem zi3 : ∀ w ∈ u_ws "LittleCompiler$Parser" zT3 9, w ∈ ztbl := zsub [267, 269, 271, 273, 275, 277, 279, 281, 283] (by decide +kernel) (by decide +kernel)
def zT4 : u_T := fun k => match k with
  | 0 => ("LittleCompiler$Pending", "kinds", "[I", true)
  | 1 => ("LittleCompiler$Pending", "firsts", "[I", true)
  | 2 => ("LittleCompiler$Pending", "seconds", "[I", true)
  | _ => ("LittleCompiler$Pending", "height", "I", false)
def zy4 : Nat → FieldType := fun k => match k with
  | 0 => (.array .int)
  | 1 => (.array .int)
  | 2 => (.array .int)
  | _ => .int
theorem zn4 : ∀ a, a < 4 → ∀ b, b < 4 → a ≠ b → (zT4 a).2.1 ≠ (zT4 b).2.1 := by decide +kernel
theorem zyok4 : ∀ k, k < 4 → parseFieldDescriptor (zT4 k).2.2.1 = some (zy4 k) := by decide +kernel
theorem zi4 : ∀ w ∈ u_ws "LittleCompiler$Pending" zT4 4, w ∈ ztbl := zsub [180, 182, 184, 186] (by decide +kernel) (by decide +kernel)
def zT5 : u_T := fun k => match k with
  | 0 => ("LittleCompiler$PlainForm", "text", "[I", true)
  | 1 => ("LittleCompiler$PlainForm", "size", "I", false)
  | 2 => ("LittleCompiler$PlainForm", "leftOut", "[Z", true)
  | 3 => ("LittleCompiler$PlainForm", "levels", "[I", true)
  | 4 => ("LittleCompiler$PlainForm", "opens", "[I", true)
  | 5 => ("LittleCompiler$PlainForm", "closes", "[I", true)
  | _ => ("LittleCompiler$PlainForm", "height", "I", false)
def zy5 : Nat → FieldType := fun k => match k with
  | 0 => (.array .int)
  | 1 => .int
  | 2 => (.array .boolean)
  | 3 => (.array .int)
  | 4 => (.array .int)
  | 5 => (.array .int)
  | _ => .int
theorem zn5 : ∀ a, a < 7 → ∀ b, b < 7 → a ≠ b → (zT5 a).2.1 ≠ (zT5 b).2.1 := by decide +kernel
theorem zyok5 : ∀ k, k < 7 → parseFieldDescriptor (zT5 k).2.2.1 = some (zy5 k) := by decide +kernel
theorem zi5 : ∀ w ∈ u_ws "LittleCompiler$PlainForm" zT5 7, w ∈ ztbl := zsub [204, 206, 208, 210, 212, 214, 216] (by decide +kernel) (by decide +kernel)
def zT6 : u_T := fun k => match k with
  | 0 => ("LittleCompiler$Expressions", "code", "LLittleCompiler$Code;", true)
  | 1 => ("LittleCompiler$Expressions", "procedures", "LLittleCompiler$Procedures;", true)
  | 2 => ("LittleCompiler$Expressions", "pending", "LLittleCompiler$Pending;", true)
  | _ => ("LittleCompiler$Expressions", "plainForm", "LLittleCompiler$PlainForm;", true)
def zy6 : Nat → FieldType := fun k => match k with
  | 0 => (.object "LittleCompiler$Code")
  | 1 => (.object "LittleCompiler$Procedures")
  | 2 => (.object "LittleCompiler$Pending")
  | _ => (.object "LittleCompiler$PlainForm")
theorem zn6 : ∀ a, a < 4 → ∀ b, b < 4 → a ≠ b → (zT6 a).2.1 ≠ (zT6 b).2.1 := by decide +kernel
theorem zyok6 : ∀ k, k < 4 → parseFieldDescriptor (zT6 k).2.2.1 = some (zy6 k) := by decide +kernel
theorem zi6 : ∀ w ∈ u_ws "LittleCompiler$Expressions" zT6 4, w ∈ ztbl := zsub [229, 231, 233, 235] (by decide +kernel) (by decide +kernel)
def zT7 : u_T := fun k => match k with
  | 0 => ("LittleCompiler$Statements", "code", "LLittleCompiler$Code;", true)
  | 1 => ("LittleCompiler$Statements", "procedures", "LLittleCompiler$Procedures;", true)
  | _ => ("LittleCompiler$Statements", "pending", "LLittleCompiler$Pending;", true)
def zy7 : Nat → FieldType := fun k => match k with
  | 0 => (.object "LittleCompiler$Code")
  | 1 => (.object "LittleCompiler$Procedures")
  | _ => (.object "LittleCompiler$Pending")
theorem zn7 : ∀ a, a < 3 → ∀ b, b < 3 → a ≠ b → (zT7 a).2.1 ≠ (zT7 b).2.1 := by decide +kernel
theorem zyok7 : ∀ k, k < 3 → parseFieldDescriptor (zT7 k).2.2.1 = some (zy7 k) := by decide +kernel
theorem zi7 : ∀ w ∈ u_ws "LittleCompiler$Statements" zT7 3, w ∈ ztbl := zsub [247, 249, 251] (by decide +kernel) (by decide +kernel)
def zT8 : u_T := fun k => match k with
  | 0 => ("LittleCompiler$Machine", "globals", "[I", true)
  | 1 => ("LittleCompiler$Machine", "cells", "[I", true)
  | 2 => ("LittleCompiler$Machine", "numbersPut", "[I", true)
  | 3 => ("LittleCompiler$Machine", "putCount", "I", false)
  | 4 => ("LittleCompiler$Machine", "turnCount", "I", false)
  | 5 => ("LittleCompiler$Machine", "deepestCall", "I", false)
  | 6 => ("LittleCompiler$Machine", "ending", "I", false)
  | 7 => ("LittleCompiler$Machine", "stale", "Z", false)
  | 8 => ("LittleCompiler$Machine", "code", "LLittleCompiler$Code;", true)
  | 9 => ("LittleCompiler$Machine", "procedures", "LLittleCompiler$Procedures;", true)
  | 10 => ("LittleCompiler$Machine", "operands", "[I", true)
  | 11 => ("LittleCompiler$Machine", "locals", "[I", true)
  | 12 => ("LittleCompiler$Machine", "returns", "[I", true)
  | 13 => ("LittleCompiler$Machine", "operandCount", "I", false)
  | 14 => ("LittleCompiler$Machine", "callCount", "I", false)
  | 15 => ("LittleCompiler$Machine", "next", "I", false)
  | _ => ("LittleCompiler$Machine", "running", "Z", false)
def zy8 : Nat → FieldType := fun k => match k with
  | 0 => (.array .int)
  | 1 => (.array .int)
  | 2 => (.array .int)
  | 3 => .int
  | 4 => .int
  | 5 => .int
  | 6 => .int
  | 7 => .boolean
  | 8 => (.object "LittleCompiler$Code")
  | 9 => (.object "LittleCompiler$Procedures")
  | 10 => (.array .int)
  | 11 => (.array .int)
  | 12 => (.array .int)
  | 13 => .int
  | 14 => .int
  | 15 => .int
  | _ => .boolean
theorem zn8 : ∀ a, a < 17 → ∀ b, b < 17 → a ≠ b → (zT8 a).2.1 ≠ (zT8 b).2.1 := by decide +kernel
theorem zyok8 : ∀ k, k < 17 → parseFieldDescriptor (zT8 k).2.2.1 = some (zy8 k) := by decide +kernel
theorem zi8 : ∀ w ∈ u_ws "LittleCompiler$Machine" zT8 17, w ∈ ztbl := zsub [317, 319, 321, 323, 325, 327, 329, 331, 333, 335, 337, 339, 341, 343, 345, 347, 349] (by decide +kernel) (by decide +kernel)
def zT9 : u_T := fun k => match k with
  | 0 => ("LittleCompilerModel", "text", "[I", true)
  | 1 => ("LittleCompilerModel", "size", "I", false)
  | 2 => ("LittleCompilerModel", "globals", "[I", true)
  | 3 => ("LittleCompilerModel", "cells", "[I", true)
  | 4 => ("LittleCompilerModel", "tasks", "[I", true)
  | 5 => ("LittleCompilerModel", "taskCount", "I", false)
  | 6 => ("LittleCompilerModel", "place", "I", false)
  | 7 => ("LittleCompilerModel", "failed", "Z", false)
  | 8 => ("LittleCompilerModel", "kinds", "[I", true)
  | 9 => ("LittleCompilerModel", "numbers", "[I", true)
  | 10 => ("LittleCompilerModel", "as", "[I", true)
  | 11 => ("LittleCompilerModel", "bs", "[I", true)
  | 12 => ("LittleCompilerModel", "cs", "[I", true)
  | 13 => ("LittleCompilerModel", "nexts", "[I", true)
  | 14 => ("LittleCompilerModel", "nodes", "I", false)
  | 15 => ("LittleCompilerModel", "pile", "[I", true)
  | 16 => ("LittleCompilerModel", "height", "I", false)
  | 17 => ("LittleCompilerModel", "bodies", "[I", true)
  | 18 => ("LittleCompilerModel", "counts", "[I", true)
  | 19 => ("LittleCompilerModel", "locals", "[I", true)
  | 20 => ("LittleCompilerModel", "firsts", "[I", true)
  | 21 => ("LittleCompilerModel", "proc", "I", false)
  | 22 => ("LittleCompilerModel", "owned", "I", false)
  | 23 => ("LittleCompilerModel", "again", "Z", false)
  | 24 => ("LittleCompilerModel", "mainList", "I", false)
  | 25 => ("LittleCompilerModel", "starts", "[I", true)
  | 26 => ("LittleCompilerModel", "lists", "[I", true)
  | 27 => ("LittleCompilerModel", "defs", "I", false)
  | 28 => ("LittleCompilerModel", "faultPlace", "I", false)
  | 29 => ("LittleCompilerModel", "plainText", "[I", true)
  | 30 => ("LittleCompilerModel", "plainCount", "I", false)
  | 31 => ("LittleCompilerModel", "waits", "[I", true)
  | 32 => ("LittleCompilerModel", "heights", "[I", true)
  | 33 => ("LittleCompilerModel", "waiting", "I", false)
  | 34 => ("LittleCompilerModel", "values", "[I", true)
  | 35 => ("LittleCompilerModel", "held", "I", false)
  | 36 => ("LittleCompilerModel", "names", "[I", true)
  | 37 => ("LittleCompilerModel", "procs", "[I", true)
  | 38 => ("LittleCompilerModel", "under", "I", false)
  | 39 => ("LittleCompilerModel", "most", "I", false)
  | 40 => ("LittleCompilerModel", "turnCount", "I", false)
  | 41 => ("LittleCompilerModel", "prints", "[I", true)
  | 42 => ("LittleCompilerModel", "printCount", "I", false)
  | 43 => ("LittleCompilerModel", "now", "[I", true)
  | 44 => ("LittleCompilerModel", "cellsNow", "[I", true)
  | _ => ("LittleCompilerModel", "ending", "I", false)
def zy9 : Nat → FieldType := fun k => match k with
  | 0 => (.array .int)
  | 1 => .int
  | 2 => (.array .int)
  | 3 => (.array .int)
  | 4 => (.array .int)
  | 5 => .int
  | 6 => .int
  | 7 => .boolean
  | 8 => (.array .int)
  | 9 => (.array .int)
  | 10 => (.array .int)
  | 11 => (.array .int)
  | 12 => (.array .int)
  | 13 => (.array .int)
  | 14 => .int
  | 15 => (.array .int)
  | 16 => .int
  | 17 => (.array .int)
  | 18 => (.array .int)
  | 19 => (.array .int)
  | 20 => (.array .int)
  | 21 => .int
  | 22 => .int
  | 23 => .boolean
  | 24 => .int
  | 25 => (.array .int)
  | 26 => (.array .int)
  | 27 => .int
  | 28 => .int
  | 29 => (.array .int)
  | 30 => .int
  | 31 => (.array .int)
  | 32 => (.array .int)
  | 33 => .int
  | 34 => (.array .int)
  | 35 => .int
  | 36 => (.array .int)
  | 37 => (.array .int)
  | 38 => .int
  | 39 => .int
  | 40 => .int
  | 41 => (.array .int)
  | 42 => .int
  | 43 => (.array .int)
  | 44 => (.array .int)
  | _ => .int
theorem zn9 : ∀ a, a < 46 → ∀ b, b < 46 → a ≠ b → (zT9 a).2.1 ≠ (zT9 b).2.1 := by decide +kernel
theorem zyok9 : ∀ k, k < 46 → parseFieldDescriptor (zT9 k).2.2.1 = some (zy9 k) := by decide +kernel
theorem zi9 : ∀ w ∈ u_ws "LittleCompilerModel" zT9 46, w ∈ ztbl := zsub [939, 941, 943, 945, 947, 949, 951, 953, 955, 957, 959, 961, 963, 965, 967, 969, 971, 973, 975, 977, 979, 981, 983, 985, 987, 989, 991, 993, 995, 997, 999, 1001, 1003, 1005, 1007, 1009, 1011, 1013, 1015, 1017, 1019, 1021, 1023, 1025, 1027, 1029] (by decide +kernel) (by decide +kernel)
abbrev zcl : List vw_C := [("LittleCompiler", zT0, 6), ("LittleCompiler$Code", zT1, 3), ("LittleCompiler$Procedures", zT2, 10), ("LittleCompiler$Parser", zT3, 9), ("LittleCompiler$Pending", zT4, 4), ("LittleCompiler$PlainForm", zT5, 7), ("LittleCompiler$Expressions", zT6, 4), ("LittleCompiler$Statements", zT7, 3), ("LittleCompiler$Machine", zT8, 17), ("LittleCompilerModel", zT9, 46)]
def zTy : Nat → Nat → FieldType := fun c => match c with
  | 0 => zy0
  | 1 => zy1
  | 2 => zy2
  | 3 => zy3
  | 4 => zy4
  | 5 => zy5
  | 6 => zy6
  | 7 => zy7
  | 8 => zy8
  | _ => zy9
abbrev zSh : Type := (Bool × Nat) ⊕ (Nat × List (Option Nat))
def zL : List zSh := [.inr (0, [some 1, some 2, some 3, some 14, some 27, none]),
  .inl (false, 150),
  .inl (false, 8),
  .inl (false, 16),
  .inr (1, [some 5, some 6, none]),
  .inl (false, 300),
  .inl (false, 300),
  .inr (2, [some 8, some 9, some 10, some 11, some 12, some 13, none, none, none, none]),
  .inl (true, 4),
  .inl (false, 4),
  .inl (false, 4),
  .inl (false, 32),
  .inl (false, 150),
  .inl (false, 150),
  .inr (3, [some 19, none, none, none, some 4, some 7, some 15, some 25, some 26]),
  .inr (4, [some 16, some 17, some 18, none]),
  .inl (false, 150),
  .inl (false, 150),
  .inl (false, 150),
  .inr (5, [some 20, none, some 21, some 22, some 23, some 24, none]),
  .inl (false, 150),
  .inl (true, 150),
  .inl (false, 150),
  .inl (false, 150),
  .inl (false, 150),
  .inr (6, [some 4, some 7, some 15, some 19]),
  .inr (7, [some 4, some 7, some 15]),
  .inr (8, [some 28, some 29, some 30, none, none, none, none, none, some 4, some 7, some 31, some 32, some 33, none, none, none, none]),
  .inl (false, 8),
  .inl (false, 16),
  .inl (false, 20),
  .inl (false, 2048),
  .inl (false, 168),
  .inl (false, 21),
  .inr (9, [some 35, none, some 36, some 37, some 38, none, none, none, some 39, some 40, some 41, some 42, some 43, some 44, none, some 45, none, some 46, some 47, some 48, some 49, none, none, none, none, some 50, some 51, none, none, some 52, none, some 53, some 54, none, some 55, none, some 56, some 57, none, none, none, some 58, none, some 59, some 60, none]),
  .inl (false, 150),
  .inl (false, 8),
  .inl (false, 16),
  .inl (false, 1600),
  .inl (false, 400),
  .inl (false, 400),
  .inl (false, 400),
  .inl (false, 400),
  .inl (false, 400),
  .inl (false, 400),
  .inl (false, 300),
  .inl (false, 4),
  .inl (false, 4),
  .inl (false, 4),
  .inl (false, 32),
  .inl (false, 30),
  .inl (false, 30),
  .inl (false, 160),
  .inl (false, 3600),
  .inl (false, 3600),
  .inl (false, 3600),
  .inl (false, 168),
  .inl (false, 21),
  .inl (false, 20),
  .inl (false, 8),
  .inl (false, 16)]
/-- all the classes of the world: fields apart, types, words -/
theorem zcl_ok : ∀ (c : Nat) (C : String) (T : u_T) (N : Nat), zcl[c]? = some (C, T, N) → (∀ w ∈ u_ws C T N, w ∈ ztbl) ∧ (∀ k, k < N → parseFieldDescriptor (T k).2.2.1 = some (zTy c k)) ∧ (∀ a, a < N → ∀ b, b < N → a ≠ b → (T a).2.1 ≠ (T b).2.1) := by
  intro c C T N h
  match c, h with
  | 0, h => cases h; exact ⟨zi0, zyok0, zn0⟩
  | 1, h => cases h; exact ⟨zi1, zyok1, zn1⟩
  | 2, h => cases h; exact ⟨zi2, zyok2, zn2⟩
  | 3, h => cases h; exact ⟨zi3, zyok3, zn3⟩
  | 4, h => cases h; exact ⟨zi4, zyok4, zn4⟩
  | 5, h => cases h; exact ⟨zi5, zyok5, zn5⟩
  | 6, h => cases h; exact ⟨zi6, zyok6, zn6⟩
  | 7, h => cases h; exact ⟨zi7, zyok7, zn7⟩
  | 8, h => cases h; exact ⟨zi8, zyok8, zn8⟩
  | 9, h => cases h; exact ⟨zi9, zyok9, zn9⟩
  | c + 10, h => simp [zcl] at h
theorem zgood : ∀ w ∈ ztbl, (w.onTables && w.keeps) = true ∨ ∃ ty, w = .arrayClass ty := fun w hw => good_of_word (List.mem_filter.mp hw).2
theorem zin : ∀ w ∈ ztbl, w ∈ lw_tbl := fun w hw => (List.mem_filter.mp hw).1
end
section
/-! THE CORE: a memory over cells of fixed shape; what a method does from an instruction on, as a relation of memories -/
abbrev zV : Type := Int32 ⊕ Nat
abbrev zMem : Type := Nat → Nat → Int32
def zup (M : zMem) (a i : Nat) (v : Int32) : zMem := fun b => if b = a then upd (M b) i v else M b
def zcv (as : Nat → Nat) : zV → Value
  | .inl x => .int x
  | .inr i => .ref (as i)
def zfl (as : Nat → Nat) (f : Nat → Int32) (j : Nat) : Option Nat → Value
  | none => .int (f j)
  | some i => .ref (as i)
def zcell (cI cZ : ClassId) (as : Nat → Nat) (f : Nat → Int32) : zSh → va_E
  | .inl (b, n) => .inl (if b then cZ else cI, n, .inl f)
  | .inr (ci, fs) => .inr (ci, fs.mapIdx (fun j o => zfl as f j o))
def zW (cI cZ : ClassId) (as : Nat → Nat) (M : zMem) : va_W := zL.mapIdx (fun i sh => (as i, zcell cI cZ as (M i) sh))
def zInj (as : Nat → Nat) : Prop := ∀ i j, i < zL.length → j < zL.length → as i = as j → i = j
def zA (as : Nat → Nat) (sz : Nat) : Nat → Prop := fun q => (∃ i, i < zL.length ∧ q = as i) ∨ sz ≤ q
theorem zW_get {cI cZ : ClassId} {as : Nat → Nat} {M : zMem} {i : Nat} {sh : zSh} (h : zL[i]? = some sh) : (zW cI cZ as M)[i]? = some (as i, zcell cI cZ as (M i) sh) := by
  simp [zW, List.getElem?_mapIdx, h]
theorem zW_lt {cI cZ : ClassId} {as : Nat → Nat} {M : zMem} {i : Nat} {q : Nat × va_E} (h : (zW cI cZ as M)[i]? = some q) : i < zL.length ∧ q.1 = as i := by
  simp only [zW, List.getElem?_mapIdx, Option.map_eq_some_iff] at h
  obtain ⟨sh, h1, rfl⟩ := h
  exact ⟨(List.getElem?_eq_some_iff.mp h1).1, rfl⟩
theorem zW_D {cI cZ : ClassId} {as : Nat → Nat} {M : zMem} {sz : Nat} (h : zInj as) : va_D (zA as sz) (zW cI cZ as M) := by
  refine ⟨fun i j x y hi hj e => ?_, fun k q hk => ?_⟩
  · obtain ⟨h1, h2⟩ := zW_lt hi
    obtain ⟨h3, h4⟩ := zW_lt hj
    exact h i j h1 h3 (by rw [← h2, ← h4]; exact e)
  · obtain ⟨h1, h2⟩ := zW_lt hk
    exact Or.inl ⟨k, h1, h2⟩
theorem zW_set {cI cZ : ClassId} {as : Nat → Nat} {M M' : zMem} {i : Nat} {e : va_E} {sh : zSh} (h : zL[i]? = some sh) (he : e = zcell cI cZ as (M' i) sh) (ho : ∀ j, j ≠ i → M' j = M j) : (zW cI cZ as M).set i (as i, e) = zW cI cZ as M' := by
  apply List.ext_getElem?
  intro j
  by_cases hj : j = i
  · subst hj
    have hl : j < (zW cI cZ as M).length := by
      have := (List.getElem?_eq_some_iff.mp h).1
      simpa [zW] using this
    rw [List.getElem?_set_self hl, zW_get h, he]
  · rw [List.getElem?_set_ne (Ne.symm hj)]
    simp only [zW, List.getElem?_mapIdx, ho j hj]
theorem zup_self (M : zMem) (a i : Nat) (v : Int32) : zup M a i v a = upd (M a) i v := by simp [zup]
theorem zup_ne {M : zMem} {a b i : Nat} {v : Int32} (h : b ≠ a) : zup M a i v b = M b := by simp [zup, h]
theorem zW_arr {cI cZ : ClassId} {as : Nat → Nat} {M : zMem} {i n k : Nat} {b : Bool} {v : Int32} (h : zL[i]? = some (.inl (b, n))) : (zW cI cZ as M).set i (as i, .inl (if b then cZ else cI, n, .inl (upd (M i) k v))) = zW cI cZ as (zup M i k v) :=
  zW_set h (by rw [zup_self]; rfl) (fun j hj => zup_ne hj)
theorem zW_fld {cI cZ : ClassId} {as : Nat → Nat} {M : zMem} {i ci k : Nat} {fs : List (Option Nat)} {v : Int32} (h : zL[i]? = some (.inr (ci, fs))) (hk : fs[k]? = some none) : (zW cI cZ as M).set i (as i, .inr (ci, (fs.mapIdx (fun j o => zfl as (M i) j o)).set k (.int v))) = zW cI cZ as (zup M i k v) := by
  refine zW_set h ?_ (fun j hj => zup_ne hj)
  rw [zup_self]
  show Sum.inr _ = Sum.inr _
  congr 2
  apply List.ext_getElem?
  intro j
  by_cases hj : j = k
  · subst hj
    have hl : j < (fs.mapIdx (fun j o => zfl as (M i) j o)).length := by
      have := (List.getElem?_eq_some_iff.mp hk).1
      simpa using this
    rw [List.getElem?_set_self hl, List.getElem?_mapIdx, hk]
    simp [zfl, upd]
  · rw [List.getElem?_set_ne (Ne.symm hj), List.getElem?_mapIdx, List.getElem?_mapIdx]
    congr 1
    funext o
    cases o with
    | none => simp [zfl, upd, hj]
    | some x => rfl
end
section
abbrev zY : Type := MethodName × ByteArray × Nat × Option FieldType × List (Instr × Nat × Nat)
def zpc : List (Instr × Nat × Nat) → Nat → Nat
  | _, 0 => 0
  | [], _ + 1 => 0
  | q :: t, k + 1 => q.2.1 + zpc t k
theorem zpc_succ : ∀ {l : List (Instr × Nat × Nat)} {k : Nat} {q : Instr × Nat × Nat}, l[k]? = some q → zpc l (k + 1) = zpc l k + q.2.1
  | [], k, q, h => by simp at h
  | a :: t, 0, q, h => by simp at h; subst h; simp [zpc]
  | a :: t, k + 1, q, h => by
    have h1 : t[k]? = some q := by simpa using h
    have := zpc_succ h1
    show a.2.1 + zpc t (k + 1) = a.2.1 + zpc t k + q.2.1
    omega
def zoff : Instr → Option Int
  | .goto o => some o
  | .if_icmp _ o => some o
  | .ifCond _ o => some o
  | _ => none
def zOK (Y : zY) : Prop := ∀ (k : Nat) (i : Instr) (n t : Nat), Y.2.2.2.2[k]? = some (i, n, t) → decode Y.2.1 (zpc Y.2.2.2.2 k) = .ok (i, n) ∧ ∀ off, zoff i = some off → ((zpc Y.2.2.2.2 k : Nat) : Int) + off = ((zpc Y.2.2.2.2 t : Nat) : Int)
def zchk (b : ByteArray) (all : List (Instr × Nat × Nat)) : Nat → List (Instr × Nat × Nat) → Bool
  | _, [] => true
  | pc, (i, n, t) :: r => decide (decode b pc = .ok (i, n)) && (match zoff i with | none => true | some off => decide (((pc : Nat) : Int) + off = ((zpc all t : Nat) : Int))) && zchk b all (pc + n) r
theorem zchk_get {b : ByteArray} {all : List (Instr × Nat × Nat)} : ∀ (r : List (Instr × Nat × Nat)) (pc : Nat), zchk b all pc r = true → ∀ (k : Nat) (i : Instr) (n t : Nat), r[k]? = some (i, n, t) → decode b (pc + zpc r k) = .ok (i, n) ∧ ∀ off, zoff i = some off → ((pc + zpc r k : Nat) : Int) + off = ((zpc all t : Nat) : Int)
  | [], pc, _, k, i, n, t, h => by simp at h
  | (i0, n0, t0) :: r, pc, hz, k, i, n, t, h => by
    simp only [zchk, Bool.and_eq_true, decide_eq_true_eq] at hz
    cases k with
    | zero =>
      simp at h
      obtain ⟨rfl, rfl, rfl⟩ := h
      refine ⟨by simpa [zpc] using hz.1.1, fun off ho => ?_⟩
      have h2 := hz.1.2
      rw [ho] at h2
      simpa [zpc] using h2
    | succ k =>
      have h1 : r[k]? = some (i, n, t) := by simpa using h
      have ih := zchk_get r (pc + n0) hz.2 k i n t h1
      have e : pc + zpc ((i0, n0, t0) :: r) (k + 1) = pc + n0 + zpc r k := by simp [zpc]; omega
      rw [e]
      exact ih
theorem zOK_of {Y : zY} (h : zchk Y.2.1 Y.2.2.2.2 0 Y.2.2.2.2 = true) : zOK Y := fun k i n t hk => by
  have := zchk_get _ 0 h k i n t hk
  simpa using this
def zloc (as : Nat → Nat) (ls : Array Slot) (nL : Nat) (al : List (Option zV)) : Prop := al.length = nL ∧ ls.size = nL ∧ lv_wf ls ∧ ∀ (i : Nat) (v : zV), al[i]? = some (some v) → ls[i]? = some (.val (zcv as v))
def zll (as : Nat → Nat) (al : List (Option zV)) : List (Nat × Value) := (List.range al.length).filterMap (fun i => match al[i]? with | some (some v) => some (i, zcv as v) | _ => none)
theorem zcv_cat (as : Nat → Nat) (v : zV) : (zcv as v).category = 1 := by cases v <;> rfl
theorem zll_mem {as : Nat → Nat} {al : List (Option zV)} {q : Nat × Value} : q ∈ zll as al ↔ ∃ v, al[q.1]? = some (some v) ∧ q.2 = zcv as v := by
  simp only [zll, List.mem_filterMap, List.mem_range]
  constructor
  · rintro ⟨i, hi, h⟩
    split at h
    · rename_i v hv
      cases h
      exact ⟨v, hv, rfl⟩
    · cases h
  · rintro ⟨v, h1, h2⟩
    have hl := (List.getElem?_eq_some_iff.mp h1).1
    exact ⟨q.1, hl, by rw [h1]; show some (q.1, zcv as v) = some q; rw [← h2]⟩
theorem zloc.has {as : Nat → Nat} {ls : Array Slot} {nL : Nat} {al : List (Option zV)} (h : zloc as ls nL al) : lv_has ls nL (zll as al) := ⟨h.2.1, h.2.2.1, fun q hq => by
  obtain ⟨v, h1, h2⟩ := zll_mem.mp hq
  rw [h2]
  exact h.2.2.2 _ _ h1⟩
theorem zloc.put {as : Nat → Nat} {ls ls' : Array Slot} {nL i : Nat} {al : List (Option zV)} {v : zV} (h : zloc as ls nL al) (hi : i < al.length) (h' : lv_has ls' nL ((i, zcv as v) :: (zll as al).filter (fun q => !(q.1 == i) && !(q.1 + 1 == i && q.2.category == 2)))) : zloc as ls' nL (al.set i (some v)) := by
  refine ⟨by simpa using h.1, h'.1, h'.2.1, fun j w hj => ?_⟩
  by_cases e : j = i
  · subst e
    rw [List.getElem?_set_self hi] at hj
    cases hj
    exact h'.2.2 (j, zcv as v) List.mem_cons_self
  · rw [List.getElem?_set_ne (Ne.symm e)] at hj
    refine h'.2.2 (j, zcv as w) (List.mem_cons_of_mem _ (List.mem_filter.mpr ⟨zll_mem.mpr ⟨w, hj, rfl⟩, ?_⟩))
    simp [e, zcv_cat]
def zPost (dC : Nat → ClassId) (dI : Nat → Nat → Nat) (cI cZ : ClassId) (as : Nat → Nat) (r : Option Int32) (M : zMem) : Array Value → State → Outcome → State → Prop := fun _ st o t => o = .returned (r.map Value.int) ∧ va_P (dC, dI) zcl (zW cI cZ as M) t.heap ∧ va_F (zA as st.heap.size) st t
def zCx (p : Program) (R : Room) (s : State) (m : MethodId) (args : Array Value) (meth : Method) (c : Code) (Y : zY) (d : Nat) (dC : Nat → ClassId) (dI : Nat → Nat → Nat) (cI cZ : ClassId) (as : Nat → Nat) : Prop :=
  p.tables.exec = Jvm.exec ∧ c.code = Y.2.1 ∧ c.maxLocals = Y.2.2.1 ∧ meth.sig.returnType = Y.2.2.2.1 ∧ meth.locks = false ∧ s.vm.findClass Y.1.cls = some m.cls ∧ (∀ w ∈ ztbl, w.before args s = true) ∧ va_K (dC, dI) zcl [(cI, .int), (cZ, .boolean)] s ∧ zInj as ∧ d ≤ R.frames ∧ 27 * d ≤ R.locals
/-- from instruction k of Y, with these locals, stack and memory, Y returns r with the memory M' -/
def zGo (Y : zY) (d k : Nat) (al : List (Option zV)) (st : List zV) (M : zMem) (r : Option Int32) (M' : zMem) : Prop :=
  ∀ (p : Program) (l : Launch) (e : Env) (R : Room) (s : State) (m : MethodId) (args : Array Value) (below : List Frame) (meth : Method) (c : Code) (dC : Nat → ClassId) (dI : Nat → Nat → Nat) (cI cZ : ClassId) (as : Nat → Nat) (H : Heap) (locs : List Loc) (ls : Array Slot),
    zCx p R s m args meth c Y d dC dI cI cZ as → va_P (dC, dI) zcl (zW cI cZ as M) H → va_S (zA as s.heap.size) s.heap H locs → zloc as ls Y.2.2.1 al →
    W p l e R s m args below meth c H locs 0 0 (MQ below (zPost dC dI cI cZ as r M') args s 0 0 (zA as s.heap.size)) (F0 m (zpc Y.2.2.2.2 k) ls (st.map (zcv as)))
section GO
variable {Y : zY} {d k t : Nat} {al : List (Option zV)} {st : List zV} {M M' : zMem} {r : Option Int32}
theorem go_iload_n {j : Fin 4} {x : Int32} (hY : zOK Y) (hc : Y.2.2.2.2[k]? = some (.iload_n j, 1, t)) (hv : al[(j : Nat)]? = some (some (.inl x))) (g : zGo Y d (k + 1) al (.inl x :: st) M r M') : zGo Y d k al (st) M r M' := by
  intro p l e R s m args below meth c dC dI cI cZ as H locs ls C hP hS hl
  have hx := C.1
  have hb := C.2.1
  have hd := (hY k _ _ _ hc).1
  have h := g p l e R s m args below meth c dC dI cI cZ as H locs ls C hP hS hl
  rw [zpc_succ hc] at h
  exact lv_iload_n hx hb hd rfl (hl.2.2.2 _ _ hv) h
theorem go_iload {j : Nat} {x : Int32} (hY : zOK Y) (hc : Y.2.2.2.2[k]? = some (.iload j, 2, t)) (hv : al[j]? = some (some (.inl x))) (g : zGo Y d (k + 1) al (.inl x :: st) M r M') : zGo Y d k al (st) M r M' := by
  intro p l e R s m args below meth c dC dI cI cZ as H locs ls C hP hS hl
  have hx := C.1
  have hb := C.2.1
  have hd := (hY k _ _ _ hc).1
  have h := g p l e R s m args below meth c dC dI cI cZ as H locs ls C hP hS hl
  rw [zpc_succ hc] at h
  exact lv_iload hx hb hd (hl.2.2.2 _ _ hv) h
theorem go_aload_n {j : Fin 4} {x : Nat} (hY : zOK Y) (hc : Y.2.2.2.2[k]? = some (.aload_n j, 1, t)) (hv : al[(j : Nat)]? = some (some (.inr x))) (g : zGo Y d (k + 1) al (.inr x :: st) M r M') : zGo Y d k al (st) M r M' := by
  intro p l e R s m args below meth c dC dI cI cZ as H locs ls C hP hS hl
  have hx := C.1
  have hb := C.2.1
  have hd := (hY k _ _ _ hc).1
  have h := g p l e R s m args below meth c dC dI cI cZ as H locs ls C hP hS hl
  rw [zpc_succ hc] at h
  exact lv_aload_n hx hb hd rfl (hl.2.2.2 _ _ hv) h
theorem go_aload {j : Nat} {x : Nat} (hY : zOK Y) (hc : Y.2.2.2.2[k]? = some (.aload j, 2, t)) (hv : al[j]? = some (some (.inr x))) (g : zGo Y d (k + 1) al (.inr x :: st) M r M') : zGo Y d k al (st) M r M' := by
  intro p l e R s m args below meth c dC dI cI cZ as H locs ls C hP hS hl
  have hx := C.1
  have hb := C.2.1
  have hd := (hY k _ _ _ hc).1
  have h := g p l e R s m args below meth c dC dI cI cZ as H locs ls C hP hS hl
  rw [zpc_succ hc] at h
  exact lv_aload hx hb hd (hl.2.2.2 _ _ hv) h
theorem go_iconst {n : Int} {v : Int32} (hY : zOK Y) (hc : Y.2.2.2.2[k]? = some (.iconst n, 1, t)) (hv : Int32.ofInt n = v) (g : zGo Y d (k + 1) al (.inl v :: st) M r M') : zGo Y d k al (st) M r M' := by
  intro p l e R s m args below meth c dC dI cI cZ as H locs ls C hP hS hl
  have hx := C.1
  have hb := C.2.1
  have hd := (hY k _ _ _ hc).1
  have h := g p l e R s m args below meth c dC dI cI cZ as H locs ls C hP hS hl
  rw [zpc_succ hc] at h
  exact lv_iconst hx hb hd hv h
theorem go_bipush {n : Int} {v : Int32} (hY : zOK Y) (hc : Y.2.2.2.2[k]? = some (.bipush n, 2, t)) (hv : (Int8.ofInt n).toInt32 = v) (g : zGo Y d (k + 1) al (.inl v :: st) M r M') : zGo Y d k al (st) M r M' := by
  intro p l e R s m args below meth c dC dI cI cZ as H locs ls C hP hS hl
  have hx := C.1
  have hb := C.2.1
  have hd := (hY k _ _ _ hc).1
  have h := g p l e R s m args below meth c dC dI cI cZ as H locs ls C hP hS hl
  rw [zpc_succ hc] at h
  exact lv_bipush hx hb hd hv h
theorem go_sipush {n : Int} {v : Int32} (hY : zOK Y) (hc : Y.2.2.2.2[k]? = some (.sipush n, 3, t)) (hv : (Int16.ofInt n).toInt32 = v) (g : zGo Y d (k + 1) al (.inl v :: st) M r M') : zGo Y d k al (st) M r M' := by
  intro p l e R s m args below meth c dC dI cI cZ as H locs ls C hP hS hl
  have hx := C.1
  have hb := C.2.1
  have hd := (hY k _ _ _ hc).1
  have h := g p l e R s m args below meth c dC dI cI cZ as H locs ls C hP hS hl
  rw [zpc_succ hc] at h
  exact lv_sipush hx hb hd hv h
theorem go_ldc {n : Nat} {v : Int32} (hY : zOK Y) (hc : Y.2.2.2.2[k]? = some (.ldc n, 2, t)) (hw : Cond.constant Y.1.cls n v ∈ ztbl) (g : zGo Y d (k + 1) al (.inl v :: st) M r M') : zGo Y d k al (st) M r M' := by
  intro p l e R s m args below meth c dC dI cI cZ as H locs ls C hP hS hl
  have hx := C.1
  have hb := C.2.1
  have hd := (hY k _ _ _ hc).1
  have h := g p l e R s m args below meth c dC dI cI cZ as H locs ls C hP hS hl
  rw [zpc_succ hc] at h
  exact lv_ldc hx hb C.2.2.2.2.2.1 (C.2.2.2.2.2.2.1 _ hw) hd h
theorem go_iadd {x y : Int32} (hY : zOK Y) (hc : Y.2.2.2.2[k]? = some (.iadd, 1, t))  (g : zGo Y d (k + 1) al (.inl (x + y) :: st) M r M') : zGo Y d k al (.inl y :: .inl x :: st) M r M' := by
  intro p l e R s m args below meth c dC dI cI cZ as H locs ls C hP hS hl
  have hx := C.1
  have hb := C.2.1
  have hd := (hY k _ _ _ hc).1
  have h := g p l e R s m args below meth c dC dI cI cZ as H locs ls C hP hS hl
  rw [zpc_succ hc] at h
  exact lv_iadd hx hb hd h
theorem go_isub {x y : Int32} (hY : zOK Y) (hc : Y.2.2.2.2[k]? = some (.isub, 1, t))  (g : zGo Y d (k + 1) al (.inl (x - y) :: st) M r M') : zGo Y d k al (.inl y :: .inl x :: st) M r M' := by
  intro p l e R s m args below meth c dC dI cI cZ as H locs ls C hP hS hl
  have hx := C.1
  have hb := C.2.1
  have hd := (hY k _ _ _ hc).1
  have h := g p l e R s m args below meth c dC dI cI cZ as H locs ls C hP hS hl
  rw [zpc_succ hc] at h
  exact lv_isub hx hb hd h
theorem go_imul {x y : Int32} (hY : zOK Y) (hc : Y.2.2.2.2[k]? = some (.imul, 1, t))  (g : zGo Y d (k + 1) al (.inl (x * y) :: st) M r M') : zGo Y d k al (.inl y :: .inl x :: st) M r M' := by
  intro p l e R s m args below meth c dC dI cI cZ as H locs ls C hP hS hl
  have hx := C.1
  have hb := C.2.1
  have hd := (hY k _ _ _ hc).1
  have h := g p l e R s m args below meth c dC dI cI cZ as H locs ls C hP hS hl
  rw [zpc_succ hc] at h
  exact lv_imul hx hb hd h
theorem go_iand {x y : Int32} (hY : zOK Y) (hc : Y.2.2.2.2[k]? = some (.iand, 1, t))  (g : zGo Y d (k + 1) al (.inl (x &&& y) :: st) M r M') : zGo Y d k al (.inl y :: .inl x :: st) M r M' := by
  intro p l e R s m args below meth c dC dI cI cZ as H locs ls C hP hS hl
  have hx := C.1
  have hb := C.2.1
  have hd := (hY k _ _ _ hc).1
  have h := g p l e R s m args below meth c dC dI cI cZ as H locs ls C hP hS hl
  rw [zpc_succ hc] at h
  exact lv_iand hx hb hd h
theorem go_ior {x y : Int32} (hY : zOK Y) (hc : Y.2.2.2.2[k]? = some (.ior, 1, t))  (g : zGo Y d (k + 1) al (.inl (x ||| y) :: st) M r M') : zGo Y d k al (.inl y :: .inl x :: st) M r M' := by
  intro p l e R s m args below meth c dC dI cI cZ as H locs ls C hP hS hl
  have hx := C.1
  have hb := C.2.1
  have hd := (hY k _ _ _ hc).1
  have h := g p l e R s m args below meth c dC dI cI cZ as H locs ls C hP hS hl
  rw [zpc_succ hc] at h
  exact lv_ior hx hb hd h
theorem go_ishl {x y : Int32} (hY : zOK Y) (hc : Y.2.2.2.2[k]? = some (.ishl, 1, t))  (g : zGo Y d (k + 1) al (.inl (x <<< (y &&& 31)) :: st) M r M') : zGo Y d k al (.inl y :: .inl x :: st) M r M' := by
  intro p l e R s m args below meth c dC dI cI cZ as H locs ls C hP hS hl
  have hx := C.1
  have hb := C.2.1
  have hd := (hY k _ _ _ hc).1
  have h := g p l e R s m args below meth c dC dI cI cZ as H locs ls C hP hS hl
  rw [zpc_succ hc] at h
  exact lv_ishl hx hb hd h
theorem go_ishr {x y : Int32} (hY : zOK Y) (hc : Y.2.2.2.2[k]? = some (.ishr, 1, t))  (g : zGo Y d (k + 1) al (.inl (x >>> (y &&& 31)) :: st) M r M') : zGo Y d k al (.inl y :: .inl x :: st) M r M' := by
  intro p l e R s m args below meth c dC dI cI cZ as H locs ls C hP hS hl
  have hx := C.1
  have hb := C.2.1
  have hd := (hY k _ _ _ hc).1
  have h := g p l e R s m args below meth c dC dI cI cZ as H locs ls C hP hS hl
  rw [zpc_succ hc] at h
  exact lv_ishr hx hb hd h
theorem go_idiv {x y : Int32} (hY : zOK Y) (hc : Y.2.2.2.2[k]? = some (.idiv, 1, t)) (hv : ¬ y = 0) (g : zGo Y d (k + 1) al (.inl (x / y) :: st) M r M') : zGo Y d k al (.inl y :: .inl x :: st) M r M' := by
  intro p l e R s m args below meth c dC dI cI cZ as H locs ls C hP hS hl
  have hx := C.1
  have hb := C.2.1
  have hd := (hY k _ _ _ hc).1
  have h := g p l e R s m args below meth c dC dI cI cZ as H locs ls C hP hS hl
  rw [zpc_succ hc] at h
  exact lv_idiv hx hb hd hv h
theorem go_irem {x y : Int32} (hY : zOK Y) (hc : Y.2.2.2.2[k]? = some (.irem, 1, t)) (hv : ¬ y = 0) (g : zGo Y d (k + 1) al (.inl (x - x / y * y) :: st) M r M') : zGo Y d k al (.inl y :: .inl x :: st) M r M' := by
  intro p l e R s m args below meth c dC dI cI cZ as H locs ls C hP hS hl
  have hx := C.1
  have hb := C.2.1
  have hd := (hY k _ _ _ hc).1
  have h := g p l e R s m args below meth c dC dI cI cZ as H locs ls C hP hS hl
  rw [zpc_succ hc] at h
  exact lv_irem hx hb hd hv h
theorem go_ineg {x : Int32} (hY : zOK Y) (hc : Y.2.2.2.2[k]? = some (.ineg, 1, t))  (g : zGo Y d (k + 1) al (.inl (-x) :: st) M r M') : zGo Y d k al (.inl x :: st) M r M' := by
  intro p l e R s m args below meth c dC dI cI cZ as H locs ls C hP hS hl
  have hx := C.1
  have hb := C.2.1
  have hd := (hY k _ _ _ hc).1
  have h := g p l e R s m args below meth c dC dI cI cZ as H locs ls C hP hS hl
  rw [zpc_succ hc] at h
  exact lv_ineg hx hb hd h
theorem go_dup {x : zV} (hY : zOK Y) (hc : Y.2.2.2.2[k]? = some (.dup, 1, t))  (g : zGo Y d (k + 1) al (x :: x :: st) M r M') : zGo Y d k al (x :: st) M r M' := by
  intro p l e R s m args below meth c dC dI cI cZ as H locs ls C hP hS hl
  have hx := C.1
  have hb := C.2.1
  have hd := (hY k _ _ _ hc).1
  have h := g p l e R s m args below meth c dC dI cI cZ as H locs ls C hP hS hl
  rw [zpc_succ hc] at h
  exact lv_dup hx hb hd (zcv_cat as x) h
theorem go_dup2 {x y : zV} (hY : zOK Y) (hc : Y.2.2.2.2[k]? = some (.dup2, 1, t))  (g : zGo Y d (k + 1) al (x :: y :: x :: y :: st) M r M') : zGo Y d k al (x :: y :: st) M r M' := by
  intro p l e R s m args below meth c dC dI cI cZ as H locs ls C hP hS hl
  have hx := C.1
  have hb := C.2.1
  have hd := (hY k _ _ _ hc).1
  have h := g p l e R s m args below meth c dC dI cI cZ as H locs ls C hP hS hl
  rw [zpc_succ hc] at h
  exact lv_dup2_11 hx hb hd (zcv_cat as x) (zcv_cat as y) h
theorem go_pop {x : zV} (hY : zOK Y) (hc : Y.2.2.2.2[k]? = some (.pop, 1, t))  (g : zGo Y d (k + 1) al (st) M r M') : zGo Y d k al (x :: st) M r M' := by
  intro p l e R s m args below meth c dC dI cI cZ as H locs ls C hP hS hl
  have hx := C.1
  have hb := C.2.1
  have hd := (hY k _ _ _ hc).1
  have h := g p l e R s m args below meth c dC dI cI cZ as H locs ls C hP hS hl
  rw [zpc_succ hc] at h
  exact lv_pop hx hb hd (zcv_cat as x) h
theorem go_istore_n {j : Fin 4} {x : Int32} (hY : zOK Y) (hc : Y.2.2.2.2[k]? = some (.istore_n j, 1, t)) (hj : (j : Nat) < al.length) (g : zGo Y d (k + 1) (al.set (j : Nat) (some (.inl x))) st M r M') : zGo Y d k al (.inl x :: st) M r M' := by
  intro p l e R s m args below meth c dC dI cI cZ as H locs ls C hP hS hl
  have hx := C.1
  have hb := C.2.1
  have hd := (hY k _ _ _ hc).1
  refine lv_istore_n hx hb hd rfl hl.has (by rw [← hl.1]; exact hj) rfl (fun ls' hl' => ?_)
  have h := g p l e R s m args below meth c dC dI cI cZ as H locs ls' C hP hS (hl.put (v := .inl x) hj hl')
  rw [zpc_succ hc] at h
  exact h
theorem go_istore {j : Nat} {x : Int32} (hY : zOK Y) (hc : Y.2.2.2.2[k]? = some (.istore j, 2, t)) (hj : (j : Nat) < al.length) (g : zGo Y d (k + 1) (al.set (j : Nat) (some (.inl x))) st M r M') : zGo Y d k al (.inl x :: st) M r M' := by
  intro p l e R s m args below meth c dC dI cI cZ as H locs ls C hP hS hl
  have hx := C.1
  have hb := C.2.1
  have hd := (hY k _ _ _ hc).1
  refine lv_istore hx hb hd hl.has (by rw [← hl.1]; exact hj) rfl (fun ls' hl' => ?_)
  have h := g p l e R s m args below meth c dC dI cI cZ as H locs ls' C hP hS (hl.put (v := .inl x) hj hl')
  rw [zpc_succ hc] at h
  exact h
theorem go_iinc {j : Nat} {n : Int} {x v : Int32} (hY : zOK Y) (hc : Y.2.2.2.2[k]? = some (.iinc j n, 3, t)) (hv : al[j]? = some (some (.inl x))) (he : x + Int32.ofInt n = v) (g : zGo Y d (k + 1) (al.set j (some (.inl v))) st M r M') : zGo Y d k al st M r M' := by
  intro p l e R s m args below meth c dC dI cI cZ as H locs ls C hP hS hl
  have hx := C.1
  have hb := C.2.1
  have hd := (hY k _ _ _ hc).1
  have hj : j < al.length := (List.getElem?_eq_some_iff.mp hv).1
  obtain ⟨q, hq⟩ := List.getElem?_of_mem (zll_mem (as := as) (q := (j, zcv as (.inl x))) |>.mpr ⟨.inl x, hv, rfl⟩)
  refine lv_iinc hx hb hd hl.has hq he (by rw [← hl.1]; exact hj) rfl (fun ls' hl' => ?_)
  have h := g p l e R s m args below meth c dC dI cI cZ as H locs ls' C hP hS (hl.put (v := .inl v) hj hl')
  rw [zpc_succ hc] at h
  exact h
theorem go_goto {off : Int} (hY : zOK Y) (hc : Y.2.2.2.2[k]? = some (.goto off, 3, t)) (g : zGo Y d t al st M r M') : zGo Y d k al st M r M' := by
  intro p l e R s m args below meth c dC dI cI cZ as H locs ls C hP hS hl
  have hx := C.1
  have hb := C.2.1
  have hd := (hY k _ _ _ hc).1
  exact lv_goto hx hb hd ((hY k _ _ _ hc).2 off rfl) (g p l e R s m args below meth c dC dI cI cZ as H locs ls C hP hS hl)
theorem go_icmp_eq {x y : Int32} {off : Int} (hY : zOK Y) (hc : Y.2.2.2.2[k]? = some (.if_icmp .eq off, 3, t)) (gt : x = y → zGo Y d t al st M r M') (gf : ¬ x = y → zGo Y d (k + 1) al st M r M') : zGo Y d k al (.inl y :: .inl x :: st) M r M' := by
  intro p l e R s m args below meth c dC dI cI cZ as H locs ls C hP hS hl
  have hx := C.1
  have hb := C.2.1
  have hd := (hY k _ _ _ hc).1
  refine lv_icmp_eq hx hb hd ((hY k _ _ _ hc).2 off rfl) (fun q => gt q p l e R s m args below meth c dC dI cI cZ as H locs ls C hP hS hl) (fun q => ?_)
  have h := gf q p l e R s m args below meth c dC dI cI cZ as H locs ls C hP hS hl
  rw [zpc_succ hc] at h
  exact h
theorem go_if_eq {x : Int32} {off : Int} (hY : zOK Y) (hc : Y.2.2.2.2[k]? = some (.ifCond .eq off, 3, t)) (gt : x = 0 → zGo Y d t al st M r M') (gf : ¬ x = 0 → zGo Y d (k + 1) al st M r M') : zGo Y d k al (.inl x :: st) M r M' := by
  intro p l e R s m args below meth c dC dI cI cZ as H locs ls C hP hS hl
  have hx := C.1
  have hb := C.2.1
  have hd := (hY k _ _ _ hc).1
  refine lv_if_eq hx hb hd ((hY k _ _ _ hc).2 off rfl) (fun q => gt q p l e R s m args below meth c dC dI cI cZ as H locs ls C hP hS hl) (fun q => ?_)
  have h := gf q p l e R s m args below meth c dC dI cI cZ as H locs ls C hP hS hl
  rw [zpc_succ hc] at h
  exact h
theorem go_icmp_ne {x y : Int32} {off : Int} (hY : zOK Y) (hc : Y.2.2.2.2[k]? = some (.if_icmp .ne off, 3, t)) (gt : ¬ x = y → zGo Y d t al st M r M') (gf : x = y → zGo Y d (k + 1) al st M r M') : zGo Y d k al (.inl y :: .inl x :: st) M r M' := by
  intro p l e R s m args below meth c dC dI cI cZ as H locs ls C hP hS hl
  have hx := C.1
  have hb := C.2.1
  have hd := (hY k _ _ _ hc).1
  refine lv_icmp_ne hx hb hd ((hY k _ _ _ hc).2 off rfl) (fun q => gt q p l e R s m args below meth c dC dI cI cZ as H locs ls C hP hS hl) (fun q => ?_)
  have h := gf q p l e R s m args below meth c dC dI cI cZ as H locs ls C hP hS hl
  rw [zpc_succ hc] at h
  exact h
theorem go_if_ne {x : Int32} {off : Int} (hY : zOK Y) (hc : Y.2.2.2.2[k]? = some (.ifCond .ne off, 3, t)) (gt : ¬ x = 0 → zGo Y d t al st M r M') (gf : x = 0 → zGo Y d (k + 1) al st M r M') : zGo Y d k al (.inl x :: st) M r M' := by
  intro p l e R s m args below meth c dC dI cI cZ as H locs ls C hP hS hl
  have hx := C.1
  have hb := C.2.1
  have hd := (hY k _ _ _ hc).1
  refine lv_if_ne hx hb hd ((hY k _ _ _ hc).2 off rfl) (fun q => gt q p l e R s m args below meth c dC dI cI cZ as H locs ls C hP hS hl) (fun q => ?_)
  have h := gf q p l e R s m args below meth c dC dI cI cZ as H locs ls C hP hS hl
  rw [zpc_succ hc] at h
  exact h
theorem go_icmp_lt {x y : Int32} {off : Int} (hY : zOK Y) (hc : Y.2.2.2.2[k]? = some (.if_icmp .lt off, 3, t)) (gt : x < y → zGo Y d t al st M r M') (gf : ¬ x < y → zGo Y d (k + 1) al st M r M') : zGo Y d k al (.inl y :: .inl x :: st) M r M' := by
  intro p l e R s m args below meth c dC dI cI cZ as H locs ls C hP hS hl
  have hx := C.1
  have hb := C.2.1
  have hd := (hY k _ _ _ hc).1
  refine lv_icmp_lt hx hb hd ((hY k _ _ _ hc).2 off rfl) (fun q => gt q p l e R s m args below meth c dC dI cI cZ as H locs ls C hP hS hl) (fun q => ?_)
  have h := gf q p l e R s m args below meth c dC dI cI cZ as H locs ls C hP hS hl
  rw [zpc_succ hc] at h
  exact h
theorem go_if_lt {x : Int32} {off : Int} (hY : zOK Y) (hc : Y.2.2.2.2[k]? = some (.ifCond .lt off, 3, t)) (gt : x < 0 → zGo Y d t al st M r M') (gf : ¬ x < 0 → zGo Y d (k + 1) al st M r M') : zGo Y d k al (.inl x :: st) M r M' := by
  intro p l e R s m args below meth c dC dI cI cZ as H locs ls C hP hS hl
  have hx := C.1
  have hb := C.2.1
  have hd := (hY k _ _ _ hc).1
  refine lv_if_lt hx hb hd ((hY k _ _ _ hc).2 off rfl) (fun q => gt q p l e R s m args below meth c dC dI cI cZ as H locs ls C hP hS hl) (fun q => ?_)
  have h := gf q p l e R s m args below meth c dC dI cI cZ as H locs ls C hP hS hl
  rw [zpc_succ hc] at h
  exact h
theorem go_icmp_ge {x y : Int32} {off : Int} (hY : zOK Y) (hc : Y.2.2.2.2[k]? = some (.if_icmp .ge off, 3, t)) (gt : y ≤ x → zGo Y d t al st M r M') (gf : ¬ y ≤ x → zGo Y d (k + 1) al st M r M') : zGo Y d k al (.inl y :: .inl x :: st) M r M' := by
  intro p l e R s m args below meth c dC dI cI cZ as H locs ls C hP hS hl
  have hx := C.1
  have hb := C.2.1
  have hd := (hY k _ _ _ hc).1
  refine lv_icmp_ge hx hb hd ((hY k _ _ _ hc).2 off rfl) (fun q => gt q p l e R s m args below meth c dC dI cI cZ as H locs ls C hP hS hl) (fun q => ?_)
  have h := gf q p l e R s m args below meth c dC dI cI cZ as H locs ls C hP hS hl
  rw [zpc_succ hc] at h
  exact h
theorem go_if_ge {x : Int32} {off : Int} (hY : zOK Y) (hc : Y.2.2.2.2[k]? = some (.ifCond .ge off, 3, t)) (gt : 0 ≤ x → zGo Y d t al st M r M') (gf : ¬ 0 ≤ x → zGo Y d (k + 1) al st M r M') : zGo Y d k al (.inl x :: st) M r M' := by
  intro p l e R s m args below meth c dC dI cI cZ as H locs ls C hP hS hl
  have hx := C.1
  have hb := C.2.1
  have hd := (hY k _ _ _ hc).1
  refine lv_if_ge hx hb hd ((hY k _ _ _ hc).2 off rfl) (fun q => gt q p l e R s m args below meth c dC dI cI cZ as H locs ls C hP hS hl) (fun q => ?_)
  have h := gf q p l e R s m args below meth c dC dI cI cZ as H locs ls C hP hS hl
  rw [zpc_succ hc] at h
  exact h
theorem go_icmp_gt {x y : Int32} {off : Int} (hY : zOK Y) (hc : Y.2.2.2.2[k]? = some (.if_icmp .gt off, 3, t)) (gt : y < x → zGo Y d t al st M r M') (gf : ¬ y < x → zGo Y d (k + 1) al st M r M') : zGo Y d k al (.inl y :: .inl x :: st) M r M' := by
  intro p l e R s m args below meth c dC dI cI cZ as H locs ls C hP hS hl
  have hx := C.1
  have hb := C.2.1
  have hd := (hY k _ _ _ hc).1
  refine lv_icmp_gt hx hb hd ((hY k _ _ _ hc).2 off rfl) (fun q => gt q p l e R s m args below meth c dC dI cI cZ as H locs ls C hP hS hl) (fun q => ?_)
  have h := gf q p l e R s m args below meth c dC dI cI cZ as H locs ls C hP hS hl
  rw [zpc_succ hc] at h
  exact h
theorem go_if_gt {x : Int32} {off : Int} (hY : zOK Y) (hc : Y.2.2.2.2[k]? = some (.ifCond .gt off, 3, t)) (gt : 0 < x → zGo Y d t al st M r M') (gf : ¬ 0 < x → zGo Y d (k + 1) al st M r M') : zGo Y d k al (.inl x :: st) M r M' := by
  intro p l e R s m args below meth c dC dI cI cZ as H locs ls C hP hS hl
  have hx := C.1
  have hb := C.2.1
  have hd := (hY k _ _ _ hc).1
  refine lv_if_gt hx hb hd ((hY k _ _ _ hc).2 off rfl) (fun q => gt q p l e R s m args below meth c dC dI cI cZ as H locs ls C hP hS hl) (fun q => ?_)
  have h := gf q p l e R s m args below meth c dC dI cI cZ as H locs ls C hP hS hl
  rw [zpc_succ hc] at h
  exact h
theorem go_icmp_le {x y : Int32} {off : Int} (hY : zOK Y) (hc : Y.2.2.2.2[k]? = some (.if_icmp .le off, 3, t)) (gt : x ≤ y → zGo Y d t al st M r M') (gf : ¬ x ≤ y → zGo Y d (k + 1) al st M r M') : zGo Y d k al (.inl y :: .inl x :: st) M r M' := by
  intro p l e R s m args below meth c dC dI cI cZ as H locs ls C hP hS hl
  have hx := C.1
  have hb := C.2.1
  have hd := (hY k _ _ _ hc).1
  refine lv_icmp_le hx hb hd ((hY k _ _ _ hc).2 off rfl) (fun q => gt q p l e R s m args below meth c dC dI cI cZ as H locs ls C hP hS hl) (fun q => ?_)
  have h := gf q p l e R s m args below meth c dC dI cI cZ as H locs ls C hP hS hl
  rw [zpc_succ hc] at h
  exact h
theorem go_if_le {x : Int32} {off : Int} (hY : zOK Y) (hc : Y.2.2.2.2[k]? = some (.ifCond .le off, 3, t)) (gt : x ≤ 0 → zGo Y d t al st M r M') (gf : ¬ x ≤ 0 → zGo Y d (k + 1) al st M r M') : zGo Y d k al (.inl x :: st) M r M' := by
  intro p l e R s m args below meth c dC dI cI cZ as H locs ls C hP hS hl
  have hx := C.1
  have hb := C.2.1
  have hd := (hY k _ _ _ hc).1
  refine lv_if_le hx hb hd ((hY k _ _ _ hc).2 off rfl) (fun q => gt q p l e R s m args below meth c dC dI cI cZ as H locs ls C hP hS hl) (fun q => ?_)
  have h := gf q p l e R s m args below meth c dC dI cI cZ as H locs ls C hP hS hl
  rw [zpc_succ hc] at h
  exact h
end GO
end
section
/-! fields, arrays, returns, calls, switches -/
/-- a field that holds a number: by the own class and the pool's number, the object o and its place j -/
def zFI (own : String) (idx o j : Nat) (ty : FieldType) : Prop := ∃ (ci : Nat) (fs : List (Option Nat)) (C : String) (T : u_T) (N : Nat), zL[o]? = some (.inr (ci, fs)) ∧ zcl[ci]? = some (C, T, N) ∧ j < N ∧ fs[j]? = some none ∧ Cond.fieldLink own idx (T j).1 (T j).2.1 (T j).2.2.1 ∈ ztbl ∧ (T j).2.2.2 = false ∧ parseFieldDescriptor (T j).2.2.1 = some ty
/-- a field that holds the cell i -/
def zFR (own : String) (idx o j i : Nat) : Prop := ∃ (ci : Nat) (fs : List (Option Nat)) (C : String) (T : u_T) (N : Nat), zL[o]? = some (.inr (ci, fs)) ∧ zcl[ci]? = some (C, T, N) ∧ j < N ∧ fs[j]? = some (some i) ∧ Cond.fieldLink own idx (T j).1 (T j).2.1 (T j).2.2.1 ∈ ztbl
def zsw : Instr → Int32 → Option Int
  | .tableswitch dflt lo hi offs, x => if x.toInt < lo ∨ hi < x.toInt then some dflt else offs[(x.toInt - lo).toNat]?
  | .lookupswitch dflt ps, x => if (ps.toList.zip (ps.toList.drop 1)).all (fun (a, next) => a.1 < next.1) = true then some (Op.lookupswitch.offset ps.toList dflt x.toInt) else none
  | _, _ => none
theorem zsum (as : Nat → Nat) : ∀ st : List zV, ((st.map (zcv as)).map fun v => v.category).sum = st.length
  | [] => rfl
  | a :: q => by
    have ih := zsum as q
    simp only [List.map_cons, List.sum_cons, List.length_cons, zcv_cat]
    rw [ih]; omega
section GO2
variable {Y : zY} {d k t : Nat} {al : List (Option zV)} {st : List zV} {M M' : zMem} {r : Option Int32}
theorem go_getI {o j idx : Nat} {ty : FieldType} (hY : zOK Y) (hc : Y.2.2.2.2[k]? = some (.getfield idx, 3, t)) (hF : zFI Y.1.cls idx o j ty) (g : zGo Y d (k + 1) al (.inl (M o j) :: st) M r M') : zGo Y d k al (.inr o :: st) M r M' := by
  intro p l e R s m args below meth c dC dI cI cZ as H locs ls C hP hS hl
  have hd := (hY k _ _ _ hc).1
  obtain ⟨ci, fs, C', T, N, h1, h2, h3, h4, h5, h6, h7⟩ := hF
  have h := g p l e R s m args below meth c dC dI cI cZ as H locs ls C hP hS hl
  rw [zpc_succ hc] at h
  have hv : (fs.mapIdx (fun j o' => zfl as (M o) j o'))[j]? = some (.int (M o j)) := by rw [List.getElem?_mapIdx, h4]; rfl
  exact va_get C.1 C.2.1 C.2.2.2.2.2.2.1 (zcl_ok ci C' T N h2).1 C.2.2.2.2.2.1 C.2.2.2.2.2.2.2.1 hP o (zW_get h1) h2 j h3 (C.2.2.2.2.2.2.1 _ h5) (fun _ h9 => h9) hv hd h
theorem go_getR {o j idx i : Nat} (hY : zOK Y) (hc : Y.2.2.2.2[k]? = some (.getfield idx, 3, t)) (hF : zFR Y.1.cls idx o j i) (g : zGo Y d (k + 1) al (.inr i :: st) M r M') : zGo Y d k al (.inr o :: st) M r M' := by
  intro p l e R s m args below meth c dC dI cI cZ as H locs ls C hP hS hl
  have hd := (hY k _ _ _ hc).1
  obtain ⟨ci, fs, C', T, N, h1, h2, h3, h4, h5⟩ := hF
  have h := g p l e R s m args below meth c dC dI cI cZ as H locs ls C hP hS hl
  rw [zpc_succ hc] at h
  have hv : (fs.mapIdx (fun j o' => zfl as (M o) j o'))[j]? = some (.ref (as i)) := by rw [List.getElem?_mapIdx, h4]; rfl
  exact va_get C.1 C.2.1 C.2.2.2.2.2.2.1 (zcl_ok ci C' T N h2).1 C.2.2.2.2.2.1 C.2.2.2.2.2.2.2.1 hP o (zW_get h1) h2 j h3 (C.2.2.2.2.2.2.1 _ h5) (fun _ h9 => h9) hv hd h
theorem go_putN {o j idx : Nat} {ty : FieldType} {x : Int32} (hY : zOK Y) (hc : Y.2.2.2.2[k]? = some (.putfield idx, 3, t)) (hF : zFI Y.1.cls idx o j ty) (hn : narrow ty (.int x) = .int x) (hf : fits ty (.int x) = true) (g : zGo Y d (k + 1) al st (zup M o j x) r M') : zGo Y d k al (.inl x :: .inr o :: st) M r M' := by
  intro p l e R s m args below meth c dC dI cI cZ as H locs ls C hP hS hl
  have hd := (hY k _ _ _ hc).1
  obtain ⟨ci, fs, C', T, N, h1, h2, h3, h4, h5, h6, h7⟩ := hF
  obtain ⟨k1, k2, k3⟩ := zcl_ok ci C' T N h2
  have hlen : j < (fs.mapIdx (fun j o' => zfl as (M o) j o')).length := by
    have := (List.getElem?_eq_some_iff.mp h4).1
    simpa using this
  refine va_put C.1 C.2.1 C.2.2.2.2.2.2.1 k1 (zTy ci) k2 k3 C.2.2.2.2.2.1 C.2.2.2.2.2.2.2.1 hP (zW_D C.2.2.2.2.2.2.2.2.1) hS o (zW_get h1) h2 j h3 (C.2.2.2.2.2.2.1 _ h5) (fun _ h9 => h9) h6 h7 hn hf hlen hd (fun H1 locs1 hP1 hD1 hS1 => ?_)
  have hP1 : va_P (dC, dI) zcl ((zW cI cZ as M).set o (as o, .inr (ci, (fs.mapIdx (fun j o' => zfl as (M o) j o')).set j (.int x)))) H1 := hP1
  rw [zW_fld h1 h4] at hP1
  have h := g p l e R s m args below meth c dC dI cI cZ as H1 locs1 ls C hP1 hS1 hl
  rw [zpc_succ hc] at h
  exact h
theorem go_putI {o j idx : Nat} {x : Int32} (hY : zOK Y) (hc : Y.2.2.2.2[k]? = some (.putfield idx, 3, t)) (hF : zFI Y.1.cls idx o j .int) (g : zGo Y d (k + 1) al st (zup M o j x) r M') : zGo Y d k al (.inl x :: .inr o :: st) M r M' := go_putN hY hc hF rfl rfl g
theorem z01 {x : Int32} (h : x = 0 ∨ x = 1) : narrow .boolean (.int x) = .int x ∧ fits .boolean (.int x) = true ∧ vp_nar .boolean x = x := by
  rcases h with rfl | rfl <;> exact ⟨by decide, by decide, by decide⟩
theorem go_putZ {o j idx : Nat} {x : Int32} (hY : zOK Y) (hc : Y.2.2.2.2[k]? = some (.putfield idx, 3, t)) (hF : zFI Y.1.cls idx o j .boolean) (hx : x = 0 ∨ x = 1) (g : zGo Y d (k + 1) al st (zup M o j x) r M') : zGo Y d k al (.inl x :: .inr o :: st) M r M' := go_putN hY hc hF (z01 hx).1 (z01 hx).2.1 g
theorem go_iald {a n : Nat} {i : Int32} (hY : zOK Y) (hc : Y.2.2.2.2[k]? = some (.iaload, 1, t)) (ha : zL[a]? = some (.inl (false, n))) (hin : vp_in i n) (g : zGo Y d (k + 1) al (.inl (M a i.toNatClampNeg) :: st) M r M') : zGo Y d k al (.inl i :: .inr a :: st) M r M' := by
  intro p l e R s m args below meth c dC dI cI cZ as H locs ls C hP hS hl
  have h := g p l e R s m args below meth c dC dI cI cZ as H locs ls C hP hS hl
  rw [zpc_succ hc] at h
  exact va_iald C.1 C.2.1 C.2.2.2.2.2.2.2.1 hP a 0 (zW_get ha) rfl hin (hY k _ _ _ hc).1 h
theorem go_zald {a n : Nat} {i : Int32} (hY : zOK Y) (hc : Y.2.2.2.2[k]? = some (.baload, 1, t)) (ha : zL[a]? = some (.inl (true, n))) (hin : vp_in i n) (g : zGo Y d (k + 1) al (.inl (M a i.toNatClampNeg) :: st) M r M') : zGo Y d k al (.inl i :: .inr a :: st) M r M' := by
  intro p l e R s m args below meth c dC dI cI cZ as H locs ls C hP hS hl
  have h := g p l e R s m args below meth c dC dI cI cZ as H locs ls C hP hS hl
  rw [zpc_succ hc] at h
  exact va_zald C.1 C.2.1 C.2.2.2.2.2.2.2.1 hP a 1 (zW_get ha) rfl hin (hY k _ _ _ hc).1 h
theorem go_iast {a n : Nat} {i x : Int32} (hY : zOK Y) (hc : Y.2.2.2.2[k]? = some (.iastore, 1, t)) (ha : zL[a]? = some (.inl (false, n))) (hin : vp_in i n) (g : zGo Y d (k + 1) al st (zup M a i.toNatClampNeg x) r M') : zGo Y d k al (.inl x :: .inl i :: .inr a :: st) M r M' := by
  intro p l e R s m args below meth c dC dI cI cZ as H locs ls C hP hS hl
  refine va_iast C.1 C.2.1 C.2.2.2.2.2.2.2.1 hP (zW_D C.2.2.2.2.2.2.2.2.1) hS a 0 (zW_get ha) rfl hin (hY k _ _ _ hc).1 (fun H1 locs1 hP1 hD1 hS1 => ?_)
  have e1 := zW_arr (cI := cI) (cZ := cZ) (as := as) (M := M) (k := i.toNatClampNeg) (v := x) ha
  have hP1 : va_P (dC, dI) zcl ((zW cI cZ as M).set a (as a, .inl (if false = true then cZ else cI, n, .inl (upd (M a) i.toNatClampNeg x)))) H1 := hP1
  rw [e1] at hP1
  have h := g p l e R s m args below meth c dC dI cI cZ as H1 locs1 ls C hP1 hS1 hl
  rw [zpc_succ hc] at h
  exact h
theorem go_zast {a n : Nat} {i x : Int32} (hY : zOK Y) (hc : Y.2.2.2.2[k]? = some (.bastore, 1, t)) (ha : zL[a]? = some (.inl (true, n))) (hin : vp_in i n) (hx01 : x = 0 ∨ x = 1) (g : zGo Y d (k + 1) al st (zup M a i.toNatClampNeg x) r M') : zGo Y d k al (.inl x :: .inl i :: .inr a :: st) M r M' := by
  intro p l e R s m args below meth c dC dI cI cZ as H locs ls C hP hS hl
  refine va_zast C.1 C.2.1 C.2.2.2.2.2.2.2.1 hP (zW_D C.2.2.2.2.2.2.2.2.1) hS a 1 (zW_get ha) rfl hin (hY k _ _ _ hc).1 (fun H1 locs1 hP1 hD1 hS1 => ?_)
  have e1 := zW_arr (cI := cI) (cZ := cZ) (as := as) (M := M) (k := i.toNatClampNeg) (v := x) ha
  rw [(z01 hx01).2.2] at hP1
  have hP1 : va_P (dC, dI) zcl ((zW cI cZ as M).set a (as a, .inl (if true = true then cZ else cI, n, .inl (upd (M a) i.toNatClampNeg x)))) H1 := hP1
  rw [e1] at hP1
  have h := g p l e R s m args below meth c dC dI cI cZ as H1 locs1 ls C hP1 hS1 hl
  rw [zpc_succ hc] at h
  exact h
theorem go_alen {a n : Nat} {b : Bool} {v : Int32} (hY : zOK Y) (hc : Y.2.2.2.2[k]? = some (.arraylength, 1, t)) (ha : zL[a]? = some (.inl (b, n))) (hv : Int32.ofNat n = v) (g : zGo Y d (k + 1) al (.inl v :: st) M r M') : zGo Y d k al (.inr a :: st) M r M' := by
  intro p l e R s m args below meth c dC dI cI cZ as H locs ls C hP hS hl
  have h := g p l e R s m args below meth c dC dI cI cZ as H locs ls C hP hS hl
  rw [zpc_succ hc] at h
  cases b with
  | false => exact va_alen C.1 C.2.1 C.2.2.2.2.2.2.2.1 hP a 0 (zW_get ha) rfl hv (hY k _ _ _ hc).1 h
  | true => exact va_alen C.1 C.2.1 C.2.2.2.2.2.2.2.1 hP a 1 (zW_get ha) rfl hv (hY k _ _ _ hc).1 h
theorem go_ireturn {x : Int32} (hY : zOK Y) (hc : Y.2.2.2.2[k]? = some (.ireturn, 1, t)) (hr : Y.2.2.2.1 = some .int) : zGo Y d k al [.inl x] M (some x) M := by
  intro p l e R s m args below meth c dC dI cI cZ as H locs ls C hP hS hl
  exact W.iret C.1 C.2.1 (C.2.2.2.1.trans hr) (fun T hT hW => ⟨rfl, by rw [hT]; exact hP, hS.F hT⟩) hS.2.2 (hY k _ _ _ hc).1 C.2.2.2.2.1
theorem go_zreturn {x : Int32} (hY : zOK Y) (hc : Y.2.2.2.2[k]? = some (.ireturn, 1, t)) (hr : Y.2.2.2.1 = some .boolean) (hx : x = 0 ∨ x = 1) : zGo Y d k al [.inl x] M (some x) M := by
  intro p l e R s m args below meth c dC dI cI cZ as H locs ls C hP hS hl
  exact W.zret C.1 C.2.1 (C.2.2.2.1.trans hr) (z01 hx).1 (fun T hT hW => ⟨rfl, by rw [hT]; exact hP, hS.F hT⟩) hS.2.2 (hY k _ _ _ hc).1 C.2.2.2.2.1
theorem go_return (hY : zOK Y) (hc : Y.2.2.2.2[k]? = some (.return_, 1, t)) (hr : Y.2.2.2.1 = none) : zGo Y d k al [] M none M := by
  intro p l e R s m args below meth c dC dI cI cZ as H locs ls C hP hS hl
  exact W.vret C.1 C.2.1 (C.2.2.2.1.trans hr) (fun T hT hW => ⟨rfl, by rw [hT]; exact hP, hS.F hT⟩) hS.2.2 (hY k _ _ _ hc).1 C.2.2.2.2.1
theorem go_switch {i : Instr} {n k' : Nat} {x : Int32} {off : Int} (hY : zOK Y) (hc : Y.2.2.2.2[k]? = some (i, n, t)) (hs : zsw i x = some off) (ht : ((zpc Y.2.2.2.2 k : Nat) : Int) + off = ((zpc Y.2.2.2.2 k' : Nat) : Int)) (g : zGo Y d k' al st M r M') : zGo Y d k al (.inl x :: st) M r M' := by
  intro p l e R s m args below meth c dC dI cI cZ as H locs ls C hP hS hl
  have h := g p l e R s m args below meth c dC dI cI cZ as H locs ls C hP hS hl
  have hd := (hY k _ _ _ hc).1
  cases i <;> simp only [zsw] at hs <;> first | (cases hs; done) | skip
  · split at hs
    · rename_i hp
      cases hs
      exact lv_lookup C.1 C.2.1 hd hp rfl ht h
    · cases hs
  · split at hs
    · rename_i hp
      cases hs
      exact lv_tableOut C.1 C.2.1 hd hp ht h
    · rename_i hp
      exact lv_tableIn C.1 C.2.1 hd (fun q => hp (Or.inl q)) (fun q => hp (Or.inr q)) hs ht h
theorem go_max {idx : Nat} {x y : Int32} (hY : zOK Y) (hc : Y.2.2.2.2[k]? = some (.invokestatic idx, 3, t)) (hw : Cond.methodLink Y.1.cls idx Lib.Math.max.name ∈ ztbl ∧ Cond.static Lib.Math.max.name ∈ ztbl ∧ Cond.initialized "java/lang/Math" ∈ ztbl ∧ Cond.code Lib.Math.max.name Lib.Math.max.code 2 (some .int) ∈ ztbl) (hd1 : 1 ≤ d) (hst : st.length ≤ 8) (g : zGo Y d (k + 1) al (.inl (if x < y then y else x) :: st) M r M') : zGo Y d k al (.inl y :: .inl x :: st) M r M' := by
  intro p l e R s m args below meth c dC dI cI cZ as H locs ls C hP hS hl
  have h := g p l e R s m args below meth c dC dI cI cZ as H locs ls C hP hS hl
  rw [zpc_succ hc] at h
  obtain ⟨w1, w2, w3, w4⟩ := hw
  have hT := C.2.2.2.2.2.2.1
  have hsum := zsum as st
  exact va_mmax C.1 C.2.1 (C.2.2.1.trans hl.2.1.symm) C.2.2.2.2.2.1 (hT _ w1) (hT _ w2) (hT _ w3) (hT _ w4) (Nat.le_trans hd1 C.2.2.2.2.2.2.2.2.2.1) (by have := C.2.2.2.2.2.2.2.2.2.2; rw [hsum]; omega) (Nat.zero_le _) (Nat.zero_le _) (hY k _ _ _ hc).1 h
theorem go_min {idx : Nat} {x y : Int32} (hY : zOK Y) (hc : Y.2.2.2.2[k]? = some (.invokestatic idx, 3, t)) (hw : Cond.methodLink Y.1.cls idx Lib.Math.min.name ∈ ztbl ∧ Cond.static Lib.Math.min.name ∈ ztbl ∧ Cond.initialized "java/lang/Math" ∈ ztbl ∧ Cond.code Lib.Math.min.name Lib.Math.min.code 2 (some .int) ∈ ztbl) (hd1 : 1 ≤ d) (hst : st.length ≤ 8) (g : zGo Y d (k + 1) al (.inl (if y < x then y else x) :: st) M r M') : zGo Y d k al (.inl y :: .inl x :: st) M r M' := by
  intro p l e R s m args below meth c dC dI cI cZ as H locs ls C hP hS hl
  have h := g p l e R s m args below meth c dC dI cI cZ as H locs ls C hP hS hl
  rw [zpc_succ hc] at h
  obtain ⟨w1, w2, w3, w4⟩ := hw
  have hT := C.2.2.2.2.2.2.1
  have hsum := zsum as st
  exact va_mmin C.1 C.2.1 (C.2.2.1.trans hl.2.1.symm) C.2.2.2.2.2.1 (hT _ w1) (hT _ w2) (hT _ w3) (hT _ w4) (Nat.le_trans hd1 C.2.2.2.2.2.2.2.2.2.1) (by have := C.2.2.2.2.2.2.2.2.2.2; rw [hsum]; omega) (Nat.zero_le _) (Nat.zero_le _) (hY k _ _ _ hc).1 h
end GO2
/-! ===== calls ===== -/
def zws (Y : zY) : List Cond := Cond.code Y.1 Y.2.1 Y.2.2.1 Y.2.2.2.1 :: ztbl
def zal (Y : zY) (av : List zV) : List (Option zV) := av.map some ++ List.replicate (Y.2.2.1 - av.length) none
def zPre (dC : Nat → ClassId) (dI : Nat → Nat → Nat) (cI cZ : ClassId) (as : Nat → Nat) (sz : Nat) (M : zMem) (av : List zV) : Array Value → State → Prop := va_Pc (av.map (zcv as)) (fun U => U.heap.size = sz ∧ va_P (dC, dI) zcl (zW cI cZ as M) U.heap ∧ va_K (dC, dI) zcl [(cI, .int), (cZ, .boolean)] U)
theorem zargs : ∀ (vs : List Value) (b i : Nat) (v : Value), (∀ w ∈ vs, w.category = 1) → vs[i]? = some v → (b + i, v) ∈ lv_args b vs
  | [], b, i, v, _, h => by simp at h
  | a :: q, b, 0, v, hc, h => by simp at h; subst h; simp [lv_args]
  | a :: q, b, i + 1, v, hc, h => by
    have h1 : q[i]? = some v := by simpa using h
    have ha : ¬ a.category = 2 := by have := hc a List.mem_cons_self; omega
    have := zargs q (b + 1) i v (fun w hw => hc w (List.mem_cons_of_mem _ hw)) h1
    simp only [lv_args, if_neg ha]
    refine List.mem_cons_of_mem _ ?_
    rwa [show b + (i + 1) = b + 1 + i by omega]
theorem zsl (as : Nat → Nat) : ∀ av : List zV, (lg_sl (av.map (zcv as))).length = av.length
  | [] => rfl
  | a :: q => by
    have ih := zsl as q
    have e : lg_sl ((a :: q).map (zcv as)) = .val (zcv as a) :: lg_sl (q.map (zcv as)) := by simp [lg_sl, zcv_cat]
    rw [e]; simp [ih]
theorem zpc_zero (l : List (Instr × Nat × Nat)) : zpc l 0 = 0 := by cases l <;> rfl
theorem zMet_of {Y : zY} {d : Nat} {av : List zV} {M M' : zMem} {r : Option Int32} (hp : plainName Y.1.cls = true) (hn : av.length ≤ Y.2.2.1) (g : zGo Y d 0 (zal Y av) [] M r M') (l : Launch) (dC : Nat → ClassId) (dI : Nat → Nat → Nat) (cI cZ : ClassId) (as : Nat → Nat) (sz : Nat) (hi : zInj as) :
    Met l Y.1 (zws Y) { frames := d, cells := 0, slots := 0, locals := 27 * d } (zPre dC dI cI cZ as sz M av) (zPost dC dI cI cZ as r M') 0 0 (zA as sz) := by
  refine Met.ofW (cc := Y.2.1) (maxL := Y.2.2.1) (ret := Y.2.2.2.1) hp rfl ?_
  intro p e s m args below meth c s₁ B hml hv
  obtain ⟨rfl, hsz, hP, hK⟩ := hv
  subst hsz
  have hts := atoms_spec (ws := zws Y) B.pre
  have hl := lv_entry (av.map (zcv as)) (n := Y.2.2.1) (by rw [zsl]; exact hn)
  rw [lg_entry_eq]
  generalize (lg_sl (av.map (zcv as)) ++ List.replicate (Y.2.2.1 - (lg_sl (av.map (zcv as))).length) Slot.unset).toArray = ls at hl ⊢
  have hz : zloc as ls Y.2.2.1 (zal Y av) := by
    refine ⟨by simp [zal]; omega, hl.1, hl.2.1, fun i v h => ?_⟩
    have hi2 : i < av.length := by
      by_cases q : i < av.length
      · exact q
      · simp only [zal] at h
        rw [List.getElem?_append_right (by simp; omega)] at h
        obtain ⟨_, h2⟩ := List.getElem?_eq_some_iff.mp h
        simp at h2
    have h3 : av[i]? = some v := by
      simp only [zal] at h
      rw [List.getElem?_append_left (by simpa using hi2)] at h
      rw [List.getElem?_map] at h
      cases hq : av[i]? with
      | none => rw [hq] at h; cases h
      | some w => rw [hq] at h; cases h; rfl
    have h4 := zargs (av.map (zcv as)) 0 i (zcv as v) (fun w hw => by obtain ⟨x, -, rfl⟩ := List.mem_map.mp hw; exact zcv_cat as x) (by rw [List.getElem?_map, h3]; rfl)
    have h5 := hl.2.2 _ h4
    simpa using h5
  have key := g p l e { frames := d, cells := 0, slots := 0, locals := 27 * d } s m _ below meth c dC dI cI cZ as s.heap [] ls ⟨B.exec, B.bytes, hml, B.returns, B.notSynchronized, findClass_of_methodNamed B.named, fun w hw => hts w (List.mem_cons_of_mem _ hw), hK, hi, Nat.le_refl _, Nat.le_refl _⟩ hP va_S.rf hz
  rw [zpc_zero] at key
  exact key
/-- what the tables say of a method: 'n' its parameters -/
def zMk (Y : zY) (n : Nat) : Prop := Cond.initialized Y.1.cls ∈ ztbl ∧ Cond.code Y.1 Y.2.1 Y.2.2.1 Y.2.2.2.1 ∈ ztbl ∧ (Y.1.cls ≠ "java/lang/invoke/MethodHandle" ∧ Y.1.cls ≠ "java/lang/invoke/VarHandle" ∧ (parseMethodDescriptor Y.1.desc).map (fun d => d.parameters.length) = some n) ∧ plainName Y.1.cls = true ∧ Y.2.2.1 ≤ 8
def zMv (Y : zY) (n o : Nat) : Prop := zMk Y n ∧ Cond.instanceMethod Y.1 ∈ ztbl ∧ Cond.selects Y.1.cls Y.1 Y.1 ∈ ztbl ∧ n + 1 ≤ Y.2.2.1 ∧ ∃ (ci : Nat) (fs : List (Option Nat)) (T : u_T) (N : Nat), zL[o]? = some (.inr (ci, fs)) ∧ zcl[ci]? = some (Y.1.cls, T, N)
def zMs (Y : zY) (n : Nat) : Prop := zMk Y n ∧ Cond.static Y.1 ∈ ztbl ∧ n ≤ Y.2.2.1
section GO3
variable {Y Y' : zY} {d d' k t n idx o : Nat} {al : List (Option zV)} {av rest : List zV} {M M1 M' : zMem} {r r1 : Option Int32}
theorem zgoodIn : GoodIn ztbl (zws Y') ↔ Cond.code Y'.1 Y'.2.1 Y'.2.2.1 Y'.2.2.2.1 ∈ ztbl := by
  constructor
  · intro h
    exact (h _ List.mem_cons_self).1
  · intro h w hw
    rcases List.mem_cons.mp hw with rfl | hw
    · exact ⟨h, zgood _ h⟩
    · exact ⟨hw, zgood _ hw⟩
theorem zblind {dC : Nat → ClassId} {dI : Nat → Nat → Nat} {cI cZ : ClassId} {as : Nat → Nat} {sz : Nat} : FrameBlind (zPre dC dI cI cZ as sz M av) := fun a U g mk q => by
  obtain ⟨q0, q1, qP, qK⟩ := q
  exact ⟨q0, q1, qP, va_K.moved (u := U) (U := U.calling g mk a) (Vm.Alike.refl U.vm) qK⟩
theorem zafter {p : Program} {l : Launch} {e : Env} {R : Room} {s : State} {m : MethodId} {args : Array Value} {below : List Frame} {meth : Method} {c : Code} {dC : Nat → ClassId} {dI : Nat → Nat → Nat} {cI cZ : ClassId} {as : Nat → Nat} {H : Heap} {locs : List Loc} {ls : Array Slot} {a : Array Value} {st0 : List Value} {Q : State → Prop}
    (hS : va_S (zA as s.heap.size) s.heap H locs)
    (hr : va_Run p l e R s m args below meth c H locs 0 0 0 0 (F0 m (zpc Y.2.2.2.2 k) ls st0) (rest.map (zcv as)) (zPost dC dI cI cZ as r1 M1 a) (zA as H.size))
    (kk : ∀ (H1 : Heap) (locs1 : List Loc), va_P (dC, dI) zcl (zW cI cZ as M1) H1 → va_S (zA as s.heap.size) s.heap H1 locs1 → W p l e R s m args below meth c H1 locs1 0 0 Q (F0 m (zpc Y.2.2.2.2 k + 3) ls ((r1.map Value.int).toList ++ rest.map (zcv as)))) :
    W p l e R s m args below meth c H locs 0 0 Q (F0 m (zpc Y.2.2.2.2 k) ls st0) := by
  intro T hT X
  obtain ⟨v, st₀, t, T', L, h0, X', hL, e1, e2, ⟨hv, hP1, hz, hk⟩, st⟩ := hr T hT X
  cases hv
  rw [h0] at hz hk
  have hsub : ∀ q, zA as H.size q → zA as s.heap.size q := fun q hq => by
    rcases hq with h | h
    · exact Or.inl h
    · exact Or.inr (Nat.le_trans hS.1 h)
  obtain ⟨t2, a1, b1⟩ := kk T'.heap (locs ++ L) (by rw [e1]; exact hP1)
    ⟨Nat.le_trans hS.1 (by rw [e1]; exact hz), fun q h1 h2 => by rw [e1, hk q (Nat.lt_of_lt_of_le h1 hS.1) (fun z => h2 (hsub q z))]; exact hS.2.1 q h1 h2, fun q hq => by
      rcases List.mem_append.mp hq with h | h
      · exact hS.2.2 q h
      · exact hsub _ (hL q h)⟩ T' rfl X'
  exact ⟨t2, st t2 a1, b1⟩
theorem go_invV (hY : zOK Y) (hc : Y.2.2.2.2[k]? = some (.invokevirtual idx, 3, t)) (hw : Cond.methodLink Y.1.cls idx Y'.1 ∈ ztbl) (hM : zMv Y' n o) (hn : av.length = n) (g1 : zGo Y' d' 0 (zal Y' (.inr o :: av)) [] M r1 M1) (hd : d' + 1 ≤ d) (hrest : rest.length ≤ 8) (g : zGo Y d (k + 1) al ((r1.map Sum.inl).toList ++ rest) M1 r M') : zGo Y d k al (av.reverse ++ .inr o :: rest) M r M' := by
  intro p l e R s m args below meth c dC dI cI cZ as H locs ls C hP hS hl
  obtain ⟨⟨w1, w2, w3, w4, w5⟩, w6, w7, w8, ci, fs, T, N, w9, w10⟩ := hM
  obtain ⟨hx, hb, hml, hr, hlk, hown, hT, hK, hi, hR1, hR2⟩ := id C
  have hMet := zMet_of (av := .inr o :: av) w4 (by simp; omega) g1 l dC dI cI cZ as H.size hi
  refine zafter (Y := Y) (k := k) (r1 := r1) (M1 := M1) (rest := rest) (dC := dC) (dI := dI) (cI := cI) (cZ := cZ) (as := as) hS
    (va_runV (As := av.map (zcv as)) (rest := rest.map (zcv as)) (b := as o) (n := n) (C := Y'.1.cls) (index := idx) (own := Y.1.cls) (Ts := ztbl) (nL := Y.2.2.1) ⟨hx, hb, hml, hown, hT⟩ hMet
      ⟨callB_of n hT (zgoodIn.mpr w2) rfl rfl rfl (hT _ w1) (hT _ hw) w3 ⟨by show d' + 1 ≤ R.frames; omega, by show 8 + (Y'.2.2.1 + 11) + 27 * d' ≤ R.locals; omega⟩, hT _ w6, hT _ w7⟩
      ⟨zblind, va_recv hK hP w10 (zW_get w9), fun U hU hW => ⟨rfl, by rw [hU], by rw [hU]; exact hP, va_K.moved hW.alike hK⟩⟩
      rfl (by simpa using hn) hl.2.1 (by simp [zcv]) (lv_room (by rw [zsum]; exact hrest)) (hY k _ _ _ hc).1 ⟨Nat.zero_le _, Nat.zero_le _⟩) (fun H1 locs1 hP1 hS1 => ?_)
  have h := g p l e R s m args below meth c dC dI cI cZ as H1 locs1 ls C hP1 hS1 hl
  rw [zpc_succ hc] at h
  have e : List.map (zcv as) ((r1.map Sum.inl).toList ++ rest) = (r1.map Value.int).toList ++ rest.map (zcv as) := by cases r1 <;> rfl
  rw [e] at h
  exact h
theorem go_invS (hY : zOK Y) (hc : Y.2.2.2.2[k]? = some (.invokestatic idx, 3, t)) (hw : Cond.methodLink Y.1.cls idx Y'.1 ∈ ztbl) (hM : zMs Y' n) (hn : av.length = n) (g1 : zGo Y' d' 0 (zal Y' av) [] M r1 M1) (hd : d' + 1 ≤ d) (hrest : rest.length ≤ 8) (g : zGo Y d (k + 1) al ((r1.map Sum.inl).toList ++ rest) M1 r M') : zGo Y d k al (av.reverse ++ rest) M r M' := by
  intro p l e R s m args below meth c dC dI cI cZ as H locs ls C hP hS hl
  obtain ⟨⟨w1, w2, w3, w4, w5⟩, w6, w8⟩ := hM
  obtain ⟨hx, hb, hml, hr, hlk, hown, hT, hK, hi, hR1, hR2⟩ := id C
  have hMet := zMet_of (av := av) w4 (by omega) g1 l dC dI cI cZ as H.size hi
  refine zafter (Y := Y) (k := k) (r1 := r1) (M1 := M1) (rest := rest) (dC := dC) (dI := dI) (cI := cI) (cZ := cZ) (as := as) hS
    (va_runS (As := av.map (zcv as)) (rest := rest.map (zcv as)) (n := n) (index := idx) (own := Y.1.cls) (Ts := ztbl) (nL := Y.2.2.1) ⟨hx, hb, hml, hown, hT⟩ hMet
      ⟨callB_of n hT (zgoodIn.mpr w2) rfl rfl rfl (hT _ w1) (hT _ hw) w3 ⟨by show d' + 1 ≤ R.frames; omega, by show 8 + (Y'.2.2.1 + 11) + 27 * d' ≤ R.locals; omega⟩, hT _ w6⟩
      ⟨zblind, fun U hU hW => ⟨rfl, by rw [hU], by rw [hU]; exact hP, va_K.moved hW.alike hK⟩⟩
      rfl (by simpa using hn) hl.2.1 (by simp) (lv_room (by rw [zsum]; exact hrest)) (hY k _ _ _ hc).1 ⟨Nat.zero_le _, Nat.zero_le _⟩) (fun H1 locs1 hP1 hS1 => ?_)
  have h := g p l e R s m args below meth c dC dI cI cZ as H1 locs1 ls C hP1 hS1 hl
  rw [zpc_succ hc] at h
  have e : List.map (zcv as) ((r1.map Sum.inl).toList ++ rest) = (r1.map Value.int).toList ++ rest.map (zcv as) := by cases r1 <;> rfl
  rw [e] at h
  exact h
end GO3
end
