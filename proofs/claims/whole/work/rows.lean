section
-- ===== PART A: goes FIRST, ahead of the names: the tables' words, and 'selects' of the private methods out of them =====
/-- a private method of a class that the tables say can be made, by its rows of tables_1 -/
def lw_okq (q : MethodName × Nat) : Prop := (q.1.cls ≠ "java/lang/invoke/MethodHandle" ∧ q.1.cls ≠ "java/lang/invoke/VarHandle") ∧ Cond.instantiable q.1.cls q.2 ∈ tables_1 ∧ Cond.privateMethod q.1 ∈ tables_1 ∧ Cond.instanceMethod q.1 ∈ tables_1
theorem lw_p0 : lw_okq (⟨"ScriptLedger$Machine", "prepare", "(II)V"⟩, 16) := ⟨⟨by decide +kernel, by decide +kernel⟩, List.mem_of_getElem? (i := 36) (by decide +kernel), List.mem_of_getElem? (i := 328) (by decide +kernel), List.mem_of_getElem? (i := 329) (by decide +kernel)⟩
theorem lw_p1 : lw_okq (⟨"ScriptLedger$Machine", "goTo", "(II)V"⟩, 16) := ⟨⟨by decide +kernel, by decide +kernel⟩, List.mem_of_getElem? (i := 36) (by decide +kernel), List.mem_of_getElem? (i := 340) (by decide +kernel), List.mem_of_getElem? (i := 341) (by decide +kernel)⟩
theorem lw_p2 : lw_okq (⟨"ScriptLedger$Machine", "listOf", "([I)I"⟩, 16) := ⟨⟨by decide +kernel, by decide +kernel⟩, List.mem_of_getElem? (i := 36) (by decide +kernel), List.mem_of_getElem? (i := 344) (by decide +kernel), List.mem_of_getElem? (i := 345) (by decide +kernel)⟩
theorem lw_p3 : lw_okq (⟨"ScriptLedger$Machine", "push", "(III)V"⟩, 16) := ⟨⟨by decide +kernel, by decide +kernel⟩, List.mem_of_getElem? (i := 36) (by decide +kernel), List.mem_of_getElem? (i := 356) (by decide +kernel), List.mem_of_getElem? (i := 357) (by decide +kernel)⟩
theorem lw_p4 : lw_okq (⟨"ScriptLedger$Machine", "stop", "(I)V"⟩, 16) := ⟨⟨by decide +kernel, by decide +kernel⟩, List.mem_of_getElem? (i := 36) (by decide +kernel), List.mem_of_getElem? (i := 360) (by decide +kernel), List.mem_of_getElem? (i := 361) (by decide +kernel)⟩
theorem lw_p5 : lw_okq (⟨"ScriptLedger$Machine", "beginTerm", "()V"⟩, 16) := ⟨⟨by decide +kernel, by decide +kernel⟩, List.mem_of_getElem? (i := 36) (by decide +kernel), List.mem_of_getElem? (i := 364) (by decide +kernel), List.mem_of_getElem? (i := 365) (by decide +kernel)⟩
theorem lw_p6 : lw_okq (⟨"ScriptLedger$Machine", "pay", "(I)Z"⟩, 16) := ⟨⟨by decide +kernel, by decide +kernel⟩, List.mem_of_getElem? (i := 36) (by decide +kernel), List.mem_of_getElem? (i := 368) (by decide +kernel), List.mem_of_getElem? (i := 369) (by decide +kernel)⟩
theorem lw_p7 : lw_okq (⟨"ScriptLedger$Machine", "found", "(I)V"⟩, 16) := ⟨⟨by decide +kernel, by decide +kernel⟩, List.mem_of_getElem? (i := 36) (by decide +kernel), List.mem_of_getElem? (i := 376) (by decide +kernel), List.mem_of_getElem? (i := 377) (by decide +kernel)⟩
theorem lw_p8 : lw_okq (⟨"ScriptLedger$Machine", "handOnValue", "()V"⟩, 16) := ⟨⟨by decide +kernel, by decide +kernel⟩, List.mem_of_getElem? (i := 36) (by decide +kernel), List.mem_of_getElem? (i := 381) (by decide +kernel), List.mem_of_getElem? (i := 382) (by decide +kernel)⟩
theorem lw_p9 : lw_okq (⟨"ScriptLedger$Machine", "finish", "()V"⟩, 16) := ⟨⟨by decide +kernel, by decide +kernel⟩, List.mem_of_getElem? (i := 36) (by decide +kernel), List.mem_of_getElem? (i := 385) (by decide +kernel), List.mem_of_getElem? (i := 386) (by decide +kernel)⟩
theorem lw_p10 : lw_okq (⟨"ScriptLedger$Machine", "force", "()V"⟩, 16) := ⟨⟨by decide +kernel, by decide +kernel⟩, List.mem_of_getElem? (i := 36) (by decide +kernel), List.mem_of_getElem? (i := 392) (by decide +kernel), List.mem_of_getElem? (i := 393) (by decide +kernel)⟩
theorem lw_p11 : lw_okq (⟨"ScriptLedger$Machine", "apply", "()V"⟩, 16) := ⟨⟨by decide +kernel, by decide +kernel⟩, List.mem_of_getElem? (i := 36) (by decide +kernel), List.mem_of_getElem? (i := 396) (by decide +kernel), List.mem_of_getElem? (i := 397) (by decide +kernel)⟩
theorem lw_p12 : lw_okq (⟨"ScriptLedger$Machine", "takeArgument", "()V"⟩, 16) := ⟨⟨by decide +kernel, by decide +kernel⟩, List.mem_of_getElem? (i := 36) (by decide +kernel), List.mem_of_getElem? (i := 400) (by decide +kernel), List.mem_of_getElem? (i := 401) (by decide +kernel)⟩
theorem lw_p13 : lw_okq (⟨"ScriptLedger$Machine", "doBuiltin", "()V"⟩, 16) := ⟨⟨by decide +kernel, by decide +kernel⟩, List.mem_of_getElem? (i := 36) (by decide +kernel), List.mem_of_getElem? (i := 406) (by decide +kernel), List.mem_of_getElem? (i := 407) (by decide +kernel)⟩
theorem lw_p14 : lw_okq (⟨"ScriptLedger$Machine", "reckon", "(III)V"⟩, 16) := ⟨⟨by decide +kernel, by decide +kernel⟩, List.mem_of_getElem? (i := 36) (by decide +kernel), List.mem_of_getElem? (i := 412) (by decide +kernel), List.mem_of_getElem? (i := 413) (by decide +kernel)⟩
theorem lw_p15 : lw_okq (⟨"ScriptLedger$Machine", "choose", "(III)V"⟩, 16) := ⟨⟨by decide +kernel, by decide +kernel⟩, List.mem_of_getElem? (i := 36) (by decide +kernel), List.mem_of_getElem? (i := 419) (by decide +kernel), List.mem_of_getElem? (i := 420) (by decide +kernel)⟩
def lw_privs_1 : List (MethodName × Nat) := [(⟨"ScriptLedger$Machine", "prepare", "(II)V"⟩, 16), (⟨"ScriptLedger$Machine", "goTo", "(II)V"⟩, 16), (⟨"ScriptLedger$Machine", "listOf", "([I)I"⟩, 16), (⟨"ScriptLedger$Machine", "push", "(III)V"⟩, 16), (⟨"ScriptLedger$Machine", "stop", "(I)V"⟩, 16), (⟨"ScriptLedger$Machine", "beginTerm", "()V"⟩, 16), (⟨"ScriptLedger$Machine", "pay", "(I)Z"⟩, 16), (⟨"ScriptLedger$Machine", "found", "(I)V"⟩, 16), (⟨"ScriptLedger$Machine", "handOnValue", "()V"⟩, 16), (⟨"ScriptLedger$Machine", "finish", "()V"⟩, 16), (⟨"ScriptLedger$Machine", "force", "()V"⟩, 16), (⟨"ScriptLedger$Machine", "apply", "()V"⟩, 16), (⟨"ScriptLedger$Machine", "takeArgument", "()V"⟩, 16), (⟨"ScriptLedger$Machine", "doBuiltin", "()V"⟩, 16), (⟨"ScriptLedger$Machine", "reckon", "(III)V"⟩, 16), (⟨"ScriptLedger$Machine", "choose", "(III)V"⟩, 16)]
theorem lw_r1 : ∀ q ∈ lw_privs_1, lw_okq q := List.forall_mem_cons.mpr ⟨lw_p0, List.forall_mem_cons.mpr ⟨lw_p1, List.forall_mem_cons.mpr ⟨lw_p2, List.forall_mem_cons.mpr ⟨lw_p3, List.forall_mem_cons.mpr ⟨lw_p4, List.forall_mem_cons.mpr ⟨lw_p5, List.forall_mem_cons.mpr ⟨lw_p6, List.forall_mem_cons.mpr ⟨lw_p7, List.forall_mem_cons.mpr ⟨lw_p8, List.forall_mem_cons.mpr ⟨lw_p9, List.forall_mem_cons.mpr ⟨lw_p10, List.forall_mem_cons.mpr ⟨lw_p11, List.forall_mem_cons.mpr ⟨lw_p12, List.forall_mem_cons.mpr ⟨lw_p13, List.forall_mem_cons.mpr ⟨lw_p14, List.forall_mem_cons.mpr ⟨lw_p15, fun _ h => absurd h List.not_mem_nil⟩⟩⟩⟩⟩⟩⟩⟩⟩⟩⟩⟩⟩⟩⟩⟩
theorem lw_p16 : lw_okq (⟨"ScriptLedger$Machine", "putInFront", "(II)V"⟩, 16) := ⟨⟨by decide +kernel, by decide +kernel⟩, List.mem_of_getElem? (i := 36) (by decide +kernel), List.mem_of_getElem? (i := 423) (by decide +kernel), List.mem_of_getElem? (i := 424) (by decide +kernel)⟩
theorem lw_p17 : lw_okq (⟨"ScriptLedger$Machine", "lookInto", "(II)V"⟩, 16) := ⟨⟨by decide +kernel, by decide +kernel⟩, List.mem_of_getElem? (i := 36) (by decide +kernel), List.mem_of_getElem? (i := 427) (by decide +kernel), List.mem_of_getElem? (i := 428) (by decide +kernel)⟩
theorem lw_p18 : lw_okq (⟨"ScriptLedger", "firstFault", "()I"⟩, 6) := ⟨⟨by decide +kernel, by decide +kernel⟩, List.mem_of_getElem? (i := 12) (by decide +kernel), List.mem_of_getElem? (i := 480) (by decide +kernel), List.mem_of_getElem? (i := 481) (by decide +kernel)⟩
theorem lw_p19 : lw_okq (⟨"ScriptLedger", "inputsAreUnspent", "()Z"⟩, 6) := ⟨⟨by decide +kernel, by decide +kernel⟩, List.mem_of_getElem? (i := 12) (by decide +kernel), List.mem_of_getElem? (i := 484) (by decide +kernel), List.mem_of_getElem? (i := 485) (by decide +kernel)⟩
theorem lw_p20 : lw_okq (⟨"ScriptLedger", "isBalanced", "()Z"⟩, 6) := ⟨⟨by decide +kernel, by decide +kernel⟩, List.mem_of_getElem? (i := 12) (by decide +kernel), List.mem_of_getElem? (i := 500) (by decide +kernel), List.mem_of_getElem? (i := 501) (by decide +kernel)⟩
theorem lw_p21 : lw_okq (⟨"ScriptLedger", "sumOfInputs", "(I)I"⟩, 6) := ⟨⟨by decide +kernel, by decide +kernel⟩, List.mem_of_getElem? (i := 12) (by decide +kernel), List.mem_of_getElem? (i := 504) (by decide +kernel), List.mem_of_getElem? (i := 505) (by decide +kernel)⟩
theorem lw_p22 : lw_okq (⟨"ScriptLedger", "keysHaveSigned", "()Z"⟩, 6) := ⟨⟨by decide +kernel, by decide +kernel⟩, List.mem_of_getElem? (i := 12) (by decide +kernel), List.mem_of_getElem? (i := 517) (by decide +kernel), List.mem_of_getElem? (i := 518) (by decide +kernel)⟩
theorem lw_p23 : lw_okq (⟨"ScriptLedger", "scriptsAreDefined", "()Z"⟩, 6) := ⟨⟨by decide +kernel, by decide +kernel⟩, List.mem_of_getElem? (i := 12) (by decide +kernel), List.mem_of_getElem? (i := 525) (by decide +kernel), List.mem_of_getElem? (i := 526) (by decide +kernel)⟩
theorem lw_p24 : lw_okq (⟨"ScriptLedger", "needsScript", "()Z"⟩, 6) := ⟨⟨by decide +kernel, by decide +kernel⟩, List.mem_of_getElem? (i := 12) (by decide +kernel), List.mem_of_getElem? (i := 532) (by decide +kernel), List.mem_of_getElem? (i := 533) (by decide +kernel)⟩
theorem lw_p25 : lw_okq (⟨"ScriptLedger", "isGuaranteed", "()Z"⟩, 6) := ⟨⟨by decide +kernel, by decide +kernel⟩, List.mem_of_getElem? (i := 12) (by decide +kernel), List.mem_of_getElem? (i := 536) (by decide +kernel), List.mem_of_getElem? (i := 537) (by decide +kernel)⟩
theorem lw_p26 : lw_okq (⟨"ScriptLedger", "scriptsAgree", "()Z"⟩, 6) := ⟨⟨by decide +kernel, by decide +kernel⟩, List.mem_of_getElem? (i := 12) (by decide +kernel), List.mem_of_getElem? (i := 540) (by decide +kernel), List.mem_of_getElem? (i := 541) (by decide +kernel)⟩
theorem lw_p27 : lw_okq (⟨"ScriptLedger", "fillContext", "()V"⟩, 6) := ⟨⟨by decide +kernel, by decide +kernel⟩, List.mem_of_getElem? (i := 12) (by decide +kernel), List.mem_of_getElem? (i := 544) (by decide +kernel), List.mem_of_getElem? (i := 545) (by decide +kernel)⟩
theorem lw_p28 : lw_okq (⟨"ScriptLedger", "carryOut", "()V"⟩, 6) := ⟨⟨by decide +kernel, by decide +kernel⟩, List.mem_of_getElem? (i := 12) (by decide +kernel), List.mem_of_getElem? (i := 548) (by decide +kernel), List.mem_of_getElem? (i := 549) (by decide +kernel)⟩
theorem lw_p29 : lw_okq (⟨"ScriptLedgerModel", "formed", "()Z"⟩, 50) := ⟨⟨by decide +kernel, by decide +kernel⟩, List.mem_of_getElem? (i := 612) (by decide +kernel), List.mem_of_getElem? (i := 778) (by decide +kernel), List.mem_of_getElem? (i := 779) (by decide +kernel)⟩
theorem lw_p30 : lw_okq (⟨"ScriptLedgerModel", "whole", "(I)I"⟩, 50) := ⟨⟨by decide +kernel, by decide +kernel⟩, List.mem_of_getElem? (i := 612) (by decide +kernel), List.mem_of_getElem? (i := 789) (by decide +kernel), List.mem_of_getElem? (i := 790) (by decide +kernel)⟩
theorem lw_p31 : lw_okq (⟨"ScriptLedgerModel", "make", "(IIIII)I"⟩, 50) := ⟨⟨by decide +kernel, by decide +kernel⟩, List.mem_of_getElem? (i := 612) (by decide +kernel), List.mem_of_getElem? (i := 793) (by decide +kernel), List.mem_of_getElem? (i := 794) (by decide +kernel)⟩
def lw_privs_2 : List (MethodName × Nat) := [(⟨"ScriptLedger$Machine", "putInFront", "(II)V"⟩, 16), (⟨"ScriptLedger$Machine", "lookInto", "(II)V"⟩, 16), (⟨"ScriptLedger", "firstFault", "()I"⟩, 6), (⟨"ScriptLedger", "inputsAreUnspent", "()Z"⟩, 6), (⟨"ScriptLedger", "isBalanced", "()Z"⟩, 6), (⟨"ScriptLedger", "sumOfInputs", "(I)I"⟩, 6), (⟨"ScriptLedger", "keysHaveSigned", "()Z"⟩, 6), (⟨"ScriptLedger", "scriptsAreDefined", "()Z"⟩, 6), (⟨"ScriptLedger", "needsScript", "()Z"⟩, 6), (⟨"ScriptLedger", "isGuaranteed", "()Z"⟩, 6), (⟨"ScriptLedger", "scriptsAgree", "()Z"⟩, 6), (⟨"ScriptLedger", "fillContext", "()V"⟩, 6), (⟨"ScriptLedger", "carryOut", "()V"⟩, 6), (⟨"ScriptLedgerModel", "formed", "()Z"⟩, 50), (⟨"ScriptLedgerModel", "whole", "(I)I"⟩, 50), (⟨"ScriptLedgerModel", "make", "(IIIII)I"⟩, 50)]
theorem lw_r2 : ∀ q ∈ lw_privs_2, lw_okq q := List.forall_mem_cons.mpr ⟨lw_p16, List.forall_mem_cons.mpr ⟨lw_p17, List.forall_mem_cons.mpr ⟨lw_p18, List.forall_mem_cons.mpr ⟨lw_p19, List.forall_mem_cons.mpr ⟨lw_p20, List.forall_mem_cons.mpr ⟨lw_p21, List.forall_mem_cons.mpr ⟨lw_p22, List.forall_mem_cons.mpr ⟨lw_p23, List.forall_mem_cons.mpr ⟨lw_p24, List.forall_mem_cons.mpr ⟨lw_p25, List.forall_mem_cons.mpr ⟨lw_p26, List.forall_mem_cons.mpr ⟨lw_p27, List.forall_mem_cons.mpr ⟨lw_p28, List.forall_mem_cons.mpr ⟨lw_p29, List.forall_mem_cons.mpr ⟨lw_p30, List.forall_mem_cons.mpr ⟨lw_p31, fun _ h => absurd h List.not_mem_nil⟩⟩⟩⟩⟩⟩⟩⟩⟩⟩⟩⟩⟩⟩⟩⟩
theorem lw_p32 : lw_okq (⟨"ScriptLedgerModel", "runWith", "(IIIII)V"⟩, 50) := ⟨⟨by decide +kernel, by decide +kernel⟩, List.mem_of_getElem? (i := 612) (by decide +kernel), List.mem_of_getElem? (i := 797) (by decide +kernel), List.mem_of_getElem? (i := 798) (by decide +kernel)⟩
theorem lw_p33 : lw_okq (⟨"ScriptLedgerModel", "later", "(III)V"⟩, 50) := ⟨⟨by decide +kernel, by decide +kernel⟩, List.mem_of_getElem? (i := 612) (by decide +kernel), List.mem_of_getElem? (i := 801) (by decide +kernel), List.mem_of_getElem? (i := 802) (by decide +kernel)⟩
theorem lw_p34 : lw_okq (⟨"ScriptLedgerModel", "evaluate", "()Z"⟩, 50) := ⟨⟨by decide +kernel, by decide +kernel⟩, List.mem_of_getElem? (i := 612) (by decide +kernel), List.mem_of_getElem? (i := 805) (by decide +kernel), List.mem_of_getElem? (i := 806) (by decide +kernel)⟩
theorem lw_p35 : lw_okq (⟨"ScriptLedgerModel", "pay", "(I)Z"⟩, 50) := ⟨⟨by decide +kernel, by decide +kernel⟩, List.mem_of_getElem? (i := 612) (by decide +kernel), List.mem_of_getElem? (i := 809) (by decide +kernel), List.mem_of_getElem? (i := 810) (by decide +kernel)⟩
theorem lw_p36 : lw_okq (⟨"ScriptLedgerModel", "behindTerm", "(I)I"⟩, 50) := ⟨⟨by decide +kernel, by decide +kernel⟩, List.mem_of_getElem? (i := 612) (by decide +kernel), List.mem_of_getElem? (i := 813) (by decide +kernel), List.mem_of_getElem? (i := 814) (by decide +kernel)⟩
theorem lw_p37 : lw_okq (⟨"ScriptLedgerModel", "fail", "()Z"⟩, 50) := ⟨⟨by decide +kernel, by decide +kernel⟩, List.mem_of_getElem? (i := 612) (by decide +kernel), List.mem_of_getElem? (i := 817) (by decide +kernel), List.mem_of_getElem? (i := 818) (by decide +kernel)⟩
theorem lw_p38 : lw_okq (⟨"ScriptLedgerModel", "goOn", "()Z"⟩, 50) := ⟨⟨by decide +kernel, by decide +kernel⟩, List.mem_of_getElem? (i := 612) (by decide +kernel), List.mem_of_getElem? (i := 821) (by decide +kernel), List.mem_of_getElem? (i := 822) (by decide +kernel)⟩
theorem lw_p39 : lw_okq (⟨"ScriptLedgerModel", "apply", "(II)Z"⟩, 50) := ⟨⟨by decide +kernel, by decide +kernel⟩, List.mem_of_getElem? (i := 612) (by decide +kernel), List.mem_of_getElem? (i := 825) (by decide +kernel), List.mem_of_getElem? (i := 826) (by decide +kernel)⟩
theorem lw_p40 : lw_okq (⟨"ScriptLedgerModel", "done", "(IIII)Z"⟩, 50) := ⟨⟨by decide +kernel, by decide +kernel⟩, List.mem_of_getElem? (i := 612) (by decide +kernel), List.mem_of_getElem? (i := 832) (by decide +kernel), List.mem_of_getElem? (i := 833) (by decide +kernel)⟩
theorem lw_p41 : lw_okq (⟨"ScriptLedgerModel", "isWhole", "(I)Z"⟩, 50) := ⟨⟨by decide +kernel, by decide +kernel⟩, List.mem_of_getElem? (i := 612) (by decide +kernel), List.mem_of_getElem? (i := 836) (by decide +kernel), List.mem_of_getElem? (i := 837) (by decide +kernel)⟩
theorem lw_p42 : lw_okq (⟨"ScriptLedgerModel", "reckon", "(III)Z"⟩, 50) := ⟨⟨by decide +kernel, by decide +kernel⟩, List.mem_of_getElem? (i := 612) (by decide +kernel), List.mem_of_getElem? (i := 840) (by decide +kernel), List.mem_of_getElem? (i := 841) (by decide +kernel)⟩
theorem lw_p43 : lw_okq (⟨"ScriptLedgerModel", "cons", "(II)I"⟩, 50) := ⟨⟨by decide +kernel, by decide +kernel⟩, List.mem_of_getElem? (i := 612) (by decide +kernel), List.mem_of_getElem? (i := 844) (by decide +kernel), List.mem_of_getElem? (i := 845) (by decide +kernel)⟩
theorem lw_p44 : lw_okq (⟨"ScriptLedgerModel", "isInput", "(I)Z"⟩, 50) := ⟨⟨by decide +kernel, by decide +kernel⟩, List.mem_of_getElem? (i := 612) (by decide +kernel), List.mem_of_getElem? (i := 860) (by decide +kernel), List.mem_of_getElem? (i := 861) (by decide +kernel)⟩
theorem lw_p45 : lw_okq (⟨"ScriptLedgerModel", "phaseOne", "()I"⟩, 50) := ⟨⟨by decide +kernel, by decide +kernel⟩, List.mem_of_getElem? (i := 612) (by decide +kernel), List.mem_of_getElem? (i := 887) (by decide +kernel), List.mem_of_getElem? (i := 888) (by decide +kernel)⟩
theorem lw_p46 : lw_okq (⟨"ScriptLedgerModel", "inputsThere", "()Z"⟩, 50) := ⟨⟨by decide +kernel, by decide +kernel⟩, List.mem_of_getElem? (i := 612) (by decide +kernel), List.mem_of_getElem? (i := 891) (by decide +kernel), List.mem_of_getElem? (i := 892) (by decide +kernel)⟩
theorem lw_p47 : lw_okq (⟨"ScriptLedgerModel", "there", "(I)Z"⟩, 50) := ⟨⟨by decide +kernel, by decide +kernel⟩, List.mem_of_getElem? (i := 612) (by decide +kernel), List.mem_of_getElem? (i := 895) (by decide +kernel), List.mem_of_getElem? (i := 896) (by decide +kernel)⟩
def lw_privs_3 : List (MethodName × Nat) := [(⟨"ScriptLedgerModel", "runWith", "(IIIII)V"⟩, 50), (⟨"ScriptLedgerModel", "later", "(III)V"⟩, 50), (⟨"ScriptLedgerModel", "evaluate", "()Z"⟩, 50), (⟨"ScriptLedgerModel", "pay", "(I)Z"⟩, 50), (⟨"ScriptLedgerModel", "behindTerm", "(I)I"⟩, 50), (⟨"ScriptLedgerModel", "fail", "()Z"⟩, 50), (⟨"ScriptLedgerModel", "goOn", "()Z"⟩, 50), (⟨"ScriptLedgerModel", "apply", "(II)Z"⟩, 50), (⟨"ScriptLedgerModel", "done", "(IIII)Z"⟩, 50), (⟨"ScriptLedgerModel", "isWhole", "(I)Z"⟩, 50), (⟨"ScriptLedgerModel", "reckon", "(III)Z"⟩, 50), (⟨"ScriptLedgerModel", "cons", "(II)I"⟩, 50), (⟨"ScriptLedgerModel", "isInput", "(I)Z"⟩, 50), (⟨"ScriptLedgerModel", "phaseOne", "()I"⟩, 50), (⟨"ScriptLedgerModel", "inputsThere", "()Z"⟩, 50), (⟨"ScriptLedgerModel", "there", "(I)Z"⟩, 50)]
theorem lw_r3 : ∀ q ∈ lw_privs_3, lw_okq q := List.forall_mem_cons.mpr ⟨lw_p32, List.forall_mem_cons.mpr ⟨lw_p33, List.forall_mem_cons.mpr ⟨lw_p34, List.forall_mem_cons.mpr ⟨lw_p35, List.forall_mem_cons.mpr ⟨lw_p36, List.forall_mem_cons.mpr ⟨lw_p37, List.forall_mem_cons.mpr ⟨lw_p38, List.forall_mem_cons.mpr ⟨lw_p39, List.forall_mem_cons.mpr ⟨lw_p40, List.forall_mem_cons.mpr ⟨lw_p41, List.forall_mem_cons.mpr ⟨lw_p42, List.forall_mem_cons.mpr ⟨lw_p43, List.forall_mem_cons.mpr ⟨lw_p44, List.forall_mem_cons.mpr ⟨lw_p45, List.forall_mem_cons.mpr ⟨lw_p46, List.forall_mem_cons.mpr ⟨lw_p47, fun _ h => absurd h List.not_mem_nil⟩⟩⟩⟩⟩⟩⟩⟩⟩⟩⟩⟩⟩⟩⟩⟩
theorem lw_p48 : lw_okq (⟨"ScriptLedgerModel", "balanced", "()Z"⟩, 50) := ⟨⟨by decide +kernel, by decide +kernel⟩, List.mem_of_getElem? (i := 612) (by decide +kernel), List.mem_of_getElem? (i := 899) (by decide +kernel), List.mem_of_getElem? (i := 900) (by decide +kernel)⟩
theorem lw_p49 : lw_okq (⟨"ScriptLedgerModel", "allSigned", "()Z"⟩, 50) := ⟨⟨by decide +kernel, by decide +kernel⟩, List.mem_of_getElem? (i := 612) (by decide +kernel), List.mem_of_getElem? (i := 903) (by decide +kernel), List.mem_of_getElem? (i := 904) (by decide +kernel)⟩
theorem lw_p50 : lw_okq (⟨"ScriptLedgerModel", "signed", "(I)Z"⟩, 50) := ⟨⟨by decide +kernel, by decide +kernel⟩, List.mem_of_getElem? (i := 612) (by decide +kernel), List.mem_of_getElem? (i := 907) (by decide +kernel), List.mem_of_getElem? (i := 908) (by decide +kernel)⟩
theorem lw_p51 : lw_okq (⟨"ScriptLedgerModel", "needed", "()I"⟩, 50) := ⟨⟨by decide +kernel, by decide +kernel⟩, List.mem_of_getElem? (i := 612) (by decide +kernel), List.mem_of_getElem? (i := 911) (by decide +kernel), List.mem_of_getElem? (i := 912) (by decide +kernel)⟩
theorem lw_p52 : lw_okq (⟨"ScriptLedgerModel", "pledged", "()Z"⟩, 50) := ⟨⟨by decide +kernel, by decide +kernel⟩, List.mem_of_getElem? (i := 612) (by decide +kernel), List.mem_of_getElem? (i := 915) (by decide +kernel), List.mem_of_getElem? (i := 916) (by decide +kernel)⟩
theorem lw_p53 : lw_okq (⟨"ScriptLedgerModel", "phaseTwo", "()Z"⟩, 50) := ⟨⟨by decide +kernel, by decide +kernel⟩, List.mem_of_getElem? (i := 612) (by decide +kernel), List.mem_of_getElem? (i := 920) (by decide +kernel), List.mem_of_getElem? (i := 921) (by decide +kernel)⟩
theorem lw_p54 : lw_okq (⟨"ScriptLedgerModel", "agrees", "(IIIII)Z"⟩, 50) := ⟨⟨by decide +kernel, by decide +kernel⟩, List.mem_of_getElem? (i := 612) (by decide +kernel), List.mem_of_getElem? (i := 924) (by decide +kernel), List.mem_of_getElem? (i := 925) (by decide +kernel)⟩
theorem lw_p55 : lw_okq (⟨"ScriptLedgerModel", "context", "(I)I"⟩, 50) := ⟨⟨by decide +kernel, by decide +kernel⟩, List.mem_of_getElem? (i := 612) (by decide +kernel), List.mem_of_getElem? (i := 928) (by decide +kernel), List.mem_of_getElem? (i := 929) (by decide +kernel)⟩
theorem lw_p56 : lw_okq (⟨"ScriptLedgerModel", "takeEffect", "()V"⟩, 50) := ⟨⟨by decide +kernel, by decide +kernel⟩, List.mem_of_getElem? (i := 612) (by decide +kernel), List.mem_of_getElem? (i := 932) (by decide +kernel), List.mem_of_getElem? (i := 933) (by decide +kernel)⟩
def lw_privs_4 : List (MethodName × Nat) := [(⟨"ScriptLedgerModel", "balanced", "()Z"⟩, 50), (⟨"ScriptLedgerModel", "allSigned", "()Z"⟩, 50), (⟨"ScriptLedgerModel", "signed", "(I)Z"⟩, 50), (⟨"ScriptLedgerModel", "needed", "()I"⟩, 50), (⟨"ScriptLedgerModel", "pledged", "()Z"⟩, 50), (⟨"ScriptLedgerModel", "phaseTwo", "()Z"⟩, 50), (⟨"ScriptLedgerModel", "agrees", "(IIIII)Z"⟩, 50), (⟨"ScriptLedgerModel", "context", "(I)I"⟩, 50), (⟨"ScriptLedgerModel", "takeEffect", "()V"⟩, 50)]
theorem lw_r4 : ∀ q ∈ lw_privs_4, lw_okq q := List.forall_mem_cons.mpr ⟨lw_p48, List.forall_mem_cons.mpr ⟨lw_p49, List.forall_mem_cons.mpr ⟨lw_p50, List.forall_mem_cons.mpr ⟨lw_p51, List.forall_mem_cons.mpr ⟨lw_p52, List.forall_mem_cons.mpr ⟨lw_p53, List.forall_mem_cons.mpr ⟨lw_p54, List.forall_mem_cons.mpr ⟨lw_p55, List.forall_mem_cons.mpr ⟨lw_p56, fun _ h => absurd h List.not_mem_nil⟩⟩⟩⟩⟩⟩⟩⟩⟩
def lw_privs : List (MethodName × Nat) := lw_privs_1 ++ (lw_privs_2 ++ (lw_privs_3 ++ (lw_privs_4)))
def lw_tbl : List Cond := k2_sels lw_privs ++ tables_1
theorem lw_privs_ok : ∀ q ∈ lw_privs, lw_okq q := by
  show ∀ q ∈ lw_privs_1 ++ (lw_privs_2 ++ (lw_privs_3 ++ (lw_privs_4))), lw_okq q
  exact List.forall_mem_append.mpr ⟨lw_r1, List.forall_mem_append.mpr ⟨lw_r2, List.forall_mem_append.mpr ⟨lw_r3, lw_r4⟩⟩⟩
end
section
/-! names, fields, words: by program out of the claim -/
def jr_0 : u_T := fun k => match k with
  | 0 => ("ScriptLedger", "draft", "LScriptLedger$Draft;", true)
  | 1 => ("ScriptLedger", "machine", "LScriptLedger$Machine;", true)
  | 2 => ("ScriptLedger", "ledger", "LScriptLedger$Ledger;", true)
  | 3 => ("ScriptLedger", "transaction", "LScriptLedger$Transaction;", true)
  | 4 => ("ScriptLedger", "context", "[I", true)
  | _ => ("ScriptLedger", "emptyContext", "[I", true)
def ju_0 : Nat → FieldType := fun k => match k with
  | 0 => .object "ScriptLedger$Draft"
  | 1 => .object "ScriptLedger$Machine"
  | 2 => .object "ScriptLedger$Ledger"
  | 3 => .object "ScriptLedger$Transaction"
  | 4 => .array .int
  | _ => .array .int
theorem jnm_0 : ∀ a, a < 6 → ∀ b, b < 6 → a ≠ b → (jr_0 a).2.1 ≠ (jr_0 b).2.1 := by decide +kernel
theorem jty_0 : ∀ a, a < 6 → parseFieldDescriptor (jr_0 a).2.2.1 = some (ju_0 a) := by decide +kernel
def jr_1 : u_T := fun k => match k with
  | 0 => ("ScriptLedger$Draft", "bytes", "[I", true)
  | _ => ("ScriptLedger$Draft", "size", "I", false)
def ju_1 : Nat → FieldType := fun k => match k with
  | 0 => .array .int
  | _ => .int
theorem jnm_1 : ∀ a, a < 2 → ∀ b, b < 2 → a ≠ b → (jr_1 a).2.1 ≠ (jr_1 b).2.1 := by decide +kernel
theorem jty_1 : ∀ a, a < 2 → parseFieldDescriptor (jr_1 a).2.2.1 = some (ju_1 a) := by decide +kernel
def jr_2 : u_T := fun k => match k with
  | 0 => ("ScriptLedger$Machine", "scripts", "LScriptLedger$Scripts;", true)
  | 1 => ("ScriptLedger$Machine", "values", "LScriptLedger$Values;", true)
  | 2 => ("ScriptLedger$Machine", "frameKinds", "[I", true)
  | 3 => ("ScriptLedger$Machine", "frameFirsts", "[I", true)
  | 4 => ("ScriptLedger$Machine", "frameSeconds", "[I", true)
  | 5 => ("ScriptLedger$Machine", "frames", "I", false)
  | 6 => ("ScriptLedger$Machine", "mode", "I", false)
  | 7 => ("ScriptLedger$Machine", "place", "I", false)
  | 8 => ("ScriptLedger$Machine", "around", "I", false)
  | 9 => ("ScriptLedger$Machine", "value", "I", false)
  | 10 => ("ScriptLedger$Machine", "argument", "I", false)
  | 11 => ("ScriptLedger$Machine", "budget", "I", false)
  | 12 => ("ScriptLedger$Machine", "steps", "I", false)
  | 13 => ("ScriptLedger$Machine", "outcome", "I", false)
  | 14 => ("ScriptLedger$Machine", "resultKind", "I", false)
  | _ => ("ScriptLedger$Machine", "resultNumber", "I", false)
def ju_2 : Nat → FieldType := fun k => match k with
  | 0 => .object "ScriptLedger$Scripts"
  | 1 => .object "ScriptLedger$Values"
  | 2 => .array .int
  | 3 => .array .int
  | 4 => .array .int
  | 5 => .int
  | 6 => .int
  | 7 => .int
  | 8 => .int
  | 9 => .int
  | 10 => .int
  | 11 => .int
  | 12 => .int
  | 13 => .int
  | 14 => .int
  | _ => .int
theorem jnm_2 : ∀ a, a < 16 → ∀ b, b < 16 → a ≠ b → (jr_2 a).2.1 ≠ (jr_2 b).2.1 := by decide +kernel
theorem jty_2 : ∀ a, a < 16 → parseFieldDescriptor (jr_2 a).2.2.1 = some (ju_2 a) := by decide +kernel
def jr_3 : u_T := fun k => match k with
  | 0 => ("ScriptLedger$Scripts", "bytes", "[I", true)
  | 1 => ("ScriptLedger$Scripts", "seconds", "[I", true)
  | _ => ("ScriptLedger$Scripts", "count", "I", false)
def ju_3 : Nat → FieldType := fun k => match k with
  | 0 => .array .int
  | 1 => .array .int
  | _ => .int
theorem jnm_3 : ∀ a, a < 3 → ∀ b, b < 3 → a ≠ b → (jr_3 a).2.1 ≠ (jr_3 b).2.1 := by decide +kernel
theorem jty_3 : ∀ a, a < 3 → parseFieldDescriptor (jr_3 a).2.2.1 = some (ju_3 a) := by decide +kernel
def jr_4 : u_T := fun k => match k with
  | 0 => ("ScriptLedger$Values", "kinds", "[I", true)
  | 1 => ("ScriptLedger$Values", "firsts", "[I", true)
  | 2 => ("ScriptLedger$Values", "seconds", "[I", true)
  | 3 => ("ScriptLedger$Values", "sizes", "[I", true)
  | _ => ("ScriptLedger$Values", "used", "I", false)
def ju_4 : Nat → FieldType := fun k => match k with
  | 0 => .array .int
  | 1 => .array .int
  | 2 => .array .int
  | 3 => .array .int
  | _ => .int
theorem jnm_4 : ∀ a, a < 5 → ∀ b, b < 5 → a ≠ b → (jr_4 a).2.1 ≠ (jr_4 b).2.1 := by decide +kernel
theorem jty_4 : ∀ a, a < 5 → parseFieldDescriptor (jr_4 a).2.2.1 = some (ju_4 a) := by decide +kernel
def jr_5 : u_T := fun k => match k with
  | 0 => ("ScriptLedger$Ledger", "row", "LScriptLedger$OutputRow;", true)
  | 1 => ("ScriptLedger$Ledger", "spentAt", "[I", true)
  | 2 => ("ScriptLedger$Ledger", "sizeAt", "[I", true)
  | 3 => ("ScriptLedger$Ledger", "potAt", "[I", true)
  | 4 => ("ScriptLedger$Ledger", "pot", "I", false)
  | _ => ("ScriptLedger$Ledger", "height", "I", false)
def ju_5 : Nat → FieldType := fun k => match k with
  | 0 => .object "ScriptLedger$OutputRow"
  | 1 => .array .int
  | 2 => .array .int
  | 3 => .array .int
  | 4 => .int
  | _ => .int
theorem jnm_5 : ∀ a, a < 6 → ∀ b, b < 6 → a ≠ b → (jr_5 a).2.1 ≠ (jr_5 b).2.1 := by decide +kernel
theorem jty_5 : ∀ a, a < 6 → parseFieldDescriptor (jr_5 a).2.2.1 = some (ju_5 a) := by decide +kernel
def jr_6 : u_T := fun k => match k with
  | 0 => ("ScriptLedger$OutputRow", "locks", "[I", true)
  | 1 => ("ScriptLedger$OutputRow", "data", "[I", true)
  | 2 => ("ScriptLedger$OutputRow", "amounts", "[I", true)
  | _ => ("ScriptLedger$OutputRow", "size", "I", false)
def ju_6 : Nat → FieldType := fun k => match k with
  | 0 => .array .int
  | 1 => .array .int
  | 2 => .array .int
  | _ => .int
theorem jnm_6 : ∀ a, a < 4 → ∀ b, b < 4 → a ≠ b → (jr_6 a).2.1 ≠ (jr_6 b).2.1 := by decide +kernel
theorem jty_6 : ∀ a, a < 4 → parseFieldDescriptor (jr_6 a).2.2.1 = some (ju_6 a) := by decide +kernel
def jr_7 : u_T := fun k => match k with
  | 0 => ("ScriptLedger$Transaction", "inputs", "[I", true)
  | 1 => ("ScriptLedger$Transaction", "redeemers", "[I", true)
  | 2 => ("ScriptLedger$Transaction", "inputCount", "I", false)
  | 3 => ("ScriptLedger$Transaction", "gifts", "LScriptLedger$OutputRow;", true)
  | 4 => ("ScriptLedger$Transaction", "minted", "[I", true)
  | 5 => ("ScriptLedger$Transaction", "mintRedeemers", "[I", true)
  | 6 => ("ScriptLedger$Transaction", "fee", "I", false)
  | 7 => ("ScriptLedger$Transaction", "from", "I", false)
  | 8 => ("ScriptLedger$Transaction", "to", "I", false)
  | 9 => ("ScriptLedger$Transaction", "signers", "I", false)
  | 10 => ("ScriptLedger$Transaction", "budget", "I", false)
  | _ => ("ScriptLedger$Transaction", "guarantee", "I", false)
def ju_7 : Nat → FieldType := fun k => match k with
  | 0 => .array .int
  | 1 => .array .int
  | 2 => .int
  | 3 => .object "ScriptLedger$OutputRow"
  | 4 => .array .int
  | 5 => .array .int
  | 6 => .int
  | 7 => .int
  | 8 => .int
  | 9 => .int
  | 10 => .int
  | _ => .int
theorem jnm_7 : ∀ a, a < 12 → ∀ b, b < 12 → a ≠ b → (jr_7 a).2.1 ≠ (jr_7 b).2.1 := by decide +kernel
theorem jty_7 : ∀ a, a < 12 → parseFieldDescriptor (jr_7 a).2.2.1 = some (ju_7 a) := by decide +kernel
def jr_8 : u_T := fun k => match k with
  | 0 => ("ScriptLedgerModel", "scripts", "I", false)
  | 1 => ("ScriptLedgerModel", "code", "[I", true)
  | 2 => ("ScriptLedgerModel", "size", "[I", true)
  | 3 => ("ScriptLedgerModel", "typed", "I", false)
  | 4 => ("ScriptLedgerModel", "draft", "[I", true)
  | 5 => ("ScriptLedgerModel", "values", "I", false)
  | 6 => ("ScriptLedgerModel", "kind", "[I", true)
  | 7 => ("ScriptLedgerModel", "a", "[I", true)
  | 8 => ("ScriptLedgerModel", "b", "[I", true)
  | 9 => ("ScriptLedgerModel", "c", "[I", true)
  | 10 => ("ScriptLedgerModel", "d", "[I", true)
  | 11 => ("ScriptLedgerModel", "cells", "I", false)
  | 12 => ("ScriptLedgerModel", "held", "[I", true)
  | 13 => ("ScriptLedgerModel", "behind", "[I", true)
  | 14 => ("ScriptLedgerModel", "depth", "I", false)
  | 15 => ("ScriptLedgerModel", "todo", "[I", true)
  | 16 => ("ScriptLedgerModel", "todoA", "[I", true)
  | 17 => ("ScriptLedgerModel", "todoB", "[I", true)
  | 18 => ("ScriptLedgerModel", "place", "I", false)
  | 19 => ("ScriptLedgerModel", "around", "I", false)
  | 20 => ("ScriptLedgerModel", "value", "I", false)
  | 21 => ("ScriptLedgerModel", "steps", "I", false)
  | 22 => ("ScriptLedgerModel", "budget", "I", false)
  | 23 => ("ScriptLedgerModel", "outcome", "I", false)
  | 24 => ("ScriptLedgerModel", "ran", "Z", false)
  | 25 => ("ScriptLedgerModel", "outputs", "I", false)
  | 26 => ("ScriptLedgerModel", "amount", "[I", true)
  | 27 => ("ScriptLedgerModel", "lock", "[I", true)
  | 28 => ("ScriptLedgerModel", "datum", "[I", true)
  | 29 => ("ScriptLedgerModel", "madeAt", "[I", true)
  | 30 => ("ScriptLedgerModel", "spentAt", "[I", true)
  | 31 => ("ScriptLedgerModel", "height", "I", false)
  | 32 => ("ScriptLedgerModel", "income", "[I", true)
  | 33 => ("ScriptLedgerModel", "inputs", "I", false)
  | 34 => ("ScriptLedgerModel", "input", "[I", true)
  | 35 => ("ScriptLedgerModel", "redeemer", "[I", true)
  | 36 => ("ScriptLedgerModel", "gifts", "I", false)
  | 37 => ("ScriptLedgerModel", "giftLock", "[I", true)
  | 38 => ("ScriptLedgerModel", "giftDatum", "[I", true)
  | 39 => ("ScriptLedgerModel", "gift", "[I", true)
  | 40 => ("ScriptLedgerModel", "minted", "[I", true)
  | 41 => ("ScriptLedgerModel", "mintRedeemer", "[I", true)
  | 42 => ("ScriptLedgerModel", "fee", "I", false)
  | 43 => ("ScriptLedgerModel", "from", "I", false)
  | 44 => ("ScriptLedgerModel", "to", "I", false)
  | 45 => ("ScriptLedgerModel", "signers", "I", false)
  | 46 => ("ScriptLedgerModel", "allowance", "I", false)
  | 47 => ("ScriptLedgerModel", "pledge", "I", false)
  | 48 => ("ScriptLedgerModel", "deep", "[I", true)
  | _ => ("ScriptLedgerModel", "lambdas", "[I", true)
def ju_8 : Nat → FieldType := fun k => match k with
  | 0 => .int
  | 1 => .array .int
  | 2 => .array .int
  | 3 => .int
  | 4 => .array .int
  | 5 => .int
  | 6 => .array .int
  | 7 => .array .int
  | 8 => .array .int
  | 9 => .array .int
  | 10 => .array .int
  | 11 => .int
  | 12 => .array .int
  | 13 => .array .int
  | 14 => .int
  | 15 => .array .int
  | 16 => .array .int
  | 17 => .array .int
  | 18 => .int
  | 19 => .int
  | 20 => .int
  | 21 => .int
  | 22 => .int
  | 23 => .int
  | 24 => .boolean
  | 25 => .int
  | 26 => .array .int
  | 27 => .array .int
  | 28 => .array .int
  | 29 => .array .int
  | 30 => .array .int
  | 31 => .int
  | 32 => .array .int
  | 33 => .int
  | 34 => .array .int
  | 35 => .array .int
  | 36 => .int
  | 37 => .array .int
  | 38 => .array .int
  | 39 => .array .int
  | 40 => .array .int
  | 41 => .array .int
  | 42 => .int
  | 43 => .int
  | 44 => .int
  | 45 => .int
  | 46 => .int
  | 47 => .int
  | 48 => .array .int
  | _ => .array .int
theorem jnm_8 : ∀ a, a < 50 → ∀ b, b < 50 → a ≠ b → (jr_8 a).2.1 ≠ (jr_8 b).2.1 := by decide +kernel
theorem jty_8 : ∀ a, a < 50 → parseFieldDescriptor (jr_8 a).2.2.1 = some (ju_8 a) := by decide +kernel
abbrev jx_cl : List vw_C := [("ScriptLedger", jr_0, 6), ("ScriptLedger$Draft", jr_1, 2), ("ScriptLedger$Machine", jr_2, 16), ("ScriptLedger$Scripts", jr_3, 3), ("ScriptLedger$Values", jr_4, 5), ("ScriptLedger$Ledger", jr_5, 6), ("ScriptLedger$OutputRow", jr_6, 4), ("ScriptLedger$Transaction", jr_7, 12), ("ScriptLedgerModel", jr_8, 50)]
def jy_0 : MethodName := ⟨"ScriptLedger", "<init>", "(I)V"⟩
def jy_1 : MethodName := ⟨"ScriptLedger", "type", "(JI)Z"⟩
def jy_2 : MethodName := ⟨"ScriptLedger", "define", "()I"⟩
def jy_3 : MethodName := ⟨"ScriptLedger", "run", "(IIII)I"⟩
def jy_4 : MethodName := ⟨"ScriptLedger", "result", "(I)I"⟩
def jy_5 : MethodName := ⟨"ScriptLedger", "begin", "()V"⟩
def jy_6 : MethodName := ⟨"ScriptLedger", "spend", "(II)Z"⟩
def jy_7 : MethodName := ⟨"ScriptLedger", "give", "(IIIII)Z"⟩
def jy_8 : MethodName := ⟨"ScriptLedger", "mint", "(III)Z"⟩
def jy_9 : MethodName := ⟨"ScriptLedger", "terms", "(IIIII)Z"⟩
def jy_10 : MethodName := ⟨"ScriptLedger", "guarantee", "(I)Z"⟩
def jy_11 : MethodName := ⟨"ScriptLedger", "submit", "()I"⟩
def jy_12 : MethodName := ⟨"ScriptLedger", "block", "()I"⟩
def jy_13 : MethodName := ⟨"ScriptLedger", "rollback", "(I)I"⟩
def jy_14 : MethodName := ⟨"ScriptLedger", "outputs", "()I"⟩
def jy_15 : MethodName := ⟨"ScriptLedger", "about", "(II)I"⟩
def jy_16 : MethodName := ⟨"ScriptLedger", "total", "(I)I"⟩
def jy_17 : MethodName := ⟨"ScriptLedger", "pot", "()I"⟩
def jy_18 : MethodName := ⟨"ScriptLedger", "height", "()I"⟩
def jy_19 : MethodName := ⟨"ScriptLedger", "isAmount", "(I)Z"⟩
def jy_20 : MethodName := ⟨"ScriptLedger", "firstFault", "()I"⟩
def jy_21 : MethodName := ⟨"ScriptLedger", "inputsAreUnspent", "()Z"⟩
def jy_22 : MethodName := ⟨"ScriptLedger", "isBalanced", "()Z"⟩
def jy_23 : MethodName := ⟨"ScriptLedger", "sumOfInputs", "(I)I"⟩
def jy_24 : MethodName := ⟨"ScriptLedger", "keysHaveSigned", "()Z"⟩
def jy_25 : MethodName := ⟨"ScriptLedger", "scriptsAreDefined", "()Z"⟩
def jy_26 : MethodName := ⟨"ScriptLedger", "needsScript", "()Z"⟩
def jy_27 : MethodName := ⟨"ScriptLedger", "policyOf", "(I)I"⟩
def jy_28 : MethodName := ⟨"ScriptLedger", "isGuaranteed", "()Z"⟩
def jy_29 : MethodName := ⟨"ScriptLedger", "scriptsAgree", "()Z"⟩
def jy_30 : MethodName := ⟨"ScriptLedger", "fillContext", "()V"⟩
def jy_31 : MethodName := ⟨"ScriptLedger", "carryOut", "()V"⟩
def jy_32 : MethodName := ⟨"ScriptLedger$Draft", "<init>", "()V"⟩
def jy_33 : MethodName := ⟨"ScriptLedger$Draft", "append", "(JI)V"⟩
def jy_34 : MethodName := ⟨"ScriptLedger$Machine", "<init>", "()V"⟩
def jy_35 : MethodName := ⟨"ScriptLedger$Machine", "evaluate", "(III[II)V"⟩
def jy_36 : MethodName := ⟨"ScriptLedger$Machine", "prepare", "(II)V"⟩
def jy_37 : MethodName := ⟨"ScriptLedger$Machine", "listOf", "([I)I"⟩
def jy_38 : MethodName := ⟨"ScriptLedger$Machine", "beginTerm", "()V"⟩
def jy_39 : MethodName := ⟨"ScriptLedger$Machine", "handOnValue", "()V"⟩
def jy_40 : MethodName := ⟨"ScriptLedger$Machine", "force", "()V"⟩
def jy_41 : MethodName := ⟨"ScriptLedger$Machine", "apply", "()V"⟩
def jy_42 : MethodName := ⟨"ScriptLedger$Machine", "takeArgument", "()V"⟩
def jy_43 : MethodName := ⟨"ScriptLedger$Machine", "doBuiltin", "()V"⟩
def jy_44 : MethodName := ⟨"ScriptLedger$Machine", "reckon", "(III)V"⟩
def jy_45 : MethodName := ⟨"ScriptLedger$Machine", "reckoned", "(III)I"⟩
def jy_46 : MethodName := ⟨"ScriptLedger$Machine", "choose", "(III)V"⟩
def jy_47 : MethodName := ⟨"ScriptLedger$Machine", "putInFront", "(II)V"⟩
def jy_48 : MethodName := ⟨"ScriptLedger$Machine", "lookInto", "(II)V"⟩
def jy_49 : MethodName := ⟨"ScriptLedger$Machine", "pay", "(I)Z"⟩
def jy_50 : MethodName := ⟨"ScriptLedger$Machine", "push", "(III)V"⟩
def jy_51 : MethodName := ⟨"ScriptLedger$Machine", "goTo", "(II)V"⟩
def jy_52 : MethodName := ⟨"ScriptLedger$Machine", "found", "(I)V"⟩
def jy_53 : MethodName := ⟨"ScriptLedger$Machine", "stop", "(I)V"⟩
def jy_54 : MethodName := ⟨"ScriptLedger$Machine", "finish", "()V"⟩
def jy_55 : MethodName := ⟨"ScriptLedger$Scripts", "<init>", "()V"⟩
def jy_56 : MethodName := ⟨"ScriptLedger$Scripts", "has", "(I)Z"⟩
def jy_57 : MethodName := ⟨"ScriptLedger$Scripts", "startOf", "(I)I"⟩
def jy_58 : MethodName := ⟨"ScriptLedger$Scripts", "read", "([II)I"⟩
def jy_59 : MethodName := ⟨"ScriptLedger$Scripts", "behindTerm", "([I[IIIII)I"⟩
def jy_60 : MethodName := ⟨"ScriptLedger$Scripts", "behindByte", "([IIII)I"⟩
def jy_61 : MethodName := ⟨"ScriptLedger$Values", "<init>", "()V"⟩
def jy_62 : MethodName := ⟨"ScriptLedger$Values", "clear", "()V"⟩
def jy_63 : MethodName := ⟨"ScriptLedger$Values", "make", "(IIII)I"⟩
def jy_64 : MethodName := ⟨"ScriptLedger$Values", "makePlain", "(II)I"⟩
def jy_65 : MethodName := ⟨"ScriptLedger$Values", "makeList", "(II)I"⟩
def jy_66 : MethodName := ⟨"ScriptLedger$Values", "inChain", "(II)I"⟩
def jy_67 : MethodName := ⟨"ScriptLedger$Ledger", "<init>", "(I)V"⟩
def jy_68 : MethodName := ⟨"ScriptLedger$Ledger", "has", "(I)Z"⟩
def jy_69 : MethodName := ⟨"ScriptLedger$Ledger", "isUnspent", "(I)Z"⟩
def jy_70 : MethodName := ⟨"ScriptLedger$Ledger", "markSpent", "(I)V"⟩
def jy_71 : MethodName := ⟨"ScriptLedger$Ledger", "addFrom", "(LScriptLedger$OutputRow;I)V"⟩
def jy_72 : MethodName := ⟨"ScriptLedger$Ledger", "seize", "(I)V"⟩
def jy_73 : MethodName := ⟨"ScriptLedger$Ledger", "sumUnspent", "(I)I"⟩
def jy_74 : MethodName := ⟨"ScriptLedger$Ledger", "grow", "()V"⟩
def jy_75 : MethodName := ⟨"ScriptLedger$Ledger", "takeBackTo", "(I)V"⟩
def jy_76 : MethodName := ⟨"ScriptLedger$OutputRow", "<init>", "(I)V"⟩
def jy_77 : MethodName := ⟨"ScriptLedger$OutputRow", "hasRoomFor", "(I)Z"⟩
def jy_78 : MethodName := ⟨"ScriptLedger$OutputRow", "add", "(IIIII)V"⟩
def jy_79 : MethodName := ⟨"ScriptLedger$OutputRow", "amountOf", "(II)I"⟩
def jy_80 : MethodName := ⟨"ScriptLedger$OutputRow", "sum", "(I)I"⟩
def jy_81 : MethodName := ⟨"ScriptLedger$Transaction", "<init>", "()V"⟩
def jy_82 : MethodName := ⟨"ScriptLedger$Transaction", "clear", "()V"⟩
def jy_83 : MethodName := ⟨"ScriptLedger$Transaction", "agree", "(IIIII)V"⟩
def jy_84 : MethodName := ⟨"ScriptLedger$Transaction", "hasInput", "(I)Z"⟩
def jy_85 : MethodName := ⟨"ScriptLedger$Transaction", "addInput", "(II)V"⟩
def jy_86 : MethodName := ⟨"ScriptLedger$Transaction", "leastFee", "()I"⟩
def jy_87 : MethodName := ⟨"ScriptLedger$Transaction", "isSignedBy", "(I)Z"⟩
def jy_88 : MethodName := ⟨"ScriptLedgerModel", "<init>", "(I)V"⟩
def jy_89 : MethodName := ⟨"ScriptLedgerModel", "out", "(II)Z"⟩
def jy_90 : MethodName := ⟨"ScriptLedgerModel", "type", "(JI)Z"⟩
def jy_91 : MethodName := ⟨"ScriptLedgerModel", "formed", "()Z"⟩
def jy_92 : MethodName := ⟨"ScriptLedgerModel", "define", "()I"⟩
def jy_93 : MethodName := ⟨"ScriptLedgerModel", "behindTerm", "(I)I"⟩
def jy_94 : MethodName := ⟨"ScriptLedgerModel", "make", "(IIIII)I"⟩
def jy_95 : MethodName := ⟨"ScriptLedgerModel", "whole", "(I)I"⟩
def jy_96 : MethodName := ⟨"ScriptLedgerModel", "cons", "(II)I"⟩
def jy_97 : MethodName := ⟨"ScriptLedgerModel", "arguments", "(I)I"⟩
def jy_98 : MethodName := ⟨"ScriptLedgerModel", "pay", "(I)Z"⟩
def jy_99 : MethodName := ⟨"ScriptLedgerModel", "fail", "()Z"⟩
def jy_100 : MethodName := ⟨"ScriptLedgerModel", "later", "(III)V"⟩
def jy_101 : MethodName := ⟨"ScriptLedgerModel", "evaluate", "()Z"⟩
def jy_102 : MethodName := ⟨"ScriptLedgerModel", "goOn", "()Z"⟩
def jy_103 : MethodName := ⟨"ScriptLedgerModel", "apply", "(II)Z"⟩
def jy_104 : MethodName := ⟨"ScriptLedgerModel", "isWhole", "(I)Z"⟩
def jy_105 : MethodName := ⟨"ScriptLedgerModel", "done", "(IIII)Z"⟩
def jy_106 : MethodName := ⟨"ScriptLedgerModel", "reckon", "(III)Z"⟩
def jy_107 : MethodName := ⟨"ScriptLedgerModel", "runWith", "(IIIII)V"⟩
def jy_108 : MethodName := ⟨"ScriptLedgerModel", "run", "(IIII)I"⟩
def jy_109 : MethodName := ⟨"ScriptLedgerModel", "result", "(I)I"⟩
def jy_110 : MethodName := ⟨"ScriptLedgerModel", "begin", "()V"⟩
def jy_111 : MethodName := ⟨"ScriptLedgerModel", "isInput", "(I)Z"⟩
def jy_112 : MethodName := ⟨"ScriptLedgerModel", "spend", "(II)Z"⟩
def jy_113 : MethodName := ⟨"ScriptLedgerModel", "give", "(IIIII)Z"⟩
def jy_114 : MethodName := ⟨"ScriptLedgerModel", "mint", "(III)Z"⟩
def jy_115 : MethodName := ⟨"ScriptLedgerModel", "terms", "(IIIII)Z"⟩
def jy_116 : MethodName := ⟨"ScriptLedgerModel", "guarantee", "(I)Z"⟩
def jy_117 : MethodName := ⟨"ScriptLedgerModel", "there", "(I)Z"⟩
def jy_118 : MethodName := ⟨"ScriptLedgerModel", "inputsThere", "()Z"⟩
def jy_119 : MethodName := ⟨"ScriptLedgerModel", "balanced", "()Z"⟩
def jy_120 : MethodName := ⟨"ScriptLedgerModel", "signed", "(I)Z"⟩
def jy_121 : MethodName := ⟨"ScriptLedgerModel", "allSigned", "()Z"⟩
def jy_122 : MethodName := ⟨"ScriptLedgerModel", "needed", "()I"⟩
def jy_123 : MethodName := ⟨"ScriptLedgerModel", "pledged", "()Z"⟩
def jy_124 : MethodName := ⟨"ScriptLedgerModel", "phaseOne", "()I"⟩
def jy_125 : MethodName := ⟨"ScriptLedgerModel", "context", "(I)I"⟩
def jy_126 : MethodName := ⟨"ScriptLedgerModel", "agrees", "(IIIII)Z"⟩
def jy_127 : MethodName := ⟨"ScriptLedgerModel", "phaseTwo", "()Z"⟩
def jy_128 : MethodName := ⟨"ScriptLedgerModel", "takeEffect", "()V"⟩
def jy_129 : MethodName := ⟨"ScriptLedgerModel", "submit", "()I"⟩
def jy_130 : MethodName := ⟨"ScriptLedgerModel", "block", "()I"⟩
def jy_131 : MethodName := ⟨"ScriptLedgerModel", "rollback", "(I)I"⟩
def jy_132 : MethodName := ⟨"ScriptLedgerModel", "outputs", "()I"⟩
def jy_133 : MethodName := ⟨"ScriptLedgerModel", "about", "(II)I"⟩
def jy_134 : MethodName := ⟨"ScriptLedgerModel", "total", "(I)I"⟩
def jy_135 : MethodName := ⟨"ScriptLedgerModel", "pot", "()I"⟩
def jy_136 : MethodName := ⟨"ScriptLedgerModel", "height", "()I"⟩
def jy_137 : MethodName := ⟨"ScriptLedgerLaw", "cell", "([II)I"⟩
abbrev jy_138 : MethodName := x
def jx_mt (k : Nat) : MethodName × ByteArray × Nat × Option FieldType := bif Nat.ble k 69 then (bif Nat.ble k 34 then (bif Nat.ble k 17 then (bif Nat.ble k 8 then (bif Nat.ble k 4 then (bif Nat.ble k 2 then (bif Nat.ble k 1 then (bif Nat.ble k 0 then ((jy_0, prog_1_method_1_code, 2, none)) else ((jy_1, prog_1_method_2_code, 4, (some .boolean)))) else ((jy_2, prog_1_method_3_code, 2, (some .int)))) else (bif Nat.ble k 3 then ((jy_3, prog_1_method_4_code, 5, (some .int))) else ((jy_4, prog_1_method_5_code, 2, (some .int))))) else (bif Nat.ble k 6 then (bif Nat.ble k 5 then ((jy_5, prog_1_method_6_code, 1, none)) else ((jy_6, prog_1_method_7_code, 3, (some .boolean)))) else (bif Nat.ble k 7 then ((jy_7, prog_1_method_8_code, 6, (some .boolean))) else ((jy_8, prog_1_method_9_code, 4, (some .boolean)))))) else (bif Nat.ble k 13 then (bif Nat.ble k 11 then (bif Nat.ble k 10 then (bif Nat.ble k 9 then ((jy_9, prog_1_method_10_code, 6, (some .boolean))) else ((jy_10, prog_1_method_11_code, 2, (some .boolean)))) else ((jy_11, prog_1_method_12_code, 2, (some .int)))) else (bif Nat.ble k 12 then ((jy_12, prog_1_method_13_code, 1, (some .int))) else ((jy_13, prog_1_method_14_code, 2, (some .int))))) else (bif Nat.ble k 15 then (bif Nat.ble k 14 then ((jy_14, prog_1_method_15_code, 1, (some .int))) else ((jy_15, prog_1_method_16_code, 3, (some .int)))) else (bif Nat.ble k 16 then ((jy_16, prog_1_method_17_code, 2, (some .int))) else ((jy_17, prog_1_method_18_code, 1, (some .int))))))) else (bif Nat.ble k 26 then (bif Nat.ble k 22 then (bif Nat.ble k 20 then (bif Nat.ble k 19 then (bif Nat.ble k 18 then ((jy_18, prog_1_method_19_code, 1, (some .int))) else ((jy_19, prog_1_method_20_code, 1, (some .boolean)))) else ((jy_20, prog_1_method_21_code, 1, (some .int)))) else (bif Nat.ble k 21 then ((jy_21, prog_1_method_22_code, 2, (some .boolean))) else ((jy_22, prog_1_method_23_code, 4, (some .boolean))))) else (bif Nat.ble k 24 then (bif Nat.ble k 23 then ((jy_23, prog_1_method_24_code, 4, (some .int))) else ((jy_24, prog_1_method_25_code, 3, (some .boolean)))) else (bif Nat.ble k 25 then ((jy_25, prog_1_method_26_code, 3, (some .boolean))) else ((jy_26, prog_1_method_27_code, 2, (some .boolean)))))) else (bif Nat.ble k 30 then (bif Nat.ble k 28 then (bif Nat.ble k 27 then ((jy_27, prog_1_method_28_code, 1, (some .int))) else ((jy_28, prog_1_method_29_code, 3, (some .boolean)))) else (bif Nat.ble k 29 then ((jy_29, prog_1_method_30_code, 5, (some .boolean))) else ((jy_30, prog_1_method_31_code, 1, none)))) else (bif Nat.ble k 32 then (bif Nat.ble k 31 then ((jy_31, prog_1_method_32_code, 2, none)) else ((jy_32, prog_2_method_1_code, 1, none))) else (bif Nat.ble k 33 then ((jy_33, prog_2_method_2_code, 5, none)) else ((jy_34, prog_4_method_1_code, 1, none))))))) else (bif Nat.ble k 52 then (bif Nat.ble k 43 then (bif Nat.ble k 39 then (bif Nat.ble k 37 then (bif Nat.ble k 36 then (bif Nat.ble k 35 then ((jy_35, prog_4_method_2_code, 7, none)) else ((jy_36, prog_4_method_3_code, 3, none))) else ((jy_37, prog_4_method_4_code, 4, (some .int)))) else (bif Nat.ble k 38 then ((jy_38, prog_4_method_5_code, 2, none)) else ((jy_39, prog_4_method_6_code, 1, none)))) else (bif Nat.ble k 41 then (bif Nat.ble k 40 then ((jy_40, prog_4_method_7_code, 1, none)) else ((jy_41, prog_4_method_8_code, 1, none))) else (bif Nat.ble k 42 then ((jy_42, prog_4_method_9_code, 4, none)) else ((jy_43, prog_4_method_10_code, 4, none))))) else (bif Nat.ble k 48 then (bif Nat.ble k 46 then (bif Nat.ble k 45 then (bif Nat.ble k 44 then ((jy_44, prog_4_method_11_code, 6, none)) else ((jy_45, prog_4_method_12_code, 3, (some .int)))) else ((jy_46, prog_4_method_13_code, 4, none))) else (bif Nat.ble k 47 then ((jy_47, prog_4_method_14_code, 4, none)) else ((jy_48, prog_4_method_15_code, 5, none)))) else (bif Nat.ble k 50 then (bif Nat.ble k 49 then ((jy_49, prog_4_method_16_code, 2, (some .boolean))) else ((jy_50, prog_4_method_17_code, 4, none))) else (bif Nat.ble k 51 then ((jy_51, prog_4_method_18_code, 3, none)) else ((jy_52, prog_4_method_19_code, 2, none)))))) else (bif Nat.ble k 61 then (bif Nat.ble k 57 then (bif Nat.ble k 55 then (bif Nat.ble k 54 then (bif Nat.ble k 53 then ((jy_53, prog_4_method_20_code, 2, none)) else ((jy_54, prog_4_method_21_code, 3, none))) else ((jy_55, prog_6_method_1_code, 1, none))) else (bif Nat.ble k 56 then ((jy_56, prog_6_method_2_code, 2, (some .boolean))) else ((jy_57, prog_6_method_3_code, 2, (some .int))))) else (bif Nat.ble k 59 then (bif Nat.ble k 58 then ((jy_58, prog_6_method_4_code, 6, (some .int))) else ((jy_59, prog_6_method_5_code, 6, (some .int)))) else (bif Nat.ble k 60 then ((jy_60, prog_6_method_6_code, 4, (some .int))) else ((jy_61, prog_8_method_1_code, 1, none))))) else (bif Nat.ble k 65 then (bif Nat.ble k 63 then (bif Nat.ble k 62 then ((jy_62, prog_8_method_2_code, 1, none)) else ((jy_63, prog_8_method_3_code, 5, (some .int)))) else (bif Nat.ble k 64 then ((jy_64, prog_8_method_4_code, 3, (some .int))) else ((jy_65, prog_8_method_5_code, 3, (some .int))))) else (bif Nat.ble k 67 then (bif Nat.ble k 66 then ((jy_66, prog_8_method_6_code, 5, (some .int))) else ((jy_67, prog_3_method_1_code, 4, none))) else (bif Nat.ble k 68 then ((jy_68, prog_3_method_2_code, 2, (some .boolean))) else ((jy_69, prog_3_method_3_code, 2, (some .boolean))))))))) else (bif Nat.ble k 104 then (bif Nat.ble k 87 then (bif Nat.ble k 78 then (bif Nat.ble k 74 then (bif Nat.ble k 72 then (bif Nat.ble k 71 then (bif Nat.ble k 70 then ((jy_70, prog_3_method_4_code, 2, none)) else ((jy_71, prog_3_method_5_code, 3, none))) else ((jy_72, prog_3_method_6_code, 2, none))) else (bif Nat.ble k 73 then ((jy_73, prog_3_method_7_code, 4, (some .int))) else ((jy_74, prog_3_method_8_code, 1, none)))) else (bif Nat.ble k 76 then (bif Nat.ble k 75 then ((jy_75, prog_3_method_9_code, 3, none)) else ((jy_76, prog_5_method_1_code, 2, none))) else (bif Nat.ble k 77 then ((jy_77, prog_5_method_2_code, 2, (some .boolean))) else ((jy_78, prog_5_method_3_code, 6, none))))) else (bif Nat.ble k 83 then (bif Nat.ble k 81 then (bif Nat.ble k 80 then (bif Nat.ble k 79 then ((jy_79, prog_5_method_4_code, 3, (some .int))) else ((jy_80, prog_5_method_5_code, 4, (some .int)))) else ((jy_81, prog_7_method_1_code, 1, none))) else (bif Nat.ble k 82 then ((jy_82, prog_7_method_2_code, 2, none)) else ((jy_83, prog_7_method_3_code, 6, none)))) else (bif Nat.ble k 85 then (bif Nat.ble k 84 then ((jy_84, prog_7_method_4_code, 3, (some .boolean))) else ((jy_85, prog_7_method_5_code, 3, none))) else (bif Nat.ble k 86 then ((jy_86, prog_7_method_6_code, 1, (some .int))) else ((jy_87, prog_7_method_7_code, 2, (some .boolean))))))) else (bif Nat.ble k 96 then (bif Nat.ble k 92 then (bif Nat.ble k 90 then (bif Nat.ble k 89 then (bif Nat.ble k 88 then ((jy_88, prog_10_method_1_code, 3, none)) else ((jy_89, prog_10_method_2_code, 2, (some .boolean)))) else ((jy_90, prog_10_method_3_code, 5, (some .boolean)))) else (bif Nat.ble k 91 then ((jy_91, prog_10_method_4_code, 10, (some .boolean))) else ((jy_92, prog_10_method_5_code, 4, (some .int))))) else (bif Nat.ble k 94 then (bif Nat.ble k 93 then ((jy_93, prog_10_method_6_code, 5, (some .int))) else ((jy_94, prog_10_method_7_code, 6, (some .int)))) else (bif Nat.ble k 95 then ((jy_95, prog_10_method_8_code, 2, (some .int))) else ((jy_96, prog_10_method_9_code, 3, (some .int)))))) else (bif Nat.ble k 100 then (bif Nat.ble k 98 then (bif Nat.ble k 97 then ((jy_97, prog_10_method_10_code, 1, (some .int))) else ((jy_98, prog_10_method_11_code, 2, (some .boolean)))) else (bif Nat.ble k 99 then ((jy_99, prog_10_method_12_code, 1, (some .boolean))) else ((jy_100, prog_10_method_13_code, 4, none)))) else (bif Nat.ble k 102 then (bif Nat.ble k 101 then ((jy_101, prog_10_method_14_code, 5, (some .boolean))) else ((jy_102, prog_10_method_15_code, 4, (some .boolean)))) else (bif Nat.ble k 103 then ((jy_103, prog_10_method_16_code, 4, (some .boolean))) else ((jy_104, prog_10_method_17_code, 2, (some .boolean)))))))) else (bif Nat.ble k 121 then (bif Nat.ble k 113 then (bif Nat.ble k 109 then (bif Nat.ble k 107 then (bif Nat.ble k 106 then (bif Nat.ble k 105 then ((jy_105, prog_10_method_18_code, 5, (some .boolean))) else ((jy_106, prog_10_method_19_code, 4, (some .boolean)))) else ((jy_107, prog_10_method_20_code, 7, none))) else (bif Nat.ble k 108 then ((jy_108, prog_10_method_21_code, 8, (some .int))) else ((jy_109, prog_10_method_22_code, 2, (some .int))))) else (bif Nat.ble k 111 then (bif Nat.ble k 110 then ((jy_110, prog_10_method_23_code, 2, none)) else ((jy_111, prog_10_method_24_code, 4, (some .boolean)))) else (bif Nat.ble k 112 then ((jy_112, prog_10_method_25_code, 3, (some .boolean))) else ((jy_113, prog_10_method_26_code, 6, (some .boolean)))))) else (bif Nat.ble k 117 then (bif Nat.ble k 115 then (bif Nat.ble k 114 then ((jy_114, prog_10_method_27_code, 4, (some .boolean))) else ((jy_115, prog_10_method_28_code, 6, (some .boolean)))) else (bif Nat.ble k 116 then ((jy_116, prog_10_method_29_code, 2, (some .boolean))) else ((jy_117, prog_10_method_30_code, 2, (some .boolean))))) else (bif Nat.ble k 119 then (bif Nat.ble k 118 then ((jy_118, prog_10_method_31_code, 3, (some .boolean))) else ((jy_119, prog_10_method_32_code, 8, (some .boolean)))) else (bif Nat.ble k 120 then ((jy_120, prog_10_method_33_code, 2, (some .boolean))) else ((jy_121, prog_10_method_34_code, 3, (some .boolean))))))) else (bif Nat.ble k 130 then (bif Nat.ble k 126 then (bif Nat.ble k 124 then (bif Nat.ble k 123 then (bif Nat.ble k 122 then ((jy_122, prog_10_method_35_code, 3, (some .int))) else ((jy_123, prog_10_method_36_code, 1, (some .boolean)))) else ((jy_124, prog_10_method_37_code, 1, (some .int)))) else (bif Nat.ble k 125 then ((jy_125, prog_10_method_38_code, 4, (some .int))) else ((jy_126, prog_10_method_39_code, 9, (some .boolean))))) else (bif Nat.ble k 128 then (bif Nat.ble k 127 then ((jy_127, prog_10_method_40_code, 4, (some .boolean))) else ((jy_128, prog_10_method_41_code, 3, none))) else (bif Nat.ble k 129 then ((jy_129, prog_10_method_42_code, 2, (some .int))) else ((jy_130, prog_10_method_43_code, 1, (some .int)))))) else (bif Nat.ble k 134 then (bif Nat.ble k 132 then (bif Nat.ble k 131 then ((jy_131, prog_10_method_44_code, 3, (some .int))) else ((jy_132, prog_10_method_45_code, 1, (some .int)))) else (bif Nat.ble k 133 then ((jy_133, prog_10_method_46_code, 3, (some .int))) else ((jy_134, prog_10_method_47_code, 4, (some .int))))) else (bif Nat.ble k 136 then (bif Nat.ble k 135 then ((jy_135, prog_10_method_48_code, 3, (some .int))) else ((jy_136, prog_10_method_49_code, 1, (some .int)))) else (bif Nat.ble k 137 then ((jy_137, method_2_code, 2, (some .int))) else ((jy_138, code, 4, ret))))))))
def jg_0 : List Cond := [.initialized "ScriptLedgerLaw", .initialized "ScriptLedger", .initialized "ScriptLedger$Draft", .initialized "ScriptLedger$Machine", .initialized "ScriptLedger$Scripts", .initialized "ScriptLedger$Values", .initialized "ScriptLedger$Ledger", .initialized "ScriptLedger$OutputRow", .initialized "java/lang/Math", .initialized "ScriptLedger$Transaction", .initialized "ScriptLedgerModel", .classLink "ScriptLedgerLaw" 7 "ScriptLedger", .instantiable "ScriptLedger" 6, .methodLink "ScriptLedgerLaw" 15 jy_0, .instanceMethod jy_0, .code jy_0 prog_1_method_1_code 2 none, .methodLink "ScriptLedger" 1 Lib.objectInit, .instanceMethod Lib.objectInit, .code Lib.objectInit ⟨#[0xb1]⟩ 1 none, .classLink "ScriptLedger" 7 "ScriptLedger$Draft", .instantiable "ScriptLedger$Draft" 2, .instanceMethod jy_32, .code jy_32 prog_2_method_1_code 1 none, .methodLink "ScriptLedger$Draft" 3 Lib.objectInit, .fieldLink "ScriptLedger$Draft" 9 "ScriptLedger$Draft" "bytes" "[I", .fieldLink "ScriptLedger" 58 "ScriptLedger$Draft" "bytes" "[I", .fieldLink "ScriptLedger$Draft" 15 "ScriptLedger$Draft" "size" "I", .fieldLink "ScriptLedger" 46 "ScriptLedger$Draft" "size" "I", .arrayClass .int, .classLink "ScriptLedger" 16 "ScriptLedger$Machine", .instantiable "ScriptLedger$Machine" 16, .instanceMethod jy_34, .code jy_34 prog_4_method_1_code 1 none, .methodLink "ScriptLedger$Machine" 3 Lib.objectInit, .classLink "ScriptLedger$Machine" 9 "ScriptLedger$Scripts", .instantiable "ScriptLedger$Scripts" 3, .instanceMethod jy_55, .code jy_55 prog_6_method_1_code 1 none, .methodLink "ScriptLedger$Scripts" 3 Lib.objectInit, .fieldLink "ScriptLedger$Scripts" 9 "ScriptLedger$Scripts" "bytes" "[I"]
def jg_1 : List Cond := [.fieldLink "ScriptLedger$Machine" 103 "ScriptLedger$Scripts" "bytes" "[I", .fieldLink "ScriptLedger$Scripts" 15 "ScriptLedger$Scripts" "seconds" "[I", .fieldLink "ScriptLedger$Machine" 119 "ScriptLedger$Scripts" "seconds" "[I", .fieldLink "ScriptLedger$Scripts" 18 "ScriptLedger$Scripts" "count" "I", .classLink "ScriptLedger$Machine" 18 "ScriptLedger$Values", .instantiable "ScriptLedger$Values" 5, .instanceMethod jy_61, .code jy_61 prog_8_method_1_code 1 none, .methodLink "ScriptLedger$Values" 1 Lib.objectInit, .fieldLink "ScriptLedger$Values" 9 "ScriptLedger$Values" "kinds" "[I", .fieldLink "ScriptLedger$Machine" 134 "ScriptLedger$Values" "kinds" "[I", .fieldLink "ScriptLedger$Values" 13 "ScriptLedger$Values" "firsts" "[I", .fieldLink "ScriptLedger$Machine" 137 "ScriptLedger$Values" "firsts" "[I", .fieldLink "ScriptLedger$Values" 16 "ScriptLedger$Values" "seconds" "[I", .fieldLink "ScriptLedger$Machine" 140 "ScriptLedger$Values" "seconds" "[I", .fieldLink "ScriptLedger$Values" 19 "ScriptLedger$Values" "sizes" "[I", .fieldLink "ScriptLedger$Machine" 144 "ScriptLedger$Values" "sizes" "[I", .fieldLink "ScriptLedger$Values" 22 "ScriptLedger$Values" "used" "I", .fieldLink "ScriptLedger$Machine" 12 "ScriptLedger$Machine" "scripts" "LScriptLedger$Scripts;", .fieldLink "ScriptLedger" 54 "ScriptLedger$Machine" "scripts" "LScriptLedger$Scripts;", .fieldLink "ScriptLedger$Machine" 21 "ScriptLedger$Machine" "values" "LScriptLedger$Values;", .fieldLink "ScriptLedger$Machine" 25 "ScriptLedger$Machine" "frameKinds" "[I", .fieldLink "ScriptLedger$Machine" 29 "ScriptLedger$Machine" "frameFirsts" "[I", .fieldLink "ScriptLedger$Machine" 32 "ScriptLedger$Machine" "frameSeconds" "[I", .fieldLink "ScriptLedger$Machine" 81 "ScriptLedger$Machine" "frames" "I", .fieldLink "ScriptLedger$Machine" 59 "ScriptLedger$Machine" "mode" "I", .fieldLink "ScriptLedger$Machine" 100 "ScriptLedger$Machine" "place" "I", .fieldLink "ScriptLedger$Machine" 106 "ScriptLedger$Machine" "around" "I", .fieldLink "ScriptLedger$Machine" 125 "ScriptLedger$Machine" "value" "I", .fieldLink "ScriptLedger$Machine" 128 "ScriptLedger$Machine" "argument" "I", .fieldLink "ScriptLedger$Machine" 87 "ScriptLedger$Machine" "budget" "I", .fieldLink "ScriptLedger$Machine" 84 "ScriptLedger$Machine" "steps" "I", .fieldLink "ScriptLedger" 78 "ScriptLedger$Machine" "steps" "I", .fieldLink "ScriptLedger$Machine" 35 "ScriptLedger$Machine" "outcome" "I", .fieldLink "ScriptLedger" 75 "ScriptLedger$Machine" "outcome" "I", .fieldLink "ScriptLedger" 81 "ScriptLedger$Machine" "resultKind" "I", .fieldLink "ScriptLedger$Machine" 169 "ScriptLedger$Machine" "resultKind" "I", .fieldLink "ScriptLedger" 84 "ScriptLedger$Machine" "resultNumber" "I", .fieldLink "ScriptLedger$Machine" 172 "ScriptLedger$Machine" "resultNumber" "I", .classLink "ScriptLedger" 23 "ScriptLedger$Ledger"]
def jg_2 : List Cond := [.instantiable "ScriptLedger$Ledger" 6, .methodLink "ScriptLedger" 25 jy_67, .instanceMethod jy_67, .code jy_67 prog_3_method_1_code 4 none, .methodLink "ScriptLedger$Ledger" 3 Lib.objectInit, .classLink "ScriptLedger$Ledger" 9 "ScriptLedger$OutputRow", .instantiable "ScriptLedger$OutputRow" 4, .methodLink "ScriptLedger$Ledger" 11 jy_76, .instanceMethod jy_76, .code jy_76 prog_5_method_1_code 2 none, .methodLink "ScriptLedger$OutputRow" 3 Lib.objectInit, .fieldLink "ScriptLedger$OutputRow" 9 "ScriptLedger$OutputRow" "locks" "[I", .fieldLink "ScriptLedger$Ledger" 54 "ScriptLedger$OutputRow" "locks" "[I", .fieldLink "ScriptLedger" 162 "ScriptLedger$OutputRow" "locks" "[I", .fieldLink "ScriptLedger$OutputRow" 15 "ScriptLedger$OutputRow" "data" "[I", .fieldLink "ScriptLedger$Ledger" 57 "ScriptLedger$OutputRow" "data" "[I", .fieldLink "ScriptLedger" 165 "ScriptLedger$OutputRow" "data" "[I", .fieldLink "ScriptLedger$OutputRow" 18 "ScriptLedger$OutputRow" "amounts" "[I", .fieldLink "ScriptLedger$Ledger" 40 "ScriptLedger$OutputRow" "size" "I", .fieldLink "ScriptLedger$OutputRow" 21 "ScriptLedger$OutputRow" "size" "I", .fieldLink "ScriptLedger$Transaction" 40 "ScriptLedger$OutputRow" "size" "I", .fieldLink "ScriptLedger" 156 "ScriptLedger$OutputRow" "size" "I", .methodLink "ScriptLedger$Ledger" 30 Lib.Math.max.name, .static Lib.Math.max.name, .code Lib.Math.max.name Lib.Math.max.code 2 (some .int), .methodLink "ScriptLedger$Ledger" 36 jy_78, .instanceMethod jy_78, .selects "ScriptLedger$OutputRow" jy_78 jy_78, .code jy_78 prog_5_method_3_code 6 none, .methodLink "ScriptLedger$OutputRow" 25 jy_77, .instanceMethod jy_77, .selects "ScriptLedger$OutputRow" jy_77 jy_77, .code jy_77 prog_5_method_2_code 2 (some .boolean), .fieldLink "ScriptLedger$Ledger" 14 "ScriptLedger$Ledger" "row" "LScriptLedger$OutputRow;", .fieldLink "ScriptLedger" 153 "ScriptLedger$Ledger" "row" "LScriptLedger$OutputRow;", .fieldLink "ScriptLedger$Ledger" 20 "ScriptLedger$Ledger" "spentAt" "[I", .fieldLink "ScriptLedger$Ledger" 24 "ScriptLedger$Ledger" "sizeAt" "[I", .fieldLink "ScriptLedger$Ledger" 27 "ScriptLedger$Ledger" "potAt" "[I", .fieldLink "ScriptLedger$Ledger" 66 "ScriptLedger$Ledger" "pot" "I", .fieldLink "ScriptLedger" 175 "ScriptLedger$Ledger" "pot" "I"]
def jg_3 : List Cond := [.fieldLink "ScriptLedger$Ledger" 48 "ScriptLedger$Ledger" "height" "I", .fieldLink "ScriptLedger" 144 "ScriptLedger$Ledger" "height" "I", .classLink "ScriptLedger" 32 "ScriptLedger$Transaction", .instantiable "ScriptLedger$Transaction" 12, .methodLink "ScriptLedger" 34 jy_81, .instanceMethod jy_81, .code jy_81 prog_7_method_1_code 1 none, .methodLink "ScriptLedger$Transaction" 3 Lib.objectInit, .classLink "ScriptLedger$Transaction" 18 "ScriptLedger$OutputRow", .methodLink "ScriptLedger$Transaction" 20 jy_76, .methodLink "ScriptLedger$Transaction" 33 jy_82, .instanceMethod jy_82, .selects "ScriptLedger$Transaction" jy_82 jy_82, .code jy_82 prog_7_method_2_code 2 none, .methodLink "ScriptLedger$Transaction" 43 jy_83, .instanceMethod jy_83, .selects "ScriptLedger$Transaction" jy_83 jy_83, .code jy_83 prog_7_method_3_code 6 none, .fieldLink "ScriptLedger$Transaction" 9 "ScriptLedger$Transaction" "inputs" "[I", .fieldLink "ScriptLedger" 208 "ScriptLedger$Transaction" "inputs" "[I", .fieldLink "ScriptLedger$Transaction" 15 "ScriptLedger$Transaction" "redeemers" "[I", .fieldLink "ScriptLedger" 229 "ScriptLedger$Transaction" "redeemers" "[I", .fieldLink "ScriptLedger$Transaction" 36 "ScriptLedger$Transaction" "inputCount" "I", .fieldLink "ScriptLedger" 90 "ScriptLedger$Transaction" "inputCount" "I", .fieldLink "ScriptLedger$Transaction" 23 "ScriptLedger$Transaction" "gifts" "LScriptLedger$OutputRow;", .fieldLink "ScriptLedger" 100 "ScriptLedger$Transaction" "gifts" "LScriptLedger$OutputRow;", .fieldLink "ScriptLedger$Transaction" 27 "ScriptLedger$Transaction" "minted" "[I", .fieldLink "ScriptLedger" 118 "ScriptLedger$Transaction" "minted" "[I", .fieldLink "ScriptLedger$Transaction" 30 "ScriptLedger$Transaction" "mintRedeemers" "[I", .fieldLink "ScriptLedger" 121 "ScriptLedger$Transaction" "mintRedeemers" "[I", .fieldLink "ScriptLedger$Transaction" 50 "ScriptLedger$Transaction" "fee" "I", .fieldLink "ScriptLedger" 187 "ScriptLedger$Transaction" "fee" "I", .fieldLink "ScriptLedger$Transaction" 53 "ScriptLedger$Transaction" "from" "I", .fieldLink "ScriptLedger" 181 "ScriptLedger$Transaction" "from" "I", .fieldLink "ScriptLedger$Transaction" 56 "ScriptLedger$Transaction" "to" "I", .fieldLink "ScriptLedger" 184 "ScriptLedger$Transaction" "to" "I", .fieldLink "ScriptLedger$Transaction" 59 "ScriptLedger$Transaction" "signers" "I", .fieldLink "ScriptLedger" 232 "ScriptLedger$Transaction" "signers" "I", .fieldLink "ScriptLedger$Transaction" 62 "ScriptLedger$Transaction" "budget" "I", .fieldLink "ScriptLedger" 226 "ScriptLedger$Transaction" "budget" "I"]
def jg_4 : List Cond := [.fieldLink "ScriptLedger$Transaction" 47 "ScriptLedger$Transaction" "guarantee" "I", .fieldLink "ScriptLedger" 127 "ScriptLedger$Transaction" "guarantee" "I", .fieldLink "ScriptLedger" 10 "ScriptLedger" "draft" "LScriptLedger$Draft;", .fieldLink "ScriptLedger" 19 "ScriptLedger" "machine" "LScriptLedger$Machine;", .fieldLink "ScriptLedger" 28 "ScriptLedger" "ledger" "LScriptLedger$Ledger;", .fieldLink "ScriptLedger" 35 "ScriptLedger" "transaction" "LScriptLedger$Transaction;", .fieldLink "ScriptLedger" 39 "ScriptLedger" "context" "[I", .fieldLink "ScriptLedger" 43 "ScriptLedger" "emptyContext" "[I", .methodLink "ScriptLedgerLaw" 23 jy_1, .instanceMethod jy_1, .selects "ScriptLedger" jy_1 jy_1, .code jy_1 prog_1_method_2_code 4 (some .boolean), .methodLink "ScriptLedger" 50 jy_33, .instanceMethod jy_33, .selects "ScriptLedger$Draft" jy_33 jy_33, .code jy_33 prog_2_method_2_code 5 none, .methodLink "ScriptLedgerLaw" 28 jy_2, .instanceMethod jy_2, .selects "ScriptLedger" jy_2 jy_2, .code jy_2 prog_1_method_3_code 2 (some .int), .methodLink "ScriptLedger" 61 jy_58, .instanceMethod jy_58, .selects "ScriptLedger$Scripts" jy_58 jy_58, .code jy_58 prog_6_method_4_code 6 (some .int), .methodLink "ScriptLedger$Scripts" 22 jy_57, .instanceMethod jy_57, .selects "ScriptLedger$Scripts" jy_57 jy_57, .code jy_57 prog_6_method_3_code 2 (some .int), .methodLink "ScriptLedger$Scripts" 26 jy_59, .static jy_59, .code jy_59 prog_6_method_5_code 6 (some .int), .methodLink "ScriptLedger$Scripts" 30 jy_60, .static jy_60, .code jy_60 prog_6_method_6_code 4 (some .int), .methodLink "ScriptLedgerLaw" 33 jy_3, .instanceMethod jy_3, .selects "ScriptLedger" jy_3 jy_3, .code jy_3 prog_1_method_4_code 5 (some .int), .methodLink "ScriptLedger" 67 jy_56, .instanceMethod jy_56]
def jg_5 : List Cond := [.selects "ScriptLedger$Scripts" jy_56 jy_56, .code jy_56 prog_6_method_2_code 2 (some .boolean), .methodLink "ScriptLedger" 71 jy_35, .instanceMethod jy_35, .selects "ScriptLedger$Machine" jy_35 jy_35, .code jy_35 prog_4_method_2_code 7 none, .methodLink "ScriptLedger$Machine" 39 jy_57, .methodLink "ScriptLedger$Machine" 43 jy_36, .instanceMethod jy_36, .code jy_36 prog_4_method_3_code 3 none, .methodLink "ScriptLedger$Machine" 78 jy_62, .instanceMethod jy_62, .selects "ScriptLedger$Values" jy_62 jy_62, .code jy_62 prog_8_method_2_code 1 none, .methodLink "ScriptLedger$Values" 26 jy_63, .instanceMethod jy_63, .selects "ScriptLedger$Values" jy_63 jy_63, .code jy_63 prog_8_method_3_code 5 (some .int), .methodLink "ScriptLedger$Machine" 90 jy_51, .instanceMethod jy_51, .code jy_51 prog_4_method_18_code 3 none, .methodLink "ScriptLedger$Machine" 47 jy_37, .instanceMethod jy_37, .code jy_37 prog_4_method_4_code 4 (some .int), .methodLink "ScriptLedger$Machine" 55 jy_64, .instanceMethod jy_64, .selects "ScriptLedger$Values" jy_64 jy_64, .code jy_64 prog_8_method_4_code 3 (some .int), .methodLink "ScriptLedger$Machine" 93 jy_65, .instanceMethod jy_65, .selects "ScriptLedger$Values" jy_65 jy_65, .code jy_65 prog_8_method_5_code 3 (some .int), .methodLink "ScriptLedger$Machine" 51 jy_50, .instanceMethod jy_50, .code jy_50 prog_4_method_17_code 4 none, .methodLink "ScriptLedger$Machine" 74 jy_53, .instanceMethod jy_53, .code jy_53 prog_4_method_20_code 2 none, .methodLink "ScriptLedger$Machine" 62 jy_38, .instanceMethod jy_38]
def jg_6 : List Cond := [.code jy_38 prog_4_method_5_code 2 none, .methodLink "ScriptLedger$Machine" 96 jy_49, .instanceMethod jy_49, .code jy_49 prog_4_method_16_code 2 (some .boolean), .methodLink "ScriptLedger$Machine" 109 jy_66, .instanceMethod jy_66, .selects "ScriptLedger$Values" jy_66 jy_66, .code jy_66 prog_8_method_6_code 5 (some .int), .methodLink "ScriptLedger$Machine" 112 jy_52, .instanceMethod jy_52, .code jy_52 prog_4_method_19_code 2 none, .methodLink "ScriptLedger$Machine" 115 jy_63, .methodLink "ScriptLedger$Machine" 65 jy_39, .instanceMethod jy_39, .code jy_39 prog_4_method_6_code 1 none, .methodLink "ScriptLedger$Machine" 122 jy_54, .instanceMethod jy_54, .code jy_54 prog_4_method_21_code 3 none, .methodLink "ScriptLedger$Machine" 175 Lib.Math.min.name, .static Lib.Math.min.name, .code Lib.Math.min.name Lib.Math.min.code 2 (some .int), .methodLink "ScriptLedger$Machine" 131 jy_40, .instanceMethod jy_40, .code jy_40 prog_4_method_7_code 1 none, .methodLink "ScriptLedger$Machine" 68 jy_41, .instanceMethod jy_41, .code jy_41 prog_4_method_8_code 1 none, .methodLink "ScriptLedger$Machine" 141 jy_42, .instanceMethod jy_42, .code jy_42 prog_4_method_9_code 4 none, .fieldLink "ScriptLedger$Machine" 147 "ScriptLedger$Machine" "ARGUMENTS" "[I", .methodLink "ScriptLedger$Machine" 71 jy_43, .instanceMethod jy_43, .code jy_43 prog_4_method_10_code 4 none, .fieldLink "ScriptLedger$Machine" 150 "ScriptLedger$Machine" "COSTS" "[I", .methodLink "ScriptLedger$Machine" 153 jy_44, .instanceMethod jy_44, .code jy_44 prog_4_method_11_code 6 none, .methodLink "ScriptLedger$Machine" 165 jy_45, .static jy_45]
def jg_7 : List Cond := [.code jy_45 prog_4_method_12_code 3 (some .int), .methodLink "ScriptLedger$Machine" 156 jy_46, .instanceMethod jy_46, .code jy_46 prog_4_method_13_code 4 none, .methodLink "ScriptLedger$Machine" 159 jy_47, .instanceMethod jy_47, .code jy_47 prog_4_method_14_code 4 none, .methodLink "ScriptLedger$Machine" 162 jy_48, .instanceMethod jy_48, .code jy_48 prog_4_method_15_code 5 none, .methodLink "ScriptLedgerLaw" 38 jy_4, .instanceMethod jy_4, .selects "ScriptLedger" jy_4 jy_4, .code jy_4 prog_1_method_5_code 2 (some .int), .methodLink "ScriptLedgerLaw" 43 jy_5, .instanceMethod jy_5, .selects "ScriptLedger" jy_5 jy_5, .code jy_5 prog_1_method_6_code 1 none, .methodLink "ScriptLedger" 87 jy_82, .methodLink "ScriptLedgerLaw" 47 jy_6, .instanceMethod jy_6, .selects "ScriptLedger" jy_6 jy_6, .code jy_6 prog_1_method_7_code 3 (some .boolean), .methodLink "ScriptLedger" 93 jy_84, .instanceMethod jy_84, .selects "ScriptLedger$Transaction" jy_84 jy_84, .code jy_84 prog_7_method_4_code 3 (some .boolean), .methodLink "ScriptLedger" 96 jy_85, .instanceMethod jy_85, .selects "ScriptLedger$Transaction" jy_85 jy_85, .code jy_85 prog_7_method_5_code 3 none, .methodLink "ScriptLedgerLaw" 52 jy_7, .instanceMethod jy_7, .selects "ScriptLedger" jy_7 jy_7, .code jy_7 prog_1_method_8_code 6 (some .boolean), .methodLink "ScriptLedger" 104 jy_77, .methodLink "ScriptLedger" 109 jy_19, .static jy_19, .code jy_19 prog_1_method_20_code 1 (some .boolean), .constant "ScriptLedger" 117 1000000]
def jg_8 : List Cond := [.methodLink "ScriptLedger" 112 jy_78, .methodLink "ScriptLedgerLaw" 57 jy_8, .instanceMethod jy_8, .selects "ScriptLedger" jy_8 jy_8, .code jy_8 prog_1_method_9_code 4 (some .boolean), .constant "ScriptLedger" 116 (-1000000), .methodLink "ScriptLedgerLaw" 62 jy_9, .instanceMethod jy_9, .selects "ScriptLedger" jy_9 jy_9, .code jy_9 prog_1_method_10_code 6 (some .boolean), .methodLink "ScriptLedger" 124 jy_83, .methodLink "ScriptLedgerLaw" 66 jy_10, .instanceMethod jy_10, .selects "ScriptLedger" jy_10 jy_10, .code jy_10 prog_1_method_11_code 2 (some .boolean), .methodLink "ScriptLedgerLaw" 71 jy_11, .instanceMethod jy_11, .selects "ScriptLedger" jy_11 jy_11, .code jy_11 prog_1_method_12_code 2 (some .int), .methodLink "ScriptLedger" 130 jy_20, .instanceMethod jy_20, .code jy_20 prog_1_method_21_code 1 (some .int), .methodLink "ScriptLedger" 178 jy_21, .instanceMethod jy_21, .code jy_21 prog_1_method_22_code 2 (some .boolean), .methodLink "ScriptLedger" 168 jy_69, .instanceMethod jy_69, .selects "ScriptLedger$Ledger" jy_69 jy_69, .code jy_69 prog_3_method_3_code 2 (some .boolean), .methodLink "ScriptLedger$Ledger" 44 jy_68, .instanceMethod jy_68, .selects "ScriptLedger$Ledger" jy_68 jy_68, .code jy_68 prog_3_method_2_code 2 (some .boolean), .methodLink "ScriptLedger" 190 jy_86, .instanceMethod jy_86, .selects "ScriptLedger$Transaction" jy_86 jy_86, .code jy_86 prog_7_method_6_code 1 (some .int), .methodLink "ScriptLedger" 193 jy_22, .instanceMethod jy_22, .code jy_22 prog_1_method_23_code 4 (some .boolean)]
def jg_9 : List Cond := [.methodLink "ScriptLedger" 211 jy_23, .instanceMethod jy_23, .code jy_23 prog_1_method_24_code 4 (some .int), .methodLink "ScriptLedger" 158 jy_79, .instanceMethod jy_79, .selects "ScriptLedger$OutputRow" jy_79 jy_79, .code jy_79 prog_5_method_4_code 3 (some .int), .methodLink "ScriptLedger" 214 jy_80, .instanceMethod jy_80, .selects "ScriptLedger$OutputRow" jy_80 jy_80, .code jy_80 prog_5_method_5_code 4 (some .int), .methodLink "ScriptLedger$OutputRow" 29 jy_79, .methodLink "ScriptLedger" 196 jy_24, .instanceMethod jy_24, .code jy_24 prog_1_method_25_code 3 (some .boolean), .methodLink "ScriptLedger" 217 jy_87, .instanceMethod jy_87, .selects "ScriptLedger$Transaction" jy_87 jy_87, .code jy_87 prog_7_method_7_code 2 (some .boolean), .methodLink "ScriptLedger" 199 jy_25, .instanceMethod jy_25, .code jy_25 prog_1_method_26_code 3 (some .boolean), .methodLink "ScriptLedger" 220 jy_27, .static jy_27, .code jy_27 prog_1_method_28_code 1 (some .int), .methodLink "ScriptLedger" 202 jy_26, .instanceMethod jy_26, .code jy_26 prog_1_method_27_code 2 (some .boolean), .methodLink "ScriptLedger" 205 jy_28, .instanceMethod jy_28, .code jy_28 prog_1_method_29_code 3 (some .boolean), .methodLink "ScriptLedger" 134 jy_29, .instanceMethod jy_29, .code jy_29 prog_1_method_30_code 5 (some .boolean), .methodLink "ScriptLedger" 223 jy_30, .instanceMethod jy_30, .code jy_30 prog_1_method_31_code 1 none, .methodLink "ScriptLedger" 138 jy_31, .instanceMethod jy_31, .code jy_31 prog_1_method_32_code 2 none]
def jg_10 : List Cond := [.methodLink "ScriptLedger" 235 jy_70, .instanceMethod jy_70, .selects "ScriptLedger$Ledger" jy_70 jy_70, .code jy_70 prog_3_method_4_code 2 none, .methodLink "ScriptLedger" 238 jy_71, .instanceMethod jy_71, .selects "ScriptLedger$Ledger" jy_71 jy_71, .code jy_71 prog_3_method_5_code 3 none, .methodLink "ScriptLedger$Ledger" 51 jy_77, .methodLink "ScriptLedger$Ledger" 60 jy_79, .methodLink "ScriptLedger" 141 jy_72, .instanceMethod jy_72, .selects "ScriptLedger$Ledger" jy_72 jy_72, .code jy_72 prog_3_method_6_code 2 none, .methodLink "ScriptLedger$Ledger" 63 jy_70, .methodLink "ScriptLedgerLaw" 75 jy_12, .instanceMethod jy_12, .selects "ScriptLedger" jy_12 jy_12, .code jy_12 prog_1_method_13_code 1 (some .int), .methodLink "ScriptLedger" 147 jy_74, .instanceMethod jy_74, .selects "ScriptLedger$Ledger" jy_74 jy_74, .code jy_74 prog_3_method_8_code 1 none, .methodLink "ScriptLedgerLaw" 79 jy_13, .instanceMethod jy_13, .selects "ScriptLedger" jy_13 jy_13, .code jy_13 prog_1_method_14_code 2 (some .int), .methodLink "ScriptLedger" 150 jy_75, .instanceMethod jy_75, .selects "ScriptLedger$Ledger" jy_75 jy_75, .code jy_75 prog_3_method_9_code 3 none, .methodLink "ScriptLedgerLaw" 83 jy_14, .instanceMethod jy_14, .selects "ScriptLedger" jy_14 jy_14, .code jy_14 prog_1_method_15_code 1 (some .int), .methodLink "ScriptLedgerLaw" 87 jy_15, .instanceMethod jy_15, .selects "ScriptLedger" jy_15 jy_15, .code jy_15 prog_1_method_16_code 3 (some .int), .methodLink "ScriptLedger" 157 jy_68]
def jg_11 : List Cond := [.methodLink "ScriptLedgerLaw" 92 jy_16, .instanceMethod jy_16, .selects "ScriptLedger" jy_16 jy_16, .code jy_16 prog_1_method_17_code 2 (some .int), .methodLink "ScriptLedger" 171 jy_73, .instanceMethod jy_73, .selects "ScriptLedger$Ledger" jy_73 jy_73, .code jy_73 prog_3_method_7_code 4 (some .int), .methodLink "ScriptLedger$Ledger" 69 jy_69, .methodLink "ScriptLedgerLaw" 96 jy_17, .instanceMethod jy_17, .selects "ScriptLedger" jy_17 jy_17, .code jy_17 prog_1_method_18_code 1 (some .int), .methodLink "ScriptLedgerLaw" 100 jy_18, .instanceMethod jy_18, .selects "ScriptLedger" jy_18 jy_18, .code jy_18 prog_1_method_19_code 1 (some .int), .methodLink "ScriptLedgerLaw" 9 jy_137, .static jy_137, .code jy_137 method_2_code 2 (some .int), .classLink "ScriptLedgerLaw" 18 "ScriptLedgerModel", .instantiable "ScriptLedgerModel" 50, .methodLink "ScriptLedgerLaw" 20 jy_88, .instanceMethod jy_88, .code jy_88 prog_10_method_1_code 3 none, .methodLink "ScriptLedgerModel" 1 Lib.objectInit, .fieldLink "ScriptLedgerModel" 116 "ScriptLedgerModel" "scripts" "I", .fieldLink "ScriptLedgerModel" 7 "ScriptLedgerModel" "code" "[I", .fieldLink "ScriptLedgerModel" 13 "ScriptLedgerModel" "size" "[I", .fieldLink "ScriptLedgerModel" 107 "ScriptLedgerModel" "typed" "I", .fieldLink "ScriptLedgerModel" 16 "ScriptLedgerModel" "draft" "[I", .fieldLink "ScriptLedgerModel" 119 "ScriptLedgerModel" "values" "I", .fieldLink "ScriptLedgerModel" 19 "ScriptLedgerModel" "kind" "[I", .fieldLink "ScriptLedgerModel" 22 "ScriptLedgerModel" "a" "[I", .fieldLink "ScriptLedgerModel" 25 "ScriptLedgerModel" "b" "[I", .fieldLink "ScriptLedgerModel" 28 "ScriptLedgerModel" "c" "[I", .fieldLink "ScriptLedgerModel" 31 "ScriptLedgerModel" "d" "[I", .fieldLink "ScriptLedgerModel" 166 "ScriptLedgerModel" "cells" "I", .fieldLink "ScriptLedgerModel" 34 "ScriptLedgerModel" "held" "[I", .fieldLink "ScriptLedgerModel" 37 "ScriptLedgerModel" "behind" "[I"]
def jg_12 : List Cond := [.fieldLink "ScriptLedgerModel" 132 "ScriptLedgerModel" "depth" "I", .fieldLink "ScriptLedgerModel" 40 "ScriptLedgerModel" "todo" "[I", .fieldLink "ScriptLedgerModel" 43 "ScriptLedgerModel" "todoA" "[I", .fieldLink "ScriptLedgerModel" 46 "ScriptLedgerModel" "todoB" "[I", .fieldLink "ScriptLedgerModel" 135 "ScriptLedgerModel" "place" "I", .fieldLink "ScriptLedgerModel" 142 "ScriptLedgerModel" "around" "I", .fieldLink "ScriptLedgerModel" 145 "ScriptLedgerModel" "value" "I", .fieldLink "ScriptLedgerModel" 126 "ScriptLedgerModel" "steps" "I", .fieldLink "ScriptLedgerModel" 129 "ScriptLedgerModel" "budget" "I", .fieldLink "ScriptLedgerModel" 49 "ScriptLedgerModel" "outcome" "I", .fieldLink "ScriptLedgerModel" 187 "ScriptLedgerModel" "ran" "Z", .fieldLink "ScriptLedgerModel" 104 "ScriptLedgerModel" "outputs" "I", .fieldLink "ScriptLedgerModel" 53 "ScriptLedgerModel" "amount" "[I", .fieldLink "ScriptLedgerModel" 56 "ScriptLedgerModel" "lock" "[I", .fieldLink "ScriptLedgerModel" 59 "ScriptLedgerModel" "datum" "[I", .fieldLink "ScriptLedgerModel" 62 "ScriptLedgerModel" "madeAt" "[I", .fieldLink "ScriptLedgerModel" 65 "ScriptLedgerModel" "spentAt" "[I", .fieldLink "ScriptLedgerModel" 239 "ScriptLedgerModel" "height" "I", .fieldLink "ScriptLedgerModel" 68 "ScriptLedgerModel" "income" "[I", .fieldLink "ScriptLedgerModel" 204 "ScriptLedgerModel" "inputs" "I", .fieldLink "ScriptLedgerModel" 71 "ScriptLedgerModel" "input" "[I", .fieldLink "ScriptLedgerModel" 74 "ScriptLedgerModel" "redeemer" "[I", .fieldLink "ScriptLedgerModel" 207 "ScriptLedgerModel" "gifts" "I", .fieldLink "ScriptLedgerModel" 77 "ScriptLedgerModel" "giftLock" "[I", .fieldLink "ScriptLedgerModel" 80 "ScriptLedgerModel" "giftDatum" "[I", .fieldLink "ScriptLedgerModel" 83 "ScriptLedgerModel" "gift" "[I", .fieldLink "ScriptLedgerModel" 86 "ScriptLedgerModel" "minted" "[I", .fieldLink "ScriptLedgerModel" 89 "ScriptLedgerModel" "mintRedeemer" "[I", .fieldLink "ScriptLedgerModel" 210 "ScriptLedgerModel" "fee" "I", .fieldLink "ScriptLedgerModel" 213 "ScriptLedgerModel" "from" "I", .fieldLink "ScriptLedgerModel" 92 "ScriptLedgerModel" "to" "I", .fieldLink "ScriptLedgerModel" 216 "ScriptLedgerModel" "signers" "I", .fieldLink "ScriptLedgerModel" 219 "ScriptLedgerModel" "allowance" "I", .fieldLink "ScriptLedgerModel" 95 "ScriptLedgerModel" "pledge" "I", .fieldLink "ScriptLedgerModel" 98 "ScriptLedgerModel" "deep" "[I", .fieldLink "ScriptLedgerModel" 101 "ScriptLedgerModel" "lambdas" "[I", .methodLink "ScriptLedgerLaw" 27 jy_90, .instanceMethod jy_90, .selects "ScriptLedgerModel" jy_90 jy_90, .code jy_90 prog_10_method_3_code 5 (some .boolean)]
def jg_13 : List Cond := [.constantLong "ScriptLedgerModel" 110 255, .methodLink "ScriptLedgerLaw" 32 jy_92, .instanceMethod jy_92, .selects "ScriptLedgerModel" jy_92 jy_92, .code jy_92 prog_10_method_5_code 4 (some .int), .methodLink "ScriptLedgerModel" 112 jy_91, .instanceMethod jy_91, .code jy_91 prog_10_method_4_code 10 (some .boolean), .methodLink "ScriptLedgerLaw" 37 jy_108, .instanceMethod jy_108, .selects "ScriptLedgerModel" jy_108 jy_108, .code jy_108 prog_10_method_21_code 8 (some .int), .methodLink "ScriptLedgerModel" 197 jy_89, .static jy_89, .code jy_89 prog_10_method_2_code 2 (some .boolean), .methodLink "ScriptLedgerModel" 156 jy_95, .instanceMethod jy_95, .code jy_95 prog_10_method_8_code 2 (some .int), .methodLink "ScriptLedgerModel" 122 jy_94, .instanceMethod jy_94, .code jy_94 prog_10_method_7_code 6 (some .int), .methodLink "ScriptLedgerModel" 200 jy_107, .instanceMethod jy_107, .code jy_107 prog_10_method_20_code 7 none, .methodLink "ScriptLedgerModel" 152 jy_100, .instanceMethod jy_100, .code jy_100 prog_10_method_13_code 4 none, .methodLink "ScriptLedgerModel" 191 jy_101, .instanceMethod jy_101, .code jy_101 prog_10_method_14_code 5 (some .boolean), .methodLink "ScriptLedgerModel" 138 jy_98, .instanceMethod jy_98, .code jy_98 prog_10_method_11_code 2 (some .boolean), .methodLink "ScriptLedgerModel" 148 jy_93, .instanceMethod jy_93, .code jy_93 prog_10_method_6_code 5 (some .int), .methodLink "ScriptLedgerModel" 159 jy_99, .instanceMethod jy_99, .code jy_99 prog_10_method_12_code 1 (some .boolean), .methodLink "ScriptLedgerModel" 194 jy_102]
def jg_14 : List Cond := [.instanceMethod jy_102, .code jy_102 prog_10_method_15_code 4 (some .boolean), .methodLink "ScriptLedgerModel" 162 jy_103, .instanceMethod jy_103, .code jy_103 prog_10_method_16_code 4 (some .boolean), .methodLink "ScriptLedgerModel" 169 jy_97, .static jy_97, .code jy_97 prog_10_method_10_code 1 (some .int), .methodLink "ScriptLedgerModel" 172 jy_105, .instanceMethod jy_105, .code jy_105 prog_10_method_18_code 5 (some .boolean), .methodLink "ScriptLedgerModel" 176 jy_104, .instanceMethod jy_104, .code jy_104 prog_10_method_17_code 2 (some .boolean), .methodLink "ScriptLedgerModel" 179 jy_106, .instanceMethod jy_106, .code jy_106 prog_10_method_19_code 4 (some .boolean), .methodLink "ScriptLedgerModel" 183 jy_96, .instanceMethod jy_96, .code jy_96 prog_10_method_9_code 3 (some .int), .methodLink "ScriptLedgerLaw" 42 jy_109, .instanceMethod jy_109, .selects "ScriptLedgerModel" jy_109 jy_109, .code jy_109 prog_10_method_22_code 2 (some .int), .methodLink "ScriptLedgerLaw" 46 jy_110, .instanceMethod jy_110, .selects "ScriptLedgerModel" jy_110 jy_110, .code jy_110 prog_10_method_23_code 2 none, .methodLink "ScriptLedgerLaw" 51 jy_112, .instanceMethod jy_112, .selects "ScriptLedgerModel" jy_112 jy_112, .code jy_112 prog_10_method_25_code 3 (some .boolean), .methodLink "ScriptLedgerModel" 222 jy_111, .instanceMethod jy_111, .code jy_111 prog_10_method_24_code 4 (some .boolean), .methodLink "ScriptLedgerLaw" 56 jy_113, .instanceMethod jy_113, .selects "ScriptLedgerModel" jy_113 jy_113, .code jy_113 prog_10_method_26_code 6 (some .boolean), .constant "ScriptLedgerModel" 225 1000001]
def jg_15 : List Cond := [.methodLink "ScriptLedgerLaw" 61 jy_114, .instanceMethod jy_114, .selects "ScriptLedgerModel" jy_114 jy_114, .code jy_114 prog_10_method_27_code 4 (some .boolean), .constant "ScriptLedgerModel" 226 (-1000000), .constant "ScriptLedgerModel" 227 1000000, .methodLink "ScriptLedgerLaw" 65 jy_115, .instanceMethod jy_115, .selects "ScriptLedgerModel" jy_115 jy_115, .code jy_115 prog_10_method_28_code 6 (some .boolean), .methodLink "ScriptLedgerLaw" 70 jy_116, .instanceMethod jy_116, .selects "ScriptLedgerModel" jy_116 jy_116, .code jy_116 prog_10_method_29_code 2 (some .boolean), .methodLink "ScriptLedgerLaw" 74 jy_129, .instanceMethod jy_129, .selects "ScriptLedgerModel" jy_129 jy_129, .code jy_129 prog_10_method_42_code 2 (some .int), .methodLink "ScriptLedgerModel" 262 jy_124, .instanceMethod jy_124, .code jy_124 prog_10_method_37_code 1 (some .int), .methodLink "ScriptLedgerModel" 236 jy_118, .instanceMethod jy_118, .code jy_118 prog_10_method_31_code 3 (some .boolean), .methodLink "ScriptLedgerModel" 228 jy_117, .instanceMethod jy_117, .code jy_117 prog_10_method_30_code 2 (some .boolean), .methodLink "ScriptLedgerModel" 242 jy_119, .instanceMethod jy_119, .code jy_119 prog_10_method_32_code 8 (some .boolean), .methodLink "ScriptLedgerModel" 245 jy_121, .instanceMethod jy_121, .code jy_121 prog_10_method_34_code 3 (some .boolean), .methodLink "ScriptLedgerModel" 231 jy_120, .instanceMethod jy_120, .code jy_120 prog_10_method_33_code 2 (some .boolean), .methodLink "ScriptLedgerModel" 248 jy_122, .instanceMethod jy_122, .code jy_122 prog_10_method_35_code 3 (some .int), .methodLink "ScriptLedgerModel" 252 jy_123]
def jg_16 : List Cond := [.instanceMethod jy_123, .code jy_123 prog_10_method_36_code 1 (some .boolean), .constantLong "ScriptLedgerModel" 234 2, .methodLink "ScriptLedgerModel" 265 jy_127, .instanceMethod jy_127, .code jy_127 prog_10_method_40_code 4 (some .boolean), .methodLink "ScriptLedgerModel" 258 jy_126, .instanceMethod jy_126, .code jy_126 prog_10_method_39_code 9 (some .boolean), .methodLink "ScriptLedgerModel" 255 jy_125, .instanceMethod jy_125, .code jy_125 prog_10_method_38_code 4 (some .int), .methodLink "ScriptLedgerModel" 268 jy_128, .instanceMethod jy_128, .code jy_128 prog_10_method_41_code 3 none, .methodLink "ScriptLedgerModel" 271 jy_110, .methodLink "ScriptLedgerLaw" 78 jy_130, .instanceMethod jy_130, .selects "ScriptLedgerModel" jy_130 jy_130, .code jy_130 prog_10_method_43_code 1 (some .int), .methodLink "ScriptLedgerLaw" 82 jy_131, .instanceMethod jy_131, .selects "ScriptLedgerModel" jy_131 jy_131, .code jy_131 prog_10_method_44_code 3 (some .int), .methodLink "ScriptLedgerLaw" 86 jy_132, .instanceMethod jy_132, .selects "ScriptLedgerModel" jy_132 jy_132, .code jy_132 prog_10_method_45_code 1 (some .int), .methodLink "ScriptLedgerLaw" 91 jy_133, .instanceMethod jy_133, .selects "ScriptLedgerModel" jy_133 jy_133, .code jy_133 prog_10_method_46_code 3 (some .int), .methodLink "ScriptLedgerLaw" 95 jy_134, .instanceMethod jy_134, .selects "ScriptLedgerModel" jy_134 jy_134, .code jy_134 prog_10_method_47_code 4 (some .int), .methodLink "ScriptLedgerLaw" 99 jy_135, .instanceMethod jy_135, .selects "ScriptLedgerModel" jy_135 jy_135, .code jy_135 prog_10_method_48_code 3 (some .int)]
def jg_17 : List Cond := [.methodLink "ScriptLedgerLaw" 103 jy_136, .instanceMethod jy_136, .selects "ScriptLedgerModel" jy_136 jy_136, .code jy_136 prog_10_method_49_code 1 (some .int), .constantLong "ScriptLedgerLaw" 21 4294967295, .selects "ScriptLedger$Machine" jy_36 jy_36, .selects "ScriptLedger$Machine" jy_51 jy_51, .selects "ScriptLedger$Machine" jy_37 jy_37, .selects "ScriptLedger$Machine" jy_50 jy_50, .selects "ScriptLedger$Machine" jy_53 jy_53, .selects "ScriptLedger$Machine" jy_38 jy_38, .selects "ScriptLedger$Machine" jy_49 jy_49, .selects "ScriptLedger$Machine" jy_52 jy_52, .selects "ScriptLedger$Machine" jy_39 jy_39, .selects "ScriptLedger$Machine" jy_54 jy_54, .selects "ScriptLedger$Machine" jy_40 jy_40, .selects "ScriptLedger$Machine" jy_41 jy_41, .selects "ScriptLedger$Machine" jy_42 jy_42, .selects "ScriptLedger$Machine" jy_43 jy_43, .selects "ScriptLedger$Machine" jy_44 jy_44, .selects "ScriptLedger$Machine" jy_46 jy_46, .selects "ScriptLedger$Machine" jy_47 jy_47, .selects "ScriptLedger$Machine" jy_48 jy_48, .selects "ScriptLedger" jy_20 jy_20, .selects "ScriptLedger" jy_21 jy_21, .selects "ScriptLedger" jy_22 jy_22, .selects "ScriptLedger" jy_23 jy_23, .selects "ScriptLedger" jy_24 jy_24, .selects "ScriptLedger" jy_25 jy_25, .selects "ScriptLedger" jy_26 jy_26, .selects "ScriptLedger" jy_28 jy_28, .selects "ScriptLedger" jy_29 jy_29, .selects "ScriptLedger" jy_30 jy_30, .selects "ScriptLedger" jy_31 jy_31, .selects "ScriptLedgerModel" jy_91 jy_91, .selects "ScriptLedgerModel" jy_95 jy_95, .selects "ScriptLedgerModel" jy_94 jy_94, .selects "ScriptLedgerModel" jy_107 jy_107, .selects "ScriptLedgerModel" jy_100 jy_100, .selects "ScriptLedgerModel" jy_101 jy_101]
def jg_18 : List Cond := [.selects "ScriptLedgerModel" jy_98 jy_98, .selects "ScriptLedgerModel" jy_93 jy_93, .selects "ScriptLedgerModel" jy_99 jy_99, .selects "ScriptLedgerModel" jy_102 jy_102, .selects "ScriptLedgerModel" jy_103 jy_103, .selects "ScriptLedgerModel" jy_105 jy_105, .selects "ScriptLedgerModel" jy_104 jy_104, .selects "ScriptLedgerModel" jy_106 jy_106, .selects "ScriptLedgerModel" jy_96 jy_96, .selects "ScriptLedgerModel" jy_111 jy_111, .selects "ScriptLedgerModel" jy_124 jy_124, .selects "ScriptLedgerModel" jy_118 jy_118, .selects "ScriptLedgerModel" jy_117 jy_117, .selects "ScriptLedgerModel" jy_119 jy_119, .selects "ScriptLedgerModel" jy_121 jy_121, .selects "ScriptLedgerModel" jy_120 jy_120, .selects "ScriptLedgerModel" jy_122 jy_122, .selects "ScriptLedgerModel" jy_123 jy_123, .selects "ScriptLedgerModel" jy_127 jy_127, .selects "ScriptLedgerModel" jy_126 jy_126, .selects "ScriptLedgerModel" jy_125 jy_125, .selects "ScriptLedgerModel" jy_128 jy_128]
def jx_gw : List Cond := u_ws "ScriptLedger" jr_0 6 ++ (u_ws "ScriptLedger$Draft" jr_1 2 ++ (u_ws "ScriptLedger$Machine" jr_2 16 ++ (u_ws "ScriptLedger$Scripts" jr_3 3 ++ (u_ws "ScriptLedger$Values" jr_4 5 ++ (u_ws "ScriptLedger$Ledger" jr_5 6 ++ (u_ws "ScriptLedger$OutputRow" jr_6 4 ++ (u_ws "ScriptLedger$Transaction" jr_7 12 ++ (u_ws "ScriptLedgerModel" jr_8 50 ++ (jg_0 ++ (jg_1 ++ (jg_2 ++ (jg_3 ++ (jg_4 ++ (jg_5 ++ (jg_6 ++ (jg_7 ++ (jg_8 ++ (jg_9 ++ (jg_10 ++ (jg_11 ++ (jg_12 ++ (jg_13 ++ (jg_14 ++ (jg_15 ++ (jg_16 ++ (jg_17 ++ (jg_18)))))))))))))))))))))))))))
theorem jhl_0 : ∀ w ∈ u_ws "ScriptLedger" jr_0 6, w ∈ jx_gw := fun w h => List.mem_append_left _ (h)
theorem jhl_1 : ∀ w ∈ u_ws "ScriptLedger$Draft" jr_1 2, w ∈ jx_gw := fun w h => List.mem_append_right _ (List.mem_append_left _ (h))
theorem jhl_2 : ∀ w ∈ u_ws "ScriptLedger$Machine" jr_2 16, w ∈ jx_gw := fun w h => List.mem_append_right _ (List.mem_append_right _ (List.mem_append_left _ (h)))
theorem jhl_3 : ∀ w ∈ u_ws "ScriptLedger$Scripts" jr_3 3, w ∈ jx_gw := fun w h => List.mem_append_right _ (List.mem_append_right _ (List.mem_append_right _ (List.mem_append_left _ (h))))
theorem jhl_4 : ∀ w ∈ u_ws "ScriptLedger$Values" jr_4 5, w ∈ jx_gw := fun w h => List.mem_append_right _ (List.mem_append_right _ (List.mem_append_right _ (List.mem_append_right _ (List.mem_append_left _ (h)))))
theorem jhl_5 : ∀ w ∈ u_ws "ScriptLedger$Ledger" jr_5 6, w ∈ jx_gw := fun w h => List.mem_append_right _ (List.mem_append_right _ (List.mem_append_right _ (List.mem_append_right _ (List.mem_append_right _ (List.mem_append_left _ (h))))))
theorem jhl_6 : ∀ w ∈ u_ws "ScriptLedger$OutputRow" jr_6 4, w ∈ jx_gw := fun w h => List.mem_append_right _ (List.mem_append_right _ (List.mem_append_right _ (List.mem_append_right _ (List.mem_append_right _ (List.mem_append_right _ (List.mem_append_left _ (h)))))))
theorem jhl_7 : ∀ w ∈ u_ws "ScriptLedger$Transaction" jr_7 12, w ∈ jx_gw := fun w h => List.mem_append_right _ (List.mem_append_right _ (List.mem_append_right _ (List.mem_append_right _ (List.mem_append_right _ (List.mem_append_right _ (List.mem_append_right _ (List.mem_append_left _ (h))))))))
theorem jhl_8 : ∀ w ∈ u_ws "ScriptLedgerModel" jr_8 50, w ∈ jx_gw := fun w h => List.mem_append_right _ (List.mem_append_right _ (List.mem_append_right _ (List.mem_append_right _ (List.mem_append_right _ (List.mem_append_right _ (List.mem_append_right _ (List.mem_append_right _ (List.mem_append_left _ (h)))))))))
theorem jgi_0 : ∀ w ∈ jg_0, w ∈ jx_gw := fun w h => List.mem_append_right _ (List.mem_append_right _ (List.mem_append_right _ (List.mem_append_right _ (List.mem_append_right _ (List.mem_append_right _ (List.mem_append_right _ (List.mem_append_right _ (List.mem_append_right _ (List.mem_append_left _ (h))))))))))
theorem jgi_1 : ∀ w ∈ jg_1, w ∈ jx_gw := fun w h => List.mem_append_right _ (List.mem_append_right _ (List.mem_append_right _ (List.mem_append_right _ (List.mem_append_right _ (List.mem_append_right _ (List.mem_append_right _ (List.mem_append_right _ (List.mem_append_right _ (List.mem_append_right _ (List.mem_append_left _ (h)))))))))))
theorem jgi_2 : ∀ w ∈ jg_2, w ∈ jx_gw := fun w h => List.mem_append_right _ (List.mem_append_right _ (List.mem_append_right _ (List.mem_append_right _ (List.mem_append_right _ (List.mem_append_right _ (List.mem_append_right _ (List.mem_append_right _ (List.mem_append_right _ (List.mem_append_right _ (List.mem_append_right _ (List.mem_append_left _ (h))))))))))))
theorem jgi_3 : ∀ w ∈ jg_3, w ∈ jx_gw := fun w h => List.mem_append_right _ (List.mem_append_right _ (List.mem_append_right _ (List.mem_append_right _ (List.mem_append_right _ (List.mem_append_right _ (List.mem_append_right _ (List.mem_append_right _ (List.mem_append_right _ (List.mem_append_right _ (List.mem_append_right _ (List.mem_append_right _ (List.mem_append_left _ (h)))))))))))))
theorem jgi_4 : ∀ w ∈ jg_4, w ∈ jx_gw := fun w h => List.mem_append_right _ (List.mem_append_right _ (List.mem_append_right _ (List.mem_append_right _ (List.mem_append_right _ (List.mem_append_right _ (List.mem_append_right _ (List.mem_append_right _ (List.mem_append_right _ (List.mem_append_right _ (List.mem_append_right _ (List.mem_append_right _ (List.mem_append_right _ (List.mem_append_left _ (h))))))))))))))
theorem jgi_5 : ∀ w ∈ jg_5, w ∈ jx_gw := fun w h => List.mem_append_right _ (List.mem_append_right _ (List.mem_append_right _ (List.mem_append_right _ (List.mem_append_right _ (List.mem_append_right _ (List.mem_append_right _ (List.mem_append_right _ (List.mem_append_right _ (List.mem_append_right _ (List.mem_append_right _ (List.mem_append_right _ (List.mem_append_right _ (List.mem_append_right _ (List.mem_append_left _ (h)))))))))))))))
theorem jgi_6 : ∀ w ∈ jg_6, w ∈ jx_gw := fun w h => List.mem_append_right _ (List.mem_append_right _ (List.mem_append_right _ (List.mem_append_right _ (List.mem_append_right _ (List.mem_append_right _ (List.mem_append_right _ (List.mem_append_right _ (List.mem_append_right _ (List.mem_append_right _ (List.mem_append_right _ (List.mem_append_right _ (List.mem_append_right _ (List.mem_append_right _ (List.mem_append_right _ (List.mem_append_left _ (h))))))))))))))))
theorem jgi_7 : ∀ w ∈ jg_7, w ∈ jx_gw := fun w h => List.mem_append_right _ (List.mem_append_right _ (List.mem_append_right _ (List.mem_append_right _ (List.mem_append_right _ (List.mem_append_right _ (List.mem_append_right _ (List.mem_append_right _ (List.mem_append_right _ (List.mem_append_right _ (List.mem_append_right _ (List.mem_append_right _ (List.mem_append_right _ (List.mem_append_right _ (List.mem_append_right _ (List.mem_append_right _ (List.mem_append_left _ (h)))))))))))))))))
theorem jgi_8 : ∀ w ∈ jg_8, w ∈ jx_gw := fun w h => List.mem_append_right _ (List.mem_append_right _ (List.mem_append_right _ (List.mem_append_right _ (List.mem_append_right _ (List.mem_append_right _ (List.mem_append_right _ (List.mem_append_right _ (List.mem_append_right _ (List.mem_append_right _ (List.mem_append_right _ (List.mem_append_right _ (List.mem_append_right _ (List.mem_append_right _ (List.mem_append_right _ (List.mem_append_right _ (List.mem_append_right _ (List.mem_append_left _ (h))))))))))))))))))
theorem jgi_9 : ∀ w ∈ jg_9, w ∈ jx_gw := fun w h => List.mem_append_right _ (List.mem_append_right _ (List.mem_append_right _ (List.mem_append_right _ (List.mem_append_right _ (List.mem_append_right _ (List.mem_append_right _ (List.mem_append_right _ (List.mem_append_right _ (List.mem_append_right _ (List.mem_append_right _ (List.mem_append_right _ (List.mem_append_right _ (List.mem_append_right _ (List.mem_append_right _ (List.mem_append_right _ (List.mem_append_right _ (List.mem_append_right _ (List.mem_append_left _ (h)))))))))))))))))))
theorem jgi_10 : ∀ w ∈ jg_10, w ∈ jx_gw := fun w h => List.mem_append_right _ (List.mem_append_right _ (List.mem_append_right _ (List.mem_append_right _ (List.mem_append_right _ (List.mem_append_right _ (List.mem_append_right _ (List.mem_append_right _ (List.mem_append_right _ (List.mem_append_right _ (List.mem_append_right _ (List.mem_append_right _ (List.mem_append_right _ (List.mem_append_right _ (List.mem_append_right _ (List.mem_append_right _ (List.mem_append_right _ (List.mem_append_right _ (List.mem_append_right _ (List.mem_append_left _ (h))))))))))))))))))))
theorem jgi_11 : ∀ w ∈ jg_11, w ∈ jx_gw := fun w h => List.mem_append_right _ (List.mem_append_right _ (List.mem_append_right _ (List.mem_append_right _ (List.mem_append_right _ (List.mem_append_right _ (List.mem_append_right _ (List.mem_append_right _ (List.mem_append_right _ (List.mem_append_right _ (List.mem_append_right _ (List.mem_append_right _ (List.mem_append_right _ (List.mem_append_right _ (List.mem_append_right _ (List.mem_append_right _ (List.mem_append_right _ (List.mem_append_right _ (List.mem_append_right _ (List.mem_append_right _ (List.mem_append_left _ (h)))))))))))))))))))))
theorem jgi_12 : ∀ w ∈ jg_12, w ∈ jx_gw := fun w h => List.mem_append_right _ (List.mem_append_right _ (List.mem_append_right _ (List.mem_append_right _ (List.mem_append_right _ (List.mem_append_right _ (List.mem_append_right _ (List.mem_append_right _ (List.mem_append_right _ (List.mem_append_right _ (List.mem_append_right _ (List.mem_append_right _ (List.mem_append_right _ (List.mem_append_right _ (List.mem_append_right _ (List.mem_append_right _ (List.mem_append_right _ (List.mem_append_right _ (List.mem_append_right _ (List.mem_append_right _ (List.mem_append_right _ (List.mem_append_left _ (h))))))))))))))))))))))
theorem jgi_13 : ∀ w ∈ jg_13, w ∈ jx_gw := fun w h => List.mem_append_right _ (List.mem_append_right _ (List.mem_append_right _ (List.mem_append_right _ (List.mem_append_right _ (List.mem_append_right _ (List.mem_append_right _ (List.mem_append_right _ (List.mem_append_right _ (List.mem_append_right _ (List.mem_append_right _ (List.mem_append_right _ (List.mem_append_right _ (List.mem_append_right _ (List.mem_append_right _ (List.mem_append_right _ (List.mem_append_right _ (List.mem_append_right _ (List.mem_append_right _ (List.mem_append_right _ (List.mem_append_right _ (List.mem_append_right _ (List.mem_append_left _ (h)))))))))))))))))))))))
theorem jgi_14 : ∀ w ∈ jg_14, w ∈ jx_gw := fun w h => List.mem_append_right _ (List.mem_append_right _ (List.mem_append_right _ (List.mem_append_right _ (List.mem_append_right _ (List.mem_append_right _ (List.mem_append_right _ (List.mem_append_right _ (List.mem_append_right _ (List.mem_append_right _ (List.mem_append_right _ (List.mem_append_right _ (List.mem_append_right _ (List.mem_append_right _ (List.mem_append_right _ (List.mem_append_right _ (List.mem_append_right _ (List.mem_append_right _ (List.mem_append_right _ (List.mem_append_right _ (List.mem_append_right _ (List.mem_append_right _ (List.mem_append_right _ (List.mem_append_left _ (h))))))))))))))))))))))))
theorem jgi_15 : ∀ w ∈ jg_15, w ∈ jx_gw := fun w h => List.mem_append_right _ (List.mem_append_right _ (List.mem_append_right _ (List.mem_append_right _ (List.mem_append_right _ (List.mem_append_right _ (List.mem_append_right _ (List.mem_append_right _ (List.mem_append_right _ (List.mem_append_right _ (List.mem_append_right _ (List.mem_append_right _ (List.mem_append_right _ (List.mem_append_right _ (List.mem_append_right _ (List.mem_append_right _ (List.mem_append_right _ (List.mem_append_right _ (List.mem_append_right _ (List.mem_append_right _ (List.mem_append_right _ (List.mem_append_right _ (List.mem_append_right _ (List.mem_append_right _ (List.mem_append_left _ (h)))))))))))))))))))))))))
theorem jgi_16 : ∀ w ∈ jg_16, w ∈ jx_gw := fun w h => List.mem_append_right _ (List.mem_append_right _ (List.mem_append_right _ (List.mem_append_right _ (List.mem_append_right _ (List.mem_append_right _ (List.mem_append_right _ (List.mem_append_right _ (List.mem_append_right _ (List.mem_append_right _ (List.mem_append_right _ (List.mem_append_right _ (List.mem_append_right _ (List.mem_append_right _ (List.mem_append_right _ (List.mem_append_right _ (List.mem_append_right _ (List.mem_append_right _ (List.mem_append_right _ (List.mem_append_right _ (List.mem_append_right _ (List.mem_append_right _ (List.mem_append_right _ (List.mem_append_right _ (List.mem_append_right _ (List.mem_append_left _ (h))))))))))))))))))))))))))
theorem jgi_17 : ∀ w ∈ jg_17, w ∈ jx_gw := fun w h => List.mem_append_right _ (List.mem_append_right _ (List.mem_append_right _ (List.mem_append_right _ (List.mem_append_right _ (List.mem_append_right _ (List.mem_append_right _ (List.mem_append_right _ (List.mem_append_right _ (List.mem_append_right _ (List.mem_append_right _ (List.mem_append_right _ (List.mem_append_right _ (List.mem_append_right _ (List.mem_append_right _ (List.mem_append_right _ (List.mem_append_right _ (List.mem_append_right _ (List.mem_append_right _ (List.mem_append_right _ (List.mem_append_right _ (List.mem_append_right _ (List.mem_append_right _ (List.mem_append_right _ (List.mem_append_right _ (List.mem_append_right _ (List.mem_append_left _ (h)))))))))))))))))))))))))))
theorem jgi_18 : ∀ w ∈ jg_18, w ∈ jx_gw := fun w h => List.mem_append_right _ (List.mem_append_right _ (List.mem_append_right _ (List.mem_append_right _ (List.mem_append_right _ (List.mem_append_right _ (List.mem_append_right _ (List.mem_append_right _ (List.mem_append_right _ (List.mem_append_right _ (List.mem_append_right _ (List.mem_append_right _ (List.mem_append_right _ (List.mem_append_right _ (List.mem_append_right _ (List.mem_append_right _ (List.mem_append_right _ (List.mem_append_right _ (List.mem_append_right _ (List.mem_append_right _ (List.mem_append_right _ (List.mem_append_right _ (List.mem_append_right _ (List.mem_append_right _ (List.mem_append_right _ (List.mem_append_right _ (List.mem_append_right _ (h)))))))))))))))))))))))))))
theorem jw_0 : (.initialized "ScriptLedgerLaw" : Cond) ∈ jx_gw := jgi_0 _ (List.mem_of_getElem? (i := 0) rfl)
theorem jw_1 : (.initialized "ScriptLedger" : Cond) ∈ jx_gw := jgi_0 _ (List.mem_of_getElem? (i := 1) rfl)
theorem jw_2 : (.initialized "ScriptLedger$Draft" : Cond) ∈ jx_gw := jgi_0 _ (List.mem_of_getElem? (i := 2) rfl)
theorem jw_3 : (.initialized "ScriptLedger$Machine" : Cond) ∈ jx_gw := jgi_0 _ (List.mem_of_getElem? (i := 3) rfl)
theorem jw_4 : (.initialized "ScriptLedger$Scripts" : Cond) ∈ jx_gw := jgi_0 _ (List.mem_of_getElem? (i := 4) rfl)
theorem jw_5 : (.initialized "ScriptLedger$Values" : Cond) ∈ jx_gw := jgi_0 _ (List.mem_of_getElem? (i := 5) rfl)
theorem jw_6 : (.initialized "ScriptLedger$Ledger" : Cond) ∈ jx_gw := jgi_0 _ (List.mem_of_getElem? (i := 6) rfl)
theorem jw_7 : (.initialized "ScriptLedger$OutputRow" : Cond) ∈ jx_gw := jgi_0 _ (List.mem_of_getElem? (i := 7) rfl)
theorem jw_8 : (.initialized "java/lang/Math" : Cond) ∈ jx_gw := jgi_0 _ (List.mem_of_getElem? (i := 8) rfl)
theorem jw_9 : (.initialized "ScriptLedger$Transaction" : Cond) ∈ jx_gw := jgi_0 _ (List.mem_of_getElem? (i := 9) rfl)
theorem jw_10 : (.initialized "ScriptLedgerModel" : Cond) ∈ jx_gw := jgi_0 _ (List.mem_of_getElem? (i := 10) rfl)
theorem jw_11 : (.classLink "ScriptLedgerLaw" 7 "ScriptLedger" : Cond) ∈ jx_gw := jgi_0 _ (List.mem_of_getElem? (i := 11) rfl)
theorem jw_12 : (.instantiable "ScriptLedger" 6 : Cond) ∈ jx_gw := jgi_0 _ (List.mem_of_getElem? (i := 12) rfl)
theorem jw_13 : (.methodLink "ScriptLedgerLaw" 15 jy_0 : Cond) ∈ jx_gw := jgi_0 _ (List.mem_of_getElem? (i := 13) rfl)
theorem jw_14 : (.instanceMethod jy_0 : Cond) ∈ jx_gw := jgi_0 _ (List.mem_of_getElem? (i := 14) rfl)
theorem jw_15 : (.code jy_0 prog_1_method_1_code 2 none : Cond) ∈ jx_gw := jgi_0 _ (List.mem_of_getElem? (i := 15) rfl)
theorem jw_16 : (.methodLink "ScriptLedger" 1 Lib.objectInit : Cond) ∈ jx_gw := jgi_0 _ (List.mem_of_getElem? (i := 16) rfl)
theorem jw_17 : (.instanceMethod Lib.objectInit : Cond) ∈ jx_gw := jgi_0 _ (List.mem_of_getElem? (i := 17) rfl)
theorem jw_18 : (.code Lib.objectInit ⟨#[0xb1]⟩ 1 none : Cond) ∈ jx_gw := jgi_0 _ (List.mem_of_getElem? (i := 18) rfl)
theorem jw_19 : (.classLink "ScriptLedger" 7 "ScriptLedger$Draft" : Cond) ∈ jx_gw := jgi_0 _ (List.mem_of_getElem? (i := 19) rfl)
theorem jw_20 : (.instantiable "ScriptLedger$Draft" 2 : Cond) ∈ jx_gw := jgi_0 _ (List.mem_of_getElem? (i := 20) rfl)
theorem jw_21 : (.instanceMethod jy_32 : Cond) ∈ jx_gw := jgi_0 _ (List.mem_of_getElem? (i := 21) rfl)
theorem jw_22 : (.code jy_32 prog_2_method_1_code 1 none : Cond) ∈ jx_gw := jgi_0 _ (List.mem_of_getElem? (i := 22) rfl)
theorem jw_23 : (.methodLink "ScriptLedger$Draft" 3 Lib.objectInit : Cond) ∈ jx_gw := jgi_0 _ (List.mem_of_getElem? (i := 23) rfl)
theorem jw_24 : (.fieldLink "ScriptLedger$Draft" 9 "ScriptLedger$Draft" "bytes" "[I" : Cond) ∈ jx_gw := jgi_0 _ (List.mem_of_getElem? (i := 24) rfl)
theorem jw_25 : (.fieldLink "ScriptLedger" 58 "ScriptLedger$Draft" "bytes" "[I" : Cond) ∈ jx_gw := jgi_0 _ (List.mem_of_getElem? (i := 25) rfl)
theorem jw_26 : (.fieldLink "ScriptLedger$Draft" 15 "ScriptLedger$Draft" "size" "I" : Cond) ∈ jx_gw := jgi_0 _ (List.mem_of_getElem? (i := 26) rfl)
theorem jw_27 : (.fieldLink "ScriptLedger" 46 "ScriptLedger$Draft" "size" "I" : Cond) ∈ jx_gw := jgi_0 _ (List.mem_of_getElem? (i := 27) rfl)
theorem jw_28 : (.arrayClass .int : Cond) ∈ jx_gw := jgi_0 _ (List.mem_of_getElem? (i := 28) rfl)
theorem jw_29 : (.classLink "ScriptLedger" 16 "ScriptLedger$Machine" : Cond) ∈ jx_gw := jgi_0 _ (List.mem_of_getElem? (i := 29) rfl)
theorem jw_30 : (.instantiable "ScriptLedger$Machine" 16 : Cond) ∈ jx_gw := jgi_0 _ (List.mem_of_getElem? (i := 30) rfl)
theorem jw_31 : (.instanceMethod jy_34 : Cond) ∈ jx_gw := jgi_0 _ (List.mem_of_getElem? (i := 31) rfl)
theorem jw_32 : (.code jy_34 prog_4_method_1_code 1 none : Cond) ∈ jx_gw := jgi_0 _ (List.mem_of_getElem? (i := 32) rfl)
theorem jw_33 : (.methodLink "ScriptLedger$Machine" 3 Lib.objectInit : Cond) ∈ jx_gw := jgi_0 _ (List.mem_of_getElem? (i := 33) rfl)
theorem jw_34 : (.classLink "ScriptLedger$Machine" 9 "ScriptLedger$Scripts" : Cond) ∈ jx_gw := jgi_0 _ (List.mem_of_getElem? (i := 34) rfl)
theorem jw_35 : (.instantiable "ScriptLedger$Scripts" 3 : Cond) ∈ jx_gw := jgi_0 _ (List.mem_of_getElem? (i := 35) rfl)
theorem jw_36 : (.instanceMethod jy_55 : Cond) ∈ jx_gw := jgi_0 _ (List.mem_of_getElem? (i := 36) rfl)
theorem jw_37 : (.code jy_55 prog_6_method_1_code 1 none : Cond) ∈ jx_gw := jgi_0 _ (List.mem_of_getElem? (i := 37) rfl)
theorem jw_38 : (.methodLink "ScriptLedger$Scripts" 3 Lib.objectInit : Cond) ∈ jx_gw := jgi_0 _ (List.mem_of_getElem? (i := 38) rfl)
theorem jw_39 : (.fieldLink "ScriptLedger$Scripts" 9 "ScriptLedger$Scripts" "bytes" "[I" : Cond) ∈ jx_gw := jgi_0 _ (List.mem_of_getElem? (i := 39) rfl)
theorem jw_40 : (.fieldLink "ScriptLedger$Machine" 103 "ScriptLedger$Scripts" "bytes" "[I" : Cond) ∈ jx_gw := jgi_1 _ (List.mem_of_getElem? (i := 0) rfl)
theorem jw_41 : (.fieldLink "ScriptLedger$Scripts" 15 "ScriptLedger$Scripts" "seconds" "[I" : Cond) ∈ jx_gw := jgi_1 _ (List.mem_of_getElem? (i := 1) rfl)
theorem jw_42 : (.fieldLink "ScriptLedger$Machine" 119 "ScriptLedger$Scripts" "seconds" "[I" : Cond) ∈ jx_gw := jgi_1 _ (List.mem_of_getElem? (i := 2) rfl)
theorem jw_43 : (.fieldLink "ScriptLedger$Scripts" 18 "ScriptLedger$Scripts" "count" "I" : Cond) ∈ jx_gw := jgi_1 _ (List.mem_of_getElem? (i := 3) rfl)
theorem jw_44 : (.classLink "ScriptLedger$Machine" 18 "ScriptLedger$Values" : Cond) ∈ jx_gw := jgi_1 _ (List.mem_of_getElem? (i := 4) rfl)
theorem jw_45 : (.instantiable "ScriptLedger$Values" 5 : Cond) ∈ jx_gw := jgi_1 _ (List.mem_of_getElem? (i := 5) rfl)
theorem jw_46 : (.instanceMethod jy_61 : Cond) ∈ jx_gw := jgi_1 _ (List.mem_of_getElem? (i := 6) rfl)
theorem jw_47 : (.code jy_61 prog_8_method_1_code 1 none : Cond) ∈ jx_gw := jgi_1 _ (List.mem_of_getElem? (i := 7) rfl)
theorem jw_48 : (.methodLink "ScriptLedger$Values" 1 Lib.objectInit : Cond) ∈ jx_gw := jgi_1 _ (List.mem_of_getElem? (i := 8) rfl)
theorem jw_49 : (.fieldLink "ScriptLedger$Values" 9 "ScriptLedger$Values" "kinds" "[I" : Cond) ∈ jx_gw := jgi_1 _ (List.mem_of_getElem? (i := 9) rfl)
theorem jw_50 : (.fieldLink "ScriptLedger$Machine" 134 "ScriptLedger$Values" "kinds" "[I" : Cond) ∈ jx_gw := jgi_1 _ (List.mem_of_getElem? (i := 10) rfl)
theorem jw_51 : (.fieldLink "ScriptLedger$Values" 13 "ScriptLedger$Values" "firsts" "[I" : Cond) ∈ jx_gw := jgi_1 _ (List.mem_of_getElem? (i := 11) rfl)
theorem jw_52 : (.fieldLink "ScriptLedger$Machine" 137 "ScriptLedger$Values" "firsts" "[I" : Cond) ∈ jx_gw := jgi_1 _ (List.mem_of_getElem? (i := 12) rfl)
theorem jw_53 : (.fieldLink "ScriptLedger$Values" 16 "ScriptLedger$Values" "seconds" "[I" : Cond) ∈ jx_gw := jgi_1 _ (List.mem_of_getElem? (i := 13) rfl)
theorem jw_54 : (.fieldLink "ScriptLedger$Machine" 140 "ScriptLedger$Values" "seconds" "[I" : Cond) ∈ jx_gw := jgi_1 _ (List.mem_of_getElem? (i := 14) rfl)
theorem jw_55 : (.fieldLink "ScriptLedger$Values" 19 "ScriptLedger$Values" "sizes" "[I" : Cond) ∈ jx_gw := jgi_1 _ (List.mem_of_getElem? (i := 15) rfl)
theorem jw_56 : (.fieldLink "ScriptLedger$Machine" 144 "ScriptLedger$Values" "sizes" "[I" : Cond) ∈ jx_gw := jgi_1 _ (List.mem_of_getElem? (i := 16) rfl)
theorem jw_57 : (.fieldLink "ScriptLedger$Values" 22 "ScriptLedger$Values" "used" "I" : Cond) ∈ jx_gw := jgi_1 _ (List.mem_of_getElem? (i := 17) rfl)
theorem jw_58 : (.fieldLink "ScriptLedger$Machine" 12 "ScriptLedger$Machine" "scripts" "LScriptLedger$Scripts;" : Cond) ∈ jx_gw := jgi_1 _ (List.mem_of_getElem? (i := 18) rfl)
theorem jw_59 : (.fieldLink "ScriptLedger" 54 "ScriptLedger$Machine" "scripts" "LScriptLedger$Scripts;" : Cond) ∈ jx_gw := jgi_1 _ (List.mem_of_getElem? (i := 19) rfl)
theorem jw_60 : (.fieldLink "ScriptLedger$Machine" 21 "ScriptLedger$Machine" "values" "LScriptLedger$Values;" : Cond) ∈ jx_gw := jgi_1 _ (List.mem_of_getElem? (i := 20) rfl)
theorem jw_61 : (.fieldLink "ScriptLedger$Machine" 25 "ScriptLedger$Machine" "frameKinds" "[I" : Cond) ∈ jx_gw := jgi_1 _ (List.mem_of_getElem? (i := 21) rfl)
theorem jw_62 : (.fieldLink "ScriptLedger$Machine" 29 "ScriptLedger$Machine" "frameFirsts" "[I" : Cond) ∈ jx_gw := jgi_1 _ (List.mem_of_getElem? (i := 22) rfl)
theorem jw_63 : (.fieldLink "ScriptLedger$Machine" 32 "ScriptLedger$Machine" "frameSeconds" "[I" : Cond) ∈ jx_gw := jgi_1 _ (List.mem_of_getElem? (i := 23) rfl)
theorem jw_64 : (.fieldLink "ScriptLedger$Machine" 81 "ScriptLedger$Machine" "frames" "I" : Cond) ∈ jx_gw := jgi_1 _ (List.mem_of_getElem? (i := 24) rfl)
theorem jw_65 : (.fieldLink "ScriptLedger$Machine" 59 "ScriptLedger$Machine" "mode" "I" : Cond) ∈ jx_gw := jgi_1 _ (List.mem_of_getElem? (i := 25) rfl)
theorem jw_66 : (.fieldLink "ScriptLedger$Machine" 100 "ScriptLedger$Machine" "place" "I" : Cond) ∈ jx_gw := jgi_1 _ (List.mem_of_getElem? (i := 26) rfl)
theorem jw_67 : (.fieldLink "ScriptLedger$Machine" 106 "ScriptLedger$Machine" "around" "I" : Cond) ∈ jx_gw := jgi_1 _ (List.mem_of_getElem? (i := 27) rfl)
theorem jw_68 : (.fieldLink "ScriptLedger$Machine" 125 "ScriptLedger$Machine" "value" "I" : Cond) ∈ jx_gw := jgi_1 _ (List.mem_of_getElem? (i := 28) rfl)
theorem jw_69 : (.fieldLink "ScriptLedger$Machine" 128 "ScriptLedger$Machine" "argument" "I" : Cond) ∈ jx_gw := jgi_1 _ (List.mem_of_getElem? (i := 29) rfl)
theorem jw_70 : (.fieldLink "ScriptLedger$Machine" 87 "ScriptLedger$Machine" "budget" "I" : Cond) ∈ jx_gw := jgi_1 _ (List.mem_of_getElem? (i := 30) rfl)
theorem jw_71 : (.fieldLink "ScriptLedger$Machine" 84 "ScriptLedger$Machine" "steps" "I" : Cond) ∈ jx_gw := jgi_1 _ (List.mem_of_getElem? (i := 31) rfl)
theorem jw_72 : (.fieldLink "ScriptLedger" 78 "ScriptLedger$Machine" "steps" "I" : Cond) ∈ jx_gw := jgi_1 _ (List.mem_of_getElem? (i := 32) rfl)
theorem jw_73 : (.fieldLink "ScriptLedger$Machine" 35 "ScriptLedger$Machine" "outcome" "I" : Cond) ∈ jx_gw := jgi_1 _ (List.mem_of_getElem? (i := 33) rfl)
theorem jw_74 : (.fieldLink "ScriptLedger" 75 "ScriptLedger$Machine" "outcome" "I" : Cond) ∈ jx_gw := jgi_1 _ (List.mem_of_getElem? (i := 34) rfl)
theorem jw_75 : (.fieldLink "ScriptLedger" 81 "ScriptLedger$Machine" "resultKind" "I" : Cond) ∈ jx_gw := jgi_1 _ (List.mem_of_getElem? (i := 35) rfl)
theorem jw_76 : (.fieldLink "ScriptLedger$Machine" 169 "ScriptLedger$Machine" "resultKind" "I" : Cond) ∈ jx_gw := jgi_1 _ (List.mem_of_getElem? (i := 36) rfl)
theorem jw_77 : (.fieldLink "ScriptLedger" 84 "ScriptLedger$Machine" "resultNumber" "I" : Cond) ∈ jx_gw := jgi_1 _ (List.mem_of_getElem? (i := 37) rfl)
theorem jw_78 : (.fieldLink "ScriptLedger$Machine" 172 "ScriptLedger$Machine" "resultNumber" "I" : Cond) ∈ jx_gw := jgi_1 _ (List.mem_of_getElem? (i := 38) rfl)
theorem jw_79 : (.classLink "ScriptLedger" 23 "ScriptLedger$Ledger" : Cond) ∈ jx_gw := jgi_1 _ (List.mem_of_getElem? (i := 39) rfl)
theorem jw_80 : (.instantiable "ScriptLedger$Ledger" 6 : Cond) ∈ jx_gw := jgi_2 _ (List.mem_of_getElem? (i := 0) rfl)
theorem jw_81 : (.methodLink "ScriptLedger" 25 jy_67 : Cond) ∈ jx_gw := jgi_2 _ (List.mem_of_getElem? (i := 1) rfl)
theorem jw_82 : (.instanceMethod jy_67 : Cond) ∈ jx_gw := jgi_2 _ (List.mem_of_getElem? (i := 2) rfl)
theorem jw_83 : (.code jy_67 prog_3_method_1_code 4 none : Cond) ∈ jx_gw := jgi_2 _ (List.mem_of_getElem? (i := 3) rfl)
theorem jw_84 : (.methodLink "ScriptLedger$Ledger" 3 Lib.objectInit : Cond) ∈ jx_gw := jgi_2 _ (List.mem_of_getElem? (i := 4) rfl)
theorem jw_85 : (.classLink "ScriptLedger$Ledger" 9 "ScriptLedger$OutputRow" : Cond) ∈ jx_gw := jgi_2 _ (List.mem_of_getElem? (i := 5) rfl)
theorem jw_86 : (.instantiable "ScriptLedger$OutputRow" 4 : Cond) ∈ jx_gw := jgi_2 _ (List.mem_of_getElem? (i := 6) rfl)
theorem jw_87 : (.methodLink "ScriptLedger$Ledger" 11 jy_76 : Cond) ∈ jx_gw := jgi_2 _ (List.mem_of_getElem? (i := 7) rfl)
theorem jw_88 : (.instanceMethod jy_76 : Cond) ∈ jx_gw := jgi_2 _ (List.mem_of_getElem? (i := 8) rfl)
theorem jw_89 : (.code jy_76 prog_5_method_1_code 2 none : Cond) ∈ jx_gw := jgi_2 _ (List.mem_of_getElem? (i := 9) rfl)
theorem jw_90 : (.methodLink "ScriptLedger$OutputRow" 3 Lib.objectInit : Cond) ∈ jx_gw := jgi_2 _ (List.mem_of_getElem? (i := 10) rfl)
theorem jw_91 : (.fieldLink "ScriptLedger$OutputRow" 9 "ScriptLedger$OutputRow" "locks" "[I" : Cond) ∈ jx_gw := jgi_2 _ (List.mem_of_getElem? (i := 11) rfl)
theorem jw_92 : (.fieldLink "ScriptLedger$Ledger" 54 "ScriptLedger$OutputRow" "locks" "[I" : Cond) ∈ jx_gw := jgi_2 _ (List.mem_of_getElem? (i := 12) rfl)
theorem jw_93 : (.fieldLink "ScriptLedger" 162 "ScriptLedger$OutputRow" "locks" "[I" : Cond) ∈ jx_gw := jgi_2 _ (List.mem_of_getElem? (i := 13) rfl)
theorem jw_94 : (.fieldLink "ScriptLedger$OutputRow" 15 "ScriptLedger$OutputRow" "data" "[I" : Cond) ∈ jx_gw := jgi_2 _ (List.mem_of_getElem? (i := 14) rfl)
theorem jw_95 : (.fieldLink "ScriptLedger$Ledger" 57 "ScriptLedger$OutputRow" "data" "[I" : Cond) ∈ jx_gw := jgi_2 _ (List.mem_of_getElem? (i := 15) rfl)
theorem jw_96 : (.fieldLink "ScriptLedger" 165 "ScriptLedger$OutputRow" "data" "[I" : Cond) ∈ jx_gw := jgi_2 _ (List.mem_of_getElem? (i := 16) rfl)
theorem jw_97 : (.fieldLink "ScriptLedger$OutputRow" 18 "ScriptLedger$OutputRow" "amounts" "[I" : Cond) ∈ jx_gw := jgi_2 _ (List.mem_of_getElem? (i := 17) rfl)
theorem jw_98 : (.fieldLink "ScriptLedger$Ledger" 40 "ScriptLedger$OutputRow" "size" "I" : Cond) ∈ jx_gw := jgi_2 _ (List.mem_of_getElem? (i := 18) rfl)
theorem jw_99 : (.fieldLink "ScriptLedger$OutputRow" 21 "ScriptLedger$OutputRow" "size" "I" : Cond) ∈ jx_gw := jgi_2 _ (List.mem_of_getElem? (i := 19) rfl)
theorem jw_100 : (.fieldLink "ScriptLedger$Transaction" 40 "ScriptLedger$OutputRow" "size" "I" : Cond) ∈ jx_gw := jgi_2 _ (List.mem_of_getElem? (i := 20) rfl)
theorem jw_101 : (.fieldLink "ScriptLedger" 156 "ScriptLedger$OutputRow" "size" "I" : Cond) ∈ jx_gw := jgi_2 _ (List.mem_of_getElem? (i := 21) rfl)
theorem jw_102 : (.methodLink "ScriptLedger$Ledger" 30 Lib.Math.max.name : Cond) ∈ jx_gw := jgi_2 _ (List.mem_of_getElem? (i := 22) rfl)
theorem jw_103 : (.static Lib.Math.max.name : Cond) ∈ jx_gw := jgi_2 _ (List.mem_of_getElem? (i := 23) rfl)
theorem jw_104 : (.code Lib.Math.max.name Lib.Math.max.code 2 (some .int) : Cond) ∈ jx_gw := jgi_2 _ (List.mem_of_getElem? (i := 24) rfl)
theorem jw_105 : (.methodLink "ScriptLedger$Ledger" 36 jy_78 : Cond) ∈ jx_gw := jgi_2 _ (List.mem_of_getElem? (i := 25) rfl)
theorem jw_106 : (.instanceMethod jy_78 : Cond) ∈ jx_gw := jgi_2 _ (List.mem_of_getElem? (i := 26) rfl)
theorem jw_107 : (.selects "ScriptLedger$OutputRow" jy_78 jy_78 : Cond) ∈ jx_gw := jgi_2 _ (List.mem_of_getElem? (i := 27) rfl)
theorem jw_108 : (.code jy_78 prog_5_method_3_code 6 none : Cond) ∈ jx_gw := jgi_2 _ (List.mem_of_getElem? (i := 28) rfl)
theorem jw_109 : (.methodLink "ScriptLedger$OutputRow" 25 jy_77 : Cond) ∈ jx_gw := jgi_2 _ (List.mem_of_getElem? (i := 29) rfl)
theorem jw_110 : (.instanceMethod jy_77 : Cond) ∈ jx_gw := jgi_2 _ (List.mem_of_getElem? (i := 30) rfl)
theorem jw_111 : (.selects "ScriptLedger$OutputRow" jy_77 jy_77 : Cond) ∈ jx_gw := jgi_2 _ (List.mem_of_getElem? (i := 31) rfl)
theorem jw_112 : (.code jy_77 prog_5_method_2_code 2 (some .boolean) : Cond) ∈ jx_gw := jgi_2 _ (List.mem_of_getElem? (i := 32) rfl)
theorem jw_113 : (.fieldLink "ScriptLedger$Ledger" 14 "ScriptLedger$Ledger" "row" "LScriptLedger$OutputRow;" : Cond) ∈ jx_gw := jgi_2 _ (List.mem_of_getElem? (i := 33) rfl)
theorem jw_114 : (.fieldLink "ScriptLedger" 153 "ScriptLedger$Ledger" "row" "LScriptLedger$OutputRow;" : Cond) ∈ jx_gw := jgi_2 _ (List.mem_of_getElem? (i := 34) rfl)
theorem jw_115 : (.fieldLink "ScriptLedger$Ledger" 20 "ScriptLedger$Ledger" "spentAt" "[I" : Cond) ∈ jx_gw := jgi_2 _ (List.mem_of_getElem? (i := 35) rfl)
theorem jw_116 : (.fieldLink "ScriptLedger$Ledger" 24 "ScriptLedger$Ledger" "sizeAt" "[I" : Cond) ∈ jx_gw := jgi_2 _ (List.mem_of_getElem? (i := 36) rfl)
theorem jw_117 : (.fieldLink "ScriptLedger$Ledger" 27 "ScriptLedger$Ledger" "potAt" "[I" : Cond) ∈ jx_gw := jgi_2 _ (List.mem_of_getElem? (i := 37) rfl)
theorem jw_118 : (.fieldLink "ScriptLedger$Ledger" 66 "ScriptLedger$Ledger" "pot" "I" : Cond) ∈ jx_gw := jgi_2 _ (List.mem_of_getElem? (i := 38) rfl)
theorem jw_119 : (.fieldLink "ScriptLedger" 175 "ScriptLedger$Ledger" "pot" "I" : Cond) ∈ jx_gw := jgi_2 _ (List.mem_of_getElem? (i := 39) rfl)
theorem jw_120 : (.fieldLink "ScriptLedger$Ledger" 48 "ScriptLedger$Ledger" "height" "I" : Cond) ∈ jx_gw := jgi_3 _ (List.mem_of_getElem? (i := 0) rfl)
theorem jw_121 : (.fieldLink "ScriptLedger" 144 "ScriptLedger$Ledger" "height" "I" : Cond) ∈ jx_gw := jgi_3 _ (List.mem_of_getElem? (i := 1) rfl)
theorem jw_122 : (.classLink "ScriptLedger" 32 "ScriptLedger$Transaction" : Cond) ∈ jx_gw := jgi_3 _ (List.mem_of_getElem? (i := 2) rfl)
theorem jw_123 : (.instantiable "ScriptLedger$Transaction" 12 : Cond) ∈ jx_gw := jgi_3 _ (List.mem_of_getElem? (i := 3) rfl)
theorem jw_124 : (.methodLink "ScriptLedger" 34 jy_81 : Cond) ∈ jx_gw := jgi_3 _ (List.mem_of_getElem? (i := 4) rfl)
theorem jw_125 : (.instanceMethod jy_81 : Cond) ∈ jx_gw := jgi_3 _ (List.mem_of_getElem? (i := 5) rfl)
theorem jw_126 : (.code jy_81 prog_7_method_1_code 1 none : Cond) ∈ jx_gw := jgi_3 _ (List.mem_of_getElem? (i := 6) rfl)
theorem jw_127 : (.methodLink "ScriptLedger$Transaction" 3 Lib.objectInit : Cond) ∈ jx_gw := jgi_3 _ (List.mem_of_getElem? (i := 7) rfl)
theorem jw_128 : (.classLink "ScriptLedger$Transaction" 18 "ScriptLedger$OutputRow" : Cond) ∈ jx_gw := jgi_3 _ (List.mem_of_getElem? (i := 8) rfl)
theorem jw_129 : (.methodLink "ScriptLedger$Transaction" 20 jy_76 : Cond) ∈ jx_gw := jgi_3 _ (List.mem_of_getElem? (i := 9) rfl)
theorem jw_130 : (.methodLink "ScriptLedger$Transaction" 33 jy_82 : Cond) ∈ jx_gw := jgi_3 _ (List.mem_of_getElem? (i := 10) rfl)
theorem jw_131 : (.instanceMethod jy_82 : Cond) ∈ jx_gw := jgi_3 _ (List.mem_of_getElem? (i := 11) rfl)
theorem jw_132 : (.selects "ScriptLedger$Transaction" jy_82 jy_82 : Cond) ∈ jx_gw := jgi_3 _ (List.mem_of_getElem? (i := 12) rfl)
theorem jw_133 : (.code jy_82 prog_7_method_2_code 2 none : Cond) ∈ jx_gw := jgi_3 _ (List.mem_of_getElem? (i := 13) rfl)
theorem jw_134 : (.methodLink "ScriptLedger$Transaction" 43 jy_83 : Cond) ∈ jx_gw := jgi_3 _ (List.mem_of_getElem? (i := 14) rfl)
theorem jw_135 : (.instanceMethod jy_83 : Cond) ∈ jx_gw := jgi_3 _ (List.mem_of_getElem? (i := 15) rfl)
theorem jw_136 : (.selects "ScriptLedger$Transaction" jy_83 jy_83 : Cond) ∈ jx_gw := jgi_3 _ (List.mem_of_getElem? (i := 16) rfl)
theorem jw_137 : (.code jy_83 prog_7_method_3_code 6 none : Cond) ∈ jx_gw := jgi_3 _ (List.mem_of_getElem? (i := 17) rfl)
theorem jw_138 : (.fieldLink "ScriptLedger$Transaction" 9 "ScriptLedger$Transaction" "inputs" "[I" : Cond) ∈ jx_gw := jgi_3 _ (List.mem_of_getElem? (i := 18) rfl)
theorem jw_139 : (.fieldLink "ScriptLedger" 208 "ScriptLedger$Transaction" "inputs" "[I" : Cond) ∈ jx_gw := jgi_3 _ (List.mem_of_getElem? (i := 19) rfl)
theorem jw_140 : (.fieldLink "ScriptLedger$Transaction" 15 "ScriptLedger$Transaction" "redeemers" "[I" : Cond) ∈ jx_gw := jgi_3 _ (List.mem_of_getElem? (i := 20) rfl)
theorem jw_141 : (.fieldLink "ScriptLedger" 229 "ScriptLedger$Transaction" "redeemers" "[I" : Cond) ∈ jx_gw := jgi_3 _ (List.mem_of_getElem? (i := 21) rfl)
theorem jw_142 : (.fieldLink "ScriptLedger$Transaction" 36 "ScriptLedger$Transaction" "inputCount" "I" : Cond) ∈ jx_gw := jgi_3 _ (List.mem_of_getElem? (i := 22) rfl)
theorem jw_143 : (.fieldLink "ScriptLedger" 90 "ScriptLedger$Transaction" "inputCount" "I" : Cond) ∈ jx_gw := jgi_3 _ (List.mem_of_getElem? (i := 23) rfl)
theorem jw_144 : (.fieldLink "ScriptLedger$Transaction" 23 "ScriptLedger$Transaction" "gifts" "LScriptLedger$OutputRow;" : Cond) ∈ jx_gw := jgi_3 _ (List.mem_of_getElem? (i := 24) rfl)
theorem jw_145 : (.fieldLink "ScriptLedger" 100 "ScriptLedger$Transaction" "gifts" "LScriptLedger$OutputRow;" : Cond) ∈ jx_gw := jgi_3 _ (List.mem_of_getElem? (i := 25) rfl)
theorem jw_146 : (.fieldLink "ScriptLedger$Transaction" 27 "ScriptLedger$Transaction" "minted" "[I" : Cond) ∈ jx_gw := jgi_3 _ (List.mem_of_getElem? (i := 26) rfl)
theorem jw_147 : (.fieldLink "ScriptLedger" 118 "ScriptLedger$Transaction" "minted" "[I" : Cond) ∈ jx_gw := jgi_3 _ (List.mem_of_getElem? (i := 27) rfl)
theorem jw_148 : (.fieldLink "ScriptLedger$Transaction" 30 "ScriptLedger$Transaction" "mintRedeemers" "[I" : Cond) ∈ jx_gw := jgi_3 _ (List.mem_of_getElem? (i := 28) rfl)
theorem jw_149 : (.fieldLink "ScriptLedger" 121 "ScriptLedger$Transaction" "mintRedeemers" "[I" : Cond) ∈ jx_gw := jgi_3 _ (List.mem_of_getElem? (i := 29) rfl)
theorem jw_150 : (.fieldLink "ScriptLedger$Transaction" 50 "ScriptLedger$Transaction" "fee" "I" : Cond) ∈ jx_gw := jgi_3 _ (List.mem_of_getElem? (i := 30) rfl)
theorem jw_151 : (.fieldLink "ScriptLedger" 187 "ScriptLedger$Transaction" "fee" "I" : Cond) ∈ jx_gw := jgi_3 _ (List.mem_of_getElem? (i := 31) rfl)
theorem jw_152 : (.fieldLink "ScriptLedger$Transaction" 53 "ScriptLedger$Transaction" "from" "I" : Cond) ∈ jx_gw := jgi_3 _ (List.mem_of_getElem? (i := 32) rfl)
theorem jw_153 : (.fieldLink "ScriptLedger" 181 "ScriptLedger$Transaction" "from" "I" : Cond) ∈ jx_gw := jgi_3 _ (List.mem_of_getElem? (i := 33) rfl)
theorem jw_154 : (.fieldLink "ScriptLedger$Transaction" 56 "ScriptLedger$Transaction" "to" "I" : Cond) ∈ jx_gw := jgi_3 _ (List.mem_of_getElem? (i := 34) rfl)
theorem jw_155 : (.fieldLink "ScriptLedger" 184 "ScriptLedger$Transaction" "to" "I" : Cond) ∈ jx_gw := jgi_3 _ (List.mem_of_getElem? (i := 35) rfl)
theorem jw_156 : (.fieldLink "ScriptLedger$Transaction" 59 "ScriptLedger$Transaction" "signers" "I" : Cond) ∈ jx_gw := jgi_3 _ (List.mem_of_getElem? (i := 36) rfl)
theorem jw_157 : (.fieldLink "ScriptLedger" 232 "ScriptLedger$Transaction" "signers" "I" : Cond) ∈ jx_gw := jgi_3 _ (List.mem_of_getElem? (i := 37) rfl)
theorem jw_158 : (.fieldLink "ScriptLedger$Transaction" 62 "ScriptLedger$Transaction" "budget" "I" : Cond) ∈ jx_gw := jgi_3 _ (List.mem_of_getElem? (i := 38) rfl)
theorem jw_159 : (.fieldLink "ScriptLedger" 226 "ScriptLedger$Transaction" "budget" "I" : Cond) ∈ jx_gw := jgi_3 _ (List.mem_of_getElem? (i := 39) rfl)
theorem jw_160 : (.fieldLink "ScriptLedger$Transaction" 47 "ScriptLedger$Transaction" "guarantee" "I" : Cond) ∈ jx_gw := jgi_4 _ (List.mem_of_getElem? (i := 0) rfl)
theorem jw_161 : (.fieldLink "ScriptLedger" 127 "ScriptLedger$Transaction" "guarantee" "I" : Cond) ∈ jx_gw := jgi_4 _ (List.mem_of_getElem? (i := 1) rfl)
theorem jw_162 : (.fieldLink "ScriptLedger" 10 "ScriptLedger" "draft" "LScriptLedger$Draft;" : Cond) ∈ jx_gw := jgi_4 _ (List.mem_of_getElem? (i := 2) rfl)
theorem jw_163 : (.fieldLink "ScriptLedger" 19 "ScriptLedger" "machine" "LScriptLedger$Machine;" : Cond) ∈ jx_gw := jgi_4 _ (List.mem_of_getElem? (i := 3) rfl)
theorem jw_164 : (.fieldLink "ScriptLedger" 28 "ScriptLedger" "ledger" "LScriptLedger$Ledger;" : Cond) ∈ jx_gw := jgi_4 _ (List.mem_of_getElem? (i := 4) rfl)
theorem jw_165 : (.fieldLink "ScriptLedger" 35 "ScriptLedger" "transaction" "LScriptLedger$Transaction;" : Cond) ∈ jx_gw := jgi_4 _ (List.mem_of_getElem? (i := 5) rfl)
theorem jw_166 : (.fieldLink "ScriptLedger" 39 "ScriptLedger" "context" "[I" : Cond) ∈ jx_gw := jgi_4 _ (List.mem_of_getElem? (i := 6) rfl)
theorem jw_167 : (.fieldLink "ScriptLedger" 43 "ScriptLedger" "emptyContext" "[I" : Cond) ∈ jx_gw := jgi_4 _ (List.mem_of_getElem? (i := 7) rfl)
theorem jw_168 : (.methodLink "ScriptLedgerLaw" 23 jy_1 : Cond) ∈ jx_gw := jgi_4 _ (List.mem_of_getElem? (i := 8) rfl)
theorem jw_169 : (.instanceMethod jy_1 : Cond) ∈ jx_gw := jgi_4 _ (List.mem_of_getElem? (i := 9) rfl)
theorem jw_170 : (.selects "ScriptLedger" jy_1 jy_1 : Cond) ∈ jx_gw := jgi_4 _ (List.mem_of_getElem? (i := 10) rfl)
theorem jw_171 : (.code jy_1 prog_1_method_2_code 4 (some .boolean) : Cond) ∈ jx_gw := jgi_4 _ (List.mem_of_getElem? (i := 11) rfl)
theorem jw_172 : (.methodLink "ScriptLedger" 50 jy_33 : Cond) ∈ jx_gw := jgi_4 _ (List.mem_of_getElem? (i := 12) rfl)
theorem jw_173 : (.instanceMethod jy_33 : Cond) ∈ jx_gw := jgi_4 _ (List.mem_of_getElem? (i := 13) rfl)
theorem jw_174 : (.selects "ScriptLedger$Draft" jy_33 jy_33 : Cond) ∈ jx_gw := jgi_4 _ (List.mem_of_getElem? (i := 14) rfl)
theorem jw_175 : (.code jy_33 prog_2_method_2_code 5 none : Cond) ∈ jx_gw := jgi_4 _ (List.mem_of_getElem? (i := 15) rfl)
theorem jw_176 : (.methodLink "ScriptLedgerLaw" 28 jy_2 : Cond) ∈ jx_gw := jgi_4 _ (List.mem_of_getElem? (i := 16) rfl)
theorem jw_177 : (.instanceMethod jy_2 : Cond) ∈ jx_gw := jgi_4 _ (List.mem_of_getElem? (i := 17) rfl)
theorem jw_178 : (.selects "ScriptLedger" jy_2 jy_2 : Cond) ∈ jx_gw := jgi_4 _ (List.mem_of_getElem? (i := 18) rfl)
theorem jw_179 : (.code jy_2 prog_1_method_3_code 2 (some .int) : Cond) ∈ jx_gw := jgi_4 _ (List.mem_of_getElem? (i := 19) rfl)
theorem jw_180 : (.methodLink "ScriptLedger" 61 jy_58 : Cond) ∈ jx_gw := jgi_4 _ (List.mem_of_getElem? (i := 20) rfl)
theorem jw_181 : (.instanceMethod jy_58 : Cond) ∈ jx_gw := jgi_4 _ (List.mem_of_getElem? (i := 21) rfl)
theorem jw_182 : (.selects "ScriptLedger$Scripts" jy_58 jy_58 : Cond) ∈ jx_gw := jgi_4 _ (List.mem_of_getElem? (i := 22) rfl)
theorem jw_183 : (.code jy_58 prog_6_method_4_code 6 (some .int) : Cond) ∈ jx_gw := jgi_4 _ (List.mem_of_getElem? (i := 23) rfl)
theorem jw_184 : (.methodLink "ScriptLedger$Scripts" 22 jy_57 : Cond) ∈ jx_gw := jgi_4 _ (List.mem_of_getElem? (i := 24) rfl)
theorem jw_185 : (.instanceMethod jy_57 : Cond) ∈ jx_gw := jgi_4 _ (List.mem_of_getElem? (i := 25) rfl)
theorem jw_186 : (.selects "ScriptLedger$Scripts" jy_57 jy_57 : Cond) ∈ jx_gw := jgi_4 _ (List.mem_of_getElem? (i := 26) rfl)
theorem jw_187 : (.code jy_57 prog_6_method_3_code 2 (some .int) : Cond) ∈ jx_gw := jgi_4 _ (List.mem_of_getElem? (i := 27) rfl)
theorem jw_188 : (.methodLink "ScriptLedger$Scripts" 26 jy_59 : Cond) ∈ jx_gw := jgi_4 _ (List.mem_of_getElem? (i := 28) rfl)
theorem jw_189 : (.static jy_59 : Cond) ∈ jx_gw := jgi_4 _ (List.mem_of_getElem? (i := 29) rfl)
theorem jw_190 : (.code jy_59 prog_6_method_5_code 6 (some .int) : Cond) ∈ jx_gw := jgi_4 _ (List.mem_of_getElem? (i := 30) rfl)
theorem jw_191 : (.methodLink "ScriptLedger$Scripts" 30 jy_60 : Cond) ∈ jx_gw := jgi_4 _ (List.mem_of_getElem? (i := 31) rfl)
theorem jw_192 : (.static jy_60 : Cond) ∈ jx_gw := jgi_4 _ (List.mem_of_getElem? (i := 32) rfl)
theorem jw_193 : (.code jy_60 prog_6_method_6_code 4 (some .int) : Cond) ∈ jx_gw := jgi_4 _ (List.mem_of_getElem? (i := 33) rfl)
theorem jw_194 : (.methodLink "ScriptLedgerLaw" 33 jy_3 : Cond) ∈ jx_gw := jgi_4 _ (List.mem_of_getElem? (i := 34) rfl)
theorem jw_195 : (.instanceMethod jy_3 : Cond) ∈ jx_gw := jgi_4 _ (List.mem_of_getElem? (i := 35) rfl)
theorem jw_196 : (.selects "ScriptLedger" jy_3 jy_3 : Cond) ∈ jx_gw := jgi_4 _ (List.mem_of_getElem? (i := 36) rfl)
theorem jw_197 : (.code jy_3 prog_1_method_4_code 5 (some .int) : Cond) ∈ jx_gw := jgi_4 _ (List.mem_of_getElem? (i := 37) rfl)
theorem jw_198 : (.methodLink "ScriptLedger" 67 jy_56 : Cond) ∈ jx_gw := jgi_4 _ (List.mem_of_getElem? (i := 38) rfl)
theorem jw_199 : (.instanceMethod jy_56 : Cond) ∈ jx_gw := jgi_4 _ (List.mem_of_getElem? (i := 39) rfl)
theorem jw_200 : (.selects "ScriptLedger$Scripts" jy_56 jy_56 : Cond) ∈ jx_gw := jgi_5 _ (List.mem_of_getElem? (i := 0) rfl)
theorem jw_201 : (.code jy_56 prog_6_method_2_code 2 (some .boolean) : Cond) ∈ jx_gw := jgi_5 _ (List.mem_of_getElem? (i := 1) rfl)
theorem jw_202 : (.methodLink "ScriptLedger" 71 jy_35 : Cond) ∈ jx_gw := jgi_5 _ (List.mem_of_getElem? (i := 2) rfl)
theorem jw_203 : (.instanceMethod jy_35 : Cond) ∈ jx_gw := jgi_5 _ (List.mem_of_getElem? (i := 3) rfl)
theorem jw_204 : (.selects "ScriptLedger$Machine" jy_35 jy_35 : Cond) ∈ jx_gw := jgi_5 _ (List.mem_of_getElem? (i := 4) rfl)
theorem jw_205 : (.code jy_35 prog_4_method_2_code 7 none : Cond) ∈ jx_gw := jgi_5 _ (List.mem_of_getElem? (i := 5) rfl)
theorem jw_206 : (.methodLink "ScriptLedger$Machine" 39 jy_57 : Cond) ∈ jx_gw := jgi_5 _ (List.mem_of_getElem? (i := 6) rfl)
theorem jw_207 : (.methodLink "ScriptLedger$Machine" 43 jy_36 : Cond) ∈ jx_gw := jgi_5 _ (List.mem_of_getElem? (i := 7) rfl)
theorem jw_208 : (.instanceMethod jy_36 : Cond) ∈ jx_gw := jgi_5 _ (List.mem_of_getElem? (i := 8) rfl)
theorem jw_209 : (.code jy_36 prog_4_method_3_code 3 none : Cond) ∈ jx_gw := jgi_5 _ (List.mem_of_getElem? (i := 9) rfl)
theorem jw_210 : (.methodLink "ScriptLedger$Machine" 78 jy_62 : Cond) ∈ jx_gw := jgi_5 _ (List.mem_of_getElem? (i := 10) rfl)
theorem jw_211 : (.instanceMethod jy_62 : Cond) ∈ jx_gw := jgi_5 _ (List.mem_of_getElem? (i := 11) rfl)
theorem jw_212 : (.selects "ScriptLedger$Values" jy_62 jy_62 : Cond) ∈ jx_gw := jgi_5 _ (List.mem_of_getElem? (i := 12) rfl)
theorem jw_213 : (.code jy_62 prog_8_method_2_code 1 none : Cond) ∈ jx_gw := jgi_5 _ (List.mem_of_getElem? (i := 13) rfl)
theorem jw_214 : (.methodLink "ScriptLedger$Values" 26 jy_63 : Cond) ∈ jx_gw := jgi_5 _ (List.mem_of_getElem? (i := 14) rfl)
theorem jw_215 : (.instanceMethod jy_63 : Cond) ∈ jx_gw := jgi_5 _ (List.mem_of_getElem? (i := 15) rfl)
theorem jw_216 : (.selects "ScriptLedger$Values" jy_63 jy_63 : Cond) ∈ jx_gw := jgi_5 _ (List.mem_of_getElem? (i := 16) rfl)
theorem jw_217 : (.code jy_63 prog_8_method_3_code 5 (some .int) : Cond) ∈ jx_gw := jgi_5 _ (List.mem_of_getElem? (i := 17) rfl)
theorem jw_218 : (.methodLink "ScriptLedger$Machine" 90 jy_51 : Cond) ∈ jx_gw := jgi_5 _ (List.mem_of_getElem? (i := 18) rfl)
theorem jw_219 : (.instanceMethod jy_51 : Cond) ∈ jx_gw := jgi_5 _ (List.mem_of_getElem? (i := 19) rfl)
theorem jw_220 : (.code jy_51 prog_4_method_18_code 3 none : Cond) ∈ jx_gw := jgi_5 _ (List.mem_of_getElem? (i := 20) rfl)
theorem jw_221 : (.methodLink "ScriptLedger$Machine" 47 jy_37 : Cond) ∈ jx_gw := jgi_5 _ (List.mem_of_getElem? (i := 21) rfl)
theorem jw_222 : (.instanceMethod jy_37 : Cond) ∈ jx_gw := jgi_5 _ (List.mem_of_getElem? (i := 22) rfl)
theorem jw_223 : (.code jy_37 prog_4_method_4_code 4 (some .int) : Cond) ∈ jx_gw := jgi_5 _ (List.mem_of_getElem? (i := 23) rfl)
theorem jw_224 : (.methodLink "ScriptLedger$Machine" 55 jy_64 : Cond) ∈ jx_gw := jgi_5 _ (List.mem_of_getElem? (i := 24) rfl)
theorem jw_225 : (.instanceMethod jy_64 : Cond) ∈ jx_gw := jgi_5 _ (List.mem_of_getElem? (i := 25) rfl)
theorem jw_226 : (.selects "ScriptLedger$Values" jy_64 jy_64 : Cond) ∈ jx_gw := jgi_5 _ (List.mem_of_getElem? (i := 26) rfl)
theorem jw_227 : (.code jy_64 prog_8_method_4_code 3 (some .int) : Cond) ∈ jx_gw := jgi_5 _ (List.mem_of_getElem? (i := 27) rfl)
theorem jw_228 : (.methodLink "ScriptLedger$Machine" 93 jy_65 : Cond) ∈ jx_gw := jgi_5 _ (List.mem_of_getElem? (i := 28) rfl)
theorem jw_229 : (.instanceMethod jy_65 : Cond) ∈ jx_gw := jgi_5 _ (List.mem_of_getElem? (i := 29) rfl)
theorem jw_230 : (.selects "ScriptLedger$Values" jy_65 jy_65 : Cond) ∈ jx_gw := jgi_5 _ (List.mem_of_getElem? (i := 30) rfl)
theorem jw_231 : (.code jy_65 prog_8_method_5_code 3 (some .int) : Cond) ∈ jx_gw := jgi_5 _ (List.mem_of_getElem? (i := 31) rfl)
theorem jw_232 : (.methodLink "ScriptLedger$Machine" 51 jy_50 : Cond) ∈ jx_gw := jgi_5 _ (List.mem_of_getElem? (i := 32) rfl)
theorem jw_233 : (.instanceMethod jy_50 : Cond) ∈ jx_gw := jgi_5 _ (List.mem_of_getElem? (i := 33) rfl)
theorem jw_234 : (.code jy_50 prog_4_method_17_code 4 none : Cond) ∈ jx_gw := jgi_5 _ (List.mem_of_getElem? (i := 34) rfl)
theorem jw_235 : (.methodLink "ScriptLedger$Machine" 74 jy_53 : Cond) ∈ jx_gw := jgi_5 _ (List.mem_of_getElem? (i := 35) rfl)
theorem jw_236 : (.instanceMethod jy_53 : Cond) ∈ jx_gw := jgi_5 _ (List.mem_of_getElem? (i := 36) rfl)
theorem jw_237 : (.code jy_53 prog_4_method_20_code 2 none : Cond) ∈ jx_gw := jgi_5 _ (List.mem_of_getElem? (i := 37) rfl)
theorem jw_238 : (.methodLink "ScriptLedger$Machine" 62 jy_38 : Cond) ∈ jx_gw := jgi_5 _ (List.mem_of_getElem? (i := 38) rfl)
theorem jw_239 : (.instanceMethod jy_38 : Cond) ∈ jx_gw := jgi_5 _ (List.mem_of_getElem? (i := 39) rfl)
theorem jw_240 : (.code jy_38 prog_4_method_5_code 2 none : Cond) ∈ jx_gw := jgi_6 _ (List.mem_of_getElem? (i := 0) rfl)
theorem jw_241 : (.methodLink "ScriptLedger$Machine" 96 jy_49 : Cond) ∈ jx_gw := jgi_6 _ (List.mem_of_getElem? (i := 1) rfl)
theorem jw_242 : (.instanceMethod jy_49 : Cond) ∈ jx_gw := jgi_6 _ (List.mem_of_getElem? (i := 2) rfl)
theorem jw_243 : (.code jy_49 prog_4_method_16_code 2 (some .boolean) : Cond) ∈ jx_gw := jgi_6 _ (List.mem_of_getElem? (i := 3) rfl)
theorem jw_244 : (.methodLink "ScriptLedger$Machine" 109 jy_66 : Cond) ∈ jx_gw := jgi_6 _ (List.mem_of_getElem? (i := 4) rfl)
theorem jw_245 : (.instanceMethod jy_66 : Cond) ∈ jx_gw := jgi_6 _ (List.mem_of_getElem? (i := 5) rfl)
theorem jw_246 : (.selects "ScriptLedger$Values" jy_66 jy_66 : Cond) ∈ jx_gw := jgi_6 _ (List.mem_of_getElem? (i := 6) rfl)
theorem jw_247 : (.code jy_66 prog_8_method_6_code 5 (some .int) : Cond) ∈ jx_gw := jgi_6 _ (List.mem_of_getElem? (i := 7) rfl)
theorem jw_248 : (.methodLink "ScriptLedger$Machine" 112 jy_52 : Cond) ∈ jx_gw := jgi_6 _ (List.mem_of_getElem? (i := 8) rfl)
theorem jw_249 : (.instanceMethod jy_52 : Cond) ∈ jx_gw := jgi_6 _ (List.mem_of_getElem? (i := 9) rfl)
theorem jw_250 : (.code jy_52 prog_4_method_19_code 2 none : Cond) ∈ jx_gw := jgi_6 _ (List.mem_of_getElem? (i := 10) rfl)
theorem jw_251 : (.methodLink "ScriptLedger$Machine" 115 jy_63 : Cond) ∈ jx_gw := jgi_6 _ (List.mem_of_getElem? (i := 11) rfl)
theorem jw_252 : (.methodLink "ScriptLedger$Machine" 65 jy_39 : Cond) ∈ jx_gw := jgi_6 _ (List.mem_of_getElem? (i := 12) rfl)
theorem jw_253 : (.instanceMethod jy_39 : Cond) ∈ jx_gw := jgi_6 _ (List.mem_of_getElem? (i := 13) rfl)
theorem jw_254 : (.code jy_39 prog_4_method_6_code 1 none : Cond) ∈ jx_gw := jgi_6 _ (List.mem_of_getElem? (i := 14) rfl)
theorem jw_255 : (.methodLink "ScriptLedger$Machine" 122 jy_54 : Cond) ∈ jx_gw := jgi_6 _ (List.mem_of_getElem? (i := 15) rfl)
theorem jw_256 : (.instanceMethod jy_54 : Cond) ∈ jx_gw := jgi_6 _ (List.mem_of_getElem? (i := 16) rfl)
theorem jw_257 : (.code jy_54 prog_4_method_21_code 3 none : Cond) ∈ jx_gw := jgi_6 _ (List.mem_of_getElem? (i := 17) rfl)
theorem jw_258 : (.methodLink "ScriptLedger$Machine" 175 Lib.Math.min.name : Cond) ∈ jx_gw := jgi_6 _ (List.mem_of_getElem? (i := 18) rfl)
theorem jw_259 : (.static Lib.Math.min.name : Cond) ∈ jx_gw := jgi_6 _ (List.mem_of_getElem? (i := 19) rfl)
theorem jw_260 : (.code Lib.Math.min.name Lib.Math.min.code 2 (some .int) : Cond) ∈ jx_gw := jgi_6 _ (List.mem_of_getElem? (i := 20) rfl)
theorem jw_261 : (.methodLink "ScriptLedger$Machine" 131 jy_40 : Cond) ∈ jx_gw := jgi_6 _ (List.mem_of_getElem? (i := 21) rfl)
theorem jw_262 : (.instanceMethod jy_40 : Cond) ∈ jx_gw := jgi_6 _ (List.mem_of_getElem? (i := 22) rfl)
theorem jw_263 : (.code jy_40 prog_4_method_7_code 1 none : Cond) ∈ jx_gw := jgi_6 _ (List.mem_of_getElem? (i := 23) rfl)
theorem jw_264 : (.methodLink "ScriptLedger$Machine" 68 jy_41 : Cond) ∈ jx_gw := jgi_6 _ (List.mem_of_getElem? (i := 24) rfl)
theorem jw_265 : (.instanceMethod jy_41 : Cond) ∈ jx_gw := jgi_6 _ (List.mem_of_getElem? (i := 25) rfl)
theorem jw_266 : (.code jy_41 prog_4_method_8_code 1 none : Cond) ∈ jx_gw := jgi_6 _ (List.mem_of_getElem? (i := 26) rfl)
theorem jw_267 : (.methodLink "ScriptLedger$Machine" 141 jy_42 : Cond) ∈ jx_gw := jgi_6 _ (List.mem_of_getElem? (i := 27) rfl)
theorem jw_268 : (.instanceMethod jy_42 : Cond) ∈ jx_gw := jgi_6 _ (List.mem_of_getElem? (i := 28) rfl)
theorem jw_269 : (.code jy_42 prog_4_method_9_code 4 none : Cond) ∈ jx_gw := jgi_6 _ (List.mem_of_getElem? (i := 29) rfl)
theorem jw_270 : (.fieldLink "ScriptLedger$Machine" 147 "ScriptLedger$Machine" "ARGUMENTS" "[I" : Cond) ∈ jx_gw := jgi_6 _ (List.mem_of_getElem? (i := 30) rfl)
theorem jw_271 : (.methodLink "ScriptLedger$Machine" 71 jy_43 : Cond) ∈ jx_gw := jgi_6 _ (List.mem_of_getElem? (i := 31) rfl)
theorem jw_272 : (.instanceMethod jy_43 : Cond) ∈ jx_gw := jgi_6 _ (List.mem_of_getElem? (i := 32) rfl)
theorem jw_273 : (.code jy_43 prog_4_method_10_code 4 none : Cond) ∈ jx_gw := jgi_6 _ (List.mem_of_getElem? (i := 33) rfl)
theorem jw_274 : (.fieldLink "ScriptLedger$Machine" 150 "ScriptLedger$Machine" "COSTS" "[I" : Cond) ∈ jx_gw := jgi_6 _ (List.mem_of_getElem? (i := 34) rfl)
theorem jw_275 : (.methodLink "ScriptLedger$Machine" 153 jy_44 : Cond) ∈ jx_gw := jgi_6 _ (List.mem_of_getElem? (i := 35) rfl)
theorem jw_276 : (.instanceMethod jy_44 : Cond) ∈ jx_gw := jgi_6 _ (List.mem_of_getElem? (i := 36) rfl)
theorem jw_277 : (.code jy_44 prog_4_method_11_code 6 none : Cond) ∈ jx_gw := jgi_6 _ (List.mem_of_getElem? (i := 37) rfl)
theorem jw_278 : (.methodLink "ScriptLedger$Machine" 165 jy_45 : Cond) ∈ jx_gw := jgi_6 _ (List.mem_of_getElem? (i := 38) rfl)
theorem jw_279 : (.static jy_45 : Cond) ∈ jx_gw := jgi_6 _ (List.mem_of_getElem? (i := 39) rfl)
theorem jw_280 : (.code jy_45 prog_4_method_12_code 3 (some .int) : Cond) ∈ jx_gw := jgi_7 _ (List.mem_of_getElem? (i := 0) rfl)
theorem jw_281 : (.methodLink "ScriptLedger$Machine" 156 jy_46 : Cond) ∈ jx_gw := jgi_7 _ (List.mem_of_getElem? (i := 1) rfl)
theorem jw_282 : (.instanceMethod jy_46 : Cond) ∈ jx_gw := jgi_7 _ (List.mem_of_getElem? (i := 2) rfl)
theorem jw_283 : (.code jy_46 prog_4_method_13_code 4 none : Cond) ∈ jx_gw := jgi_7 _ (List.mem_of_getElem? (i := 3) rfl)
theorem jw_284 : (.methodLink "ScriptLedger$Machine" 159 jy_47 : Cond) ∈ jx_gw := jgi_7 _ (List.mem_of_getElem? (i := 4) rfl)
theorem jw_285 : (.instanceMethod jy_47 : Cond) ∈ jx_gw := jgi_7 _ (List.mem_of_getElem? (i := 5) rfl)
theorem jw_286 : (.code jy_47 prog_4_method_14_code 4 none : Cond) ∈ jx_gw := jgi_7 _ (List.mem_of_getElem? (i := 6) rfl)
theorem jw_287 : (.methodLink "ScriptLedger$Machine" 162 jy_48 : Cond) ∈ jx_gw := jgi_7 _ (List.mem_of_getElem? (i := 7) rfl)
theorem jw_288 : (.instanceMethod jy_48 : Cond) ∈ jx_gw := jgi_7 _ (List.mem_of_getElem? (i := 8) rfl)
theorem jw_289 : (.code jy_48 prog_4_method_15_code 5 none : Cond) ∈ jx_gw := jgi_7 _ (List.mem_of_getElem? (i := 9) rfl)
theorem jw_290 : (.methodLink "ScriptLedgerLaw" 38 jy_4 : Cond) ∈ jx_gw := jgi_7 _ (List.mem_of_getElem? (i := 10) rfl)
theorem jw_291 : (.instanceMethod jy_4 : Cond) ∈ jx_gw := jgi_7 _ (List.mem_of_getElem? (i := 11) rfl)
theorem jw_292 : (.selects "ScriptLedger" jy_4 jy_4 : Cond) ∈ jx_gw := jgi_7 _ (List.mem_of_getElem? (i := 12) rfl)
theorem jw_293 : (.code jy_4 prog_1_method_5_code 2 (some .int) : Cond) ∈ jx_gw := jgi_7 _ (List.mem_of_getElem? (i := 13) rfl)
theorem jw_294 : (.methodLink "ScriptLedgerLaw" 43 jy_5 : Cond) ∈ jx_gw := jgi_7 _ (List.mem_of_getElem? (i := 14) rfl)
theorem jw_295 : (.instanceMethod jy_5 : Cond) ∈ jx_gw := jgi_7 _ (List.mem_of_getElem? (i := 15) rfl)
theorem jw_296 : (.selects "ScriptLedger" jy_5 jy_5 : Cond) ∈ jx_gw := jgi_7 _ (List.mem_of_getElem? (i := 16) rfl)
theorem jw_297 : (.code jy_5 prog_1_method_6_code 1 none : Cond) ∈ jx_gw := jgi_7 _ (List.mem_of_getElem? (i := 17) rfl)
theorem jw_298 : (.methodLink "ScriptLedger" 87 jy_82 : Cond) ∈ jx_gw := jgi_7 _ (List.mem_of_getElem? (i := 18) rfl)
theorem jw_299 : (.methodLink "ScriptLedgerLaw" 47 jy_6 : Cond) ∈ jx_gw := jgi_7 _ (List.mem_of_getElem? (i := 19) rfl)
theorem jw_300 : (.instanceMethod jy_6 : Cond) ∈ jx_gw := jgi_7 _ (List.mem_of_getElem? (i := 20) rfl)
theorem jw_301 : (.selects "ScriptLedger" jy_6 jy_6 : Cond) ∈ jx_gw := jgi_7 _ (List.mem_of_getElem? (i := 21) rfl)
theorem jw_302 : (.code jy_6 prog_1_method_7_code 3 (some .boolean) : Cond) ∈ jx_gw := jgi_7 _ (List.mem_of_getElem? (i := 22) rfl)
theorem jw_303 : (.methodLink "ScriptLedger" 93 jy_84 : Cond) ∈ jx_gw := jgi_7 _ (List.mem_of_getElem? (i := 23) rfl)
theorem jw_304 : (.instanceMethod jy_84 : Cond) ∈ jx_gw := jgi_7 _ (List.mem_of_getElem? (i := 24) rfl)
theorem jw_305 : (.selects "ScriptLedger$Transaction" jy_84 jy_84 : Cond) ∈ jx_gw := jgi_7 _ (List.mem_of_getElem? (i := 25) rfl)
theorem jw_306 : (.code jy_84 prog_7_method_4_code 3 (some .boolean) : Cond) ∈ jx_gw := jgi_7 _ (List.mem_of_getElem? (i := 26) rfl)
theorem jw_307 : (.methodLink "ScriptLedger" 96 jy_85 : Cond) ∈ jx_gw := jgi_7 _ (List.mem_of_getElem? (i := 27) rfl)
theorem jw_308 : (.instanceMethod jy_85 : Cond) ∈ jx_gw := jgi_7 _ (List.mem_of_getElem? (i := 28) rfl)
theorem jw_309 : (.selects "ScriptLedger$Transaction" jy_85 jy_85 : Cond) ∈ jx_gw := jgi_7 _ (List.mem_of_getElem? (i := 29) rfl)
theorem jw_310 : (.code jy_85 prog_7_method_5_code 3 none : Cond) ∈ jx_gw := jgi_7 _ (List.mem_of_getElem? (i := 30) rfl)
theorem jw_311 : (.methodLink "ScriptLedgerLaw" 52 jy_7 : Cond) ∈ jx_gw := jgi_7 _ (List.mem_of_getElem? (i := 31) rfl)
theorem jw_312 : (.instanceMethod jy_7 : Cond) ∈ jx_gw := jgi_7 _ (List.mem_of_getElem? (i := 32) rfl)
theorem jw_313 : (.selects "ScriptLedger" jy_7 jy_7 : Cond) ∈ jx_gw := jgi_7 _ (List.mem_of_getElem? (i := 33) rfl)
theorem jw_314 : (.code jy_7 prog_1_method_8_code 6 (some .boolean) : Cond) ∈ jx_gw := jgi_7 _ (List.mem_of_getElem? (i := 34) rfl)
theorem jw_315 : (.methodLink "ScriptLedger" 104 jy_77 : Cond) ∈ jx_gw := jgi_7 _ (List.mem_of_getElem? (i := 35) rfl)
theorem jw_316 : (.methodLink "ScriptLedger" 109 jy_19 : Cond) ∈ jx_gw := jgi_7 _ (List.mem_of_getElem? (i := 36) rfl)
theorem jw_317 : (.static jy_19 : Cond) ∈ jx_gw := jgi_7 _ (List.mem_of_getElem? (i := 37) rfl)
theorem jw_318 : (.code jy_19 prog_1_method_20_code 1 (some .boolean) : Cond) ∈ jx_gw := jgi_7 _ (List.mem_of_getElem? (i := 38) rfl)
theorem jw_319 : (.constant "ScriptLedger" 117 1000000 : Cond) ∈ jx_gw := jgi_7 _ (List.mem_of_getElem? (i := 39) rfl)
theorem jw_320 : (.methodLink "ScriptLedger" 112 jy_78 : Cond) ∈ jx_gw := jgi_8 _ (List.mem_of_getElem? (i := 0) rfl)
theorem jw_321 : (.methodLink "ScriptLedgerLaw" 57 jy_8 : Cond) ∈ jx_gw := jgi_8 _ (List.mem_of_getElem? (i := 1) rfl)
theorem jw_322 : (.instanceMethod jy_8 : Cond) ∈ jx_gw := jgi_8 _ (List.mem_of_getElem? (i := 2) rfl)
theorem jw_323 : (.selects "ScriptLedger" jy_8 jy_8 : Cond) ∈ jx_gw := jgi_8 _ (List.mem_of_getElem? (i := 3) rfl)
theorem jw_324 : (.code jy_8 prog_1_method_9_code 4 (some .boolean) : Cond) ∈ jx_gw := jgi_8 _ (List.mem_of_getElem? (i := 4) rfl)
theorem jw_325 : (.constant "ScriptLedger" 116 (-1000000) : Cond) ∈ jx_gw := jgi_8 _ (List.mem_of_getElem? (i := 5) rfl)
theorem jw_326 : (.methodLink "ScriptLedgerLaw" 62 jy_9 : Cond) ∈ jx_gw := jgi_8 _ (List.mem_of_getElem? (i := 6) rfl)
theorem jw_327 : (.instanceMethod jy_9 : Cond) ∈ jx_gw := jgi_8 _ (List.mem_of_getElem? (i := 7) rfl)
theorem jw_328 : (.selects "ScriptLedger" jy_9 jy_9 : Cond) ∈ jx_gw := jgi_8 _ (List.mem_of_getElem? (i := 8) rfl)
theorem jw_329 : (.code jy_9 prog_1_method_10_code 6 (some .boolean) : Cond) ∈ jx_gw := jgi_8 _ (List.mem_of_getElem? (i := 9) rfl)
theorem jw_330 : (.methodLink "ScriptLedger" 124 jy_83 : Cond) ∈ jx_gw := jgi_8 _ (List.mem_of_getElem? (i := 10) rfl)
theorem jw_331 : (.methodLink "ScriptLedgerLaw" 66 jy_10 : Cond) ∈ jx_gw := jgi_8 _ (List.mem_of_getElem? (i := 11) rfl)
theorem jw_332 : (.instanceMethod jy_10 : Cond) ∈ jx_gw := jgi_8 _ (List.mem_of_getElem? (i := 12) rfl)
theorem jw_333 : (.selects "ScriptLedger" jy_10 jy_10 : Cond) ∈ jx_gw := jgi_8 _ (List.mem_of_getElem? (i := 13) rfl)
theorem jw_334 : (.code jy_10 prog_1_method_11_code 2 (some .boolean) : Cond) ∈ jx_gw := jgi_8 _ (List.mem_of_getElem? (i := 14) rfl)
theorem jw_335 : (.methodLink "ScriptLedgerLaw" 71 jy_11 : Cond) ∈ jx_gw := jgi_8 _ (List.mem_of_getElem? (i := 15) rfl)
theorem jw_336 : (.instanceMethod jy_11 : Cond) ∈ jx_gw := jgi_8 _ (List.mem_of_getElem? (i := 16) rfl)
theorem jw_337 : (.selects "ScriptLedger" jy_11 jy_11 : Cond) ∈ jx_gw := jgi_8 _ (List.mem_of_getElem? (i := 17) rfl)
theorem jw_338 : (.code jy_11 prog_1_method_12_code 2 (some .int) : Cond) ∈ jx_gw := jgi_8 _ (List.mem_of_getElem? (i := 18) rfl)
theorem jw_339 : (.methodLink "ScriptLedger" 130 jy_20 : Cond) ∈ jx_gw := jgi_8 _ (List.mem_of_getElem? (i := 19) rfl)
theorem jw_340 : (.instanceMethod jy_20 : Cond) ∈ jx_gw := jgi_8 _ (List.mem_of_getElem? (i := 20) rfl)
theorem jw_341 : (.code jy_20 prog_1_method_21_code 1 (some .int) : Cond) ∈ jx_gw := jgi_8 _ (List.mem_of_getElem? (i := 21) rfl)
theorem jw_342 : (.methodLink "ScriptLedger" 178 jy_21 : Cond) ∈ jx_gw := jgi_8 _ (List.mem_of_getElem? (i := 22) rfl)
theorem jw_343 : (.instanceMethod jy_21 : Cond) ∈ jx_gw := jgi_8 _ (List.mem_of_getElem? (i := 23) rfl)
theorem jw_344 : (.code jy_21 prog_1_method_22_code 2 (some .boolean) : Cond) ∈ jx_gw := jgi_8 _ (List.mem_of_getElem? (i := 24) rfl)
theorem jw_345 : (.methodLink "ScriptLedger" 168 jy_69 : Cond) ∈ jx_gw := jgi_8 _ (List.mem_of_getElem? (i := 25) rfl)
theorem jw_346 : (.instanceMethod jy_69 : Cond) ∈ jx_gw := jgi_8 _ (List.mem_of_getElem? (i := 26) rfl)
theorem jw_347 : (.selects "ScriptLedger$Ledger" jy_69 jy_69 : Cond) ∈ jx_gw := jgi_8 _ (List.mem_of_getElem? (i := 27) rfl)
theorem jw_348 : (.code jy_69 prog_3_method_3_code 2 (some .boolean) : Cond) ∈ jx_gw := jgi_8 _ (List.mem_of_getElem? (i := 28) rfl)
theorem jw_349 : (.methodLink "ScriptLedger$Ledger" 44 jy_68 : Cond) ∈ jx_gw := jgi_8 _ (List.mem_of_getElem? (i := 29) rfl)
theorem jw_350 : (.instanceMethod jy_68 : Cond) ∈ jx_gw := jgi_8 _ (List.mem_of_getElem? (i := 30) rfl)
theorem jw_351 : (.selects "ScriptLedger$Ledger" jy_68 jy_68 : Cond) ∈ jx_gw := jgi_8 _ (List.mem_of_getElem? (i := 31) rfl)
theorem jw_352 : (.code jy_68 prog_3_method_2_code 2 (some .boolean) : Cond) ∈ jx_gw := jgi_8 _ (List.mem_of_getElem? (i := 32) rfl)
theorem jw_353 : (.methodLink "ScriptLedger" 190 jy_86 : Cond) ∈ jx_gw := jgi_8 _ (List.mem_of_getElem? (i := 33) rfl)
theorem jw_354 : (.instanceMethod jy_86 : Cond) ∈ jx_gw := jgi_8 _ (List.mem_of_getElem? (i := 34) rfl)
theorem jw_355 : (.selects "ScriptLedger$Transaction" jy_86 jy_86 : Cond) ∈ jx_gw := jgi_8 _ (List.mem_of_getElem? (i := 35) rfl)
theorem jw_356 : (.code jy_86 prog_7_method_6_code 1 (some .int) : Cond) ∈ jx_gw := jgi_8 _ (List.mem_of_getElem? (i := 36) rfl)
theorem jw_357 : (.methodLink "ScriptLedger" 193 jy_22 : Cond) ∈ jx_gw := jgi_8 _ (List.mem_of_getElem? (i := 37) rfl)
theorem jw_358 : (.instanceMethod jy_22 : Cond) ∈ jx_gw := jgi_8 _ (List.mem_of_getElem? (i := 38) rfl)
theorem jw_359 : (.code jy_22 prog_1_method_23_code 4 (some .boolean) : Cond) ∈ jx_gw := jgi_8 _ (List.mem_of_getElem? (i := 39) rfl)
theorem jw_360 : (.methodLink "ScriptLedger" 211 jy_23 : Cond) ∈ jx_gw := jgi_9 _ (List.mem_of_getElem? (i := 0) rfl)
theorem jw_361 : (.instanceMethod jy_23 : Cond) ∈ jx_gw := jgi_9 _ (List.mem_of_getElem? (i := 1) rfl)
theorem jw_362 : (.code jy_23 prog_1_method_24_code 4 (some .int) : Cond) ∈ jx_gw := jgi_9 _ (List.mem_of_getElem? (i := 2) rfl)
theorem jw_363 : (.methodLink "ScriptLedger" 158 jy_79 : Cond) ∈ jx_gw := jgi_9 _ (List.mem_of_getElem? (i := 3) rfl)
theorem jw_364 : (.instanceMethod jy_79 : Cond) ∈ jx_gw := jgi_9 _ (List.mem_of_getElem? (i := 4) rfl)
theorem jw_365 : (.selects "ScriptLedger$OutputRow" jy_79 jy_79 : Cond) ∈ jx_gw := jgi_9 _ (List.mem_of_getElem? (i := 5) rfl)
theorem jw_366 : (.code jy_79 prog_5_method_4_code 3 (some .int) : Cond) ∈ jx_gw := jgi_9 _ (List.mem_of_getElem? (i := 6) rfl)
theorem jw_367 : (.methodLink "ScriptLedger" 214 jy_80 : Cond) ∈ jx_gw := jgi_9 _ (List.mem_of_getElem? (i := 7) rfl)
theorem jw_368 : (.instanceMethod jy_80 : Cond) ∈ jx_gw := jgi_9 _ (List.mem_of_getElem? (i := 8) rfl)
theorem jw_369 : (.selects "ScriptLedger$OutputRow" jy_80 jy_80 : Cond) ∈ jx_gw := jgi_9 _ (List.mem_of_getElem? (i := 9) rfl)
theorem jw_370 : (.code jy_80 prog_5_method_5_code 4 (some .int) : Cond) ∈ jx_gw := jgi_9 _ (List.mem_of_getElem? (i := 10) rfl)
theorem jw_371 : (.methodLink "ScriptLedger$OutputRow" 29 jy_79 : Cond) ∈ jx_gw := jgi_9 _ (List.mem_of_getElem? (i := 11) rfl)
theorem jw_372 : (.methodLink "ScriptLedger" 196 jy_24 : Cond) ∈ jx_gw := jgi_9 _ (List.mem_of_getElem? (i := 12) rfl)
theorem jw_373 : (.instanceMethod jy_24 : Cond) ∈ jx_gw := jgi_9 _ (List.mem_of_getElem? (i := 13) rfl)
theorem jw_374 : (.code jy_24 prog_1_method_25_code 3 (some .boolean) : Cond) ∈ jx_gw := jgi_9 _ (List.mem_of_getElem? (i := 14) rfl)
theorem jw_375 : (.methodLink "ScriptLedger" 217 jy_87 : Cond) ∈ jx_gw := jgi_9 _ (List.mem_of_getElem? (i := 15) rfl)
theorem jw_376 : (.instanceMethod jy_87 : Cond) ∈ jx_gw := jgi_9 _ (List.mem_of_getElem? (i := 16) rfl)
theorem jw_377 : (.selects "ScriptLedger$Transaction" jy_87 jy_87 : Cond) ∈ jx_gw := jgi_9 _ (List.mem_of_getElem? (i := 17) rfl)
theorem jw_378 : (.code jy_87 prog_7_method_7_code 2 (some .boolean) : Cond) ∈ jx_gw := jgi_9 _ (List.mem_of_getElem? (i := 18) rfl)
theorem jw_379 : (.methodLink "ScriptLedger" 199 jy_25 : Cond) ∈ jx_gw := jgi_9 _ (List.mem_of_getElem? (i := 19) rfl)
theorem jw_380 : (.instanceMethod jy_25 : Cond) ∈ jx_gw := jgi_9 _ (List.mem_of_getElem? (i := 20) rfl)
theorem jw_381 : (.code jy_25 prog_1_method_26_code 3 (some .boolean) : Cond) ∈ jx_gw := jgi_9 _ (List.mem_of_getElem? (i := 21) rfl)
theorem jw_382 : (.methodLink "ScriptLedger" 220 jy_27 : Cond) ∈ jx_gw := jgi_9 _ (List.mem_of_getElem? (i := 22) rfl)
theorem jw_383 : (.static jy_27 : Cond) ∈ jx_gw := jgi_9 _ (List.mem_of_getElem? (i := 23) rfl)
theorem jw_384 : (.code jy_27 prog_1_method_28_code 1 (some .int) : Cond) ∈ jx_gw := jgi_9 _ (List.mem_of_getElem? (i := 24) rfl)
theorem jw_385 : (.methodLink "ScriptLedger" 202 jy_26 : Cond) ∈ jx_gw := jgi_9 _ (List.mem_of_getElem? (i := 25) rfl)
theorem jw_386 : (.instanceMethod jy_26 : Cond) ∈ jx_gw := jgi_9 _ (List.mem_of_getElem? (i := 26) rfl)
theorem jw_387 : (.code jy_26 prog_1_method_27_code 2 (some .boolean) : Cond) ∈ jx_gw := jgi_9 _ (List.mem_of_getElem? (i := 27) rfl)
theorem jw_388 : (.methodLink "ScriptLedger" 205 jy_28 : Cond) ∈ jx_gw := jgi_9 _ (List.mem_of_getElem? (i := 28) rfl)
theorem jw_389 : (.instanceMethod jy_28 : Cond) ∈ jx_gw := jgi_9 _ (List.mem_of_getElem? (i := 29) rfl)
theorem jw_390 : (.code jy_28 prog_1_method_29_code 3 (some .boolean) : Cond) ∈ jx_gw := jgi_9 _ (List.mem_of_getElem? (i := 30) rfl)
theorem jw_391 : (.methodLink "ScriptLedger" 134 jy_29 : Cond) ∈ jx_gw := jgi_9 _ (List.mem_of_getElem? (i := 31) rfl)
theorem jw_392 : (.instanceMethod jy_29 : Cond) ∈ jx_gw := jgi_9 _ (List.mem_of_getElem? (i := 32) rfl)
theorem jw_393 : (.code jy_29 prog_1_method_30_code 5 (some .boolean) : Cond) ∈ jx_gw := jgi_9 _ (List.mem_of_getElem? (i := 33) rfl)
theorem jw_394 : (.methodLink "ScriptLedger" 223 jy_30 : Cond) ∈ jx_gw := jgi_9 _ (List.mem_of_getElem? (i := 34) rfl)
theorem jw_395 : (.instanceMethod jy_30 : Cond) ∈ jx_gw := jgi_9 _ (List.mem_of_getElem? (i := 35) rfl)
theorem jw_396 : (.code jy_30 prog_1_method_31_code 1 none : Cond) ∈ jx_gw := jgi_9 _ (List.mem_of_getElem? (i := 36) rfl)
theorem jw_397 : (.methodLink "ScriptLedger" 138 jy_31 : Cond) ∈ jx_gw := jgi_9 _ (List.mem_of_getElem? (i := 37) rfl)
theorem jw_398 : (.instanceMethod jy_31 : Cond) ∈ jx_gw := jgi_9 _ (List.mem_of_getElem? (i := 38) rfl)
theorem jw_399 : (.code jy_31 prog_1_method_32_code 2 none : Cond) ∈ jx_gw := jgi_9 _ (List.mem_of_getElem? (i := 39) rfl)
theorem jw_400 : (.methodLink "ScriptLedger" 235 jy_70 : Cond) ∈ jx_gw := jgi_10 _ (List.mem_of_getElem? (i := 0) rfl)
theorem jw_401 : (.instanceMethod jy_70 : Cond) ∈ jx_gw := jgi_10 _ (List.mem_of_getElem? (i := 1) rfl)
theorem jw_402 : (.selects "ScriptLedger$Ledger" jy_70 jy_70 : Cond) ∈ jx_gw := jgi_10 _ (List.mem_of_getElem? (i := 2) rfl)
theorem jw_403 : (.code jy_70 prog_3_method_4_code 2 none : Cond) ∈ jx_gw := jgi_10 _ (List.mem_of_getElem? (i := 3) rfl)
theorem jw_404 : (.methodLink "ScriptLedger" 238 jy_71 : Cond) ∈ jx_gw := jgi_10 _ (List.mem_of_getElem? (i := 4) rfl)
theorem jw_405 : (.instanceMethod jy_71 : Cond) ∈ jx_gw := jgi_10 _ (List.mem_of_getElem? (i := 5) rfl)
theorem jw_406 : (.selects "ScriptLedger$Ledger" jy_71 jy_71 : Cond) ∈ jx_gw := jgi_10 _ (List.mem_of_getElem? (i := 6) rfl)
theorem jw_407 : (.code jy_71 prog_3_method_5_code 3 none : Cond) ∈ jx_gw := jgi_10 _ (List.mem_of_getElem? (i := 7) rfl)
theorem jw_408 : (.methodLink "ScriptLedger$Ledger" 51 jy_77 : Cond) ∈ jx_gw := jgi_10 _ (List.mem_of_getElem? (i := 8) rfl)
theorem jw_409 : (.methodLink "ScriptLedger$Ledger" 60 jy_79 : Cond) ∈ jx_gw := jgi_10 _ (List.mem_of_getElem? (i := 9) rfl)
theorem jw_410 : (.methodLink "ScriptLedger" 141 jy_72 : Cond) ∈ jx_gw := jgi_10 _ (List.mem_of_getElem? (i := 10) rfl)
theorem jw_411 : (.instanceMethod jy_72 : Cond) ∈ jx_gw := jgi_10 _ (List.mem_of_getElem? (i := 11) rfl)
theorem jw_412 : (.selects "ScriptLedger$Ledger" jy_72 jy_72 : Cond) ∈ jx_gw := jgi_10 _ (List.mem_of_getElem? (i := 12) rfl)
theorem jw_413 : (.code jy_72 prog_3_method_6_code 2 none : Cond) ∈ jx_gw := jgi_10 _ (List.mem_of_getElem? (i := 13) rfl)
theorem jw_414 : (.methodLink "ScriptLedger$Ledger" 63 jy_70 : Cond) ∈ jx_gw := jgi_10 _ (List.mem_of_getElem? (i := 14) rfl)
theorem jw_415 : (.methodLink "ScriptLedgerLaw" 75 jy_12 : Cond) ∈ jx_gw := jgi_10 _ (List.mem_of_getElem? (i := 15) rfl)
theorem jw_416 : (.instanceMethod jy_12 : Cond) ∈ jx_gw := jgi_10 _ (List.mem_of_getElem? (i := 16) rfl)
theorem jw_417 : (.selects "ScriptLedger" jy_12 jy_12 : Cond) ∈ jx_gw := jgi_10 _ (List.mem_of_getElem? (i := 17) rfl)
theorem jw_418 : (.code jy_12 prog_1_method_13_code 1 (some .int) : Cond) ∈ jx_gw := jgi_10 _ (List.mem_of_getElem? (i := 18) rfl)
theorem jw_419 : (.methodLink "ScriptLedger" 147 jy_74 : Cond) ∈ jx_gw := jgi_10 _ (List.mem_of_getElem? (i := 19) rfl)
theorem jw_420 : (.instanceMethod jy_74 : Cond) ∈ jx_gw := jgi_10 _ (List.mem_of_getElem? (i := 20) rfl)
theorem jw_421 : (.selects "ScriptLedger$Ledger" jy_74 jy_74 : Cond) ∈ jx_gw := jgi_10 _ (List.mem_of_getElem? (i := 21) rfl)
theorem jw_422 : (.code jy_74 prog_3_method_8_code 1 none : Cond) ∈ jx_gw := jgi_10 _ (List.mem_of_getElem? (i := 22) rfl)
theorem jw_423 : (.methodLink "ScriptLedgerLaw" 79 jy_13 : Cond) ∈ jx_gw := jgi_10 _ (List.mem_of_getElem? (i := 23) rfl)
theorem jw_424 : (.instanceMethod jy_13 : Cond) ∈ jx_gw := jgi_10 _ (List.mem_of_getElem? (i := 24) rfl)
theorem jw_425 : (.selects "ScriptLedger" jy_13 jy_13 : Cond) ∈ jx_gw := jgi_10 _ (List.mem_of_getElem? (i := 25) rfl)
theorem jw_426 : (.code jy_13 prog_1_method_14_code 2 (some .int) : Cond) ∈ jx_gw := jgi_10 _ (List.mem_of_getElem? (i := 26) rfl)
theorem jw_427 : (.methodLink "ScriptLedger" 150 jy_75 : Cond) ∈ jx_gw := jgi_10 _ (List.mem_of_getElem? (i := 27) rfl)
theorem jw_428 : (.instanceMethod jy_75 : Cond) ∈ jx_gw := jgi_10 _ (List.mem_of_getElem? (i := 28) rfl)
theorem jw_429 : (.selects "ScriptLedger$Ledger" jy_75 jy_75 : Cond) ∈ jx_gw := jgi_10 _ (List.mem_of_getElem? (i := 29) rfl)
theorem jw_430 : (.code jy_75 prog_3_method_9_code 3 none : Cond) ∈ jx_gw := jgi_10 _ (List.mem_of_getElem? (i := 30) rfl)
theorem jw_431 : (.methodLink "ScriptLedgerLaw" 83 jy_14 : Cond) ∈ jx_gw := jgi_10 _ (List.mem_of_getElem? (i := 31) rfl)
theorem jw_432 : (.instanceMethod jy_14 : Cond) ∈ jx_gw := jgi_10 _ (List.mem_of_getElem? (i := 32) rfl)
theorem jw_433 : (.selects "ScriptLedger" jy_14 jy_14 : Cond) ∈ jx_gw := jgi_10 _ (List.mem_of_getElem? (i := 33) rfl)
theorem jw_434 : (.code jy_14 prog_1_method_15_code 1 (some .int) : Cond) ∈ jx_gw := jgi_10 _ (List.mem_of_getElem? (i := 34) rfl)
theorem jw_435 : (.methodLink "ScriptLedgerLaw" 87 jy_15 : Cond) ∈ jx_gw := jgi_10 _ (List.mem_of_getElem? (i := 35) rfl)
theorem jw_436 : (.instanceMethod jy_15 : Cond) ∈ jx_gw := jgi_10 _ (List.mem_of_getElem? (i := 36) rfl)
theorem jw_437 : (.selects "ScriptLedger" jy_15 jy_15 : Cond) ∈ jx_gw := jgi_10 _ (List.mem_of_getElem? (i := 37) rfl)
theorem jw_438 : (.code jy_15 prog_1_method_16_code 3 (some .int) : Cond) ∈ jx_gw := jgi_10 _ (List.mem_of_getElem? (i := 38) rfl)
theorem jw_439 : (.methodLink "ScriptLedger" 157 jy_68 : Cond) ∈ jx_gw := jgi_10 _ (List.mem_of_getElem? (i := 39) rfl)
theorem jw_440 : (.methodLink "ScriptLedgerLaw" 92 jy_16 : Cond) ∈ jx_gw := jgi_11 _ (List.mem_of_getElem? (i := 0) rfl)
theorem jw_441 : (.instanceMethod jy_16 : Cond) ∈ jx_gw := jgi_11 _ (List.mem_of_getElem? (i := 1) rfl)
theorem jw_442 : (.selects "ScriptLedger" jy_16 jy_16 : Cond) ∈ jx_gw := jgi_11 _ (List.mem_of_getElem? (i := 2) rfl)
theorem jw_443 : (.code jy_16 prog_1_method_17_code 2 (some .int) : Cond) ∈ jx_gw := jgi_11 _ (List.mem_of_getElem? (i := 3) rfl)
theorem jw_444 : (.methodLink "ScriptLedger" 171 jy_73 : Cond) ∈ jx_gw := jgi_11 _ (List.mem_of_getElem? (i := 4) rfl)
theorem jw_445 : (.instanceMethod jy_73 : Cond) ∈ jx_gw := jgi_11 _ (List.mem_of_getElem? (i := 5) rfl)
theorem jw_446 : (.selects "ScriptLedger$Ledger" jy_73 jy_73 : Cond) ∈ jx_gw := jgi_11 _ (List.mem_of_getElem? (i := 6) rfl)
theorem jw_447 : (.code jy_73 prog_3_method_7_code 4 (some .int) : Cond) ∈ jx_gw := jgi_11 _ (List.mem_of_getElem? (i := 7) rfl)
theorem jw_448 : (.methodLink "ScriptLedger$Ledger" 69 jy_69 : Cond) ∈ jx_gw := jgi_11 _ (List.mem_of_getElem? (i := 8) rfl)
theorem jw_449 : (.methodLink "ScriptLedgerLaw" 96 jy_17 : Cond) ∈ jx_gw := jgi_11 _ (List.mem_of_getElem? (i := 9) rfl)
theorem jw_450 : (.instanceMethod jy_17 : Cond) ∈ jx_gw := jgi_11 _ (List.mem_of_getElem? (i := 10) rfl)
theorem jw_451 : (.selects "ScriptLedger" jy_17 jy_17 : Cond) ∈ jx_gw := jgi_11 _ (List.mem_of_getElem? (i := 11) rfl)
theorem jw_452 : (.code jy_17 prog_1_method_18_code 1 (some .int) : Cond) ∈ jx_gw := jgi_11 _ (List.mem_of_getElem? (i := 12) rfl)
theorem jw_453 : (.methodLink "ScriptLedgerLaw" 100 jy_18 : Cond) ∈ jx_gw := jgi_11 _ (List.mem_of_getElem? (i := 13) rfl)
theorem jw_454 : (.instanceMethod jy_18 : Cond) ∈ jx_gw := jgi_11 _ (List.mem_of_getElem? (i := 14) rfl)
theorem jw_455 : (.selects "ScriptLedger" jy_18 jy_18 : Cond) ∈ jx_gw := jgi_11 _ (List.mem_of_getElem? (i := 15) rfl)
theorem jw_456 : (.code jy_18 prog_1_method_19_code 1 (some .int) : Cond) ∈ jx_gw := jgi_11 _ (List.mem_of_getElem? (i := 16) rfl)
theorem jw_457 : (.methodLink "ScriptLedgerLaw" 9 jy_137 : Cond) ∈ jx_gw := jgi_11 _ (List.mem_of_getElem? (i := 17) rfl)
theorem jw_458 : (.static jy_137 : Cond) ∈ jx_gw := jgi_11 _ (List.mem_of_getElem? (i := 18) rfl)
theorem jw_459 : (.code jy_137 method_2_code 2 (some .int) : Cond) ∈ jx_gw := jgi_11 _ (List.mem_of_getElem? (i := 19) rfl)
theorem jw_460 : (.classLink "ScriptLedgerLaw" 18 "ScriptLedgerModel" : Cond) ∈ jx_gw := jgi_11 _ (List.mem_of_getElem? (i := 20) rfl)
theorem jw_461 : (.instantiable "ScriptLedgerModel" 50 : Cond) ∈ jx_gw := jgi_11 _ (List.mem_of_getElem? (i := 21) rfl)
theorem jw_462 : (.methodLink "ScriptLedgerLaw" 20 jy_88 : Cond) ∈ jx_gw := jgi_11 _ (List.mem_of_getElem? (i := 22) rfl)
theorem jw_463 : (.instanceMethod jy_88 : Cond) ∈ jx_gw := jgi_11 _ (List.mem_of_getElem? (i := 23) rfl)
theorem jw_464 : (.code jy_88 prog_10_method_1_code 3 none : Cond) ∈ jx_gw := jgi_11 _ (List.mem_of_getElem? (i := 24) rfl)
theorem jw_465 : (.methodLink "ScriptLedgerModel" 1 Lib.objectInit : Cond) ∈ jx_gw := jgi_11 _ (List.mem_of_getElem? (i := 25) rfl)
theorem jw_466 : (.fieldLink "ScriptLedgerModel" 116 "ScriptLedgerModel" "scripts" "I" : Cond) ∈ jx_gw := jgi_11 _ (List.mem_of_getElem? (i := 26) rfl)
theorem jw_467 : (.fieldLink "ScriptLedgerModel" 7 "ScriptLedgerModel" "code" "[I" : Cond) ∈ jx_gw := jgi_11 _ (List.mem_of_getElem? (i := 27) rfl)
theorem jw_468 : (.fieldLink "ScriptLedgerModel" 13 "ScriptLedgerModel" "size" "[I" : Cond) ∈ jx_gw := jgi_11 _ (List.mem_of_getElem? (i := 28) rfl)
theorem jw_469 : (.fieldLink "ScriptLedgerModel" 107 "ScriptLedgerModel" "typed" "I" : Cond) ∈ jx_gw := jgi_11 _ (List.mem_of_getElem? (i := 29) rfl)
theorem jw_470 : (.fieldLink "ScriptLedgerModel" 16 "ScriptLedgerModel" "draft" "[I" : Cond) ∈ jx_gw := jgi_11 _ (List.mem_of_getElem? (i := 30) rfl)
theorem jw_471 : (.fieldLink "ScriptLedgerModel" 119 "ScriptLedgerModel" "values" "I" : Cond) ∈ jx_gw := jgi_11 _ (List.mem_of_getElem? (i := 31) rfl)
theorem jw_472 : (.fieldLink "ScriptLedgerModel" 19 "ScriptLedgerModel" "kind" "[I" : Cond) ∈ jx_gw := jgi_11 _ (List.mem_of_getElem? (i := 32) rfl)
theorem jw_473 : (.fieldLink "ScriptLedgerModel" 22 "ScriptLedgerModel" "a" "[I" : Cond) ∈ jx_gw := jgi_11 _ (List.mem_of_getElem? (i := 33) rfl)
theorem jw_474 : (.fieldLink "ScriptLedgerModel" 25 "ScriptLedgerModel" "b" "[I" : Cond) ∈ jx_gw := jgi_11 _ (List.mem_of_getElem? (i := 34) rfl)
theorem jw_475 : (.fieldLink "ScriptLedgerModel" 28 "ScriptLedgerModel" "c" "[I" : Cond) ∈ jx_gw := jgi_11 _ (List.mem_of_getElem? (i := 35) rfl)
theorem jw_476 : (.fieldLink "ScriptLedgerModel" 31 "ScriptLedgerModel" "d" "[I" : Cond) ∈ jx_gw := jgi_11 _ (List.mem_of_getElem? (i := 36) rfl)
theorem jw_477 : (.fieldLink "ScriptLedgerModel" 166 "ScriptLedgerModel" "cells" "I" : Cond) ∈ jx_gw := jgi_11 _ (List.mem_of_getElem? (i := 37) rfl)
theorem jw_478 : (.fieldLink "ScriptLedgerModel" 34 "ScriptLedgerModel" "held" "[I" : Cond) ∈ jx_gw := jgi_11 _ (List.mem_of_getElem? (i := 38) rfl)
theorem jw_479 : (.fieldLink "ScriptLedgerModel" 37 "ScriptLedgerModel" "behind" "[I" : Cond) ∈ jx_gw := jgi_11 _ (List.mem_of_getElem? (i := 39) rfl)
theorem jw_480 : (.fieldLink "ScriptLedgerModel" 132 "ScriptLedgerModel" "depth" "I" : Cond) ∈ jx_gw := jgi_12 _ (List.mem_of_getElem? (i := 0) rfl)
theorem jw_481 : (.fieldLink "ScriptLedgerModel" 40 "ScriptLedgerModel" "todo" "[I" : Cond) ∈ jx_gw := jgi_12 _ (List.mem_of_getElem? (i := 1) rfl)
theorem jw_482 : (.fieldLink "ScriptLedgerModel" 43 "ScriptLedgerModel" "todoA" "[I" : Cond) ∈ jx_gw := jgi_12 _ (List.mem_of_getElem? (i := 2) rfl)
theorem jw_483 : (.fieldLink "ScriptLedgerModel" 46 "ScriptLedgerModel" "todoB" "[I" : Cond) ∈ jx_gw := jgi_12 _ (List.mem_of_getElem? (i := 3) rfl)
theorem jw_484 : (.fieldLink "ScriptLedgerModel" 135 "ScriptLedgerModel" "place" "I" : Cond) ∈ jx_gw := jgi_12 _ (List.mem_of_getElem? (i := 4) rfl)
theorem jw_485 : (.fieldLink "ScriptLedgerModel" 142 "ScriptLedgerModel" "around" "I" : Cond) ∈ jx_gw := jgi_12 _ (List.mem_of_getElem? (i := 5) rfl)
theorem jw_486 : (.fieldLink "ScriptLedgerModel" 145 "ScriptLedgerModel" "value" "I" : Cond) ∈ jx_gw := jgi_12 _ (List.mem_of_getElem? (i := 6) rfl)
theorem jw_487 : (.fieldLink "ScriptLedgerModel" 126 "ScriptLedgerModel" "steps" "I" : Cond) ∈ jx_gw := jgi_12 _ (List.mem_of_getElem? (i := 7) rfl)
theorem jw_488 : (.fieldLink "ScriptLedgerModel" 129 "ScriptLedgerModel" "budget" "I" : Cond) ∈ jx_gw := jgi_12 _ (List.mem_of_getElem? (i := 8) rfl)
theorem jw_489 : (.fieldLink "ScriptLedgerModel" 49 "ScriptLedgerModel" "outcome" "I" : Cond) ∈ jx_gw := jgi_12 _ (List.mem_of_getElem? (i := 9) rfl)
theorem jw_490 : (.fieldLink "ScriptLedgerModel" 187 "ScriptLedgerModel" "ran" "Z" : Cond) ∈ jx_gw := jgi_12 _ (List.mem_of_getElem? (i := 10) rfl)
theorem jw_491 : (.fieldLink "ScriptLedgerModel" 104 "ScriptLedgerModel" "outputs" "I" : Cond) ∈ jx_gw := jgi_12 _ (List.mem_of_getElem? (i := 11) rfl)
theorem jw_492 : (.fieldLink "ScriptLedgerModel" 53 "ScriptLedgerModel" "amount" "[I" : Cond) ∈ jx_gw := jgi_12 _ (List.mem_of_getElem? (i := 12) rfl)
theorem jw_493 : (.fieldLink "ScriptLedgerModel" 56 "ScriptLedgerModel" "lock" "[I" : Cond) ∈ jx_gw := jgi_12 _ (List.mem_of_getElem? (i := 13) rfl)
theorem jw_494 : (.fieldLink "ScriptLedgerModel" 59 "ScriptLedgerModel" "datum" "[I" : Cond) ∈ jx_gw := jgi_12 _ (List.mem_of_getElem? (i := 14) rfl)
theorem jw_495 : (.fieldLink "ScriptLedgerModel" 62 "ScriptLedgerModel" "madeAt" "[I" : Cond) ∈ jx_gw := jgi_12 _ (List.mem_of_getElem? (i := 15) rfl)
theorem jw_496 : (.fieldLink "ScriptLedgerModel" 65 "ScriptLedgerModel" "spentAt" "[I" : Cond) ∈ jx_gw := jgi_12 _ (List.mem_of_getElem? (i := 16) rfl)
theorem jw_497 : (.fieldLink "ScriptLedgerModel" 239 "ScriptLedgerModel" "height" "I" : Cond) ∈ jx_gw := jgi_12 _ (List.mem_of_getElem? (i := 17) rfl)
theorem jw_498 : (.fieldLink "ScriptLedgerModel" 68 "ScriptLedgerModel" "income" "[I" : Cond) ∈ jx_gw := jgi_12 _ (List.mem_of_getElem? (i := 18) rfl)
theorem jw_499 : (.fieldLink "ScriptLedgerModel" 204 "ScriptLedgerModel" "inputs" "I" : Cond) ∈ jx_gw := jgi_12 _ (List.mem_of_getElem? (i := 19) rfl)
theorem jw_500 : (.fieldLink "ScriptLedgerModel" 71 "ScriptLedgerModel" "input" "[I" : Cond) ∈ jx_gw := jgi_12 _ (List.mem_of_getElem? (i := 20) rfl)
theorem jw_501 : (.fieldLink "ScriptLedgerModel" 74 "ScriptLedgerModel" "redeemer" "[I" : Cond) ∈ jx_gw := jgi_12 _ (List.mem_of_getElem? (i := 21) rfl)
theorem jw_502 : (.fieldLink "ScriptLedgerModel" 207 "ScriptLedgerModel" "gifts" "I" : Cond) ∈ jx_gw := jgi_12 _ (List.mem_of_getElem? (i := 22) rfl)
theorem jw_503 : (.fieldLink "ScriptLedgerModel" 77 "ScriptLedgerModel" "giftLock" "[I" : Cond) ∈ jx_gw := jgi_12 _ (List.mem_of_getElem? (i := 23) rfl)
theorem jw_504 : (.fieldLink "ScriptLedgerModel" 80 "ScriptLedgerModel" "giftDatum" "[I" : Cond) ∈ jx_gw := jgi_12 _ (List.mem_of_getElem? (i := 24) rfl)
theorem jw_505 : (.fieldLink "ScriptLedgerModel" 83 "ScriptLedgerModel" "gift" "[I" : Cond) ∈ jx_gw := jgi_12 _ (List.mem_of_getElem? (i := 25) rfl)
theorem jw_506 : (.fieldLink "ScriptLedgerModel" 86 "ScriptLedgerModel" "minted" "[I" : Cond) ∈ jx_gw := jgi_12 _ (List.mem_of_getElem? (i := 26) rfl)
theorem jw_507 : (.fieldLink "ScriptLedgerModel" 89 "ScriptLedgerModel" "mintRedeemer" "[I" : Cond) ∈ jx_gw := jgi_12 _ (List.mem_of_getElem? (i := 27) rfl)
theorem jw_508 : (.fieldLink "ScriptLedgerModel" 210 "ScriptLedgerModel" "fee" "I" : Cond) ∈ jx_gw := jgi_12 _ (List.mem_of_getElem? (i := 28) rfl)
theorem jw_509 : (.fieldLink "ScriptLedgerModel" 213 "ScriptLedgerModel" "from" "I" : Cond) ∈ jx_gw := jgi_12 _ (List.mem_of_getElem? (i := 29) rfl)
theorem jw_510 : (.fieldLink "ScriptLedgerModel" 92 "ScriptLedgerModel" "to" "I" : Cond) ∈ jx_gw := jgi_12 _ (List.mem_of_getElem? (i := 30) rfl)
theorem jw_511 : (.fieldLink "ScriptLedgerModel" 216 "ScriptLedgerModel" "signers" "I" : Cond) ∈ jx_gw := jgi_12 _ (List.mem_of_getElem? (i := 31) rfl)
theorem jw_512 : (.fieldLink "ScriptLedgerModel" 219 "ScriptLedgerModel" "allowance" "I" : Cond) ∈ jx_gw := jgi_12 _ (List.mem_of_getElem? (i := 32) rfl)
theorem jw_513 : (.fieldLink "ScriptLedgerModel" 95 "ScriptLedgerModel" "pledge" "I" : Cond) ∈ jx_gw := jgi_12 _ (List.mem_of_getElem? (i := 33) rfl)
theorem jw_514 : (.fieldLink "ScriptLedgerModel" 98 "ScriptLedgerModel" "deep" "[I" : Cond) ∈ jx_gw := jgi_12 _ (List.mem_of_getElem? (i := 34) rfl)
theorem jw_515 : (.fieldLink "ScriptLedgerModel" 101 "ScriptLedgerModel" "lambdas" "[I" : Cond) ∈ jx_gw := jgi_12 _ (List.mem_of_getElem? (i := 35) rfl)
theorem jw_516 : (.methodLink "ScriptLedgerLaw" 27 jy_90 : Cond) ∈ jx_gw := jgi_12 _ (List.mem_of_getElem? (i := 36) rfl)
theorem jw_517 : (.instanceMethod jy_90 : Cond) ∈ jx_gw := jgi_12 _ (List.mem_of_getElem? (i := 37) rfl)
theorem jw_518 : (.selects "ScriptLedgerModel" jy_90 jy_90 : Cond) ∈ jx_gw := jgi_12 _ (List.mem_of_getElem? (i := 38) rfl)
theorem jw_519 : (.code jy_90 prog_10_method_3_code 5 (some .boolean) : Cond) ∈ jx_gw := jgi_12 _ (List.mem_of_getElem? (i := 39) rfl)
theorem jw_520 : (.constantLong "ScriptLedgerModel" 110 255 : Cond) ∈ jx_gw := jgi_13 _ (List.mem_of_getElem? (i := 0) rfl)
theorem jw_521 : (.methodLink "ScriptLedgerLaw" 32 jy_92 : Cond) ∈ jx_gw := jgi_13 _ (List.mem_of_getElem? (i := 1) rfl)
theorem jw_522 : (.instanceMethod jy_92 : Cond) ∈ jx_gw := jgi_13 _ (List.mem_of_getElem? (i := 2) rfl)
theorem jw_523 : (.selects "ScriptLedgerModel" jy_92 jy_92 : Cond) ∈ jx_gw := jgi_13 _ (List.mem_of_getElem? (i := 3) rfl)
theorem jw_524 : (.code jy_92 prog_10_method_5_code 4 (some .int) : Cond) ∈ jx_gw := jgi_13 _ (List.mem_of_getElem? (i := 4) rfl)
theorem jw_525 : (.methodLink "ScriptLedgerModel" 112 jy_91 : Cond) ∈ jx_gw := jgi_13 _ (List.mem_of_getElem? (i := 5) rfl)
theorem jw_526 : (.instanceMethod jy_91 : Cond) ∈ jx_gw := jgi_13 _ (List.mem_of_getElem? (i := 6) rfl)
theorem jw_527 : (.code jy_91 prog_10_method_4_code 10 (some .boolean) : Cond) ∈ jx_gw := jgi_13 _ (List.mem_of_getElem? (i := 7) rfl)
theorem jw_528 : (.methodLink "ScriptLedgerLaw" 37 jy_108 : Cond) ∈ jx_gw := jgi_13 _ (List.mem_of_getElem? (i := 8) rfl)
theorem jw_529 : (.instanceMethod jy_108 : Cond) ∈ jx_gw := jgi_13 _ (List.mem_of_getElem? (i := 9) rfl)
theorem jw_530 : (.selects "ScriptLedgerModel" jy_108 jy_108 : Cond) ∈ jx_gw := jgi_13 _ (List.mem_of_getElem? (i := 10) rfl)
theorem jw_531 : (.code jy_108 prog_10_method_21_code 8 (some .int) : Cond) ∈ jx_gw := jgi_13 _ (List.mem_of_getElem? (i := 11) rfl)
theorem jw_532 : (.methodLink "ScriptLedgerModel" 197 jy_89 : Cond) ∈ jx_gw := jgi_13 _ (List.mem_of_getElem? (i := 12) rfl)
theorem jw_533 : (.static jy_89 : Cond) ∈ jx_gw := jgi_13 _ (List.mem_of_getElem? (i := 13) rfl)
theorem jw_534 : (.code jy_89 prog_10_method_2_code 2 (some .boolean) : Cond) ∈ jx_gw := jgi_13 _ (List.mem_of_getElem? (i := 14) rfl)
theorem jw_535 : (.methodLink "ScriptLedgerModel" 156 jy_95 : Cond) ∈ jx_gw := jgi_13 _ (List.mem_of_getElem? (i := 15) rfl)
theorem jw_536 : (.instanceMethod jy_95 : Cond) ∈ jx_gw := jgi_13 _ (List.mem_of_getElem? (i := 16) rfl)
theorem jw_537 : (.code jy_95 prog_10_method_8_code 2 (some .int) : Cond) ∈ jx_gw := jgi_13 _ (List.mem_of_getElem? (i := 17) rfl)
theorem jw_538 : (.methodLink "ScriptLedgerModel" 122 jy_94 : Cond) ∈ jx_gw := jgi_13 _ (List.mem_of_getElem? (i := 18) rfl)
theorem jw_539 : (.instanceMethod jy_94 : Cond) ∈ jx_gw := jgi_13 _ (List.mem_of_getElem? (i := 19) rfl)
theorem jw_540 : (.code jy_94 prog_10_method_7_code 6 (some .int) : Cond) ∈ jx_gw := jgi_13 _ (List.mem_of_getElem? (i := 20) rfl)
theorem jw_541 : (.methodLink "ScriptLedgerModel" 200 jy_107 : Cond) ∈ jx_gw := jgi_13 _ (List.mem_of_getElem? (i := 21) rfl)
theorem jw_542 : (.instanceMethod jy_107 : Cond) ∈ jx_gw := jgi_13 _ (List.mem_of_getElem? (i := 22) rfl)
theorem jw_543 : (.code jy_107 prog_10_method_20_code 7 none : Cond) ∈ jx_gw := jgi_13 _ (List.mem_of_getElem? (i := 23) rfl)
theorem jw_544 : (.methodLink "ScriptLedgerModel" 152 jy_100 : Cond) ∈ jx_gw := jgi_13 _ (List.mem_of_getElem? (i := 24) rfl)
theorem jw_545 : (.instanceMethod jy_100 : Cond) ∈ jx_gw := jgi_13 _ (List.mem_of_getElem? (i := 25) rfl)
theorem jw_546 : (.code jy_100 prog_10_method_13_code 4 none : Cond) ∈ jx_gw := jgi_13 _ (List.mem_of_getElem? (i := 26) rfl)
theorem jw_547 : (.methodLink "ScriptLedgerModel" 191 jy_101 : Cond) ∈ jx_gw := jgi_13 _ (List.mem_of_getElem? (i := 27) rfl)
theorem jw_548 : (.instanceMethod jy_101 : Cond) ∈ jx_gw := jgi_13 _ (List.mem_of_getElem? (i := 28) rfl)
theorem jw_549 : (.code jy_101 prog_10_method_14_code 5 (some .boolean) : Cond) ∈ jx_gw := jgi_13 _ (List.mem_of_getElem? (i := 29) rfl)
theorem jw_550 : (.methodLink "ScriptLedgerModel" 138 jy_98 : Cond) ∈ jx_gw := jgi_13 _ (List.mem_of_getElem? (i := 30) rfl)
theorem jw_551 : (.instanceMethod jy_98 : Cond) ∈ jx_gw := jgi_13 _ (List.mem_of_getElem? (i := 31) rfl)
theorem jw_552 : (.code jy_98 prog_10_method_11_code 2 (some .boolean) : Cond) ∈ jx_gw := jgi_13 _ (List.mem_of_getElem? (i := 32) rfl)
theorem jw_553 : (.methodLink "ScriptLedgerModel" 148 jy_93 : Cond) ∈ jx_gw := jgi_13 _ (List.mem_of_getElem? (i := 33) rfl)
theorem jw_554 : (.instanceMethod jy_93 : Cond) ∈ jx_gw := jgi_13 _ (List.mem_of_getElem? (i := 34) rfl)
theorem jw_555 : (.code jy_93 prog_10_method_6_code 5 (some .int) : Cond) ∈ jx_gw := jgi_13 _ (List.mem_of_getElem? (i := 35) rfl)
theorem jw_556 : (.methodLink "ScriptLedgerModel" 159 jy_99 : Cond) ∈ jx_gw := jgi_13 _ (List.mem_of_getElem? (i := 36) rfl)
theorem jw_557 : (.instanceMethod jy_99 : Cond) ∈ jx_gw := jgi_13 _ (List.mem_of_getElem? (i := 37) rfl)
theorem jw_558 : (.code jy_99 prog_10_method_12_code 1 (some .boolean) : Cond) ∈ jx_gw := jgi_13 _ (List.mem_of_getElem? (i := 38) rfl)
theorem jw_559 : (.methodLink "ScriptLedgerModel" 194 jy_102 : Cond) ∈ jx_gw := jgi_13 _ (List.mem_of_getElem? (i := 39) rfl)
theorem jw_560 : (.instanceMethod jy_102 : Cond) ∈ jx_gw := jgi_14 _ (List.mem_of_getElem? (i := 0) rfl)
theorem jw_561 : (.code jy_102 prog_10_method_15_code 4 (some .boolean) : Cond) ∈ jx_gw := jgi_14 _ (List.mem_of_getElem? (i := 1) rfl)
theorem jw_562 : (.methodLink "ScriptLedgerModel" 162 jy_103 : Cond) ∈ jx_gw := jgi_14 _ (List.mem_of_getElem? (i := 2) rfl)
theorem jw_563 : (.instanceMethod jy_103 : Cond) ∈ jx_gw := jgi_14 _ (List.mem_of_getElem? (i := 3) rfl)
theorem jw_564 : (.code jy_103 prog_10_method_16_code 4 (some .boolean) : Cond) ∈ jx_gw := jgi_14 _ (List.mem_of_getElem? (i := 4) rfl)
theorem jw_565 : (.methodLink "ScriptLedgerModel" 169 jy_97 : Cond) ∈ jx_gw := jgi_14 _ (List.mem_of_getElem? (i := 5) rfl)
theorem jw_566 : (.static jy_97 : Cond) ∈ jx_gw := jgi_14 _ (List.mem_of_getElem? (i := 6) rfl)
theorem jw_567 : (.code jy_97 prog_10_method_10_code 1 (some .int) : Cond) ∈ jx_gw := jgi_14 _ (List.mem_of_getElem? (i := 7) rfl)
theorem jw_568 : (.methodLink "ScriptLedgerModel" 172 jy_105 : Cond) ∈ jx_gw := jgi_14 _ (List.mem_of_getElem? (i := 8) rfl)
theorem jw_569 : (.instanceMethod jy_105 : Cond) ∈ jx_gw := jgi_14 _ (List.mem_of_getElem? (i := 9) rfl)
theorem jw_570 : (.code jy_105 prog_10_method_18_code 5 (some .boolean) : Cond) ∈ jx_gw := jgi_14 _ (List.mem_of_getElem? (i := 10) rfl)
theorem jw_571 : (.methodLink "ScriptLedgerModel" 176 jy_104 : Cond) ∈ jx_gw := jgi_14 _ (List.mem_of_getElem? (i := 11) rfl)
theorem jw_572 : (.instanceMethod jy_104 : Cond) ∈ jx_gw := jgi_14 _ (List.mem_of_getElem? (i := 12) rfl)
theorem jw_573 : (.code jy_104 prog_10_method_17_code 2 (some .boolean) : Cond) ∈ jx_gw := jgi_14 _ (List.mem_of_getElem? (i := 13) rfl)
theorem jw_574 : (.methodLink "ScriptLedgerModel" 179 jy_106 : Cond) ∈ jx_gw := jgi_14 _ (List.mem_of_getElem? (i := 14) rfl)
theorem jw_575 : (.instanceMethod jy_106 : Cond) ∈ jx_gw := jgi_14 _ (List.mem_of_getElem? (i := 15) rfl)
theorem jw_576 : (.code jy_106 prog_10_method_19_code 4 (some .boolean) : Cond) ∈ jx_gw := jgi_14 _ (List.mem_of_getElem? (i := 16) rfl)
theorem jw_577 : (.methodLink "ScriptLedgerModel" 183 jy_96 : Cond) ∈ jx_gw := jgi_14 _ (List.mem_of_getElem? (i := 17) rfl)
theorem jw_578 : (.instanceMethod jy_96 : Cond) ∈ jx_gw := jgi_14 _ (List.mem_of_getElem? (i := 18) rfl)
theorem jw_579 : (.code jy_96 prog_10_method_9_code 3 (some .int) : Cond) ∈ jx_gw := jgi_14 _ (List.mem_of_getElem? (i := 19) rfl)
theorem jw_580 : (.methodLink "ScriptLedgerLaw" 42 jy_109 : Cond) ∈ jx_gw := jgi_14 _ (List.mem_of_getElem? (i := 20) rfl)
theorem jw_581 : (.instanceMethod jy_109 : Cond) ∈ jx_gw := jgi_14 _ (List.mem_of_getElem? (i := 21) rfl)
theorem jw_582 : (.selects "ScriptLedgerModel" jy_109 jy_109 : Cond) ∈ jx_gw := jgi_14 _ (List.mem_of_getElem? (i := 22) rfl)
theorem jw_583 : (.code jy_109 prog_10_method_22_code 2 (some .int) : Cond) ∈ jx_gw := jgi_14 _ (List.mem_of_getElem? (i := 23) rfl)
theorem jw_584 : (.methodLink "ScriptLedgerLaw" 46 jy_110 : Cond) ∈ jx_gw := jgi_14 _ (List.mem_of_getElem? (i := 24) rfl)
theorem jw_585 : (.instanceMethod jy_110 : Cond) ∈ jx_gw := jgi_14 _ (List.mem_of_getElem? (i := 25) rfl)
theorem jw_586 : (.selects "ScriptLedgerModel" jy_110 jy_110 : Cond) ∈ jx_gw := jgi_14 _ (List.mem_of_getElem? (i := 26) rfl)
theorem jw_587 : (.code jy_110 prog_10_method_23_code 2 none : Cond) ∈ jx_gw := jgi_14 _ (List.mem_of_getElem? (i := 27) rfl)
theorem jw_588 : (.methodLink "ScriptLedgerLaw" 51 jy_112 : Cond) ∈ jx_gw := jgi_14 _ (List.mem_of_getElem? (i := 28) rfl)
theorem jw_589 : (.instanceMethod jy_112 : Cond) ∈ jx_gw := jgi_14 _ (List.mem_of_getElem? (i := 29) rfl)
theorem jw_590 : (.selects "ScriptLedgerModel" jy_112 jy_112 : Cond) ∈ jx_gw := jgi_14 _ (List.mem_of_getElem? (i := 30) rfl)
theorem jw_591 : (.code jy_112 prog_10_method_25_code 3 (some .boolean) : Cond) ∈ jx_gw := jgi_14 _ (List.mem_of_getElem? (i := 31) rfl)
theorem jw_592 : (.methodLink "ScriptLedgerModel" 222 jy_111 : Cond) ∈ jx_gw := jgi_14 _ (List.mem_of_getElem? (i := 32) rfl)
theorem jw_593 : (.instanceMethod jy_111 : Cond) ∈ jx_gw := jgi_14 _ (List.mem_of_getElem? (i := 33) rfl)
theorem jw_594 : (.code jy_111 prog_10_method_24_code 4 (some .boolean) : Cond) ∈ jx_gw := jgi_14 _ (List.mem_of_getElem? (i := 34) rfl)
theorem jw_595 : (.methodLink "ScriptLedgerLaw" 56 jy_113 : Cond) ∈ jx_gw := jgi_14 _ (List.mem_of_getElem? (i := 35) rfl)
theorem jw_596 : (.instanceMethod jy_113 : Cond) ∈ jx_gw := jgi_14 _ (List.mem_of_getElem? (i := 36) rfl)
theorem jw_597 : (.selects "ScriptLedgerModel" jy_113 jy_113 : Cond) ∈ jx_gw := jgi_14 _ (List.mem_of_getElem? (i := 37) rfl)
theorem jw_598 : (.code jy_113 prog_10_method_26_code 6 (some .boolean) : Cond) ∈ jx_gw := jgi_14 _ (List.mem_of_getElem? (i := 38) rfl)
theorem jw_599 : (.constant "ScriptLedgerModel" 225 1000001 : Cond) ∈ jx_gw := jgi_14 _ (List.mem_of_getElem? (i := 39) rfl)
theorem jw_600 : (.methodLink "ScriptLedgerLaw" 61 jy_114 : Cond) ∈ jx_gw := jgi_15 _ (List.mem_of_getElem? (i := 0) rfl)
theorem jw_601 : (.instanceMethod jy_114 : Cond) ∈ jx_gw := jgi_15 _ (List.mem_of_getElem? (i := 1) rfl)
theorem jw_602 : (.selects "ScriptLedgerModel" jy_114 jy_114 : Cond) ∈ jx_gw := jgi_15 _ (List.mem_of_getElem? (i := 2) rfl)
theorem jw_603 : (.code jy_114 prog_10_method_27_code 4 (some .boolean) : Cond) ∈ jx_gw := jgi_15 _ (List.mem_of_getElem? (i := 3) rfl)
theorem jw_604 : (.constant "ScriptLedgerModel" 226 (-1000000) : Cond) ∈ jx_gw := jgi_15 _ (List.mem_of_getElem? (i := 4) rfl)
theorem jw_605 : (.constant "ScriptLedgerModel" 227 1000000 : Cond) ∈ jx_gw := jgi_15 _ (List.mem_of_getElem? (i := 5) rfl)
theorem jw_606 : (.methodLink "ScriptLedgerLaw" 65 jy_115 : Cond) ∈ jx_gw := jgi_15 _ (List.mem_of_getElem? (i := 6) rfl)
theorem jw_607 : (.instanceMethod jy_115 : Cond) ∈ jx_gw := jgi_15 _ (List.mem_of_getElem? (i := 7) rfl)
theorem jw_608 : (.selects "ScriptLedgerModel" jy_115 jy_115 : Cond) ∈ jx_gw := jgi_15 _ (List.mem_of_getElem? (i := 8) rfl)
theorem jw_609 : (.code jy_115 prog_10_method_28_code 6 (some .boolean) : Cond) ∈ jx_gw := jgi_15 _ (List.mem_of_getElem? (i := 9) rfl)
theorem jw_610 : (.methodLink "ScriptLedgerLaw" 70 jy_116 : Cond) ∈ jx_gw := jgi_15 _ (List.mem_of_getElem? (i := 10) rfl)
theorem jw_611 : (.instanceMethod jy_116 : Cond) ∈ jx_gw := jgi_15 _ (List.mem_of_getElem? (i := 11) rfl)
theorem jw_612 : (.selects "ScriptLedgerModel" jy_116 jy_116 : Cond) ∈ jx_gw := jgi_15 _ (List.mem_of_getElem? (i := 12) rfl)
theorem jw_613 : (.code jy_116 prog_10_method_29_code 2 (some .boolean) : Cond) ∈ jx_gw := jgi_15 _ (List.mem_of_getElem? (i := 13) rfl)
theorem jw_614 : (.methodLink "ScriptLedgerLaw" 74 jy_129 : Cond) ∈ jx_gw := jgi_15 _ (List.mem_of_getElem? (i := 14) rfl)
theorem jw_615 : (.instanceMethod jy_129 : Cond) ∈ jx_gw := jgi_15 _ (List.mem_of_getElem? (i := 15) rfl)
theorem jw_616 : (.selects "ScriptLedgerModel" jy_129 jy_129 : Cond) ∈ jx_gw := jgi_15 _ (List.mem_of_getElem? (i := 16) rfl)
theorem jw_617 : (.code jy_129 prog_10_method_42_code 2 (some .int) : Cond) ∈ jx_gw := jgi_15 _ (List.mem_of_getElem? (i := 17) rfl)
theorem jw_618 : (.methodLink "ScriptLedgerModel" 262 jy_124 : Cond) ∈ jx_gw := jgi_15 _ (List.mem_of_getElem? (i := 18) rfl)
theorem jw_619 : (.instanceMethod jy_124 : Cond) ∈ jx_gw := jgi_15 _ (List.mem_of_getElem? (i := 19) rfl)
theorem jw_620 : (.code jy_124 prog_10_method_37_code 1 (some .int) : Cond) ∈ jx_gw := jgi_15 _ (List.mem_of_getElem? (i := 20) rfl)
theorem jw_621 : (.methodLink "ScriptLedgerModel" 236 jy_118 : Cond) ∈ jx_gw := jgi_15 _ (List.mem_of_getElem? (i := 21) rfl)
theorem jw_622 : (.instanceMethod jy_118 : Cond) ∈ jx_gw := jgi_15 _ (List.mem_of_getElem? (i := 22) rfl)
theorem jw_623 : (.code jy_118 prog_10_method_31_code 3 (some .boolean) : Cond) ∈ jx_gw := jgi_15 _ (List.mem_of_getElem? (i := 23) rfl)
theorem jw_624 : (.methodLink "ScriptLedgerModel" 228 jy_117 : Cond) ∈ jx_gw := jgi_15 _ (List.mem_of_getElem? (i := 24) rfl)
theorem jw_625 : (.instanceMethod jy_117 : Cond) ∈ jx_gw := jgi_15 _ (List.mem_of_getElem? (i := 25) rfl)
theorem jw_626 : (.code jy_117 prog_10_method_30_code 2 (some .boolean) : Cond) ∈ jx_gw := jgi_15 _ (List.mem_of_getElem? (i := 26) rfl)
theorem jw_627 : (.methodLink "ScriptLedgerModel" 242 jy_119 : Cond) ∈ jx_gw := jgi_15 _ (List.mem_of_getElem? (i := 27) rfl)
theorem jw_628 : (.instanceMethod jy_119 : Cond) ∈ jx_gw := jgi_15 _ (List.mem_of_getElem? (i := 28) rfl)
theorem jw_629 : (.code jy_119 prog_10_method_32_code 8 (some .boolean) : Cond) ∈ jx_gw := jgi_15 _ (List.mem_of_getElem? (i := 29) rfl)
theorem jw_630 : (.methodLink "ScriptLedgerModel" 245 jy_121 : Cond) ∈ jx_gw := jgi_15 _ (List.mem_of_getElem? (i := 30) rfl)
theorem jw_631 : (.instanceMethod jy_121 : Cond) ∈ jx_gw := jgi_15 _ (List.mem_of_getElem? (i := 31) rfl)
theorem jw_632 : (.code jy_121 prog_10_method_34_code 3 (some .boolean) : Cond) ∈ jx_gw := jgi_15 _ (List.mem_of_getElem? (i := 32) rfl)
theorem jw_633 : (.methodLink "ScriptLedgerModel" 231 jy_120 : Cond) ∈ jx_gw := jgi_15 _ (List.mem_of_getElem? (i := 33) rfl)
theorem jw_634 : (.instanceMethod jy_120 : Cond) ∈ jx_gw := jgi_15 _ (List.mem_of_getElem? (i := 34) rfl)
theorem jw_635 : (.code jy_120 prog_10_method_33_code 2 (some .boolean) : Cond) ∈ jx_gw := jgi_15 _ (List.mem_of_getElem? (i := 35) rfl)
theorem jw_636 : (.methodLink "ScriptLedgerModel" 248 jy_122 : Cond) ∈ jx_gw := jgi_15 _ (List.mem_of_getElem? (i := 36) rfl)
theorem jw_637 : (.instanceMethod jy_122 : Cond) ∈ jx_gw := jgi_15 _ (List.mem_of_getElem? (i := 37) rfl)
theorem jw_638 : (.code jy_122 prog_10_method_35_code 3 (some .int) : Cond) ∈ jx_gw := jgi_15 _ (List.mem_of_getElem? (i := 38) rfl)
theorem jw_639 : (.methodLink "ScriptLedgerModel" 252 jy_123 : Cond) ∈ jx_gw := jgi_15 _ (List.mem_of_getElem? (i := 39) rfl)
theorem jw_640 : (.instanceMethod jy_123 : Cond) ∈ jx_gw := jgi_16 _ (List.mem_of_getElem? (i := 0) rfl)
theorem jw_641 : (.code jy_123 prog_10_method_36_code 1 (some .boolean) : Cond) ∈ jx_gw := jgi_16 _ (List.mem_of_getElem? (i := 1) rfl)
theorem jw_642 : (.constantLong "ScriptLedgerModel" 234 2 : Cond) ∈ jx_gw := jgi_16 _ (List.mem_of_getElem? (i := 2) rfl)
theorem jw_643 : (.methodLink "ScriptLedgerModel" 265 jy_127 : Cond) ∈ jx_gw := jgi_16 _ (List.mem_of_getElem? (i := 3) rfl)
theorem jw_644 : (.instanceMethod jy_127 : Cond) ∈ jx_gw := jgi_16 _ (List.mem_of_getElem? (i := 4) rfl)
theorem jw_645 : (.code jy_127 prog_10_method_40_code 4 (some .boolean) : Cond) ∈ jx_gw := jgi_16 _ (List.mem_of_getElem? (i := 5) rfl)
theorem jw_646 : (.methodLink "ScriptLedgerModel" 258 jy_126 : Cond) ∈ jx_gw := jgi_16 _ (List.mem_of_getElem? (i := 6) rfl)
theorem jw_647 : (.instanceMethod jy_126 : Cond) ∈ jx_gw := jgi_16 _ (List.mem_of_getElem? (i := 7) rfl)
theorem jw_648 : (.code jy_126 prog_10_method_39_code 9 (some .boolean) : Cond) ∈ jx_gw := jgi_16 _ (List.mem_of_getElem? (i := 8) rfl)
theorem jw_649 : (.methodLink "ScriptLedgerModel" 255 jy_125 : Cond) ∈ jx_gw := jgi_16 _ (List.mem_of_getElem? (i := 9) rfl)
theorem jw_650 : (.instanceMethod jy_125 : Cond) ∈ jx_gw := jgi_16 _ (List.mem_of_getElem? (i := 10) rfl)
theorem jw_651 : (.code jy_125 prog_10_method_38_code 4 (some .int) : Cond) ∈ jx_gw := jgi_16 _ (List.mem_of_getElem? (i := 11) rfl)
theorem jw_652 : (.methodLink "ScriptLedgerModel" 268 jy_128 : Cond) ∈ jx_gw := jgi_16 _ (List.mem_of_getElem? (i := 12) rfl)
theorem jw_653 : (.instanceMethod jy_128 : Cond) ∈ jx_gw := jgi_16 _ (List.mem_of_getElem? (i := 13) rfl)
theorem jw_654 : (.code jy_128 prog_10_method_41_code 3 none : Cond) ∈ jx_gw := jgi_16 _ (List.mem_of_getElem? (i := 14) rfl)
theorem jw_655 : (.methodLink "ScriptLedgerModel" 271 jy_110 : Cond) ∈ jx_gw := jgi_16 _ (List.mem_of_getElem? (i := 15) rfl)
theorem jw_656 : (.methodLink "ScriptLedgerLaw" 78 jy_130 : Cond) ∈ jx_gw := jgi_16 _ (List.mem_of_getElem? (i := 16) rfl)
theorem jw_657 : (.instanceMethod jy_130 : Cond) ∈ jx_gw := jgi_16 _ (List.mem_of_getElem? (i := 17) rfl)
theorem jw_658 : (.selects "ScriptLedgerModel" jy_130 jy_130 : Cond) ∈ jx_gw := jgi_16 _ (List.mem_of_getElem? (i := 18) rfl)
theorem jw_659 : (.code jy_130 prog_10_method_43_code 1 (some .int) : Cond) ∈ jx_gw := jgi_16 _ (List.mem_of_getElem? (i := 19) rfl)
theorem jw_660 : (.methodLink "ScriptLedgerLaw" 82 jy_131 : Cond) ∈ jx_gw := jgi_16 _ (List.mem_of_getElem? (i := 20) rfl)
theorem jw_661 : (.instanceMethod jy_131 : Cond) ∈ jx_gw := jgi_16 _ (List.mem_of_getElem? (i := 21) rfl)
theorem jw_662 : (.selects "ScriptLedgerModel" jy_131 jy_131 : Cond) ∈ jx_gw := jgi_16 _ (List.mem_of_getElem? (i := 22) rfl)
theorem jw_663 : (.code jy_131 prog_10_method_44_code 3 (some .int) : Cond) ∈ jx_gw := jgi_16 _ (List.mem_of_getElem? (i := 23) rfl)
theorem jw_664 : (.methodLink "ScriptLedgerLaw" 86 jy_132 : Cond) ∈ jx_gw := jgi_16 _ (List.mem_of_getElem? (i := 24) rfl)
theorem jw_665 : (.instanceMethod jy_132 : Cond) ∈ jx_gw := jgi_16 _ (List.mem_of_getElem? (i := 25) rfl)
theorem jw_666 : (.selects "ScriptLedgerModel" jy_132 jy_132 : Cond) ∈ jx_gw := jgi_16 _ (List.mem_of_getElem? (i := 26) rfl)
theorem jw_667 : (.code jy_132 prog_10_method_45_code 1 (some .int) : Cond) ∈ jx_gw := jgi_16 _ (List.mem_of_getElem? (i := 27) rfl)
theorem jw_668 : (.methodLink "ScriptLedgerLaw" 91 jy_133 : Cond) ∈ jx_gw := jgi_16 _ (List.mem_of_getElem? (i := 28) rfl)
theorem jw_669 : (.instanceMethod jy_133 : Cond) ∈ jx_gw := jgi_16 _ (List.mem_of_getElem? (i := 29) rfl)
theorem jw_670 : (.selects "ScriptLedgerModel" jy_133 jy_133 : Cond) ∈ jx_gw := jgi_16 _ (List.mem_of_getElem? (i := 30) rfl)
theorem jw_671 : (.code jy_133 prog_10_method_46_code 3 (some .int) : Cond) ∈ jx_gw := jgi_16 _ (List.mem_of_getElem? (i := 31) rfl)
theorem jw_672 : (.methodLink "ScriptLedgerLaw" 95 jy_134 : Cond) ∈ jx_gw := jgi_16 _ (List.mem_of_getElem? (i := 32) rfl)
theorem jw_673 : (.instanceMethod jy_134 : Cond) ∈ jx_gw := jgi_16 _ (List.mem_of_getElem? (i := 33) rfl)
theorem jw_674 : (.selects "ScriptLedgerModel" jy_134 jy_134 : Cond) ∈ jx_gw := jgi_16 _ (List.mem_of_getElem? (i := 34) rfl)
theorem jw_675 : (.code jy_134 prog_10_method_47_code 4 (some .int) : Cond) ∈ jx_gw := jgi_16 _ (List.mem_of_getElem? (i := 35) rfl)
theorem jw_676 : (.methodLink "ScriptLedgerLaw" 99 jy_135 : Cond) ∈ jx_gw := jgi_16 _ (List.mem_of_getElem? (i := 36) rfl)
theorem jw_677 : (.instanceMethod jy_135 : Cond) ∈ jx_gw := jgi_16 _ (List.mem_of_getElem? (i := 37) rfl)
theorem jw_678 : (.selects "ScriptLedgerModel" jy_135 jy_135 : Cond) ∈ jx_gw := jgi_16 _ (List.mem_of_getElem? (i := 38) rfl)
theorem jw_679 : (.code jy_135 prog_10_method_48_code 3 (some .int) : Cond) ∈ jx_gw := jgi_16 _ (List.mem_of_getElem? (i := 39) rfl)
theorem jw_680 : (.methodLink "ScriptLedgerLaw" 103 jy_136 : Cond) ∈ jx_gw := jgi_17 _ (List.mem_of_getElem? (i := 0) rfl)
theorem jw_681 : (.instanceMethod jy_136 : Cond) ∈ jx_gw := jgi_17 _ (List.mem_of_getElem? (i := 1) rfl)
theorem jw_682 : (.selects "ScriptLedgerModel" jy_136 jy_136 : Cond) ∈ jx_gw := jgi_17 _ (List.mem_of_getElem? (i := 2) rfl)
theorem jw_683 : (.code jy_136 prog_10_method_49_code 1 (some .int) : Cond) ∈ jx_gw := jgi_17 _ (List.mem_of_getElem? (i := 3) rfl)
theorem jw_684 : (.constantLong "ScriptLedgerLaw" 21 4294967295 : Cond) ∈ jx_gw := jgi_17 _ (List.mem_of_getElem? (i := 4) rfl)
theorem jw_685 : (.selects "ScriptLedger$Machine" jy_36 jy_36 : Cond) ∈ jx_gw := jgi_17 _ (List.mem_of_getElem? (i := 5) rfl)
theorem jw_686 : (.selects "ScriptLedger$Machine" jy_51 jy_51 : Cond) ∈ jx_gw := jgi_17 _ (List.mem_of_getElem? (i := 6) rfl)
theorem jw_687 : (.selects "ScriptLedger$Machine" jy_37 jy_37 : Cond) ∈ jx_gw := jgi_17 _ (List.mem_of_getElem? (i := 7) rfl)
theorem jw_688 : (.selects "ScriptLedger$Machine" jy_50 jy_50 : Cond) ∈ jx_gw := jgi_17 _ (List.mem_of_getElem? (i := 8) rfl)
theorem jw_689 : (.selects "ScriptLedger$Machine" jy_53 jy_53 : Cond) ∈ jx_gw := jgi_17 _ (List.mem_of_getElem? (i := 9) rfl)
theorem jw_690 : (.selects "ScriptLedger$Machine" jy_38 jy_38 : Cond) ∈ jx_gw := jgi_17 _ (List.mem_of_getElem? (i := 10) rfl)
theorem jw_691 : (.selects "ScriptLedger$Machine" jy_49 jy_49 : Cond) ∈ jx_gw := jgi_17 _ (List.mem_of_getElem? (i := 11) rfl)
theorem jw_692 : (.selects "ScriptLedger$Machine" jy_52 jy_52 : Cond) ∈ jx_gw := jgi_17 _ (List.mem_of_getElem? (i := 12) rfl)
theorem jw_693 : (.selects "ScriptLedger$Machine" jy_39 jy_39 : Cond) ∈ jx_gw := jgi_17 _ (List.mem_of_getElem? (i := 13) rfl)
theorem jw_694 : (.selects "ScriptLedger$Machine" jy_54 jy_54 : Cond) ∈ jx_gw := jgi_17 _ (List.mem_of_getElem? (i := 14) rfl)
theorem jw_695 : (.selects "ScriptLedger$Machine" jy_40 jy_40 : Cond) ∈ jx_gw := jgi_17 _ (List.mem_of_getElem? (i := 15) rfl)
theorem jw_696 : (.selects "ScriptLedger$Machine" jy_41 jy_41 : Cond) ∈ jx_gw := jgi_17 _ (List.mem_of_getElem? (i := 16) rfl)
theorem jw_697 : (.selects "ScriptLedger$Machine" jy_42 jy_42 : Cond) ∈ jx_gw := jgi_17 _ (List.mem_of_getElem? (i := 17) rfl)
theorem jw_698 : (.selects "ScriptLedger$Machine" jy_43 jy_43 : Cond) ∈ jx_gw := jgi_17 _ (List.mem_of_getElem? (i := 18) rfl)
theorem jw_699 : (.selects "ScriptLedger$Machine" jy_44 jy_44 : Cond) ∈ jx_gw := jgi_17 _ (List.mem_of_getElem? (i := 19) rfl)
theorem jw_700 : (.selects "ScriptLedger$Machine" jy_46 jy_46 : Cond) ∈ jx_gw := jgi_17 _ (List.mem_of_getElem? (i := 20) rfl)
theorem jw_701 : (.selects "ScriptLedger$Machine" jy_47 jy_47 : Cond) ∈ jx_gw := jgi_17 _ (List.mem_of_getElem? (i := 21) rfl)
theorem jw_702 : (.selects "ScriptLedger$Machine" jy_48 jy_48 : Cond) ∈ jx_gw := jgi_17 _ (List.mem_of_getElem? (i := 22) rfl)
theorem jw_703 : (.selects "ScriptLedger" jy_20 jy_20 : Cond) ∈ jx_gw := jgi_17 _ (List.mem_of_getElem? (i := 23) rfl)
theorem jw_704 : (.selects "ScriptLedger" jy_21 jy_21 : Cond) ∈ jx_gw := jgi_17 _ (List.mem_of_getElem? (i := 24) rfl)
theorem jw_705 : (.selects "ScriptLedger" jy_22 jy_22 : Cond) ∈ jx_gw := jgi_17 _ (List.mem_of_getElem? (i := 25) rfl)
theorem jw_706 : (.selects "ScriptLedger" jy_23 jy_23 : Cond) ∈ jx_gw := jgi_17 _ (List.mem_of_getElem? (i := 26) rfl)
theorem jw_707 : (.selects "ScriptLedger" jy_24 jy_24 : Cond) ∈ jx_gw := jgi_17 _ (List.mem_of_getElem? (i := 27) rfl)
theorem jw_708 : (.selects "ScriptLedger" jy_25 jy_25 : Cond) ∈ jx_gw := jgi_17 _ (List.mem_of_getElem? (i := 28) rfl)
theorem jw_709 : (.selects "ScriptLedger" jy_26 jy_26 : Cond) ∈ jx_gw := jgi_17 _ (List.mem_of_getElem? (i := 29) rfl)
theorem jw_710 : (.selects "ScriptLedger" jy_28 jy_28 : Cond) ∈ jx_gw := jgi_17 _ (List.mem_of_getElem? (i := 30) rfl)
theorem jw_711 : (.selects "ScriptLedger" jy_29 jy_29 : Cond) ∈ jx_gw := jgi_17 _ (List.mem_of_getElem? (i := 31) rfl)
theorem jw_712 : (.selects "ScriptLedger" jy_30 jy_30 : Cond) ∈ jx_gw := jgi_17 _ (List.mem_of_getElem? (i := 32) rfl)
theorem jw_713 : (.selects "ScriptLedger" jy_31 jy_31 : Cond) ∈ jx_gw := jgi_17 _ (List.mem_of_getElem? (i := 33) rfl)
theorem jw_714 : (.selects "ScriptLedgerModel" jy_91 jy_91 : Cond) ∈ jx_gw := jgi_17 _ (List.mem_of_getElem? (i := 34) rfl)
theorem jw_715 : (.selects "ScriptLedgerModel" jy_95 jy_95 : Cond) ∈ jx_gw := jgi_17 _ (List.mem_of_getElem? (i := 35) rfl)
theorem jw_716 : (.selects "ScriptLedgerModel" jy_94 jy_94 : Cond) ∈ jx_gw := jgi_17 _ (List.mem_of_getElem? (i := 36) rfl)
theorem jw_717 : (.selects "ScriptLedgerModel" jy_107 jy_107 : Cond) ∈ jx_gw := jgi_17 _ (List.mem_of_getElem? (i := 37) rfl)
theorem jw_718 : (.selects "ScriptLedgerModel" jy_100 jy_100 : Cond) ∈ jx_gw := jgi_17 _ (List.mem_of_getElem? (i := 38) rfl)
theorem jw_719 : (.selects "ScriptLedgerModel" jy_101 jy_101 : Cond) ∈ jx_gw := jgi_17 _ (List.mem_of_getElem? (i := 39) rfl)
theorem jw_720 : (.selects "ScriptLedgerModel" jy_98 jy_98 : Cond) ∈ jx_gw := jgi_18 _ (List.mem_of_getElem? (i := 0) rfl)
theorem jw_721 : (.selects "ScriptLedgerModel" jy_93 jy_93 : Cond) ∈ jx_gw := jgi_18 _ (List.mem_of_getElem? (i := 1) rfl)
theorem jw_722 : (.selects "ScriptLedgerModel" jy_99 jy_99 : Cond) ∈ jx_gw := jgi_18 _ (List.mem_of_getElem? (i := 2) rfl)
theorem jw_723 : (.selects "ScriptLedgerModel" jy_102 jy_102 : Cond) ∈ jx_gw := jgi_18 _ (List.mem_of_getElem? (i := 3) rfl)
theorem jw_724 : (.selects "ScriptLedgerModel" jy_103 jy_103 : Cond) ∈ jx_gw := jgi_18 _ (List.mem_of_getElem? (i := 4) rfl)
theorem jw_725 : (.selects "ScriptLedgerModel" jy_105 jy_105 : Cond) ∈ jx_gw := jgi_18 _ (List.mem_of_getElem? (i := 5) rfl)
theorem jw_726 : (.selects "ScriptLedgerModel" jy_104 jy_104 : Cond) ∈ jx_gw := jgi_18 _ (List.mem_of_getElem? (i := 6) rfl)
theorem jw_727 : (.selects "ScriptLedgerModel" jy_106 jy_106 : Cond) ∈ jx_gw := jgi_18 _ (List.mem_of_getElem? (i := 7) rfl)
theorem jw_728 : (.selects "ScriptLedgerModel" jy_96 jy_96 : Cond) ∈ jx_gw := jgi_18 _ (List.mem_of_getElem? (i := 8) rfl)
theorem jw_729 : (.selects "ScriptLedgerModel" jy_111 jy_111 : Cond) ∈ jx_gw := jgi_18 _ (List.mem_of_getElem? (i := 9) rfl)
theorem jw_730 : (.selects "ScriptLedgerModel" jy_124 jy_124 : Cond) ∈ jx_gw := jgi_18 _ (List.mem_of_getElem? (i := 10) rfl)
theorem jw_731 : (.selects "ScriptLedgerModel" jy_118 jy_118 : Cond) ∈ jx_gw := jgi_18 _ (List.mem_of_getElem? (i := 11) rfl)
theorem jw_732 : (.selects "ScriptLedgerModel" jy_117 jy_117 : Cond) ∈ jx_gw := jgi_18 _ (List.mem_of_getElem? (i := 12) rfl)
theorem jw_733 : (.selects "ScriptLedgerModel" jy_119 jy_119 : Cond) ∈ jx_gw := jgi_18 _ (List.mem_of_getElem? (i := 13) rfl)
theorem jw_734 : (.selects "ScriptLedgerModel" jy_121 jy_121 : Cond) ∈ jx_gw := jgi_18 _ (List.mem_of_getElem? (i := 14) rfl)
theorem jw_735 : (.selects "ScriptLedgerModel" jy_120 jy_120 : Cond) ∈ jx_gw := jgi_18 _ (List.mem_of_getElem? (i := 15) rfl)
theorem jw_736 : (.selects "ScriptLedgerModel" jy_122 jy_122 : Cond) ∈ jx_gw := jgi_18 _ (List.mem_of_getElem? (i := 16) rfl)
theorem jw_737 : (.selects "ScriptLedgerModel" jy_123 jy_123 : Cond) ∈ jx_gw := jgi_18 _ (List.mem_of_getElem? (i := 17) rfl)
theorem jw_738 : (.selects "ScriptLedgerModel" jy_127 jy_127 : Cond) ∈ jx_gw := jgi_18 _ (List.mem_of_getElem? (i := 18) rfl)
theorem jw_739 : (.selects "ScriptLedgerModel" jy_126 jy_126 : Cond) ∈ jx_gw := jgi_18 _ (List.mem_of_getElem? (i := 19) rfl)
theorem jw_740 : (.selects "ScriptLedgerModel" jy_125 jy_125 : Cond) ∈ jx_gw := jgi_18 _ (List.mem_of_getElem? (i := 20) rfl)
theorem jw_741 : (.selects "ScriptLedgerModel" jy_128 jy_128 : Cond) ∈ jx_gw := jgi_18 _ (List.mem_of_getElem? (i := 21) rfl)
theorem jgq_0 : (u_ws "ScriptLedger" jr_0 6).all goodWord = true := by decide +kernel
theorem jgq_1 : (u_ws "ScriptLedger$Draft" jr_1 2).all goodWord = true := by decide +kernel
theorem jgq_2 : (u_ws "ScriptLedger$Machine" jr_2 16).all goodWord = true := by decide +kernel
theorem jgq_3 : (u_ws "ScriptLedger$Scripts" jr_3 3).all goodWord = true := by decide +kernel
theorem jgq_4 : (u_ws "ScriptLedger$Values" jr_4 5).all goodWord = true := by decide +kernel
theorem jgq_5 : (u_ws "ScriptLedger$Ledger" jr_5 6).all goodWord = true := by decide +kernel
theorem jgq_6 : (u_ws "ScriptLedger$OutputRow" jr_6 4).all goodWord = true := by decide +kernel
theorem jgq_7 : (u_ws "ScriptLedger$Transaction" jr_7 12).all goodWord = true := by decide +kernel
theorem jgq_8 : (u_ws "ScriptLedgerModel" jr_8 50).all goodWord = true := by decide +kernel
theorem jgr_0 : jg_0.all goodWord = true := by decide +kernel
theorem jgr_1 : jg_1.all goodWord = true := by decide +kernel
theorem jgr_2 : jg_2.all goodWord = true := by decide +kernel
theorem jgr_3 : jg_3.all goodWord = true := by decide +kernel
theorem jgr_4 : jg_4.all goodWord = true := by decide +kernel
theorem jgr_5 : jg_5.all goodWord = true := by decide +kernel
theorem jgr_6 : jg_6.all goodWord = true := by decide +kernel
theorem jgr_7 : jg_7.all goodWord = true := by decide +kernel
theorem jgr_8 : jg_8.all goodWord = true := by decide +kernel
theorem jgr_9 : jg_9.all goodWord = true := by decide +kernel
theorem jgr_10 : jg_10.all goodWord = true := by decide +kernel
theorem jgr_11 : jg_11.all goodWord = true := by decide +kernel
theorem jgr_12 : jg_12.all goodWord = true := by decide +kernel
theorem jgr_13 : jg_13.all goodWord = true := by decide +kernel
theorem jgr_14 : jg_14.all goodWord = true := by decide +kernel
theorem jgr_15 : jg_15.all goodWord = true := by decide +kernel
theorem jgr_16 : jg_16.all goodWord = true := by decide +kernel
theorem jgr_17 : jg_17.all goodWord = true := by decide +kernel
theorem jgr_18 : jg_18.all goodWord = true := by decide +kernel
theorem jx_gwG : ∀ w ∈ jx_gw, (w.onTables && w.keeps) = true ∨ ∃ ty, w = .arrayClass ty := by
  intro w hw
  apply good_of_word
  have h : w ∈ u_ws "ScriptLedger" jr_0 6 ++ (u_ws "ScriptLedger$Draft" jr_1 2 ++ (u_ws "ScriptLedger$Machine" jr_2 16 ++ (u_ws "ScriptLedger$Scripts" jr_3 3 ++ (u_ws "ScriptLedger$Values" jr_4 5 ++ (u_ws "ScriptLedger$Ledger" jr_5 6 ++ (u_ws "ScriptLedger$OutputRow" jr_6 4 ++ (u_ws "ScriptLedger$Transaction" jr_7 12 ++ (u_ws "ScriptLedgerModel" jr_8 50 ++ (jg_0 ++ (jg_1 ++ (jg_2 ++ (jg_3 ++ (jg_4 ++ (jg_5 ++ (jg_6 ++ (jg_7 ++ (jg_8 ++ (jg_9 ++ (jg_10 ++ (jg_11 ++ (jg_12 ++ (jg_13 ++ (jg_14 ++ (jg_15 ++ (jg_16 ++ (jg_17 ++ (jg_18))))))))))))))))))))))))))) := hw
  rcases List.mem_append.mp h with h | h
  · exact List.all_eq_true.mp jgq_0 w h
  rcases List.mem_append.mp h with h | h
  · exact List.all_eq_true.mp jgq_1 w h
  rcases List.mem_append.mp h with h | h
  · exact List.all_eq_true.mp jgq_2 w h
  rcases List.mem_append.mp h with h | h
  · exact List.all_eq_true.mp jgq_3 w h
  rcases List.mem_append.mp h with h | h
  · exact List.all_eq_true.mp jgq_4 w h
  rcases List.mem_append.mp h with h | h
  · exact List.all_eq_true.mp jgq_5 w h
  rcases List.mem_append.mp h with h | h
  · exact List.all_eq_true.mp jgq_6 w h
  rcases List.mem_append.mp h with h | h
  · exact List.all_eq_true.mp jgq_7 w h
  rcases List.mem_append.mp h with h | h
  · exact List.all_eq_true.mp jgq_8 w h
  rcases List.mem_append.mp h with h | h
  · exact List.all_eq_true.mp jgr_0 w h
  rcases List.mem_append.mp h with h | h
  · exact List.all_eq_true.mp jgr_1 w h
  rcases List.mem_append.mp h with h | h
  · exact List.all_eq_true.mp jgr_2 w h
  rcases List.mem_append.mp h with h | h
  · exact List.all_eq_true.mp jgr_3 w h
  rcases List.mem_append.mp h with h | h
  · exact List.all_eq_true.mp jgr_4 w h
  rcases List.mem_append.mp h with h | h
  · exact List.all_eq_true.mp jgr_5 w h
  rcases List.mem_append.mp h with h | h
  · exact List.all_eq_true.mp jgr_6 w h
  rcases List.mem_append.mp h with h | h
  · exact List.all_eq_true.mp jgr_7 w h
  rcases List.mem_append.mp h with h | h
  · exact List.all_eq_true.mp jgr_8 w h
  rcases List.mem_append.mp h with h | h
  · exact List.all_eq_true.mp jgr_9 w h
  rcases List.mem_append.mp h with h | h
  · exact List.all_eq_true.mp jgr_10 w h
  rcases List.mem_append.mp h with h | h
  · exact List.all_eq_true.mp jgr_11 w h
  rcases List.mem_append.mp h with h | h
  · exact List.all_eq_true.mp jgr_12 w h
  rcases List.mem_append.mp h with h | h
  · exact List.all_eq_true.mp jgr_13 w h
  rcases List.mem_append.mp h with h | h
  · exact List.all_eq_true.mp jgr_14 w h
  rcases List.mem_append.mp h with h | h
  · exact List.all_eq_true.mp jgr_15 w h
  rcases List.mem_append.mp h with h | h
  · exact List.all_eq_true.mp jgr_16 w h
  rcases List.mem_append.mp h with h | h
  · exact List.all_eq_true.mp jgr_17 w h
  exact List.all_eq_true.mp jgr_18 w h
def jx_nw : List Cond := [.methodLinkNest "ScriptLedger" 9 jy_32 "ScriptLedger", .methodLinkNest "ScriptLedger" 18 jy_34 "ScriptLedger", .methodLinkNest "ScriptLedger$Machine" 11 jy_55 "ScriptLedger", .methodLinkNest "ScriptLedger$Machine" 20 jy_61 "ScriptLedger"]
def jx_isN : Cond → Bool
  | .fieldLinkNest _ _ _ _ _ _ => true
  | .methodLinkNest _ _ _ _ => true
  | _ => false
theorem jx_nwN : ∀ w ∈ jx_nw, jx_isN w = true := fun w hw => List.all_eq_true.mp (show jx_nw.all jx_isN = true by decide +kernel) w hw
def jx_zs : List (Nat × String × String × String) := [(900, "ScriptLedger$Machine", "ARGUMENTS", "[I"), (901, "ScriptLedger$Machine", "COSTS", "[I")]
theorem jx_zs8 : ∀ z ∈ jx_zs, 800 ≤ z.1 := by decide
def jx_f900 : Nat → Int32 := fun j => [2, 2, 2, 2, 2, 2, 3, 2, 1, 1, 1].getD j 0
def jx_f901 : Nat → Int32 := fun j => [1, 1, 3, 3, 1, 1, 1, 1, 1, 1, 1].getD j 0
def jx_tb0 : Nat → Option (Nat × (Nat → Int32)) := fun p => bif Nat.beq p 900 then some (11, jx_f900) else bif Nat.beq p 901 then some (11, jx_f901) else none
end
section
/-! The abstract machine: a state is a function of place and index; a layout says what each place is. Rules over the kit's rows. -/
abbrev jx_St : Type := Nat → Nat → Int32
abbrev jx_Lc : Type := (Nat × List (Option (Option Nat))) ⊕ Nat
abbrev jx_Lv : Type := List (Nat × Value)
abbrev jx_Tb : Type := Nat → Option (Nat × (Nat → Int32))
def jx_su (σ : jx_St) (p i : Nat) (v : Int32) : jx_St := fun q => bif Nat.beq q p then upd (σ q) i v else σ q
def jx_v (ρ : Nat → Nat) : Value → Value
  | .ref a => .ref (ρ a)
  | v => v
def jx_q (ρ : Nat → Nat) (q : Nat × Value) : Nat × Value := (q.1, jx_v ρ q.2)
def jx_fd (ρ : Nat → Nat) (σ : jx_St) (p k : Nat) : Option (Option Nat) → Value
  | some (some q) => .ref (ρ q)
  | some none => .null
  | none => .int (σ p k)
def jx_ce (ρ : Nat → Nat) (cA : ClassId) (σ : jx_St) (p : Nat) : jx_Lc → va_E
  | .inl o => .inr (o.1, o.2.mapIdx (jx_fd ρ σ p))
  | .inr n => .inl (cA, n, .inl (σ p))
def jx_W (ρ : Nat → Nat) (cA : ClassId) (Λ : List jx_Lc) (σ : jx_St) : va_W := Λ.mapIdx (fun p c => (ρ p, jx_ce ρ cA σ p c))
def jx_A (ρ : Nat → Nat) (Λ : List jx_Lc) : Nat → Prop := fun q => ∃ p, p < Λ.length ∧ q = ρ p
def jx_inj (ρ : Nat → Nat) (Λ : List jx_Lc) : Prop := ∀ i j, i < Λ.length → j < Λ.length → ρ i = ρ j → i = j
theorem jx_bne {a b : Nat} (h : a ≠ b) : Nat.beq a b = false := by
  cases hq : Nat.beq a b with
  | false => rfl
  | true => exact absurd (Nat.eq_of_beq_eq_true hq) h
theorem jx_su_eq (σ : jx_St) (p i : Nat) (v : Int32) : jx_su σ p i v p = upd (σ p) i v := by simp [jx_su]
theorem jx_su_ne (σ : jx_St) {p q : Nat} (i : Nat) (v : Int32) (h : q ≠ p) : jx_su σ p i v q = σ q := by simp [jx_su, jx_bne h]
theorem jx_cat (ρ : Nat → Nat) (v : Value) : (jx_v ρ v).category = v.category := by cases v <;> rfl
section JXW
variable {ρ : Nat → Nat} {cA : ClassId} {Λ : List jx_Lc} {σ : jx_St} {p : Nat}
theorem jx_Wg (p : Nat) : (jx_W ρ cA Λ σ)[p]? = Λ[p]?.map (fun c => (ρ p, jx_ce ρ cA σ p c)) := by simp [jx_W, List.getElem?_mapIdx]
theorem jx_Wat {c : jx_Lc} (h : Λ[p]? = some c) : (jx_W ρ cA Λ σ)[p]? = some (ρ p, jx_ce ρ cA σ p c) := by rw [jx_Wg, h]; rfl
theorem jx_D {A : Nat → Prop} (h : jx_inj ρ Λ) (hA : ∀ i, i < Λ.length → A (ρ i)) : va_D A (jx_W ρ cA Λ σ) := by
  constructor
  · intro i j x y hi hj hxy
    rw [jx_Wg] at hi hj
    cases h1 : Λ[i]? with
    | none => rw [h1] at hi; cases hi
    | some ci =>
      cases h2 : Λ[j]? with
      | none => rw [h2] at hj; cases hj
      | some cj =>
        rw [h1] at hi
        rw [h2] at hj
        cases hi
        cases hj
        exact h i j (List.getElem?_eq_some_iff.mp h1).1 (List.getElem?_eq_some_iff.mp h2).1 hxy
  · intro k q hk
    rw [jx_Wg] at hk
    cases h1 : Λ[k]? with
    | none => rw [h1] at hk; cases hk
    | some ck =>
      rw [h1] at hk
      cases hk
      exact hA k (List.getElem?_eq_some_iff.mp h1).1
theorem jx_ce_eq {σ σ' : jx_St} (h : σ p = σ' p) (c : jx_Lc) : jx_ce ρ cA σ p c = jx_ce ρ cA σ' p c := by
  cases c with
  | inl o =>
    have e : jx_fd ρ σ p = jx_fd ρ σ' p := by
      funext k o
      cases o with
      | none => simp [jx_fd, h]
      | some q => cases q <;> rfl
    simp [jx_ce, e]
  | inr n => simp [jx_ce, h]
theorem jx_Wset {c : jx_Lc} {i : Nat} {v : Int32} {e : va_E} (h : Λ[p]? = some c) (he : jx_ce ρ cA (jx_su σ p i v) p c = e) : (jx_W ρ cA Λ σ).set p (ρ p, e) = jx_W ρ cA Λ (jx_su σ p i v) := by
  apply List.ext_getElem?
  intro k
  by_cases hk : k = p
  · subst hk
    have hl : k < (jx_W ρ cA Λ σ).length := by
      have := (List.getElem?_eq_some_iff.mp h).1
      simpa [jx_W] using this
    rw [List.getElem?_set_self hl, jx_Wat h, he]
  · rw [List.getElem?_set_ne (Ne.symm hk), jx_Wg, jx_Wg]
    cases h1 : Λ[k]? with
    | none => rfl
    | some ck =>
      have e1 : σ k = jx_su σ p i v k := (jx_su_ne σ i v hk).symm
      simp only [Option.map_some]
      rw [jx_ce_eq e1]
theorem jx_Wput {ci f : Nat} {fs : List (Option (Option Nat))} {v : Int32} (h : Λ[p]? = some (.inl (ci, fs))) (hf : fs[f]? = some none) :
    (jx_W ρ cA Λ σ).set p (ρ p, .inr (ci, (fs.mapIdx (jx_fd ρ σ p)).set f (.int v))) = jx_W ρ cA Λ (jx_su σ p f v) := by
  refine jx_Wset h ?_
  show (Sum.inr (ci, fs.mapIdx (jx_fd ρ (jx_su σ p f v) p)) : va_E) = _
  congr 2
  apply List.ext_getElem?
  intro k
  by_cases hk : k = f
  · subst hk
    have hl : k < (fs.mapIdx (jx_fd ρ σ p)).length := by
      have := (List.getElem?_eq_some_iff.mp hf).1
      simpa using this
    rw [List.getElem?_set_self hl, List.getElem?_mapIdx, hf]
    simp [jx_fd, jx_su_eq, upd]
  · rw [List.getElem?_set_ne (Ne.symm hk), List.getElem?_mapIdx, List.getElem?_mapIdx]
    cases h1 : fs[k]? with
    | none => rfl
    | some o =>
      cases o with
      | none => simp [jx_fd, jx_su_eq, upd, hk]
      | some q => cases q <;> rfl
theorem jx_Wast {n i : Nat} {x : Int32} (h : Λ[p]? = some (.inr n)) : (jx_W ρ cA Λ σ).set p (ρ p, .inl (cA, n, .inl (upd (σ p) i x))) = jx_W ρ cA Λ (jx_su σ p i x) := by
  refine jx_Wset h ?_
  show (Sum.inl (cA, n, Sum.inl (jx_su σ p i x p)) : va_E) = _
  rw [jx_su_eq]
end JXW
/-! locals -/
def jx_lk : jx_Lv → Nat → Option Value
  | [], _ => none
  | (j, v) :: t, i => bif Nat.beq j i then some v else jx_lk t i
def jx_f1 (i : Nat) (lv : jx_Lv) : jx_Lv := lv.filter (fun q => !(q.1 == i) && !(q.1 + 1 == i && q.2.category == 2))
def jx_f2 (i : Nat) (lv : jx_Lv) : jx_Lv := lv.filter (fun q => !(q.1 == i) && (!(q.1 == i + 1) && !(q.1 + 1 == i && q.2.category == 2)))
theorem jx_lkm {ρ : Nat → Nat} {i : Nat} {v : Value} : ∀ {lv : jx_Lv}, jx_lk lv i = some v → (i, jx_v ρ v) ∈ lv.map (jx_q ρ)
  | [], h => by cases h
  | (j, w) :: t, h => by
    unfold jx_lk at h
    by_cases hj : j = i
    · subst hj
      simp at h
      subst h
      exact List.mem_cons_self
    · have hb : Nat.beq j i = false := by
        cases hq : Nat.beq j i with
        | false => rfl
        | true => exact absurd (Nat.eq_of_beq_eq_true hq) hj
      rw [hb] at h
      exact List.mem_cons_of_mem _ (jx_lkm h)
theorem jx_lka {ρ : Nat → Nat} {i nL : Nat} {v : Value} {lv : jx_Lv} {ls : Array Slot} (hl : lv_has ls nL (lv.map (jx_q ρ))) (h : jx_lk lv i = some v) : ls[i]? = some (.val (jx_v ρ v)) := hl.2.2 _ (jx_lkm h)
theorem jx_lkk {ρ : Nat → Nat} {i : Nat} {v : Value} {lv : jx_Lv} (h : jx_lk lv i = some v) : ∃ k : Nat, (lv.map (jx_q ρ))[k]? = some (i, jx_v ρ v) := List.getElem?_of_mem (jx_lkm h)
theorem jx_f1m (ρ : Nat → Nat) (i : Nat) (lv : jx_Lv) : (lv.map (jx_q ρ)).filter (fun q => !(q.1 == i) && !(q.1 + 1 == i && q.2.category == 2)) = (jx_f1 i lv).map (jx_q ρ) := by
  rw [List.filter_map]
  unfold jx_f1
  congr 1
  apply List.filter_congr
  intro q _
  simp [jx_q, jx_cat]
theorem jx_f2m (ρ : Nat → Nat) (i : Nat) (lv : jx_Lv) : (lv.map (jx_q ρ)).filter (fun q => !(q.1 == i) && (!(q.1 == i + 1) && !(q.1 + 1 == i && q.2.category == 2))) = (jx_f2 i lv).map (jx_q ρ) := by
  rw [List.filter_map]
  unfold jx_f2
  congr 1
  apply List.filter_congr
  intro q _
  simp [jx_q, jx_cat]
theorem jx_slm (ρ : Nat → Nat) (as : List Value) : (lg_sl (as.map (jx_v ρ))).length = (lg_sl as).length := by
  induction as with
  | nil => rfl
  | cons v t ih =>
    simp only [lg_sl, List.map_cons, List.flatMap_cons, List.length_append] at ih ⊢
    rw [jx_cat, ih]
    by_cases h : v.category = 2 <;> simp [h]
theorem jx_argm (ρ : Nat → Nat) (as : List Value) : ∀ n, lv_args n (as.map (jx_v ρ)) = (lv_args n as).map (jx_q ρ) := by
  induction as with
  | nil => intro n; rfl
  | cons v t ih =>
    intro n
    simp only [List.map_cons, lv_args, jx_cat, ih]
    rfl
end
section
/-! Contract and walk over the abstract state -/
abbrev jx_y (k : Nat) : MethodName := (jx_mt k).1
abbrev jx_b (k : Nat) : ByteArray := (jx_mt k).2.1
abbrev jx_nL (k : Nat) : Nat := (jx_mt k).2.2.1
abbrev jx_ret (k : Nat) : Option FieldType := (jx_mt k).2.2.2
def jx_ws (k : Nat) : List Cond := Cond.code (jx_y k) (jx_b k) (jx_nL k) (jx_ret k) :: jx_gw
def jx_rm (d : Nat) : Room := { frames := d, cells := 0, slots := 0, locals := 40 * d }
def jx_Z (ρ : Nat → Nat) (A : Nat → Prop) (tb : jx_Tb) (U : State) (H : Heap) : Prop :=
  (∀ z ∈ jx_zs, va_Z z.2.1 z.2.2.1 z.2.2.2 (.ref (ρ z.1)) A U H) ∧ ∀ (p n : Nat) (f : Nat → Int32), tb p = some (n, f) → va_T .int (ρ p) n (fun j => .int (f j)) A U H
def jx_K (D : va_G) (cA : ClassId) (ρ : Nat → Nat) (Λ : List jx_Lc) (A : Nat → Prop) (tb : jx_Tb) (U : State) : Prop :=
  va_K D jx_cl [(cA, .int)] U ∧ jx_inj ρ Λ ∧ jx_Z ρ A tb U U.heap ∧ ∀ w ∈ jx_nw, va_Nw w U
def jx_Q (D : va_G) (cA : ClassId) (ρ : Nat → Nat) (Λ : List jx_Lc) (Q : Option Value → jx_St → Prop) : Array Value → State → Outcome → State → Prop := fun _ st oc t =>
  (∃ (r : Option Value) (σ : jx_St), oc = .returned (r.map (jx_v ρ)) ∧ Q r σ ∧ va_P D jx_cl (jx_W ρ cA Λ σ) t.heap) ∧ va_F (jx_A ρ Λ) st t
def jx_C (l : Launch) (D : va_G) (cA : ClassId) (ρ : Nat → Nat) (Λ : List jx_Lc) (d k : Nat) (as : List Value) (σ : jx_St) (Q : Option Value → jx_St → Prop) : Prop :=
  Met l (jx_y k) (jx_ws k) (jx_rm d) (va_Pc (as.map (jx_v ρ)) (fun U => va_P D jx_cl (jx_W ρ cA Λ σ) U.heap ∧ jx_K D cA ρ Λ (jx_A ρ Λ) jx_tb0 U)) (jx_Q D cA ρ Λ Q) 0 0 (jx_A ρ Λ)
def jx_X (D : va_G) (cA : ClassId) (ρ : Nat → Nat) (Λ : List jx_Lc) (A : Nat → Prop) (tb : jx_Tb) (d k : Nat) (p : Program) (R : Room) (s : State) (m : MethodId) (args : Array Value) (c : Code) (cells slots : Nat) : Prop :=
  p.tables.exec = Jvm.exec ∧ c.code = jx_b k ∧ c.maxLocals = jx_nL k ∧ s.vm.findClass (jx_y k).cls = some m.cls ∧ (∀ w ∈ jx_gw, w.before args s = true) ∧ (d ≤ R.frames ∧ 40 * d ≤ R.locals ∧ cells ≤ R.cells ∧ slots ≤ R.slots) ∧ jx_K D cA ρ Λ A tb s ∧ ∀ i, i < Λ.length → A (ρ i)
def jx_rt (k pc : Nat) (r : Option Value) : Prop := match jx_ret k with
  | none => r = none ∧ decode (jx_b k) pc = .ok (.return_, 1)
  | some ty => ∃ v : Int32, r = some (.int v) ∧ narrow ty (.int v) = .int v ∧ decode (jx_b k) pc = .ok (.ireturn, 1)
/-- the walk in a fixed surrounding -/
def jx_I (l : Launch) (D : va_G) (cA : ClassId) (ρ : Nat → Nat) (Λ : List jx_Lc) (A : Nat → Prop) (k : Nat) (p : Program) (e : Env) (R : Room) (s : State) (m : MethodId) (args : Array Value) (below : List Frame) (meth : Method) (c : Code) (cells slots : Nat) (QW : State → Prop) (pc : Nat) (lv : jx_Lv) (st : List Value) (σ : jx_St) : Prop :=
  ∀ (H : Heap) (locs : List Loc) (ls : Array Slot), va_P D jx_cl (jx_W ρ cA Λ σ) H → va_S A s.heap H locs → lv_has ls (jx_nL k) (lv.map (jx_q ρ)) →
    W p l e R s m args below meth c H locs cells slots QW (F0 m pc ls (st.map (jx_v ρ)))
/-- the surrounding's part at a return -/
def jx_R (l : Launch) (D : va_G) (cA : ClassId) (ρ : Nat → Nat) (Λ : List jx_Lc) (A : Nat → Prop) (k : Nat) (p : Program) (e : Env) (R : Room) (s : State) (m : MethodId) (args : Array Value) (below : List Frame) (meth : Method) (c : Code) (cells slots : Nat) (QW : State → Prop) (Q : Option Value → jx_St → Prop) : Prop :=
  ∀ (H : Heap) (locs : List Loc) (ls : Array Slot) (pc : Nat) (r : Option Value) (σ : jx_St), jx_rt k pc r → Q r σ → va_P D jx_cl (jx_W ρ cA Λ σ) H → va_S A s.heap H locs → W p l e R s m args below meth c H locs cells slots QW (F0 m pc ls (r.toList.map (jx_v ρ)))
def jx_J (l : Launch) (D : va_G) (cA : ClassId) (ρ : Nat → Nat) (Λ : List jx_Lc) (A : Nat → Prop) (tb : jx_Tb) (d k : Nat) (Q : Option Value → jx_St → Prop) (pc : Nat) (lv : jx_Lv) (st : List Value) (σ : jx_St) : Prop :=
  ∀ (p : Program) (e : Env) (R : Room) (s : State) (m : MethodId) (args : Array Value) (below : List Frame) (meth : Method) (c : Code) (cells slots : Nat) (QW : State → Prop),
    jx_X D cA ρ Λ A tb d k p R s m args c cells slots → jx_R l D cA ρ Λ A k p e R s m args below meth c cells slots QW Q →
    jx_I l D cA ρ Λ A k p e R s m args below meth c cells slots QW pc lv st σ
theorem jx_Nw {w : Cond} (hw : jx_isN w = true) {s U : State} (hW : s.WarmedH U.vm) (h : va_Nw w s) : va_Nw w U := by
  cases w <;> first | (exact va_Nw.warmF hW h) | (exact va_Nw.warmM hW h) | (cases hw)
theorem jx_Nc {w : Cond} (hw : jx_isN w = true) {u U : State} (hv : u.vm = U.vm) (h : va_Nw w u) : va_Nw w U := by
  cases w <;> first | (exact va_Nw.same rfl hv h) | (cases hw)
section JXJ
variable {l : Launch} {D : va_G} {cA : ClassId} {ρ : Nat → Nat} {Λ : List jx_Lc} {A : Nat → Prop} {tb : jx_Tb} {d k : Nat} {Q : Option Value → jx_St → Prop}
theorem jx_Z_moved {u U : State} {H : Heap} (hvm : u.vm.Alike U.vm) (h : jx_Z ρ A tb u H) : jx_Z ρ A tb U H := ⟨fun z hz => va_Z.moved hvm (h.1 z hz), fun p n f hp => va_T.moved hvm (h.2 p n f hp)⟩
theorem jx_Z_kept {U : State} {H H1 : Heap} (h : jx_Z ρ A tb U H) (hq : ∀ a : Nat, a < H.size → ¬ A a → H1[a]? = H[a]?) : jx_Z ρ A tb U H1 := ⟨fun z hz => (h.1 z hz).kept hq, fun p n f hp => (h.2 p n f hp).kept hq⟩
theorem jx_K_calling {U : State} {g : JFrame} {mk : MethodId} {a : Array Value} (h : jx_K D cA ρ Λ A tb U) : jx_K D cA ρ Λ A tb (U.calling g mk a) :=
  ⟨va_K.moved (u := U) (U := U.calling g mk a) (Vm.Alike.refl U.vm) h.1, h.2.1, jx_Z_moved (u := U) (U := U.calling g mk a) (Vm.Alike.refl U.vm) h.2.2.1, fun w hw => jx_Nc (jx_nwN w hw) (rfl : U.vm = (U.calling g mk a).vm) (h.2.2.2 w hw)⟩
theorem jx_K_sub {tb' : jx_Tb} {B : Nat → Prop} {U : State} (h : jx_K D cA ρ Λ A tb U) (hB : ∀ q, B q → A q) (ht : ∀ p n f, tb' p = some (n, f) → tb p = some (n, f)) : jx_K D cA ρ Λ B tb' U := ⟨h.1, h.2.1, ⟨fun z hz => (h.2.2.1.1 z hz).narrow hB, fun p n f hp => (h.2.2.1.2 p n f (ht p n f hp)).narrow hB⟩, h.2.2.2⟩
theorem jx_K_at {s U : State} {H : Heap} {locs : List Loc} (h : jx_K D cA ρ Λ A tb s) (hS : va_S A s.heap H locs) (hU : U.heap = H) (hW : s.WarmedH U.vm) : jx_K D cA ρ Λ A tb U := by
  refine ⟨va_K.moved hW.alike h.1, h.2.1, ?_, fun w hw => jx_Nw (jx_nwN w hw) hW (h.2.2.2 w hw)⟩
  rw [hU]
  exact jx_Z_kept (jx_Z_moved hW.alike h.2.2.1) hS.2.1
theorem jx_blind {as : List Value} {σ : jx_St} : FrameBlind (va_Pc (as.map (jx_v ρ)) (fun U => va_P D jx_cl (jx_W ρ cA Λ σ) U.heap ∧ jx_K D cA ρ Λ A tb U)) := fun _ _ _ _ q => ⟨q.1, q.2.1, jx_K_calling q.2.2⟩
/-- a contract out of a walk from the entry -/
theorem jx_of {as : List Value} {σ : jx_St} (hp : plainName (jx_y k).cls = true) (hn : (lg_sl as).length ≤ jx_nL k) (hJ : jx_J l D cA ρ Λ (jx_A ρ Λ) jx_tb0 d k Q 0 (lv_args 0 as) [] σ) : jx_C l D cA ρ Λ d k as σ Q := by
  refine Met.ofW (cc := jx_b k) (maxL := jx_nL k) (ret := jx_ret k) hp rfl ?_
  intro p e s m args below meth c s₁ B hml hv
  obtain ⟨rfl, hP, hK⟩ := hv
  have hx := B.exec
  have hb := B.bytes
  have hr := B.returns
  have hts : ∀ w ∈ jx_gw, w.before _ s = true := fun w h => atoms_spec (ws := jx_ws k) B.pre w (List.mem_cons_of_mem _ h)
  have hown : s.vm.findClass (jx_y k).cls = some m.cls := findClass_of_methodNamed B.named
  have hlocks := B.notSynchronized
  have hl := lv_entry (as.map (jx_v ρ)) (n := jx_nL k) (by rw [jx_slm]; exact hn)
  rw [lg_entry_eq]
  generalize (lg_sl (as.map (jx_v ρ)) ++ List.replicate (jx_nL k - (lg_sl (as.map (jx_v ρ))).length) Slot.unset).toArray = ls at hl ⊢
  rw [jx_argm] at hl
  refine hJ p e _ s m _ below meth c 0 0 _ ⟨hx, hb, hml, hown, hts, ⟨Nat.le_refl _, Nat.le_refl _, Nat.zero_le _, Nat.zero_le _⟩, hK, fun i hi => ⟨i, hi, rfl⟩⟩ ?_ s.heap [] ls hP va_S.rf hl
  intro H locs ls pc r σ' hrt hq hP hS
  unfold jx_rt at hrt
  cases hk : jx_ret k with
  | none =>
    rw [hk] at hrt
    obtain ⟨rfl, hd⟩ := hrt
    exact W.vret hx hb (hr.trans hk) (fun t ht hW => ⟨⟨none, σ', rfl, hq, by rw [ht]; exact hP⟩, hS.F ht⟩) hS.2.2 hd
  | some ty =>
    rw [hk] at hrt
    obtain ⟨v, rfl, hn, hd⟩ := hrt
    exact W.zret hx hb (hr.trans hk) hn (fun t ht hW => ⟨⟨some (.int v), σ', rfl, hq, by rw [ht]; exact hP⟩, hS.F ht⟩) hS.2.2 hd
/-- behind a call -/
theorem jx_aft {p : Program} {e : Env} {R : Room} {s : State} {m : MethodId} {args : Array Value} {below : List Frame} {meth : Method} {c : Code} {H : Heap} {locs : List Loc} {cells slots : Nat} {QW : State → Prop} {pc : Nat} {ls : Array Slot} {rest st0 : List Value} {a : Array Value} {K : Option Value → jx_St → Prop}
    (hr : va_Run p l e R s m args below meth c H locs cells slots 0 0 (F0 m pc ls st0) rest (jx_Q D cA ρ Λ K a) (jx_A ρ Λ)) (hS : va_S A s.heap H locs) (hA : ∀ q, jx_A ρ Λ q → A q)
    (kk : ∀ (r : Option Value) (σ : jx_St) (H1 : Heap) (locs1 : List Loc), K r σ → va_P D jx_cl (jx_W ρ cA Λ σ) H1 → va_S A s.heap H1 locs1 → W p l e R s m args below meth c H1 locs1 cells slots QW (F0 m (pc + 3) ls ((r.map (jx_v ρ)).toList ++ rest))) :
    W p l e R s m args below meth c H locs cells slots QW (F0 m pc ls st0) := by
  intro T hT X
  obtain ⟨v, st₀, t, T', L, h0, X', hL, e1, e2, ⟨⟨r, σ, hv, hq, hp⟩, hz, hk⟩, st⟩ := hr T hT X
  have hv' : v = r.map (jx_v ρ) := by injection hv
  subst hv'
  rw [h0] at hz hk
  obtain ⟨t2, a1, b1⟩ := kk r σ T'.heap (locs ++ L) hq (by rw [e1]; exact hp)
    ⟨Nat.le_trans hS.1 (by rw [e1]; exact hz), fun q h1 h2 => by rw [e1, hk q (Nat.lt_of_lt_of_le h1 hS.1) (fun z => h2 (hA q z))]; exact hS.2.1 q h1 h2, fun q hq => by
      rcases List.mem_append.mp hq with h | h
      · exact hS.2.2 q h
      · exact hA _ (hL q h)⟩ T' rfl X'
  exact ⟨t2, st t2 a1, b1⟩
theorem jx_rs (r : Option Value) (rest : List Value) : (r.map (jx_v ρ)).toList ++ rest.map (jx_v ρ) = (r.toList ++ rest).map (jx_v ρ) := by
  cases r <;> rfl
theorem jx_G {k' : Nat} (h : Cond.code (jx_y k') (jx_b k') (jx_nL k') (jx_ret k') ∈ jx_gw) : GoodIn jx_gw (jx_ws k') := by
  intro w hw
  have h1 : w ∈ jx_gw := by
    rcases List.mem_cons.mp hw with rfl | h1
    · exact h
    · exact h1
  exact ⟨h1, jx_gwG w h1⟩
theorem jx_catm (st : List Value) : ((st.map (jx_v ρ)).map fun v => v.category).sum = (st.map fun v => v.category).sum := by
  rw [List.map_map]
  congr 1
  apply List.map_congr_left
  intro v _
  exact jx_cat ρ v
/-- what a method is for its callers: its words are in the list, its class and number of parameters -/
def jx_ok (k : Nat) (C : String) (n : Nat) : Prop := Cond.code (jx_y k) (jx_b k) (jx_nL k) (jx_ret k) ∈ jx_gw ∧ Cond.initialized C ∈ jx_gw ∧ ((jx_y k).cls = C ∧ (jx_y k).cls ≠ "java/lang/invoke/MethodHandle" ∧ (jx_y k).cls ≠ "java/lang/invoke/VarHandle" ∧ (parseMethodDescriptor (jx_y k).desc).map (fun q => q.parameters.length) = some n) ∧ jx_nL k ≤ 21
/-- the link from class own at index idx to method k', plain or as a nest mate's -/
def jx_ln (own : String) (idx k' : Nat) : Prop := Cond.methodLink own idx (jx_y k') ∈ jx_gw ∨ ∃ host, Cond.methodLinkNest own idx (jx_y k') host ∈ jx_nw
section CALLS
variable {p : Program} {e : Env} {R : Room} {s : State} {m : MethodId} {args : Array Value} {below : List Frame} {meth : Method} {c : Code} {H : Heap} {locs : List Loc} {cells slots : Nat} {QW : State → Prop} {pc : Nat} {ls : Array Slot} {σ : jx_St} {K : Option Value → jx_St → Prop} {k' n idx : Nat} {as rest : List Value}
theorem jx_callV {q ci : Nat} {fs : List (Option (Option Nat))} {C : String} {T : u_T} {N : Nat} (X : jx_X D cA ρ Λ A tb (d + 1) k p R s m args c cells slots) (htb : ∀ p n f, jx_tb0 p = some (n, f) → tb p = some (n, f)) (hP : va_P D jx_cl (jx_W ρ cA Λ σ) H) (hS : va_S A s.heap H locs) (hsz : ls.size = jx_nL k)
    (hok : jx_ok k' C n) (hln : jx_ln (jx_y k).cls idx k') (hin : Cond.instanceMethod (jx_y k') ∈ jx_gw) (hse : Cond.selects C (jx_y k') (jx_y k') ∈ jx_gw) (hcl : jx_cl[ci]? = some (C, T, N)) (hdg : decode (jx_b k) pc = .ok (.invokevirtual idx, 3))
    (hΛ : Λ[q]? = some (.inl (ci, fs))) (hn : as.length = n) (hrest : (rest.map fun v => v.category).sum ≤ 8) (hC : jx_C l D cA ρ Λ d k' (.ref q :: as) σ K)
    (kk : ∀ (r : Option Value) (σ : jx_St) (H1 : Heap) (locs1 : List Loc), K r σ → va_P D jx_cl (jx_W ρ cA Λ σ) H1 → va_S A s.heap H1 locs1 → W p l e R s m args below meth c H1 locs1 cells slots QW (F0 m (pc + 3) ls ((r.toList ++ rest).map (jx_v ρ)))) :
    W p l e R s m args below meth c H locs cells slots QW (F0 m pc ls ((as.reverse ++ .ref q :: rest).map (jx_v ρ))) := by
  obtain ⟨hx, hb, hml, hown, hts, ⟨r1, r2, r3, r4⟩, hK, hA0⟩ := X
  have hA : ∀ q, jx_A ρ Λ q → A q := fun q z => by obtain ⟨i, hi, e⟩ := z; rw [e]; exact hA0 i hi
  obtain ⟨hcw, hiw, ⟨hyC, hy1, hy2, hnp⟩, hmx⟩ := hok
  have hG : GoodIn jx_gw (jx_ws k') := jx_G hcw
  have hw := hts
  have hini : (Cond.initialized (jx_y k').cls).before args s = true := by rw [hyC]; exact hw _ hiw
  have hR : (jx_rm d).frames + 1 ≤ R.frames ∧ 8 + (jx_nL k' + 11) + (jx_rm d).locals ≤ R.locals := ⟨r1, by show 8 + (jx_nL k' + 11) + 40 * d ≤ _; omega⟩
  have hpre : PreV s H C (ρ q) (va_Pc ((Value.ref q :: as).map (jx_v ρ)) (fun U => va_P D jx_cl (jx_W ρ cA Λ σ) U.heap ∧ jx_K D cA ρ Λ (jx_A ρ Λ) jx_tb0 U)) (as.map (jx_v ρ)) :=
    ⟨jx_blind, va_recv hK.1 hP hcl (jx_Wat hΛ), fun U hU hW => ⟨rfl, by rw [hU]; exact hP, jx_K_sub (jx_K_at hK hS hU hW) hA htb⟩⟩
  have hst : (F0 m pc ls ((as.reverse ++ .ref q :: rest).map (jx_v ρ))).stack = (as.map (jx_v ρ)).reverse ++ .ref (ρ q) :: rest.map (jx_v ρ) := by
    show (as.reverse ++ .ref q :: rest).map (jx_v ρ) = _
    rw [List.map_append, List.map_reverse]
    rfl
  refine jx_aft (rest := rest.map (jx_v ρ)) (K := K) (a := (Value.ref (ρ q) :: as.map (jx_v ρ)).toArray) ?_ hS hA (fun r σ H1 locs1 hq hP1 hS1 => by rw [jx_rs]; exact kk r σ H1 locs1 hq hP1 hS1)
  rcases hln with hl | ⟨host, hl⟩
  · exact va_runV (As := as.map (jx_v ρ)) (rest := rest.map (jx_v ρ)) ⟨hx, hb, hml, hown, hts⟩ hC ⟨callB_of n hts hG rfl rfl rfl hini (hw _ hl) ⟨hy1, hy2, hnp⟩ hR, hw _ hin, hw _ hse⟩ hpre rfl (by rw [List.length_map]; exact hn) hsz hst (lv_room (by rw [jx_catm]; exact hrest)) hdg ⟨r3, r4⟩
  · exact va_runVN (As := as.map (jx_v ρ)) (rest := rest.map (jx_v ρ)) ⟨hx, hb, hml, hown, hts⟩ hC ⟨va_cnB n hts hG rfl rfl rfl (hK.2.2.2 _ hl) hini ⟨hy1, hy2, hnp⟩ hR, hw _ hin, hw _ hse⟩ hpre rfl (by rw [List.length_map]; exact hn) hsz hst (lv_room (by rw [jx_catm]; exact hrest)) hdg ⟨r3, r4⟩
theorem jx_callS {C : String} (X : jx_X D cA ρ Λ A tb (d + 1) k p R s m args c cells slots) (htb : ∀ p n f, jx_tb0 p = some (n, f) → tb p = some (n, f)) (hP : va_P D jx_cl (jx_W ρ cA Λ σ) H) (hS : va_S A s.heap H locs) (hsz : ls.size = jx_nL k)
    (hok : jx_ok k' C n) (hln : jx_ln (jx_y k).cls idx k') (hst0 : Cond.static (jx_y k') ∈ jx_gw) (hdg : decode (jx_b k) pc = .ok (.invokestatic idx, 3))
    (hn : as.length = n) (hrest : (rest.map fun v => v.category).sum ≤ 8) (hC : jx_C l D cA ρ Λ d k' as σ K)
    (kk : ∀ (r : Option Value) (σ : jx_St) (H1 : Heap) (locs1 : List Loc), K r σ → va_P D jx_cl (jx_W ρ cA Λ σ) H1 → va_S A s.heap H1 locs1 → W p l e R s m args below meth c H1 locs1 cells slots QW (F0 m (pc + 3) ls ((r.toList ++ rest).map (jx_v ρ)))) :
    W p l e R s m args below meth c H locs cells slots QW (F0 m pc ls ((as.reverse ++ rest).map (jx_v ρ))) := by
  obtain ⟨hx, hb, hml, hown, hts, ⟨r1, r2, r3, r4⟩, hK, hA0⟩ := X
  have hA : ∀ q, jx_A ρ Λ q → A q := fun q z => by obtain ⟨i, hi, e⟩ := z; rw [e]; exact hA0 i hi
  obtain ⟨hcw, hiw, ⟨hyC, hy1, hy2, hnp⟩, hmx⟩ := hok
  have hG : GoodIn jx_gw (jx_ws k') := jx_G hcw
  have hw := hts
  have hini : (Cond.initialized (jx_y k').cls).before args s = true := by rw [hyC]; exact hw _ hiw
  have hR : (jx_rm d).frames + 1 ≤ R.frames ∧ 8 + (jx_nL k' + 11) + (jx_rm d).locals ≤ R.locals := ⟨r1, by show 8 + (jx_nL k' + 11) + 40 * d ≤ _; omega⟩
  have hpre : PreS s H (va_Pc (as.map (jx_v ρ)) (fun U => va_P D jx_cl (jx_W ρ cA Λ σ) U.heap ∧ jx_K D cA ρ Λ (jx_A ρ Λ) jx_tb0 U)) (as.map (jx_v ρ)) :=
    ⟨jx_blind, fun U hU hW => ⟨rfl, by rw [hU]; exact hP, jx_K_sub (jx_K_at hK hS hU hW) hA htb⟩⟩
  have hst : (F0 m pc ls ((as.reverse ++ rest).map (jx_v ρ))).stack = (as.map (jx_v ρ)).reverse ++ rest.map (jx_v ρ) := by
    show (as.reverse ++ rest).map (jx_v ρ) = _
    rw [List.map_append, List.map_reverse]
  refine jx_aft (rest := rest.map (jx_v ρ)) (K := K) (a := (as.map (jx_v ρ)).toArray) ?_ hS hA (fun r σ H1 locs1 hq hP1 hS1 => by rw [jx_rs]; exact kk r σ H1 locs1 hq hP1 hS1)
  rcases hln with hl | ⟨host, hl⟩
  · exact va_runS (As := as.map (jx_v ρ)) (rest := rest.map (jx_v ρ)) ⟨hx, hb, hml, hown, hts⟩ hC ⟨callB_of n hts hG rfl rfl rfl hini (hw _ hl) ⟨hy1, hy2, hnp⟩ hR, hw _ hst0⟩ hpre rfl (by rw [List.length_map]; exact hn) hsz hst (lv_room (by rw [jx_catm]; exact hrest)) hdg ⟨r3, r4⟩
  · exact va_runSN (As := as.map (jx_v ρ)) (rest := rest.map (jx_v ρ)) ⟨hx, hb, hml, hown, hts⟩ hC ⟨va_cnB n hts hG rfl rfl rfl (hK.2.2.2 _ hl) hini ⟨hy1, hy2, hnp⟩ hR, hw _ hst0, trivial⟩ hpre rfl (by rw [List.length_map]; exact hn) hsz hst (lv_room (by rw [jx_catm]; exact hrest)) hdg ⟨r3, r4⟩
end CALLS
end JXJ
end
section
/-! One step of a method as a condition on what comes next; each is sound for the walk -/
abbrev jx_Nx : Type := Nat → jx_Lv → List Value → jx_St → Prop
abbrev jx_Cl : Type := Nat → List Value → jx_St → (Option Value → jx_St → Prop) → Prop
abbrev jx_Sp : Type := List jx_Lc → jx_Tb → jx_Nx → jx_Cl → (Option Value → jx_St → Prop) → Nat → jx_Lv → List Value → jx_St → Prop
def js_none : jx_Sp := fun _ _ _ _ _ _ _ _ _ => False
/-- soundness of a step at a pc of method k -/
def jx_Snd (k pc : Nat) (sp : jx_Sp) : Prop := ∀ (l : Launch) (D : va_G) (cA : ClassId) (ρ : Nat → Nat) (Λ : List jx_Lc) (A : Nat → Prop) (tb : jx_Tb) (d : Nat) (Q : Option Value → jx_St → Prop) (p : Program) (e : Env) (R : Room) (s : State) (m : MethodId) (args : Array Value) (below : List Frame) (meth : Method) (c : Code) (cells slots : Nat) (QW : State → Prop),
  jx_X D cA ρ Λ A tb (d + 1) k p R s m args c cells slots → jx_R l D cA ρ Λ A k p e R s m args below meth c cells slots QW Q → ∀ (nx : jx_Nx) (cl : jx_Cl) (lv : jx_Lv) (st : List Value) (σ : jx_St),
  (∀ p n f, jx_tb0 p = some (n, f) → tb p = some (n, f)) → (∀ pc' lv' st' σ', nx pc' lv' st' σ' → jx_I l D cA ρ Λ A k p e R s m args below meth c cells slots QW pc' lv' st' σ') → (∀ k' as σ K, cl k' as σ K → jx_C l D cA ρ Λ d k' as σ K) →
  sp Λ tb nx cl Q pc lv st σ → jx_I l D cA ρ Λ A k p e R s m args below meth c cells slots QW pc lv st σ
theorem jo_none (k pc : Nat) : jx_Snd k pc js_none := by
  intro l D cA ρ Λ A tb d Q p e R s m args below meth c cells slots QW X hret nx cl lv st σ htb hn hcl0 h
  exact False.elim h
theorem jo_le {k pc n : Nat} {a b : jx_Sp} (ha : jx_Snd k pc a) (hb : jx_Snd k pc b) : jx_Snd k pc (bif Nat.ble pc n then a else b) := by
  cases Nat.ble pc n
  · exact hb
  · exact ha
theorem jo_at {k pc n : Nat} {a : jx_Sp} (ha : jx_Snd k n a) : jx_Snd k pc (bif Nat.beq pc n then a else js_none) := by
  cases h : Nat.beq pc n with
  | false => exact jo_none k pc
  | true =>
    have e := Nat.eq_of_beq_eq_true h
    subst e
    exact ha
def jx_So (k : Nat) (tab : Nat → jx_Sp) : Prop := ∀ pc, jx_Snd k pc (tab pc)
def jx_mem : List Nat → Nat → Bool
  | [], _ => false
  | a :: t, x => bif Nat.beq a x then true else jx_mem t x
noncomputable def jx_rn (Λ : List jx_Lc) (tb : jx_Tb) (tab : Nat → jx_Sp) (cl : jx_Cl) (rt : Option Value → jx_St → Prop) (ex : jx_Nx) (stops : List Nat) (n : Nat) : jx_Nx :=
  Nat.rec (motive := fun _ => jx_Nx) ex (fun _ ih => fun pc lv st σ => bif jx_mem stops pc then ex pc lv st σ else tab pc Λ tb ih cl rt pc lv st σ) n
section JXR
variable {l : Launch} {D : va_G} {cA : ClassId} {ρ : Nat → Nat} {Λ : List jx_Lc} {A : Nat → Prop} {tb : jx_Tb} {d k : Nat} {Q : Option Value → jx_St → Prop}
theorem jx_sJ {pc : Nat} {sp : jx_Sp} (hs : jx_Snd k pc sp) (htb : ∀ p n f, jx_tb0 p = some (n, f) → tb p = some (n, f)) {nx : jx_Nx} {lv : jx_Lv} {st : List Value} {σ : jx_St} (hn : ∀ pc lv st σ, nx pc lv st σ → jx_J l D cA ρ Λ A tb (d + 1) k Q pc lv st σ)
    (h : sp Λ tb nx (fun k' as σ K => jx_C l D cA ρ Λ d k' as σ K) Q pc lv st σ) : jx_J l D cA ρ Λ A tb (d + 1) k Q pc lv st σ := by
  intro p e R s m args below meth c cells slots QW X hret
  exact hs l D cA ρ Λ A tb d Q p e R s m args below meth c cells slots QW X hret nx _ lv st σ htb (fun pc' lv' st' σ' q => hn pc' lv' st' σ' q p e R s m args below meth c cells slots QW X hret) (fun _ _ _ _ z => z) h
theorem jx_rnJ {tab : Nat → jx_Sp} (hs : jx_So k tab) (htb : ∀ p n f, jx_tb0 p = some (n, f) → tb p = some (n, f)) (stops : List Nat) (ex : jx_Nx) (hex : ∀ pc lv st σ, ex pc lv st σ → jx_J l D cA ρ Λ A tb (d + 1) k Q pc lv st σ) : ∀ (n pc : Nat) (lv : jx_Lv) (st : List Value) (σ : jx_St),
    jx_rn Λ tb tab (fun k' as σ K => jx_C l D cA ρ Λ d k' as σ K) Q ex stops n pc lv st σ → jx_J l D cA ρ Λ A tb (d + 1) k Q pc lv st σ
  | 0, pc, lv, st, σ, h => hex pc lv st σ h
  | n + 1, pc, lv, st, σ, h => by
    have h : (bif jx_mem stops pc then ex pc lv st σ else tab pc Λ tb (jx_rn Λ tb tab (fun k' as σ K => jx_C l D cA ρ Λ d k' as σ K) Q ex stops n) (fun k' as σ K => jx_C l D cA ρ Λ d k' as σ K) Q pc lv st σ) := h
    cases hm : jx_mem stops pc with
    | true =>
      rw [hm] at h
      exact hex pc lv st σ h
    | false =>
      rw [hm] at h
      exact jx_sJ (hs pc) htb (jx_rnJ hs htb stops ex hex n) h
/-- a stretch of at most n + 1 steps, up to one of the stops -/
theorem jx_go {tab : Nat → jx_Sp} (hs : jx_So k tab) (htb : ∀ p n f, jx_tb0 p = some (n, f) → tb p = some (n, f)) (n : Nat) (stops : List Nat) {pc : Nat} {lv : jx_Lv} {st : List Value} {σ : jx_St}
    (h : tab pc Λ tb (jx_rn Λ tb tab (fun k' as σ K => jx_C l D cA ρ Λ d k' as σ K) Q (jx_J l D cA ρ Λ A tb (d + 1) k Q) stops n) (fun k' as σ K => jx_C l D cA ρ Λ d k' as σ K) Q pc lv st σ) : jx_J l D cA ρ Λ A tb (d + 1) k Q pc lv st σ :=
  jx_sJ (hs pc) htb (jx_rnJ hs htb stops _ (fun _ _ _ _ h => h) n) h
theorem jx_in {tab : Nat → jx_Sp} (hs : jx_So k tab) (n : Nat) (stops : List Nat) {as : List Value} {σ : jx_St} (hp : plainName (jx_y k).cls = true) (hn : (lg_sl as).length ≤ jx_nL k)
    (h : tab 0 Λ jx_tb0 (jx_rn Λ jx_tb0 tab (fun k' as σ K => jx_C l D cA ρ Λ d k' as σ K) Q (jx_J l D cA ρ Λ (jx_A ρ Λ) jx_tb0 (d + 1) k Q) stops n) (fun k' as σ K => jx_C l D cA ρ Λ d k' as σ K) Q 0 (lv_args 0 as) [] σ) : jx_C l D cA ρ Λ (d + 1) k as σ Q :=
  jx_of hp hn (jx_go hs (fun _ _ _ h => h) n stops h)
end JXR
section RULES
variable {k pc : Nat}
def js_c (v : Int32) (n : Nat) : jx_Sp := fun _ _ nx _ _ pc lv st σ => nx (pc + n) lv (.int v :: st) σ
theorem jo_iconst {z : Int} {v : Int32} (hd : decode (jx_b k) pc = .ok (.iconst z, 1)) (hv : Int32.ofInt z = v) : jx_Snd k pc (js_c v 1) := by
  intro l D cA ρ Λ A tb d Q p e R s m args below meth c cells slots QW X hret nx cl lv st σ htb hn hcl0 h
  intro H locs ls hP hS hl
  exact lv_iconst X.1 X.2.1 hd hv (hn _ _ _ _ h H locs ls hP hS hl)
theorem jo_bipush {z : Int} {v : Int32} (hd : decode (jx_b k) pc = .ok (.bipush z, 2)) (hv : (Int8.ofInt z).toInt32 = v) : jx_Snd k pc (js_c v 2) := by
  intro l D cA ρ Λ A tb d Q p e R s m args below meth c cells slots QW X hret nx cl lv st σ htb hn hcl0 h
  intro H locs ls hP hS hl
  exact lv_bipush X.1 X.2.1 hd hv (hn _ _ _ _ h H locs ls hP hS hl)
theorem jo_sipush {z : Int} {v : Int32} (hd : decode (jx_b k) pc = .ok (.sipush z, 3)) (hv : (Int16.ofInt z).toInt32 = v) : jx_Snd k pc (js_c v 3) := by
  intro l D cA ρ Λ A tb d Q p e R s m args below meth c cells slots QW X hret nx cl lv st σ htb hn hcl0 h
  intro H locs ls hP hS hl
  exact lv_sipush X.1 X.2.1 hd hv (hn _ _ _ _ h H locs ls hP hS hl)
theorem jo_ldc {own : String} {ix : Nat} {v : Int32} (ho : (jx_y k).cls = own) (hc : Cond.constant own ix v ∈ jx_gw) (hd : decode (jx_b k) pc = .ok (.ldc ix, 2)) : jx_Snd k pc (js_c v 2) := by
  intro l D cA ρ Λ A tb d Q p e R s m args below meth c cells slots QW X hret nx cl lv st σ htb hn hcl0 h
  intro H locs ls hP hS hl
  subst ho
  exact lv_ldc X.1 X.2.1 X.2.2.2.1 (X.2.2.2.2.1 _ hc) hd (hn _ _ _ _ h H locs ls hP hS hl)
def js_cl (v : Int64) (n : Nat) : jx_Sp := fun _ _ nx _ _ pc lv st σ => nx (pc + n) lv (.long v :: st) σ
theorem jo_lconst {z : Fin 2} {v : Int64} (hd : decode (jx_b k) pc = .ok (.lconst z, 1)) (hv : Int64.ofNat (z : Nat) = v) : jx_Snd k pc (js_cl v 1) := by
  intro l D cA ρ Λ A tb d Q p e R s m args below meth c cells slots QW X hret nx cl lv st σ htb hn hcl0 h
  intro H locs ls hP hS hl
  exact lv_lconst X.1 X.2.1 hd hv (hn _ _ _ _ h H locs ls hP hS hl)
theorem jo_ldc2 {own : String} {ix : Nat} {v : Int64} (ho : (jx_y k).cls = own) (hc : Cond.constantLong own ix v ∈ jx_gw) (hd : decode (jx_b k) pc = .ok (.ldc2_w ix, 3)) : jx_Snd k pc (js_cl v 3) := by
  intro l D cA ρ Λ A tb d Q p e R s m args below meth c cells slots QW X hret nx cl lv st σ htb hn hcl0 h
  intro H locs ls hP hS hl
  subst ho
  exact lv_ldc2 X.1 X.2.1 X.2.2.2.1 (X.2.2.2.2.1 _ hc) hd (hn _ _ _ _ h H locs ls hP hS hl)
def js_il (i n : Nat) : jx_Sp := fun _ _ nx _ _ pc lv st σ => match jx_lk lv i with
  | some (.int x) => nx (pc + n) lv (.int x :: st) σ
  | _ => False
theorem jo_iload_n {i : Nat} {w : Fin 4} (hw : (w : Nat) = i) (hd : decode (jx_b k) pc = .ok (.iload_n w, 1)) : jx_Snd k pc (js_il i 1) := by
  intro l D cA ρ Λ A tb d Q p e R s m args below meth c cells slots QW X hret nx cl lv st σ htb hn hcl0 h
  unfold js_il at h
  split at h
  · rename_i x hx
    intro H locs ls hP hS hl
    exact lv_iload_n X.1 X.2.1 hd hw (jx_lka hl hx) (hn _ _ _ _ h H locs ls hP hS hl)
  · exact False.elim h
theorem jo_iload {i : Nat} (hd : decode (jx_b k) pc = .ok (.iload i, 2)) : jx_Snd k pc (js_il i 2) := by
  intro l D cA ρ Λ A tb d Q p e R s m args below meth c cells slots QW X hret nx cl lv st σ htb hn hcl0 h
  unfold js_il at h
  split at h
  · rename_i x hx
    intro H locs ls hP hS hl
    exact lv_iload X.1 X.2.1 hd (jx_lka hl hx) (hn _ _ _ _ h H locs ls hP hS hl)
  · exact False.elim h
def js_ll (i n : Nat) : jx_Sp := fun _ _ nx _ _ pc lv st σ => match jx_lk lv i with
  | some (.long x) => nx (pc + n) lv (.long x :: st) σ
  | _ => False
theorem jo_lload_n {i : Nat} {w : Fin 4} (hw : (w : Nat) = i) (hd : decode (jx_b k) pc = .ok (.lload_n w, 1)) : jx_Snd k pc (js_ll i 1) := by
  intro l D cA ρ Λ A tb d Q p e R s m args below meth c cells slots QW X hret nx cl lv st σ htb hn hcl0 h
  unfold js_ll at h
  split at h
  · rename_i x hx
    intro H locs ls hP hS hl
    exact lv_lload_n X.1 X.2.1 hd hw (jx_lka hl hx) (hn _ _ _ _ h H locs ls hP hS hl)
  · exact False.elim h
theorem jo_lload {i : Nat} (hd : decode (jx_b k) pc = .ok (.lload i, 2)) : jx_Snd k pc (js_ll i 2) := by
  intro l D cA ρ Λ A tb d Q p e R s m args below meth c cells slots QW X hret nx cl lv st σ htb hn hcl0 h
  unfold js_ll at h
  split at h
  · rename_i x hx
    intro H locs ls hP hS hl
    exact lv_lload X.1 X.2.1 hd (jx_lka hl hx) (hn _ _ _ _ h H locs ls hP hS hl)
  · exact False.elim h
def js_al (i n : Nat) : jx_Sp := fun _ _ nx _ _ pc lv st σ => match jx_lk lv i with
  | some (.ref x) => nx (pc + n) lv (.ref x :: st) σ
  | _ => False
theorem jo_aload_n {i : Nat} {w : Fin 4} (hw : (w : Nat) = i) (hd : decode (jx_b k) pc = .ok (.aload_n w, 1)) : jx_Snd k pc (js_al i 1) := by
  intro l D cA ρ Λ A tb d Q p e R s m args below meth c cells slots QW X hret nx cl lv st σ htb hn hcl0 h
  unfold js_al at h
  split at h
  · rename_i x hx
    intro H locs ls hP hS hl
    exact lv_aload_n X.1 X.2.1 hd hw (jx_lka hl hx) (hn _ _ _ _ h H locs ls hP hS hl)
  · exact False.elim h
theorem jo_aload {i : Nat} (hd : decode (jx_b k) pc = .ok (.aload i, 2)) : jx_Snd k pc (js_al i 2) := by
  intro l D cA ρ Λ A tb d Q p e R s m args below meth c cells slots QW X hret nx cl lv st σ htb hn hcl0 h
  unfold js_al at h
  split at h
  · rename_i x hx
    intro H locs ls hP hS hl
    exact lv_aload X.1 X.2.1 hd (jx_lka hl hx) (hn _ _ _ _ h H locs ls hP hS hl)
  · exact False.elim h
def js_is (i n : Nat) : jx_Sp := fun _ _ nx _ _ pc lv st σ => match st with
  | .int x :: rest => nx (pc + n) ((i, .int x) :: jx_f1 i lv) rest σ
  | _ => False
theorem jo_istore_n {i : Nat} {w : Fin 4} (hw : (w : Nat) = i) (hi : i < jx_nL k) (hd : decode (jx_b k) pc = .ok (.istore_n w, 1)) : jx_Snd k pc (js_is i 1) := by
  intro l D cA ρ Λ A tb d Q p e R s m args below meth c cells slots QW X hret nx cl lv st σ htb hn hcl0 h
  unfold js_is at h
  split at h
  · rename_i x rest
    intro H locs ls hP hS hl
    exact lv_istore_n (lv' := (((i, Value.int x) :: jx_f1 i lv).map (jx_q ρ))) X.1 X.2.1 hd hw hl hi (by rw [jx_f1m]; rfl) (fun ls' hl' => (hn _ _ _ _ h H locs ls' hP hS hl'))
  · exact False.elim h
theorem jo_istore {i : Nat} (hi : i < jx_nL k) (hd : decode (jx_b k) pc = .ok (.istore i, 2)) : jx_Snd k pc (js_is i 2) := by
  intro l D cA ρ Λ A tb d Q p e R s m args below meth c cells slots QW X hret nx cl lv st σ htb hn hcl0 h
  unfold js_is at h
  split at h
  · rename_i x rest
    intro H locs ls hP hS hl
    exact lv_istore (lv' := (((i, Value.int x) :: jx_f1 i lv).map (jx_q ρ))) X.1 X.2.1 hd hl hi (by rw [jx_f1m]; rfl) (fun ls' hl' => (hn _ _ _ _ h H locs ls' hP hS hl'))
  · exact False.elim h
def js_ls (i n : Nat) : jx_Sp := fun _ _ nx _ _ pc lv st σ => match st with
  | .long x :: rest => nx (pc + n) ((i, .long x) :: jx_f2 i lv) rest σ
  | _ => False
theorem jo_lstore_n {i : Nat} {w : Fin 4} (hw : (w : Nat) = i) (hi : i + 1 < jx_nL k) (hd : decode (jx_b k) pc = .ok (.lstore_n w, 1)) : jx_Snd k pc (js_ls i 1) := by
  intro l D cA ρ Λ A tb d Q p e R s m args below meth c cells slots QW X hret nx cl lv st σ htb hn hcl0 h
  unfold js_ls at h
  split at h
  · rename_i x rest
    intro H locs ls hP hS hl
    exact lv_lstore_n (lv' := (((i, Value.long x) :: jx_f2 i lv).map (jx_q ρ))) X.1 X.2.1 hd hw hl hi (by rw [jx_f2m]; rfl) (fun ls' hl' => (hn _ _ _ _ h H locs ls' hP hS hl'))
  · exact False.elim h
theorem jo_lstore {i : Nat} (hi : i + 1 < jx_nL k) (hd : decode (jx_b k) pc = .ok (.lstore i, 2)) : jx_Snd k pc (js_ls i 2) := by
  intro l D cA ρ Λ A tb d Q p e R s m args below meth c cells slots QW X hret nx cl lv st σ htb hn hcl0 h
  unfold js_ls at h
  split at h
  · rename_i x rest
    intro H locs ls hP hS hl
    exact lv_lstore (lv' := (((i, Value.long x) :: jx_f2 i lv).map (jx_q ρ))) X.1 X.2.1 hd hl hi (by rw [jx_f2m]; rfl) (fun ls' hl' => (hn _ _ _ _ h H locs ls' hP hS hl'))
  · exact False.elim h
def js_as (i n : Nat) : jx_Sp := fun _ _ nx _ _ pc lv st σ => match st with
  | .ref x :: rest => nx (pc + n) ((i, .ref x) :: jx_f1 i lv) rest σ
  | _ => False
theorem jo_astore_n {i : Nat} {w : Fin 4} (hw : (w : Nat) = i) (hi : i < jx_nL k) (hd : decode (jx_b k) pc = .ok (.astore_n w, 1)) : jx_Snd k pc (js_as i 1) := by
  intro l D cA ρ Λ A tb d Q p e R s m args below meth c cells slots QW X hret nx cl lv st σ htb hn hcl0 h
  unfold js_as at h
  split at h
  · rename_i x rest
    intro H locs ls hP hS hl
    exact lv_astore_n (lv' := (((i, Value.ref x) :: jx_f1 i lv).map (jx_q ρ))) X.1 X.2.1 hd hw hl hi (by rw [jx_f1m]; rfl) (fun ls' hl' => (hn _ _ _ _ h H locs ls' hP hS hl'))
  · exact False.elim h
theorem jo_astore {i : Nat} (hi : i < jx_nL k) (hd : decode (jx_b k) pc = .ok (.astore i, 2)) : jx_Snd k pc (js_as i 2) := by
  intro l D cA ρ Λ A tb d Q p e R s m args below meth c cells slots QW X hret nx cl lv st σ htb hn hcl0 h
  unfold js_as at h
  split at h
  · rename_i x rest
    intro H locs ls hP hS hl
    exact lv_astore (lv' := (((i, Value.ref x) :: jx_f1 i lv).map (jx_q ρ))) X.1 X.2.1 hd hl hi (by rw [jx_f1m]; rfl) (fun ls' hl' => (hn _ _ _ _ h H locs ls' hP hS hl'))
  · exact False.elim h
def js_inc (i : Nat) (z : Int32) : jx_Sp := fun _ _ nx _ _ pc lv st σ => match jx_lk lv i with
  | some (.int x) => nx (pc + 3) ((i, .int (x + z)) :: jx_f1 i lv) st σ
  | _ => False
theorem jo_iinc {i : Nat} {w : Int} {z : Int32} (hz : Int32.ofInt w = z) (hi : i < jx_nL k) (hd : decode (jx_b k) pc = .ok (.iinc i w, 3)) : jx_Snd k pc (js_inc i z) := by
  intro l D cA ρ Λ A tb d Q p e R s m args below meth c cells slots QW X hret nx cl lv st σ htb hn hcl0 h
  unfold js_inc at h
  split at h
  · rename_i x hx
    intro H locs ls hP hS hl
    obtain ⟨j, hj⟩ := jx_lkk (ρ := ρ) hx
    exact lv_iinc (lv' := (((i, Value.int (x + z)) :: jx_f1 i lv).map (jx_q ρ))) X.1 X.2.1 hd hl hj (by rw [hz]) hi (by rw [jx_f1m]; rfl) (fun ls' hl' => (hn _ _ _ _ h H locs ls' hP hS hl'))
  · exact False.elim h
def js_iadd : jx_Sp := fun _ _ nx _ _ pc lv st σ => match st with
  | .int y :: .int x :: rest => nx (pc + 1) lv (.int (x + y) :: rest) σ
  | _ => False
theorem jo_iadd (hd : decode (jx_b k) pc = .ok (.iadd, 1)) : jx_Snd k pc js_iadd := by
  intro l D cA ρ Λ A tb d Q p e R s m args below meth c cells slots QW X hret nx cl lv st σ htb hn hcl0 h
  unfold js_iadd at h
  split at h
  · intro H locs ls hP hS hl
    exact lv_iadd X.1 X.2.1 hd (hn _ _ _ _ h H locs ls hP hS hl)
  · exact False.elim h
def js_isub : jx_Sp := fun _ _ nx _ _ pc lv st σ => match st with
  | .int y :: .int x :: rest => nx (pc + 1) lv (.int (x - y) :: rest) σ
  | _ => False
theorem jo_isub (hd : decode (jx_b k) pc = .ok (.isub, 1)) : jx_Snd k pc js_isub := by
  intro l D cA ρ Λ A tb d Q p e R s m args below meth c cells slots QW X hret nx cl lv st σ htb hn hcl0 h
  unfold js_isub at h
  split at h
  · intro H locs ls hP hS hl
    exact lv_isub X.1 X.2.1 hd (hn _ _ _ _ h H locs ls hP hS hl)
  · exact False.elim h
def js_imul : jx_Sp := fun _ _ nx _ _ pc lv st σ => match st with
  | .int y :: .int x :: rest => nx (pc + 1) lv (.int (x * y) :: rest) σ
  | _ => False
theorem jo_imul (hd : decode (jx_b k) pc = .ok (.imul, 1)) : jx_Snd k pc js_imul := by
  intro l D cA ρ Λ A tb d Q p e R s m args below meth c cells slots QW X hret nx cl lv st σ htb hn hcl0 h
  unfold js_imul at h
  split at h
  · intro H locs ls hP hS hl
    exact lv_imul X.1 X.2.1 hd (hn _ _ _ _ h H locs ls hP hS hl)
  · exact False.elim h
def js_iand : jx_Sp := fun _ _ nx _ _ pc lv st σ => match st with
  | .int y :: .int x :: rest => nx (pc + 1) lv (.int (x &&& y) :: rest) σ
  | _ => False
theorem jo_iand (hd : decode (jx_b k) pc = .ok (.iand, 1)) : jx_Snd k pc js_iand := by
  intro l D cA ρ Λ A tb d Q p e R s m args below meth c cells slots QW X hret nx cl lv st σ htb hn hcl0 h
  unfold js_iand at h
  split at h
  · intro H locs ls hP hS hl
    exact lv_iand X.1 X.2.1 hd (hn _ _ _ _ h H locs ls hP hS hl)
  · exact False.elim h
def js_idiv : jx_Sp := fun _ _ nx _ _ pc lv st σ => match st with
  | .int y :: .int x :: rest => ¬ y = 0 ∧ nx (pc + 1) lv (.int (x / y) :: rest) σ
  | _ => False
theorem jo_idiv (hd : decode (jx_b k) pc = .ok (.idiv, 1)) : jx_Snd k pc js_idiv := by
  intro l D cA ρ Λ A tb d Q p e R s m args below meth c cells slots QW X hret nx cl lv st σ htb hn hcl0 h
  unfold js_idiv at h
  split at h
  · intro H locs ls hP hS hl
    exact lv_idiv X.1 X.2.1 hd h.1 (hn _ _ _ _ h.2 H locs ls hP hS hl)
  · exact False.elim h
def js_irem : jx_Sp := fun _ _ nx _ _ pc lv st σ => match st with
  | .int y :: .int x :: rest => ¬ y = 0 ∧ nx (pc + 1) lv (.int (x - x / y * y) :: rest) σ
  | _ => False
theorem jo_irem (hd : decode (jx_b k) pc = .ok (.irem, 1)) : jx_Snd k pc js_irem := by
  intro l D cA ρ Λ A tb d Q p e R s m args below meth c cells slots QW X hret nx cl lv st σ htb hn hcl0 h
  unfold js_irem at h
  split at h
  · intro H locs ls hP hS hl
    exact lv_irem X.1 X.2.1 hd h.1 (hn _ _ _ _ h.2 H locs ls hP hS hl)
  · exact False.elim h
def js_ishr : jx_Sp := fun _ _ nx _ _ pc lv st σ => match st with
  | .int y :: .int x :: rest => nx (pc + 1) lv (.int (x >>> (y &&& 31)) :: rest) σ
  | _ => False
theorem jo_ishr (hd : decode (jx_b k) pc = .ok (.ishr, 1)) : jx_Snd k pc js_ishr := by
  intro l D cA ρ Λ A tb d Q p e R s m args below meth c cells slots QW X hret nx cl lv st σ htb hn hcl0 h
  unfold js_ishr at h
  split at h
  · intro H locs ls hP hS hl
    exact lv_ishr X.1 X.2.1 hd (hn _ _ _ _ h H locs ls hP hS hl)
  · exact False.elim h
def js_ladd : jx_Sp := fun _ _ nx _ _ pc lv st σ => match st with
  | .long y :: .long x :: rest => nx (pc + 1) lv (.long (x + y) :: rest) σ
  | _ => False
theorem jo_ladd (hd : decode (jx_b k) pc = .ok (.ladd, 1)) : jx_Snd k pc js_ladd := by
  intro l D cA ρ Λ A tb d Q p e R s m args below meth c cells slots QW X hret nx cl lv st σ htb hn hcl0 h
  unfold js_ladd at h
  split at h
  · intro H locs ls hP hS hl
    exact lv_ladd X.1 X.2.1 hd (hn _ _ _ _ h H locs ls hP hS hl)
  · exact False.elim h
def js_lmul : jx_Sp := fun _ _ nx _ _ pc lv st σ => match st with
  | .long y :: .long x :: rest => nx (pc + 1) lv (.long (x * y) :: rest) σ
  | _ => False
theorem jo_lmul (hd : decode (jx_b k) pc = .ok (.lmul, 1)) : jx_Snd k pc js_lmul := by
  intro l D cA ρ Λ A tb d Q p e R s m args below meth c cells slots QW X hret nx cl lv st σ htb hn hcl0 h
  unfold js_lmul at h
  split at h
  · intro H locs ls hP hS hl
    exact lv_lmul X.1 X.2.1 hd (hn _ _ _ _ h H locs ls hP hS hl)
  · exact False.elim h
def js_land : jx_Sp := fun _ _ nx _ _ pc lv st σ => match st with
  | .long y :: .long x :: rest => nx (pc + 1) lv (.long (x &&& y) :: rest) σ
  | _ => False
theorem jo_land (hd : decode (jx_b k) pc = .ok (.land, 1)) : jx_Snd k pc js_land := by
  intro l D cA ρ Λ A tb d Q p e R s m args below meth c cells slots QW X hret nx cl lv st σ htb hn hcl0 h
  unfold js_land at h
  split at h
  · intro H locs ls hP hS hl
    exact lv_land X.1 X.2.1 hd (hn _ _ _ _ h H locs ls hP hS hl)
  · exact False.elim h
def js_lor : jx_Sp := fun _ _ nx _ _ pc lv st σ => match st with
  | .long y :: .long x :: rest => nx (pc + 1) lv (.long (x ||| y) :: rest) σ
  | _ => False
theorem jo_lor (hd : decode (jx_b k) pc = .ok (.lor, 1)) : jx_Snd k pc js_lor := by
  intro l D cA ρ Λ A tb d Q p e R s m args below meth c cells slots QW X hret nx cl lv st σ htb hn hcl0 h
  unfold js_lor at h
  split at h
  · intro H locs ls hP hS hl
    exact lv_lor X.1 X.2.1 hd (hn _ _ _ _ h H locs ls hP hS hl)
  · exact False.elim h
def js_lshl : jx_Sp := fun _ _ nx _ _ pc lv st σ => match st with
  | .int y :: .long x :: rest => nx (pc + 1) lv (.long (x <<< (y.toInt64 &&& 63)) :: rest) σ
  | _ => False
theorem jo_lshl (hd : decode (jx_b k) pc = .ok (.lshl, 1)) : jx_Snd k pc js_lshl := by
  intro l D cA ρ Λ A tb d Q p e R s m args below meth c cells slots QW X hret nx cl lv st σ htb hn hcl0 h
  unfold js_lshl at h
  split at h
  · intro H locs ls hP hS hl
    exact lv_lshl X.1 X.2.1 hd rfl (hn _ _ _ _ h H locs ls hP hS hl)
  · exact False.elim h
def js_lshr : jx_Sp := fun _ _ nx _ _ pc lv st σ => match st with
  | .int y :: .long x :: rest => nx (pc + 1) lv (.long (x >>> (y.toInt64 &&& 63)) :: rest) σ
  | _ => False
theorem jo_lshr (hd : decode (jx_b k) pc = .ok (.lshr, 1)) : jx_Snd k pc js_lshr := by
  intro l D cA ρ Λ A tb d Q p e R s m args below meth c cells slots QW X hret nx cl lv st σ htb hn hcl0 h
  unfold js_lshr at h
  split at h
  · intro H locs ls hP hS hl
    exact lv_lshr X.1 X.2.1 hd rfl (hn _ _ _ _ h H locs ls hP hS hl)
  · exact False.elim h
def js_i2l : jx_Sp := fun _ _ nx _ _ pc lv st σ => match st with
  | .int x :: rest => nx (pc + 1) lv (.long (x.toInt64) :: rest) σ
  | _ => False
theorem jo_i2l (hd : decode (jx_b k) pc = .ok (.i2l, 1)) : jx_Snd k pc js_i2l := by
  intro l D cA ρ Λ A tb d Q p e R s m args below meth c cells slots QW X hret nx cl lv st σ htb hn hcl0 h
  unfold js_i2l at h
  split at h
  · intro H locs ls hP hS hl
    exact lv_i2l X.1 X.2.1 hd rfl (hn _ _ _ _ h H locs ls hP hS hl)
  · exact False.elim h
def js_l2i : jx_Sp := fun _ _ nx _ _ pc lv st σ => match st with
  | .long x :: rest => nx (pc + 1) lv (.int (x.toInt32) :: rest) σ
  | _ => False
theorem jo_l2i (hd : decode (jx_b k) pc = .ok (.l2i, 1)) : jx_Snd k pc js_l2i := by
  intro l D cA ρ Λ A tb d Q p e R s m args below meth c cells slots QW X hret nx cl lv st σ htb hn hcl0 h
  unfold js_l2i at h
  split at h
  · intro H locs ls hP hS hl
    exact lv_l2i X.1 X.2.1 hd rfl (hn _ _ _ _ h H locs ls hP hS hl)
  · exact False.elim h
def js_lcmp : jx_Sp := fun _ _ nx _ _ pc lv st σ => match st with
  | .long y :: .long x :: rest => nx (pc + 1) lv (.int (lg_cmp x y) :: rest) σ
  | _ => False
theorem jo_lcmp (hd : decode (jx_b k) pc = .ok (.lcmp, 1)) : jx_Snd k pc js_lcmp := by
  intro l D cA ρ Λ A tb d Q p e R s m args below meth c cells slots QW X hret nx cl lv st σ htb hn hcl0 h
  unfold js_lcmp at h
  split at h
  · intro H locs ls hP hS hl
    exact W.lcmp X.1 X.2.1 hd (hn _ _ _ _ h H locs ls hP hS hl)
  · exact False.elim h
def js_dup : jx_Sp := fun _ _ nx _ _ pc lv st σ => match st with
  | .int x :: rest => nx (pc + 1) lv (.int x :: .int x :: rest) σ
  | .ref x :: rest => nx (pc + 1) lv (.ref x :: .ref x :: rest) σ
  | _ => False
theorem jo_dup (hd : decode (jx_b k) pc = .ok (.dup, 1)) : jx_Snd k pc js_dup := by
  intro l D cA ρ Λ A tb d Q p e R s m args below meth c cells slots QW X hret nx cl lv st σ htb hn hcl0 h
  unfold js_dup at h
  split at h
  · intro H locs ls hP hS hl
    exact lv_dup X.1 X.2.1 hd rfl (hn _ _ _ _ h H locs ls hP hS hl)
  · intro H locs ls hP hS hl
    exact lv_dup X.1 X.2.1 hd rfl (hn _ _ _ _ h H locs ls hP hS hl)
  · exact False.elim h
def js_pop : jx_Sp := fun _ _ nx _ _ pc lv st σ => match st with
  | .int _ :: rest => nx (pc + 1) lv rest σ
  | _ => False
theorem jo_pop (hd : decode (jx_b k) pc = .ok (.pop, 1)) : jx_Snd k pc js_pop := by
  intro l D cA ρ Λ A tb d Q p e R s m args below meth c cells slots QW X hret nx cl lv st σ htb hn hcl0 h
  unfold js_pop at h
  split at h
  · intro H locs ls hP hS hl
    exact lv_pop X.1 X.2.1 hd rfl (hn _ _ _ _ h H locs ls hP hS hl)
  · exact False.elim h
def js_ifeq (t : Nat) : jx_Sp := fun _ _ nx _ _ pc lv st σ => match st with
  | .int x :: rest => (x = 0 → nx t lv rest σ) ∧ (¬ x = 0 → nx (pc + 3) lv rest σ)
  | _ => False
theorem jo_ifeq {t : Nat} {o : Int} (ht : (pc : Int) + o = (t : Int)) (hd : decode (jx_b k) pc = .ok (.ifCond .eq o, 3)) : jx_Snd k pc (js_ifeq t) := by
  intro l D cA ρ Λ A tb d Q p e R s m args below meth c cells slots QW X hret nx cl lv st σ htb hn hcl0 h
  unfold js_ifeq at h
  split at h
  · intro H locs ls hP hS hl
    exact lv_if_eq X.1 X.2.1 hd ht (fun q => (hn _ _ _ _ (h.1 q) H locs ls hP hS hl)) (fun q => (hn _ _ _ _ (h.2 q) H locs ls hP hS hl))
  · exact False.elim h
def js_ceq (t : Nat) : jx_Sp := fun _ _ nx _ _ pc lv st σ => match st with
  | .int y :: .int x :: rest => (x = y → nx t lv rest σ) ∧ (¬ x = y → nx (pc + 3) lv rest σ)
  | _ => False
theorem jo_ceq {t : Nat} {o : Int} (ht : (pc : Int) + o = (t : Int)) (hd : decode (jx_b k) pc = .ok (.if_icmp .eq o, 3)) : jx_Snd k pc (js_ceq t) := by
  intro l D cA ρ Λ A tb d Q p e R s m args below meth c cells slots QW X hret nx cl lv st σ htb hn hcl0 h
  unfold js_ceq at h
  split at h
  · intro H locs ls hP hS hl
    exact lv_icmp_eq X.1 X.2.1 hd ht (fun q => (hn _ _ _ _ (h.1 q) H locs ls hP hS hl)) (fun q => (hn _ _ _ _ (h.2 q) H locs ls hP hS hl))
  · exact False.elim h
def js_ifne (t : Nat) : jx_Sp := fun _ _ nx _ _ pc lv st σ => match st with
  | .int x :: rest => (¬ x = 0 → nx t lv rest σ) ∧ (x = 0 → nx (pc + 3) lv rest σ)
  | _ => False
theorem jo_ifne {t : Nat} {o : Int} (ht : (pc : Int) + o = (t : Int)) (hd : decode (jx_b k) pc = .ok (.ifCond .ne o, 3)) : jx_Snd k pc (js_ifne t) := by
  intro l D cA ρ Λ A tb d Q p e R s m args below meth c cells slots QW X hret nx cl lv st σ htb hn hcl0 h
  unfold js_ifne at h
  split at h
  · intro H locs ls hP hS hl
    exact lv_if_ne X.1 X.2.1 hd ht (fun q => (hn _ _ _ _ (h.1 q) H locs ls hP hS hl)) (fun q => (hn _ _ _ _ (h.2 q) H locs ls hP hS hl))
  · exact False.elim h
def js_cne (t : Nat) : jx_Sp := fun _ _ nx _ _ pc lv st σ => match st with
  | .int y :: .int x :: rest => (¬ x = y → nx t lv rest σ) ∧ (x = y → nx (pc + 3) lv rest σ)
  | _ => False
theorem jo_cne {t : Nat} {o : Int} (ht : (pc : Int) + o = (t : Int)) (hd : decode (jx_b k) pc = .ok (.if_icmp .ne o, 3)) : jx_Snd k pc (js_cne t) := by
  intro l D cA ρ Λ A tb d Q p e R s m args below meth c cells slots QW X hret nx cl lv st σ htb hn hcl0 h
  unfold js_cne at h
  split at h
  · intro H locs ls hP hS hl
    exact lv_icmp_ne X.1 X.2.1 hd ht (fun q => (hn _ _ _ _ (h.1 q) H locs ls hP hS hl)) (fun q => (hn _ _ _ _ (h.2 q) H locs ls hP hS hl))
  · exact False.elim h
def js_iflt (t : Nat) : jx_Sp := fun _ _ nx _ _ pc lv st σ => match st with
  | .int x :: rest => (x < 0 → nx t lv rest σ) ∧ (¬ x < 0 → nx (pc + 3) lv rest σ)
  | _ => False
theorem jo_iflt {t : Nat} {o : Int} (ht : (pc : Int) + o = (t : Int)) (hd : decode (jx_b k) pc = .ok (.ifCond .lt o, 3)) : jx_Snd k pc (js_iflt t) := by
  intro l D cA ρ Λ A tb d Q p e R s m args below meth c cells slots QW X hret nx cl lv st σ htb hn hcl0 h
  unfold js_iflt at h
  split at h
  · intro H locs ls hP hS hl
    exact lv_if_lt X.1 X.2.1 hd ht (fun q => (hn _ _ _ _ (h.1 q) H locs ls hP hS hl)) (fun q => (hn _ _ _ _ (h.2 q) H locs ls hP hS hl))
  · exact False.elim h
def js_clt (t : Nat) : jx_Sp := fun _ _ nx _ _ pc lv st σ => match st with
  | .int y :: .int x :: rest => (x < y → nx t lv rest σ) ∧ (¬ x < y → nx (pc + 3) lv rest σ)
  | _ => False
theorem jo_clt {t : Nat} {o : Int} (ht : (pc : Int) + o = (t : Int)) (hd : decode (jx_b k) pc = .ok (.if_icmp .lt o, 3)) : jx_Snd k pc (js_clt t) := by
  intro l D cA ρ Λ A tb d Q p e R s m args below meth c cells slots QW X hret nx cl lv st σ htb hn hcl0 h
  unfold js_clt at h
  split at h
  · intro H locs ls hP hS hl
    exact lv_icmp_lt X.1 X.2.1 hd ht (fun q => (hn _ _ _ _ (h.1 q) H locs ls hP hS hl)) (fun q => (hn _ _ _ _ (h.2 q) H locs ls hP hS hl))
  · exact False.elim h
def js_ifge (t : Nat) : jx_Sp := fun _ _ nx _ _ pc lv st σ => match st with
  | .int x :: rest => (0 ≤ x → nx t lv rest σ) ∧ (¬ 0 ≤ x → nx (pc + 3) lv rest σ)
  | _ => False
theorem jo_ifge {t : Nat} {o : Int} (ht : (pc : Int) + o = (t : Int)) (hd : decode (jx_b k) pc = .ok (.ifCond .ge o, 3)) : jx_Snd k pc (js_ifge t) := by
  intro l D cA ρ Λ A tb d Q p e R s m args below meth c cells slots QW X hret nx cl lv st σ htb hn hcl0 h
  unfold js_ifge at h
  split at h
  · intro H locs ls hP hS hl
    exact lv_if_ge X.1 X.2.1 hd ht (fun q => (hn _ _ _ _ (h.1 q) H locs ls hP hS hl)) (fun q => (hn _ _ _ _ (h.2 q) H locs ls hP hS hl))
  · exact False.elim h
def js_cge (t : Nat) : jx_Sp := fun _ _ nx _ _ pc lv st σ => match st with
  | .int y :: .int x :: rest => (y ≤ x → nx t lv rest σ) ∧ (¬ y ≤ x → nx (pc + 3) lv rest σ)
  | _ => False
theorem jo_cge {t : Nat} {o : Int} (ht : (pc : Int) + o = (t : Int)) (hd : decode (jx_b k) pc = .ok (.if_icmp .ge o, 3)) : jx_Snd k pc (js_cge t) := by
  intro l D cA ρ Λ A tb d Q p e R s m args below meth c cells slots QW X hret nx cl lv st σ htb hn hcl0 h
  unfold js_cge at h
  split at h
  · intro H locs ls hP hS hl
    exact lv_icmp_ge X.1 X.2.1 hd ht (fun q => (hn _ _ _ _ (h.1 q) H locs ls hP hS hl)) (fun q => (hn _ _ _ _ (h.2 q) H locs ls hP hS hl))
  · exact False.elim h
def js_ifgt (t : Nat) : jx_Sp := fun _ _ nx _ _ pc lv st σ => match st with
  | .int x :: rest => (0 < x → nx t lv rest σ) ∧ (¬ 0 < x → nx (pc + 3) lv rest σ)
  | _ => False
theorem jo_ifgt {t : Nat} {o : Int} (ht : (pc : Int) + o = (t : Int)) (hd : decode (jx_b k) pc = .ok (.ifCond .gt o, 3)) : jx_Snd k pc (js_ifgt t) := by
  intro l D cA ρ Λ A tb d Q p e R s m args below meth c cells slots QW X hret nx cl lv st σ htb hn hcl0 h
  unfold js_ifgt at h
  split at h
  · intro H locs ls hP hS hl
    exact lv_if_gt X.1 X.2.1 hd ht (fun q => (hn _ _ _ _ (h.1 q) H locs ls hP hS hl)) (fun q => (hn _ _ _ _ (h.2 q) H locs ls hP hS hl))
  · exact False.elim h
def js_cgt (t : Nat) : jx_Sp := fun _ _ nx _ _ pc lv st σ => match st with
  | .int y :: .int x :: rest => (y < x → nx t lv rest σ) ∧ (¬ y < x → nx (pc + 3) lv rest σ)
  | _ => False
theorem jo_cgt {t : Nat} {o : Int} (ht : (pc : Int) + o = (t : Int)) (hd : decode (jx_b k) pc = .ok (.if_icmp .gt o, 3)) : jx_Snd k pc (js_cgt t) := by
  intro l D cA ρ Λ A tb d Q p e R s m args below meth c cells slots QW X hret nx cl lv st σ htb hn hcl0 h
  unfold js_cgt at h
  split at h
  · intro H locs ls hP hS hl
    exact lv_icmp_gt X.1 X.2.1 hd ht (fun q => (hn _ _ _ _ (h.1 q) H locs ls hP hS hl)) (fun q => (hn _ _ _ _ (h.2 q) H locs ls hP hS hl))
  · exact False.elim h
def js_ifle (t : Nat) : jx_Sp := fun _ _ nx _ _ pc lv st σ => match st with
  | .int x :: rest => (x ≤ 0 → nx t lv rest σ) ∧ (¬ x ≤ 0 → nx (pc + 3) lv rest σ)
  | _ => False
theorem jo_ifle {t : Nat} {o : Int} (ht : (pc : Int) + o = (t : Int)) (hd : decode (jx_b k) pc = .ok (.ifCond .le o, 3)) : jx_Snd k pc (js_ifle t) := by
  intro l D cA ρ Λ A tb d Q p e R s m args below meth c cells slots QW X hret nx cl lv st σ htb hn hcl0 h
  unfold js_ifle at h
  split at h
  · intro H locs ls hP hS hl
    exact lv_if_le X.1 X.2.1 hd ht (fun q => (hn _ _ _ _ (h.1 q) H locs ls hP hS hl)) (fun q => (hn _ _ _ _ (h.2 q) H locs ls hP hS hl))
  · exact False.elim h
def js_cle (t : Nat) : jx_Sp := fun _ _ nx _ _ pc lv st σ => match st with
  | .int y :: .int x :: rest => (x ≤ y → nx t lv rest σ) ∧ (¬ x ≤ y → nx (pc + 3) lv rest σ)
  | _ => False
theorem jo_cle {t : Nat} {o : Int} (ht : (pc : Int) + o = (t : Int)) (hd : decode (jx_b k) pc = .ok (.if_icmp .le o, 3)) : jx_Snd k pc (js_cle t) := by
  intro l D cA ρ Λ A tb d Q p e R s m args below meth c cells slots QW X hret nx cl lv st σ htb hn hcl0 h
  unfold js_cle at h
  split at h
  · intro H locs ls hP hS hl
    exact lv_icmp_le X.1 X.2.1 hd ht (fun q => (hn _ _ _ _ (h.1 q) H locs ls hP hS hl)) (fun q => (hn _ _ _ _ (h.2 q) H locs ls hP hS hl))
  · exact False.elim h
def js_go (t : Nat) : jx_Sp := fun _ _ nx _ _ _ lv st σ => nx t lv st σ
theorem jo_goto {t : Nat} {o : Int} (ht : (pc : Int) + o = (t : Int)) (hd : decode (jx_b k) pc = .ok (.goto o, 3)) : jx_Snd k pc (js_go t) := by
  intro l D cA ρ Λ A tb d Q p e R s m args below meth c cells slots QW X hret nx cl lv st σ htb hn hcl0 h
  intro H locs ls hP hS hl
  exact lv_goto X.1 X.2.1 hd ht (hn _ _ _ _ h H locs ls hP hS hl)
def jx_sw (cs : List (Int32 × Nat)) (dt : Nat) (g : Nat → Prop) (x : Int32) : Prop := match cs with
  | [] => g dt
  | (v, t) :: r => (x = v → g t) ∧ (¬ x = v → jx_sw r dt g x)
def js_sw (cs : List (Int32 × Nat)) (dt : Nat) : jx_Sp := fun _ _ nx _ _ _ lv st σ => match st with
  | .int x :: rest => jx_sw cs dt (fun t => nx t lv rest σ) x
  | _ => False
theorem jx_sw_in {dt : Nat} {g : Nat → Prop} {x : Int32} : ∀ {cs : List (Int32 × Nat)}, jx_sw cs dt g x → (∃ (j : Nat) (t : Nat), cs[j]? = some (x, t) ∧ g t) ∨ ((∀ (j : Nat) (v : Int32) (t : Nat), cs[j]? = some (v, t) → ¬ x = v) ∧ g dt)
  | [], h => Or.inr ⟨fun j v t hj => by simp at hj, h⟩
  | (v, t) :: r, h => by
    by_cases hx : x = v
    · subst hx
      exact Or.inl ⟨0, t, rfl, h.1 rfl⟩
    · rcases jx_sw_in (h.2 hx) with ⟨j, t', hj, hg⟩ | ⟨hj, hg⟩
      · exact Or.inl ⟨j + 1, t', hj, hg⟩
      · refine Or.inr ⟨fun j v' t' hj' => ?_, hg⟩
        cases j with
        | zero => cases hj'; exact hx
        | succ j => exact hj j v' t' hj'
/-- a tableswitch from lo on: the cases are lo, lo + 1 .. with the targets -/
theorem jo_table {cs : List (Int32 × Nat)} {dt len : Nat} {dflt lo hi : Int} {offs : Array Int} (hdt : (pc : Int) + dflt = (dt : Int)) (hlen : lo + cs.length = hi + 1)
    (hc : ∀ j, j < cs.length → ∃ (v : Int32) (t : Nat) (o : Int), cs[j]? = some (v, t) ∧ offs[j]? = some o ∧ (pc : Int) + o = (t : Int) ∧ v.toInt = lo + j) (hd : decode (jx_b k) pc = .ok (.tableswitch dflt lo hi offs, len)) : jx_Snd k pc (js_sw cs dt) := by
  intro l D cA ρ Λ A tb d Q p e R s m args below meth c cells slots QW X hret nx cl lv st σ htb hn hcl0 h
  unfold js_sw at h
  split at h
  · rename_i x rest
    intro H locs ls hP hS hl
    rcases jx_sw_in h with ⟨j, t, hj, hg⟩ | ⟨hj, hg⟩
    · obtain ⟨v, t', o, e1, e2, e3, e4⟩ := hc j (List.getElem?_eq_some_iff.mp hj).1
      cases e1.symm.trans hj
      have hjl := (List.getElem?_eq_some_iff.mp hj).1
      exact lv_tableIn X.1 X.2.1 hd (by omega) (by omega) (by rw [show (x.toInt - lo).toNat = j by omega]; exact e2) e3 (hn _ _ _ _ hg H locs ls hP hS hl)
    · refine lv_tableOut X.1 X.2.1 hd ?_ hdt (hn _ _ _ _ hg H locs ls hP hS hl)
      by_cases h1 : x.toInt < lo
      · exact Or.inl h1
      · refine Or.inr ?_
        apply Int.not_le.mp
        intro h2
        obtain ⟨v, t', o, e1, e2, e3, e4⟩ := hc (x.toInt - lo).toNat (by omega)
        exact hj _ _ _ e1 (Int32.toInt_inj.mp (by omega))
  · exact False.elim h
def js_getf (ci f : Nat) : jx_Sp := fun Λ _ nx _ _ pc lv st σ => match st with
  | .ref p :: rest => match Λ[p]? with
    | some (.inl o) => bif Nat.beq o.1 ci then (match o.2[f]? with
      | some (some (some q)) => nx (pc + 3) lv (.ref q :: rest) σ
      | some none => nx (pc + 3) lv (.int (σ p f) :: rest) σ
      | _ => False) else False
    | _ => False
  | _ => False
/-- a field of a class for its readers and writers: table, words, link (plain or nest) -/
def jx_fo (own : String) (ix ci f : Nat) (ty : FieldType) : Prop := ∃ (C : String) (T : u_T) (N : Nat) (tt : Nat → FieldType), jx_cl[ci]? = some (C, T, N) ∧ f < N ∧ (∀ w ∈ u_ws C T N, w ∈ jx_gw) ∧ (∀ a, a < N → parseFieldDescriptor (T a).2.2.1 = some (tt a)) ∧ (∀ a, a < N → ∀ b, b < N → a ≠ b → (T a).2.1 ≠ (T b).2.1) ∧ tt f = ty ∧
  (Cond.fieldLink own ix (T f).1 (T f).2.1 (T f).2.2.1 ∈ jx_gw ∨ ∃ host, Cond.fieldLinkNest own ix (T f).1 (T f).2.1 (T f).2.2.1 host ∈ jx_nw)
theorem jo_getf {own : String} {ix ci f : Nat} {ty : FieldType} (ho : (jx_y k).cls = own) (hf : jx_fo own ix ci f ty) (hd : decode (jx_b k) pc = .ok (.getfield ix, 3)) : jx_Snd k pc (js_getf ci f) := by
  intro l D cA ρ Λ A tb d Q p e R s m args below meth c cells slots QW X hret nx cl lv st σ htb hn hcl0 h
  subst ho
  obtain ⟨C, T, N, tt, hcl, hfN, hws, -, -, -, hlk⟩ := hf
  unfold js_getf at h
  split at h
  · rename_i q rest
    cases hL : Λ[q]? with
    | none => rw [hL] at h; exact False.elim h
    | some o =>
      rw [hL] at h
      cases o with
      | inr n => exact False.elim h
      | inl o =>
        obtain ⟨ci', fs⟩ := o
        dsimp only at h
        by_cases hci : ci' = ci
        · subst hci
          rw [show Nat.beq ci' ci' = true by simp] at h
          intro H locs ls hP hS hl
          have hts := X.2.2.2.2.1
          have hW := jx_Wat (ρ := ρ) (cA := cA) (σ := σ) hL
          cases hfs : fs[f]? with
          | none => rw [hfs] at h; exact False.elim h
          | some o =>
            rw [hfs] at h
            have hv : (fs.mapIdx (jx_fd ρ σ q))[f]? = some (jx_fd ρ σ q f o) := by rw [List.getElem?_mapIdx, hfs]; rfl
            cases o with
            | none =>
              rcases hlk with hlk | ⟨host, hlk⟩
              · exact va_get X.1 X.2.1 hts hws X.2.2.2.1 X.2.2.2.2.2.2.1.1 hP q hW hcl f hfN (hts _ hlk) (fun _ z => z) hv hd (hn _ _ _ _ h H locs ls hP hS hl)
              · exact va_getN X.1 X.2.1 hts hws X.2.2.2.1 X.2.2.2.2.2.2.1.1 hP q hW hcl f hfN (va_Nw.use rfl (X.2.2.2.2.2.2.1.2.2.2 _ hlk)) (fun _ z => z) hv hd (hn _ _ _ _ h H locs ls hP hS hl)
            | some a =>
              cases a with
              | none => exact False.elim h
              | some a =>
              rcases hlk with hlk | ⟨host, hlk⟩
              · exact va_get X.1 X.2.1 hts hws X.2.2.2.1 X.2.2.2.2.2.2.1.1 hP q hW hcl f hfN (hts _ hlk) (fun _ z => z) hv hd (hn _ _ _ _ h H locs ls hP hS hl)
              · exact va_getN X.1 X.2.1 hts hws X.2.2.2.1 X.2.2.2.2.2.2.1.1 hP q hW hcl f hfN (va_Nw.use rfl (X.2.2.2.2.2.2.1.2.2.2 _ hlk)) (fun _ z => z) hv hd (hn _ _ _ _ h H locs ls hP hS hl)
        · have hb : Nat.beq ci' ci = false := by
            cases hq : Nat.beq ci' ci with
            | false => rfl
            | true => exact absurd (Nat.eq_of_beq_eq_true hq) hci
          rw [hb] at h
          exact False.elim h
  · exact False.elim h
/-- z: the field is a boolean -/
def js_putf (ci f : Nat) (z : Bool) : jx_Sp := fun Λ _ nx _ _ pc lv st σ => match st with
  | .int v :: .ref p :: rest => match Λ[p]? with
    | some (.inl o) => bif Nat.beq o.1 ci then (match o.2[f]? with
      | some none => (bif z then (v = 0 ∨ v = 1) ∧ nx (pc + 3) lv rest (jx_su σ p f v) else nx (pc + 3) lv rest (jx_su σ p f v))
      | _ => False) else False
    | _ => False
  | _ => False
theorem jo_putf {own : String} {ix ci f : Nat} {z : Bool} (ho : (jx_y k).cls = own) (hf : jx_fo own ix ci f (if z then .boolean else .int)) (hnf : ∀ C T N, jx_cl[ci]? = some (C, T, N) → (T f).2.2.2 = false) (hd : decode (jx_b k) pc = .ok (.putfield ix, 3)) : jx_Snd k pc (js_putf ci f z) := by
  intro l D cA ρ Λ A tb d Q p e R s m args below meth c cells slots QW X hret nx cl lv st σ htb hn hcl0 h
  subst ho
  obtain ⟨C, T, N, tt, hcl, hfN, hws, hty, hnm, htf, hlk⟩ := hf
  unfold js_putf at h
  split at h
  · rename_i v q rest
    cases hL : Λ[q]? with
    | none => rw [hL] at h; exact False.elim h
    | some o =>
      rw [hL] at h
      cases o with
      | inr n => exact False.elim h
      | inl o =>
        obtain ⟨ci', fs⟩ := o
        dsimp only at h
        by_cases hci : ci' = ci
        · subst hci
          rw [show Nat.beq ci' ci' = true by simp] at h
          intro H locs ls hP hS hl
          have hts := X.2.2.2.2.1
          have hW := jx_Wat (ρ := ρ) (cA := cA) (σ := σ) hL
          cases hfs : fs[f]? with
          | none => rw [hfs] at h; exact False.elim h
          | some o =>
            rw [hfs] at h
            cases o with
            | some a => exact False.elim h
            | none =>
              have hl2 : f < (fs.mapIdx (jx_fd ρ σ q)).length := by
                have := (List.getElem?_eq_some_iff.mp hfs).1
                simpa using this
              have key : narrow (if z then .boolean else .int) (.int v) = .int v ∧ fits (if z then .boolean else .int) (.int v) = true ∧ nx (pc + 3) lv rest (jx_su σ q f v) := by
                cases z with
                | false => exact ⟨rfl, rfl, h⟩
                | true =>
                  obtain ⟨h1, h2⟩ := h
                  rcases h1 with rfl | rfl
                  · exact ⟨rfl, rfl, h2⟩
                  · exact ⟨rfl, rfl, h2⟩
              obtain ⟨k1, k2, k3⟩ := key
              have hD : va_D A (jx_W ρ cA Λ σ) := jx_D X.2.2.2.2.2.2.1.2.1 X.2.2.2.2.2.2.2
              rcases hlk with hlk | ⟨host, hlk⟩
              · refine va_put (v := .int v) X.1 X.2.1 hts hws tt hty hnm X.2.2.2.1 X.2.2.2.2.2.2.1.1 hP hD hS q hW hcl f hfN (hts _ hlk) (fun _ z => z) (hnf C T N hcl) (by rw [hty f hfN, htf]) k1 k2 hl2 hd (fun H1 locs1 hP1 hD1 hS1 => ?_)
                have hP2 : va_P D jx_cl (jx_W ρ cA Λ (jx_su σ q f v)) H1 := by rw [← jx_Wput hL hfs]; exact hP1
                exact (hn _ _ _ _ k3 H1 locs1 ls hP2 hS1 hl)
              · refine va_putN (v := .int v) X.1 X.2.1 hts hws tt hty hnm X.2.2.2.1 X.2.2.2.2.2.2.1.1 hP hD hS q hW hcl f hfN (va_Nw.use rfl (X.2.2.2.2.2.2.1.2.2.2 _ hlk)) (fun _ z => z) (hnf C T N hcl) (by rw [hty f hfN, htf]) k1 k2 hl2 hd (fun H1 locs1 hP1 hD1 hS1 => ?_)
                have hP2 : va_P D jx_cl (jx_W ρ cA Λ (jx_su σ q f v)) H1 := by rw [← jx_Wput hL hfs]; exact hP1
                exact (hn _ _ _ _ k3 H1 locs1 ls hP2 hS1 hl)
        · have hb : Nat.beq ci' ci = false := by
            cases hq : Nat.beq ci' ci with
            | false => rfl
            | true => exact absurd (Nat.eq_of_beq_eq_true hq) hci
          rw [hb] at h
          exact False.elim h
  · exact False.elim h
def js_ald : jx_Sp := fun Λ tb nx _ _ pc lv st σ => match st with
  | .int i :: .ref p :: rest => match Λ[p]? with
    | some (.inr n) => vp_in i n ∧ nx (pc + 1) lv (.int (σ p i.toNatClampNeg) :: rest) σ
    | some (.inl _) => False
    | none => match tb p with
      | some (n, f) => vp_in i n ∧ nx (pc + 1) lv (.int (f i.toNatClampNeg) :: rest) σ
      | none => False
  | _ => False
theorem jo_ald (hd : decode (jx_b k) pc = .ok (.iaload, 1)) : jx_Snd k pc js_ald := by
  intro l D cA ρ Λ A tb d Q p e R s m args below meth c cells slots QW X hret nx cl lv st σ htb hn hcl0 h
  unfold js_ald at h
  split at h
  · rename_i i q rest
    intro H locs ls hP hS hl
    cases hL : Λ[q]? with
    | none =>
      rw [hL] at h
      cases ht : tb q with
      | none => rw [ht] at h; exact False.elim h
      | some nf =>
        obtain ⟨n, f⟩ := nf
        rw [ht] at h
        exact va_ti X.1 X.2.1 (X.2.2.2.2.2.2.1.2.2.1.2 q n f ht) hS h.1 rfl hd (hn _ _ _ _ h.2 H locs ls hP hS hl)
    | some o =>
      rw [hL] at h
      cases o with
      | inl o => exact False.elim h
      | inr n => exact va_iald X.1 X.2.1 X.2.2.2.2.2.2.1.1 hP q 0 (jx_Wat hL) rfl h.1 hd (hn _ _ _ _ h.2 H locs ls hP hS hl)
  · exact False.elim h
def js_ast : jx_Sp := fun Λ _ nx _ _ pc lv st σ => match st with
  | .int x :: .int i :: .ref p :: rest => match Λ[p]? with
    | some (.inr n) => vp_in i n ∧ nx (pc + 1) lv rest (jx_su σ p i.toNatClampNeg x)
    | _ => False
  | _ => False
theorem jo_ast (hd : decode (jx_b k) pc = .ok (.iastore, 1)) : jx_Snd k pc js_ast := by
  intro l D cA ρ Λ A tb d Q p e R s m args below meth c cells slots QW X hret nx cl lv st σ htb hn hcl0 h
  unfold js_ast at h
  split at h
  · rename_i x i q rest
    intro H locs ls hP hS hl
    cases hL : Λ[q]? with
    | none => rw [hL] at h; exact False.elim h
    | some o =>
      rw [hL] at h
      cases o with
      | inl o => exact False.elim h
      | inr n =>
        refine va_iast X.1 X.2.1 X.2.2.2.2.2.2.1.1 hP (jx_D X.2.2.2.2.2.2.1.2.1 X.2.2.2.2.2.2.2) hS q 0 (jx_Wat hL) rfl h.1 hd (fun H1 locs1 hP1 hD1 hS1 => ?_)
        have hP2 : va_P D jx_cl (jx_W ρ cA Λ (jx_su σ q i.toNatClampNeg x)) H1 := by rw [← jx_Wast hL]; exact hP1
        exact (hn _ _ _ _ h.2 H1 locs1 ls hP2 hS1 hl)
  · exact False.elim h
def js_len : jx_Sp := fun Λ tb nx _ _ pc lv st σ => match st with
  | .ref p :: rest => match Λ[p]? with
    | some (.inr n) => nx (pc + 1) lv (.int (Int32.ofNat n) :: rest) σ
    | some (.inl _) => False
    | none => match tb p with
      | some (n, _) => nx (pc + 1) lv (.int (Int32.ofNat n) :: rest) σ
      | none => False
  | _ => False
theorem jo_len (hd : decode (jx_b k) pc = .ok (.arraylength, 1)) : jx_Snd k pc js_len := by
  intro l D cA ρ Λ A tb d Q p e R s m args below meth c cells slots QW X hret nx cl lv st σ htb hn hcl0 h
  unfold js_len at h
  split at h
  · rename_i q rest
    intro H locs ls hP hS hl
    cases hL : Λ[q]? with
    | none =>
      rw [hL] at h
      cases ht : tb q with
      | none => rw [ht] at h; exact False.elim h
      | some nf =>
        obtain ⟨n, f⟩ := nf
        rw [ht] at h
        exact va_tlen X.1 X.2.1 (X.2.2.2.2.2.2.1.2.2.1.2 q n f ht) hS rfl hd (hn _ _ _ _ h H locs ls hP hS hl)
    | some o =>
      rw [hL] at h
      cases o with
      | inl o => exact False.elim h
      | inr n => exact va_alen X.1 X.2.1 X.2.2.2.2.2.2.1.1 hP q 0 (jx_Wat hL) rfl rfl hd (hn _ _ _ _ h H locs ls hP hS hl)
  · exact False.elim h
def js_gets (p : Nat) : jx_Sp := fun _ _ nx _ _ pc lv st σ => nx (pc + 3) lv (.ref p :: st) σ
theorem jo_gets {own C n t : String} {ix p : Nat} (ho : (jx_y k).cls = own) (hz : (p, C, n, t) ∈ jx_zs) (hlk : Cond.fieldLink own ix C n t ∈ jx_gw) (hd : decode (jx_b k) pc = .ok (.getstatic ix, 3)) : jx_Snd k pc (js_gets p) := by
  intro l D cA ρ Λ A tb d Q p e R s m args below meth c cells slots QW X hret nx cl lv st σ htb hn hcl0 h
  subst ho
  intro H locs ls hP hS hl
  exact va_gets X.1 X.2.1 (X.2.2.2.2.2.2.1.2.2.1.1 _ hz) hS X.2.2.2.1 (X.2.2.2.2.1 _ hlk) (fun _ z => z) hd (hn _ _ _ _ h H locs ls hP hS hl)
def js_ir : jx_Sp := fun _ _ _ _ rt _ _ st σ => match st with
  | [.int v] => rt (some (.int v)) σ
  | _ => False
theorem jo_ir (hr : jx_ret k = some .int) (hd : decode (jx_b k) pc = .ok (.ireturn, 1)) : jx_Snd k pc js_ir := by
  intro l D cA ρ Λ A tb d Q p e R s m args below meth c cells slots QW X hret nx cl lv st σ htb hn hcl0 h
  unfold js_ir at h
  split at h
  · rename_i v
    intro H locs ls hP hS hl
    exact hret H locs ls pc (some (.int v)) σ (by unfold jx_rt; rw [hr]; exact ⟨v, rfl, rfl, hd⟩) h hP hS
  · exact False.elim h
def js_zr : jx_Sp := fun _ _ _ _ rt _ _ st σ => match st with
  | [.int v] => (v = 0 ∨ v = 1) ∧ rt (some (.int v)) σ
  | _ => False
theorem jo_zr (hr : jx_ret k = some .boolean) (hd : decode (jx_b k) pc = .ok (.ireturn, 1)) : jx_Snd k pc js_zr := by
  intro l D cA ρ Λ A tb d Q p e R s m args below meth c cells slots QW X hret nx cl lv st σ htb hn hcl0 h
  unfold js_zr at h
  split at h
  · rename_i v
    intro H locs ls hP hS hl
    exact hret H locs ls pc (some (.int v)) σ (by unfold jx_rt; rw [hr]; refine ⟨v, rfl, ?_, hd⟩; rcases h.1 with rfl | rfl <;> rfl) h.2 hP hS
  · exact False.elim h
def js_vr : jx_Sp := fun _ _ _ _ rt _ _ st σ => match st with
  | [] => rt none σ
  | _ => False
theorem jo_vr (hr : jx_ret k = none) (hd : decode (jx_b k) pc = .ok (.return_, 1)) : jx_Snd k pc js_vr := by
  intro l D cA ρ Λ A tb d Q p e R s m args below meth c cells slots QW X hret nx cl lv st σ htb hn hcl0 h
  unfold js_vr at h
  split at h
  · intro H locs ls hP hS hl
    exact hret H locs ls pc none σ (by unfold jx_rt; rw [hr]; exact ⟨rfl, hd⟩) h hP hS
  · exact False.elim h
def jx_ct (st : List Value) : Nat := match st with
  | [] => 0
  | .long _ :: r => 2 + jx_ct r
  | .double _ :: r => 2 + jx_ct r
  | _ :: r => 1 + jx_ct r
theorem jx_ctm : ∀ (st : List Value), (st.map fun v => v.category).sum = jx_ct st
  | [] => rfl
  | v :: r => by
    rw [List.map_cons, List.sum_cons, jx_ctm r]
    cases v <;> rfl
def jx_is (Λ : List jx_Lc) (p ci : Nat) : Bool := match Λ[p]? with
  | some (.inl o) => Nat.beq o.1 ci
  | _ => false
theorem jx_is_at {Λ : List jx_Lc} {p ci : Nat} (h : jx_is Λ p ci = true) : ∃ fs, Λ[p]? = some (.inl (ci, fs)) := by
  unfold jx_is at h
  split at h
  · rename_i o ho
    obtain ⟨c, fs⟩ := o
    have e := Nat.eq_of_beq_eq_true h
    exact ⟨fs, by rw [ho, ← e]⟩
  · cases h
def js_v0 (ci k' : Nat) : jx_Sp := fun Λ _ nx cl _ pc lv st σ => match st with
  | .ref p :: rest => bif jx_is Λ p ci && Nat.ble (jx_ct rest) 8 then cl k' [.ref p] σ (fun r σ' => nx (pc + 3) lv (r.toList ++ rest) σ') else False
  | _ => False
theorem jo_v0 {own C : String} {T : u_T} {N ix ci k' : Nat} (ho : (jx_y k).cls = own) (hok : jx_ok k' C 0) (hln : jx_ln own ix k') (hin : Cond.instanceMethod (jx_y k') ∈ jx_gw) (hse : Cond.selects C (jx_y k') (jx_y k') ∈ jx_gw) (hcl : jx_cl[ci]? = some (C, T, N)) (hd : decode (jx_b k) pc = .ok (.invokevirtual ix, 3)) : jx_Snd k pc (js_v0 ci k') := by
  intro l D cA ρ Λ A tb d Q p e R s m args below meth c cells slots QW X hret nx cl lv st σ htb hn hcl0 h
  subst ho
  unfold js_v0 at h
  split at h
  · rename_i q rest
    cases hc : jx_is Λ q ci && Nat.ble (jx_ct rest) 8 with
    | false => rw [hc] at h; exact False.elim h
    | true =>
      rw [hc] at h
      rw [Bool.and_eq_true] at hc
      obtain ⟨fs, hL⟩ := jx_is_at hc.1
      intro H locs ls hP hS hl
      exact jx_callV (as := []) X htb hP hS hl.1 hok hln hin hse hcl hd hL rfl (by rw [jx_ctm]; exact Nat.le_of_ble_eq_true hc.2) (hcl0 _ _ _ _ h) (fun r σ1 H1 locs1 hq hP1 hS1 => (hn _ _ _ _ hq H1 locs1 ls hP1 hS1 hl))
  · exact False.elim h
def js_v1 (ci k' : Nat) : jx_Sp := fun Λ _ nx cl _ pc lv st σ => match st with
  | a1 :: .ref p :: rest => bif jx_is Λ p ci && Nat.ble (jx_ct rest) 8 then cl k' [.ref p, a1] σ (fun r σ' => nx (pc + 3) lv (r.toList ++ rest) σ') else False
  | _ => False
theorem jo_v1 {own C : String} {T : u_T} {N ix ci k' : Nat} (ho : (jx_y k).cls = own) (hok : jx_ok k' C 1) (hln : jx_ln own ix k') (hin : Cond.instanceMethod (jx_y k') ∈ jx_gw) (hse : Cond.selects C (jx_y k') (jx_y k') ∈ jx_gw) (hcl : jx_cl[ci]? = some (C, T, N)) (hd : decode (jx_b k) pc = .ok (.invokevirtual ix, 3)) : jx_Snd k pc (js_v1 ci k') := by
  intro l D cA ρ Λ A tb d Q p e R s m args below meth c cells slots QW X hret nx cl lv st σ htb hn hcl0 h
  subst ho
  unfold js_v1 at h
  split at h
  · rename_i a1 q rest
    cases hc : jx_is Λ q ci && Nat.ble (jx_ct rest) 8 with
    | false => rw [hc] at h; exact False.elim h
    | true =>
      rw [hc] at h
      rw [Bool.and_eq_true] at hc
      obtain ⟨fs, hL⟩ := jx_is_at hc.1
      intro H locs ls hP hS hl
      exact jx_callV (as := [a1]) X htb hP hS hl.1 hok hln hin hse hcl hd hL rfl (by rw [jx_ctm]; exact Nat.le_of_ble_eq_true hc.2) (hcl0 _ _ _ _ h) (fun r σ1 H1 locs1 hq hP1 hS1 => (hn _ _ _ _ hq H1 locs1 ls hP1 hS1 hl))
  · exact False.elim h
def js_v2 (ci k' : Nat) : jx_Sp := fun Λ _ nx cl _ pc lv st σ => match st with
  | b1 :: a1 :: .ref p :: rest => bif jx_is Λ p ci && Nat.ble (jx_ct rest) 8 then cl k' [.ref p, a1, b1] σ (fun r σ' => nx (pc + 3) lv (r.toList ++ rest) σ') else False
  | _ => False
theorem jo_v2 {own C : String} {T : u_T} {N ix ci k' : Nat} (ho : (jx_y k).cls = own) (hok : jx_ok k' C 2) (hln : jx_ln own ix k') (hin : Cond.instanceMethod (jx_y k') ∈ jx_gw) (hse : Cond.selects C (jx_y k') (jx_y k') ∈ jx_gw) (hcl : jx_cl[ci]? = some (C, T, N)) (hd : decode (jx_b k) pc = .ok (.invokevirtual ix, 3)) : jx_Snd k pc (js_v2 ci k') := by
  intro l D cA ρ Λ A tb d Q p e R s m args below meth c cells slots QW X hret nx cl lv st σ htb hn hcl0 h
  subst ho
  unfold js_v2 at h
  split at h
  · rename_i b1 a1 q rest
    cases hc : jx_is Λ q ci && Nat.ble (jx_ct rest) 8 with
    | false => rw [hc] at h; exact False.elim h
    | true =>
      rw [hc] at h
      rw [Bool.and_eq_true] at hc
      obtain ⟨fs, hL⟩ := jx_is_at hc.1
      intro H locs ls hP hS hl
      exact jx_callV (as := [a1, b1]) X htb hP hS hl.1 hok hln hin hse hcl hd hL rfl (by rw [jx_ctm]; exact Nat.le_of_ble_eq_true hc.2) (hcl0 _ _ _ _ h) (fun r σ1 H1 locs1 hq hP1 hS1 => (hn _ _ _ _ hq H1 locs1 ls hP1 hS1 hl))
  · exact False.elim h
def js_v3 (ci k' : Nat) : jx_Sp := fun Λ _ nx cl _ pc lv st σ => match st with
  | c1 :: b1 :: a1 :: .ref p :: rest => bif jx_is Λ p ci && Nat.ble (jx_ct rest) 8 then cl k' [.ref p, a1, b1, c1] σ (fun r σ' => nx (pc + 3) lv (r.toList ++ rest) σ') else False
  | _ => False
theorem jo_v3 {own C : String} {T : u_T} {N ix ci k' : Nat} (ho : (jx_y k).cls = own) (hok : jx_ok k' C 3) (hln : jx_ln own ix k') (hin : Cond.instanceMethod (jx_y k') ∈ jx_gw) (hse : Cond.selects C (jx_y k') (jx_y k') ∈ jx_gw) (hcl : jx_cl[ci]? = some (C, T, N)) (hd : decode (jx_b k) pc = .ok (.invokevirtual ix, 3)) : jx_Snd k pc (js_v3 ci k') := by
  intro l D cA ρ Λ A tb d Q p e R s m args below meth c cells slots QW X hret nx cl lv st σ htb hn hcl0 h
  subst ho
  unfold js_v3 at h
  split at h
  · rename_i c1 b1 a1 q rest
    cases hc : jx_is Λ q ci && Nat.ble (jx_ct rest) 8 with
    | false => rw [hc] at h; exact False.elim h
    | true =>
      rw [hc] at h
      rw [Bool.and_eq_true] at hc
      obtain ⟨fs, hL⟩ := jx_is_at hc.1
      intro H locs ls hP hS hl
      exact jx_callV (as := [a1, b1, c1]) X htb hP hS hl.1 hok hln hin hse hcl hd hL rfl (by rw [jx_ctm]; exact Nat.le_of_ble_eq_true hc.2) (hcl0 _ _ _ _ h) (fun r σ1 H1 locs1 hq hP1 hS1 => (hn _ _ _ _ hq H1 locs1 ls hP1 hS1 hl))
  · exact False.elim h
def js_v4 (ci k' : Nat) : jx_Sp := fun Λ _ nx cl _ pc lv st σ => match st with
  | d1 :: c1 :: b1 :: a1 :: .ref p :: rest => bif jx_is Λ p ci && Nat.ble (jx_ct rest) 8 then cl k' [.ref p, a1, b1, c1, d1] σ (fun r σ' => nx (pc + 3) lv (r.toList ++ rest) σ') else False
  | _ => False
theorem jo_v4 {own C : String} {T : u_T} {N ix ci k' : Nat} (ho : (jx_y k).cls = own) (hok : jx_ok k' C 4) (hln : jx_ln own ix k') (hin : Cond.instanceMethod (jx_y k') ∈ jx_gw) (hse : Cond.selects C (jx_y k') (jx_y k') ∈ jx_gw) (hcl : jx_cl[ci]? = some (C, T, N)) (hd : decode (jx_b k) pc = .ok (.invokevirtual ix, 3)) : jx_Snd k pc (js_v4 ci k') := by
  intro l D cA ρ Λ A tb d Q p e R s m args below meth c cells slots QW X hret nx cl lv st σ htb hn hcl0 h
  subst ho
  unfold js_v4 at h
  split at h
  · rename_i d1 c1 b1 a1 q rest
    cases hc : jx_is Λ q ci && Nat.ble (jx_ct rest) 8 with
    | false => rw [hc] at h; exact False.elim h
    | true =>
      rw [hc] at h
      rw [Bool.and_eq_true] at hc
      obtain ⟨fs, hL⟩ := jx_is_at hc.1
      intro H locs ls hP hS hl
      exact jx_callV (as := [a1, b1, c1, d1]) X htb hP hS hl.1 hok hln hin hse hcl hd hL rfl (by rw [jx_ctm]; exact Nat.le_of_ble_eq_true hc.2) (hcl0 _ _ _ _ h) (fun r σ1 H1 locs1 hq hP1 hS1 => (hn _ _ _ _ hq H1 locs1 ls hP1 hS1 hl))
  · exact False.elim h
def js_v5 (ci k' : Nat) : jx_Sp := fun Λ _ nx cl _ pc lv st σ => match st with
  | e1 :: d1 :: c1 :: b1 :: a1 :: .ref p :: rest => bif jx_is Λ p ci && Nat.ble (jx_ct rest) 8 then cl k' [.ref p, a1, b1, c1, d1, e1] σ (fun r σ' => nx (pc + 3) lv (r.toList ++ rest) σ') else False
  | _ => False
theorem jo_v5 {own C : String} {T : u_T} {N ix ci k' : Nat} (ho : (jx_y k).cls = own) (hok : jx_ok k' C 5) (hln : jx_ln own ix k') (hin : Cond.instanceMethod (jx_y k') ∈ jx_gw) (hse : Cond.selects C (jx_y k') (jx_y k') ∈ jx_gw) (hcl : jx_cl[ci]? = some (C, T, N)) (hd : decode (jx_b k) pc = .ok (.invokevirtual ix, 3)) : jx_Snd k pc (js_v5 ci k') := by
  intro l D cA ρ Λ A tb d Q p e R s m args below meth c cells slots QW X hret nx cl lv st σ htb hn hcl0 h
  subst ho
  unfold js_v5 at h
  split at h
  · rename_i e1 d1 c1 b1 a1 q rest
    cases hc : jx_is Λ q ci && Nat.ble (jx_ct rest) 8 with
    | false => rw [hc] at h; exact False.elim h
    | true =>
      rw [hc] at h
      rw [Bool.and_eq_true] at hc
      obtain ⟨fs, hL⟩ := jx_is_at hc.1
      intro H locs ls hP hS hl
      exact jx_callV (as := [a1, b1, c1, d1, e1]) X htb hP hS hl.1 hok hln hin hse hcl hd hL rfl (by rw [jx_ctm]; exact Nat.le_of_ble_eq_true hc.2) (hcl0 _ _ _ _ h) (fun r σ1 H1 locs1 hq hP1 hS1 => (hn _ _ _ _ hq H1 locs1 ls hP1 hS1 hl))
  · exact False.elim h
def js_s1 (k' : Nat) : jx_Sp := fun _ _ nx cl _ pc lv st σ => match st with
  | a1 :: rest => bif Nat.ble (jx_ct rest) 8 then cl k' [a1] σ (fun r σ' => nx (pc + 3) lv (r.toList ++ rest) σ') else False
  | _ => False
theorem jo_s1 {own C : String} {ix k' : Nat} (ho : (jx_y k).cls = own) (hok : jx_ok k' C 1) (hln : jx_ln own ix k') (hst0 : Cond.static (jx_y k') ∈ jx_gw) (hd : decode (jx_b k) pc = .ok (.invokestatic ix, 3)) : jx_Snd k pc (js_s1 k') := by
  intro l D cA ρ Λ A tb d Q p e R s m args below meth c cells slots QW X hret nx cl lv st σ htb hn hcl0 h
  subst ho
  unfold js_s1 at h
  split at h
  · rename_i a1 rest
    cases hc : Nat.ble (jx_ct rest) 8 with
    | false => rw [hc] at h; exact False.elim h
    | true =>
      rw [hc] at h
      intro H locs ls hP hS hl
      exact jx_callS (as := [a1]) X htb hP hS hl.1 hok hln hst0 hd rfl (by rw [jx_ctm]; exact Nat.le_of_ble_eq_true hc) (hcl0 _ _ _ _ h) (fun r σ1 H1 locs1 hq hP1 hS1 => (hn _ _ _ _ hq H1 locs1 ls hP1 hS1 hl))
  · exact False.elim h
def js_s2 (k' : Nat) : jx_Sp := fun _ _ nx cl _ pc lv st σ => match st with
  | b1 :: a1 :: rest => bif Nat.ble (jx_ct rest) 8 then cl k' [a1, b1] σ (fun r σ' => nx (pc + 3) lv (r.toList ++ rest) σ') else False
  | _ => False
theorem jo_s2 {own C : String} {ix k' : Nat} (ho : (jx_y k).cls = own) (hok : jx_ok k' C 2) (hln : jx_ln own ix k') (hst0 : Cond.static (jx_y k') ∈ jx_gw) (hd : decode (jx_b k) pc = .ok (.invokestatic ix, 3)) : jx_Snd k pc (js_s2 k') := by
  intro l D cA ρ Λ A tb d Q p e R s m args below meth c cells slots QW X hret nx cl lv st σ htb hn hcl0 h
  subst ho
  unfold js_s2 at h
  split at h
  · rename_i b1 a1 rest
    cases hc : Nat.ble (jx_ct rest) 8 with
    | false => rw [hc] at h; exact False.elim h
    | true =>
      rw [hc] at h
      intro H locs ls hP hS hl
      exact jx_callS (as := [a1, b1]) X htb hP hS hl.1 hok hln hst0 hd rfl (by rw [jx_ctm]; exact Nat.le_of_ble_eq_true hc) (hcl0 _ _ _ _ h) (fun r σ1 H1 locs1 hq hP1 hS1 => (hn _ _ _ _ hq H1 locs1 ls hP1 hS1 hl))
  · exact False.elim h
def js_s3 (k' : Nat) : jx_Sp := fun _ _ nx cl _ pc lv st σ => match st with
  | c1 :: b1 :: a1 :: rest => bif Nat.ble (jx_ct rest) 8 then cl k' [a1, b1, c1] σ (fun r σ' => nx (pc + 3) lv (r.toList ++ rest) σ') else False
  | _ => False
theorem jo_s3 {own C : String} {ix k' : Nat} (ho : (jx_y k).cls = own) (hok : jx_ok k' C 3) (hln : jx_ln own ix k') (hst0 : Cond.static (jx_y k') ∈ jx_gw) (hd : decode (jx_b k) pc = .ok (.invokestatic ix, 3)) : jx_Snd k pc (js_s3 k') := by
  intro l D cA ρ Λ A tb d Q p e R s m args below meth c cells slots QW X hret nx cl lv st σ htb hn hcl0 h
  subst ho
  unfold js_s3 at h
  split at h
  · rename_i c1 b1 a1 rest
    cases hc : Nat.ble (jx_ct rest) 8 with
    | false => rw [hc] at h; exact False.elim h
    | true =>
      rw [hc] at h
      intro H locs ls hP hS hl
      exact jx_callS (as := [a1, b1, c1]) X htb hP hS hl.1 hok hln hst0 hd rfl (by rw [jx_ctm]; exact Nat.le_of_ble_eq_true hc) (hcl0 _ _ _ _ h) (fun r σ1 H1 locs1 hq hP1 hS1 => (hn _ _ _ _ hq H1 locs1 ls hP1 hS1 hl))
  · exact False.elim h
def js_s4 (k' : Nat) : jx_Sp := fun _ _ nx cl _ pc lv st σ => match st with
  | d1 :: c1 :: b1 :: a1 :: rest => bif Nat.ble (jx_ct rest) 8 then cl k' [a1, b1, c1, d1] σ (fun r σ' => nx (pc + 3) lv (r.toList ++ rest) σ') else False
  | _ => False
theorem jo_s4 {own C : String} {ix k' : Nat} (ho : (jx_y k).cls = own) (hok : jx_ok k' C 4) (hln : jx_ln own ix k') (hst0 : Cond.static (jx_y k') ∈ jx_gw) (hd : decode (jx_b k) pc = .ok (.invokestatic ix, 3)) : jx_Snd k pc (js_s4 k') := by
  intro l D cA ρ Λ A tb d Q p e R s m args below meth c cells slots QW X hret nx cl lv st σ htb hn hcl0 h
  subst ho
  unfold js_s4 at h
  split at h
  · rename_i d1 c1 b1 a1 rest
    cases hc : Nat.ble (jx_ct rest) 8 with
    | false => rw [hc] at h; exact False.elim h
    | true =>
      rw [hc] at h
      intro H locs ls hP hS hl
      exact jx_callS (as := [a1, b1, c1, d1]) X htb hP hS hl.1 hok hln hst0 hd rfl (by rw [jx_ctm]; exact Nat.le_of_ble_eq_true hc) (hcl0 _ _ _ _ h) (fun r σ1 H1 locs1 hq hP1 hS1 => (hn _ _ _ _ hq H1 locs1 ls hP1 hS1 hl))
  · exact False.elim h
def js_s6 (k' : Nat) : jx_Sp := fun _ _ nx cl _ pc lv st σ => match st with
  | f1 :: e1 :: d1 :: c1 :: b1 :: a1 :: rest => bif Nat.ble (jx_ct rest) 8 then cl k' [a1, b1, c1, d1, e1, f1] σ (fun r σ' => nx (pc + 3) lv (r.toList ++ rest) σ') else False
  | _ => False
theorem jo_s6 {own C : String} {ix k' : Nat} (ho : (jx_y k).cls = own) (hok : jx_ok k' C 6) (hln : jx_ln own ix k') (hst0 : Cond.static (jx_y k') ∈ jx_gw) (hd : decode (jx_b k) pc = .ok (.invokestatic ix, 3)) : jx_Snd k pc (js_s6 k') := by
  intro l D cA ρ Λ A tb d Q p e R s m args below meth c cells slots QW X hret nx cl lv st σ htb hn hcl0 h
  subst ho
  unfold js_s6 at h
  split at h
  · rename_i f1 e1 d1 c1 b1 a1 rest
    cases hc : Nat.ble (jx_ct rest) 8 with
    | false => rw [hc] at h; exact False.elim h
    | true =>
      rw [hc] at h
      intro H locs ls hP hS hl
      exact jx_callS (as := [a1, b1, c1, d1, e1, f1]) X htb hP hS hl.1 hok hln hst0 hd rfl (by rw [jx_ctm]; exact Nat.le_of_ble_eq_true hc) (hcl0 _ _ _ _ h) (fun r σ1 H1 locs1 hq hP1 hS1 => (hn _ _ _ _ hq H1 locs1 ls hP1 hS1 hl))
  · exact False.elim h
def js_max : jx_Sp := fun _ _ nx _ _ pc lv st σ => match st with
  | .int y :: .int x :: rest => bif Nat.ble (jx_ct rest) 8 then nx (pc + 3) lv (.int (if x < y then y else x) :: rest) σ else False
  | _ => False
theorem jo_max {own : String} {ix : Nat} (ho : (jx_y k).cls = own) (hlk : Cond.methodLink own ix Lib.Math.max.name ∈ jx_gw) (hst : Cond.static Lib.Math.max.name ∈ jx_gw) (hin : Cond.initialized "java/lang/Math" ∈ jx_gw) (hc : Cond.code Lib.Math.max.name Lib.Math.max.code 2 (some .int) ∈ jx_gw) (hd : decode (jx_b k) pc = .ok (.invokestatic ix, 3)) : jx_Snd k pc js_max := by
  intro l D cA ρ Λ A tb d Q p e R s m args below meth c cells slots QW X hret nx cl lv st σ htb hn hcl0 h
  subst ho
  unfold js_max at h
  split at h
  · rename_i y x rest
    cases hcr : Nat.ble (jx_ct rest) 8 with
    | false => rw [hcr] at h; exact False.elim h
    | true =>
      rw [hcr] at h
      intro H locs ls hP hS hl
      have hw := X.2.2.2.2.1
      have h8 : ((rest.map (jx_v ρ)).map fun v => v.category).sum ≤ 8 := by rw [jx_catm, jx_ctm]; exact Nat.le_of_ble_eq_true hcr
      obtain ⟨r1, r2, r3, r4⟩ := X.2.2.2.2.2.1
      exact va_mmax X.1 X.2.1 (X.2.2.1.trans hl.1.symm) X.2.2.2.1 (hw _ hlk) (hw _ hst) (hw _ hin) (hw _ hc) (by omega) (by omega) r3 r4 hd (hn _ _ _ _ h H locs ls hP hS hl)
  · exact False.elim h
def js_min : jx_Sp := fun _ _ nx _ _ pc lv st σ => match st with
  | .int y :: .int x :: rest => bif Nat.ble (jx_ct rest) 8 then nx (pc + 3) lv (.int (if y < x then y else x) :: rest) σ else False
  | _ => False
theorem jo_min {own : String} {ix : Nat} (ho : (jx_y k).cls = own) (hlk : Cond.methodLink own ix Lib.Math.min.name ∈ jx_gw) (hst : Cond.static Lib.Math.min.name ∈ jx_gw) (hin : Cond.initialized "java/lang/Math" ∈ jx_gw) (hc : Cond.code Lib.Math.min.name Lib.Math.min.code 2 (some .int) ∈ jx_gw) (hd : decode (jx_b k) pc = .ok (.invokestatic ix, 3)) : jx_Snd k pc js_min := by
  intro l D cA ρ Λ A tb d Q p e R s m args below meth c cells slots QW X hret nx cl lv st σ htb hn hcl0 h
  subst ho
  unfold js_min at h
  split at h
  · rename_i y x rest
    cases hcr : Nat.ble (jx_ct rest) 8 with
    | false => rw [hcr] at h; exact False.elim h
    | true =>
      rw [hcr] at h
      intro H locs ls hP hS hl
      have hw := X.2.2.2.2.1
      have h8 : ((rest.map (jx_v ρ)).map fun v => v.category).sum ≤ 8 := by rw [jx_catm, jx_ctm]; exact Nat.le_of_ble_eq_true hcr
      obtain ⟨r1, r2, r3, r4⟩ := X.2.2.2.2.2.1
      exact va_mmin X.1 X.2.1 (X.2.2.1.trans hl.1.symm) X.2.2.2.1 (hw _ hlk) (hw _ hst) (hw _ hin) (hw _ hc) (by omega) (by omega) r3 r4 hd (hn _ _ _ _ h H locs ls hP hS hl)
  · exact False.elim h
end RULES
end
section
/-! Constructors: the layout grows -/
def jn_ag (n : Nat) (ρ ρ' : Nat → Nat) : Prop := ∀ i, i < n ∨ 800 ≤ i → ρ' i = ρ i
def jn_A (ρ : Nat → Nat) (Λ : List jx_Lc) (sz : Nat) : Nat → Prop := fun q => jx_A ρ Λ q ∨ sz ≤ q
def jn_rm (d mc ms : Nat) : Room := { frames := d, cells := mc, slots := ms, locals := 40 * d }
def jn_Q (D : va_G) (cA : ClassId) (ρ : Nat → Nat) (Λ : List jx_Lc) (sz : Nat) (Q : List jx_Lc → jx_St → Prop) : Array Value → State → Outcome → State → Prop := fun _ st oc t =>
  (∃ (Λ' : List jx_Lc) (σ : jx_St) (ρ' : Nat → Nat), oc = .returned none ∧ Q Λ' σ ∧ jn_ag Λ.length ρ ρ' ∧ Λ.length ≤ Λ'.length ∧ jx_inj ρ' Λ' ∧ (∀ i, i < Λ'.length → jn_A ρ Λ sz (ρ' i)) ∧ va_P D jx_cl (jx_W ρ' cA Λ' σ) t.heap) ∧ va_F (jn_A ρ Λ sz) st t
def jn_C (l : Launch) (D : va_G) (cA : ClassId) (d k mc ms : Nat) (as : List Value) (Λ : List jx_Lc) (σ : jx_St) (Q : List jx_Lc → jx_St → Prop) : Prop := ∀ (ρ : Nat → Nat) (sz : Nat),
  Met l (jx_y k) (jx_ws k) (jn_rm d mc ms) (va_Pc (as.map (jx_v ρ)) (fun U => U.heap.size = sz ∧ va_P D jx_cl (jx_W ρ cA Λ σ) U.heap ∧ jx_K D cA ρ Λ (jn_A ρ Λ sz) jx_tb0 U)) (jn_Q D cA ρ Λ sz Q) mc ms (jn_A ρ Λ sz)
def jn_K (D : va_G) (cA : ClassId) (ρ : Nat → Nat) (A : Nat → Prop) (tb : jx_Tb) (U : State) : Prop := va_K D jx_cl [(cA, .int)] U ∧ jx_Z ρ A tb U U.heap ∧ ∀ w ∈ jx_nw, va_Nw w U
/-- the surrounding -/
def jn_X (D : va_G) (cA : ClassId) (ρ0 : Nat → Nat) (A : Nat → Prop) (tb : jx_Tb) (d k : Nat) (p : Program) (R : Room) (s : State) (m : MethodId) (args : Array Value) (c : Code) : Prop :=
  p.tables.exec = Jvm.exec ∧ c.code = jx_b k ∧ c.maxLocals = jx_nL k ∧ s.vm.findClass (jx_y k).cls = some m.cls ∧ (∀ w ∈ jx_gw, w.before args s = true) ∧ (d ≤ R.frames ∧ 40 * d ≤ R.locals) ∧ jn_K D cA ρ0 A tb s ∧ (∀ q, s.heap.size ≤ q → A q) ∧ (∀ p n f, tb p = some (n, f) → 800 ≤ p)
/-- a place of the heap with its layout -/
def jn_H (D : va_G) (cA : ClassId) (ρ0 : Nat → Nat) (n0 : Nat) (A : Nat → Prop) (s : State) (ρ : Nat → Nat) (Λ : List jx_Lc) (σ : jx_St) (H : Heap) (locs : List Loc) : Prop :=
  jn_ag n0 ρ0 ρ ∧ n0 ≤ Λ.length ∧ jx_inj ρ Λ ∧ (∀ i, i < Λ.length → A (ρ i)) ∧ va_P D jx_cl (jx_W ρ cA Λ σ) H ∧ va_S A s.heap H locs
def jn_I (l : Launch) (D : va_G) (cA : ClassId) (ρ0 : Nat → Nat) (n0 : Nat) (A : Nat → Prop) (k : Nat) (p : Program) (e : Env) (R : Room) (s : State) (m : MethodId) (args : Array Value) (below : List Frame) (meth : Method) (c : Code) (QW : State → Prop) (mc ms pc : Nat) (lv : jx_Lv) (st : List Value) (Λ : List jx_Lc) (σ : jx_St) : Prop :=
  ∀ (ρ : Nat → Nat) (H : Heap) (locs : List Loc) (ls : Array Slot) (cells slots : Nat), jn_H D cA ρ0 n0 A s ρ Λ σ H locs → lv_has ls (jx_nL k) (lv.map (jx_q ρ)) → cells + mc ≤ R.cells → slots + ms ≤ R.slots →
    W p l e R s m args below meth c H locs cells slots QW (F0 m pc ls (st.map (jx_v ρ)))
def jn_R (l : Launch) (D : va_G) (cA : ClassId) (ρ0 : Nat → Nat) (n0 : Nat) (A : Nat → Prop) (k : Nat) (p : Program) (e : Env) (R : Room) (s : State) (m : MethodId) (args : Array Value) (below : List Frame) (meth : Method) (c : Code) (QW : State → Prop) (Q : List jx_Lc → jx_St → Prop) : Prop :=
  ∀ (ρ : Nat → Nat) (H : Heap) (locs : List Loc) (ls : Array Slot) (cells slots mc ms pc : Nat) (Λ : List jx_Lc) (σ : jx_St), decode (jx_b k) pc = .ok (.return_, 1) → Q Λ σ → jn_H D cA ρ0 n0 A s ρ Λ σ H locs → cells + mc ≤ R.cells → slots + ms ≤ R.slots →
    W p l e R s m args below meth c H locs cells slots QW (F0 m pc ls [])
abbrev jn_Nx : Type := Nat → Nat → Nat → jx_Lv → List Value → List jx_Lc → jx_St → Prop
abbrev jn_Cn : Type := Nat → Nat → Nat → List Value → List jx_Lc → jx_St → (List jx_Lc → jx_St → Prop) → Prop
/-- next, plain calls (for every place of the cells), calls of constructors, return -/
abbrev jn_Sp : Type := jx_Tb → jn_Nx → (List jx_Lc → jx_Cl) → jn_Cn → (List jx_Lc → jx_St → Prop) → Nat → Nat → Nat → jx_Lv → List Value → List jx_Lc → jx_St → Prop
def jn_Snd (k pc : Nat) (sp : jn_Sp) : Prop := ∀ (l : Launch) (D : va_G) (cA : ClassId) (ρ0 : Nat → Nat) (n0 : Nat) (A : Nat → Prop) (tb : jx_Tb) (d : Nat) (Q : List jx_Lc → jx_St → Prop) (p : Program) (e : Env) (R : Room) (s : State) (m : MethodId) (args : Array Value) (below : List Frame) (meth : Method) (c : Code) (QW : State → Prop),
  jn_X D cA ρ0 A tb (d + 1) k p R s m args c → ((jx_y k).name = "<init>" → meth.name = "<init>") → jn_R l D cA ρ0 n0 A k p e R s m args below meth c QW Q → (∀ p n f, jx_tb0 p = some (n, f) → tb p = some (n, f)) → ∀ (nx : jn_Nx) (mc ms : Nat) (lv : jx_Lv) (st : List Value) (Λ : List jx_Lc) (σ : jx_St),
  (∀ mc' ms' pc' lv' st' Λ' σ', nx mc' ms' pc' lv' st' Λ' σ' → jn_I l D cA ρ0 n0 A k p e R s m args below meth c QW mc' ms' pc' lv' st' Λ' σ') →
  sp tb nx (fun Λ k' as σ K => ∀ ρ, jx_C l D cA ρ Λ d k' as σ K) (fun k' mc' ms' as Λ σ K => jn_C l D cA d k' mc' ms' as Λ σ K) Q mc ms pc lv st Λ σ → jn_I l D cA ρ0 n0 A k p e R s m args below meth c QW mc ms pc lv st Λ σ
def jn_of (sp : jx_Sp) : jn_Sp := fun tb nx cl _ _ mc ms pc lv st Λ σ => sp Λ tb (fun pc' lv' st' σ' => nx mc ms pc' lv' st' Λ σ') (cl Λ) (fun _ _ => False) pc lv st σ
/-- every reference is to a place below n, or to one of the fixed ones -/
def jn_rf (n q : Nat) : Bool := Nat.ble (q + 1) n || Nat.ble 800 q
def jn_rv (n : Nat) : Value → Bool
  | .ref q => jn_rf n q
  | _ => true
def jn_rl (n : Nat) : List (Option (Option Nat)) → Bool
  | [] => true
  | some (some q) :: t => jn_rf n q && jn_rl n t
  | _ :: t => jn_rl n t
def jn_rL (n : Nat) : List jx_Lc → Bool
  | [] => true
  | .inl o :: t => jn_rl n o.2 && jn_rL n t
  | .inr _ :: t => jn_rL n t
def jn_rs (n : Nat) : List Value → Bool
  | [] => true
  | v :: t => jn_rv n v && jn_rs n t
def jn_rq (n : Nat) : jx_Lv → Bool
  | [] => true
  | v :: t => jn_rv n v.2 && jn_rq n t
def jn_ok (lv : jx_Lv) (st : List Value) (Λ : List jx_Lc) : Bool := Nat.ble (Λ.length + 1) 800 && (jn_rL Λ.length Λ && (jn_rs Λ.length st && jn_rq Λ.length lv))
def jn_z (σ : jx_St) (n : Nat) : jx_St := fun p => bif Nat.beq p n then (fun _ => 0) else σ p
theorem jn_rv_eq {n : Nat} {ρ ρ' : Nat → Nat} (h : jn_ag n ρ ρ') {v : Value} (hv : jn_rv n v = true) : jx_v ρ' v = jx_v ρ v := by
  cases v with
  | ref q =>
    have h1 : jn_rf n q = true := hv
    unfold jn_rf at h1
    rw [Bool.or_eq_true] at h1
    show Value.ref (ρ' q) = Value.ref (ρ q)
    rw [h q (by rcases h1 with h1 | h1; exact Or.inl (Nat.le_of_ble_eq_true h1); exact Or.inr (Nat.le_of_ble_eq_true h1))]
  | _ => rfl
theorem jn_rs_eq {n : Nat} {ρ ρ' : Nat → Nat} (h : jn_ag n ρ ρ') : ∀ {st : List Value}, jn_rs n st = true → st.map (jx_v ρ') = st.map (jx_v ρ)
  | [], _ => rfl
  | v :: t, hv => by
    unfold jn_rs at hv
    rw [Bool.and_eq_true] at hv
    rw [List.map_cons, List.map_cons, jn_rv_eq h hv.1, jn_rs_eq h hv.2]
theorem jn_rq_eq {n : Nat} {ρ ρ' : Nat → Nat} (h : jn_ag n ρ ρ') : ∀ {lv : jx_Lv}, jn_rq n lv = true → lv.map (jx_q ρ') = lv.map (jx_q ρ)
  | [], _ => rfl
  | v :: t, hv => by
    unfold jn_rq at hv
    rw [Bool.and_eq_true] at hv
    rw [List.map_cons, List.map_cons, jn_rq_eq h hv.2]
    unfold jx_q
    rw [jn_rv_eq h hv.1]
theorem jn_rl_at {n q : Nat} : ∀ {fs : List (Option (Option Nat))} {j : Nat}, jn_rl n fs = true → fs[j]? = some (some (some q)) → jn_rf n q = true
  | [], _, _, h => by simp at h
  | o :: t, 0, h, e => by
    have e1 : o = some (some q) := by simpa using e
    subst e1
    unfold jn_rl at h
    rw [Bool.and_eq_true] at h
    exact h.1
  | o :: t, j + 1, h, e => by
    have e1 : t[j]? = some (some (some q)) := by simpa using e
    have h1 : jn_rl n t = true := by
      unfold jn_rl at h
      split at h
      · rename_i e2; cases e2
      · rename_i e2
        cases e2
        rw [Bool.and_eq_true] at h
        exact h.2
      · rename_i e2
        cases e2
        exact h
    exact jn_rl_at h1 e1
def jn_u (ρ : Nat → Nat) (n q : Nat) : Nat → Nat := fun i => bif Nat.beq i n then q else ρ i
theorem jn_u_eq (ρ : Nat → Nat) (n q : Nat) : jn_u ρ n q n = q := by simp [jn_u]
theorem jn_u_ne (ρ : Nat → Nat) {n i : Nat} (q : Nat) (h : i ≠ n) : jn_u ρ n q i = ρ i := by simp [jn_u, jx_bne h]
theorem jn_u_ag (ρ : Nat → Nat) {n : Nat} (q : Nat) (h : n < 800) : jn_ag n ρ (jn_u ρ n q) := fun i hi => jn_u_ne ρ q (by omega)
theorem jn_ag_trans {n n' : Nat} {ρ ρ' ρ'' : Nat → Nat} (h : jn_ag n ρ ρ') (h' : jn_ag n' ρ' ρ'') (hn : n ≤ n') : jn_ag n ρ ρ'' := fun i hi => (h' i (by omega)).trans (h i hi)
def jn_cc (n : Nat) : jx_Lc → Bool
  | .inl o => jn_rl n o.2
  | .inr _ => true
theorem jn_rL_at {n : Nat} {c : jx_Lc} : ∀ {Λ : List jx_Lc} {j : Nat}, jn_rL n Λ = true → Λ[j]? = some c → jn_cc n c = true
  | [], _, _, h => by simp at h
  | o :: t, 0, h, e => by
    have e1 : o = c := by simpa using e
    subst e1
    cases o with
    | inl o => unfold jn_rL at h; rw [Bool.and_eq_true] at h; exact h.1
    | inr m => rfl
  | o :: t, j + 1, h, e => by
    have e1 : t[j]? = some c := by simpa using e
    have h1 : jn_rL n t = true := by
      cases o with
      | inl o => unfold jn_rL at h; rw [Bool.and_eq_true] at h; exact h.2
      | inr m => unfold jn_rL at h; exact h
    exact jn_rL_at h1 e1
theorem jn_ceq {n p : Nat} {ρ ρ' : Nat → Nat} {cA : ClassId} {σ σ' : jx_St} (hag : jn_ag n ρ ρ') (hσ : σ' p = σ p) {c : jx_Lc} (hc : jn_cc n c = true) : jx_ce ρ' cA σ' p c = jx_ce ρ cA σ p c := by
  cases c with
  | inr m => show (Sum.inl (cA, m, Sum.inl (σ' p)) : va_E) = _; rw [hσ]; rfl
  | inl o =>
    show (Sum.inr (o.1, o.2.mapIdx (jx_fd ρ' σ' p)) : va_E) = Sum.inr (o.1, o.2.mapIdx (jx_fd ρ σ p))
    congr 2
    apply List.ext_getElem?
    intro j
    rw [List.getElem?_mapIdx, List.getElem?_mapIdx]
    cases h1 : o.2[j]? with
    | none => rfl
    | some x =>
      rcases x with _ | _ | q
      · simp [jx_fd, hσ]
      · rfl
      · have h2 := jn_rl_at (show jn_rl n o.2 = true from hc) h1
        have h3 : jx_v ρ' (.ref q) = jx_v ρ (.ref q) := jn_rv_eq hag h2
        simp only [Option.map_some, jx_fd]
        exact congrArg some h3
theorem jn_Wag {n : Nat} {ρ ρ' : Nat → Nat} {cA : ClassId} {Λ : List jx_Lc} {σ σ' : jx_St} (hag : jn_ag n ρ ρ') (hn : Λ.length ≤ n) (hσ : ∀ p, p < Λ.length → σ' p = σ p) (hL : jn_rL n Λ = true) : jx_W ρ' cA Λ σ' = jx_W ρ cA Λ σ := by
  apply List.ext_getElem?
  intro j
  rw [jx_Wg, jx_Wg]
  cases h1 : Λ[j]? with
  | none => rfl
  | some x =>
    have hj := (List.getElem?_eq_some_iff.mp h1).1
    simp only [Option.map_some]
    rw [jn_ceq hag (hσ j hj) (jn_rL_at hL h1), hag j (Or.inl (by omega))]
theorem jn_Wpush {ρ : Nat → Nat} {q : Nat} {cA : ClassId} {Λ : List jx_Lc} {σ : jx_St} {c : jx_Lc} (h8 : Λ.length < 800) (hL : jn_rL Λ.length Λ = true) : jx_W (jn_u ρ Λ.length q) cA (Λ ++ [c]) (jn_z σ Λ.length) = jx_W ρ cA Λ σ ++ [(q, jx_ce (jn_u ρ Λ.length q) cA (jn_z σ Λ.length) Λ.length c)] := by
  have e1 : jx_W (jn_u ρ Λ.length q) cA Λ (jn_z σ Λ.length) = jx_W ρ cA Λ σ := jn_Wag (jn_u_ag ρ q h8) (Nat.le_refl _) (fun p hp => by simp [jn_z, jx_bne (Nat.ne_of_lt hp)]) hL
  rw [← e1]
  unfold jx_W
  rw [List.mapIdx_append]
  congr 1
  simp [jn_u_eq]
theorem jn_inj_push {ρ : Nat → Nat} {q : Nat} {Λ : List jx_Lc} {c : jx_Lc} (h : jx_inj ρ Λ) (hq : ∀ i, i < Λ.length → ρ i ≠ q) : jx_inj (jn_u ρ Λ.length q) (Λ ++ [c]) := by
  intro i j hi hj e
  simp only [List.length_append, List.length_cons, List.length_nil] at hi hj
  by_cases h1 : i = Λ.length
  · by_cases h2 : j = Λ.length
    · omega
    · rw [h1, jn_u_eq, jn_u_ne ρ q h2] at e
      exact absurd e.symm (hq j (by omega))
  · by_cases h2 : j = Λ.length
    · rw [h2, jn_u_eq, jn_u_ne ρ q h1] at e
      exact absurd e (hq i (by omega))
    · rw [jn_u_ne ρ q h1, jn_u_ne ρ q h2] at e
      exact h i j (by omega) (by omega) e
theorem jn_Zag {ρ0 ρ : Nat → Nat} {n0 : Nat} {A : Nat → Prop} {tb : jx_Tb} {U : State} {H : Heap} (hag : jn_ag n0 ρ0 ρ) (ht : ∀ p n f, tb p = some (n, f) → 800 ≤ p) (h : jx_Z ρ0 A tb U H) : jx_Z ρ A tb U H := by
  refine ⟨fun z hz => ?_, fun p n f hp => ?_⟩
  · rw [hag z.1 (Or.inr (jx_zs8 z hz))]
    exact h.1 z hz
  · rw [hag p (Or.inr (ht p n f hp))]
    exact h.2 p n f hp
theorem jn_lift {k pc : Nat} {sp : jx_Sp} (hs : jx_Snd k pc sp) : jn_Snd k pc (jn_of sp) := by
  intro l D cA ρ0 n0 A tb d Q p e R s m args below meth c QW X hmi hret htb nx mc ms lv st Λ σ hn h
  intro ρ H locs ls cells slots HH hl hc1 hc2
  obtain ⟨hag, hn0, hinj, hAi, hP, hS⟩ := HH
  obtain ⟨hx, hb, hml, hown, hts, ⟨r1, r2⟩, ⟨hK1, hK2, hK3⟩, hA, ht8⟩ := X
  have X' : jx_X D cA ρ Λ A tb (d + 1) k p R s m args c cells slots := ⟨hx, hb, hml, hown, hts, ⟨r1, r2, by omega, by omega⟩, ⟨hK1, hinj, jn_Zag hag ht8 hK2, hK3⟩, hAi⟩
  refine hs l D cA ρ Λ A tb d (fun _ _ => False) p e R s m args below meth c cells slots QW X' (fun _ _ _ _ _ _ _ q _ _ => False.elim q) (fun pc' lv' st' σ' => nx mc ms pc' lv' st' Λ σ') _ lv st σ htb ?_ (fun k' as σ K z => z ρ) h H locs ls hP hS hl
  intro pc' lv' st' σ' q H' locs' ls' hP' hS' hl'
  exact hn _ _ _ _ _ _ _ q ρ H' locs' ls' cells slots ⟨hag, hn0, hinj, hAi, hP', hS'⟩ hl' hc1 hc2
theorem jn_okd {lv : jx_Lv} {st : List Value} {Λ : List jx_Lc} (h : jn_ok lv st Λ = true) : Λ.length < 800 ∧ jn_rL Λ.length Λ = true ∧ jn_rs Λ.length st = true ∧ jn_rq Λ.length lv = true := by
  unfold jn_ok at h
  rw [Bool.and_eq_true, Bool.and_eq_true, Bool.and_eq_true] at h
  exact ⟨Nat.le_of_ble_eq_true h.1, h.2.1, h.2.2.1, h.2.2.2⟩
/-- a pushed cell: the place of the heap behind it -/
theorem jn_pushH {D : va_G} {cA : ClassId} {ρ0 : Nat → Nat} {n0 : Nat} {A : Nat → Prop} {s : State} {ρ : Nat → Nat} {Λ : List jx_Lc} {σ : jx_St} {H H1 : Heap} {locs : List Loc} {q : Nat} {c : jx_Lc} (HH : jn_H D cA ρ0 n0 A s ρ Λ σ H locs) (h8 : Λ.length < 800) (hL : jn_rL Λ.length Λ = true)
    (hP : va_P D jx_cl (jx_W ρ cA Λ σ ++ [(q, jx_ce (jn_u ρ Λ.length q) cA (jn_z σ Λ.length) Λ.length c)]) H1) (hD : va_D A (jx_W ρ cA Λ σ ++ [(q, jx_ce (jn_u ρ Λ.length q) cA (jn_z σ Λ.length) Λ.length c)])) (hS : va_S A s.heap H1 locs) : jn_H D cA ρ0 n0 A s (jn_u ρ Λ.length q) (Λ ++ [c]) (jn_z σ Λ.length) H1 locs := by
  obtain ⟨hag, hn0, hinj, hAi, -, -⟩ := HH
  have hlen : (jx_W ρ cA Λ σ).length = Λ.length := by simp [jx_W]
  have hlast : (jx_W ρ cA Λ σ ++ [(q, jx_ce (jn_u ρ Λ.length q) cA (jn_z σ Λ.length) Λ.length c)])[Λ.length]? = some (q, jx_ce (jn_u ρ Λ.length q) cA (jn_z σ Λ.length) Λ.length c) := by
    rw [List.getElem?_append_right (by omega), hlen, Nat.sub_self]; rfl
  have hq : ∀ i, i < Λ.length → ρ i ≠ q := by
    intro i hi e
    have h1 : (jx_W ρ cA Λ σ ++ [(q, jx_ce (jn_u ρ Λ.length q) cA (jn_z σ Λ.length) Λ.length c)])[i]? = some (ρ i, jx_ce ρ cA σ i (Λ[i])) := by
      rw [List.getElem?_append_left (by omega)]
      exact jx_Wat (List.getElem?_eq_getElem hi)
    have := hD.1 i Λ.length _ _ h1 hlast e
    omega
  refine ⟨jn_ag_trans hag (jn_u_ag ρ q h8) hn0, by simp; omega, jn_inj_push hinj hq, ?_, ?_, hS⟩
  · intro i hi
    simp only [List.length_append, List.length_cons, List.length_nil] at hi
    by_cases h1 : i = Λ.length
    · rw [h1, jn_u_eq]
      exact hD.2 Λ.length _ hlast
    · rw [jn_u_ne ρ q h1]
      exact hAi i (by omega)
  · rw [jn_Wpush h8 hL]
    exact hP
theorem jn_u_lv {ρ : Nat → Nat} {n q : Nat} {lv : jx_Lv} {ls : Array Slot} {nL : Nat} (h8 : n < 800) (h : jn_rq n lv = true) (hl : lv_has ls nL (lv.map (jx_q ρ))) : lv_has ls nL (lv.map (jx_q (jn_u ρ n q))) := by
  rw [jn_rq_eq (jn_u_ag ρ q h8) h]
  exact hl
end
section
/-! Constructors: the steps that make cells, and calls of constructors -/
section JNS
variable {k pc : Nat}
def jn_dv : Option (Option Nat) → Value
  | none => .int 0
  | some _ => .null
def jn_nr : List (Option (Option Nat)) → Bool
  | [] => true
  | some (some _) :: _ => false
  | _ :: t => jn_nr t
theorem jn_nr_at {q : Nat} : ∀ {fs : List (Option (Option Nat))} {j : Nat}, jn_nr fs = true → fs[j]? = some (some (some q)) → False
  | [], _, _, h => by simp at h
  | o :: t, 0, h, e => by
    have e1 : o = some (some q) := by simpa using e
    subst e1
    cases h
  | o :: t, j + 1, h, e => by
    have e1 : t[j]? = some (some (some q)) := by simpa using e
    have h1 : jn_nr t = true := by
      rcases o with _ | _ | x
      · exact h
      · exact h
      · cases h
    exact jn_nr_at h1 e1
theorem jn_dvm {ρ : Nat → Nat} {σ : jx_St} {p : Nat} {fs : List (Option (Option Nat))} (h : jn_nr fs = true) (hσ : ∀ i, σ p i = 0) : fs.mapIdx (jx_fd ρ σ p) = fs.map jn_dv := by
  apply List.ext_getElem?
  intro j
  rw [List.getElem?_mapIdx, List.getElem?_map]
  cases h1 : fs[j]? with
  | none => rfl
  | some x =>
    rcases x with _ | _ | q
    · simp [jx_fd, jn_dv, hσ]
    · rfl
    · exact (jn_nr_at h h1).elim
def jn_new (ci N : Nat) (fs : List (Option (Option Nat))) : jn_Sp := fun _ nx _ _ _ mc ms pc lv st Λ σ =>
  bif jn_ok lv st Λ && (Nat.ble 1 mc && Nat.ble N ms) then nx (mc - 1) (ms - N) (pc + 3) lv (.ref Λ.length :: st) (Λ ++ [.inl (ci, fs)]) (jn_z σ Λ.length) else False
theorem jno_new {own C : String} {T : u_T} {N ix ci : Nat} {fs : List (Option (Option Nat))} {tt : Nat → FieldType} (ho : (jx_y k).cls = own) (hcl : jx_cl[ci]? = some (C, T, N)) (hws : ∀ w ∈ u_ws C T N, w ∈ jx_gw) (hty : ∀ a, a < N → parseFieldDescriptor (T a).2.2.1 = some (tt a)) (hclk : Cond.classLink own ix C ∈ jx_gw) (hins : Cond.instantiable C N ∈ jx_gw) (hini : Cond.initialized C ∈ jx_gw)
    (hnr : jn_nr fs = true) (hfs : ∀ j, j < N → defaultValue (tt j) = vp_V (fs.map jn_dv) j) (hd : decode (jx_b k) pc = .ok (.new ix, 3)) : jn_Snd k pc (jn_new ci N fs) := by
  intro l D cA ρ0 n0 A tb d Q p e R s m args below meth c QW X hmi hret htb nx mc ms lv st Λ σ hn h
  subst ho
  unfold jn_new at h
  cases hc : jn_ok lv st Λ && (Nat.ble 1 mc && Nat.ble N ms) with
  | false => rw [hc] at h; exact False.elim h
  | true =>
    rw [hc] at h
    rw [Bool.and_eq_true, Bool.and_eq_true] at hc
    obtain ⟨h8, hL, hrs, hrq⟩ := jn_okd hc.1
    have g1 := Nat.le_of_ble_eq_true hc.2.1
    have g2 := Nat.le_of_ble_eq_true hc.2.2
    intro ρ H locs ls cells slots HH hl hc1 hc2
    obtain ⟨hag, hn0, hinj, hAi, hP, hS⟩ := HH
    obtain ⟨hx, hb, hml, hown, hts, ⟨r1, r2⟩, ⟨hK1, hK2, hK3⟩, hA, ht8⟩ := X
    refine va_new (ci := ci) (fs := fs.map jn_dv) (C := C) (T := T) (N := N) hx hb hts hws tt hty hown (hts _ hclk) (hts _ hins) (hts _ hini) hK1 hP (jx_D hinj hAi) hS hA hcl hfs (by omega) (by omega) hd (fun q H1 hP1 hD1 hS1 => ?_)
    have e1 : jx_ce (jn_u ρ Λ.length q) cA (jn_z σ Λ.length) Λ.length (.inl (ci, fs)) = .inr (ci, fs.map jn_dv) := by
      show (Sum.inr (ci, fs.mapIdx (jx_fd (jn_u ρ Λ.length q) (jn_z σ Λ.length) Λ.length)) : va_E) = _
      rw [jn_dvm hnr (fun i => by simp [jn_z])]
    rw [← e1] at hP1 hD1
    have HH1 := jn_pushH ⟨hag, hn0, hinj, hAi, hP, hS⟩ h8 hL hP1 hD1 hS1
    have h9 := hn _ _ _ _ _ _ _ h (jn_u ρ Λ.length q) H1 locs ls (cells + 1) (slots + N) HH1 (jn_u_lv h8 hrq hl) (by omega) (by omega)
    rw [List.map_cons, jn_rs_eq (jn_u_ag ρ q h8) hrs] at h9
    have e2 : jx_v (jn_u ρ Λ.length q) (.ref Λ.length) = .ref q := congrArg Value.ref (jn_u_eq ρ Λ.length q)
    rw [e2] at h9
    exact h9
def jn_newa : jn_Sp := fun _ nx _ _ _ mc ms pc lv st Λ σ => match st with
  | .int v :: rest => ¬ v < 0 ∧ v.toNatClampNeg ≤ 1000 ∧ (bif jn_ok lv rest Λ && (Nat.ble 1 mc && Nat.ble v.toNatClampNeg ms) then nx (mc - 1) (ms - v.toNatClampNeg) (pc + 2) lv (.ref Λ.length :: rest) (Λ ++ [.inr v.toNatClampNeg]) (jn_z σ Λ.length) else False)
  | _ => False
theorem jno_newa {at_ : ArrayType} (hat : newarray.typeOf at_ = .int) (harr : Cond.arrayClass .int ∈ jx_gw) (hd : decode (jx_b k) pc = .ok (.newarray at_, 2)) : jn_Snd k pc jn_newa := by
  intro l D cA ρ0 n0 A tb d Q p e R s m args below meth c QW X hmi hret htb nx mc ms lv st Λ σ hn h
  unfold jn_newa at h
  split at h
  · rename_i v rest
    obtain ⟨hv, hv2, h⟩ := h
    cases hc : jn_ok lv rest Λ && (Nat.ble 1 mc && Nat.ble v.toNatClampNeg ms) with
    | false => rw [hc] at h; exact False.elim h
    | true =>
      rw [hc] at h
      rw [Bool.and_eq_true, Bool.and_eq_true] at hc
      obtain ⟨h8, hL, hrs, hrq⟩ := jn_okd hc.1
      have g1 := Nat.le_of_ble_eq_true hc.2.1
      have g2 := Nat.le_of_ble_eq_true hc.2.2
      intro ρ H locs ls cells slots HH hl hc1 hc2
      obtain ⟨hag, hn0, hinj, hAi, hP, hS⟩ := HH
      obtain ⟨hx, hb, hml, hown, hts, ⟨r1, r2⟩, ⟨hK1, hK2, hK3⟩, hA, ht8⟩ := X
      refine va_newa (a0 := (v.toNatClampNeg, .inl (fun _ => 0))) (N' := v.toNatClampNeg) hx hb (by rw [hat]; exact hts _ harr) hat hK1 hP (jx_D hinj hAi) hS hA (fun cA' => rfl) hv rfl (by rw [show componentBytes FieldType.int = 4 from rfl]; omega) (by omega) (by omega) hd (fun q cA' H1 hK' hP1 hD1 hS1 => ?_)
      have ec : cA' = cA := by
        have a1 : s.vm.findClass ("[" ++ FieldType.int.toString) = some cA := (hK'.2 0 (cA, .int) rfl).2
        have a2 : s.vm.findClass ("[" ++ FieldType.int.toString) = some cA' := (hK'.2 1 (cA', .int) rfl).2
        exact Option.some.inj (a2.symm.trans a1)
      subst ec
      have e1 : jx_ce (jn_u ρ Λ.length q) cA' (jn_z σ Λ.length) Λ.length (.inr v.toNatClampNeg) = .inl (cA', v.toNatClampNeg, .inl (fun _ => 0)) := by
        show (Sum.inl (cA', v.toNatClampNeg, Sum.inl (jn_z σ Λ.length Λ.length)) : va_E) = _
        have : jn_z σ Λ.length Λ.length = fun _ => 0 := by simp [jn_z]
        rw [this]
      rw [← e1] at hP1 hD1
      have HH1 := jn_pushH ⟨hag, hn0, hinj, hAi, hP, hS⟩ h8 hL hP1 hD1 hS1
      have h9 := hn _ _ _ _ _ _ _ h (jn_u ρ Λ.length q) H1 locs ls (cells + 1) (slots + v.toNatClampNeg) HH1 (jn_u_lv h8 hrq hl) (by omega) (by omega)
      rw [List.map_cons, jn_rs_eq (jn_u_ag ρ q h8) hrs] at h9
      have e2 : jx_v (jn_u ρ Λ.length q) (.ref Λ.length) = .ref q := congrArg Value.ref (jn_u_eq ρ Λ.length q)
      rw [e2] at h9
      exact h9
  · exact False.elim h
def jn_set (Λ : List jx_Lc) (p f q : Nat) : List jx_Lc := match Λ[p]? with
  | some (.inl o) => Λ.set p (.inl (o.1, o.2.set f (some (some q))))
  | _ => Λ
theorem jn_Wputr {ρ : Nat → Nat} {cA : ClassId} {Λ : List jx_Lc} {σ : jx_St} {p ci f q : Nat} {fs : List (Option (Option Nat))} (h : Λ[p]? = some (.inl (ci, fs))) :
    (jx_W ρ cA Λ σ).set p (ρ p, .inr (ci, (fs.mapIdx (jx_fd ρ σ p)).set f (.ref (ρ q)))) = jx_W ρ cA (Λ.set p (.inl (ci, fs.set f (some (some q))))) σ := by
  have hp := (List.getElem?_eq_some_iff.mp h).1
  apply List.ext_getElem?
  intro j
  by_cases hj : j = p
  · subst hj
    have hl : j < (jx_W ρ cA Λ σ).length := by simpa [jx_W] using hp
    rw [List.getElem?_set_self hl, jx_Wg, List.getElem?_set_self hp]
    show _ = some (ρ j, (Sum.inr (ci, (fs.set f (some (some q))).mapIdx (jx_fd ρ σ j)) : va_E))
    congr 4
    apply List.ext_getElem?
    intro i
    by_cases hi : i = f
    · subst hi
      by_cases hl2 : i < fs.length
      · rw [List.getElem?_set_self (by simpa using hl2), List.getElem?_mapIdx, List.getElem?_set_self hl2]
        rfl
      · rw [List.getElem?_eq_none (by simpa using hl2), List.getElem?_eq_none (by simpa using hl2)]
    · rw [List.getElem?_set_ne (Ne.symm hi), List.getElem?_mapIdx, List.getElem?_mapIdx, List.getElem?_set_ne (Ne.symm hi)]
  · rw [List.getElem?_set_ne (Ne.symm hj), jx_Wg, jx_Wg, List.getElem?_set_ne (Ne.symm hj)]
/-- a final reference field in the class's own constructor -/
def jn_putr (ci f : Nat) : jn_Sp := fun _ nx _ _ _ mc ms pc lv st Λ σ => match st with
  | .ref q :: .ref p :: rest => match Λ[p]? with
    | some (.inl o) => bif Nat.beq o.1 ci && Nat.ble (f + 1) o.2.length then nx mc ms (pc + 3) lv rest (Λ.set p (.inl (o.1, o.2.set f (some (some q))))) σ else False
    | _ => False
  | _ => False
theorem jno_putr {own : String} {ix ci f : Nat} {ty : FieldType} (ho : (jx_y k).cls = own) (hni : (jx_y k).name = "<init>") (hf : jx_fo own ix ci f ty) (hfi : ∀ C T N, jx_cl[ci]? = some (C, T, N) → (T f).2.2.2 = true ∧ (T f).1 = own) (hplain : ∃ C T N, jx_cl[ci]? = some (C, T, N) ∧ Cond.fieldLink own ix (T f).1 (T f).2.1 (T f).2.2.1 ∈ jx_gw) (hr : ∀ a : Nat, narrow ty (.ref a) = .ref a ∧ fits ty (.ref a) = true) (hd : decode (jx_b k) pc = .ok (.putfield ix, 3)) : jn_Snd k pc (jn_putr ci f) := by
  intro l D cA ρ0 n0 A tb d Q p e R s m args below meth c QW X hmi hret htb nx mc ms lv st Λ σ hn h
  subst ho
  obtain ⟨C, T, N, tt, hcl, hfN, hws, hty, hnm, htf, -⟩ := hf
  obtain ⟨C', T', N', hcl', hlk⟩ := hplain
  cases hcl.symm.trans hcl'
  unfold jn_putr at h
  split at h
  · rename_i a q rest
    cases hL : Λ[q]? with
    | none => rw [hL] at h; exact False.elim h
    | some o =>
      rw [hL] at h
      cases o with
      | inr n => exact False.elim h
      | inl o =>
        obtain ⟨ci', fs⟩ := o
        dsimp only at h
        cases hc : Nat.beq ci' ci && Nat.ble (f + 1) fs.length with
        | false => rw [hc] at h; exact False.elim h
        | true =>
          rw [hc] at h
          rw [Bool.and_eq_true] at hc
          have e0 := Nat.eq_of_beq_eq_true hc.1
          subst e0
          have hfl := Nat.le_of_ble_eq_true hc.2
          intro ρ H locs ls cells slots HH hl hc1 hc2
          obtain ⟨hag, hn0, hinj, hAi, hP, hS⟩ := HH
          obtain ⟨hx, hb, hml, hown, hts, ⟨r1, r2⟩, ⟨hK1, hK2, hK3⟩, hA, ht8⟩ := X
          have hW := jx_Wat (ρ := ρ) (cA := cA) (σ := σ) hL
          refine va_putF (v := .ref (ρ a)) hx hb hts hws tt hty hnm hown hK1 hP (jx_D hinj hAi) hS q hW hcl f hfN (hts _ hlk) (fun _ z => z) (hfi C T N hcl).1 (hmi hni) (hfi C T N hcl).2 (by rw [hty f hfN, htf]) (hr _).1 (hr _).2 (by rw [List.length_mapIdx]; exact hfl) hd (fun H1 locs1 hP1 hD1 hS1 => ?_)
          rw [jn_Wputr hL] at hP1
          exact hn _ _ _ _ _ _ _ h ρ H1 locs1 ls cells slots ⟨hag, by simpa using hn0, fun i j hi hj => hinj i j (by simpa using hi) (by simpa using hj), fun i hi => hAi i (by simpa using hi), hP1, hS1⟩ hl hc1 hc2
  · exact False.elim h
def jn_obj : jn_Sp := fun _ nx _ _ _ mc ms pc lv st Λ σ => match st with
  | .ref _ :: rest => bif Nat.ble (jx_ct rest) 8 then nx mc ms (pc + 3) lv rest Λ σ else False
  | _ => False
theorem jno_obj {own : String} {ix : Nat} (ho : (jx_y k).cls = own) (hlk : Cond.methodLink own ix Lib.objectInit ∈ jx_gw) (hin : Cond.instanceMethod Lib.objectInit ∈ jx_gw) (hco : Cond.code Lib.objectInit ⟨#[0xb1]⟩ 1 none ∈ jx_gw) (hd : decode (jx_b k) pc = .ok (.invokespecial ix, 3)) : jn_Snd k pc jn_obj := by
  intro l D cA ρ0 n0 A tb d Q p e R s m args below meth c QW X hmi hret htb nx mc ms lv st Λ σ hn h
  subst ho
  unfold jn_obj at h
  split at h
  · rename_i a rest
    cases hcr : Nat.ble (jx_ct rest) 8 with
    | false => rw [hcr] at h; exact False.elim h
    | true =>
      rw [hcr] at h
      intro ρ H locs ls cells slots HH hl hc1 hc2
      obtain ⟨hx, hb, hml, hown, hts, ⟨r1, r2⟩, hKK, hA, ht8⟩ := X
      have h8 : ((rest.map (jx_v ρ)).map fun v => v.category).sum ≤ 8 := by rw [jx_catm, jx_ctm]; exact Nat.le_of_ble_eq_true hcr
      exact W.objInit (rest := rest.map (jx_v ρ)) (a := ρ a) hx hb hown (hts _ hlk) (hts _ hin) (hts _ hco) rfl (by rw [hml]; exact hl.1) rfl hd (by omega) (by show 2 * 0 + _ + 12 ≤ _; omega) (hn _ _ _ _ _ _ _ h ρ H locs ls cells slots HH hl hc1 hc2)
  · exact False.elim h
def jn_vr : jn_Sp := fun _ _ _ _ rt _ _ _ _ st Λ σ => match st with
  | [] => rt Λ σ
  | _ => False
theorem jno_vr (hd : decode (jx_b k) pc = .ok (.return_, 1)) : jn_Snd k pc jn_vr := by
  intro l D cA ρ0 n0 A tb d Q p e R s m args below meth c QW X hmi hret htb nx mc ms lv st Λ σ hn h
  unfold jn_vr at h
  split at h
  · intro ρ H locs ls cells slots HH hl hc1 hc2
    exact hret ρ H locs ls cells slots mc ms pc Λ σ hd h HH hc1 hc2
  · exact False.elim h
/-- a call of a constructor, core -/
theorem jn_callI {l : Launch} {D : va_G} {cA : ClassId} {ρ0 : Nat → Nat} {n0 : Nat} {A : Nat → Prop} {tb : jx_Tb} {d : Nat} {p : Program} {e : Env} {R : Room} {s : State} {m : MethodId} {args : Array Value} {below : List Frame} {meth : Method} {c : Code} {QW : State → Prop} {ρ : Nat → Nat} {H : Heap} {locs : List Loc} {ls : Array Slot} {cells slots mc ms mc' ms' : Nat} {lv : jx_Lv} {as rest : List Value} {q : Nat} {Λ : List jx_Lc} {σ : jx_St} {K : List jx_Lc → jx_St → Prop} {C : String} {n k' ix : Nat}
    (X : jn_X D cA ρ0 A tb (d + 1) k p R s m args c) (htb : ∀ p n f, jx_tb0 p = some (n, f) → tb p = some (n, f)) (HH : jn_H D cA ρ0 n0 A s ρ Λ σ H locs) (hl : lv_has ls (jx_nL k) (lv.map (jx_q ρ))) (hc1 : cells + mc ≤ R.cells) (hc2 : slots + ms ≤ R.slots)
    (hok : jx_ok k' C n) (hln : jx_ln (jx_y k).cls ix k') (hin : Cond.instanceMethod (jx_y k') ∈ jx_gw) (hyn : (jx_y k').name = "<init>") (hrn : jx_ret k' = none) (hd : decode (jx_b k) pc = .ok (.invokespecial ix, 3)) (hn : as.length = n) (hrest : jx_ct rest ≤ 8) (hv : jn_ok lv rest Λ = true) (hm : mc' ≤ mc ∧ ms' ≤ ms) (hC : jn_C l D cA d k' mc' ms' (.ref q :: as) Λ σ K)
    (kk : ∀ Λ' σ', K Λ' σ' → jn_I l D cA ρ0 n0 A k p e R s m args below meth c QW (mc - mc') (ms - ms') (pc + 3) lv rest Λ' σ') :
    W p l e R s m args below meth c H locs cells slots QW (F0 m pc ls ((as.reverse ++ .ref q :: rest).map (jx_v ρ))) := by
  obtain ⟨hag, hn0, hinj, hAi, hP, hS⟩ := HH
  obtain ⟨hx, hb, hml, hown, hts, ⟨r1, r2⟩, ⟨hK1, hK2, hK3⟩, hA, ht8⟩ := X
  obtain ⟨hcw, hiw, ⟨hyC, hy1, hy2, hnp⟩, hmx⟩ := hok
  obtain ⟨h8, hL, hrs, hrq⟩ := jn_okd hv
  have hG : GoodIn jx_gw (jx_ws k') := jx_G hcw
  have hini : (Cond.initialized (jx_y k').cls).before args s = true := by rw [hyC]; exact hts _ hiw
  have hR : (jn_rm d mc' ms').frames + 1 ≤ R.frames ∧ 8 + (jx_nL k' + 11) + (jn_rm d mc' ms').locals ≤ R.locals := ⟨r1, by show 8 + (jx_nL k' + 11) + 40 * d ≤ _; omega⟩
  have hAA : ∀ x, jn_A ρ Λ H.size x → A x := fun x z => by
    rcases z with ⟨i, hi, e⟩ | z
    · rw [e]; exact hAi i hi
    · exact hA x (Nat.le_trans hS.1 z)
  have hblind : FrameBlind (va_Pc ((Value.ref q :: as).map (jx_v ρ)) (fun U => U.heap.size = H.size ∧ va_P D jx_cl (jx_W ρ cA Λ σ) U.heap ∧ jx_K D cA ρ Λ (jn_A ρ Λ H.size) jx_tb0 U)) := fun _ _ _ _ z => ⟨z.1, z.2.1, z.2.2.1, jx_K_calling z.2.2.2⟩
  have hKs : jx_K D cA ρ Λ A tb s := ⟨hK1, hinj, jn_Zag hag ht8 hK2, hK3⟩
  have hpre : PreS s H (va_Pc ((Value.ref q :: as).map (jx_v ρ)) (fun U => U.heap.size = H.size ∧ va_P D jx_cl (jx_W ρ cA Λ σ) U.heap ∧ jx_K D cA ρ Λ (jn_A ρ Λ H.size) jx_tb0 U)) (.ref (ρ q) :: as.map (jx_v ρ)) :=
    ⟨hblind, fun U hU hW => ⟨rfl, by rw [hU], by rw [hU]; exact hP, jx_K_sub (jx_K_at hKs hS hU hW) hAA htb⟩⟩
  have hst : (F0 m pc ls ((as.reverse ++ .ref q :: rest).map (jx_v ρ))).stack = (as.map (jx_v ρ)).reverse ++ .ref (ρ q) :: rest.map (jx_v ρ) := by
    show (as.reverse ++ .ref q :: rest).map (jx_v ρ) = _
    rw [List.map_append, List.map_reverse]
    rfl
  have hrun : va_Run p l e R s m args below meth c H locs cells slots mc' ms' (F0 m pc ls ((as.reverse ++ .ref q :: rest).map (jx_v ρ))) (rest.map (jx_v ρ)) (jn_Q D cA ρ Λ H.size K (Value.ref (ρ q) :: as.map (jx_v ρ)).toArray) (jn_A ρ Λ H.size) := by
    have hcw' : Cond.code (jx_y k') (jx_b k') (jx_nL k') none ∈ jx_ws k' := by rw [← hrn]; exact List.mem_cons_self
    have hws : jx_ws k' = Cond.code (jx_y k') (jx_b k') (jx_nL k') none :: jx_gw := by rw [← hrn]; rfl
    rcases hln with hlk | ⟨host, hlk⟩
    · exact va_runI (As := as.map (jx_v ρ)) (rest := rest.map (jx_v ρ)) ⟨hx, hb, hml, hown, hts⟩ (hC ρ H.size) ⟨callB_of n hts hG hws rfl rfl hini (hts _ hlk) ⟨hy1, hy2, hnp⟩ hR, hyn, hts _ hin⟩ hpre rfl (by rw [List.length_map]; exact hn) hl.1 hst (lv_room (by rw [jx_catm, jx_ctm]; exact hrest)) hd ⟨by omega, by omega⟩
    · exact va_runIN (As := as.map (jx_v ρ)) (rest := rest.map (jx_v ρ)) ⟨hx, hb, hml, hown, hts⟩ (hC ρ H.size) ⟨va_cnB n hts hG hws rfl rfl (hK3 _ hlk) hini ⟨hy1, hy2, hnp⟩ hR, hyn, hts _ hin⟩ hpre rfl (by rw [List.length_map]; exact hn) hl.1 hst (lv_room (by rw [jx_catm, jx_ctm]; exact hrest)) hd ⟨by omega, by omega⟩
  intro T hT XX
  obtain ⟨v, st₀, t, T', L, g0, X', hL', e1, e2, ⟨⟨Λ', σ', ρ', hv', hq, hag', hle, hinj', hAi', hP'⟩, hz, hk⟩, stp⟩ := hrun T hT XX
  have hvn : v = none := by injection hv'
  subst hvn
  rw [g0] at hz hk
  have HH' : jn_H D cA ρ0 n0 A s ρ' Λ' σ' T'.heap (locs ++ L) := by
    refine ⟨jn_ag_trans hag hag' hn0, Nat.le_trans hn0 hle, hinj', fun i hi => hAA _ (hAi' i hi), by rw [e1]; exact hP', Nat.le_trans hS.1 (by rw [e1]; exact hz), fun x h1 h2 => ?_, fun x hx => ?_⟩
    · rw [e1, hk x (Nat.lt_of_lt_of_le h1 hS.1) (fun z => h2 (hAA x z))]
      exact hS.2.1 x h1 h2
    · rcases List.mem_append.mp hx with h | h
      · exact hS.2.2 x h
      · exact hAA _ (hL' x h)
  have h9 := kk Λ' σ' hq ρ' T'.heap (locs ++ L) ls (cells + mc') (slots + ms') HH' (by rw [jn_rq_eq hag' hrq]; exact hl) (by omega) (by omega)
  rw [jn_rs_eq hag' hrs] at h9
  obtain ⟨t2, a1, b1⟩ := h9 T' rfl X'
  exact ⟨t2, stp t2 a1, b1⟩
def jn_i0 (k' mc' ms' : Nat) : jn_Sp := fun _ nx _ cn _ mc ms pc lv st Λ σ => match st with
  | .ref q :: rest => bif Nat.ble (jx_ct rest) 8 && (jn_ok lv rest Λ && (Nat.ble mc' mc && Nat.ble ms' ms)) then cn k' mc' ms' [.ref q] Λ σ (fun Λ' σ' => nx (mc - mc') (ms - ms') (pc + 3) lv rest Λ' σ') else False
  | _ => False
def jn_i1 (k' mc' ms' : Nat) : jn_Sp := fun _ nx _ cn _ mc ms pc lv st Λ σ => match st with
  | a1 :: .ref q :: rest => bif Nat.ble (jx_ct rest) 8 && (jn_ok lv rest Λ && (Nat.ble mc' mc && Nat.ble ms' ms)) then cn k' mc' ms' [.ref q, a1] Λ σ (fun Λ' σ' => nx (mc - mc') (ms - ms') (pc + 3) lv rest Λ' σ') else False
  | _ => False
theorem jno_i0 {own C : String} {ix k' mc' ms' : Nat} (ho : (jx_y k).cls = own) (hok : jx_ok k' C 0) (hln : jx_ln own ix k') (hin : Cond.instanceMethod (jx_y k') ∈ jx_gw) (hyn : (jx_y k').name = "<init>") (hrn : jx_ret k' = none) (hd : decode (jx_b k) pc = .ok (.invokespecial ix, 3)) : jn_Snd k pc (jn_i0 k' mc' ms') := by
  intro l D cA ρ0 n0 A tb d Q p e R s m args below meth c QW X hmi hret htb nx mc ms lv st Λ σ hn h
  subst ho
  unfold jn_i0 at h
  split at h
  · rename_i q rest
    cases hc : Nat.ble (jx_ct rest) 8 && (jn_ok lv rest Λ && (Nat.ble mc' mc && Nat.ble ms' ms)) with
    | false => rw [hc] at h; exact False.elim h
    | true =>
      rw [hc] at h
      rw [Bool.and_eq_true, Bool.and_eq_true, Bool.and_eq_true] at hc
      intro ρ H locs ls cells slots HH hl hc1 hc2
      exact jn_callI (as := []) X htb HH hl hc1 hc2 hok hln hin hyn hrn hd rfl (Nat.le_of_ble_eq_true hc.1) hc.2.1 ⟨Nat.le_of_ble_eq_true hc.2.2.1, Nat.le_of_ble_eq_true hc.2.2.2⟩ h (fun Λ' σ' hq => hn _ _ _ _ _ _ _ hq)
  · exact False.elim h
theorem jno_i1 {own C : String} {ix k' mc' ms' : Nat} (ho : (jx_y k).cls = own) (hok : jx_ok k' C 1) (hln : jx_ln own ix k') (hin : Cond.instanceMethod (jx_y k') ∈ jx_gw) (hyn : (jx_y k').name = "<init>") (hrn : jx_ret k' = none) (hd : decode (jx_b k) pc = .ok (.invokespecial ix, 3)) : jn_Snd k pc (jn_i1 k' mc' ms') := by
  intro l D cA ρ0 n0 A tb d Q p e R s m args below meth c QW X hmi hret htb nx mc ms lv st Λ σ hn h
  subst ho
  unfold jn_i1 at h
  split at h
  · rename_i a1 q rest
    cases hc : Nat.ble (jx_ct rest) 8 && (jn_ok lv rest Λ && (Nat.ble mc' mc && Nat.ble ms' ms)) with
    | false => rw [hc] at h; exact False.elim h
    | true =>
      rw [hc] at h
      rw [Bool.and_eq_true, Bool.and_eq_true, Bool.and_eq_true] at hc
      intro ρ H locs ls cells slots HH hl hc1 hc2
      exact jn_callI (as := [a1]) X htb HH hl hc1 hc2 hok hln hin hyn hrn hd rfl (Nat.le_of_ble_eq_true hc.1) hc.2.1 ⟨Nat.le_of_ble_eq_true hc.2.2.1, Nat.le_of_ble_eq_true hc.2.2.2⟩ h (fun Λ' σ' hq => hn _ _ _ _ _ _ _ hq)
  · exact False.elim h
theorem jno_none (k pc : Nat) : jn_Snd k pc (fun _ _ _ _ _ _ _ _ _ _ _ _ => False) := by
  intro l D cA ρ0 n0 A tb d Q p e R s m args below meth c QW X hmi hret htb nx mc ms lv st Λ σ hn h
  exact False.elim h
theorem jno_le {n : Nat} {a b : jn_Sp} (ha : jn_Snd k pc a) (hb : jn_Snd k pc b) : jn_Snd k pc (bif Nat.ble pc n then a else b) := by
  cases Nat.ble pc n
  · exact hb
  · exact ha
def jn_none : jn_Sp := fun _ _ _ _ _ _ _ _ _ _ _ _ => False
theorem jno_at {n : Nat} {a : jn_Sp} (ha : jn_Snd k n a) : jn_Snd k pc (bif Nat.beq pc n then a else jn_none) := by
  cases h : Nat.beq pc n with
  | false => exact jno_none k pc
  | true =>
    have e := Nat.eq_of_beq_eq_true h
    subst e
    exact ha
def jn_So (k : Nat) (tab : Nat → jn_Sp) : Prop := ∀ pc, jn_Snd k pc (tab pc)
noncomputable def jn_rn (tb : jx_Tb) (tab : Nat → jn_Sp) (cl : List jx_Lc → jx_Cl) (cn : jn_Cn) (rt : List jx_Lc → jx_St → Prop) (ex : jn_Nx) (n : Nat) : jn_Nx :=
  Nat.rec (motive := fun _ => jn_Nx) ex (fun _ ih => fun mc ms pc lv st Λ σ => tab pc tb ih cl cn rt mc ms pc lv st Λ σ) n
end JNS
section JNT
variable {k : Nat} {l : Launch} {D : va_G} {cA : ClassId} {ρ0 : Nat → Nat} {n0 : Nat} {A : Nat → Prop} {tb : jx_Tb} {d : Nat} {Q : List jx_Lc → jx_St → Prop} {p : Program} {e : Env} {R : Room} {s : State} {m : MethodId} {args : Array Value} {below : List Frame} {meth : Method} {c : Code} {QW : State → Prop}
theorem jn_rnI {tab : Nat → jn_Sp} (hs : jn_So k tab) (X : jn_X D cA ρ0 A tb (d + 1) k p R s m args c) (hmi : (jx_y k).name = "<init>" → meth.name = "<init>") (hret : jn_R l D cA ρ0 n0 A k p e R s m args below meth c QW Q) (htb : ∀ p n f, jx_tb0 p = some (n, f) → tb p = some (n, f)) (ex : jn_Nx) (hex : ∀ mc' ms' pc' lv' st' Λ' σ', ex mc' ms' pc' lv' st' Λ' σ' → jn_I l D cA ρ0 n0 A k p e R s m args below meth c QW mc' ms' pc' lv' st' Λ' σ') : ∀ (n mc ms pc : Nat) (lv : jx_Lv) (st : List Value) (Λ : List jx_Lc) (σ : jx_St),
    jn_rn tb tab (fun Λ k' as σ K => ∀ ρ, jx_C l D cA ρ Λ d k' as σ K) (fun k' mc' ms' as Λ σ K => jn_C l D cA d k' mc' ms' as Λ σ K) Q ex n mc ms pc lv st Λ σ → jn_I l D cA ρ0 n0 A k p e R s m args below meth c QW mc ms pc lv st Λ σ
  | 0, mc, ms, pc, lv, st, Λ, σ, h => hex mc ms pc lv st Λ σ h
  | n + 1, mc, ms, pc, lv, st, Λ, σ, h => hs pc l D cA ρ0 n0 A tb d Q p e R s m args below meth c QW X hmi hret htb _ mc ms lv st Λ σ (jn_rnI hs X hmi hret htb ex hex n) h
/-- a constructor's contract out of its walk -/
theorem jn_in {tab : Nat → jn_Sp} (hs : jn_So k tab) (n : Nat) {mc ms : Nat} {as : List Value} {Λ : List jx_Lc} {σ : jx_St} (hp : plainName (jx_y k).cls = true) (hni : (jx_y k).name = "<init>") (hrn : jx_ret k = none) (ht8 : ∀ p n f, jx_tb0 p = some (n, f) → 800 ≤ p) (hn : (lg_sl as).length ≤ jx_nL k)
    (h : jn_rn jx_tb0 tab (fun Λ k' as σ K => ∀ ρ, jx_C l D cA ρ Λ d k' as σ K) (fun k' mc' ms' as Λ σ K => jn_C l D cA d k' mc' ms' as Λ σ K) Q (fun _ _ _ _ _ _ _ => False) n mc ms 0 (lv_args 0 as) [] Λ σ) : jn_C l D cA (d + 1) k mc ms as Λ σ Q := by
  intro ρ sz
  refine Met.ofW (cc := jx_b k) (maxL := jx_nL k) (ret := jx_ret k) hp rfl ?_
  intro p e s m args below meth c s₁ B hml hv
  obtain ⟨rfl, hsz, hP, hK⟩ := hv
  subst hsz
  have hx := B.exec
  have hb := B.bytes
  have hr := B.returns
  have hts : ∀ w ∈ jx_gw, w.before _ s = true := fun w h => atoms_spec (ws := jx_ws k) B.pre w (List.mem_cons_of_mem _ h)
  have hown : s.vm.findClass (jx_y k).cls = some m.cls := findClass_of_methodNamed B.named
  have hlocks := B.notSynchronized
  have hmi : (jx_y k).name = "<init>" → meth.name = "<init>" := fun h => by rw [← h]; exact (name_of_methodNamed B.named B.method).1
  have hl := lv_entry (as.map (jx_v ρ)) (n := jx_nL k) (by rw [jx_slm]; exact hn)
  rw [lg_entry_eq]
  generalize (lg_sl (as.map (jx_v ρ)) ++ List.replicate (jx_nL k - (lg_sl (as.map (jx_v ρ))).length) Slot.unset).toArray = ls at hl ⊢
  rw [jx_argm] at hl
  have X : jn_X D cA ρ (jn_A ρ Λ s.heap.size) jx_tb0 (d + 1) k p (headSpec (jx_ws k) (jn_rm (d + 1) mc ms)).room s m (as.map (jx_v ρ)).toArray c :=
    ⟨hx, hb, hml, hown, hts, ⟨Nat.le_refl _, Nat.le_refl _⟩, ⟨hK.1, hK.2.2.1, hK.2.2.2⟩, fun q hq => Or.inr hq, ht8⟩
  have hret : jn_R l D cA ρ Λ.length (jn_A ρ Λ s.heap.size) k p e (headSpec (jx_ws k) (jn_rm (d + 1) mc ms)).room s m (as.map (jx_v ρ)).toArray below meth c (MQ below (jn_Q D cA ρ Λ s.heap.size Q) (as.map (jx_v ρ)).toArray s mc ms (jn_A ρ Λ s.heap.size)) Q := by
    intro ρ' H locs ls cells slots mc' ms' pc Λ' σ' hd hq HH hc1 hc2
    obtain ⟨hag, hn0, hinj, hAi, hP, hS⟩ := HH
    have g1 : cells ≤ mc := Nat.le_trans (Nat.le_add_right _ _) hc1
    have g2 : slots ≤ ms := Nat.le_trans (Nat.le_add_right _ _) hc2
    refine W.widen (k := mc) (n := ms) g1 g2 ?_
    exact W.vret hx hb (hr.trans hrn) (fun t ht hW => ⟨⟨Λ', σ', ρ', rfl, hq, hag, hn0, hinj, hAi, by rw [ht]; exact hP⟩, hS.F ht⟩) hS.2.2 hd
  exact jn_rnI hs X hmi hret (fun _ _ _ h => h) _ (fun _ _ _ _ _ _ _ h => False.elim h) n mc ms 0 (lv_args 0 as) [] Λ σ h ρ s.heap [] ls 0 0 ⟨fun _ _ => rfl, Nat.le_refl _, hK.2.1, fun i hi => Or.inl ⟨i, hi, rfl⟩, hP, va_S.rf⟩ hl (by show 0 + mc ≤ mc; omega) (by show 0 + ms ≤ ms; omega)
end JNT
end
section
theorem jo_tableD {k pc : Nat} {cs : List (Int32 × Nat)} {dt len : Nat} {dflt lo hi : Int} {offs : Array Int} (hdt : (pc : Int) + dflt = (dt : Int)) (hlen : lo + cs.length = hi + 1)
    (hc : ∀ j, j < cs.length → offs[j]?.map (fun o => (pc : Int) + o) = cs[j]?.map (fun q => ((q.2 : Nat) : Int)) ∧ cs[j]?.map (fun q => q.1.toInt) = some (lo + (j : Int))) (hd : decode (jx_b k) pc = .ok (.tableswitch dflt lo hi offs, len)) : jx_Snd k pc (js_sw cs dt) := by
  refine jo_table hdt hlen (fun j hj => ?_) hd
  obtain ⟨h1, h2⟩ := hc j hj
  have e : cs[j]? = some cs[j] := List.getElem?_eq_getElem hj
  rw [e] at h1 h2
  cases ho : offs[j]? with
  | none => rw [ho] at h1; cases h1
  | some o =>
    rw [ho] at h1
    exact ⟨cs[j].1, cs[j].2, o, e, rfl, Option.some.inj h1, Option.some.inj h2⟩
end
section
theorem jf_0_10 : jx_fo "ScriptLedger" 10 0 0 (.object "ScriptLedger$Draft") := ⟨"ScriptLedger", jr_0, 6, ju_0, rfl, Nat.le_of_ble_eq_true rfl, jhl_0, jty_0, jnm_0, rfl, Or.inl jw_162⟩
theorem jf_0_19 : jx_fo "ScriptLedger" 19 0 1 (.object "ScriptLedger$Machine") := ⟨"ScriptLedger", jr_0, 6, ju_0, rfl, Nat.le_of_ble_eq_true rfl, jhl_0, jty_0, jnm_0, rfl, Or.inl jw_163⟩
theorem jf_0_28 : jx_fo "ScriptLedger" 28 0 2 (.object "ScriptLedger$Ledger") := ⟨"ScriptLedger", jr_0, 6, ju_0, rfl, Nat.le_of_ble_eq_true rfl, jhl_0, jty_0, jnm_0, rfl, Or.inl jw_164⟩
theorem jf_0_35 : jx_fo "ScriptLedger" 35 0 3 (.object "ScriptLedger$Transaction") := ⟨"ScriptLedger", jr_0, 6, ju_0, rfl, Nat.le_of_ble_eq_true rfl, jhl_0, jty_0, jnm_0, rfl, Or.inl jw_165⟩
theorem jf_0_39 : jx_fo "ScriptLedger" 39 0 4 (.array .int) := ⟨"ScriptLedger", jr_0, 6, ju_0, rfl, Nat.le_of_ble_eq_true rfl, jhl_0, jty_0, jnm_0, rfl, Or.inl jw_166⟩
theorem jf_0_43 : jx_fo "ScriptLedger" 43 0 5 (.array .int) := ⟨"ScriptLedger", jr_0, 6, ju_0, rfl, Nat.le_of_ble_eq_true rfl, jhl_0, jty_0, jnm_0, rfl, Or.inl jw_167⟩
theorem jf_0_46 : jx_fo "ScriptLedger" 46 1 1 (.int) := ⟨"ScriptLedger$Draft", jr_1, 2, ju_1, rfl, Nat.le_of_ble_eq_true rfl, jhl_1, jty_1, jnm_1, rfl, Or.inl jw_27⟩
theorem jf_0_54 : jx_fo "ScriptLedger" 54 2 0 (.object "ScriptLedger$Scripts") := ⟨"ScriptLedger$Machine", jr_2, 16, ju_2, rfl, Nat.le_of_ble_eq_true rfl, jhl_2, jty_2, jnm_2, rfl, Or.inl jw_59⟩
theorem jf_0_58 : jx_fo "ScriptLedger" 58 1 0 (.array .int) := ⟨"ScriptLedger$Draft", jr_1, 2, ju_1, rfl, Nat.le_of_ble_eq_true rfl, jhl_1, jty_1, jnm_1, rfl, Or.inl jw_25⟩
theorem jf_0_75 : jx_fo "ScriptLedger" 75 2 13 (.int) := ⟨"ScriptLedger$Machine", jr_2, 16, ju_2, rfl, Nat.le_of_ble_eq_true rfl, jhl_2, jty_2, jnm_2, rfl, Or.inl jw_74⟩
theorem jf_0_78 : jx_fo "ScriptLedger" 78 2 12 (.int) := ⟨"ScriptLedger$Machine", jr_2, 16, ju_2, rfl, Nat.le_of_ble_eq_true rfl, jhl_2, jty_2, jnm_2, rfl, Or.inl jw_72⟩
theorem jf_0_81 : jx_fo "ScriptLedger" 81 2 14 (.int) := ⟨"ScriptLedger$Machine", jr_2, 16, ju_2, rfl, Nat.le_of_ble_eq_true rfl, jhl_2, jty_2, jnm_2, rfl, Or.inl jw_75⟩
theorem jf_0_84 : jx_fo "ScriptLedger" 84 2 15 (.int) := ⟨"ScriptLedger$Machine", jr_2, 16, ju_2, rfl, Nat.le_of_ble_eq_true rfl, jhl_2, jty_2, jnm_2, rfl, Or.inl jw_77⟩
theorem jf_0_90 : jx_fo "ScriptLedger" 90 7 2 (.int) := ⟨"ScriptLedger$Transaction", jr_7, 12, ju_7, rfl, Nat.le_of_ble_eq_true rfl, jhl_7, jty_7, jnm_7, rfl, Or.inl jw_143⟩
theorem jf_0_100 : jx_fo "ScriptLedger" 100 7 3 (.object "ScriptLedger$OutputRow") := ⟨"ScriptLedger$Transaction", jr_7, 12, ju_7, rfl, Nat.le_of_ble_eq_true rfl, jhl_7, jty_7, jnm_7, rfl, Or.inl jw_145⟩
theorem jf_0_118 : jx_fo "ScriptLedger" 118 7 4 (.array .int) := ⟨"ScriptLedger$Transaction", jr_7, 12, ju_7, rfl, Nat.le_of_ble_eq_true rfl, jhl_7, jty_7, jnm_7, rfl, Or.inl jw_147⟩
theorem jf_0_121 : jx_fo "ScriptLedger" 121 7 5 (.array .int) := ⟨"ScriptLedger$Transaction", jr_7, 12, ju_7, rfl, Nat.le_of_ble_eq_true rfl, jhl_7, jty_7, jnm_7, rfl, Or.inl jw_149⟩
theorem jf_0_127 : jx_fo "ScriptLedger" 127 7 11 (.int) := ⟨"ScriptLedger$Transaction", jr_7, 12, ju_7, rfl, Nat.le_of_ble_eq_true rfl, jhl_7, jty_7, jnm_7, rfl, Or.inl jw_161⟩
theorem jf_0_144 : jx_fo "ScriptLedger" 144 5 5 (.int) := ⟨"ScriptLedger$Ledger", jr_5, 6, ju_5, rfl, Nat.le_of_ble_eq_true rfl, jhl_5, jty_5, jnm_5, rfl, Or.inl jw_121⟩
theorem jf_0_153 : jx_fo "ScriptLedger" 153 5 0 (.object "ScriptLedger$OutputRow") := ⟨"ScriptLedger$Ledger", jr_5, 6, ju_5, rfl, Nat.le_of_ble_eq_true rfl, jhl_5, jty_5, jnm_5, rfl, Or.inl jw_114⟩
theorem jf_0_156 : jx_fo "ScriptLedger" 156 6 3 (.int) := ⟨"ScriptLedger$OutputRow", jr_6, 4, ju_6, rfl, Nat.le_of_ble_eq_true rfl, jhl_6, jty_6, jnm_6, rfl, Or.inl jw_101⟩
theorem jf_0_162 : jx_fo "ScriptLedger" 162 6 0 (.array .int) := ⟨"ScriptLedger$OutputRow", jr_6, 4, ju_6, rfl, Nat.le_of_ble_eq_true rfl, jhl_6, jty_6, jnm_6, rfl, Or.inl jw_93⟩
theorem jf_0_165 : jx_fo "ScriptLedger" 165 6 1 (.array .int) := ⟨"ScriptLedger$OutputRow", jr_6, 4, ju_6, rfl, Nat.le_of_ble_eq_true rfl, jhl_6, jty_6, jnm_6, rfl, Or.inl jw_96⟩
theorem jf_0_175 : jx_fo "ScriptLedger" 175 5 4 (.int) := ⟨"ScriptLedger$Ledger", jr_5, 6, ju_5, rfl, Nat.le_of_ble_eq_true rfl, jhl_5, jty_5, jnm_5, rfl, Or.inl jw_119⟩
theorem jf_0_181 : jx_fo "ScriptLedger" 181 7 7 (.int) := ⟨"ScriptLedger$Transaction", jr_7, 12, ju_7, rfl, Nat.le_of_ble_eq_true rfl, jhl_7, jty_7, jnm_7, rfl, Or.inl jw_153⟩
theorem jf_0_184 : jx_fo "ScriptLedger" 184 7 8 (.int) := ⟨"ScriptLedger$Transaction", jr_7, 12, ju_7, rfl, Nat.le_of_ble_eq_true rfl, jhl_7, jty_7, jnm_7, rfl, Or.inl jw_155⟩
theorem jf_0_187 : jx_fo "ScriptLedger" 187 7 6 (.int) := ⟨"ScriptLedger$Transaction", jr_7, 12, ju_7, rfl, Nat.le_of_ble_eq_true rfl, jhl_7, jty_7, jnm_7, rfl, Or.inl jw_151⟩
theorem jf_0_208 : jx_fo "ScriptLedger" 208 7 0 (.array .int) := ⟨"ScriptLedger$Transaction", jr_7, 12, ju_7, rfl, Nat.le_of_ble_eq_true rfl, jhl_7, jty_7, jnm_7, rfl, Or.inl jw_139⟩
theorem jf_0_226 : jx_fo "ScriptLedger" 226 7 10 (.int) := ⟨"ScriptLedger$Transaction", jr_7, 12, ju_7, rfl, Nat.le_of_ble_eq_true rfl, jhl_7, jty_7, jnm_7, rfl, Or.inl jw_159⟩
theorem jf_0_229 : jx_fo "ScriptLedger" 229 7 1 (.array .int) := ⟨"ScriptLedger$Transaction", jr_7, 12, ju_7, rfl, Nat.le_of_ble_eq_true rfl, jhl_7, jty_7, jnm_7, rfl, Or.inl jw_141⟩
theorem jf_0_232 : jx_fo "ScriptLedger" 232 7 9 (.int) := ⟨"ScriptLedger$Transaction", jr_7, 12, ju_7, rfl, Nat.le_of_ble_eq_true rfl, jhl_7, jty_7, jnm_7, rfl, Or.inl jw_157⟩
theorem jf_1_9 : jx_fo "ScriptLedger$Draft" 9 1 0 (.array .int) := ⟨"ScriptLedger$Draft", jr_1, 2, ju_1, rfl, Nat.le_of_ble_eq_true rfl, jhl_1, jty_1, jnm_1, rfl, Or.inl jw_24⟩
theorem jf_1_15 : jx_fo "ScriptLedger$Draft" 15 1 1 (.int) := ⟨"ScriptLedger$Draft", jr_1, 2, ju_1, rfl, Nat.le_of_ble_eq_true rfl, jhl_1, jty_1, jnm_1, rfl, Or.inl jw_26⟩
theorem jf_5_14 : jx_fo "ScriptLedger$Ledger" 14 5 0 (.object "ScriptLedger$OutputRow") := ⟨"ScriptLedger$Ledger", jr_5, 6, ju_5, rfl, Nat.le_of_ble_eq_true rfl, jhl_5, jty_5, jnm_5, rfl, Or.inl jw_113⟩
theorem jf_5_20 : jx_fo "ScriptLedger$Ledger" 20 5 1 (.array .int) := ⟨"ScriptLedger$Ledger", jr_5, 6, ju_5, rfl, Nat.le_of_ble_eq_true rfl, jhl_5, jty_5, jnm_5, rfl, Or.inl jw_115⟩
theorem jf_5_24 : jx_fo "ScriptLedger$Ledger" 24 5 2 (.array .int) := ⟨"ScriptLedger$Ledger", jr_5, 6, ju_5, rfl, Nat.le_of_ble_eq_true rfl, jhl_5, jty_5, jnm_5, rfl, Or.inl jw_116⟩
theorem jf_5_27 : jx_fo "ScriptLedger$Ledger" 27 5 3 (.array .int) := ⟨"ScriptLedger$Ledger", jr_5, 6, ju_5, rfl, Nat.le_of_ble_eq_true rfl, jhl_5, jty_5, jnm_5, rfl, Or.inl jw_117⟩
theorem jf_5_40 : jx_fo "ScriptLedger$Ledger" 40 6 3 (.int) := ⟨"ScriptLedger$OutputRow", jr_6, 4, ju_6, rfl, Nat.le_of_ble_eq_true rfl, jhl_6, jty_6, jnm_6, rfl, Or.inl jw_98⟩
theorem jf_5_48 : jx_fo "ScriptLedger$Ledger" 48 5 5 (.int) := ⟨"ScriptLedger$Ledger", jr_5, 6, ju_5, rfl, Nat.le_of_ble_eq_true rfl, jhl_5, jty_5, jnm_5, rfl, Or.inl jw_120⟩
theorem jf_5_54 : jx_fo "ScriptLedger$Ledger" 54 6 0 (.array .int) := ⟨"ScriptLedger$OutputRow", jr_6, 4, ju_6, rfl, Nat.le_of_ble_eq_true rfl, jhl_6, jty_6, jnm_6, rfl, Or.inl jw_92⟩
theorem jf_5_57 : jx_fo "ScriptLedger$Ledger" 57 6 1 (.array .int) := ⟨"ScriptLedger$OutputRow", jr_6, 4, ju_6, rfl, Nat.le_of_ble_eq_true rfl, jhl_6, jty_6, jnm_6, rfl, Or.inl jw_95⟩
theorem jf_5_66 : jx_fo "ScriptLedger$Ledger" 66 5 4 (.int) := ⟨"ScriptLedger$Ledger", jr_5, 6, ju_5, rfl, Nat.le_of_ble_eq_true rfl, jhl_5, jty_5, jnm_5, rfl, Or.inl jw_118⟩
theorem jf_2_12 : jx_fo "ScriptLedger$Machine" 12 2 0 (.object "ScriptLedger$Scripts") := ⟨"ScriptLedger$Machine", jr_2, 16, ju_2, rfl, Nat.le_of_ble_eq_true rfl, jhl_2, jty_2, jnm_2, rfl, Or.inl jw_58⟩
theorem jf_2_21 : jx_fo "ScriptLedger$Machine" 21 2 1 (.object "ScriptLedger$Values") := ⟨"ScriptLedger$Machine", jr_2, 16, ju_2, rfl, Nat.le_of_ble_eq_true rfl, jhl_2, jty_2, jnm_2, rfl, Or.inl jw_60⟩
theorem jf_2_25 : jx_fo "ScriptLedger$Machine" 25 2 2 (.array .int) := ⟨"ScriptLedger$Machine", jr_2, 16, ju_2, rfl, Nat.le_of_ble_eq_true rfl, jhl_2, jty_2, jnm_2, rfl, Or.inl jw_61⟩
theorem jf_2_29 : jx_fo "ScriptLedger$Machine" 29 2 3 (.array .int) := ⟨"ScriptLedger$Machine", jr_2, 16, ju_2, rfl, Nat.le_of_ble_eq_true rfl, jhl_2, jty_2, jnm_2, rfl, Or.inl jw_62⟩
theorem jf_2_32 : jx_fo "ScriptLedger$Machine" 32 2 4 (.array .int) := ⟨"ScriptLedger$Machine", jr_2, 16, ju_2, rfl, Nat.le_of_ble_eq_true rfl, jhl_2, jty_2, jnm_2, rfl, Or.inl jw_63⟩
theorem jf_2_35 : jx_fo "ScriptLedger$Machine" 35 2 13 (.int) := ⟨"ScriptLedger$Machine", jr_2, 16, ju_2, rfl, Nat.le_of_ble_eq_true rfl, jhl_2, jty_2, jnm_2, rfl, Or.inl jw_73⟩
theorem jf_2_59 : jx_fo "ScriptLedger$Machine" 59 2 6 (.int) := ⟨"ScriptLedger$Machine", jr_2, 16, ju_2, rfl, Nat.le_of_ble_eq_true rfl, jhl_2, jty_2, jnm_2, rfl, Or.inl jw_65⟩
theorem jf_2_81 : jx_fo "ScriptLedger$Machine" 81 2 5 (.int) := ⟨"ScriptLedger$Machine", jr_2, 16, ju_2, rfl, Nat.le_of_ble_eq_true rfl, jhl_2, jty_2, jnm_2, rfl, Or.inl jw_64⟩
theorem jf_2_84 : jx_fo "ScriptLedger$Machine" 84 2 12 (.int) := ⟨"ScriptLedger$Machine", jr_2, 16, ju_2, rfl, Nat.le_of_ble_eq_true rfl, jhl_2, jty_2, jnm_2, rfl, Or.inl jw_71⟩
theorem jf_2_87 : jx_fo "ScriptLedger$Machine" 87 2 11 (.int) := ⟨"ScriptLedger$Machine", jr_2, 16, ju_2, rfl, Nat.le_of_ble_eq_true rfl, jhl_2, jty_2, jnm_2, rfl, Or.inl jw_70⟩
theorem jf_2_100 : jx_fo "ScriptLedger$Machine" 100 2 7 (.int) := ⟨"ScriptLedger$Machine", jr_2, 16, ju_2, rfl, Nat.le_of_ble_eq_true rfl, jhl_2, jty_2, jnm_2, rfl, Or.inl jw_66⟩
theorem jf_2_103 : jx_fo "ScriptLedger$Machine" 103 3 0 (.array .int) := ⟨"ScriptLedger$Scripts", jr_3, 3, ju_3, rfl, Nat.le_of_ble_eq_true rfl, jhl_3, jty_3, jnm_3, rfl, Or.inl jw_40⟩
theorem jf_2_106 : jx_fo "ScriptLedger$Machine" 106 2 8 (.int) := ⟨"ScriptLedger$Machine", jr_2, 16, ju_2, rfl, Nat.le_of_ble_eq_true rfl, jhl_2, jty_2, jnm_2, rfl, Or.inl jw_67⟩
theorem jf_2_119 : jx_fo "ScriptLedger$Machine" 119 3 1 (.array .int) := ⟨"ScriptLedger$Scripts", jr_3, 3, ju_3, rfl, Nat.le_of_ble_eq_true rfl, jhl_3, jty_3, jnm_3, rfl, Or.inl jw_42⟩
theorem jf_2_125 : jx_fo "ScriptLedger$Machine" 125 2 9 (.int) := ⟨"ScriptLedger$Machine", jr_2, 16, ju_2, rfl, Nat.le_of_ble_eq_true rfl, jhl_2, jty_2, jnm_2, rfl, Or.inl jw_68⟩
theorem jf_2_128 : jx_fo "ScriptLedger$Machine" 128 2 10 (.int) := ⟨"ScriptLedger$Machine", jr_2, 16, ju_2, rfl, Nat.le_of_ble_eq_true rfl, jhl_2, jty_2, jnm_2, rfl, Or.inl jw_69⟩
theorem jf_2_134 : jx_fo "ScriptLedger$Machine" 134 4 0 (.array .int) := ⟨"ScriptLedger$Values", jr_4, 5, ju_4, rfl, Nat.le_of_ble_eq_true rfl, jhl_4, jty_4, jnm_4, rfl, Or.inl jw_50⟩
theorem jf_2_137 : jx_fo "ScriptLedger$Machine" 137 4 1 (.array .int) := ⟨"ScriptLedger$Values", jr_4, 5, ju_4, rfl, Nat.le_of_ble_eq_true rfl, jhl_4, jty_4, jnm_4, rfl, Or.inl jw_52⟩
theorem jf_2_140 : jx_fo "ScriptLedger$Machine" 140 4 2 (.array .int) := ⟨"ScriptLedger$Values", jr_4, 5, ju_4, rfl, Nat.le_of_ble_eq_true rfl, jhl_4, jty_4, jnm_4, rfl, Or.inl jw_54⟩
theorem jf_2_144 : jx_fo "ScriptLedger$Machine" 144 4 3 (.array .int) := ⟨"ScriptLedger$Values", jr_4, 5, ju_4, rfl, Nat.le_of_ble_eq_true rfl, jhl_4, jty_4, jnm_4, rfl, Or.inl jw_56⟩
theorem jf_2_169 : jx_fo "ScriptLedger$Machine" 169 2 14 (.int) := ⟨"ScriptLedger$Machine", jr_2, 16, ju_2, rfl, Nat.le_of_ble_eq_true rfl, jhl_2, jty_2, jnm_2, rfl, Or.inl jw_76⟩
theorem jf_2_172 : jx_fo "ScriptLedger$Machine" 172 2 15 (.int) := ⟨"ScriptLedger$Machine", jr_2, 16, ju_2, rfl, Nat.le_of_ble_eq_true rfl, jhl_2, jty_2, jnm_2, rfl, Or.inl jw_78⟩
theorem jf_6_9 : jx_fo "ScriptLedger$OutputRow" 9 6 0 (.array .int) := ⟨"ScriptLedger$OutputRow", jr_6, 4, ju_6, rfl, Nat.le_of_ble_eq_true rfl, jhl_6, jty_6, jnm_6, rfl, Or.inl jw_91⟩
theorem jf_6_15 : jx_fo "ScriptLedger$OutputRow" 15 6 1 (.array .int) := ⟨"ScriptLedger$OutputRow", jr_6, 4, ju_6, rfl, Nat.le_of_ble_eq_true rfl, jhl_6, jty_6, jnm_6, rfl, Or.inl jw_94⟩
theorem jf_6_18 : jx_fo "ScriptLedger$OutputRow" 18 6 2 (.array .int) := ⟨"ScriptLedger$OutputRow", jr_6, 4, ju_6, rfl, Nat.le_of_ble_eq_true rfl, jhl_6, jty_6, jnm_6, rfl, Or.inl jw_97⟩
theorem jf_6_21 : jx_fo "ScriptLedger$OutputRow" 21 6 3 (.int) := ⟨"ScriptLedger$OutputRow", jr_6, 4, ju_6, rfl, Nat.le_of_ble_eq_true rfl, jhl_6, jty_6, jnm_6, rfl, Or.inl jw_99⟩
theorem jf_3_9 : jx_fo "ScriptLedger$Scripts" 9 3 0 (.array .int) := ⟨"ScriptLedger$Scripts", jr_3, 3, ju_3, rfl, Nat.le_of_ble_eq_true rfl, jhl_3, jty_3, jnm_3, rfl, Or.inl jw_39⟩
theorem jf_3_15 : jx_fo "ScriptLedger$Scripts" 15 3 1 (.array .int) := ⟨"ScriptLedger$Scripts", jr_3, 3, ju_3, rfl, Nat.le_of_ble_eq_true rfl, jhl_3, jty_3, jnm_3, rfl, Or.inl jw_41⟩
theorem jf_3_18 : jx_fo "ScriptLedger$Scripts" 18 3 2 (.int) := ⟨"ScriptLedger$Scripts", jr_3, 3, ju_3, rfl, Nat.le_of_ble_eq_true rfl, jhl_3, jty_3, jnm_3, rfl, Or.inl jw_43⟩
theorem jf_7_9 : jx_fo "ScriptLedger$Transaction" 9 7 0 (.array .int) := ⟨"ScriptLedger$Transaction", jr_7, 12, ju_7, rfl, Nat.le_of_ble_eq_true rfl, jhl_7, jty_7, jnm_7, rfl, Or.inl jw_138⟩
theorem jf_7_15 : jx_fo "ScriptLedger$Transaction" 15 7 1 (.array .int) := ⟨"ScriptLedger$Transaction", jr_7, 12, ju_7, rfl, Nat.le_of_ble_eq_true rfl, jhl_7, jty_7, jnm_7, rfl, Or.inl jw_140⟩
theorem jf_7_23 : jx_fo "ScriptLedger$Transaction" 23 7 3 (.object "ScriptLedger$OutputRow") := ⟨"ScriptLedger$Transaction", jr_7, 12, ju_7, rfl, Nat.le_of_ble_eq_true rfl, jhl_7, jty_7, jnm_7, rfl, Or.inl jw_144⟩
theorem jf_7_27 : jx_fo "ScriptLedger$Transaction" 27 7 4 (.array .int) := ⟨"ScriptLedger$Transaction", jr_7, 12, ju_7, rfl, Nat.le_of_ble_eq_true rfl, jhl_7, jty_7, jnm_7, rfl, Or.inl jw_146⟩
theorem jf_7_30 : jx_fo "ScriptLedger$Transaction" 30 7 5 (.array .int) := ⟨"ScriptLedger$Transaction", jr_7, 12, ju_7, rfl, Nat.le_of_ble_eq_true rfl, jhl_7, jty_7, jnm_7, rfl, Or.inl jw_148⟩
theorem jf_7_36 : jx_fo "ScriptLedger$Transaction" 36 7 2 (.int) := ⟨"ScriptLedger$Transaction", jr_7, 12, ju_7, rfl, Nat.le_of_ble_eq_true rfl, jhl_7, jty_7, jnm_7, rfl, Or.inl jw_142⟩
theorem jf_7_40 : jx_fo "ScriptLedger$Transaction" 40 6 3 (.int) := ⟨"ScriptLedger$OutputRow", jr_6, 4, ju_6, rfl, Nat.le_of_ble_eq_true rfl, jhl_6, jty_6, jnm_6, rfl, Or.inl jw_100⟩
theorem jf_7_47 : jx_fo "ScriptLedger$Transaction" 47 7 11 (.int) := ⟨"ScriptLedger$Transaction", jr_7, 12, ju_7, rfl, Nat.le_of_ble_eq_true rfl, jhl_7, jty_7, jnm_7, rfl, Or.inl jw_160⟩
theorem jf_7_50 : jx_fo "ScriptLedger$Transaction" 50 7 6 (.int) := ⟨"ScriptLedger$Transaction", jr_7, 12, ju_7, rfl, Nat.le_of_ble_eq_true rfl, jhl_7, jty_7, jnm_7, rfl, Or.inl jw_150⟩
theorem jf_7_53 : jx_fo "ScriptLedger$Transaction" 53 7 7 (.int) := ⟨"ScriptLedger$Transaction", jr_7, 12, ju_7, rfl, Nat.le_of_ble_eq_true rfl, jhl_7, jty_7, jnm_7, rfl, Or.inl jw_152⟩
theorem jf_7_56 : jx_fo "ScriptLedger$Transaction" 56 7 8 (.int) := ⟨"ScriptLedger$Transaction", jr_7, 12, ju_7, rfl, Nat.le_of_ble_eq_true rfl, jhl_7, jty_7, jnm_7, rfl, Or.inl jw_154⟩
theorem jf_7_59 : jx_fo "ScriptLedger$Transaction" 59 7 9 (.int) := ⟨"ScriptLedger$Transaction", jr_7, 12, ju_7, rfl, Nat.le_of_ble_eq_true rfl, jhl_7, jty_7, jnm_7, rfl, Or.inl jw_156⟩
theorem jf_7_62 : jx_fo "ScriptLedger$Transaction" 62 7 10 (.int) := ⟨"ScriptLedger$Transaction", jr_7, 12, ju_7, rfl, Nat.le_of_ble_eq_true rfl, jhl_7, jty_7, jnm_7, rfl, Or.inl jw_158⟩
theorem jf_4_9 : jx_fo "ScriptLedger$Values" 9 4 0 (.array .int) := ⟨"ScriptLedger$Values", jr_4, 5, ju_4, rfl, Nat.le_of_ble_eq_true rfl, jhl_4, jty_4, jnm_4, rfl, Or.inl jw_49⟩
theorem jf_4_13 : jx_fo "ScriptLedger$Values" 13 4 1 (.array .int) := ⟨"ScriptLedger$Values", jr_4, 5, ju_4, rfl, Nat.le_of_ble_eq_true rfl, jhl_4, jty_4, jnm_4, rfl, Or.inl jw_51⟩
theorem jf_4_16 : jx_fo "ScriptLedger$Values" 16 4 2 (.array .int) := ⟨"ScriptLedger$Values", jr_4, 5, ju_4, rfl, Nat.le_of_ble_eq_true rfl, jhl_4, jty_4, jnm_4, rfl, Or.inl jw_53⟩
theorem jf_4_19 : jx_fo "ScriptLedger$Values" 19 4 3 (.array .int) := ⟨"ScriptLedger$Values", jr_4, 5, ju_4, rfl, Nat.le_of_ble_eq_true rfl, jhl_4, jty_4, jnm_4, rfl, Or.inl jw_55⟩
theorem jf_4_22 : jx_fo "ScriptLedger$Values" 22 4 4 (.int) := ⟨"ScriptLedger$Values", jr_4, 5, ju_4, rfl, Nat.le_of_ble_eq_true rfl, jhl_4, jty_4, jnm_4, rfl, Or.inl jw_57⟩
theorem jf_8_7 : jx_fo "ScriptLedgerModel" 7 8 1 (.array .int) := ⟨"ScriptLedgerModel", jr_8, 50, ju_8, rfl, Nat.le_of_ble_eq_true rfl, jhl_8, jty_8, jnm_8, rfl, Or.inl jw_467⟩
theorem jf_8_13 : jx_fo "ScriptLedgerModel" 13 8 2 (.array .int) := ⟨"ScriptLedgerModel", jr_8, 50, ju_8, rfl, Nat.le_of_ble_eq_true rfl, jhl_8, jty_8, jnm_8, rfl, Or.inl jw_468⟩
theorem jf_8_16 : jx_fo "ScriptLedgerModel" 16 8 4 (.array .int) := ⟨"ScriptLedgerModel", jr_8, 50, ju_8, rfl, Nat.le_of_ble_eq_true rfl, jhl_8, jty_8, jnm_8, rfl, Or.inl jw_470⟩
theorem jf_8_19 : jx_fo "ScriptLedgerModel" 19 8 6 (.array .int) := ⟨"ScriptLedgerModel", jr_8, 50, ju_8, rfl, Nat.le_of_ble_eq_true rfl, jhl_8, jty_8, jnm_8, rfl, Or.inl jw_472⟩
theorem jf_8_22 : jx_fo "ScriptLedgerModel" 22 8 7 (.array .int) := ⟨"ScriptLedgerModel", jr_8, 50, ju_8, rfl, Nat.le_of_ble_eq_true rfl, jhl_8, jty_8, jnm_8, rfl, Or.inl jw_473⟩
theorem jf_8_25 : jx_fo "ScriptLedgerModel" 25 8 8 (.array .int) := ⟨"ScriptLedgerModel", jr_8, 50, ju_8, rfl, Nat.le_of_ble_eq_true rfl, jhl_8, jty_8, jnm_8, rfl, Or.inl jw_474⟩
theorem jf_8_28 : jx_fo "ScriptLedgerModel" 28 8 9 (.array .int) := ⟨"ScriptLedgerModel", jr_8, 50, ju_8, rfl, Nat.le_of_ble_eq_true rfl, jhl_8, jty_8, jnm_8, rfl, Or.inl jw_475⟩
theorem jf_8_31 : jx_fo "ScriptLedgerModel" 31 8 10 (.array .int) := ⟨"ScriptLedgerModel", jr_8, 50, ju_8, rfl, Nat.le_of_ble_eq_true rfl, jhl_8, jty_8, jnm_8, rfl, Or.inl jw_476⟩
theorem jf_8_34 : jx_fo "ScriptLedgerModel" 34 8 12 (.array .int) := ⟨"ScriptLedgerModel", jr_8, 50, ju_8, rfl, Nat.le_of_ble_eq_true rfl, jhl_8, jty_8, jnm_8, rfl, Or.inl jw_478⟩
theorem jf_8_37 : jx_fo "ScriptLedgerModel" 37 8 13 (.array .int) := ⟨"ScriptLedgerModel", jr_8, 50, ju_8, rfl, Nat.le_of_ble_eq_true rfl, jhl_8, jty_8, jnm_8, rfl, Or.inl jw_479⟩
theorem jf_8_40 : jx_fo "ScriptLedgerModel" 40 8 15 (.array .int) := ⟨"ScriptLedgerModel", jr_8, 50, ju_8, rfl, Nat.le_of_ble_eq_true rfl, jhl_8, jty_8, jnm_8, rfl, Or.inl jw_481⟩
theorem jf_8_43 : jx_fo "ScriptLedgerModel" 43 8 16 (.array .int) := ⟨"ScriptLedgerModel", jr_8, 50, ju_8, rfl, Nat.le_of_ble_eq_true rfl, jhl_8, jty_8, jnm_8, rfl, Or.inl jw_482⟩
theorem jf_8_46 : jx_fo "ScriptLedgerModel" 46 8 17 (.array .int) := ⟨"ScriptLedgerModel", jr_8, 50, ju_8, rfl, Nat.le_of_ble_eq_true rfl, jhl_8, jty_8, jnm_8, rfl, Or.inl jw_483⟩
theorem jf_8_49 : jx_fo "ScriptLedgerModel" 49 8 23 (.int) := ⟨"ScriptLedgerModel", jr_8, 50, ju_8, rfl, Nat.le_of_ble_eq_true rfl, jhl_8, jty_8, jnm_8, rfl, Or.inl jw_489⟩
theorem jf_8_53 : jx_fo "ScriptLedgerModel" 53 8 26 (.array .int) := ⟨"ScriptLedgerModel", jr_8, 50, ju_8, rfl, Nat.le_of_ble_eq_true rfl, jhl_8, jty_8, jnm_8, rfl, Or.inl jw_492⟩
theorem jf_8_56 : jx_fo "ScriptLedgerModel" 56 8 27 (.array .int) := ⟨"ScriptLedgerModel", jr_8, 50, ju_8, rfl, Nat.le_of_ble_eq_true rfl, jhl_8, jty_8, jnm_8, rfl, Or.inl jw_493⟩
theorem jf_8_59 : jx_fo "ScriptLedgerModel" 59 8 28 (.array .int) := ⟨"ScriptLedgerModel", jr_8, 50, ju_8, rfl, Nat.le_of_ble_eq_true rfl, jhl_8, jty_8, jnm_8, rfl, Or.inl jw_494⟩
theorem jf_8_62 : jx_fo "ScriptLedgerModel" 62 8 29 (.array .int) := ⟨"ScriptLedgerModel", jr_8, 50, ju_8, rfl, Nat.le_of_ble_eq_true rfl, jhl_8, jty_8, jnm_8, rfl, Or.inl jw_495⟩
theorem jf_8_65 : jx_fo "ScriptLedgerModel" 65 8 30 (.array .int) := ⟨"ScriptLedgerModel", jr_8, 50, ju_8, rfl, Nat.le_of_ble_eq_true rfl, jhl_8, jty_8, jnm_8, rfl, Or.inl jw_496⟩
theorem jf_8_68 : jx_fo "ScriptLedgerModel" 68 8 32 (.array .int) := ⟨"ScriptLedgerModel", jr_8, 50, ju_8, rfl, Nat.le_of_ble_eq_true rfl, jhl_8, jty_8, jnm_8, rfl, Or.inl jw_498⟩
theorem jf_8_71 : jx_fo "ScriptLedgerModel" 71 8 34 (.array .int) := ⟨"ScriptLedgerModel", jr_8, 50, ju_8, rfl, Nat.le_of_ble_eq_true rfl, jhl_8, jty_8, jnm_8, rfl, Or.inl jw_500⟩
theorem jf_8_74 : jx_fo "ScriptLedgerModel" 74 8 35 (.array .int) := ⟨"ScriptLedgerModel", jr_8, 50, ju_8, rfl, Nat.le_of_ble_eq_true rfl, jhl_8, jty_8, jnm_8, rfl, Or.inl jw_501⟩
theorem jf_8_77 : jx_fo "ScriptLedgerModel" 77 8 37 (.array .int) := ⟨"ScriptLedgerModel", jr_8, 50, ju_8, rfl, Nat.le_of_ble_eq_true rfl, jhl_8, jty_8, jnm_8, rfl, Or.inl jw_503⟩
theorem jf_8_80 : jx_fo "ScriptLedgerModel" 80 8 38 (.array .int) := ⟨"ScriptLedgerModel", jr_8, 50, ju_8, rfl, Nat.le_of_ble_eq_true rfl, jhl_8, jty_8, jnm_8, rfl, Or.inl jw_504⟩
theorem jf_8_83 : jx_fo "ScriptLedgerModel" 83 8 39 (.array .int) := ⟨"ScriptLedgerModel", jr_8, 50, ju_8, rfl, Nat.le_of_ble_eq_true rfl, jhl_8, jty_8, jnm_8, rfl, Or.inl jw_505⟩
theorem jf_8_86 : jx_fo "ScriptLedgerModel" 86 8 40 (.array .int) := ⟨"ScriptLedgerModel", jr_8, 50, ju_8, rfl, Nat.le_of_ble_eq_true rfl, jhl_8, jty_8, jnm_8, rfl, Or.inl jw_506⟩
theorem jf_8_89 : jx_fo "ScriptLedgerModel" 89 8 41 (.array .int) := ⟨"ScriptLedgerModel", jr_8, 50, ju_8, rfl, Nat.le_of_ble_eq_true rfl, jhl_8, jty_8, jnm_8, rfl, Or.inl jw_507⟩
theorem jf_8_92 : jx_fo "ScriptLedgerModel" 92 8 44 (.int) := ⟨"ScriptLedgerModel", jr_8, 50, ju_8, rfl, Nat.le_of_ble_eq_true rfl, jhl_8, jty_8, jnm_8, rfl, Or.inl jw_510⟩
theorem jf_8_95 : jx_fo "ScriptLedgerModel" 95 8 47 (.int) := ⟨"ScriptLedgerModel", jr_8, 50, ju_8, rfl, Nat.le_of_ble_eq_true rfl, jhl_8, jty_8, jnm_8, rfl, Or.inl jw_513⟩
theorem jf_8_98 : jx_fo "ScriptLedgerModel" 98 8 48 (.array .int) := ⟨"ScriptLedgerModel", jr_8, 50, ju_8, rfl, Nat.le_of_ble_eq_true rfl, jhl_8, jty_8, jnm_8, rfl, Or.inl jw_514⟩
theorem jf_8_101 : jx_fo "ScriptLedgerModel" 101 8 49 (.array .int) := ⟨"ScriptLedgerModel", jr_8, 50, ju_8, rfl, Nat.le_of_ble_eq_true rfl, jhl_8, jty_8, jnm_8, rfl, Or.inl jw_515⟩
theorem jf_8_104 : jx_fo "ScriptLedgerModel" 104 8 25 (.int) := ⟨"ScriptLedgerModel", jr_8, 50, ju_8, rfl, Nat.le_of_ble_eq_true rfl, jhl_8, jty_8, jnm_8, rfl, Or.inl jw_491⟩
theorem jf_8_107 : jx_fo "ScriptLedgerModel" 107 8 3 (.int) := ⟨"ScriptLedgerModel", jr_8, 50, ju_8, rfl, Nat.le_of_ble_eq_true rfl, jhl_8, jty_8, jnm_8, rfl, Or.inl jw_469⟩
theorem jf_8_116 : jx_fo "ScriptLedgerModel" 116 8 0 (.int) := ⟨"ScriptLedgerModel", jr_8, 50, ju_8, rfl, Nat.le_of_ble_eq_true rfl, jhl_8, jty_8, jnm_8, rfl, Or.inl jw_466⟩
theorem jf_8_119 : jx_fo "ScriptLedgerModel" 119 8 5 (.int) := ⟨"ScriptLedgerModel", jr_8, 50, ju_8, rfl, Nat.le_of_ble_eq_true rfl, jhl_8, jty_8, jnm_8, rfl, Or.inl jw_471⟩
theorem jf_8_126 : jx_fo "ScriptLedgerModel" 126 8 21 (.int) := ⟨"ScriptLedgerModel", jr_8, 50, ju_8, rfl, Nat.le_of_ble_eq_true rfl, jhl_8, jty_8, jnm_8, rfl, Or.inl jw_487⟩
theorem jf_8_129 : jx_fo "ScriptLedgerModel" 129 8 22 (.int) := ⟨"ScriptLedgerModel", jr_8, 50, ju_8, rfl, Nat.le_of_ble_eq_true rfl, jhl_8, jty_8, jnm_8, rfl, Or.inl jw_488⟩
theorem jf_8_132 : jx_fo "ScriptLedgerModel" 132 8 14 (.int) := ⟨"ScriptLedgerModel", jr_8, 50, ju_8, rfl, Nat.le_of_ble_eq_true rfl, jhl_8, jty_8, jnm_8, rfl, Or.inl jw_480⟩
theorem jf_8_135 : jx_fo "ScriptLedgerModel" 135 8 18 (.int) := ⟨"ScriptLedgerModel", jr_8, 50, ju_8, rfl, Nat.le_of_ble_eq_true rfl, jhl_8, jty_8, jnm_8, rfl, Or.inl jw_484⟩
theorem jf_8_142 : jx_fo "ScriptLedgerModel" 142 8 19 (.int) := ⟨"ScriptLedgerModel", jr_8, 50, ju_8, rfl, Nat.le_of_ble_eq_true rfl, jhl_8, jty_8, jnm_8, rfl, Or.inl jw_485⟩
theorem jf_8_145 : jx_fo "ScriptLedgerModel" 145 8 20 (.int) := ⟨"ScriptLedgerModel", jr_8, 50, ju_8, rfl, Nat.le_of_ble_eq_true rfl, jhl_8, jty_8, jnm_8, rfl, Or.inl jw_486⟩
theorem jf_8_166 : jx_fo "ScriptLedgerModel" 166 8 11 (.int) := ⟨"ScriptLedgerModel", jr_8, 50, ju_8, rfl, Nat.le_of_ble_eq_true rfl, jhl_8, jty_8, jnm_8, rfl, Or.inl jw_477⟩
theorem jf_8_187 : jx_fo "ScriptLedgerModel" 187 8 24 (.boolean) := ⟨"ScriptLedgerModel", jr_8, 50, ju_8, rfl, Nat.le_of_ble_eq_true rfl, jhl_8, jty_8, jnm_8, rfl, Or.inl jw_490⟩
theorem jf_8_204 : jx_fo "ScriptLedgerModel" 204 8 33 (.int) := ⟨"ScriptLedgerModel", jr_8, 50, ju_8, rfl, Nat.le_of_ble_eq_true rfl, jhl_8, jty_8, jnm_8, rfl, Or.inl jw_499⟩
theorem jf_8_207 : jx_fo "ScriptLedgerModel" 207 8 36 (.int) := ⟨"ScriptLedgerModel", jr_8, 50, ju_8, rfl, Nat.le_of_ble_eq_true rfl, jhl_8, jty_8, jnm_8, rfl, Or.inl jw_502⟩
theorem jf_8_210 : jx_fo "ScriptLedgerModel" 210 8 42 (.int) := ⟨"ScriptLedgerModel", jr_8, 50, ju_8, rfl, Nat.le_of_ble_eq_true rfl, jhl_8, jty_8, jnm_8, rfl, Or.inl jw_508⟩
theorem jf_8_213 : jx_fo "ScriptLedgerModel" 213 8 43 (.int) := ⟨"ScriptLedgerModel", jr_8, 50, ju_8, rfl, Nat.le_of_ble_eq_true rfl, jhl_8, jty_8, jnm_8, rfl, Or.inl jw_509⟩
theorem jf_8_216 : jx_fo "ScriptLedgerModel" 216 8 45 (.int) := ⟨"ScriptLedgerModel", jr_8, 50, ju_8, rfl, Nat.le_of_ble_eq_true rfl, jhl_8, jty_8, jnm_8, rfl, Or.inl jw_511⟩
theorem jf_8_219 : jx_fo "ScriptLedgerModel" 219 8 46 (.int) := ⟨"ScriptLedgerModel", jr_8, 50, ju_8, rfl, Nat.le_of_ble_eq_true rfl, jhl_8, jty_8, jnm_8, rfl, Or.inl jw_512⟩
theorem jf_8_239 : jx_fo "ScriptLedgerModel" 239 8 31 (.int) := ⟨"ScriptLedgerModel", jr_8, 50, ju_8, rfl, Nat.le_of_ble_eq_true rfl, jhl_8, jty_8, jnm_8, rfl, Or.inl jw_497⟩
theorem jok_0 : jx_ok 0 "ScriptLedger" 1 := ⟨jw_15, jw_1, ⟨rfl, by decide +kernel, by decide +kernel, by decide +kernel⟩, Nat.le_of_ble_eq_true rfl⟩
theorem jok_1 : jx_ok 1 "ScriptLedger" 2 := ⟨jw_171, jw_1, ⟨rfl, by decide +kernel, by decide +kernel, by decide +kernel⟩, Nat.le_of_ble_eq_true rfl⟩
theorem jok_2 : jx_ok 2 "ScriptLedger" 0 := ⟨jw_179, jw_1, ⟨rfl, by decide +kernel, by decide +kernel, by decide +kernel⟩, Nat.le_of_ble_eq_true rfl⟩
theorem jok_3 : jx_ok 3 "ScriptLedger" 4 := ⟨jw_197, jw_1, ⟨rfl, by decide +kernel, by decide +kernel, by decide +kernel⟩, Nat.le_of_ble_eq_true rfl⟩
theorem jok_4 : jx_ok 4 "ScriptLedger" 1 := ⟨jw_293, jw_1, ⟨rfl, by decide +kernel, by decide +kernel, by decide +kernel⟩, Nat.le_of_ble_eq_true rfl⟩
theorem jok_5 : jx_ok 5 "ScriptLedger" 0 := ⟨jw_297, jw_1, ⟨rfl, by decide +kernel, by decide +kernel, by decide +kernel⟩, Nat.le_of_ble_eq_true rfl⟩
theorem jok_6 : jx_ok 6 "ScriptLedger" 2 := ⟨jw_302, jw_1, ⟨rfl, by decide +kernel, by decide +kernel, by decide +kernel⟩, Nat.le_of_ble_eq_true rfl⟩
theorem jok_7 : jx_ok 7 "ScriptLedger" 5 := ⟨jw_314, jw_1, ⟨rfl, by decide +kernel, by decide +kernel, by decide +kernel⟩, Nat.le_of_ble_eq_true rfl⟩
theorem jok_8 : jx_ok 8 "ScriptLedger" 3 := ⟨jw_324, jw_1, ⟨rfl, by decide +kernel, by decide +kernel, by decide +kernel⟩, Nat.le_of_ble_eq_true rfl⟩
theorem jok_9 : jx_ok 9 "ScriptLedger" 5 := ⟨jw_329, jw_1, ⟨rfl, by decide +kernel, by decide +kernel, by decide +kernel⟩, Nat.le_of_ble_eq_true rfl⟩
theorem jok_10 : jx_ok 10 "ScriptLedger" 1 := ⟨jw_334, jw_1, ⟨rfl, by decide +kernel, by decide +kernel, by decide +kernel⟩, Nat.le_of_ble_eq_true rfl⟩
theorem jok_11 : jx_ok 11 "ScriptLedger" 0 := ⟨jw_338, jw_1, ⟨rfl, by decide +kernel, by decide +kernel, by decide +kernel⟩, Nat.le_of_ble_eq_true rfl⟩
theorem jok_12 : jx_ok 12 "ScriptLedger" 0 := ⟨jw_418, jw_1, ⟨rfl, by decide +kernel, by decide +kernel, by decide +kernel⟩, Nat.le_of_ble_eq_true rfl⟩
theorem jok_13 : jx_ok 13 "ScriptLedger" 1 := ⟨jw_426, jw_1, ⟨rfl, by decide +kernel, by decide +kernel, by decide +kernel⟩, Nat.le_of_ble_eq_true rfl⟩
theorem jok_14 : jx_ok 14 "ScriptLedger" 0 := ⟨jw_434, jw_1, ⟨rfl, by decide +kernel, by decide +kernel, by decide +kernel⟩, Nat.le_of_ble_eq_true rfl⟩
theorem jok_15 : jx_ok 15 "ScriptLedger" 2 := ⟨jw_438, jw_1, ⟨rfl, by decide +kernel, by decide +kernel, by decide +kernel⟩, Nat.le_of_ble_eq_true rfl⟩
theorem jok_16 : jx_ok 16 "ScriptLedger" 1 := ⟨jw_443, jw_1, ⟨rfl, by decide +kernel, by decide +kernel, by decide +kernel⟩, Nat.le_of_ble_eq_true rfl⟩
theorem jok_17 : jx_ok 17 "ScriptLedger" 0 := ⟨jw_452, jw_1, ⟨rfl, by decide +kernel, by decide +kernel, by decide +kernel⟩, Nat.le_of_ble_eq_true rfl⟩
theorem jok_18 : jx_ok 18 "ScriptLedger" 0 := ⟨jw_456, jw_1, ⟨rfl, by decide +kernel, by decide +kernel, by decide +kernel⟩, Nat.le_of_ble_eq_true rfl⟩
theorem jok_19 : jx_ok 19 "ScriptLedger" 1 := ⟨jw_318, jw_1, ⟨rfl, by decide +kernel, by decide +kernel, by decide +kernel⟩, Nat.le_of_ble_eq_true rfl⟩
theorem jok_20 : jx_ok 20 "ScriptLedger" 0 := ⟨jw_341, jw_1, ⟨rfl, by decide +kernel, by decide +kernel, by decide +kernel⟩, Nat.le_of_ble_eq_true rfl⟩
theorem jok_21 : jx_ok 21 "ScriptLedger" 0 := ⟨jw_344, jw_1, ⟨rfl, by decide +kernel, by decide +kernel, by decide +kernel⟩, Nat.le_of_ble_eq_true rfl⟩
theorem jok_22 : jx_ok 22 "ScriptLedger" 0 := ⟨jw_359, jw_1, ⟨rfl, by decide +kernel, by decide +kernel, by decide +kernel⟩, Nat.le_of_ble_eq_true rfl⟩
theorem jok_23 : jx_ok 23 "ScriptLedger" 1 := ⟨jw_362, jw_1, ⟨rfl, by decide +kernel, by decide +kernel, by decide +kernel⟩, Nat.le_of_ble_eq_true rfl⟩
theorem jok_24 : jx_ok 24 "ScriptLedger" 0 := ⟨jw_374, jw_1, ⟨rfl, by decide +kernel, by decide +kernel, by decide +kernel⟩, Nat.le_of_ble_eq_true rfl⟩
theorem jok_25 : jx_ok 25 "ScriptLedger" 0 := ⟨jw_381, jw_1, ⟨rfl, by decide +kernel, by decide +kernel, by decide +kernel⟩, Nat.le_of_ble_eq_true rfl⟩
theorem jok_26 : jx_ok 26 "ScriptLedger" 0 := ⟨jw_387, jw_1, ⟨rfl, by decide +kernel, by decide +kernel, by decide +kernel⟩, Nat.le_of_ble_eq_true rfl⟩
theorem jok_27 : jx_ok 27 "ScriptLedger" 1 := ⟨jw_384, jw_1, ⟨rfl, by decide +kernel, by decide +kernel, by decide +kernel⟩, Nat.le_of_ble_eq_true rfl⟩
theorem jok_28 : jx_ok 28 "ScriptLedger" 0 := ⟨jw_390, jw_1, ⟨rfl, by decide +kernel, by decide +kernel, by decide +kernel⟩, Nat.le_of_ble_eq_true rfl⟩
theorem jok_29 : jx_ok 29 "ScriptLedger" 0 := ⟨jw_393, jw_1, ⟨rfl, by decide +kernel, by decide +kernel, by decide +kernel⟩, Nat.le_of_ble_eq_true rfl⟩
theorem jok_30 : jx_ok 30 "ScriptLedger" 0 := ⟨jw_396, jw_1, ⟨rfl, by decide +kernel, by decide +kernel, by decide +kernel⟩, Nat.le_of_ble_eq_true rfl⟩
theorem jok_31 : jx_ok 31 "ScriptLedger" 0 := ⟨jw_399, jw_1, ⟨rfl, by decide +kernel, by decide +kernel, by decide +kernel⟩, Nat.le_of_ble_eq_true rfl⟩
theorem jok_32 : jx_ok 32 "ScriptLedger$Draft" 0 := ⟨jw_22, jw_2, ⟨rfl, by decide +kernel, by decide +kernel, by decide +kernel⟩, Nat.le_of_ble_eq_true rfl⟩
theorem jok_33 : jx_ok 33 "ScriptLedger$Draft" 2 := ⟨jw_175, jw_2, ⟨rfl, by decide +kernel, by decide +kernel, by decide +kernel⟩, Nat.le_of_ble_eq_true rfl⟩
theorem jok_34 : jx_ok 34 "ScriptLedger$Machine" 0 := ⟨jw_32, jw_3, ⟨rfl, by decide +kernel, by decide +kernel, by decide +kernel⟩, Nat.le_of_ble_eq_true rfl⟩
theorem jok_35 : jx_ok 35 "ScriptLedger$Machine" 5 := ⟨jw_205, jw_3, ⟨rfl, by decide +kernel, by decide +kernel, by decide +kernel⟩, Nat.le_of_ble_eq_true rfl⟩
theorem jok_36 : jx_ok 36 "ScriptLedger$Machine" 2 := ⟨jw_209, jw_3, ⟨rfl, by decide +kernel, by decide +kernel, by decide +kernel⟩, Nat.le_of_ble_eq_true rfl⟩
theorem jok_37 : jx_ok 37 "ScriptLedger$Machine" 1 := ⟨jw_223, jw_3, ⟨rfl, by decide +kernel, by decide +kernel, by decide +kernel⟩, Nat.le_of_ble_eq_true rfl⟩
theorem jok_38 : jx_ok 38 "ScriptLedger$Machine" 0 := ⟨jw_240, jw_3, ⟨rfl, by decide +kernel, by decide +kernel, by decide +kernel⟩, Nat.le_of_ble_eq_true rfl⟩
theorem jok_39 : jx_ok 39 "ScriptLedger$Machine" 0 := ⟨jw_254, jw_3, ⟨rfl, by decide +kernel, by decide +kernel, by decide +kernel⟩, Nat.le_of_ble_eq_true rfl⟩
theorem jok_40 : jx_ok 40 "ScriptLedger$Machine" 0 := ⟨jw_263, jw_3, ⟨rfl, by decide +kernel, by decide +kernel, by decide +kernel⟩, Nat.le_of_ble_eq_true rfl⟩
theorem jok_41 : jx_ok 41 "ScriptLedger$Machine" 0 := ⟨jw_266, jw_3, ⟨rfl, by decide +kernel, by decide +kernel, by decide +kernel⟩, Nat.le_of_ble_eq_true rfl⟩
theorem jok_42 : jx_ok 42 "ScriptLedger$Machine" 0 := ⟨jw_269, jw_3, ⟨rfl, by decide +kernel, by decide +kernel, by decide +kernel⟩, Nat.le_of_ble_eq_true rfl⟩
theorem jok_43 : jx_ok 43 "ScriptLedger$Machine" 0 := ⟨jw_273, jw_3, ⟨rfl, by decide +kernel, by decide +kernel, by decide +kernel⟩, Nat.le_of_ble_eq_true rfl⟩
theorem jok_44 : jx_ok 44 "ScriptLedger$Machine" 3 := ⟨jw_277, jw_3, ⟨rfl, by decide +kernel, by decide +kernel, by decide +kernel⟩, Nat.le_of_ble_eq_true rfl⟩
theorem jok_45 : jx_ok 45 "ScriptLedger$Machine" 3 := ⟨jw_280, jw_3, ⟨rfl, by decide +kernel, by decide +kernel, by decide +kernel⟩, Nat.le_of_ble_eq_true rfl⟩
theorem jok_46 : jx_ok 46 "ScriptLedger$Machine" 3 := ⟨jw_283, jw_3, ⟨rfl, by decide +kernel, by decide +kernel, by decide +kernel⟩, Nat.le_of_ble_eq_true rfl⟩
theorem jok_47 : jx_ok 47 "ScriptLedger$Machine" 2 := ⟨jw_286, jw_3, ⟨rfl, by decide +kernel, by decide +kernel, by decide +kernel⟩, Nat.le_of_ble_eq_true rfl⟩
theorem jok_48 : jx_ok 48 "ScriptLedger$Machine" 2 := ⟨jw_289, jw_3, ⟨rfl, by decide +kernel, by decide +kernel, by decide +kernel⟩, Nat.le_of_ble_eq_true rfl⟩
theorem jok_49 : jx_ok 49 "ScriptLedger$Machine" 1 := ⟨jw_243, jw_3, ⟨rfl, by decide +kernel, by decide +kernel, by decide +kernel⟩, Nat.le_of_ble_eq_true rfl⟩
theorem jok_50 : jx_ok 50 "ScriptLedger$Machine" 3 := ⟨jw_234, jw_3, ⟨rfl, by decide +kernel, by decide +kernel, by decide +kernel⟩, Nat.le_of_ble_eq_true rfl⟩
theorem jok_51 : jx_ok 51 "ScriptLedger$Machine" 2 := ⟨jw_220, jw_3, ⟨rfl, by decide +kernel, by decide +kernel, by decide +kernel⟩, Nat.le_of_ble_eq_true rfl⟩
theorem jok_52 : jx_ok 52 "ScriptLedger$Machine" 1 := ⟨jw_250, jw_3, ⟨rfl, by decide +kernel, by decide +kernel, by decide +kernel⟩, Nat.le_of_ble_eq_true rfl⟩
theorem jok_53 : jx_ok 53 "ScriptLedger$Machine" 1 := ⟨jw_237, jw_3, ⟨rfl, by decide +kernel, by decide +kernel, by decide +kernel⟩, Nat.le_of_ble_eq_true rfl⟩
theorem jok_54 : jx_ok 54 "ScriptLedger$Machine" 0 := ⟨jw_257, jw_3, ⟨rfl, by decide +kernel, by decide +kernel, by decide +kernel⟩, Nat.le_of_ble_eq_true rfl⟩
theorem jok_55 : jx_ok 55 "ScriptLedger$Scripts" 0 := ⟨jw_37, jw_4, ⟨rfl, by decide +kernel, by decide +kernel, by decide +kernel⟩, Nat.le_of_ble_eq_true rfl⟩
theorem jok_56 : jx_ok 56 "ScriptLedger$Scripts" 1 := ⟨jw_201, jw_4, ⟨rfl, by decide +kernel, by decide +kernel, by decide +kernel⟩, Nat.le_of_ble_eq_true rfl⟩
theorem jok_57 : jx_ok 57 "ScriptLedger$Scripts" 1 := ⟨jw_187, jw_4, ⟨rfl, by decide +kernel, by decide +kernel, by decide +kernel⟩, Nat.le_of_ble_eq_true rfl⟩
theorem jok_58 : jx_ok 58 "ScriptLedger$Scripts" 2 := ⟨jw_183, jw_4, ⟨rfl, by decide +kernel, by decide +kernel, by decide +kernel⟩, Nat.le_of_ble_eq_true rfl⟩
theorem jok_59 : jx_ok 59 "ScriptLedger$Scripts" 6 := ⟨jw_190, jw_4, ⟨rfl, by decide +kernel, by decide +kernel, by decide +kernel⟩, Nat.le_of_ble_eq_true rfl⟩
theorem jok_60 : jx_ok 60 "ScriptLedger$Scripts" 4 := ⟨jw_193, jw_4, ⟨rfl, by decide +kernel, by decide +kernel, by decide +kernel⟩, Nat.le_of_ble_eq_true rfl⟩
theorem jok_61 : jx_ok 61 "ScriptLedger$Values" 0 := ⟨jw_47, jw_5, ⟨rfl, by decide +kernel, by decide +kernel, by decide +kernel⟩, Nat.le_of_ble_eq_true rfl⟩
theorem jok_62 : jx_ok 62 "ScriptLedger$Values" 0 := ⟨jw_213, jw_5, ⟨rfl, by decide +kernel, by decide +kernel, by decide +kernel⟩, Nat.le_of_ble_eq_true rfl⟩
theorem jok_63 : jx_ok 63 "ScriptLedger$Values" 4 := ⟨jw_217, jw_5, ⟨rfl, by decide +kernel, by decide +kernel, by decide +kernel⟩, Nat.le_of_ble_eq_true rfl⟩
theorem jok_64 : jx_ok 64 "ScriptLedger$Values" 2 := ⟨jw_227, jw_5, ⟨rfl, by decide +kernel, by decide +kernel, by decide +kernel⟩, Nat.le_of_ble_eq_true rfl⟩
theorem jok_65 : jx_ok 65 "ScriptLedger$Values" 2 := ⟨jw_231, jw_5, ⟨rfl, by decide +kernel, by decide +kernel, by decide +kernel⟩, Nat.le_of_ble_eq_true rfl⟩
theorem jok_66 : jx_ok 66 "ScriptLedger$Values" 2 := ⟨jw_247, jw_5, ⟨rfl, by decide +kernel, by decide +kernel, by decide +kernel⟩, Nat.le_of_ble_eq_true rfl⟩
theorem jok_67 : jx_ok 67 "ScriptLedger$Ledger" 1 := ⟨jw_83, jw_6, ⟨rfl, by decide +kernel, by decide +kernel, by decide +kernel⟩, Nat.le_of_ble_eq_true rfl⟩
theorem jok_68 : jx_ok 68 "ScriptLedger$Ledger" 1 := ⟨jw_352, jw_6, ⟨rfl, by decide +kernel, by decide +kernel, by decide +kernel⟩, Nat.le_of_ble_eq_true rfl⟩
theorem jok_69 : jx_ok 69 "ScriptLedger$Ledger" 1 := ⟨jw_348, jw_6, ⟨rfl, by decide +kernel, by decide +kernel, by decide +kernel⟩, Nat.le_of_ble_eq_true rfl⟩
theorem jok_70 : jx_ok 70 "ScriptLedger$Ledger" 1 := ⟨jw_403, jw_6, ⟨rfl, by decide +kernel, by decide +kernel, by decide +kernel⟩, Nat.le_of_ble_eq_true rfl⟩
theorem jok_71 : jx_ok 71 "ScriptLedger$Ledger" 2 := ⟨jw_407, jw_6, ⟨rfl, by decide +kernel, by decide +kernel, by decide +kernel⟩, Nat.le_of_ble_eq_true rfl⟩
theorem jok_72 : jx_ok 72 "ScriptLedger$Ledger" 1 := ⟨jw_413, jw_6, ⟨rfl, by decide +kernel, by decide +kernel, by decide +kernel⟩, Nat.le_of_ble_eq_true rfl⟩
theorem jok_73 : jx_ok 73 "ScriptLedger$Ledger" 1 := ⟨jw_447, jw_6, ⟨rfl, by decide +kernel, by decide +kernel, by decide +kernel⟩, Nat.le_of_ble_eq_true rfl⟩
theorem jok_74 : jx_ok 74 "ScriptLedger$Ledger" 0 := ⟨jw_422, jw_6, ⟨rfl, by decide +kernel, by decide +kernel, by decide +kernel⟩, Nat.le_of_ble_eq_true rfl⟩
theorem jok_75 : jx_ok 75 "ScriptLedger$Ledger" 1 := ⟨jw_430, jw_6, ⟨rfl, by decide +kernel, by decide +kernel, by decide +kernel⟩, Nat.le_of_ble_eq_true rfl⟩
theorem jok_76 : jx_ok 76 "ScriptLedger$OutputRow" 1 := ⟨jw_89, jw_7, ⟨rfl, by decide +kernel, by decide +kernel, by decide +kernel⟩, Nat.le_of_ble_eq_true rfl⟩
theorem jok_77 : jx_ok 77 "ScriptLedger$OutputRow" 1 := ⟨jw_112, jw_7, ⟨rfl, by decide +kernel, by decide +kernel, by decide +kernel⟩, Nat.le_of_ble_eq_true rfl⟩
theorem jok_78 : jx_ok 78 "ScriptLedger$OutputRow" 5 := ⟨jw_108, jw_7, ⟨rfl, by decide +kernel, by decide +kernel, by decide +kernel⟩, Nat.le_of_ble_eq_true rfl⟩
theorem jok_79 : jx_ok 79 "ScriptLedger$OutputRow" 2 := ⟨jw_366, jw_7, ⟨rfl, by decide +kernel, by decide +kernel, by decide +kernel⟩, Nat.le_of_ble_eq_true rfl⟩
theorem jok_80 : jx_ok 80 "ScriptLedger$OutputRow" 1 := ⟨jw_370, jw_7, ⟨rfl, by decide +kernel, by decide +kernel, by decide +kernel⟩, Nat.le_of_ble_eq_true rfl⟩
theorem jok_81 : jx_ok 81 "ScriptLedger$Transaction" 0 := ⟨jw_126, jw_9, ⟨rfl, by decide +kernel, by decide +kernel, by decide +kernel⟩, Nat.le_of_ble_eq_true rfl⟩
theorem jok_82 : jx_ok 82 "ScriptLedger$Transaction" 0 := ⟨jw_133, jw_9, ⟨rfl, by decide +kernel, by decide +kernel, by decide +kernel⟩, Nat.le_of_ble_eq_true rfl⟩
theorem jok_83 : jx_ok 83 "ScriptLedger$Transaction" 5 := ⟨jw_137, jw_9, ⟨rfl, by decide +kernel, by decide +kernel, by decide +kernel⟩, Nat.le_of_ble_eq_true rfl⟩
theorem jok_84 : jx_ok 84 "ScriptLedger$Transaction" 1 := ⟨jw_306, jw_9, ⟨rfl, by decide +kernel, by decide +kernel, by decide +kernel⟩, Nat.le_of_ble_eq_true rfl⟩
theorem jok_85 : jx_ok 85 "ScriptLedger$Transaction" 2 := ⟨jw_310, jw_9, ⟨rfl, by decide +kernel, by decide +kernel, by decide +kernel⟩, Nat.le_of_ble_eq_true rfl⟩
theorem jok_86 : jx_ok 86 "ScriptLedger$Transaction" 0 := ⟨jw_356, jw_9, ⟨rfl, by decide +kernel, by decide +kernel, by decide +kernel⟩, Nat.le_of_ble_eq_true rfl⟩
theorem jok_87 : jx_ok 87 "ScriptLedger$Transaction" 1 := ⟨jw_378, jw_9, ⟨rfl, by decide +kernel, by decide +kernel, by decide +kernel⟩, Nat.le_of_ble_eq_true rfl⟩
theorem jok_88 : jx_ok 88 "ScriptLedgerModel" 1 := ⟨jw_464, jw_10, ⟨rfl, by decide +kernel, by decide +kernel, by decide +kernel⟩, Nat.le_of_ble_eq_true rfl⟩
theorem jok_89 : jx_ok 89 "ScriptLedgerModel" 2 := ⟨jw_534, jw_10, ⟨rfl, by decide +kernel, by decide +kernel, by decide +kernel⟩, Nat.le_of_ble_eq_true rfl⟩
theorem jok_90 : jx_ok 90 "ScriptLedgerModel" 2 := ⟨jw_519, jw_10, ⟨rfl, by decide +kernel, by decide +kernel, by decide +kernel⟩, Nat.le_of_ble_eq_true rfl⟩
theorem jok_91 : jx_ok 91 "ScriptLedgerModel" 0 := ⟨jw_527, jw_10, ⟨rfl, by decide +kernel, by decide +kernel, by decide +kernel⟩, Nat.le_of_ble_eq_true rfl⟩
theorem jok_92 : jx_ok 92 "ScriptLedgerModel" 0 := ⟨jw_524, jw_10, ⟨rfl, by decide +kernel, by decide +kernel, by decide +kernel⟩, Nat.le_of_ble_eq_true rfl⟩
theorem jok_93 : jx_ok 93 "ScriptLedgerModel" 1 := ⟨jw_555, jw_10, ⟨rfl, by decide +kernel, by decide +kernel, by decide +kernel⟩, Nat.le_of_ble_eq_true rfl⟩
theorem jok_94 : jx_ok 94 "ScriptLedgerModel" 5 := ⟨jw_540, jw_10, ⟨rfl, by decide +kernel, by decide +kernel, by decide +kernel⟩, Nat.le_of_ble_eq_true rfl⟩
theorem jok_95 : jx_ok 95 "ScriptLedgerModel" 1 := ⟨jw_537, jw_10, ⟨rfl, by decide +kernel, by decide +kernel, by decide +kernel⟩, Nat.le_of_ble_eq_true rfl⟩
theorem jok_96 : jx_ok 96 "ScriptLedgerModel" 2 := ⟨jw_579, jw_10, ⟨rfl, by decide +kernel, by decide +kernel, by decide +kernel⟩, Nat.le_of_ble_eq_true rfl⟩
theorem jok_97 : jx_ok 97 "ScriptLedgerModel" 1 := ⟨jw_567, jw_10, ⟨rfl, by decide +kernel, by decide +kernel, by decide +kernel⟩, Nat.le_of_ble_eq_true rfl⟩
theorem jok_98 : jx_ok 98 "ScriptLedgerModel" 1 := ⟨jw_552, jw_10, ⟨rfl, by decide +kernel, by decide +kernel, by decide +kernel⟩, Nat.le_of_ble_eq_true rfl⟩
theorem jok_99 : jx_ok 99 "ScriptLedgerModel" 0 := ⟨jw_558, jw_10, ⟨rfl, by decide +kernel, by decide +kernel, by decide +kernel⟩, Nat.le_of_ble_eq_true rfl⟩
theorem jok_100 : jx_ok 100 "ScriptLedgerModel" 3 := ⟨jw_546, jw_10, ⟨rfl, by decide +kernel, by decide +kernel, by decide +kernel⟩, Nat.le_of_ble_eq_true rfl⟩
theorem jok_101 : jx_ok 101 "ScriptLedgerModel" 0 := ⟨jw_549, jw_10, ⟨rfl, by decide +kernel, by decide +kernel, by decide +kernel⟩, Nat.le_of_ble_eq_true rfl⟩
theorem jok_102 : jx_ok 102 "ScriptLedgerModel" 0 := ⟨jw_561, jw_10, ⟨rfl, by decide +kernel, by decide +kernel, by decide +kernel⟩, Nat.le_of_ble_eq_true rfl⟩
theorem jok_103 : jx_ok 103 "ScriptLedgerModel" 2 := ⟨jw_564, jw_10, ⟨rfl, by decide +kernel, by decide +kernel, by decide +kernel⟩, Nat.le_of_ble_eq_true rfl⟩
theorem jok_104 : jx_ok 104 "ScriptLedgerModel" 1 := ⟨jw_573, jw_10, ⟨rfl, by decide +kernel, by decide +kernel, by decide +kernel⟩, Nat.le_of_ble_eq_true rfl⟩
theorem jok_105 : jx_ok 105 "ScriptLedgerModel" 4 := ⟨jw_570, jw_10, ⟨rfl, by decide +kernel, by decide +kernel, by decide +kernel⟩, Nat.le_of_ble_eq_true rfl⟩
theorem jok_106 : jx_ok 106 "ScriptLedgerModel" 3 := ⟨jw_576, jw_10, ⟨rfl, by decide +kernel, by decide +kernel, by decide +kernel⟩, Nat.le_of_ble_eq_true rfl⟩
theorem jok_107 : jx_ok 107 "ScriptLedgerModel" 5 := ⟨jw_543, jw_10, ⟨rfl, by decide +kernel, by decide +kernel, by decide +kernel⟩, Nat.le_of_ble_eq_true rfl⟩
theorem jok_108 : jx_ok 108 "ScriptLedgerModel" 4 := ⟨jw_531, jw_10, ⟨rfl, by decide +kernel, by decide +kernel, by decide +kernel⟩, Nat.le_of_ble_eq_true rfl⟩
theorem jok_109 : jx_ok 109 "ScriptLedgerModel" 1 := ⟨jw_583, jw_10, ⟨rfl, by decide +kernel, by decide +kernel, by decide +kernel⟩, Nat.le_of_ble_eq_true rfl⟩
theorem jok_110 : jx_ok 110 "ScriptLedgerModel" 0 := ⟨jw_587, jw_10, ⟨rfl, by decide +kernel, by decide +kernel, by decide +kernel⟩, Nat.le_of_ble_eq_true rfl⟩
theorem jok_111 : jx_ok 111 "ScriptLedgerModel" 1 := ⟨jw_594, jw_10, ⟨rfl, by decide +kernel, by decide +kernel, by decide +kernel⟩, Nat.le_of_ble_eq_true rfl⟩
theorem jok_112 : jx_ok 112 "ScriptLedgerModel" 2 := ⟨jw_591, jw_10, ⟨rfl, by decide +kernel, by decide +kernel, by decide +kernel⟩, Nat.le_of_ble_eq_true rfl⟩
theorem jok_113 : jx_ok 113 "ScriptLedgerModel" 5 := ⟨jw_598, jw_10, ⟨rfl, by decide +kernel, by decide +kernel, by decide +kernel⟩, Nat.le_of_ble_eq_true rfl⟩
theorem jok_114 : jx_ok 114 "ScriptLedgerModel" 3 := ⟨jw_603, jw_10, ⟨rfl, by decide +kernel, by decide +kernel, by decide +kernel⟩, Nat.le_of_ble_eq_true rfl⟩
theorem jok_115 : jx_ok 115 "ScriptLedgerModel" 5 := ⟨jw_609, jw_10, ⟨rfl, by decide +kernel, by decide +kernel, by decide +kernel⟩, Nat.le_of_ble_eq_true rfl⟩
theorem jok_116 : jx_ok 116 "ScriptLedgerModel" 1 := ⟨jw_613, jw_10, ⟨rfl, by decide +kernel, by decide +kernel, by decide +kernel⟩, Nat.le_of_ble_eq_true rfl⟩
theorem jok_117 : jx_ok 117 "ScriptLedgerModel" 1 := ⟨jw_626, jw_10, ⟨rfl, by decide +kernel, by decide +kernel, by decide +kernel⟩, Nat.le_of_ble_eq_true rfl⟩
theorem jok_118 : jx_ok 118 "ScriptLedgerModel" 0 := ⟨jw_623, jw_10, ⟨rfl, by decide +kernel, by decide +kernel, by decide +kernel⟩, Nat.le_of_ble_eq_true rfl⟩
theorem jok_119 : jx_ok 119 "ScriptLedgerModel" 0 := ⟨jw_629, jw_10, ⟨rfl, by decide +kernel, by decide +kernel, by decide +kernel⟩, Nat.le_of_ble_eq_true rfl⟩
theorem jok_120 : jx_ok 120 "ScriptLedgerModel" 1 := ⟨jw_635, jw_10, ⟨rfl, by decide +kernel, by decide +kernel, by decide +kernel⟩, Nat.le_of_ble_eq_true rfl⟩
theorem jok_121 : jx_ok 121 "ScriptLedgerModel" 0 := ⟨jw_632, jw_10, ⟨rfl, by decide +kernel, by decide +kernel, by decide +kernel⟩, Nat.le_of_ble_eq_true rfl⟩
theorem jok_122 : jx_ok 122 "ScriptLedgerModel" 0 := ⟨jw_638, jw_10, ⟨rfl, by decide +kernel, by decide +kernel, by decide +kernel⟩, Nat.le_of_ble_eq_true rfl⟩
theorem jok_123 : jx_ok 123 "ScriptLedgerModel" 0 := ⟨jw_641, jw_10, ⟨rfl, by decide +kernel, by decide +kernel, by decide +kernel⟩, Nat.le_of_ble_eq_true rfl⟩
theorem jok_124 : jx_ok 124 "ScriptLedgerModel" 0 := ⟨jw_620, jw_10, ⟨rfl, by decide +kernel, by decide +kernel, by decide +kernel⟩, Nat.le_of_ble_eq_true rfl⟩
theorem jok_125 : jx_ok 125 "ScriptLedgerModel" 1 := ⟨jw_651, jw_10, ⟨rfl, by decide +kernel, by decide +kernel, by decide +kernel⟩, Nat.le_of_ble_eq_true rfl⟩
theorem jok_126 : jx_ok 126 "ScriptLedgerModel" 5 := ⟨jw_648, jw_10, ⟨rfl, by decide +kernel, by decide +kernel, by decide +kernel⟩, Nat.le_of_ble_eq_true rfl⟩
theorem jok_127 : jx_ok 127 "ScriptLedgerModel" 0 := ⟨jw_645, jw_10, ⟨rfl, by decide +kernel, by decide +kernel, by decide +kernel⟩, Nat.le_of_ble_eq_true rfl⟩
theorem jok_128 : jx_ok 128 "ScriptLedgerModel" 0 := ⟨jw_654, jw_10, ⟨rfl, by decide +kernel, by decide +kernel, by decide +kernel⟩, Nat.le_of_ble_eq_true rfl⟩
theorem jok_129 : jx_ok 129 "ScriptLedgerModel" 0 := ⟨jw_617, jw_10, ⟨rfl, by decide +kernel, by decide +kernel, by decide +kernel⟩, Nat.le_of_ble_eq_true rfl⟩
theorem jok_130 : jx_ok 130 "ScriptLedgerModel" 0 := ⟨jw_659, jw_10, ⟨rfl, by decide +kernel, by decide +kernel, by decide +kernel⟩, Nat.le_of_ble_eq_true rfl⟩
theorem jok_131 : jx_ok 131 "ScriptLedgerModel" 1 := ⟨jw_663, jw_10, ⟨rfl, by decide +kernel, by decide +kernel, by decide +kernel⟩, Nat.le_of_ble_eq_true rfl⟩
theorem jok_132 : jx_ok 132 "ScriptLedgerModel" 0 := ⟨jw_667, jw_10, ⟨rfl, by decide +kernel, by decide +kernel, by decide +kernel⟩, Nat.le_of_ble_eq_true rfl⟩
theorem jok_133 : jx_ok 133 "ScriptLedgerModel" 2 := ⟨jw_671, jw_10, ⟨rfl, by decide +kernel, by decide +kernel, by decide +kernel⟩, Nat.le_of_ble_eq_true rfl⟩
theorem jok_134 : jx_ok 134 "ScriptLedgerModel" 1 := ⟨jw_675, jw_10, ⟨rfl, by decide +kernel, by decide +kernel, by decide +kernel⟩, Nat.le_of_ble_eq_true rfl⟩
theorem jok_135 : jx_ok 135 "ScriptLedgerModel" 0 := ⟨jw_679, jw_10, ⟨rfl, by decide +kernel, by decide +kernel, by decide +kernel⟩, Nat.le_of_ble_eq_true rfl⟩
theorem jok_136 : jx_ok 136 "ScriptLedgerModel" 0 := ⟨jw_683, jw_10, ⟨rfl, by decide +kernel, by decide +kernel, by decide +kernel⟩, Nat.le_of_ble_eq_true rfl⟩
theorem jok_137 : jx_ok 137 "ScriptLedgerLaw" 2 := ⟨jw_459, jw_0, ⟨rfl, by decide +kernel, by decide +kernel, by decide +kernel⟩, Nat.le_of_ble_eq_true rfl⟩
end
section
/-! ScriptLedger.<init>(I)V -/
theorem jd_0_0 : decode prog_1_method_1_code 0 = .ok (.aload_n 0, 1) := by decide +kernel
theorem jd_0_1 : decode prog_1_method_1_code 1 = .ok (.invokespecial 1, 3) := by decide +kernel
theorem jd_0_4 : decode prog_1_method_1_code 4 = .ok (.aload_n 0, 1) := by decide +kernel
theorem jd_0_5 : decode prog_1_method_1_code 5 = .ok (.new 7, 3) := by decide +kernel
theorem jd_0_8 : decode prog_1_method_1_code 8 = .ok (.dup, 1) := by decide +kernel
theorem jd_0_9 : decode prog_1_method_1_code 9 = .ok (.invokespecial 9, 3) := by decide +kernel
theorem jd_0_12 : decode prog_1_method_1_code 12 = .ok (.putfield 10, 3) := by decide +kernel
theorem jd_0_15 : decode prog_1_method_1_code 15 = .ok (.aload_n 0, 1) := by decide +kernel
theorem jd_0_16 : decode prog_1_method_1_code 16 = .ok (.new 16, 3) := by decide +kernel
theorem jd_0_19 : decode prog_1_method_1_code 19 = .ok (.dup, 1) := by decide +kernel
theorem jd_0_20 : decode prog_1_method_1_code 20 = .ok (.invokespecial 18, 3) := by decide +kernel
theorem jd_0_23 : decode prog_1_method_1_code 23 = .ok (.putfield 19, 3) := by decide +kernel
theorem jd_0_26 : decode prog_1_method_1_code 26 = .ok (.aload_n 0, 1) := by decide +kernel
theorem jd_0_27 : decode prog_1_method_1_code 27 = .ok (.new 23, 3) := by decide +kernel
theorem jd_0_30 : decode prog_1_method_1_code 30 = .ok (.dup, 1) := by decide +kernel
theorem jd_0_31 : decode prog_1_method_1_code 31 = .ok (.iload_n 1, 1) := by decide +kernel
theorem jd_0_32 : decode prog_1_method_1_code 32 = .ok (.invokespecial 25, 3) := by decide +kernel
theorem jd_0_35 : decode prog_1_method_1_code 35 = .ok (.putfield 28, 3) := by decide +kernel
theorem jd_0_38 : decode prog_1_method_1_code 38 = .ok (.aload_n 0, 1) := by decide +kernel
theorem jd_0_39 : decode prog_1_method_1_code 39 = .ok (.new 32, 3) := by decide +kernel
theorem jd_0_42 : decode prog_1_method_1_code 42 = .ok (.dup, 1) := by decide +kernel
theorem jd_0_43 : decode prog_1_method_1_code 43 = .ok (.invokespecial 34, 3) := by decide +kernel
theorem jd_0_46 : decode prog_1_method_1_code 46 = .ok (.putfield 35, 3) := by decide +kernel
theorem jd_0_49 : decode prog_1_method_1_code 49 = .ok (.aload_n 0, 1) := by decide +kernel
theorem jd_0_50 : decode prog_1_method_1_code 50 = .ok (.bipush 10, 2) := by decide +kernel
theorem jd_0_52 : decode prog_1_method_1_code 52 = .ok (.newarray .int, 2) := by decide +kernel
theorem jd_0_54 : decode prog_1_method_1_code 54 = .ok (.putfield 39, 3) := by decide +kernel
theorem jd_0_57 : decode prog_1_method_1_code 57 = .ok (.aload_n 0, 1) := by decide +kernel
theorem jd_0_58 : decode prog_1_method_1_code 58 = .ok (.iconst 0, 1) := by decide +kernel
theorem jd_0_59 : decode prog_1_method_1_code 59 = .ok (.newarray .int, 2) := by decide +kernel
theorem jd_0_61 : decode prog_1_method_1_code 61 = .ok (.putfield 43, 3) := by decide +kernel
theorem jd_0_64 : decode prog_1_method_1_code 64 = .ok (.return_, 1) := by decide +kernel
def jnt_0 (pc : Nat) : jn_Sp := bif Nat.ble pc 31 then (bif Nat.ble pc 15 then (bif Nat.ble pc 5 then (bif Nat.ble pc 1 then (bif Nat.ble pc 0 then (bif Nat.beq pc 0 then jn_of (js_al 0 1) else jn_none) else (bif Nat.beq pc 1 then jn_obj else jn_none)) else (bif Nat.ble pc 4 then (bif Nat.beq pc 4 then jn_of (js_al 0 1) else jn_none) else (bif Nat.beq pc 5 then jn_new 1 2 [some none, none] else jn_none))) else (bif Nat.ble pc 9 then (bif Nat.ble pc 8 then (bif Nat.beq pc 8 then jn_of (js_dup) else jn_none) else (bif Nat.beq pc 9 then jn_i0 32 1 48 else jn_none)) else (bif Nat.ble pc 12 then (bif Nat.beq pc 12 then jn_putr 0 0 else jn_none) else (bif Nat.beq pc 15 then jn_of (js_al 0 1) else jn_none)))) else (bif Nat.ble pc 23 then (bif Nat.ble pc 19 then (bif Nat.ble pc 16 then (bif Nat.beq pc 16 then jn_new 2 16 [some none, some none, some none, some none, some none, none, none, none, none, none, none, none, none, none, none, none] else jn_none) else (bif Nat.beq pc 19 then jn_of (js_dup) else jn_none)) else (bif Nat.ble pc 20 then (bif Nat.beq pc 20 then jn_i0 34 11 3016 else jn_none) else (bif Nat.beq pc 23 then jn_putr 0 1 else jn_none))) else (bif Nat.ble pc 27 then (bif Nat.ble pc 26 then (bif Nat.beq pc 26 then jn_of (js_al 0 1) else jn_none) else (bif Nat.beq pc 27 then jn_new 5 6 [some none, some none, some none, some none, none, none] else jn_none)) else (bif Nat.ble pc 30 then (bif Nat.beq pc 30 then jn_of (js_dup) else jn_none) else (bif Nat.beq pc 31 then jn_of (js_il 1 1) else jn_none))))) else (bif Nat.ble pc 49 then (bif Nat.ble pc 39 then (bif Nat.ble pc 35 then (bif Nat.ble pc 32 then (bif Nat.beq pc 32 then jn_i1 67 7 374 else jn_none) else (bif Nat.beq pc 35 then jn_putr 0 2 else jn_none)) else (bif Nat.ble pc 38 then (bif Nat.beq pc 38 then jn_of (js_al 0 1) else jn_none) else (bif Nat.beq pc 39 then jn_new 7 12 [some none, some none, none, some none, some none, some none, none, none, none, none, none, none] else jn_none))) else (bif Nat.ble pc 43 then (bif Nat.ble pc 42 then (bif Nat.beq pc 42 then jn_of (js_dup) else jn_none) else (bif Nat.beq pc 43 then jn_i0 81 8 256 else jn_none)) else (bif Nat.ble pc 46 then (bif Nat.beq pc 46 then jn_putr 0 3 else jn_none) else (bif Nat.beq pc 49 then jn_of (js_al 0 1) else jn_none)))) else (bif Nat.ble pc 57 then (bif Nat.ble pc 52 then (bif Nat.ble pc 50 then (bif Nat.beq pc 50 then jn_of (js_c 10 2) else jn_none) else (bif Nat.beq pc 52 then jn_newa else jn_none)) else (bif Nat.ble pc 54 then (bif Nat.beq pc 54 then jn_putr 0 4 else jn_none) else (bif Nat.beq pc 57 then jn_of (js_al 0 1) else jn_none))) else (bif Nat.ble pc 59 then (bif Nat.ble pc 58 then (bif Nat.beq pc 58 then jn_of (js_c 0 1) else jn_none) else (bif Nat.beq pc 59 then jn_newa else jn_none)) else (bif Nat.ble pc 61 then (bif Nat.beq pc 61 then jn_putr 0 5 else jn_none) else (bif Nat.beq pc 64 then jn_vr else jn_none)))))
theorem jnk_0_0 : jn_Snd 0 0 (jn_of (js_al 0 1)) := jn_lift (jo_aload_n (i := 0) (w := 0) rfl jd_0_0)
theorem jnk_0_1 : jn_Snd 0 1 (jn_obj) := jno_obj rfl jw_16 jw_17 jw_18 jd_0_1
theorem jnk_0_4 : jn_Snd 0 4 (jn_of (js_al 0 1)) := jn_lift (jo_aload_n (i := 0) (w := 0) rfl jd_0_4)
theorem jnk_0_5 : jn_Snd 0 5 (jn_new 1 2 [some none, none]) := jno_new (tt := ju_1) rfl rfl jhl_1 jty_1 jw_19 jw_20 jw_2 rfl (by decide +kernel) jd_0_5
theorem jnk_0_8 : jn_Snd 0 8 (jn_of (js_dup)) := jn_lift (jo_dup jd_0_8)
theorem jnk_0_9 : jn_Snd 0 9 (jn_i0 32 1 48) := jno_i0 rfl jok_32 (Or.inr ⟨_, List.mem_of_getElem? (i := 0) rfl⟩) jw_21 rfl rfl jd_0_9
theorem jnk_0_12 : jn_Snd 0 12 (jn_putr 0 0) := jno_putr rfl rfl jf_0_10 (fun C T N h => by cases h; exact ⟨rfl, rfl⟩) ⟨_, _, _, rfl, jw_162⟩ (fun a => ⟨rfl, rfl⟩) jd_0_12
theorem jnk_0_15 : jn_Snd 0 15 (jn_of (js_al 0 1)) := jn_lift (jo_aload_n (i := 0) (w := 0) rfl jd_0_15)
theorem jnk_0_16 : jn_Snd 0 16 (jn_new 2 16 [some none, some none, some none, some none, some none, none, none, none, none, none, none, none, none, none, none, none]) := jno_new (tt := ju_2) rfl rfl jhl_2 jty_2 jw_29 jw_30 jw_3 rfl (by decide +kernel) jd_0_16
theorem jnk_0_19 : jn_Snd 0 19 (jn_of (js_dup)) := jn_lift (jo_dup jd_0_19)
theorem jnk_0_20 : jn_Snd 0 20 (jn_i0 34 11 3016) := jno_i0 rfl jok_34 (Or.inr ⟨_, List.mem_of_getElem? (i := 1) rfl⟩) jw_31 rfl rfl jd_0_20
theorem jnk_0_23 : jn_Snd 0 23 (jn_putr 0 1) := jno_putr rfl rfl jf_0_19 (fun C T N h => by cases h; exact ⟨rfl, rfl⟩) ⟨_, _, _, rfl, jw_163⟩ (fun a => ⟨rfl, rfl⟩) jd_0_23
theorem jnk_0_26 : jn_Snd 0 26 (jn_of (js_al 0 1)) := jn_lift (jo_aload_n (i := 0) (w := 0) rfl jd_0_26)
theorem jnk_0_27 : jn_Snd 0 27 (jn_new 5 6 [some none, some none, some none, some none, none, none]) := jno_new (tt := ju_5) rfl rfl jhl_5 jty_5 jw_79 jw_80 jw_6 rfl (by decide +kernel) jd_0_27
theorem jnk_0_30 : jn_Snd 0 30 (jn_of (js_dup)) := jn_lift (jo_dup jd_0_30)
theorem jnk_0_31 : jn_Snd 0 31 (jn_of (js_il 1 1)) := jn_lift (jo_iload_n (i := 1) (w := 1) rfl jd_0_31)
theorem jnk_0_32 : jn_Snd 0 32 (jn_i1 67 7 374) := jno_i1 rfl jok_67 (Or.inl jw_81) jw_82 rfl rfl jd_0_32
theorem jnk_0_35 : jn_Snd 0 35 (jn_putr 0 2) := jno_putr rfl rfl jf_0_28 (fun C T N h => by cases h; exact ⟨rfl, rfl⟩) ⟨_, _, _, rfl, jw_164⟩ (fun a => ⟨rfl, rfl⟩) jd_0_35
theorem jnk_0_38 : jn_Snd 0 38 (jn_of (js_al 0 1)) := jn_lift (jo_aload_n (i := 0) (w := 0) rfl jd_0_38)
theorem jnk_0_39 : jn_Snd 0 39 (jn_new 7 12 [some none, some none, none, some none, some none, some none, none, none, none, none, none, none]) := jno_new (tt := ju_7) rfl rfl jhl_7 jty_7 jw_122 jw_123 jw_9 rfl (by decide +kernel) jd_0_39
theorem jnk_0_42 : jn_Snd 0 42 (jn_of (js_dup)) := jn_lift (jo_dup jd_0_42)
theorem jnk_0_43 : jn_Snd 0 43 (jn_i0 81 8 256) := jno_i0 rfl jok_81 (Or.inl jw_124) jw_125 rfl rfl jd_0_43
theorem jnk_0_46 : jn_Snd 0 46 (jn_putr 0 3) := jno_putr rfl rfl jf_0_35 (fun C T N h => by cases h; exact ⟨rfl, rfl⟩) ⟨_, _, _, rfl, jw_165⟩ (fun a => ⟨rfl, rfl⟩) jd_0_46
theorem jnk_0_49 : jn_Snd 0 49 (jn_of (js_al 0 1)) := jn_lift (jo_aload_n (i := 0) (w := 0) rfl jd_0_49)
theorem jnk_0_50 : jn_Snd 0 50 (jn_of (js_c 10 2)) := jn_lift (jo_bipush (z := 10) jd_0_50 (by decide +kernel))
theorem jnk_0_52 : jn_Snd 0 52 (jn_newa) := jno_newa (at_ := .int) rfl jw_28 jd_0_52
theorem jnk_0_54 : jn_Snd 0 54 (jn_putr 0 4) := jno_putr rfl rfl jf_0_39 (fun C T N h => by cases h; exact ⟨rfl, rfl⟩) ⟨_, _, _, rfl, jw_166⟩ (fun a => ⟨rfl, rfl⟩) jd_0_54
theorem jnk_0_57 : jn_Snd 0 57 (jn_of (js_al 0 1)) := jn_lift (jo_aload_n (i := 0) (w := 0) rfl jd_0_57)
theorem jnk_0_58 : jn_Snd 0 58 (jn_of (js_c 0 1)) := jn_lift (jo_iconst (z := 0) jd_0_58 rfl)
theorem jnk_0_59 : jn_Snd 0 59 (jn_newa) := jno_newa (at_ := .int) rfl jw_28 jd_0_59
theorem jnk_0_61 : jn_Snd 0 61 (jn_putr 0 5) := jno_putr rfl rfl jf_0_43 (fun C T N h => by cases h; exact ⟨rfl, rfl⟩) ⟨_, _, _, rfl, jw_167⟩ (fun a => ⟨rfl, rfl⟩) jd_0_61
theorem jnk_0_64 : jn_Snd 0 64 (jn_vr) := jno_vr jd_0_64
theorem jnk_0 : jn_So 0 jnt_0 := fun pc => jno_le (jno_le (jno_le (jno_le (jno_le (jno_at (jnk_0_0)) (jno_at (jnk_0_1))) (jno_le (jno_at (jnk_0_4)) (jno_at (jnk_0_5)))) (jno_le (jno_le (jno_at (jnk_0_8)) (jno_at (jnk_0_9))) (jno_le (jno_at (jnk_0_12)) (jno_at (jnk_0_15))))) (jno_le (jno_le (jno_le (jno_at (jnk_0_16)) (jno_at (jnk_0_19))) (jno_le (jno_at (jnk_0_20)) (jno_at (jnk_0_23)))) (jno_le (jno_le (jno_at (jnk_0_26)) (jno_at (jnk_0_27))) (jno_le (jno_at (jnk_0_30)) (jno_at (jnk_0_31)))))) (jno_le (jno_le (jno_le (jno_le (jno_at (jnk_0_32)) (jno_at (jnk_0_35))) (jno_le (jno_at (jnk_0_38)) (jno_at (jnk_0_39)))) (jno_le (jno_le (jno_at (jnk_0_42)) (jno_at (jnk_0_43))) (jno_le (jno_at (jnk_0_46)) (jno_at (jnk_0_49))))) (jno_le (jno_le (jno_le (jno_at (jnk_0_50)) (jno_at (jnk_0_52))) (jno_le (jno_at (jnk_0_54)) (jno_at (jnk_0_57)))) (jno_le (jno_le (jno_at (jnk_0_58)) (jno_at (jnk_0_59))) (jno_le (jno_at (jnk_0_61)) (jno_at (jnk_0_64))))))
/-! ScriptLedger.type(JI)Z -/
theorem jd_1_0 : decode prog_1_method_2_code 0 = .ok (.iload_n 3, 1) := by decide +kernel
theorem jd_1_1 : decode prog_1_method_2_code 1 = .ok (.iconst 1, 1) := by decide +kernel
theorem jd_1_2 : decode prog_1_method_2_code 2 = .ok (.if_icmp .lt 23, 3) := by decide +kernel
theorem jd_1_5 : decode prog_1_method_2_code 5 = .ok (.iload_n 3, 1) := by decide +kernel
theorem jd_1_6 : decode prog_1_method_2_code 6 = .ok (.bipush 8, 2) := by decide +kernel
theorem jd_1_8 : decode prog_1_method_2_code 8 = .ok (.if_icmp .gt 17, 3) := by decide +kernel
theorem jd_1_11 : decode prog_1_method_2_code 11 = .ok (.aload_n 0, 1) := by decide +kernel
theorem jd_1_12 : decode prog_1_method_2_code 12 = .ok (.getfield 10, 3) := by decide +kernel
theorem jd_1_15 : decode prog_1_method_2_code 15 = .ok (.getfield 46, 3) := by decide +kernel
theorem jd_1_18 : decode prog_1_method_2_code 18 = .ok (.iload_n 3, 1) := by decide +kernel
theorem jd_1_19 : decode prog_1_method_2_code 19 = .ok (.iadd, 1) := by decide +kernel
theorem jd_1_20 : decode prog_1_method_2_code 20 = .ok (.bipush 48, 2) := by decide +kernel
theorem jd_1_22 : decode prog_1_method_2_code 22 = .ok (.if_icmp .le 5, 3) := by decide +kernel
theorem jd_1_25 : decode prog_1_method_2_code 25 = .ok (.iconst 0, 1) := by decide +kernel
theorem jd_1_26 : decode prog_1_method_2_code 26 = .ok (.ireturn, 1) := by decide +kernel
theorem jd_1_27 : decode prog_1_method_2_code 27 = .ok (.aload_n 0, 1) := by decide +kernel
theorem jd_1_28 : decode prog_1_method_2_code 28 = .ok (.getfield 10, 3) := by decide +kernel
theorem jd_1_31 : decode prog_1_method_2_code 31 = .ok (.lload_n 1, 1) := by decide +kernel
theorem jd_1_32 : decode prog_1_method_2_code 32 = .ok (.iload_n 3, 1) := by decide +kernel
theorem jd_1_33 : decode prog_1_method_2_code 33 = .ok (.invokevirtual 50, 3) := by decide +kernel
theorem jd_1_36 : decode prog_1_method_2_code 36 = .ok (.iconst 1, 1) := by decide +kernel
theorem jd_1_37 : decode prog_1_method_2_code 37 = .ok (.ireturn, 1) := by decide +kernel
def jt_1 (pc : Nat) : jx_Sp := bif Nat.ble pc 19 then (bif Nat.ble pc 8 then (bif Nat.ble pc 2 then (bif Nat.ble pc 1 then (bif Nat.ble pc 0 then (bif Nat.beq pc 0 then js_il 3 1 else js_none) else (bif Nat.beq pc 1 then js_c 1 1 else js_none)) else (bif Nat.beq pc 2 then js_clt 25 else js_none)) else (bif Nat.ble pc 6 then (bif Nat.ble pc 5 then (bif Nat.beq pc 5 then js_il 3 1 else js_none) else (bif Nat.beq pc 6 then js_c 8 2 else js_none)) else (bif Nat.beq pc 8 then js_cgt 25 else js_none))) else (bif Nat.ble pc 15 then (bif Nat.ble pc 12 then (bif Nat.ble pc 11 then (bif Nat.beq pc 11 then js_al 0 1 else js_none) else (bif Nat.beq pc 12 then js_getf 0 0 else js_none)) else (bif Nat.beq pc 15 then js_getf 1 1 else js_none)) else (bif Nat.ble pc 18 then (bif Nat.beq pc 18 then js_il 3 1 else js_none) else (bif Nat.beq pc 19 then js_iadd else js_none)))) else (bif Nat.ble pc 28 then (bif Nat.ble pc 25 then (bif Nat.ble pc 22 then (bif Nat.ble pc 20 then (bif Nat.beq pc 20 then js_c 48 2 else js_none) else (bif Nat.beq pc 22 then js_cle 27 else js_none)) else (bif Nat.beq pc 25 then js_c 0 1 else js_none)) else (bif Nat.ble pc 27 then (bif Nat.ble pc 26 then (bif Nat.beq pc 26 then js_zr else js_none) else (bif Nat.beq pc 27 then js_al 0 1 else js_none)) else (bif Nat.beq pc 28 then js_getf 0 0 else js_none))) else (bif Nat.ble pc 33 then (bif Nat.ble pc 32 then (bif Nat.ble pc 31 then (bif Nat.beq pc 31 then js_ll 1 1 else js_none) else (bif Nat.beq pc 32 then js_il 3 1 else js_none)) else (bif Nat.beq pc 33 then js_v2 1 33 else js_none)) else (bif Nat.ble pc 36 then (bif Nat.beq pc 36 then js_c 1 1 else js_none) else (bif Nat.beq pc 37 then js_zr else js_none))))
theorem jk_1_0 : jx_Snd 1 0 (js_il 3 1) := jo_iload_n (i := 3) (w := 3) rfl jd_1_0
theorem jk_1_1 : jx_Snd 1 1 (js_c 1 1) := jo_iconst (z := 1) jd_1_1 rfl
theorem jk_1_2 : jx_Snd 1 2 (js_clt 25) := jo_clt (o := 23) rfl jd_1_2
theorem jk_1_5 : jx_Snd 1 5 (js_il 3 1) := jo_iload_n (i := 3) (w := 3) rfl jd_1_5
theorem jk_1_6 : jx_Snd 1 6 (js_c 8 2) := jo_bipush (z := 8) jd_1_6 (by decide +kernel)
theorem jk_1_8 : jx_Snd 1 8 (js_cgt 25) := jo_cgt (o := 17) rfl jd_1_8
theorem jk_1_11 : jx_Snd 1 11 (js_al 0 1) := jo_aload_n (i := 0) (w := 0) rfl jd_1_11
theorem jk_1_12 : jx_Snd 1 12 (js_getf 0 0) := jo_getf rfl jf_0_10 jd_1_12
theorem jk_1_15 : jx_Snd 1 15 (js_getf 1 1) := jo_getf rfl jf_0_46 jd_1_15
theorem jk_1_18 : jx_Snd 1 18 (js_il 3 1) := jo_iload_n (i := 3) (w := 3) rfl jd_1_18
theorem jk_1_19 : jx_Snd 1 19 (js_iadd) := jo_iadd jd_1_19
theorem jk_1_20 : jx_Snd 1 20 (js_c 48 2) := jo_bipush (z := 48) jd_1_20 (by decide +kernel)
theorem jk_1_22 : jx_Snd 1 22 (js_cle 27) := jo_cle (o := 5) rfl jd_1_22
theorem jk_1_25 : jx_Snd 1 25 (js_c 0 1) := jo_iconst (z := 0) jd_1_25 rfl
theorem jk_1_26 : jx_Snd 1 26 (js_zr) := jo_zr rfl jd_1_26
theorem jk_1_27 : jx_Snd 1 27 (js_al 0 1) := jo_aload_n (i := 0) (w := 0) rfl jd_1_27
theorem jk_1_28 : jx_Snd 1 28 (js_getf 0 0) := jo_getf rfl jf_0_10 jd_1_28
theorem jk_1_31 : jx_Snd 1 31 (js_ll 1 1) := jo_lload_n (i := 1) (w := 1) rfl jd_1_31
theorem jk_1_32 : jx_Snd 1 32 (js_il 3 1) := jo_iload_n (i := 3) (w := 3) rfl jd_1_32
theorem jk_1_33 : jx_Snd 1 33 (js_v2 1 33) := jo_v2 rfl jok_33 (Or.inl jw_172) jw_173 jw_174 rfl jd_1_33
theorem jk_1_36 : jx_Snd 1 36 (js_c 1 1) := jo_iconst (z := 1) jd_1_36 rfl
theorem jk_1_37 : jx_Snd 1 37 (js_zr) := jo_zr rfl jd_1_37
theorem jk_1 : jx_So 1 jt_1 := fun pc => jo_le (jo_le (jo_le (jo_le (jo_le (jo_at (jk_1_0)) (jo_at (jk_1_1))) (jo_at (jk_1_2))) (jo_le (jo_le (jo_at (jk_1_5)) (jo_at (jk_1_6))) (jo_at (jk_1_8)))) (jo_le (jo_le (jo_le (jo_at (jk_1_11)) (jo_at (jk_1_12))) (jo_at (jk_1_15))) (jo_le (jo_at (jk_1_18)) (jo_at (jk_1_19))))) (jo_le (jo_le (jo_le (jo_le (jo_at (jk_1_20)) (jo_at (jk_1_22))) (jo_at (jk_1_25))) (jo_le (jo_le (jo_at (jk_1_26)) (jo_at (jk_1_27))) (jo_at (jk_1_28)))) (jo_le (jo_le (jo_le (jo_at (jk_1_31)) (jo_at (jk_1_32))) (jo_at (jk_1_33))) (jo_le (jo_at (jk_1_36)) (jo_at (jk_1_37)))))
theorem ji_1 {l : Launch} {D : va_G} {cA : ClassId} {ρ : Nat → Nat} {Λ : List jx_Lc} {d : Nat} {Q : Option Value → jx_St → Prop} {σ : jx_St} {z0 : Nat} {a1 : Int64} {a2 : Int32} (h : jt_1 0 Λ jx_tb0 (jx_rn Λ jx_tb0 jt_1 (fun k' as σ K => jx_C l D cA ρ Λ d k' as σ K) Q (jx_J l D cA ρ Λ (jx_A ρ Λ) jx_tb0 (d + 1) 1 Q) [] 400) (fun k' as σ K => jx_C l D cA ρ Λ d k' as σ K) Q 0 [(0, .ref z0), (1, .long a1), (3, .int a2)] [] σ) : jx_C l D cA ρ Λ (d + 1) 1 [.ref z0, .long a1, .int a2] σ Q := jx_in jk_1 400 [] rfl (Nat.le_of_ble_eq_true rfl) h
/-! ScriptLedger.define()I -/
theorem jd_2_0 : decode prog_1_method_3_code 0 = .ok (.aload_n 0, 1) := by decide +kernel
theorem jd_2_1 : decode prog_1_method_3_code 1 = .ok (.getfield 19, 3) := by decide +kernel
theorem jd_2_4 : decode prog_1_method_3_code 4 = .ok (.getfield 54, 3) := by decide +kernel
theorem jd_2_7 : decode prog_1_method_3_code 7 = .ok (.aload_n 0, 1) := by decide +kernel
theorem jd_2_8 : decode prog_1_method_3_code 8 = .ok (.getfield 10, 3) := by decide +kernel
theorem jd_2_11 : decode prog_1_method_3_code 11 = .ok (.getfield 58, 3) := by decide +kernel
theorem jd_2_14 : decode prog_1_method_3_code 14 = .ok (.aload_n 0, 1) := by decide +kernel
theorem jd_2_15 : decode prog_1_method_3_code 15 = .ok (.getfield 10, 3) := by decide +kernel
theorem jd_2_18 : decode prog_1_method_3_code 18 = .ok (.getfield 46, 3) := by decide +kernel
theorem jd_2_21 : decode prog_1_method_3_code 21 = .ok (.invokevirtual 61, 3) := by decide +kernel
theorem jd_2_24 : decode prog_1_method_3_code 24 = .ok (.istore_n 1, 1) := by decide +kernel
theorem jd_2_25 : decode prog_1_method_3_code 25 = .ok (.aload_n 0, 1) := by decide +kernel
theorem jd_2_26 : decode prog_1_method_3_code 26 = .ok (.getfield 10, 3) := by decide +kernel
theorem jd_2_29 : decode prog_1_method_3_code 29 = .ok (.iconst 0, 1) := by decide +kernel
theorem jd_2_30 : decode prog_1_method_3_code 30 = .ok (.putfield 46, 3) := by decide +kernel
theorem jd_2_33 : decode prog_1_method_3_code 33 = .ok (.iload_n 1, 1) := by decide +kernel
theorem jd_2_34 : decode prog_1_method_3_code 34 = .ok (.ireturn, 1) := by decide +kernel
def jt_2 (pc : Nat) : jx_Sp := bif Nat.ble pc 18 then (bif Nat.ble pc 8 then (bif Nat.ble pc 4 then (bif Nat.ble pc 1 then (bif Nat.ble pc 0 then (bif Nat.beq pc 0 then js_al 0 1 else js_none) else (bif Nat.beq pc 1 then js_getf 0 1 else js_none)) else (bif Nat.beq pc 4 then js_getf 2 0 else js_none)) else (bif Nat.ble pc 7 then (bif Nat.beq pc 7 then js_al 0 1 else js_none) else (bif Nat.beq pc 8 then js_getf 0 0 else js_none))) else (bif Nat.ble pc 14 then (bif Nat.ble pc 11 then (bif Nat.beq pc 11 then js_getf 1 0 else js_none) else (bif Nat.beq pc 14 then js_al 0 1 else js_none)) else (bif Nat.ble pc 15 then (bif Nat.beq pc 15 then js_getf 0 0 else js_none) else (bif Nat.beq pc 18 then js_getf 1 1 else js_none)))) else (bif Nat.ble pc 26 then (bif Nat.ble pc 24 then (bif Nat.ble pc 21 then (bif Nat.beq pc 21 then js_v2 3 58 else js_none) else (bif Nat.beq pc 24 then js_is 1 1 else js_none)) else (bif Nat.ble pc 25 then (bif Nat.beq pc 25 then js_al 0 1 else js_none) else (bif Nat.beq pc 26 then js_getf 0 0 else js_none))) else (bif Nat.ble pc 30 then (bif Nat.ble pc 29 then (bif Nat.beq pc 29 then js_c 0 1 else js_none) else (bif Nat.beq pc 30 then js_putf 1 1 false else js_none)) else (bif Nat.ble pc 33 then (bif Nat.beq pc 33 then js_il 1 1 else js_none) else (bif Nat.beq pc 34 then js_ir else js_none))))
theorem jk_2_0 : jx_Snd 2 0 (js_al 0 1) := jo_aload_n (i := 0) (w := 0) rfl jd_2_0
theorem jk_2_1 : jx_Snd 2 1 (js_getf 0 1) := jo_getf rfl jf_0_19 jd_2_1
theorem jk_2_4 : jx_Snd 2 4 (js_getf 2 0) := jo_getf rfl jf_0_54 jd_2_4
theorem jk_2_7 : jx_Snd 2 7 (js_al 0 1) := jo_aload_n (i := 0) (w := 0) rfl jd_2_7
theorem jk_2_8 : jx_Snd 2 8 (js_getf 0 0) := jo_getf rfl jf_0_10 jd_2_8
theorem jk_2_11 : jx_Snd 2 11 (js_getf 1 0) := jo_getf rfl jf_0_58 jd_2_11
theorem jk_2_14 : jx_Snd 2 14 (js_al 0 1) := jo_aload_n (i := 0) (w := 0) rfl jd_2_14
theorem jk_2_15 : jx_Snd 2 15 (js_getf 0 0) := jo_getf rfl jf_0_10 jd_2_15
theorem jk_2_18 : jx_Snd 2 18 (js_getf 1 1) := jo_getf rfl jf_0_46 jd_2_18
theorem jk_2_21 : jx_Snd 2 21 (js_v2 3 58) := jo_v2 rfl jok_58 (Or.inl jw_180) jw_181 jw_182 rfl jd_2_21
theorem jk_2_24 : jx_Snd 2 24 (js_is 1 1) := jo_istore_n (i := 1) (w := 1) rfl (Nat.le_of_ble_eq_true rfl) jd_2_24
theorem jk_2_25 : jx_Snd 2 25 (js_al 0 1) := jo_aload_n (i := 0) (w := 0) rfl jd_2_25
theorem jk_2_26 : jx_Snd 2 26 (js_getf 0 0) := jo_getf rfl jf_0_10 jd_2_26
theorem jk_2_29 : jx_Snd 2 29 (js_c 0 1) := jo_iconst (z := 0) jd_2_29 rfl
theorem jk_2_30 : jx_Snd 2 30 (js_putf 1 1 false) := jo_putf (z := false) rfl jf_0_46 (fun C T N h => by cases h; rfl) jd_2_30
theorem jk_2_33 : jx_Snd 2 33 (js_il 1 1) := jo_iload_n (i := 1) (w := 1) rfl jd_2_33
theorem jk_2_34 : jx_Snd 2 34 (js_ir) := jo_ir rfl jd_2_34
theorem jk_2 : jx_So 2 jt_2 := fun pc => jo_le (jo_le (jo_le (jo_le (jo_le (jo_at (jk_2_0)) (jo_at (jk_2_1))) (jo_at (jk_2_4))) (jo_le (jo_at (jk_2_7)) (jo_at (jk_2_8)))) (jo_le (jo_le (jo_at (jk_2_11)) (jo_at (jk_2_14))) (jo_le (jo_at (jk_2_15)) (jo_at (jk_2_18))))) (jo_le (jo_le (jo_le (jo_at (jk_2_21)) (jo_at (jk_2_24))) (jo_le (jo_at (jk_2_25)) (jo_at (jk_2_26)))) (jo_le (jo_le (jo_at (jk_2_29)) (jo_at (jk_2_30))) (jo_le (jo_at (jk_2_33)) (jo_at (jk_2_34)))))
theorem ji_2 {l : Launch} {D : va_G} {cA : ClassId} {ρ : Nat → Nat} {Λ : List jx_Lc} {d : Nat} {Q : Option Value → jx_St → Prop} {σ : jx_St} {z0 : Nat} (h : jt_2 0 Λ jx_tb0 (jx_rn Λ jx_tb0 jt_2 (fun k' as σ K => jx_C l D cA ρ Λ d k' as σ K) Q (jx_J l D cA ρ Λ (jx_A ρ Λ) jx_tb0 (d + 1) 2 Q) [] 400) (fun k' as σ K => jx_C l D cA ρ Λ d k' as σ K) Q 0 [(0, .ref z0)] [] σ) : jx_C l D cA ρ Λ (d + 1) 2 [.ref z0] σ Q := jx_in jk_2 400 [] rfl (Nat.le_of_ble_eq_true rfl) h
/-! ScriptLedger.run(IIII)I -/
theorem jd_3_0 : decode prog_1_method_4_code 0 = .ok (.aload_n 0, 1) := by decide +kernel
theorem jd_3_1 : decode prog_1_method_4_code 1 = .ok (.getfield 19, 3) := by decide +kernel
theorem jd_3_4 : decode prog_1_method_4_code 4 = .ok (.getfield 54, 3) := by decide +kernel
theorem jd_3_7 : decode prog_1_method_4_code 7 = .ok (.iload_n 1, 1) := by decide +kernel
theorem jd_3_8 : decode prog_1_method_4_code 8 = .ok (.invokevirtual 67, 3) := by decide +kernel
theorem jd_3_11 : decode prog_1_method_4_code 11 = .ok (.ifCond .eq 15, 3) := by decide +kernel
theorem jd_3_14 : decode prog_1_method_4_code 14 = .ok (.iload 4, 2) := by decide +kernel
theorem jd_3_16 : decode prog_1_method_4_code 16 = .ok (.ifCond .lt 10, 3) := by decide +kernel
theorem jd_3_19 : decode prog_1_method_4_code 19 = .ok (.iload 4, 2) := by decide +kernel
theorem jd_3_21 : decode prog_1_method_4_code 21 = .ok (.bipush 99, 2) := by decide +kernel
theorem jd_3_23 : decode prog_1_method_4_code 23 = .ok (.if_icmp .le 5, 3) := by decide +kernel
theorem jd_3_26 : decode prog_1_method_4_code 26 = .ok (.iconst (-1), 1) := by decide +kernel
theorem jd_3_27 : decode prog_1_method_4_code 27 = .ok (.ireturn, 1) := by decide +kernel
theorem jd_3_28 : decode prog_1_method_4_code 28 = .ok (.aload_n 0, 1) := by decide +kernel
theorem jd_3_29 : decode prog_1_method_4_code 29 = .ok (.getfield 19, 3) := by decide +kernel
theorem jd_3_32 : decode prog_1_method_4_code 32 = .ok (.iload_n 1, 1) := by decide +kernel
theorem jd_3_33 : decode prog_1_method_4_code 33 = .ok (.iload_n 2, 1) := by decide +kernel
theorem jd_3_34 : decode prog_1_method_4_code 34 = .ok (.iload_n 3, 1) := by decide +kernel
theorem jd_3_35 : decode prog_1_method_4_code 35 = .ok (.aload_n 0, 1) := by decide +kernel
theorem jd_3_36 : decode prog_1_method_4_code 36 = .ok (.getfield 43, 3) := by decide +kernel
theorem jd_3_39 : decode prog_1_method_4_code 39 = .ok (.iload 4, 2) := by decide +kernel
theorem jd_3_41 : decode prog_1_method_4_code 41 = .ok (.invokevirtual 71, 3) := by decide +kernel
theorem jd_3_44 : decode prog_1_method_4_code 44 = .ok (.aload_n 0, 1) := by decide +kernel
theorem jd_3_45 : decode prog_1_method_4_code 45 = .ok (.getfield 19, 3) := by decide +kernel
theorem jd_3_48 : decode prog_1_method_4_code 48 = .ok (.getfield 75, 3) := by decide +kernel
theorem jd_3_51 : decode prog_1_method_4_code 51 = .ok (.ireturn, 1) := by decide +kernel
def jt_3 (pc : Nat) : jx_Sp := bif Nat.ble pc 27 then (bif Nat.ble pc 14 then (bif Nat.ble pc 7 then (bif Nat.ble pc 1 then (bif Nat.ble pc 0 then (bif Nat.beq pc 0 then js_al 0 1 else js_none) else (bif Nat.beq pc 1 then js_getf 0 1 else js_none)) else (bif Nat.ble pc 4 then (bif Nat.beq pc 4 then js_getf 2 0 else js_none) else (bif Nat.beq pc 7 then js_il 1 1 else js_none))) else (bif Nat.ble pc 11 then (bif Nat.ble pc 8 then (bif Nat.beq pc 8 then js_v1 3 56 else js_none) else (bif Nat.beq pc 11 then js_ifeq 26 else js_none)) else (bif Nat.beq pc 14 then js_il 4 2 else js_none))) else (bif Nat.ble pc 21 then (bif Nat.ble pc 19 then (bif Nat.ble pc 16 then (bif Nat.beq pc 16 then js_iflt 26 else js_none) else (bif Nat.beq pc 19 then js_il 4 2 else js_none)) else (bif Nat.beq pc 21 then js_c 99 2 else js_none)) else (bif Nat.ble pc 26 then (bif Nat.ble pc 23 then (bif Nat.beq pc 23 then js_cle 28 else js_none) else (bif Nat.beq pc 26 then js_c (-1) 1 else js_none)) else (bif Nat.beq pc 27 then js_ir else js_none)))) else (bif Nat.ble pc 36 then (bif Nat.ble pc 33 then (bif Nat.ble pc 29 then (bif Nat.ble pc 28 then (bif Nat.beq pc 28 then js_al 0 1 else js_none) else (bif Nat.beq pc 29 then js_getf 0 1 else js_none)) else (bif Nat.ble pc 32 then (bif Nat.beq pc 32 then js_il 1 1 else js_none) else (bif Nat.beq pc 33 then js_il 2 1 else js_none))) else (bif Nat.ble pc 35 then (bif Nat.ble pc 34 then (bif Nat.beq pc 34 then js_il 3 1 else js_none) else (bif Nat.beq pc 35 then js_al 0 1 else js_none)) else (bif Nat.beq pc 36 then js_getf 0 5 else js_none))) else (bif Nat.ble pc 44 then (bif Nat.ble pc 41 then (bif Nat.ble pc 39 then (bif Nat.beq pc 39 then js_il 4 2 else js_none) else (bif Nat.beq pc 41 then js_v5 2 35 else js_none)) else (bif Nat.beq pc 44 then js_al 0 1 else js_none)) else (bif Nat.ble pc 48 then (bif Nat.ble pc 45 then (bif Nat.beq pc 45 then js_getf 0 1 else js_none) else (bif Nat.beq pc 48 then js_getf 2 13 else js_none)) else (bif Nat.beq pc 51 then js_ir else js_none))))
theorem jk_3_0 : jx_Snd 3 0 (js_al 0 1) := jo_aload_n (i := 0) (w := 0) rfl jd_3_0
theorem jk_3_1 : jx_Snd 3 1 (js_getf 0 1) := jo_getf rfl jf_0_19 jd_3_1
theorem jk_3_4 : jx_Snd 3 4 (js_getf 2 0) := jo_getf rfl jf_0_54 jd_3_4
theorem jk_3_7 : jx_Snd 3 7 (js_il 1 1) := jo_iload_n (i := 1) (w := 1) rfl jd_3_7
theorem jk_3_8 : jx_Snd 3 8 (js_v1 3 56) := jo_v1 rfl jok_56 (Or.inl jw_198) jw_199 jw_200 rfl jd_3_8
theorem jk_3_11 : jx_Snd 3 11 (js_ifeq 26) := jo_ifeq (o := 15) rfl jd_3_11
theorem jk_3_14 : jx_Snd 3 14 (js_il 4 2) := jo_iload (i := 4) jd_3_14
theorem jk_3_16 : jx_Snd 3 16 (js_iflt 26) := jo_iflt (o := 10) rfl jd_3_16
theorem jk_3_19 : jx_Snd 3 19 (js_il 4 2) := jo_iload (i := 4) jd_3_19
theorem jk_3_21 : jx_Snd 3 21 (js_c 99 2) := jo_bipush (z := 99) jd_3_21 (by decide +kernel)
theorem jk_3_23 : jx_Snd 3 23 (js_cle 28) := jo_cle (o := 5) rfl jd_3_23
theorem jk_3_26 : jx_Snd 3 26 (js_c (-1) 1) := jo_iconst (z := (-1)) jd_3_26 rfl
theorem jk_3_27 : jx_Snd 3 27 (js_ir) := jo_ir rfl jd_3_27
theorem jk_3_28 : jx_Snd 3 28 (js_al 0 1) := jo_aload_n (i := 0) (w := 0) rfl jd_3_28
theorem jk_3_29 : jx_Snd 3 29 (js_getf 0 1) := jo_getf rfl jf_0_19 jd_3_29
theorem jk_3_32 : jx_Snd 3 32 (js_il 1 1) := jo_iload_n (i := 1) (w := 1) rfl jd_3_32
theorem jk_3_33 : jx_Snd 3 33 (js_il 2 1) := jo_iload_n (i := 2) (w := 2) rfl jd_3_33
theorem jk_3_34 : jx_Snd 3 34 (js_il 3 1) := jo_iload_n (i := 3) (w := 3) rfl jd_3_34
theorem jk_3_35 : jx_Snd 3 35 (js_al 0 1) := jo_aload_n (i := 0) (w := 0) rfl jd_3_35
theorem jk_3_36 : jx_Snd 3 36 (js_getf 0 5) := jo_getf rfl jf_0_43 jd_3_36
theorem jk_3_39 : jx_Snd 3 39 (js_il 4 2) := jo_iload (i := 4) jd_3_39
theorem jk_3_41 : jx_Snd 3 41 (js_v5 2 35) := jo_v5 rfl jok_35 (Or.inl jw_202) jw_203 jw_204 rfl jd_3_41
theorem jk_3_44 : jx_Snd 3 44 (js_al 0 1) := jo_aload_n (i := 0) (w := 0) rfl jd_3_44
theorem jk_3_45 : jx_Snd 3 45 (js_getf 0 1) := jo_getf rfl jf_0_19 jd_3_45
theorem jk_3_48 : jx_Snd 3 48 (js_getf 2 13) := jo_getf rfl jf_0_75 jd_3_48
theorem jk_3_51 : jx_Snd 3 51 (js_ir) := jo_ir rfl jd_3_51
theorem jk_3 : jx_So 3 jt_3 := fun pc => jo_le (jo_le (jo_le (jo_le (jo_le (jo_at (jk_3_0)) (jo_at (jk_3_1))) (jo_le (jo_at (jk_3_4)) (jo_at (jk_3_7)))) (jo_le (jo_le (jo_at (jk_3_8)) (jo_at (jk_3_11))) (jo_at (jk_3_14)))) (jo_le (jo_le (jo_le (jo_at (jk_3_16)) (jo_at (jk_3_19))) (jo_at (jk_3_21))) (jo_le (jo_le (jo_at (jk_3_23)) (jo_at (jk_3_26))) (jo_at (jk_3_27))))) (jo_le (jo_le (jo_le (jo_le (jo_at (jk_3_28)) (jo_at (jk_3_29))) (jo_le (jo_at (jk_3_32)) (jo_at (jk_3_33)))) (jo_le (jo_le (jo_at (jk_3_34)) (jo_at (jk_3_35))) (jo_at (jk_3_36)))) (jo_le (jo_le (jo_le (jo_at (jk_3_39)) (jo_at (jk_3_41))) (jo_at (jk_3_44))) (jo_le (jo_le (jo_at (jk_3_45)) (jo_at (jk_3_48))) (jo_at (jk_3_51)))))
theorem ji_3 {l : Launch} {D : va_G} {cA : ClassId} {ρ : Nat → Nat} {Λ : List jx_Lc} {d : Nat} {Q : Option Value → jx_St → Prop} {σ : jx_St} {z0 : Nat} {a1 : Int32} {a2 : Int32} {a3 : Int32} {a4 : Int32} (h : jt_3 0 Λ jx_tb0 (jx_rn Λ jx_tb0 jt_3 (fun k' as σ K => jx_C l D cA ρ Λ d k' as σ K) Q (jx_J l D cA ρ Λ (jx_A ρ Λ) jx_tb0 (d + 1) 3 Q) [] 400) (fun k' as σ K => jx_C l D cA ρ Λ d k' as σ K) Q 0 [(0, .ref z0), (1, .int a1), (2, .int a2), (3, .int a3), (4, .int a4)] [] σ) : jx_C l D cA ρ Λ (d + 1) 3 [.ref z0, .int a1, .int a2, .int a3, .int a4] σ Q := jx_in jk_3 400 [] rfl (Nat.le_of_ble_eq_true rfl) h
/-! ScriptLedger.result(I)I -/
theorem jd_4_0 : decode prog_1_method_5_code 0 = .ok (.aload_n 0, 1) := by decide +kernel
theorem jd_4_1 : decode prog_1_method_5_code 1 = .ok (.getfield 19, 3) := by decide +kernel
theorem jd_4_4 : decode prog_1_method_5_code 4 = .ok (.getfield 75, 3) := by decide +kernel
theorem jd_4_7 : decode prog_1_method_5_code 7 = .ok (.iconst (-1), 1) := by decide +kernel
theorem jd_4_8 : decode prog_1_method_5_code 8 = .ok (.if_icmp .ne 5, 3) := by decide +kernel
theorem jd_4_11 : decode prog_1_method_5_code 11 = .ok (.iconst (-1), 1) := by decide +kernel
theorem jd_4_12 : decode prog_1_method_5_code 12 = .ok (.ireturn, 1) := by decide +kernel
theorem jd_4_13 : decode prog_1_method_5_code 13 = .ok (.iload_n 1, 1) := by decide +kernel
theorem jd_4_14 : decode prog_1_method_5_code 14 = .ok (.tableswitch 62 0 3 #[30, 38, 46, 54], 30) := by decide +kernel
theorem jd_4_44 : decode prog_1_method_5_code 44 = .ok (.aload_n 0, 1) := by decide +kernel
theorem jd_4_45 : decode prog_1_method_5_code 45 = .ok (.getfield 19, 3) := by decide +kernel
theorem jd_4_48 : decode prog_1_method_5_code 48 = .ok (.getfield 75, 3) := by decide +kernel
theorem jd_4_51 : decode prog_1_method_5_code 51 = .ok (.ireturn, 1) := by decide +kernel
theorem jd_4_52 : decode prog_1_method_5_code 52 = .ok (.aload_n 0, 1) := by decide +kernel
theorem jd_4_53 : decode prog_1_method_5_code 53 = .ok (.getfield 19, 3) := by decide +kernel
theorem jd_4_56 : decode prog_1_method_5_code 56 = .ok (.getfield 78, 3) := by decide +kernel
theorem jd_4_59 : decode prog_1_method_5_code 59 = .ok (.ireturn, 1) := by decide +kernel
theorem jd_4_60 : decode prog_1_method_5_code 60 = .ok (.aload_n 0, 1) := by decide +kernel
theorem jd_4_61 : decode prog_1_method_5_code 61 = .ok (.getfield 19, 3) := by decide +kernel
theorem jd_4_64 : decode prog_1_method_5_code 64 = .ok (.getfield 81, 3) := by decide +kernel
theorem jd_4_67 : decode prog_1_method_5_code 67 = .ok (.ireturn, 1) := by decide +kernel
theorem jd_4_68 : decode prog_1_method_5_code 68 = .ok (.aload_n 0, 1) := by decide +kernel
theorem jd_4_69 : decode prog_1_method_5_code 69 = .ok (.getfield 19, 3) := by decide +kernel
theorem jd_4_72 : decode prog_1_method_5_code 72 = .ok (.getfield 84, 3) := by decide +kernel
theorem jd_4_75 : decode prog_1_method_5_code 75 = .ok (.ireturn, 1) := by decide +kernel
theorem jd_4_76 : decode prog_1_method_5_code 76 = .ok (.iconst (-1), 1) := by decide +kernel
theorem jd_4_77 : decode prog_1_method_5_code 77 = .ok (.ireturn, 1) := by decide +kernel
def jt_4 (pc : Nat) : jx_Sp := bif Nat.ble pc 52 then (bif Nat.ble pc 12 then (bif Nat.ble pc 7 then (bif Nat.ble pc 1 then (bif Nat.ble pc 0 then (bif Nat.beq pc 0 then js_al 0 1 else js_none) else (bif Nat.beq pc 1 then js_getf 0 1 else js_none)) else (bif Nat.ble pc 4 then (bif Nat.beq pc 4 then js_getf 2 13 else js_none) else (bif Nat.beq pc 7 then js_c (-1) 1 else js_none))) else (bif Nat.ble pc 11 then (bif Nat.ble pc 8 then (bif Nat.beq pc 8 then js_cne 13 else js_none) else (bif Nat.beq pc 11 then js_c (-1) 1 else js_none)) else (bif Nat.beq pc 12 then js_ir else js_none))) else (bif Nat.ble pc 45 then (bif Nat.ble pc 14 then (bif Nat.ble pc 13 then (bif Nat.beq pc 13 then js_il 1 1 else js_none) else (bif Nat.beq pc 14 then js_sw [(0, 44), (1, 52), (2, 60), (3, 68)] 76 else js_none)) else (bif Nat.ble pc 44 then (bif Nat.beq pc 44 then js_al 0 1 else js_none) else (bif Nat.beq pc 45 then js_getf 0 1 else js_none))) else (bif Nat.ble pc 51 then (bif Nat.ble pc 48 then (bif Nat.beq pc 48 then js_getf 2 13 else js_none) else (bif Nat.beq pc 51 then js_ir else js_none)) else (bif Nat.beq pc 52 then js_al 0 1 else js_none)))) else (bif Nat.ble pc 67 then (bif Nat.ble pc 60 then (bif Nat.ble pc 56 then (bif Nat.ble pc 53 then (bif Nat.beq pc 53 then js_getf 0 1 else js_none) else (bif Nat.beq pc 56 then js_getf 2 12 else js_none)) else (bif Nat.ble pc 59 then (bif Nat.beq pc 59 then js_ir else js_none) else (bif Nat.beq pc 60 then js_al 0 1 else js_none))) else (bif Nat.ble pc 64 then (bif Nat.ble pc 61 then (bif Nat.beq pc 61 then js_getf 0 1 else js_none) else (bif Nat.beq pc 64 then js_getf 2 14 else js_none)) else (bif Nat.beq pc 67 then js_ir else js_none))) else (bif Nat.ble pc 72 then (bif Nat.ble pc 69 then (bif Nat.ble pc 68 then (bif Nat.beq pc 68 then js_al 0 1 else js_none) else (bif Nat.beq pc 69 then js_getf 0 1 else js_none)) else (bif Nat.beq pc 72 then js_getf 2 15 else js_none)) else (bif Nat.ble pc 76 then (bif Nat.ble pc 75 then (bif Nat.beq pc 75 then js_ir else js_none) else (bif Nat.beq pc 76 then js_c (-1) 1 else js_none)) else (bif Nat.beq pc 77 then js_ir else js_none))))
theorem jk_4_0 : jx_Snd 4 0 (js_al 0 1) := jo_aload_n (i := 0) (w := 0) rfl jd_4_0
theorem jk_4_1 : jx_Snd 4 1 (js_getf 0 1) := jo_getf rfl jf_0_19 jd_4_1
theorem jk_4_4 : jx_Snd 4 4 (js_getf 2 13) := jo_getf rfl jf_0_75 jd_4_4
theorem jk_4_7 : jx_Snd 4 7 (js_c (-1) 1) := jo_iconst (z := (-1)) jd_4_7 rfl
theorem jk_4_8 : jx_Snd 4 8 (js_cne 13) := jo_cne (o := 5) rfl jd_4_8
theorem jk_4_11 : jx_Snd 4 11 (js_c (-1) 1) := jo_iconst (z := (-1)) jd_4_11 rfl
theorem jk_4_12 : jx_Snd 4 12 (js_ir) := jo_ir rfl jd_4_12
theorem jk_4_13 : jx_Snd 4 13 (js_il 1 1) := jo_iload_n (i := 1) (w := 1) rfl jd_4_13
theorem jk_4_14 : jx_Snd 4 14 (js_sw [(0, 44), (1, 52), (2, 60), (3, 68)] 76) := jo_tableD (dflt := 62) (lo := 0) (hi := 3) (offs := #[30, 38, 46, 54]) rfl rfl (by decide +kernel) jd_4_14
theorem jk_4_44 : jx_Snd 4 44 (js_al 0 1) := jo_aload_n (i := 0) (w := 0) rfl jd_4_44
theorem jk_4_45 : jx_Snd 4 45 (js_getf 0 1) := jo_getf rfl jf_0_19 jd_4_45
theorem jk_4_48 : jx_Snd 4 48 (js_getf 2 13) := jo_getf rfl jf_0_75 jd_4_48
theorem jk_4_51 : jx_Snd 4 51 (js_ir) := jo_ir rfl jd_4_51
theorem jk_4_52 : jx_Snd 4 52 (js_al 0 1) := jo_aload_n (i := 0) (w := 0) rfl jd_4_52
theorem jk_4_53 : jx_Snd 4 53 (js_getf 0 1) := jo_getf rfl jf_0_19 jd_4_53
theorem jk_4_56 : jx_Snd 4 56 (js_getf 2 12) := jo_getf rfl jf_0_78 jd_4_56
theorem jk_4_59 : jx_Snd 4 59 (js_ir) := jo_ir rfl jd_4_59
theorem jk_4_60 : jx_Snd 4 60 (js_al 0 1) := jo_aload_n (i := 0) (w := 0) rfl jd_4_60
theorem jk_4_61 : jx_Snd 4 61 (js_getf 0 1) := jo_getf rfl jf_0_19 jd_4_61
theorem jk_4_64 : jx_Snd 4 64 (js_getf 2 14) := jo_getf rfl jf_0_81 jd_4_64
theorem jk_4_67 : jx_Snd 4 67 (js_ir) := jo_ir rfl jd_4_67
theorem jk_4_68 : jx_Snd 4 68 (js_al 0 1) := jo_aload_n (i := 0) (w := 0) rfl jd_4_68
theorem jk_4_69 : jx_Snd 4 69 (js_getf 0 1) := jo_getf rfl jf_0_19 jd_4_69
theorem jk_4_72 : jx_Snd 4 72 (js_getf 2 15) := jo_getf rfl jf_0_84 jd_4_72
theorem jk_4_75 : jx_Snd 4 75 (js_ir) := jo_ir rfl jd_4_75
theorem jk_4_76 : jx_Snd 4 76 (js_c (-1) 1) := jo_iconst (z := (-1)) jd_4_76 rfl
theorem jk_4_77 : jx_Snd 4 77 (js_ir) := jo_ir rfl jd_4_77
theorem jk_4 : jx_So 4 jt_4 := fun pc => jo_le (jo_le (jo_le (jo_le (jo_le (jo_at (jk_4_0)) (jo_at (jk_4_1))) (jo_le (jo_at (jk_4_4)) (jo_at (jk_4_7)))) (jo_le (jo_le (jo_at (jk_4_8)) (jo_at (jk_4_11))) (jo_at (jk_4_12)))) (jo_le (jo_le (jo_le (jo_at (jk_4_13)) (jo_at (jk_4_14))) (jo_le (jo_at (jk_4_44)) (jo_at (jk_4_45)))) (jo_le (jo_le (jo_at (jk_4_48)) (jo_at (jk_4_51))) (jo_at (jk_4_52))))) (jo_le (jo_le (jo_le (jo_le (jo_at (jk_4_53)) (jo_at (jk_4_56))) (jo_le (jo_at (jk_4_59)) (jo_at (jk_4_60)))) (jo_le (jo_le (jo_at (jk_4_61)) (jo_at (jk_4_64))) (jo_at (jk_4_67)))) (jo_le (jo_le (jo_le (jo_at (jk_4_68)) (jo_at (jk_4_69))) (jo_at (jk_4_72))) (jo_le (jo_le (jo_at (jk_4_75)) (jo_at (jk_4_76))) (jo_at (jk_4_77)))))
theorem ji_4 {l : Launch} {D : va_G} {cA : ClassId} {ρ : Nat → Nat} {Λ : List jx_Lc} {d : Nat} {Q : Option Value → jx_St → Prop} {σ : jx_St} {z0 : Nat} {a1 : Int32} (h : jt_4 0 Λ jx_tb0 (jx_rn Λ jx_tb0 jt_4 (fun k' as σ K => jx_C l D cA ρ Λ d k' as σ K) Q (jx_J l D cA ρ Λ (jx_A ρ Λ) jx_tb0 (d + 1) 4 Q) [] 400) (fun k' as σ K => jx_C l D cA ρ Λ d k' as σ K) Q 0 [(0, .ref z0), (1, .int a1)] [] σ) : jx_C l D cA ρ Λ (d + 1) 4 [.ref z0, .int a1] σ Q := jx_in jk_4 400 [] rfl (Nat.le_of_ble_eq_true rfl) h
/-! ScriptLedger.begin()V -/
theorem jd_5_0 : decode prog_1_method_6_code 0 = .ok (.aload_n 0, 1) := by decide +kernel
theorem jd_5_1 : decode prog_1_method_6_code 1 = .ok (.getfield 35, 3) := by decide +kernel
theorem jd_5_4 : decode prog_1_method_6_code 4 = .ok (.invokevirtual 87, 3) := by decide +kernel
theorem jd_5_7 : decode prog_1_method_6_code 7 = .ok (.return_, 1) := by decide +kernel
def jt_5 (pc : Nat) : jx_Sp := bif Nat.ble pc 1 then (bif Nat.ble pc 0 then (bif Nat.beq pc 0 then js_al 0 1 else js_none) else (bif Nat.beq pc 1 then js_getf 0 3 else js_none)) else (bif Nat.ble pc 4 then (bif Nat.beq pc 4 then js_v0 7 82 else js_none) else (bif Nat.beq pc 7 then js_vr else js_none))
theorem jk_5_0 : jx_Snd 5 0 (js_al 0 1) := jo_aload_n (i := 0) (w := 0) rfl jd_5_0
theorem jk_5_1 : jx_Snd 5 1 (js_getf 0 3) := jo_getf rfl jf_0_35 jd_5_1
theorem jk_5_4 : jx_Snd 5 4 (js_v0 7 82) := jo_v0 rfl jok_82 (Or.inl jw_298) jw_131 jw_132 rfl jd_5_4
theorem jk_5_7 : jx_Snd 5 7 (js_vr) := jo_vr rfl jd_5_7
theorem jk_5 : jx_So 5 jt_5 := fun pc => jo_le (jo_le (jo_at (jk_5_0)) (jo_at (jk_5_1))) (jo_le (jo_at (jk_5_4)) (jo_at (jk_5_7)))
theorem ji_5 {l : Launch} {D : va_G} {cA : ClassId} {ρ : Nat → Nat} {Λ : List jx_Lc} {d : Nat} {Q : Option Value → jx_St → Prop} {σ : jx_St} {z0 : Nat} (h : jt_5 0 Λ jx_tb0 (jx_rn Λ jx_tb0 jt_5 (fun k' as σ K => jx_C l D cA ρ Λ d k' as σ K) Q (jx_J l D cA ρ Λ (jx_A ρ Λ) jx_tb0 (d + 1) 5 Q) [] 400) (fun k' as σ K => jx_C l D cA ρ Λ d k' as σ K) Q 0 [(0, .ref z0)] [] σ) : jx_C l D cA ρ Λ (d + 1) 5 [.ref z0] σ Q := jx_in jk_5 400 [] rfl (Nat.le_of_ble_eq_true rfl) h
/-! ScriptLedger.spend(II)Z -/
theorem jd_6_0 : decode prog_1_method_7_code 0 = .ok (.aload_n 0, 1) := by decide +kernel
theorem jd_6_1 : decode prog_1_method_7_code 1 = .ok (.getfield 35, 3) := by decide +kernel
theorem jd_6_4 : decode prog_1_method_7_code 4 = .ok (.getfield 90, 3) := by decide +kernel
theorem jd_6_7 : decode prog_1_method_7_code 7 = .ok (.iconst 3, 1) := by decide +kernel
theorem jd_6_8 : decode prog_1_method_7_code 8 = .ok (.if_icmp .ge 18, 3) := by decide +kernel
theorem jd_6_11 : decode prog_1_method_7_code 11 = .ok (.iload_n 1, 1) := by decide +kernel
theorem jd_6_12 : decode prog_1_method_7_code 12 = .ok (.ifCond .lt 14, 3) := by decide +kernel
theorem jd_6_15 : decode prog_1_method_7_code 15 = .ok (.aload_n 0, 1) := by decide +kernel
theorem jd_6_16 : decode prog_1_method_7_code 16 = .ok (.getfield 35, 3) := by decide +kernel
theorem jd_6_19 : decode prog_1_method_7_code 19 = .ok (.iload_n 1, 1) := by decide +kernel
theorem jd_6_20 : decode prog_1_method_7_code 20 = .ok (.invokevirtual 93, 3) := by decide +kernel
theorem jd_6_23 : decode prog_1_method_7_code 23 = .ok (.ifCond .eq 5, 3) := by decide +kernel
theorem jd_6_26 : decode prog_1_method_7_code 26 = .ok (.iconst 0, 1) := by decide +kernel
theorem jd_6_27 : decode prog_1_method_7_code 27 = .ok (.ireturn, 1) := by decide +kernel
theorem jd_6_28 : decode prog_1_method_7_code 28 = .ok (.aload_n 0, 1) := by decide +kernel
theorem jd_6_29 : decode prog_1_method_7_code 29 = .ok (.getfield 35, 3) := by decide +kernel
theorem jd_6_32 : decode prog_1_method_7_code 32 = .ok (.iload_n 1, 1) := by decide +kernel
theorem jd_6_33 : decode prog_1_method_7_code 33 = .ok (.iload_n 2, 1) := by decide +kernel
theorem jd_6_34 : decode prog_1_method_7_code 34 = .ok (.invokevirtual 96, 3) := by decide +kernel
theorem jd_6_37 : decode prog_1_method_7_code 37 = .ok (.iconst 1, 1) := by decide +kernel
theorem jd_6_38 : decode prog_1_method_7_code 38 = .ok (.ireturn, 1) := by decide +kernel
def jt_6 (pc : Nat) : jx_Sp := bif Nat.ble pc 20 then (bif Nat.ble pc 11 then (bif Nat.ble pc 4 then (bif Nat.ble pc 1 then (bif Nat.ble pc 0 then (bif Nat.beq pc 0 then js_al 0 1 else js_none) else (bif Nat.beq pc 1 then js_getf 0 3 else js_none)) else (bif Nat.beq pc 4 then js_getf 7 2 else js_none)) else (bif Nat.ble pc 8 then (bif Nat.ble pc 7 then (bif Nat.beq pc 7 then js_c 3 1 else js_none) else (bif Nat.beq pc 8 then js_cge 26 else js_none)) else (bif Nat.beq pc 11 then js_il 1 1 else js_none))) else (bif Nat.ble pc 16 then (bif Nat.ble pc 15 then (bif Nat.ble pc 12 then (bif Nat.beq pc 12 then js_iflt 26 else js_none) else (bif Nat.beq pc 15 then js_al 0 1 else js_none)) else (bif Nat.beq pc 16 then js_getf 0 3 else js_none)) else (bif Nat.ble pc 19 then (bif Nat.beq pc 19 then js_il 1 1 else js_none) else (bif Nat.beq pc 20 then js_v1 7 84 else js_none)))) else (bif Nat.ble pc 29 then (bif Nat.ble pc 27 then (bif Nat.ble pc 26 then (bif Nat.ble pc 23 then (bif Nat.beq pc 23 then js_ifeq 28 else js_none) else (bif Nat.beq pc 26 then js_c 0 1 else js_none)) else (bif Nat.beq pc 27 then js_zr else js_none)) else (bif Nat.ble pc 28 then (bif Nat.beq pc 28 then js_al 0 1 else js_none) else (bif Nat.beq pc 29 then js_getf 0 3 else js_none))) else (bif Nat.ble pc 34 then (bif Nat.ble pc 33 then (bif Nat.ble pc 32 then (bif Nat.beq pc 32 then js_il 1 1 else js_none) else (bif Nat.beq pc 33 then js_il 2 1 else js_none)) else (bif Nat.beq pc 34 then js_v2 7 85 else js_none)) else (bif Nat.ble pc 37 then (bif Nat.beq pc 37 then js_c 1 1 else js_none) else (bif Nat.beq pc 38 then js_zr else js_none))))
theorem jk_6_0 : jx_Snd 6 0 (js_al 0 1) := jo_aload_n (i := 0) (w := 0) rfl jd_6_0
theorem jk_6_1 : jx_Snd 6 1 (js_getf 0 3) := jo_getf rfl jf_0_35 jd_6_1
theorem jk_6_4 : jx_Snd 6 4 (js_getf 7 2) := jo_getf rfl jf_0_90 jd_6_4
theorem jk_6_7 : jx_Snd 6 7 (js_c 3 1) := jo_iconst (z := 3) jd_6_7 rfl
theorem jk_6_8 : jx_Snd 6 8 (js_cge 26) := jo_cge (o := 18) rfl jd_6_8
theorem jk_6_11 : jx_Snd 6 11 (js_il 1 1) := jo_iload_n (i := 1) (w := 1) rfl jd_6_11
theorem jk_6_12 : jx_Snd 6 12 (js_iflt 26) := jo_iflt (o := 14) rfl jd_6_12
theorem jk_6_15 : jx_Snd 6 15 (js_al 0 1) := jo_aload_n (i := 0) (w := 0) rfl jd_6_15
theorem jk_6_16 : jx_Snd 6 16 (js_getf 0 3) := jo_getf rfl jf_0_35 jd_6_16
theorem jk_6_19 : jx_Snd 6 19 (js_il 1 1) := jo_iload_n (i := 1) (w := 1) rfl jd_6_19
theorem jk_6_20 : jx_Snd 6 20 (js_v1 7 84) := jo_v1 rfl jok_84 (Or.inl jw_303) jw_304 jw_305 rfl jd_6_20
theorem jk_6_23 : jx_Snd 6 23 (js_ifeq 28) := jo_ifeq (o := 5) rfl jd_6_23
theorem jk_6_26 : jx_Snd 6 26 (js_c 0 1) := jo_iconst (z := 0) jd_6_26 rfl
theorem jk_6_27 : jx_Snd 6 27 (js_zr) := jo_zr rfl jd_6_27
theorem jk_6_28 : jx_Snd 6 28 (js_al 0 1) := jo_aload_n (i := 0) (w := 0) rfl jd_6_28
theorem jk_6_29 : jx_Snd 6 29 (js_getf 0 3) := jo_getf rfl jf_0_35 jd_6_29
theorem jk_6_32 : jx_Snd 6 32 (js_il 1 1) := jo_iload_n (i := 1) (w := 1) rfl jd_6_32
theorem jk_6_33 : jx_Snd 6 33 (js_il 2 1) := jo_iload_n (i := 2) (w := 2) rfl jd_6_33
theorem jk_6_34 : jx_Snd 6 34 (js_v2 7 85) := jo_v2 rfl jok_85 (Or.inl jw_307) jw_308 jw_309 rfl jd_6_34
theorem jk_6_37 : jx_Snd 6 37 (js_c 1 1) := jo_iconst (z := 1) jd_6_37 rfl
theorem jk_6_38 : jx_Snd 6 38 (js_zr) := jo_zr rfl jd_6_38
theorem jk_6 : jx_So 6 jt_6 := fun pc => jo_le (jo_le (jo_le (jo_le (jo_le (jo_at (jk_6_0)) (jo_at (jk_6_1))) (jo_at (jk_6_4))) (jo_le (jo_le (jo_at (jk_6_7)) (jo_at (jk_6_8))) (jo_at (jk_6_11)))) (jo_le (jo_le (jo_le (jo_at (jk_6_12)) (jo_at (jk_6_15))) (jo_at (jk_6_16))) (jo_le (jo_at (jk_6_19)) (jo_at (jk_6_20))))) (jo_le (jo_le (jo_le (jo_le (jo_at (jk_6_23)) (jo_at (jk_6_26))) (jo_at (jk_6_27))) (jo_le (jo_at (jk_6_28)) (jo_at (jk_6_29)))) (jo_le (jo_le (jo_le (jo_at (jk_6_32)) (jo_at (jk_6_33))) (jo_at (jk_6_34))) (jo_le (jo_at (jk_6_37)) (jo_at (jk_6_38)))))
theorem ji_6 {l : Launch} {D : va_G} {cA : ClassId} {ρ : Nat → Nat} {Λ : List jx_Lc} {d : Nat} {Q : Option Value → jx_St → Prop} {σ : jx_St} {z0 : Nat} {a1 : Int32} {a2 : Int32} (h : jt_6 0 Λ jx_tb0 (jx_rn Λ jx_tb0 jt_6 (fun k' as σ K => jx_C l D cA ρ Λ d k' as σ K) Q (jx_J l D cA ρ Λ (jx_A ρ Λ) jx_tb0 (d + 1) 6 Q) [] 400) (fun k' as σ K => jx_C l D cA ρ Λ d k' as σ K) Q 0 [(0, .ref z0), (1, .int a1), (2, .int a2)] [] σ) : jx_C l D cA ρ Λ (d + 1) 6 [.ref z0, .int a1, .int a2] σ Q := jx_in jk_6 400 [] rfl (Nat.le_of_ble_eq_true rfl) h
/-! ScriptLedger.give(IIIII)Z -/
theorem jd_7_0 : decode prog_1_method_8_code 0 = .ok (.aload_n 0, 1) := by decide +kernel
theorem jd_7_1 : decode prog_1_method_8_code 1 = .ok (.getfield 35, 3) := by decide +kernel
theorem jd_7_4 : decode prog_1_method_8_code 4 = .ok (.getfield 100, 3) := by decide +kernel
theorem jd_7_7 : decode prog_1_method_8_code 7 = .ok (.iconst 1, 1) := by decide +kernel
theorem jd_7_8 : decode prog_1_method_8_code 8 = .ok (.invokevirtual 104, 3) := by decide +kernel
theorem jd_7_11 : decode prog_1_method_8_code 11 = .ok (.ifCond .eq 13, 3) := by decide +kernel
theorem jd_7_14 : decode prog_1_method_8_code 14 = .ok (.iload_n 1, 1) := by decide +kernel
theorem jd_7_15 : decode prog_1_method_8_code 15 = .ok (.ifCond .lt 9, 3) := by decide +kernel
theorem jd_7_18 : decode prog_1_method_8_code 18 = .ok (.iload_n 1, 1) := by decide +kernel
theorem jd_7_19 : decode prog_1_method_8_code 19 = .ok (.bipush 10, 2) := by decide +kernel
theorem jd_7_21 : decode prog_1_method_8_code 21 = .ok (.if_icmp .lt 5, 3) := by decide +kernel
theorem jd_7_24 : decode prog_1_method_8_code 24 = .ok (.iconst 0, 1) := by decide +kernel
theorem jd_7_25 : decode prog_1_method_8_code 25 = .ok (.ireturn, 1) := by decide +kernel
theorem jd_7_26 : decode prog_1_method_8_code 26 = .ok (.iload_n 3, 1) := by decide +kernel
theorem jd_7_27 : decode prog_1_method_8_code 27 = .ok (.invokestatic 109, 3) := by decide +kernel
theorem jd_7_30 : decode prog_1_method_8_code 30 = .ok (.ifCond .eq 19, 3) := by decide +kernel
theorem jd_7_33 : decode prog_1_method_8_code 33 = .ok (.iload 4, 2) := by decide +kernel
theorem jd_7_35 : decode prog_1_method_8_code 35 = .ok (.invokestatic 109, 3) := by decide +kernel
theorem jd_7_38 : decode prog_1_method_8_code 38 = .ok (.ifCond .eq 11, 3) := by decide +kernel
theorem jd_7_41 : decode prog_1_method_8_code 41 = .ok (.iload 5, 2) := by decide +kernel
theorem jd_7_43 : decode prog_1_method_8_code 43 = .ok (.invokestatic 109, 3) := by decide +kernel
theorem jd_7_46 : decode prog_1_method_8_code 46 = .ok (.ifCond .ne 5, 3) := by decide +kernel
theorem jd_7_49 : decode prog_1_method_8_code 49 = .ok (.iconst 0, 1) := by decide +kernel
theorem jd_7_50 : decode prog_1_method_8_code 50 = .ok (.ireturn, 1) := by decide +kernel
theorem jd_7_51 : decode prog_1_method_8_code 51 = .ok (.aload_n 0, 1) := by decide +kernel
theorem jd_7_52 : decode prog_1_method_8_code 52 = .ok (.getfield 35, 3) := by decide +kernel
theorem jd_7_55 : decode prog_1_method_8_code 55 = .ok (.getfield 100, 3) := by decide +kernel
theorem jd_7_58 : decode prog_1_method_8_code 58 = .ok (.iload_n 1, 1) := by decide +kernel
theorem jd_7_59 : decode prog_1_method_8_code 59 = .ok (.iload_n 2, 1) := by decide +kernel
theorem jd_7_60 : decode prog_1_method_8_code 60 = .ok (.iload_n 3, 1) := by decide +kernel
theorem jd_7_61 : decode prog_1_method_8_code 61 = .ok (.iload 4, 2) := by decide +kernel
theorem jd_7_63 : decode prog_1_method_8_code 63 = .ok (.iload 5, 2) := by decide +kernel
theorem jd_7_65 : decode prog_1_method_8_code 65 = .ok (.invokevirtual 112, 3) := by decide +kernel
theorem jd_7_68 : decode prog_1_method_8_code 68 = .ok (.iconst 1, 1) := by decide +kernel
theorem jd_7_69 : decode prog_1_method_8_code 69 = .ok (.ireturn, 1) := by decide +kernel
def jt_7 (pc : Nat) : jx_Sp := bif Nat.ble pc 35 then (bif Nat.ble pc 18 then (bif Nat.ble pc 8 then (bif Nat.ble pc 4 then (bif Nat.ble pc 1 then (bif Nat.ble pc 0 then (bif Nat.beq pc 0 then js_al 0 1 else js_none) else (bif Nat.beq pc 1 then js_getf 0 3 else js_none)) else (bif Nat.beq pc 4 then js_getf 7 3 else js_none)) else (bif Nat.ble pc 7 then (bif Nat.beq pc 7 then js_c 1 1 else js_none) else (bif Nat.beq pc 8 then js_v1 6 77 else js_none))) else (bif Nat.ble pc 14 then (bif Nat.ble pc 11 then (bif Nat.beq pc 11 then js_ifeq 24 else js_none) else (bif Nat.beq pc 14 then js_il 1 1 else js_none)) else (bif Nat.ble pc 15 then (bif Nat.beq pc 15 then js_iflt 24 else js_none) else (bif Nat.beq pc 18 then js_il 1 1 else js_none)))) else (bif Nat.ble pc 26 then (bif Nat.ble pc 24 then (bif Nat.ble pc 21 then (bif Nat.ble pc 19 then (bif Nat.beq pc 19 then js_c 10 2 else js_none) else (bif Nat.beq pc 21 then js_clt 26 else js_none)) else (bif Nat.beq pc 24 then js_c 0 1 else js_none)) else (bif Nat.ble pc 25 then (bif Nat.beq pc 25 then js_zr else js_none) else (bif Nat.beq pc 26 then js_il 3 1 else js_none))) else (bif Nat.ble pc 30 then (bif Nat.ble pc 27 then (bif Nat.beq pc 27 then js_s1 19 else js_none) else (bif Nat.beq pc 30 then js_ifeq 49 else js_none)) else (bif Nat.ble pc 33 then (bif Nat.beq pc 33 then js_il 4 2 else js_none) else (bif Nat.beq pc 35 then js_s1 19 else js_none))))) else (bif Nat.ble pc 55 then (bif Nat.ble pc 49 then (bif Nat.ble pc 43 then (bif Nat.ble pc 41 then (bif Nat.ble pc 38 then (bif Nat.beq pc 38 then js_ifeq 49 else js_none) else (bif Nat.beq pc 41 then js_il 5 2 else js_none)) else (bif Nat.beq pc 43 then js_s1 19 else js_none)) else (bif Nat.ble pc 46 then (bif Nat.beq pc 46 then js_ifne 51 else js_none) else (bif Nat.beq pc 49 then js_c 0 1 else js_none))) else (bif Nat.ble pc 51 then (bif Nat.ble pc 50 then (bif Nat.beq pc 50 then js_zr else js_none) else (bif Nat.beq pc 51 then js_al 0 1 else js_none)) else (bif Nat.ble pc 52 then (bif Nat.beq pc 52 then js_getf 0 3 else js_none) else (bif Nat.beq pc 55 then js_getf 7 3 else js_none)))) else (bif Nat.ble pc 61 then (bif Nat.ble pc 59 then (bif Nat.ble pc 58 then (bif Nat.beq pc 58 then js_il 1 1 else js_none) else (bif Nat.beq pc 59 then js_il 2 1 else js_none)) else (bif Nat.ble pc 60 then (bif Nat.beq pc 60 then js_il 3 1 else js_none) else (bif Nat.beq pc 61 then js_il 4 2 else js_none))) else (bif Nat.ble pc 65 then (bif Nat.ble pc 63 then (bif Nat.beq pc 63 then js_il 5 2 else js_none) else (bif Nat.beq pc 65 then js_v5 6 78 else js_none)) else (bif Nat.ble pc 68 then (bif Nat.beq pc 68 then js_c 1 1 else js_none) else (bif Nat.beq pc 69 then js_zr else js_none)))))
theorem jk_7_0 : jx_Snd 7 0 (js_al 0 1) := jo_aload_n (i := 0) (w := 0) rfl jd_7_0
theorem jk_7_1 : jx_Snd 7 1 (js_getf 0 3) := jo_getf rfl jf_0_35 jd_7_1
theorem jk_7_4 : jx_Snd 7 4 (js_getf 7 3) := jo_getf rfl jf_0_100 jd_7_4
theorem jk_7_7 : jx_Snd 7 7 (js_c 1 1) := jo_iconst (z := 1) jd_7_7 rfl
theorem jk_7_8 : jx_Snd 7 8 (js_v1 6 77) := jo_v1 rfl jok_77 (Or.inl jw_315) jw_110 jw_111 rfl jd_7_8
theorem jk_7_11 : jx_Snd 7 11 (js_ifeq 24) := jo_ifeq (o := 13) rfl jd_7_11
theorem jk_7_14 : jx_Snd 7 14 (js_il 1 1) := jo_iload_n (i := 1) (w := 1) rfl jd_7_14
theorem jk_7_15 : jx_Snd 7 15 (js_iflt 24) := jo_iflt (o := 9) rfl jd_7_15
theorem jk_7_18 : jx_Snd 7 18 (js_il 1 1) := jo_iload_n (i := 1) (w := 1) rfl jd_7_18
theorem jk_7_19 : jx_Snd 7 19 (js_c 10 2) := jo_bipush (z := 10) jd_7_19 (by decide +kernel)
theorem jk_7_21 : jx_Snd 7 21 (js_clt 26) := jo_clt (o := 5) rfl jd_7_21
theorem jk_7_24 : jx_Snd 7 24 (js_c 0 1) := jo_iconst (z := 0) jd_7_24 rfl
theorem jk_7_25 : jx_Snd 7 25 (js_zr) := jo_zr rfl jd_7_25
theorem jk_7_26 : jx_Snd 7 26 (js_il 3 1) := jo_iload_n (i := 3) (w := 3) rfl jd_7_26
theorem jk_7_27 : jx_Snd 7 27 (js_s1 19) := jo_s1 rfl jok_19 (Or.inl jw_316) jw_317 jd_7_27
theorem jk_7_30 : jx_Snd 7 30 (js_ifeq 49) := jo_ifeq (o := 19) rfl jd_7_30
theorem jk_7_33 : jx_Snd 7 33 (js_il 4 2) := jo_iload (i := 4) jd_7_33
theorem jk_7_35 : jx_Snd 7 35 (js_s1 19) := jo_s1 rfl jok_19 (Or.inl jw_316) jw_317 jd_7_35
theorem jk_7_38 : jx_Snd 7 38 (js_ifeq 49) := jo_ifeq (o := 11) rfl jd_7_38
theorem jk_7_41 : jx_Snd 7 41 (js_il 5 2) := jo_iload (i := 5) jd_7_41
theorem jk_7_43 : jx_Snd 7 43 (js_s1 19) := jo_s1 rfl jok_19 (Or.inl jw_316) jw_317 jd_7_43
theorem jk_7_46 : jx_Snd 7 46 (js_ifne 51) := jo_ifne (o := 5) rfl jd_7_46
theorem jk_7_49 : jx_Snd 7 49 (js_c 0 1) := jo_iconst (z := 0) jd_7_49 rfl
theorem jk_7_50 : jx_Snd 7 50 (js_zr) := jo_zr rfl jd_7_50
theorem jk_7_51 : jx_Snd 7 51 (js_al 0 1) := jo_aload_n (i := 0) (w := 0) rfl jd_7_51
theorem jk_7_52 : jx_Snd 7 52 (js_getf 0 3) := jo_getf rfl jf_0_35 jd_7_52
theorem jk_7_55 : jx_Snd 7 55 (js_getf 7 3) := jo_getf rfl jf_0_100 jd_7_55
theorem jk_7_58 : jx_Snd 7 58 (js_il 1 1) := jo_iload_n (i := 1) (w := 1) rfl jd_7_58
theorem jk_7_59 : jx_Snd 7 59 (js_il 2 1) := jo_iload_n (i := 2) (w := 2) rfl jd_7_59
theorem jk_7_60 : jx_Snd 7 60 (js_il 3 1) := jo_iload_n (i := 3) (w := 3) rfl jd_7_60
theorem jk_7_61 : jx_Snd 7 61 (js_il 4 2) := jo_iload (i := 4) jd_7_61
theorem jk_7_63 : jx_Snd 7 63 (js_il 5 2) := jo_iload (i := 5) jd_7_63
theorem jk_7_65 : jx_Snd 7 65 (js_v5 6 78) := jo_v5 rfl jok_78 (Or.inl jw_320) jw_106 jw_107 rfl jd_7_65
theorem jk_7_68 : jx_Snd 7 68 (js_c 1 1) := jo_iconst (z := 1) jd_7_68 rfl
theorem jk_7_69 : jx_Snd 7 69 (js_zr) := jo_zr rfl jd_7_69
theorem jk_7 : jx_So 7 jt_7 := fun pc => jo_le (jo_le (jo_le (jo_le (jo_le (jo_le (jo_at (jk_7_0)) (jo_at (jk_7_1))) (jo_at (jk_7_4))) (jo_le (jo_at (jk_7_7)) (jo_at (jk_7_8)))) (jo_le (jo_le (jo_at (jk_7_11)) (jo_at (jk_7_14))) (jo_le (jo_at (jk_7_15)) (jo_at (jk_7_18))))) (jo_le (jo_le (jo_le (jo_le (jo_at (jk_7_19)) (jo_at (jk_7_21))) (jo_at (jk_7_24))) (jo_le (jo_at (jk_7_25)) (jo_at (jk_7_26)))) (jo_le (jo_le (jo_at (jk_7_27)) (jo_at (jk_7_30))) (jo_le (jo_at (jk_7_33)) (jo_at (jk_7_35)))))) (jo_le (jo_le (jo_le (jo_le (jo_le (jo_at (jk_7_38)) (jo_at (jk_7_41))) (jo_at (jk_7_43))) (jo_le (jo_at (jk_7_46)) (jo_at (jk_7_49)))) (jo_le (jo_le (jo_at (jk_7_50)) (jo_at (jk_7_51))) (jo_le (jo_at (jk_7_52)) (jo_at (jk_7_55))))) (jo_le (jo_le (jo_le (jo_at (jk_7_58)) (jo_at (jk_7_59))) (jo_le (jo_at (jk_7_60)) (jo_at (jk_7_61)))) (jo_le (jo_le (jo_at (jk_7_63)) (jo_at (jk_7_65))) (jo_le (jo_at (jk_7_68)) (jo_at (jk_7_69))))))
theorem ji_7 {l : Launch} {D : va_G} {cA : ClassId} {ρ : Nat → Nat} {Λ : List jx_Lc} {d : Nat} {Q : Option Value → jx_St → Prop} {σ : jx_St} {z0 : Nat} {a1 : Int32} {a2 : Int32} {a3 : Int32} {a4 : Int32} {a5 : Int32} (h : jt_7 0 Λ jx_tb0 (jx_rn Λ jx_tb0 jt_7 (fun k' as σ K => jx_C l D cA ρ Λ d k' as σ K) Q (jx_J l D cA ρ Λ (jx_A ρ Λ) jx_tb0 (d + 1) 7 Q) [] 400) (fun k' as σ K => jx_C l D cA ρ Λ d k' as σ K) Q 0 [(0, .ref z0), (1, .int a1), (2, .int a2), (3, .int a3), (4, .int a4), (5, .int a5)] [] σ) : jx_C l D cA ρ Λ (d + 1) 7 [.ref z0, .int a1, .int a2, .int a3, .int a4, .int a5] σ Q := jx_in jk_7 400 [] rfl (Nat.le_of_ble_eq_true rfl) h
/-! ScriptLedger.mint(III)Z -/
theorem jd_8_0 : decode prog_1_method_9_code 0 = .ok (.iload_n 1, 1) := by decide +kernel
theorem jd_8_1 : decode prog_1_method_9_code 1 = .ok (.ifCond .le 20, 3) := by decide +kernel
theorem jd_8_4 : decode prog_1_method_9_code 4 = .ok (.iload_n 1, 1) := by decide +kernel
theorem jd_8_5 : decode prog_1_method_9_code 5 = .ok (.iconst 3, 1) := by decide +kernel
theorem jd_8_6 : decode prog_1_method_9_code 6 = .ok (.if_icmp .ge 15, 3) := by decide +kernel
theorem jd_8_9 : decode prog_1_method_9_code 9 = .ok (.iload_n 2, 1) := by decide +kernel
theorem jd_8_10 : decode prog_1_method_9_code 10 = .ok (.ldc 116, 2) := by decide +kernel
theorem jd_8_12 : decode prog_1_method_9_code 12 = .ok (.if_icmp .lt 9, 3) := by decide +kernel
theorem jd_8_15 : decode prog_1_method_9_code 15 = .ok (.iload_n 2, 1) := by decide +kernel
theorem jd_8_16 : decode prog_1_method_9_code 16 = .ok (.ldc 117, 2) := by decide +kernel
theorem jd_8_18 : decode prog_1_method_9_code 18 = .ok (.if_icmp .le 5, 3) := by decide +kernel
theorem jd_8_21 : decode prog_1_method_9_code 21 = .ok (.iconst 0, 1) := by decide +kernel
theorem jd_8_22 : decode prog_1_method_9_code 22 = .ok (.ireturn, 1) := by decide +kernel
theorem jd_8_23 : decode prog_1_method_9_code 23 = .ok (.aload_n 0, 1) := by decide +kernel
theorem jd_8_24 : decode prog_1_method_9_code 24 = .ok (.getfield 35, 3) := by decide +kernel
theorem jd_8_27 : decode prog_1_method_9_code 27 = .ok (.getfield 118, 3) := by decide +kernel
theorem jd_8_30 : decode prog_1_method_9_code 30 = .ok (.iload_n 1, 1) := by decide +kernel
theorem jd_8_31 : decode prog_1_method_9_code 31 = .ok (.iload_n 2, 1) := by decide +kernel
theorem jd_8_32 : decode prog_1_method_9_code 32 = .ok (.iastore, 1) := by decide +kernel
theorem jd_8_33 : decode prog_1_method_9_code 33 = .ok (.aload_n 0, 1) := by decide +kernel
theorem jd_8_34 : decode prog_1_method_9_code 34 = .ok (.getfield 35, 3) := by decide +kernel
theorem jd_8_37 : decode prog_1_method_9_code 37 = .ok (.getfield 121, 3) := by decide +kernel
theorem jd_8_40 : decode prog_1_method_9_code 40 = .ok (.iload_n 1, 1) := by decide +kernel
theorem jd_8_41 : decode prog_1_method_9_code 41 = .ok (.iload_n 3, 1) := by decide +kernel
theorem jd_8_42 : decode prog_1_method_9_code 42 = .ok (.iastore, 1) := by decide +kernel
theorem jd_8_43 : decode prog_1_method_9_code 43 = .ok (.iconst 1, 1) := by decide +kernel
theorem jd_8_44 : decode prog_1_method_9_code 44 = .ok (.ireturn, 1) := by decide +kernel
def jt_8 (pc : Nat) : jx_Sp := bif Nat.ble pc 23 then (bif Nat.ble pc 10 then (bif Nat.ble pc 5 then (bif Nat.ble pc 1 then (bif Nat.ble pc 0 then (bif Nat.beq pc 0 then js_il 1 1 else js_none) else (bif Nat.beq pc 1 then js_ifle 21 else js_none)) else (bif Nat.ble pc 4 then (bif Nat.beq pc 4 then js_il 1 1 else js_none) else (bif Nat.beq pc 5 then js_c 3 1 else js_none))) else (bif Nat.ble pc 9 then (bif Nat.ble pc 6 then (bif Nat.beq pc 6 then js_cge 21 else js_none) else (bif Nat.beq pc 9 then js_il 2 1 else js_none)) else (bif Nat.beq pc 10 then js_c (-1000000) 2 else js_none))) else (bif Nat.ble pc 18 then (bif Nat.ble pc 15 then (bif Nat.ble pc 12 then (bif Nat.beq pc 12 then js_clt 21 else js_none) else (bif Nat.beq pc 15 then js_il 2 1 else js_none)) else (bif Nat.ble pc 16 then (bif Nat.beq pc 16 then js_c 1000000 2 else js_none) else (bif Nat.beq pc 18 then js_cle 23 else js_none))) else (bif Nat.ble pc 22 then (bif Nat.ble pc 21 then (bif Nat.beq pc 21 then js_c 0 1 else js_none) else (bif Nat.beq pc 22 then js_zr else js_none)) else (bif Nat.beq pc 23 then js_al 0 1 else js_none)))) else (bif Nat.ble pc 34 then (bif Nat.ble pc 31 then (bif Nat.ble pc 27 then (bif Nat.ble pc 24 then (bif Nat.beq pc 24 then js_getf 0 3 else js_none) else (bif Nat.beq pc 27 then js_getf 7 4 else js_none)) else (bif Nat.ble pc 30 then (bif Nat.beq pc 30 then js_il 1 1 else js_none) else (bif Nat.beq pc 31 then js_il 2 1 else js_none))) else (bif Nat.ble pc 33 then (bif Nat.ble pc 32 then (bif Nat.beq pc 32 then js_ast else js_none) else (bif Nat.beq pc 33 then js_al 0 1 else js_none)) else (bif Nat.beq pc 34 then js_getf 0 3 else js_none))) else (bif Nat.ble pc 41 then (bif Nat.ble pc 40 then (bif Nat.ble pc 37 then (bif Nat.beq pc 37 then js_getf 7 5 else js_none) else (bif Nat.beq pc 40 then js_il 1 1 else js_none)) else (bif Nat.beq pc 41 then js_il 3 1 else js_none)) else (bif Nat.ble pc 43 then (bif Nat.ble pc 42 then (bif Nat.beq pc 42 then js_ast else js_none) else (bif Nat.beq pc 43 then js_c 1 1 else js_none)) else (bif Nat.beq pc 44 then js_zr else js_none))))
theorem jk_8_0 : jx_Snd 8 0 (js_il 1 1) := jo_iload_n (i := 1) (w := 1) rfl jd_8_0
theorem jk_8_1 : jx_Snd 8 1 (js_ifle 21) := jo_ifle (o := 20) rfl jd_8_1
theorem jk_8_4 : jx_Snd 8 4 (js_il 1 1) := jo_iload_n (i := 1) (w := 1) rfl jd_8_4
theorem jk_8_5 : jx_Snd 8 5 (js_c 3 1) := jo_iconst (z := 3) jd_8_5 rfl
theorem jk_8_6 : jx_Snd 8 6 (js_cge 21) := jo_cge (o := 15) rfl jd_8_6
theorem jk_8_9 : jx_Snd 8 9 (js_il 2 1) := jo_iload_n (i := 2) (w := 2) rfl jd_8_9
theorem jk_8_10 : jx_Snd 8 10 (js_c (-1000000) 2) := jo_ldc (ix := 116) rfl jw_325 jd_8_10
theorem jk_8_12 : jx_Snd 8 12 (js_clt 21) := jo_clt (o := 9) rfl jd_8_12
theorem jk_8_15 : jx_Snd 8 15 (js_il 2 1) := jo_iload_n (i := 2) (w := 2) rfl jd_8_15
theorem jk_8_16 : jx_Snd 8 16 (js_c 1000000 2) := jo_ldc (ix := 117) rfl jw_319 jd_8_16
theorem jk_8_18 : jx_Snd 8 18 (js_cle 23) := jo_cle (o := 5) rfl jd_8_18
theorem jk_8_21 : jx_Snd 8 21 (js_c 0 1) := jo_iconst (z := 0) jd_8_21 rfl
theorem jk_8_22 : jx_Snd 8 22 (js_zr) := jo_zr rfl jd_8_22
theorem jk_8_23 : jx_Snd 8 23 (js_al 0 1) := jo_aload_n (i := 0) (w := 0) rfl jd_8_23
theorem jk_8_24 : jx_Snd 8 24 (js_getf 0 3) := jo_getf rfl jf_0_35 jd_8_24
theorem jk_8_27 : jx_Snd 8 27 (js_getf 7 4) := jo_getf rfl jf_0_118 jd_8_27
theorem jk_8_30 : jx_Snd 8 30 (js_il 1 1) := jo_iload_n (i := 1) (w := 1) rfl jd_8_30
theorem jk_8_31 : jx_Snd 8 31 (js_il 2 1) := jo_iload_n (i := 2) (w := 2) rfl jd_8_31
theorem jk_8_32 : jx_Snd 8 32 (js_ast) := jo_ast jd_8_32
theorem jk_8_33 : jx_Snd 8 33 (js_al 0 1) := jo_aload_n (i := 0) (w := 0) rfl jd_8_33
theorem jk_8_34 : jx_Snd 8 34 (js_getf 0 3) := jo_getf rfl jf_0_35 jd_8_34
theorem jk_8_37 : jx_Snd 8 37 (js_getf 7 5) := jo_getf rfl jf_0_121 jd_8_37
theorem jk_8_40 : jx_Snd 8 40 (js_il 1 1) := jo_iload_n (i := 1) (w := 1) rfl jd_8_40
theorem jk_8_41 : jx_Snd 8 41 (js_il 3 1) := jo_iload_n (i := 3) (w := 3) rfl jd_8_41
theorem jk_8_42 : jx_Snd 8 42 (js_ast) := jo_ast jd_8_42
theorem jk_8_43 : jx_Snd 8 43 (js_c 1 1) := jo_iconst (z := 1) jd_8_43 rfl
theorem jk_8_44 : jx_Snd 8 44 (js_zr) := jo_zr rfl jd_8_44
theorem jk_8 : jx_So 8 jt_8 := fun pc => jo_le (jo_le (jo_le (jo_le (jo_le (jo_at (jk_8_0)) (jo_at (jk_8_1))) (jo_le (jo_at (jk_8_4)) (jo_at (jk_8_5)))) (jo_le (jo_le (jo_at (jk_8_6)) (jo_at (jk_8_9))) (jo_at (jk_8_10)))) (jo_le (jo_le (jo_le (jo_at (jk_8_12)) (jo_at (jk_8_15))) (jo_le (jo_at (jk_8_16)) (jo_at (jk_8_18)))) (jo_le (jo_le (jo_at (jk_8_21)) (jo_at (jk_8_22))) (jo_at (jk_8_23))))) (jo_le (jo_le (jo_le (jo_le (jo_at (jk_8_24)) (jo_at (jk_8_27))) (jo_le (jo_at (jk_8_30)) (jo_at (jk_8_31)))) (jo_le (jo_le (jo_at (jk_8_32)) (jo_at (jk_8_33))) (jo_at (jk_8_34)))) (jo_le (jo_le (jo_le (jo_at (jk_8_37)) (jo_at (jk_8_40))) (jo_at (jk_8_41))) (jo_le (jo_le (jo_at (jk_8_42)) (jo_at (jk_8_43))) (jo_at (jk_8_44)))))
theorem ji_8 {l : Launch} {D : va_G} {cA : ClassId} {ρ : Nat → Nat} {Λ : List jx_Lc} {d : Nat} {Q : Option Value → jx_St → Prop} {σ : jx_St} {z0 : Nat} {a1 : Int32} {a2 : Int32} {a3 : Int32} (h : jt_8 0 Λ jx_tb0 (jx_rn Λ jx_tb0 jt_8 (fun k' as σ K => jx_C l D cA ρ Λ d k' as σ K) Q (jx_J l D cA ρ Λ (jx_A ρ Λ) jx_tb0 (d + 1) 8 Q) [] 400) (fun k' as σ K => jx_C l D cA ρ Λ d k' as σ K) Q 0 [(0, .ref z0), (1, .int a1), (2, .int a2), (3, .int a3)] [] σ) : jx_C l D cA ρ Λ (d + 1) 8 [.ref z0, .int a1, .int a2, .int a3] σ Q := jx_in jk_8 400 [] rfl (Nat.le_of_ble_eq_true rfl) h
/-! ScriptLedger.terms(IIIII)Z -/
theorem jd_9_0 : decode prog_1_method_10_code 0 = .ok (.iload_n 1, 1) := by decide +kernel
theorem jd_9_1 : decode prog_1_method_10_code 1 = .ok (.invokestatic 109, 3) := by decide +kernel
theorem jd_9_4 : decode prog_1_method_10_code 4 = .ok (.ifCond .eq 15, 3) := by decide +kernel
theorem jd_9_7 : decode prog_1_method_10_code 7 = .ok (.iload 4, 2) := by decide +kernel
theorem jd_9_9 : decode prog_1_method_10_code 9 = .ok (.ifCond .lt 10, 3) := by decide +kernel
theorem jd_9_12 : decode prog_1_method_10_code 12 = .ok (.iload 4, 2) := by decide +kernel
theorem jd_9_14 : decode prog_1_method_10_code 14 = .ok (.bipush 15, 2) := by decide +kernel
theorem jd_9_16 : decode prog_1_method_10_code 16 = .ok (.if_icmp .le 5, 3) := by decide +kernel
theorem jd_9_19 : decode prog_1_method_10_code 19 = .ok (.iconst 0, 1) := by decide +kernel
theorem jd_9_20 : decode prog_1_method_10_code 20 = .ok (.ireturn, 1) := by decide +kernel
theorem jd_9_21 : decode prog_1_method_10_code 21 = .ok (.iload 5, 2) := by decide +kernel
theorem jd_9_23 : decode prog_1_method_10_code 23 = .ok (.ifCond .lt 10, 3) := by decide +kernel
theorem jd_9_26 : decode prog_1_method_10_code 26 = .ok (.iload 5, 2) := by decide +kernel
theorem jd_9_28 : decode prog_1_method_10_code 28 = .ok (.bipush 99, 2) := by decide +kernel
theorem jd_9_30 : decode prog_1_method_10_code 30 = .ok (.if_icmp .le 5, 3) := by decide +kernel
theorem jd_9_33 : decode prog_1_method_10_code 33 = .ok (.iconst 0, 1) := by decide +kernel
theorem jd_9_34 : decode prog_1_method_10_code 34 = .ok (.ireturn, 1) := by decide +kernel
theorem jd_9_35 : decode prog_1_method_10_code 35 = .ok (.aload_n 0, 1) := by decide +kernel
theorem jd_9_36 : decode prog_1_method_10_code 36 = .ok (.getfield 35, 3) := by decide +kernel
theorem jd_9_39 : decode prog_1_method_10_code 39 = .ok (.iload_n 1, 1) := by decide +kernel
theorem jd_9_40 : decode prog_1_method_10_code 40 = .ok (.iload_n 2, 1) := by decide +kernel
theorem jd_9_41 : decode prog_1_method_10_code 41 = .ok (.iload_n 3, 1) := by decide +kernel
theorem jd_9_42 : decode prog_1_method_10_code 42 = .ok (.iload 4, 2) := by decide +kernel
theorem jd_9_44 : decode prog_1_method_10_code 44 = .ok (.iload 5, 2) := by decide +kernel
theorem jd_9_46 : decode prog_1_method_10_code 46 = .ok (.invokevirtual 124, 3) := by decide +kernel
theorem jd_9_49 : decode prog_1_method_10_code 49 = .ok (.iconst 1, 1) := by decide +kernel
theorem jd_9_50 : decode prog_1_method_10_code 50 = .ok (.ireturn, 1) := by decide +kernel
def jt_9 (pc : Nat) : jx_Sp := bif Nat.ble pc 28 then (bif Nat.ble pc 14 then (bif Nat.ble pc 7 then (bif Nat.ble pc 1 then (bif Nat.ble pc 0 then (bif Nat.beq pc 0 then js_il 1 1 else js_none) else (bif Nat.beq pc 1 then js_s1 19 else js_none)) else (bif Nat.ble pc 4 then (bif Nat.beq pc 4 then js_ifeq 19 else js_none) else (bif Nat.beq pc 7 then js_il 4 2 else js_none))) else (bif Nat.ble pc 12 then (bif Nat.ble pc 9 then (bif Nat.beq pc 9 then js_iflt 19 else js_none) else (bif Nat.beq pc 12 then js_il 4 2 else js_none)) else (bif Nat.beq pc 14 then js_c 15 2 else js_none))) else (bif Nat.ble pc 21 then (bif Nat.ble pc 19 then (bif Nat.ble pc 16 then (bif Nat.beq pc 16 then js_cle 21 else js_none) else (bif Nat.beq pc 19 then js_c 0 1 else js_none)) else (bif Nat.ble pc 20 then (bif Nat.beq pc 20 then js_zr else js_none) else (bif Nat.beq pc 21 then js_il 5 2 else js_none))) else (bif Nat.ble pc 26 then (bif Nat.ble pc 23 then (bif Nat.beq pc 23 then js_iflt 33 else js_none) else (bif Nat.beq pc 26 then js_il 5 2 else js_none)) else (bif Nat.beq pc 28 then js_c 99 2 else js_none)))) else (bif Nat.ble pc 40 then (bif Nat.ble pc 35 then (bif Nat.ble pc 33 then (bif Nat.ble pc 30 then (bif Nat.beq pc 30 then js_cle 35 else js_none) else (bif Nat.beq pc 33 then js_c 0 1 else js_none)) else (bif Nat.ble pc 34 then (bif Nat.beq pc 34 then js_zr else js_none) else (bif Nat.beq pc 35 then js_al 0 1 else js_none))) else (bif Nat.ble pc 39 then (bif Nat.ble pc 36 then (bif Nat.beq pc 36 then js_getf 0 3 else js_none) else (bif Nat.beq pc 39 then js_il 1 1 else js_none)) else (bif Nat.beq pc 40 then js_il 2 1 else js_none))) else (bif Nat.ble pc 44 then (bif Nat.ble pc 42 then (bif Nat.ble pc 41 then (bif Nat.beq pc 41 then js_il 3 1 else js_none) else (bif Nat.beq pc 42 then js_il 4 2 else js_none)) else (bif Nat.beq pc 44 then js_il 5 2 else js_none)) else (bif Nat.ble pc 49 then (bif Nat.ble pc 46 then (bif Nat.beq pc 46 then js_v5 7 83 else js_none) else (bif Nat.beq pc 49 then js_c 1 1 else js_none)) else (bif Nat.beq pc 50 then js_zr else js_none))))
theorem jk_9_0 : jx_Snd 9 0 (js_il 1 1) := jo_iload_n (i := 1) (w := 1) rfl jd_9_0
theorem jk_9_1 : jx_Snd 9 1 (js_s1 19) := jo_s1 rfl jok_19 (Or.inl jw_316) jw_317 jd_9_1
theorem jk_9_4 : jx_Snd 9 4 (js_ifeq 19) := jo_ifeq (o := 15) rfl jd_9_4
theorem jk_9_7 : jx_Snd 9 7 (js_il 4 2) := jo_iload (i := 4) jd_9_7
theorem jk_9_9 : jx_Snd 9 9 (js_iflt 19) := jo_iflt (o := 10) rfl jd_9_9
theorem jk_9_12 : jx_Snd 9 12 (js_il 4 2) := jo_iload (i := 4) jd_9_12
theorem jk_9_14 : jx_Snd 9 14 (js_c 15 2) := jo_bipush (z := 15) jd_9_14 (by decide +kernel)
theorem jk_9_16 : jx_Snd 9 16 (js_cle 21) := jo_cle (o := 5) rfl jd_9_16
theorem jk_9_19 : jx_Snd 9 19 (js_c 0 1) := jo_iconst (z := 0) jd_9_19 rfl
theorem jk_9_20 : jx_Snd 9 20 (js_zr) := jo_zr rfl jd_9_20
theorem jk_9_21 : jx_Snd 9 21 (js_il 5 2) := jo_iload (i := 5) jd_9_21
theorem jk_9_23 : jx_Snd 9 23 (js_iflt 33) := jo_iflt (o := 10) rfl jd_9_23
theorem jk_9_26 : jx_Snd 9 26 (js_il 5 2) := jo_iload (i := 5) jd_9_26
theorem jk_9_28 : jx_Snd 9 28 (js_c 99 2) := jo_bipush (z := 99) jd_9_28 (by decide +kernel)
theorem jk_9_30 : jx_Snd 9 30 (js_cle 35) := jo_cle (o := 5) rfl jd_9_30
theorem jk_9_33 : jx_Snd 9 33 (js_c 0 1) := jo_iconst (z := 0) jd_9_33 rfl
theorem jk_9_34 : jx_Snd 9 34 (js_zr) := jo_zr rfl jd_9_34
theorem jk_9_35 : jx_Snd 9 35 (js_al 0 1) := jo_aload_n (i := 0) (w := 0) rfl jd_9_35
theorem jk_9_36 : jx_Snd 9 36 (js_getf 0 3) := jo_getf rfl jf_0_35 jd_9_36
theorem jk_9_39 : jx_Snd 9 39 (js_il 1 1) := jo_iload_n (i := 1) (w := 1) rfl jd_9_39
theorem jk_9_40 : jx_Snd 9 40 (js_il 2 1) := jo_iload_n (i := 2) (w := 2) rfl jd_9_40
theorem jk_9_41 : jx_Snd 9 41 (js_il 3 1) := jo_iload_n (i := 3) (w := 3) rfl jd_9_41
theorem jk_9_42 : jx_Snd 9 42 (js_il 4 2) := jo_iload (i := 4) jd_9_42
theorem jk_9_44 : jx_Snd 9 44 (js_il 5 2) := jo_iload (i := 5) jd_9_44
theorem jk_9_46 : jx_Snd 9 46 (js_v5 7 83) := jo_v5 rfl jok_83 (Or.inl jw_330) jw_135 jw_136 rfl jd_9_46
theorem jk_9_49 : jx_Snd 9 49 (js_c 1 1) := jo_iconst (z := 1) jd_9_49 rfl
theorem jk_9_50 : jx_Snd 9 50 (js_zr) := jo_zr rfl jd_9_50
theorem jk_9 : jx_So 9 jt_9 := fun pc => jo_le (jo_le (jo_le (jo_le (jo_le (jo_at (jk_9_0)) (jo_at (jk_9_1))) (jo_le (jo_at (jk_9_4)) (jo_at (jk_9_7)))) (jo_le (jo_le (jo_at (jk_9_9)) (jo_at (jk_9_12))) (jo_at (jk_9_14)))) (jo_le (jo_le (jo_le (jo_at (jk_9_16)) (jo_at (jk_9_19))) (jo_le (jo_at (jk_9_20)) (jo_at (jk_9_21)))) (jo_le (jo_le (jo_at (jk_9_23)) (jo_at (jk_9_26))) (jo_at (jk_9_28))))) (jo_le (jo_le (jo_le (jo_le (jo_at (jk_9_30)) (jo_at (jk_9_33))) (jo_le (jo_at (jk_9_34)) (jo_at (jk_9_35)))) (jo_le (jo_le (jo_at (jk_9_36)) (jo_at (jk_9_39))) (jo_at (jk_9_40)))) (jo_le (jo_le (jo_le (jo_at (jk_9_41)) (jo_at (jk_9_42))) (jo_at (jk_9_44))) (jo_le (jo_le (jo_at (jk_9_46)) (jo_at (jk_9_49))) (jo_at (jk_9_50)))))
theorem ji_9 {l : Launch} {D : va_G} {cA : ClassId} {ρ : Nat → Nat} {Λ : List jx_Lc} {d : Nat} {Q : Option Value → jx_St → Prop} {σ : jx_St} {z0 : Nat} {a1 : Int32} {a2 : Int32} {a3 : Int32} {a4 : Int32} {a5 : Int32} (h : jt_9 0 Λ jx_tb0 (jx_rn Λ jx_tb0 jt_9 (fun k' as σ K => jx_C l D cA ρ Λ d k' as σ K) Q (jx_J l D cA ρ Λ (jx_A ρ Λ) jx_tb0 (d + 1) 9 Q) [] 400) (fun k' as σ K => jx_C l D cA ρ Λ d k' as σ K) Q 0 [(0, .ref z0), (1, .int a1), (2, .int a2), (3, .int a3), (4, .int a4), (5, .int a5)] [] σ) : jx_C l D cA ρ Λ (d + 1) 9 [.ref z0, .int a1, .int a2, .int a3, .int a4, .int a5] σ Q := jx_in jk_9 400 [] rfl (Nat.le_of_ble_eq_true rfl) h
/-! ScriptLedger.guarantee(I)Z -/
theorem jd_10_0 : decode prog_1_method_11_code 0 = .ok (.iload_n 1, 1) := by decide +kernel
theorem jd_10_1 : decode prog_1_method_11_code 1 = .ok (.ifCond .ge 5, 3) := by decide +kernel
theorem jd_10_4 : decode prog_1_method_11_code 4 = .ok (.iconst 0, 1) := by decide +kernel
theorem jd_10_5 : decode prog_1_method_11_code 5 = .ok (.ireturn, 1) := by decide +kernel
theorem jd_10_6 : decode prog_1_method_11_code 6 = .ok (.aload_n 0, 1) := by decide +kernel
theorem jd_10_7 : decode prog_1_method_11_code 7 = .ok (.getfield 35, 3) := by decide +kernel
theorem jd_10_10 : decode prog_1_method_11_code 10 = .ok (.iload_n 1, 1) := by decide +kernel
theorem jd_10_11 : decode prog_1_method_11_code 11 = .ok (.putfield 127, 3) := by decide +kernel
theorem jd_10_14 : decode prog_1_method_11_code 14 = .ok (.iconst 1, 1) := by decide +kernel
theorem jd_10_15 : decode prog_1_method_11_code 15 = .ok (.ireturn, 1) := by decide +kernel
def jt_10 (pc : Nat) : jx_Sp := bif Nat.ble pc 6 then (bif Nat.ble pc 4 then (bif Nat.ble pc 1 then (bif Nat.ble pc 0 then (bif Nat.beq pc 0 then js_il 1 1 else js_none) else (bif Nat.beq pc 1 then js_ifge 6 else js_none)) else (bif Nat.beq pc 4 then js_c 0 1 else js_none)) else (bif Nat.ble pc 5 then (bif Nat.beq pc 5 then js_zr else js_none) else (bif Nat.beq pc 6 then js_al 0 1 else js_none))) else (bif Nat.ble pc 11 then (bif Nat.ble pc 10 then (bif Nat.ble pc 7 then (bif Nat.beq pc 7 then js_getf 0 3 else js_none) else (bif Nat.beq pc 10 then js_il 1 1 else js_none)) else (bif Nat.beq pc 11 then js_putf 7 11 false else js_none)) else (bif Nat.ble pc 14 then (bif Nat.beq pc 14 then js_c 1 1 else js_none) else (bif Nat.beq pc 15 then js_zr else js_none)))
theorem jk_10_0 : jx_Snd 10 0 (js_il 1 1) := jo_iload_n (i := 1) (w := 1) rfl jd_10_0
theorem jk_10_1 : jx_Snd 10 1 (js_ifge 6) := jo_ifge (o := 5) rfl jd_10_1
theorem jk_10_4 : jx_Snd 10 4 (js_c 0 1) := jo_iconst (z := 0) jd_10_4 rfl
theorem jk_10_5 : jx_Snd 10 5 (js_zr) := jo_zr rfl jd_10_5
theorem jk_10_6 : jx_Snd 10 6 (js_al 0 1) := jo_aload_n (i := 0) (w := 0) rfl jd_10_6
theorem jk_10_7 : jx_Snd 10 7 (js_getf 0 3) := jo_getf rfl jf_0_35 jd_10_7
theorem jk_10_10 : jx_Snd 10 10 (js_il 1 1) := jo_iload_n (i := 1) (w := 1) rfl jd_10_10
theorem jk_10_11 : jx_Snd 10 11 (js_putf 7 11 false) := jo_putf (z := false) rfl jf_0_127 (fun C T N h => by cases h; rfl) jd_10_11
theorem jk_10_14 : jx_Snd 10 14 (js_c 1 1) := jo_iconst (z := 1) jd_10_14 rfl
theorem jk_10_15 : jx_Snd 10 15 (js_zr) := jo_zr rfl jd_10_15
theorem jk_10 : jx_So 10 jt_10 := fun pc => jo_le (jo_le (jo_le (jo_le (jo_at (jk_10_0)) (jo_at (jk_10_1))) (jo_at (jk_10_4))) (jo_le (jo_at (jk_10_5)) (jo_at (jk_10_6)))) (jo_le (jo_le (jo_le (jo_at (jk_10_7)) (jo_at (jk_10_10))) (jo_at (jk_10_11))) (jo_le (jo_at (jk_10_14)) (jo_at (jk_10_15))))
theorem ji_10 {l : Launch} {D : va_G} {cA : ClassId} {ρ : Nat → Nat} {Λ : List jx_Lc} {d : Nat} {Q : Option Value → jx_St → Prop} {σ : jx_St} {z0 : Nat} {a1 : Int32} (h : jt_10 0 Λ jx_tb0 (jx_rn Λ jx_tb0 jt_10 (fun k' as σ K => jx_C l D cA ρ Λ d k' as σ K) Q (jx_J l D cA ρ Λ (jx_A ρ Λ) jx_tb0 (d + 1) 10 Q) [] 400) (fun k' as σ K => jx_C l D cA ρ Λ d k' as σ K) Q 0 [(0, .ref z0), (1, .int a1)] [] σ) : jx_C l D cA ρ Λ (d + 1) 10 [.ref z0, .int a1] σ Q := jx_in jk_10 400 [] rfl (Nat.le_of_ble_eq_true rfl) h
/-! ScriptLedger.submit()I -/
theorem jd_11_0 : decode prog_1_method_12_code 0 = .ok (.aload_n 0, 1) := by decide +kernel
theorem jd_11_1 : decode prog_1_method_12_code 1 = .ok (.invokevirtual 130, 3) := by decide +kernel
theorem jd_11_4 : decode prog_1_method_12_code 4 = .ok (.istore_n 1, 1) := by decide +kernel
theorem jd_11_5 : decode prog_1_method_12_code 5 = .ok (.iload_n 1, 1) := by decide +kernel
theorem jd_11_6 : decode prog_1_method_12_code 6 = .ok (.ifCond .ne 33, 3) := by decide +kernel
theorem jd_11_9 : decode prog_1_method_12_code 9 = .ok (.aload_n 0, 1) := by decide +kernel
theorem jd_11_10 : decode prog_1_method_12_code 10 = .ok (.invokevirtual 134, 3) := by decide +kernel
theorem jd_11_13 : decode prog_1_method_12_code 13 = .ok (.ifCond .eq 10, 3) := by decide +kernel
theorem jd_11_16 : decode prog_1_method_12_code 16 = .ok (.aload_n 0, 1) := by decide +kernel
theorem jd_11_17 : decode prog_1_method_12_code 17 = .ok (.invokevirtual 138, 3) := by decide +kernel
theorem jd_11_20 : decode prog_1_method_12_code 20 = .ok (.goto 19, 3) := by decide +kernel
theorem jd_11_23 : decode prog_1_method_12_code 23 = .ok (.aload_n 0, 1) := by decide +kernel
theorem jd_11_24 : decode prog_1_method_12_code 24 = .ok (.getfield 28, 3) := by decide +kernel
theorem jd_11_27 : decode prog_1_method_12_code 27 = .ok (.aload_n 0, 1) := by decide +kernel
theorem jd_11_28 : decode prog_1_method_12_code 28 = .ok (.getfield 35, 3) := by decide +kernel
theorem jd_11_31 : decode prog_1_method_12_code 31 = .ok (.getfield 127, 3) := by decide +kernel
theorem jd_11_34 : decode prog_1_method_12_code 34 = .ok (.invokevirtual 141, 3) := by decide +kernel
theorem jd_11_37 : decode prog_1_method_12_code 37 = .ok (.iconst 1, 1) := by decide +kernel
theorem jd_11_38 : decode prog_1_method_12_code 38 = .ok (.istore_n 1, 1) := by decide +kernel
theorem jd_11_39 : decode prog_1_method_12_code 39 = .ok (.aload_n 0, 1) := by decide +kernel
theorem jd_11_40 : decode prog_1_method_12_code 40 = .ok (.getfield 35, 3) := by decide +kernel
theorem jd_11_43 : decode prog_1_method_12_code 43 = .ok (.invokevirtual 87, 3) := by decide +kernel
theorem jd_11_46 : decode prog_1_method_12_code 46 = .ok (.iload_n 1, 1) := by decide +kernel
theorem jd_11_47 : decode prog_1_method_12_code 47 = .ok (.ireturn, 1) := by decide +kernel
def jt_11 (pc : Nat) : jx_Sp := bif Nat.ble pc 23 then (bif Nat.ble pc 9 then (bif Nat.ble pc 4 then (bif Nat.ble pc 1 then (bif Nat.ble pc 0 then (bif Nat.beq pc 0 then js_al 0 1 else js_none) else (bif Nat.beq pc 1 then js_v0 0 20 else js_none)) else (bif Nat.beq pc 4 then js_is 1 1 else js_none)) else (bif Nat.ble pc 6 then (bif Nat.ble pc 5 then (bif Nat.beq pc 5 then js_il 1 1 else js_none) else (bif Nat.beq pc 6 then js_ifne 39 else js_none)) else (bif Nat.beq pc 9 then js_al 0 1 else js_none))) else (bif Nat.ble pc 16 then (bif Nat.ble pc 13 then (bif Nat.ble pc 10 then (bif Nat.beq pc 10 then js_v0 0 29 else js_none) else (bif Nat.beq pc 13 then js_ifeq 23 else js_none)) else (bif Nat.beq pc 16 then js_al 0 1 else js_none)) else (bif Nat.ble pc 20 then (bif Nat.ble pc 17 then (bif Nat.beq pc 17 then js_v0 0 31 else js_none) else (bif Nat.beq pc 20 then js_go 39 else js_none)) else (bif Nat.beq pc 23 then js_al 0 1 else js_none)))) else (bif Nat.ble pc 37 then (bif Nat.ble pc 28 then (bif Nat.ble pc 27 then (bif Nat.ble pc 24 then (bif Nat.beq pc 24 then js_getf 0 2 else js_none) else (bif Nat.beq pc 27 then js_al 0 1 else js_none)) else (bif Nat.beq pc 28 then js_getf 0 3 else js_none)) else (bif Nat.ble pc 34 then (bif Nat.ble pc 31 then (bif Nat.beq pc 31 then js_getf 7 11 else js_none) else (bif Nat.beq pc 34 then js_v1 5 72 else js_none)) else (bif Nat.beq pc 37 then js_c 1 1 else js_none))) else (bif Nat.ble pc 40 then (bif Nat.ble pc 39 then (bif Nat.ble pc 38 then (bif Nat.beq pc 38 then js_is 1 1 else js_none) else (bif Nat.beq pc 39 then js_al 0 1 else js_none)) else (bif Nat.beq pc 40 then js_getf 0 3 else js_none)) else (bif Nat.ble pc 46 then (bif Nat.ble pc 43 then (bif Nat.beq pc 43 then js_v0 7 82 else js_none) else (bif Nat.beq pc 46 then js_il 1 1 else js_none)) else (bif Nat.beq pc 47 then js_ir else js_none))))
theorem jk_11_0 : jx_Snd 11 0 (js_al 0 1) := jo_aload_n (i := 0) (w := 0) rfl jd_11_0
theorem jk_11_1 : jx_Snd 11 1 (js_v0 0 20) := jo_v0 rfl jok_20 (Or.inl jw_339) jw_340 jw_703 rfl jd_11_1
theorem jk_11_4 : jx_Snd 11 4 (js_is 1 1) := jo_istore_n (i := 1) (w := 1) rfl (Nat.le_of_ble_eq_true rfl) jd_11_4
theorem jk_11_5 : jx_Snd 11 5 (js_il 1 1) := jo_iload_n (i := 1) (w := 1) rfl jd_11_5
theorem jk_11_6 : jx_Snd 11 6 (js_ifne 39) := jo_ifne (o := 33) rfl jd_11_6
theorem jk_11_9 : jx_Snd 11 9 (js_al 0 1) := jo_aload_n (i := 0) (w := 0) rfl jd_11_9
theorem jk_11_10 : jx_Snd 11 10 (js_v0 0 29) := jo_v0 rfl jok_29 (Or.inl jw_391) jw_392 jw_711 rfl jd_11_10
theorem jk_11_13 : jx_Snd 11 13 (js_ifeq 23) := jo_ifeq (o := 10) rfl jd_11_13
theorem jk_11_16 : jx_Snd 11 16 (js_al 0 1) := jo_aload_n (i := 0) (w := 0) rfl jd_11_16
theorem jk_11_17 : jx_Snd 11 17 (js_v0 0 31) := jo_v0 rfl jok_31 (Or.inl jw_397) jw_398 jw_713 rfl jd_11_17
theorem jk_11_20 : jx_Snd 11 20 (js_go 39) := jo_goto (o := 19) rfl jd_11_20
theorem jk_11_23 : jx_Snd 11 23 (js_al 0 1) := jo_aload_n (i := 0) (w := 0) rfl jd_11_23
theorem jk_11_24 : jx_Snd 11 24 (js_getf 0 2) := jo_getf rfl jf_0_28 jd_11_24
theorem jk_11_27 : jx_Snd 11 27 (js_al 0 1) := jo_aload_n (i := 0) (w := 0) rfl jd_11_27
theorem jk_11_28 : jx_Snd 11 28 (js_getf 0 3) := jo_getf rfl jf_0_35 jd_11_28
theorem jk_11_31 : jx_Snd 11 31 (js_getf 7 11) := jo_getf rfl jf_0_127 jd_11_31
theorem jk_11_34 : jx_Snd 11 34 (js_v1 5 72) := jo_v1 rfl jok_72 (Or.inl jw_410) jw_411 jw_412 rfl jd_11_34
theorem jk_11_37 : jx_Snd 11 37 (js_c 1 1) := jo_iconst (z := 1) jd_11_37 rfl
theorem jk_11_38 : jx_Snd 11 38 (js_is 1 1) := jo_istore_n (i := 1) (w := 1) rfl (Nat.le_of_ble_eq_true rfl) jd_11_38
theorem jk_11_39 : jx_Snd 11 39 (js_al 0 1) := jo_aload_n (i := 0) (w := 0) rfl jd_11_39
theorem jk_11_40 : jx_Snd 11 40 (js_getf 0 3) := jo_getf rfl jf_0_35 jd_11_40
theorem jk_11_43 : jx_Snd 11 43 (js_v0 7 82) := jo_v0 rfl jok_82 (Or.inl jw_298) jw_131 jw_132 rfl jd_11_43
theorem jk_11_46 : jx_Snd 11 46 (js_il 1 1) := jo_iload_n (i := 1) (w := 1) rfl jd_11_46
theorem jk_11_47 : jx_Snd 11 47 (js_ir) := jo_ir rfl jd_11_47
theorem jk_11 : jx_So 11 jt_11 := fun pc => jo_le (jo_le (jo_le (jo_le (jo_le (jo_at (jk_11_0)) (jo_at (jk_11_1))) (jo_at (jk_11_4))) (jo_le (jo_le (jo_at (jk_11_5)) (jo_at (jk_11_6))) (jo_at (jk_11_9)))) (jo_le (jo_le (jo_le (jo_at (jk_11_10)) (jo_at (jk_11_13))) (jo_at (jk_11_16))) (jo_le (jo_le (jo_at (jk_11_17)) (jo_at (jk_11_20))) (jo_at (jk_11_23))))) (jo_le (jo_le (jo_le (jo_le (jo_at (jk_11_24)) (jo_at (jk_11_27))) (jo_at (jk_11_28))) (jo_le (jo_le (jo_at (jk_11_31)) (jo_at (jk_11_34))) (jo_at (jk_11_37)))) (jo_le (jo_le (jo_le (jo_at (jk_11_38)) (jo_at (jk_11_39))) (jo_at (jk_11_40))) (jo_le (jo_le (jo_at (jk_11_43)) (jo_at (jk_11_46))) (jo_at (jk_11_47)))))
theorem ji_11 {l : Launch} {D : va_G} {cA : ClassId} {ρ : Nat → Nat} {Λ : List jx_Lc} {d : Nat} {Q : Option Value → jx_St → Prop} {σ : jx_St} {z0 : Nat} (h : jt_11 0 Λ jx_tb0 (jx_rn Λ jx_tb0 jt_11 (fun k' as σ K => jx_C l D cA ρ Λ d k' as σ K) Q (jx_J l D cA ρ Λ (jx_A ρ Λ) jx_tb0 (d + 1) 11 Q) [] 400) (fun k' as σ K => jx_C l D cA ρ Λ d k' as σ K) Q 0 [(0, .ref z0)] [] σ) : jx_C l D cA ρ Λ (d + 1) 11 [.ref z0] σ Q := jx_in jk_11 400 [] rfl (Nat.le_of_ble_eq_true rfl) h
/-! ScriptLedger.block()I -/
theorem jd_12_0 : decode prog_1_method_13_code 0 = .ok (.aload_n 0, 1) := by decide +kernel
theorem jd_12_1 : decode prog_1_method_13_code 1 = .ok (.getfield 28, 3) := by decide +kernel
theorem jd_12_4 : decode prog_1_method_13_code 4 = .ok (.getfield 144, 3) := by decide +kernel
theorem jd_12_7 : decode prog_1_method_13_code 7 = .ok (.bipush 40, 2) := by decide +kernel
theorem jd_12_9 : decode prog_1_method_13_code 9 = .ok (.if_icmp .lt 5, 3) := by decide +kernel
theorem jd_12_12 : decode prog_1_method_13_code 12 = .ok (.iconst (-1), 1) := by decide +kernel
theorem jd_12_13 : decode prog_1_method_13_code 13 = .ok (.ireturn, 1) := by decide +kernel
theorem jd_12_14 : decode prog_1_method_13_code 14 = .ok (.aload_n 0, 1) := by decide +kernel
theorem jd_12_15 : decode prog_1_method_13_code 15 = .ok (.getfield 28, 3) := by decide +kernel
theorem jd_12_18 : decode prog_1_method_13_code 18 = .ok (.invokevirtual 147, 3) := by decide +kernel
theorem jd_12_21 : decode prog_1_method_13_code 21 = .ok (.aload_n 0, 1) := by decide +kernel
theorem jd_12_22 : decode prog_1_method_13_code 22 = .ok (.getfield 28, 3) := by decide +kernel
theorem jd_12_25 : decode prog_1_method_13_code 25 = .ok (.getfield 144, 3) := by decide +kernel
theorem jd_12_28 : decode prog_1_method_13_code 28 = .ok (.ireturn, 1) := by decide +kernel
def jt_12 (pc : Nat) : jx_Sp := bif Nat.ble pc 13 then (bif Nat.ble pc 7 then (bif Nat.ble pc 1 then (bif Nat.ble pc 0 then (bif Nat.beq pc 0 then js_al 0 1 else js_none) else (bif Nat.beq pc 1 then js_getf 0 2 else js_none)) else (bif Nat.ble pc 4 then (bif Nat.beq pc 4 then js_getf 5 5 else js_none) else (bif Nat.beq pc 7 then js_c 40 2 else js_none))) else (bif Nat.ble pc 12 then (bif Nat.ble pc 9 then (bif Nat.beq pc 9 then js_clt 14 else js_none) else (bif Nat.beq pc 12 then js_c (-1) 1 else js_none)) else (bif Nat.beq pc 13 then js_ir else js_none))) else (bif Nat.ble pc 21 then (bif Nat.ble pc 15 then (bif Nat.ble pc 14 then (bif Nat.beq pc 14 then js_al 0 1 else js_none) else (bif Nat.beq pc 15 then js_getf 0 2 else js_none)) else (bif Nat.ble pc 18 then (bif Nat.beq pc 18 then js_v0 5 74 else js_none) else (bif Nat.beq pc 21 then js_al 0 1 else js_none))) else (bif Nat.ble pc 25 then (bif Nat.ble pc 22 then (bif Nat.beq pc 22 then js_getf 0 2 else js_none) else (bif Nat.beq pc 25 then js_getf 5 5 else js_none)) else (bif Nat.beq pc 28 then js_ir else js_none)))
theorem jk_12_0 : jx_Snd 12 0 (js_al 0 1) := jo_aload_n (i := 0) (w := 0) rfl jd_12_0
theorem jk_12_1 : jx_Snd 12 1 (js_getf 0 2) := jo_getf rfl jf_0_28 jd_12_1
theorem jk_12_4 : jx_Snd 12 4 (js_getf 5 5) := jo_getf rfl jf_0_144 jd_12_4
theorem jk_12_7 : jx_Snd 12 7 (js_c 40 2) := jo_bipush (z := 40) jd_12_7 (by decide +kernel)
theorem jk_12_9 : jx_Snd 12 9 (js_clt 14) := jo_clt (o := 5) rfl jd_12_9
theorem jk_12_12 : jx_Snd 12 12 (js_c (-1) 1) := jo_iconst (z := (-1)) jd_12_12 rfl
theorem jk_12_13 : jx_Snd 12 13 (js_ir) := jo_ir rfl jd_12_13
theorem jk_12_14 : jx_Snd 12 14 (js_al 0 1) := jo_aload_n (i := 0) (w := 0) rfl jd_12_14
theorem jk_12_15 : jx_Snd 12 15 (js_getf 0 2) := jo_getf rfl jf_0_28 jd_12_15
theorem jk_12_18 : jx_Snd 12 18 (js_v0 5 74) := jo_v0 rfl jok_74 (Or.inl jw_419) jw_420 jw_421 rfl jd_12_18
theorem jk_12_21 : jx_Snd 12 21 (js_al 0 1) := jo_aload_n (i := 0) (w := 0) rfl jd_12_21
theorem jk_12_22 : jx_Snd 12 22 (js_getf 0 2) := jo_getf rfl jf_0_28 jd_12_22
theorem jk_12_25 : jx_Snd 12 25 (js_getf 5 5) := jo_getf rfl jf_0_144 jd_12_25
theorem jk_12_28 : jx_Snd 12 28 (js_ir) := jo_ir rfl jd_12_28
theorem jk_12 : jx_So 12 jt_12 := fun pc => jo_le (jo_le (jo_le (jo_le (jo_at (jk_12_0)) (jo_at (jk_12_1))) (jo_le (jo_at (jk_12_4)) (jo_at (jk_12_7)))) (jo_le (jo_le (jo_at (jk_12_9)) (jo_at (jk_12_12))) (jo_at (jk_12_13)))) (jo_le (jo_le (jo_le (jo_at (jk_12_14)) (jo_at (jk_12_15))) (jo_le (jo_at (jk_12_18)) (jo_at (jk_12_21)))) (jo_le (jo_le (jo_at (jk_12_22)) (jo_at (jk_12_25))) (jo_at (jk_12_28))))
theorem ji_12 {l : Launch} {D : va_G} {cA : ClassId} {ρ : Nat → Nat} {Λ : List jx_Lc} {d : Nat} {Q : Option Value → jx_St → Prop} {σ : jx_St} {z0 : Nat} (h : jt_12 0 Λ jx_tb0 (jx_rn Λ jx_tb0 jt_12 (fun k' as σ K => jx_C l D cA ρ Λ d k' as σ K) Q (jx_J l D cA ρ Λ (jx_A ρ Λ) jx_tb0 (d + 1) 12 Q) [] 400) (fun k' as σ K => jx_C l D cA ρ Λ d k' as σ K) Q 0 [(0, .ref z0)] [] σ) : jx_C l D cA ρ Λ (d + 1) 12 [.ref z0] σ Q := jx_in jk_12 400 [] rfl (Nat.le_of_ble_eq_true rfl) h
/-! ScriptLedger.rollback(I)I -/
theorem jd_13_0 : decode prog_1_method_14_code 0 = .ok (.iload_n 1, 1) := by decide +kernel
theorem jd_13_1 : decode prog_1_method_14_code 1 = .ok (.ifCond .lt 19, 3) := by decide +kernel
theorem jd_13_4 : decode prog_1_method_14_code 4 = .ok (.iload_n 1, 1) := by decide +kernel
theorem jd_13_5 : decode prog_1_method_14_code 5 = .ok (.iconst 4, 1) := by decide +kernel
theorem jd_13_6 : decode prog_1_method_14_code 6 = .ok (.if_icmp .gt 14, 3) := by decide +kernel
theorem jd_13_9 : decode prog_1_method_14_code 9 = .ok (.iload_n 1, 1) := by decide +kernel
theorem jd_13_10 : decode prog_1_method_14_code 10 = .ok (.aload_n 0, 1) := by decide +kernel
theorem jd_13_11 : decode prog_1_method_14_code 11 = .ok (.getfield 28, 3) := by decide +kernel
theorem jd_13_14 : decode prog_1_method_14_code 14 = .ok (.getfield 144, 3) := by decide +kernel
theorem jd_13_17 : decode prog_1_method_14_code 17 = .ok (.if_icmp .le 5, 3) := by decide +kernel
theorem jd_13_20 : decode prog_1_method_14_code 20 = .ok (.iconst (-1), 1) := by decide +kernel
theorem jd_13_21 : decode prog_1_method_14_code 21 = .ok (.ireturn, 1) := by decide +kernel
theorem jd_13_22 : decode prog_1_method_14_code 22 = .ok (.aload_n 0, 1) := by decide +kernel
theorem jd_13_23 : decode prog_1_method_14_code 23 = .ok (.getfield 28, 3) := by decide +kernel
theorem jd_13_26 : decode prog_1_method_14_code 26 = .ok (.aload_n 0, 1) := by decide +kernel
theorem jd_13_27 : decode prog_1_method_14_code 27 = .ok (.getfield 28, 3) := by decide +kernel
theorem jd_13_30 : decode prog_1_method_14_code 30 = .ok (.getfield 144, 3) := by decide +kernel
theorem jd_13_33 : decode prog_1_method_14_code 33 = .ok (.iload_n 1, 1) := by decide +kernel
theorem jd_13_34 : decode prog_1_method_14_code 34 = .ok (.isub, 1) := by decide +kernel
theorem jd_13_35 : decode prog_1_method_14_code 35 = .ok (.invokevirtual 150, 3) := by decide +kernel
theorem jd_13_38 : decode prog_1_method_14_code 38 = .ok (.aload_n 0, 1) := by decide +kernel
theorem jd_13_39 : decode prog_1_method_14_code 39 = .ok (.getfield 28, 3) := by decide +kernel
theorem jd_13_42 : decode prog_1_method_14_code 42 = .ok (.getfield 153, 3) := by decide +kernel
theorem jd_13_45 : decode prog_1_method_14_code 45 = .ok (.getfield 156, 3) := by decide +kernel
theorem jd_13_48 : decode prog_1_method_14_code 48 = .ok (.ireturn, 1) := by decide +kernel
def jt_13 (pc : Nat) : jx_Sp := bif Nat.ble pc 22 then (bif Nat.ble pc 10 then (bif Nat.ble pc 5 then (bif Nat.ble pc 1 then (bif Nat.ble pc 0 then (bif Nat.beq pc 0 then js_il 1 1 else js_none) else (bif Nat.beq pc 1 then js_iflt 20 else js_none)) else (bif Nat.ble pc 4 then (bif Nat.beq pc 4 then js_il 1 1 else js_none) else (bif Nat.beq pc 5 then js_c 4 1 else js_none))) else (bif Nat.ble pc 9 then (bif Nat.ble pc 6 then (bif Nat.beq pc 6 then js_cgt 20 else js_none) else (bif Nat.beq pc 9 then js_il 1 1 else js_none)) else (bif Nat.beq pc 10 then js_al 0 1 else js_none))) else (bif Nat.ble pc 17 then (bif Nat.ble pc 14 then (bif Nat.ble pc 11 then (bif Nat.beq pc 11 then js_getf 0 2 else js_none) else (bif Nat.beq pc 14 then js_getf 5 5 else js_none)) else (bif Nat.beq pc 17 then js_cle 22 else js_none)) else (bif Nat.ble pc 21 then (bif Nat.ble pc 20 then (bif Nat.beq pc 20 then js_c (-1) 1 else js_none) else (bif Nat.beq pc 21 then js_ir else js_none)) else (bif Nat.beq pc 22 then js_al 0 1 else js_none)))) else (bif Nat.ble pc 34 then (bif Nat.ble pc 27 then (bif Nat.ble pc 26 then (bif Nat.ble pc 23 then (bif Nat.beq pc 23 then js_getf 0 2 else js_none) else (bif Nat.beq pc 26 then js_al 0 1 else js_none)) else (bif Nat.beq pc 27 then js_getf 0 2 else js_none)) else (bif Nat.ble pc 33 then (bif Nat.ble pc 30 then (bif Nat.beq pc 30 then js_getf 5 5 else js_none) else (bif Nat.beq pc 33 then js_il 1 1 else js_none)) else (bif Nat.beq pc 34 then js_isub else js_none))) else (bif Nat.ble pc 39 then (bif Nat.ble pc 38 then (bif Nat.ble pc 35 then (bif Nat.beq pc 35 then js_v1 5 75 else js_none) else (bif Nat.beq pc 38 then js_al 0 1 else js_none)) else (bif Nat.beq pc 39 then js_getf 0 2 else js_none)) else (bif Nat.ble pc 45 then (bif Nat.ble pc 42 then (bif Nat.beq pc 42 then js_getf 5 0 else js_none) else (bif Nat.beq pc 45 then js_getf 6 3 else js_none)) else (bif Nat.beq pc 48 then js_ir else js_none))))
theorem jk_13_0 : jx_Snd 13 0 (js_il 1 1) := jo_iload_n (i := 1) (w := 1) rfl jd_13_0
theorem jk_13_1 : jx_Snd 13 1 (js_iflt 20) := jo_iflt (o := 19) rfl jd_13_1
theorem jk_13_4 : jx_Snd 13 4 (js_il 1 1) := jo_iload_n (i := 1) (w := 1) rfl jd_13_4
theorem jk_13_5 : jx_Snd 13 5 (js_c 4 1) := jo_iconst (z := 4) jd_13_5 rfl
theorem jk_13_6 : jx_Snd 13 6 (js_cgt 20) := jo_cgt (o := 14) rfl jd_13_6
theorem jk_13_9 : jx_Snd 13 9 (js_il 1 1) := jo_iload_n (i := 1) (w := 1) rfl jd_13_9
theorem jk_13_10 : jx_Snd 13 10 (js_al 0 1) := jo_aload_n (i := 0) (w := 0) rfl jd_13_10
theorem jk_13_11 : jx_Snd 13 11 (js_getf 0 2) := jo_getf rfl jf_0_28 jd_13_11
theorem jk_13_14 : jx_Snd 13 14 (js_getf 5 5) := jo_getf rfl jf_0_144 jd_13_14
theorem jk_13_17 : jx_Snd 13 17 (js_cle 22) := jo_cle (o := 5) rfl jd_13_17
theorem jk_13_20 : jx_Snd 13 20 (js_c (-1) 1) := jo_iconst (z := (-1)) jd_13_20 rfl
theorem jk_13_21 : jx_Snd 13 21 (js_ir) := jo_ir rfl jd_13_21
theorem jk_13_22 : jx_Snd 13 22 (js_al 0 1) := jo_aload_n (i := 0) (w := 0) rfl jd_13_22
theorem jk_13_23 : jx_Snd 13 23 (js_getf 0 2) := jo_getf rfl jf_0_28 jd_13_23
theorem jk_13_26 : jx_Snd 13 26 (js_al 0 1) := jo_aload_n (i := 0) (w := 0) rfl jd_13_26
theorem jk_13_27 : jx_Snd 13 27 (js_getf 0 2) := jo_getf rfl jf_0_28 jd_13_27
theorem jk_13_30 : jx_Snd 13 30 (js_getf 5 5) := jo_getf rfl jf_0_144 jd_13_30
theorem jk_13_33 : jx_Snd 13 33 (js_il 1 1) := jo_iload_n (i := 1) (w := 1) rfl jd_13_33
theorem jk_13_34 : jx_Snd 13 34 (js_isub) := jo_isub jd_13_34
theorem jk_13_35 : jx_Snd 13 35 (js_v1 5 75) := jo_v1 rfl jok_75 (Or.inl jw_427) jw_428 jw_429 rfl jd_13_35
theorem jk_13_38 : jx_Snd 13 38 (js_al 0 1) := jo_aload_n (i := 0) (w := 0) rfl jd_13_38
theorem jk_13_39 : jx_Snd 13 39 (js_getf 0 2) := jo_getf rfl jf_0_28 jd_13_39
theorem jk_13_42 : jx_Snd 13 42 (js_getf 5 0) := jo_getf rfl jf_0_153 jd_13_42
theorem jk_13_45 : jx_Snd 13 45 (js_getf 6 3) := jo_getf rfl jf_0_156 jd_13_45
theorem jk_13_48 : jx_Snd 13 48 (js_ir) := jo_ir rfl jd_13_48
theorem jk_13 : jx_So 13 jt_13 := fun pc => jo_le (jo_le (jo_le (jo_le (jo_le (jo_at (jk_13_0)) (jo_at (jk_13_1))) (jo_le (jo_at (jk_13_4)) (jo_at (jk_13_5)))) (jo_le (jo_le (jo_at (jk_13_6)) (jo_at (jk_13_9))) (jo_at (jk_13_10)))) (jo_le (jo_le (jo_le (jo_at (jk_13_11)) (jo_at (jk_13_14))) (jo_at (jk_13_17))) (jo_le (jo_le (jo_at (jk_13_20)) (jo_at (jk_13_21))) (jo_at (jk_13_22))))) (jo_le (jo_le (jo_le (jo_le (jo_at (jk_13_23)) (jo_at (jk_13_26))) (jo_at (jk_13_27))) (jo_le (jo_le (jo_at (jk_13_30)) (jo_at (jk_13_33))) (jo_at (jk_13_34)))) (jo_le (jo_le (jo_le (jo_at (jk_13_35)) (jo_at (jk_13_38))) (jo_at (jk_13_39))) (jo_le (jo_le (jo_at (jk_13_42)) (jo_at (jk_13_45))) (jo_at (jk_13_48)))))
theorem ji_13 {l : Launch} {D : va_G} {cA : ClassId} {ρ : Nat → Nat} {Λ : List jx_Lc} {d : Nat} {Q : Option Value → jx_St → Prop} {σ : jx_St} {z0 : Nat} {a1 : Int32} (h : jt_13 0 Λ jx_tb0 (jx_rn Λ jx_tb0 jt_13 (fun k' as σ K => jx_C l D cA ρ Λ d k' as σ K) Q (jx_J l D cA ρ Λ (jx_A ρ Λ) jx_tb0 (d + 1) 13 Q) [] 400) (fun k' as σ K => jx_C l D cA ρ Λ d k' as σ K) Q 0 [(0, .ref z0), (1, .int a1)] [] σ) : jx_C l D cA ρ Λ (d + 1) 13 [.ref z0, .int a1] σ Q := jx_in jk_13 400 [] rfl (Nat.le_of_ble_eq_true rfl) h
/-! ScriptLedger.outputs()I -/
theorem jd_14_0 : decode prog_1_method_15_code 0 = .ok (.aload_n 0, 1) := by decide +kernel
theorem jd_14_1 : decode prog_1_method_15_code 1 = .ok (.getfield 28, 3) := by decide +kernel
theorem jd_14_4 : decode prog_1_method_15_code 4 = .ok (.getfield 153, 3) := by decide +kernel
theorem jd_14_7 : decode prog_1_method_15_code 7 = .ok (.getfield 156, 3) := by decide +kernel
theorem jd_14_10 : decode prog_1_method_15_code 10 = .ok (.ireturn, 1) := by decide +kernel
def jt_14 (pc : Nat) : jx_Sp := bif Nat.ble pc 4 then (bif Nat.ble pc 1 then (bif Nat.ble pc 0 then (bif Nat.beq pc 0 then js_al 0 1 else js_none) else (bif Nat.beq pc 1 then js_getf 0 2 else js_none)) else (bif Nat.beq pc 4 then js_getf 5 0 else js_none)) else (bif Nat.ble pc 7 then (bif Nat.beq pc 7 then js_getf 6 3 else js_none) else (bif Nat.beq pc 10 then js_ir else js_none))
theorem jk_14_0 : jx_Snd 14 0 (js_al 0 1) := jo_aload_n (i := 0) (w := 0) rfl jd_14_0
theorem jk_14_1 : jx_Snd 14 1 (js_getf 0 2) := jo_getf rfl jf_0_28 jd_14_1
theorem jk_14_4 : jx_Snd 14 4 (js_getf 5 0) := jo_getf rfl jf_0_153 jd_14_4
theorem jk_14_7 : jx_Snd 14 7 (js_getf 6 3) := jo_getf rfl jf_0_156 jd_14_7
theorem jk_14_10 : jx_Snd 14 10 (js_ir) := jo_ir rfl jd_14_10
theorem jk_14 : jx_So 14 jt_14 := fun pc => jo_le (jo_le (jo_le (jo_at (jk_14_0)) (jo_at (jk_14_1))) (jo_at (jk_14_4))) (jo_le (jo_at (jk_14_7)) (jo_at (jk_14_10)))
theorem ji_14 {l : Launch} {D : va_G} {cA : ClassId} {ρ : Nat → Nat} {Λ : List jx_Lc} {d : Nat} {Q : Option Value → jx_St → Prop} {σ : jx_St} {z0 : Nat} (h : jt_14 0 Λ jx_tb0 (jx_rn Λ jx_tb0 jt_14 (fun k' as σ K => jx_C l D cA ρ Λ d k' as σ K) Q (jx_J l D cA ρ Λ (jx_A ρ Λ) jx_tb0 (d + 1) 14 Q) [] 400) (fun k' as σ K => jx_C l D cA ρ Λ d k' as σ K) Q 0 [(0, .ref z0)] [] σ) : jx_C l D cA ρ Λ (d + 1) 14 [.ref z0] σ Q := jx_in jk_14 400 [] rfl (Nat.le_of_ble_eq_true rfl) h
/-! ScriptLedger.about(II)I -/
theorem jd_15_0 : decode prog_1_method_16_code 0 = .ok (.aload_n 0, 1) := by decide +kernel
theorem jd_15_1 : decode prog_1_method_16_code 1 = .ok (.getfield 28, 3) := by decide +kernel
theorem jd_15_4 : decode prog_1_method_16_code 4 = .ok (.iload_n 1, 1) := by decide +kernel
theorem jd_15_5 : decode prog_1_method_16_code 5 = .ok (.invokevirtual 157, 3) := by decide +kernel
theorem jd_15_8 : decode prog_1_method_16_code 8 = .ok (.ifCond .ne 5, 3) := by decide +kernel
theorem jd_15_11 : decode prog_1_method_16_code 11 = .ok (.iconst (-1), 1) := by decide +kernel
theorem jd_15_12 : decode prog_1_method_16_code 12 = .ok (.ireturn, 1) := by decide +kernel
theorem jd_15_13 : decode prog_1_method_16_code 13 = .ok (.iload_n 2, 1) := by decide +kernel
theorem jd_15_14 : decode prog_1_method_16_code 14 = .ok (.tableswitch 94 0 5 #[38, 38, 38, 51, 64, 77], 38) := by decide +kernel
theorem jd_15_52 : decode prog_1_method_16_code 52 = .ok (.aload_n 0, 1) := by decide +kernel
theorem jd_15_53 : decode prog_1_method_16_code 53 = .ok (.getfield 28, 3) := by decide +kernel
theorem jd_15_56 : decode prog_1_method_16_code 56 = .ok (.getfield 153, 3) := by decide +kernel
theorem jd_15_59 : decode prog_1_method_16_code 59 = .ok (.iload_n 1, 1) := by decide +kernel
theorem jd_15_60 : decode prog_1_method_16_code 60 = .ok (.iload_n 2, 1) := by decide +kernel
theorem jd_15_61 : decode prog_1_method_16_code 61 = .ok (.invokevirtual 158, 3) := by decide +kernel
theorem jd_15_64 : decode prog_1_method_16_code 64 = .ok (.ireturn, 1) := by decide +kernel
theorem jd_15_65 : decode prog_1_method_16_code 65 = .ok (.aload_n 0, 1) := by decide +kernel
theorem jd_15_66 : decode prog_1_method_16_code 66 = .ok (.getfield 28, 3) := by decide +kernel
theorem jd_15_69 : decode prog_1_method_16_code 69 = .ok (.getfield 153, 3) := by decide +kernel
theorem jd_15_72 : decode prog_1_method_16_code 72 = .ok (.getfield 162, 3) := by decide +kernel
theorem jd_15_75 : decode prog_1_method_16_code 75 = .ok (.iload_n 1, 1) := by decide +kernel
theorem jd_15_76 : decode prog_1_method_16_code 76 = .ok (.iaload, 1) := by decide +kernel
theorem jd_15_77 : decode prog_1_method_16_code 77 = .ok (.ireturn, 1) := by decide +kernel
theorem jd_15_78 : decode prog_1_method_16_code 78 = .ok (.aload_n 0, 1) := by decide +kernel
theorem jd_15_79 : decode prog_1_method_16_code 79 = .ok (.getfield 28, 3) := by decide +kernel
theorem jd_15_82 : decode prog_1_method_16_code 82 = .ok (.getfield 153, 3) := by decide +kernel
theorem jd_15_85 : decode prog_1_method_16_code 85 = .ok (.getfield 165, 3) := by decide +kernel
theorem jd_15_88 : decode prog_1_method_16_code 88 = .ok (.iload_n 1, 1) := by decide +kernel
theorem jd_15_89 : decode prog_1_method_16_code 89 = .ok (.iaload, 1) := by decide +kernel
theorem jd_15_90 : decode prog_1_method_16_code 90 = .ok (.ireturn, 1) := by decide +kernel
theorem jd_15_91 : decode prog_1_method_16_code 91 = .ok (.aload_n 0, 1) := by decide +kernel
theorem jd_15_92 : decode prog_1_method_16_code 92 = .ok (.getfield 28, 3) := by decide +kernel
theorem jd_15_95 : decode prog_1_method_16_code 95 = .ok (.iload_n 1, 1) := by decide +kernel
theorem jd_15_96 : decode prog_1_method_16_code 96 = .ok (.invokevirtual 168, 3) := by decide +kernel
theorem jd_15_99 : decode prog_1_method_16_code 99 = .ok (.ifCond .eq 7, 3) := by decide +kernel
theorem jd_15_102 : decode prog_1_method_16_code 102 = .ok (.iconst 0, 1) := by decide +kernel
theorem jd_15_103 : decode prog_1_method_16_code 103 = .ok (.goto 4, 3) := by decide +kernel
theorem jd_15_106 : decode prog_1_method_16_code 106 = .ok (.iconst 1, 1) := by decide +kernel
theorem jd_15_107 : decode prog_1_method_16_code 107 = .ok (.ireturn, 1) := by decide +kernel
theorem jd_15_108 : decode prog_1_method_16_code 108 = .ok (.iconst (-1), 1) := by decide +kernel
theorem jd_15_109 : decode prog_1_method_16_code 109 = .ok (.ireturn, 1) := by decide +kernel
def jt_15 (pc : Nat) : jx_Sp := bif Nat.ble pc 75 then (bif Nat.ble pc 53 then (bif Nat.ble pc 11 then (bif Nat.ble pc 4 then (bif Nat.ble pc 1 then (bif Nat.ble pc 0 then (bif Nat.beq pc 0 then js_al 0 1 else js_none) else (bif Nat.beq pc 1 then js_getf 0 2 else js_none)) else (bif Nat.beq pc 4 then js_il 1 1 else js_none)) else (bif Nat.ble pc 8 then (bif Nat.ble pc 5 then (bif Nat.beq pc 5 then js_v1 5 68 else js_none) else (bif Nat.beq pc 8 then js_ifne 13 else js_none)) else (bif Nat.beq pc 11 then js_c (-1) 1 else js_none))) else (bif Nat.ble pc 14 then (bif Nat.ble pc 13 then (bif Nat.ble pc 12 then (bif Nat.beq pc 12 then js_ir else js_none) else (bif Nat.beq pc 13 then js_il 2 1 else js_none)) else (bif Nat.beq pc 14 then js_sw [(0, 52), (1, 52), (2, 52), (3, 65), (4, 78), (5, 91)] 108 else js_none)) else (bif Nat.ble pc 52 then (bif Nat.beq pc 52 then js_al 0 1 else js_none) else (bif Nat.beq pc 53 then js_getf 0 2 else js_none)))) else (bif Nat.ble pc 64 then (bif Nat.ble pc 60 then (bif Nat.ble pc 59 then (bif Nat.ble pc 56 then (bif Nat.beq pc 56 then js_getf 5 0 else js_none) else (bif Nat.beq pc 59 then js_il 1 1 else js_none)) else (bif Nat.beq pc 60 then js_il 2 1 else js_none)) else (bif Nat.ble pc 61 then (bif Nat.beq pc 61 then js_v2 6 79 else js_none) else (bif Nat.beq pc 64 then js_ir else js_none))) else (bif Nat.ble pc 69 then (bif Nat.ble pc 66 then (bif Nat.ble pc 65 then (bif Nat.beq pc 65 then js_al 0 1 else js_none) else (bif Nat.beq pc 66 then js_getf 0 2 else js_none)) else (bif Nat.beq pc 69 then js_getf 5 0 else js_none)) else (bif Nat.ble pc 72 then (bif Nat.beq pc 72 then js_getf 6 0 else js_none) else (bif Nat.beq pc 75 then js_il 1 1 else js_none))))) else (bif Nat.ble pc 91 then (bif Nat.ble pc 82 then (bif Nat.ble pc 78 then (bif Nat.ble pc 77 then (bif Nat.ble pc 76 then (bif Nat.beq pc 76 then js_ald else js_none) else (bif Nat.beq pc 77 then js_ir else js_none)) else (bif Nat.beq pc 78 then js_al 0 1 else js_none)) else (bif Nat.ble pc 79 then (bif Nat.beq pc 79 then js_getf 0 2 else js_none) else (bif Nat.beq pc 82 then js_getf 5 0 else js_none))) else (bif Nat.ble pc 89 then (bif Nat.ble pc 88 then (bif Nat.ble pc 85 then (bif Nat.beq pc 85 then js_getf 6 1 else js_none) else (bif Nat.beq pc 88 then js_il 1 1 else js_none)) else (bif Nat.beq pc 89 then js_ald else js_none)) else (bif Nat.ble pc 90 then (bif Nat.beq pc 90 then js_ir else js_none) else (bif Nat.beq pc 91 then js_al 0 1 else js_none)))) else (bif Nat.ble pc 102 then (bif Nat.ble pc 96 then (bif Nat.ble pc 95 then (bif Nat.ble pc 92 then (bif Nat.beq pc 92 then js_getf 0 2 else js_none) else (bif Nat.beq pc 95 then js_il 1 1 else js_none)) else (bif Nat.beq pc 96 then js_v1 5 69 else js_none)) else (bif Nat.ble pc 99 then (bif Nat.beq pc 99 then js_ifeq 106 else js_none) else (bif Nat.beq pc 102 then js_c 0 1 else js_none))) else (bif Nat.ble pc 107 then (bif Nat.ble pc 106 then (bif Nat.ble pc 103 then (bif Nat.beq pc 103 then js_go 107 else js_none) else (bif Nat.beq pc 106 then js_c 1 1 else js_none)) else (bif Nat.beq pc 107 then js_ir else js_none)) else (bif Nat.ble pc 108 then (bif Nat.beq pc 108 then js_c (-1) 1 else js_none) else (bif Nat.beq pc 109 then js_ir else js_none)))))
theorem jk_15_0 : jx_Snd 15 0 (js_al 0 1) := jo_aload_n (i := 0) (w := 0) rfl jd_15_0
theorem jk_15_1 : jx_Snd 15 1 (js_getf 0 2) := jo_getf rfl jf_0_28 jd_15_1
theorem jk_15_4 : jx_Snd 15 4 (js_il 1 1) := jo_iload_n (i := 1) (w := 1) rfl jd_15_4
theorem jk_15_5 : jx_Snd 15 5 (js_v1 5 68) := jo_v1 rfl jok_68 (Or.inl jw_439) jw_350 jw_351 rfl jd_15_5
theorem jk_15_8 : jx_Snd 15 8 (js_ifne 13) := jo_ifne (o := 5) rfl jd_15_8
theorem jk_15_11 : jx_Snd 15 11 (js_c (-1) 1) := jo_iconst (z := (-1)) jd_15_11 rfl
theorem jk_15_12 : jx_Snd 15 12 (js_ir) := jo_ir rfl jd_15_12
theorem jk_15_13 : jx_Snd 15 13 (js_il 2 1) := jo_iload_n (i := 2) (w := 2) rfl jd_15_13
theorem jk_15_14 : jx_Snd 15 14 (js_sw [(0, 52), (1, 52), (2, 52), (3, 65), (4, 78), (5, 91)] 108) := jo_tableD (dflt := 94) (lo := 0) (hi := 5) (offs := #[38, 38, 38, 51, 64, 77]) rfl rfl (by decide +kernel) jd_15_14
theorem jk_15_52 : jx_Snd 15 52 (js_al 0 1) := jo_aload_n (i := 0) (w := 0) rfl jd_15_52
theorem jk_15_53 : jx_Snd 15 53 (js_getf 0 2) := jo_getf rfl jf_0_28 jd_15_53
theorem jk_15_56 : jx_Snd 15 56 (js_getf 5 0) := jo_getf rfl jf_0_153 jd_15_56
theorem jk_15_59 : jx_Snd 15 59 (js_il 1 1) := jo_iload_n (i := 1) (w := 1) rfl jd_15_59
theorem jk_15_60 : jx_Snd 15 60 (js_il 2 1) := jo_iload_n (i := 2) (w := 2) rfl jd_15_60
theorem jk_15_61 : jx_Snd 15 61 (js_v2 6 79) := jo_v2 rfl jok_79 (Or.inl jw_363) jw_364 jw_365 rfl jd_15_61
theorem jk_15_64 : jx_Snd 15 64 (js_ir) := jo_ir rfl jd_15_64
theorem jk_15_65 : jx_Snd 15 65 (js_al 0 1) := jo_aload_n (i := 0) (w := 0) rfl jd_15_65
theorem jk_15_66 : jx_Snd 15 66 (js_getf 0 2) := jo_getf rfl jf_0_28 jd_15_66
theorem jk_15_69 : jx_Snd 15 69 (js_getf 5 0) := jo_getf rfl jf_0_153 jd_15_69
theorem jk_15_72 : jx_Snd 15 72 (js_getf 6 0) := jo_getf rfl jf_0_162 jd_15_72
theorem jk_15_75 : jx_Snd 15 75 (js_il 1 1) := jo_iload_n (i := 1) (w := 1) rfl jd_15_75
theorem jk_15_76 : jx_Snd 15 76 (js_ald) := jo_ald jd_15_76
theorem jk_15_77 : jx_Snd 15 77 (js_ir) := jo_ir rfl jd_15_77
theorem jk_15_78 : jx_Snd 15 78 (js_al 0 1) := jo_aload_n (i := 0) (w := 0) rfl jd_15_78
theorem jk_15_79 : jx_Snd 15 79 (js_getf 0 2) := jo_getf rfl jf_0_28 jd_15_79
theorem jk_15_82 : jx_Snd 15 82 (js_getf 5 0) := jo_getf rfl jf_0_153 jd_15_82
theorem jk_15_85 : jx_Snd 15 85 (js_getf 6 1) := jo_getf rfl jf_0_165 jd_15_85
theorem jk_15_88 : jx_Snd 15 88 (js_il 1 1) := jo_iload_n (i := 1) (w := 1) rfl jd_15_88
theorem jk_15_89 : jx_Snd 15 89 (js_ald) := jo_ald jd_15_89
theorem jk_15_90 : jx_Snd 15 90 (js_ir) := jo_ir rfl jd_15_90
theorem jk_15_91 : jx_Snd 15 91 (js_al 0 1) := jo_aload_n (i := 0) (w := 0) rfl jd_15_91
theorem jk_15_92 : jx_Snd 15 92 (js_getf 0 2) := jo_getf rfl jf_0_28 jd_15_92
theorem jk_15_95 : jx_Snd 15 95 (js_il 1 1) := jo_iload_n (i := 1) (w := 1) rfl jd_15_95
theorem jk_15_96 : jx_Snd 15 96 (js_v1 5 69) := jo_v1 rfl jok_69 (Or.inl jw_345) jw_346 jw_347 rfl jd_15_96
theorem jk_15_99 : jx_Snd 15 99 (js_ifeq 106) := jo_ifeq (o := 7) rfl jd_15_99
theorem jk_15_102 : jx_Snd 15 102 (js_c 0 1) := jo_iconst (z := 0) jd_15_102 rfl
theorem jk_15_103 : jx_Snd 15 103 (js_go 107) := jo_goto (o := 4) rfl jd_15_103
theorem jk_15_106 : jx_Snd 15 106 (js_c 1 1) := jo_iconst (z := 1) jd_15_106 rfl
theorem jk_15_107 : jx_Snd 15 107 (js_ir) := jo_ir rfl jd_15_107
theorem jk_15_108 : jx_Snd 15 108 (js_c (-1) 1) := jo_iconst (z := (-1)) jd_15_108 rfl
theorem jk_15_109 : jx_Snd 15 109 (js_ir) := jo_ir rfl jd_15_109
theorem jk_15 : jx_So 15 jt_15 := fun pc => jo_le (jo_le (jo_le (jo_le (jo_le (jo_le (jo_at (jk_15_0)) (jo_at (jk_15_1))) (jo_at (jk_15_4))) (jo_le (jo_le (jo_at (jk_15_5)) (jo_at (jk_15_8))) (jo_at (jk_15_11)))) (jo_le (jo_le (jo_le (jo_at (jk_15_12)) (jo_at (jk_15_13))) (jo_at (jk_15_14))) (jo_le (jo_at (jk_15_52)) (jo_at (jk_15_53))))) (jo_le (jo_le (jo_le (jo_le (jo_at (jk_15_56)) (jo_at (jk_15_59))) (jo_at (jk_15_60))) (jo_le (jo_at (jk_15_61)) (jo_at (jk_15_64)))) (jo_le (jo_le (jo_le (jo_at (jk_15_65)) (jo_at (jk_15_66))) (jo_at (jk_15_69))) (jo_le (jo_at (jk_15_72)) (jo_at (jk_15_75)))))) (jo_le (jo_le (jo_le (jo_le (jo_le (jo_at (jk_15_76)) (jo_at (jk_15_77))) (jo_at (jk_15_78))) (jo_le (jo_at (jk_15_79)) (jo_at (jk_15_82)))) (jo_le (jo_le (jo_le (jo_at (jk_15_85)) (jo_at (jk_15_88))) (jo_at (jk_15_89))) (jo_le (jo_at (jk_15_90)) (jo_at (jk_15_91))))) (jo_le (jo_le (jo_le (jo_le (jo_at (jk_15_92)) (jo_at (jk_15_95))) (jo_at (jk_15_96))) (jo_le (jo_at (jk_15_99)) (jo_at (jk_15_102)))) (jo_le (jo_le (jo_le (jo_at (jk_15_103)) (jo_at (jk_15_106))) (jo_at (jk_15_107))) (jo_le (jo_at (jk_15_108)) (jo_at (jk_15_109))))))
theorem ji_15 {l : Launch} {D : va_G} {cA : ClassId} {ρ : Nat → Nat} {Λ : List jx_Lc} {d : Nat} {Q : Option Value → jx_St → Prop} {σ : jx_St} {z0 : Nat} {a1 : Int32} {a2 : Int32} (h : jt_15 0 Λ jx_tb0 (jx_rn Λ jx_tb0 jt_15 (fun k' as σ K => jx_C l D cA ρ Λ d k' as σ K) Q (jx_J l D cA ρ Λ (jx_A ρ Λ) jx_tb0 (d + 1) 15 Q) [] 400) (fun k' as σ K => jx_C l D cA ρ Λ d k' as σ K) Q 0 [(0, .ref z0), (1, .int a1), (2, .int a2)] [] σ) : jx_C l D cA ρ Λ (d + 1) 15 [.ref z0, .int a1, .int a2] σ Q := jx_in jk_15 400 [] rfl (Nat.le_of_ble_eq_true rfl) h
/-! ScriptLedger.total(I)I -/
theorem jd_16_0 : decode prog_1_method_17_code 0 = .ok (.iload_n 1, 1) := by decide +kernel
theorem jd_16_1 : decode prog_1_method_17_code 1 = .ok (.ifCond .lt 8, 3) := by decide +kernel
theorem jd_16_4 : decode prog_1_method_17_code 4 = .ok (.iload_n 1, 1) := by decide +kernel
theorem jd_16_5 : decode prog_1_method_17_code 5 = .ok (.iconst 3, 1) := by decide +kernel
theorem jd_16_6 : decode prog_1_method_17_code 6 = .ok (.if_icmp .lt 5, 3) := by decide +kernel
theorem jd_16_9 : decode prog_1_method_17_code 9 = .ok (.iconst (-1), 1) := by decide +kernel
theorem jd_16_10 : decode prog_1_method_17_code 10 = .ok (.ireturn, 1) := by decide +kernel
theorem jd_16_11 : decode prog_1_method_17_code 11 = .ok (.aload_n 0, 1) := by decide +kernel
theorem jd_16_12 : decode prog_1_method_17_code 12 = .ok (.getfield 28, 3) := by decide +kernel
theorem jd_16_15 : decode prog_1_method_17_code 15 = .ok (.iload_n 1, 1) := by decide +kernel
theorem jd_16_16 : decode prog_1_method_17_code 16 = .ok (.invokevirtual 171, 3) := by decide +kernel
theorem jd_16_19 : decode prog_1_method_17_code 19 = .ok (.ireturn, 1) := by decide +kernel
def jt_16 (pc : Nat) : jx_Sp := bif Nat.ble pc 9 then (bif Nat.ble pc 4 then (bif Nat.ble pc 1 then (bif Nat.ble pc 0 then (bif Nat.beq pc 0 then js_il 1 1 else js_none) else (bif Nat.beq pc 1 then js_iflt 9 else js_none)) else (bif Nat.beq pc 4 then js_il 1 1 else js_none)) else (bif Nat.ble pc 6 then (bif Nat.ble pc 5 then (bif Nat.beq pc 5 then js_c 3 1 else js_none) else (bif Nat.beq pc 6 then js_clt 11 else js_none)) else (bif Nat.beq pc 9 then js_c (-1) 1 else js_none))) else (bif Nat.ble pc 12 then (bif Nat.ble pc 11 then (bif Nat.ble pc 10 then (bif Nat.beq pc 10 then js_ir else js_none) else (bif Nat.beq pc 11 then js_al 0 1 else js_none)) else (bif Nat.beq pc 12 then js_getf 0 2 else js_none)) else (bif Nat.ble pc 16 then (bif Nat.ble pc 15 then (bif Nat.beq pc 15 then js_il 1 1 else js_none) else (bif Nat.beq pc 16 then js_v1 5 73 else js_none)) else (bif Nat.beq pc 19 then js_ir else js_none)))
theorem jk_16_0 : jx_Snd 16 0 (js_il 1 1) := jo_iload_n (i := 1) (w := 1) rfl jd_16_0
theorem jk_16_1 : jx_Snd 16 1 (js_iflt 9) := jo_iflt (o := 8) rfl jd_16_1
theorem jk_16_4 : jx_Snd 16 4 (js_il 1 1) := jo_iload_n (i := 1) (w := 1) rfl jd_16_4
theorem jk_16_5 : jx_Snd 16 5 (js_c 3 1) := jo_iconst (z := 3) jd_16_5 rfl
theorem jk_16_6 : jx_Snd 16 6 (js_clt 11) := jo_clt (o := 5) rfl jd_16_6
theorem jk_16_9 : jx_Snd 16 9 (js_c (-1) 1) := jo_iconst (z := (-1)) jd_16_9 rfl
theorem jk_16_10 : jx_Snd 16 10 (js_ir) := jo_ir rfl jd_16_10
theorem jk_16_11 : jx_Snd 16 11 (js_al 0 1) := jo_aload_n (i := 0) (w := 0) rfl jd_16_11
theorem jk_16_12 : jx_Snd 16 12 (js_getf 0 2) := jo_getf rfl jf_0_28 jd_16_12
theorem jk_16_15 : jx_Snd 16 15 (js_il 1 1) := jo_iload_n (i := 1) (w := 1) rfl jd_16_15
theorem jk_16_16 : jx_Snd 16 16 (js_v1 5 73) := jo_v1 rfl jok_73 (Or.inl jw_444) jw_445 jw_446 rfl jd_16_16
theorem jk_16_19 : jx_Snd 16 19 (js_ir) := jo_ir rfl jd_16_19
theorem jk_16 : jx_So 16 jt_16 := fun pc => jo_le (jo_le (jo_le (jo_le (jo_at (jk_16_0)) (jo_at (jk_16_1))) (jo_at (jk_16_4))) (jo_le (jo_le (jo_at (jk_16_5)) (jo_at (jk_16_6))) (jo_at (jk_16_9)))) (jo_le (jo_le (jo_le (jo_at (jk_16_10)) (jo_at (jk_16_11))) (jo_at (jk_16_12))) (jo_le (jo_le (jo_at (jk_16_15)) (jo_at (jk_16_16))) (jo_at (jk_16_19))))
theorem ji_16 {l : Launch} {D : va_G} {cA : ClassId} {ρ : Nat → Nat} {Λ : List jx_Lc} {d : Nat} {Q : Option Value → jx_St → Prop} {σ : jx_St} {z0 : Nat} {a1 : Int32} (h : jt_16 0 Λ jx_tb0 (jx_rn Λ jx_tb0 jt_16 (fun k' as σ K => jx_C l D cA ρ Λ d k' as σ K) Q (jx_J l D cA ρ Λ (jx_A ρ Λ) jx_tb0 (d + 1) 16 Q) [] 400) (fun k' as σ K => jx_C l D cA ρ Λ d k' as σ K) Q 0 [(0, .ref z0), (1, .int a1)] [] σ) : jx_C l D cA ρ Λ (d + 1) 16 [.ref z0, .int a1] σ Q := jx_in jk_16 400 [] rfl (Nat.le_of_ble_eq_true rfl) h
/-! ScriptLedger.pot()I -/
theorem jd_17_0 : decode prog_1_method_18_code 0 = .ok (.aload_n 0, 1) := by decide +kernel
theorem jd_17_1 : decode prog_1_method_18_code 1 = .ok (.getfield 28, 3) := by decide +kernel
theorem jd_17_4 : decode prog_1_method_18_code 4 = .ok (.getfield 175, 3) := by decide +kernel
theorem jd_17_7 : decode prog_1_method_18_code 7 = .ok (.ireturn, 1) := by decide +kernel
def jt_17 (pc : Nat) : jx_Sp := bif Nat.ble pc 1 then (bif Nat.ble pc 0 then (bif Nat.beq pc 0 then js_al 0 1 else js_none) else (bif Nat.beq pc 1 then js_getf 0 2 else js_none)) else (bif Nat.ble pc 4 then (bif Nat.beq pc 4 then js_getf 5 4 else js_none) else (bif Nat.beq pc 7 then js_ir else js_none))
theorem jk_17_0 : jx_Snd 17 0 (js_al 0 1) := jo_aload_n (i := 0) (w := 0) rfl jd_17_0
theorem jk_17_1 : jx_Snd 17 1 (js_getf 0 2) := jo_getf rfl jf_0_28 jd_17_1
theorem jk_17_4 : jx_Snd 17 4 (js_getf 5 4) := jo_getf rfl jf_0_175 jd_17_4
theorem jk_17_7 : jx_Snd 17 7 (js_ir) := jo_ir rfl jd_17_7
theorem jk_17 : jx_So 17 jt_17 := fun pc => jo_le (jo_le (jo_at (jk_17_0)) (jo_at (jk_17_1))) (jo_le (jo_at (jk_17_4)) (jo_at (jk_17_7)))
theorem ji_17 {l : Launch} {D : va_G} {cA : ClassId} {ρ : Nat → Nat} {Λ : List jx_Lc} {d : Nat} {Q : Option Value → jx_St → Prop} {σ : jx_St} {z0 : Nat} (h : jt_17 0 Λ jx_tb0 (jx_rn Λ jx_tb0 jt_17 (fun k' as σ K => jx_C l D cA ρ Λ d k' as σ K) Q (jx_J l D cA ρ Λ (jx_A ρ Λ) jx_tb0 (d + 1) 17 Q) [] 400) (fun k' as σ K => jx_C l D cA ρ Λ d k' as σ K) Q 0 [(0, .ref z0)] [] σ) : jx_C l D cA ρ Λ (d + 1) 17 [.ref z0] σ Q := jx_in jk_17 400 [] rfl (Nat.le_of_ble_eq_true rfl) h
/-! ScriptLedger.height()I -/
theorem jd_18_0 : decode prog_1_method_19_code 0 = .ok (.aload_n 0, 1) := by decide +kernel
theorem jd_18_1 : decode prog_1_method_19_code 1 = .ok (.getfield 28, 3) := by decide +kernel
theorem jd_18_4 : decode prog_1_method_19_code 4 = .ok (.getfield 144, 3) := by decide +kernel
theorem jd_18_7 : decode prog_1_method_19_code 7 = .ok (.ireturn, 1) := by decide +kernel
def jt_18 (pc : Nat) : jx_Sp := bif Nat.ble pc 1 then (bif Nat.ble pc 0 then (bif Nat.beq pc 0 then js_al 0 1 else js_none) else (bif Nat.beq pc 1 then js_getf 0 2 else js_none)) else (bif Nat.ble pc 4 then (bif Nat.beq pc 4 then js_getf 5 5 else js_none) else (bif Nat.beq pc 7 then js_ir else js_none))
theorem jk_18_0 : jx_Snd 18 0 (js_al 0 1) := jo_aload_n (i := 0) (w := 0) rfl jd_18_0
theorem jk_18_1 : jx_Snd 18 1 (js_getf 0 2) := jo_getf rfl jf_0_28 jd_18_1
theorem jk_18_4 : jx_Snd 18 4 (js_getf 5 5) := jo_getf rfl jf_0_144 jd_18_4
theorem jk_18_7 : jx_Snd 18 7 (js_ir) := jo_ir rfl jd_18_7
theorem jk_18 : jx_So 18 jt_18 := fun pc => jo_le (jo_le (jo_at (jk_18_0)) (jo_at (jk_18_1))) (jo_le (jo_at (jk_18_4)) (jo_at (jk_18_7)))
theorem ji_18 {l : Launch} {D : va_G} {cA : ClassId} {ρ : Nat → Nat} {Λ : List jx_Lc} {d : Nat} {Q : Option Value → jx_St → Prop} {σ : jx_St} {z0 : Nat} (h : jt_18 0 Λ jx_tb0 (jx_rn Λ jx_tb0 jt_18 (fun k' as σ K => jx_C l D cA ρ Λ d k' as σ K) Q (jx_J l D cA ρ Λ (jx_A ρ Λ) jx_tb0 (d + 1) 18 Q) [] 400) (fun k' as σ K => jx_C l D cA ρ Λ d k' as σ K) Q 0 [(0, .ref z0)] [] σ) : jx_C l D cA ρ Λ (d + 1) 18 [.ref z0] σ Q := jx_in jk_18 400 [] rfl (Nat.le_of_ble_eq_true rfl) h
/-! ScriptLedger.isAmount(I)Z -/
theorem jd_19_0 : decode prog_1_method_20_code 0 = .ok (.iload_n 0, 1) := by decide +kernel
theorem jd_19_1 : decode prog_1_method_20_code 1 = .ok (.ifCond .lt 13, 3) := by decide +kernel
theorem jd_19_4 : decode prog_1_method_20_code 4 = .ok (.iload_n 0, 1) := by decide +kernel
theorem jd_19_5 : decode prog_1_method_20_code 5 = .ok (.ldc 117, 2) := by decide +kernel
theorem jd_19_7 : decode prog_1_method_20_code 7 = .ok (.if_icmp .gt 7, 3) := by decide +kernel
theorem jd_19_10 : decode prog_1_method_20_code 10 = .ok (.iconst 1, 1) := by decide +kernel
theorem jd_19_11 : decode prog_1_method_20_code 11 = .ok (.goto 4, 3) := by decide +kernel
theorem jd_19_14 : decode prog_1_method_20_code 14 = .ok (.iconst 0, 1) := by decide +kernel
theorem jd_19_15 : decode prog_1_method_20_code 15 = .ok (.ireturn, 1) := by decide +kernel
def jt_19 (pc : Nat) : jx_Sp := bif Nat.ble pc 7 then (bif Nat.ble pc 4 then (bif Nat.ble pc 1 then (bif Nat.ble pc 0 then (bif Nat.beq pc 0 then js_il 0 1 else js_none) else (bif Nat.beq pc 1 then js_iflt 14 else js_none)) else (bif Nat.beq pc 4 then js_il 0 1 else js_none)) else (bif Nat.ble pc 5 then (bif Nat.beq pc 5 then js_c 1000000 2 else js_none) else (bif Nat.beq pc 7 then js_cgt 14 else js_none))) else (bif Nat.ble pc 11 then (bif Nat.ble pc 10 then (bif Nat.beq pc 10 then js_c 1 1 else js_none) else (bif Nat.beq pc 11 then js_go 15 else js_none)) else (bif Nat.ble pc 14 then (bif Nat.beq pc 14 then js_c 0 1 else js_none) else (bif Nat.beq pc 15 then js_zr else js_none)))
theorem jk_19_0 : jx_Snd 19 0 (js_il 0 1) := jo_iload_n (i := 0) (w := 0) rfl jd_19_0
theorem jk_19_1 : jx_Snd 19 1 (js_iflt 14) := jo_iflt (o := 13) rfl jd_19_1
theorem jk_19_4 : jx_Snd 19 4 (js_il 0 1) := jo_iload_n (i := 0) (w := 0) rfl jd_19_4
theorem jk_19_5 : jx_Snd 19 5 (js_c 1000000 2) := jo_ldc (ix := 117) rfl jw_319 jd_19_5
theorem jk_19_7 : jx_Snd 19 7 (js_cgt 14) := jo_cgt (o := 7) rfl jd_19_7
theorem jk_19_10 : jx_Snd 19 10 (js_c 1 1) := jo_iconst (z := 1) jd_19_10 rfl
theorem jk_19_11 : jx_Snd 19 11 (js_go 15) := jo_goto (o := 4) rfl jd_19_11
theorem jk_19_14 : jx_Snd 19 14 (js_c 0 1) := jo_iconst (z := 0) jd_19_14 rfl
theorem jk_19_15 : jx_Snd 19 15 (js_zr) := jo_zr rfl jd_19_15
theorem jk_19 : jx_So 19 jt_19 := fun pc => jo_le (jo_le (jo_le (jo_le (jo_at (jk_19_0)) (jo_at (jk_19_1))) (jo_at (jk_19_4))) (jo_le (jo_at (jk_19_5)) (jo_at (jk_19_7)))) (jo_le (jo_le (jo_at (jk_19_10)) (jo_at (jk_19_11))) (jo_le (jo_at (jk_19_14)) (jo_at (jk_19_15))))
theorem ji_19 {l : Launch} {D : va_G} {cA : ClassId} {ρ : Nat → Nat} {Λ : List jx_Lc} {d : Nat} {Q : Option Value → jx_St → Prop} {σ : jx_St} {a1 : Int32} (h : jt_19 0 Λ jx_tb0 (jx_rn Λ jx_tb0 jt_19 (fun k' as σ K => jx_C l D cA ρ Λ d k' as σ K) Q (jx_J l D cA ρ Λ (jx_A ρ Λ) jx_tb0 (d + 1) 19 Q) [] 400) (fun k' as σ K => jx_C l D cA ρ Λ d k' as σ K) Q 0 [(0, .int a1)] [] σ) : jx_C l D cA ρ Λ (d + 1) 19 [.int a1] σ Q := jx_in jk_19 400 [] rfl (Nat.le_of_ble_eq_true rfl) h
/-! ScriptLedger.firstFault()I -/
theorem jd_20_0 : decode prog_1_method_21_code 0 = .ok (.aload_n 0, 1) := by decide +kernel
theorem jd_20_1 : decode prog_1_method_21_code 1 = .ok (.getfield 35, 3) := by decide +kernel
theorem jd_20_4 : decode prog_1_method_21_code 4 = .ok (.getfield 90, 3) := by decide +kernel
theorem jd_20_7 : decode prog_1_method_21_code 7 = .ok (.ifCond .ne 5, 3) := by decide +kernel
theorem jd_20_10 : decode prog_1_method_21_code 10 = .ok (.iconst 2, 1) := by decide +kernel
theorem jd_20_11 : decode prog_1_method_21_code 11 = .ok (.ireturn, 1) := by decide +kernel
theorem jd_20_12 : decode prog_1_method_21_code 12 = .ok (.aload_n 0, 1) := by decide +kernel
theorem jd_20_13 : decode prog_1_method_21_code 13 = .ok (.invokevirtual 178, 3) := by decide +kernel
theorem jd_20_16 : decode prog_1_method_21_code 16 = .ok (.ifCond .ne 5, 3) := by decide +kernel
theorem jd_20_19 : decode prog_1_method_21_code 19 = .ok (.iconst 3, 1) := by decide +kernel
theorem jd_20_20 : decode prog_1_method_21_code 20 = .ok (.ireturn, 1) := by decide +kernel
theorem jd_20_21 : decode prog_1_method_21_code 21 = .ok (.aload_n 0, 1) := by decide +kernel
theorem jd_20_22 : decode prog_1_method_21_code 22 = .ok (.getfield 28, 3) := by decide +kernel
theorem jd_20_25 : decode prog_1_method_21_code 25 = .ok (.getfield 144, 3) := by decide +kernel
theorem jd_20_28 : decode prog_1_method_21_code 28 = .ok (.aload_n 0, 1) := by decide +kernel
theorem jd_20_29 : decode prog_1_method_21_code 29 = .ok (.getfield 35, 3) := by decide +kernel
theorem jd_20_32 : decode prog_1_method_21_code 32 = .ok (.getfield 181, 3) := by decide +kernel
theorem jd_20_35 : decode prog_1_method_21_code 35 = .ok (.if_icmp .lt 20, 3) := by decide +kernel
theorem jd_20_38 : decode prog_1_method_21_code 38 = .ok (.aload_n 0, 1) := by decide +kernel
theorem jd_20_39 : decode prog_1_method_21_code 39 = .ok (.getfield 28, 3) := by decide +kernel
theorem jd_20_42 : decode prog_1_method_21_code 42 = .ok (.getfield 144, 3) := by decide +kernel
theorem jd_20_45 : decode prog_1_method_21_code 45 = .ok (.aload_n 0, 1) := by decide +kernel
theorem jd_20_46 : decode prog_1_method_21_code 46 = .ok (.getfield 35, 3) := by decide +kernel
theorem jd_20_49 : decode prog_1_method_21_code 49 = .ok (.getfield 184, 3) := by decide +kernel
theorem jd_20_52 : decode prog_1_method_21_code 52 = .ok (.if_icmp .le 5, 3) := by decide +kernel
theorem jd_20_55 : decode prog_1_method_21_code 55 = .ok (.iconst 4, 1) := by decide +kernel
theorem jd_20_56 : decode prog_1_method_21_code 56 = .ok (.ireturn, 1) := by decide +kernel
theorem jd_20_57 : decode prog_1_method_21_code 57 = .ok (.aload_n 0, 1) := by decide +kernel
theorem jd_20_58 : decode prog_1_method_21_code 58 = .ok (.getfield 35, 3) := by decide +kernel
theorem jd_20_61 : decode prog_1_method_21_code 61 = .ok (.getfield 187, 3) := by decide +kernel
theorem jd_20_64 : decode prog_1_method_21_code 64 = .ok (.aload_n 0, 1) := by decide +kernel
theorem jd_20_65 : decode prog_1_method_21_code 65 = .ok (.getfield 35, 3) := by decide +kernel
theorem jd_20_68 : decode prog_1_method_21_code 68 = .ok (.invokevirtual 190, 3) := by decide +kernel
theorem jd_20_71 : decode prog_1_method_21_code 71 = .ok (.if_icmp .ge 5, 3) := by decide +kernel
theorem jd_20_74 : decode prog_1_method_21_code 74 = .ok (.iconst 5, 1) := by decide +kernel
theorem jd_20_75 : decode prog_1_method_21_code 75 = .ok (.ireturn, 1) := by decide +kernel
theorem jd_20_76 : decode prog_1_method_21_code 76 = .ok (.aload_n 0, 1) := by decide +kernel
theorem jd_20_77 : decode prog_1_method_21_code 77 = .ok (.invokevirtual 193, 3) := by decide +kernel
theorem jd_20_80 : decode prog_1_method_21_code 80 = .ok (.ifCond .ne 6, 3) := by decide +kernel
theorem jd_20_83 : decode prog_1_method_21_code 83 = .ok (.bipush 6, 2) := by decide +kernel
theorem jd_20_85 : decode prog_1_method_21_code 85 = .ok (.ireturn, 1) := by decide +kernel
theorem jd_20_86 : decode prog_1_method_21_code 86 = .ok (.aload_n 0, 1) := by decide +kernel
theorem jd_20_87 : decode prog_1_method_21_code 87 = .ok (.invokevirtual 196, 3) := by decide +kernel
theorem jd_20_90 : decode prog_1_method_21_code 90 = .ok (.ifCond .ne 6, 3) := by decide +kernel
theorem jd_20_93 : decode prog_1_method_21_code 93 = .ok (.bipush 7, 2) := by decide +kernel
theorem jd_20_95 : decode prog_1_method_21_code 95 = .ok (.ireturn, 1) := by decide +kernel
theorem jd_20_96 : decode prog_1_method_21_code 96 = .ok (.aload_n 0, 1) := by decide +kernel
theorem jd_20_97 : decode prog_1_method_21_code 97 = .ok (.invokevirtual 199, 3) := by decide +kernel
theorem jd_20_100 : decode prog_1_method_21_code 100 = .ok (.ifCond .ne 6, 3) := by decide +kernel
theorem jd_20_103 : decode prog_1_method_21_code 103 = .ok (.bipush 8, 2) := by decide +kernel
theorem jd_20_105 : decode prog_1_method_21_code 105 = .ok (.ireturn, 1) := by decide +kernel
theorem jd_20_106 : decode prog_1_method_21_code 106 = .ok (.aload_n 0, 1) := by decide +kernel
theorem jd_20_107 : decode prog_1_method_21_code 107 = .ok (.invokevirtual 202, 3) := by decide +kernel
theorem jd_20_110 : decode prog_1_method_21_code 110 = .ok (.ifCond .eq 13, 3) := by decide +kernel
theorem jd_20_113 : decode prog_1_method_21_code 113 = .ok (.aload_n 0, 1) := by decide +kernel
theorem jd_20_114 : decode prog_1_method_21_code 114 = .ok (.invokevirtual 205, 3) := by decide +kernel
theorem jd_20_117 : decode prog_1_method_21_code 117 = .ok (.ifCond .ne 6, 3) := by decide +kernel
theorem jd_20_120 : decode prog_1_method_21_code 120 = .ok (.bipush 9, 2) := by decide +kernel
theorem jd_20_122 : decode prog_1_method_21_code 122 = .ok (.ireturn, 1) := by decide +kernel
theorem jd_20_123 : decode prog_1_method_21_code 123 = .ok (.aload_n 0, 1) := by decide +kernel
theorem jd_20_124 : decode prog_1_method_21_code 124 = .ok (.getfield 28, 3) := by decide +kernel
theorem jd_20_127 : decode prog_1_method_21_code 127 = .ok (.getfield 153, 3) := by decide +kernel
theorem jd_20_130 : decode prog_1_method_21_code 130 = .ok (.aload_n 0, 1) := by decide +kernel
theorem jd_20_131 : decode prog_1_method_21_code 131 = .ok (.getfield 35, 3) := by decide +kernel
theorem jd_20_134 : decode prog_1_method_21_code 134 = .ok (.getfield 100, 3) := by decide +kernel
theorem jd_20_137 : decode prog_1_method_21_code 137 = .ok (.getfield 156, 3) := by decide +kernel
theorem jd_20_140 : decode prog_1_method_21_code 140 = .ok (.invokevirtual 104, 3) := by decide +kernel
theorem jd_20_143 : decode prog_1_method_21_code 143 = .ok (.ifCond .ne 6, 3) := by decide +kernel
theorem jd_20_146 : decode prog_1_method_21_code 146 = .ok (.bipush 10, 2) := by decide +kernel
theorem jd_20_148 : decode prog_1_method_21_code 148 = .ok (.ireturn, 1) := by decide +kernel
theorem jd_20_149 : decode prog_1_method_21_code 149 = .ok (.iconst 0, 1) := by decide +kernel
theorem jd_20_150 : decode prog_1_method_21_code 150 = .ok (.ireturn, 1) := by decide +kernel
def jt_20 (pc : Nat) : jx_Sp := bif Nat.ble pc 75 then (bif Nat.ble pc 35 then (bif Nat.ble pc 16 then (bif Nat.ble pc 10 then (bif Nat.ble pc 4 then (bif Nat.ble pc 1 then (bif Nat.ble pc 0 then (bif Nat.beq pc 0 then js_al 0 1 else js_none) else (bif Nat.beq pc 1 then js_getf 0 3 else js_none)) else (bif Nat.beq pc 4 then js_getf 7 2 else js_none)) else (bif Nat.ble pc 7 then (bif Nat.beq pc 7 then js_ifne 12 else js_none) else (bif Nat.beq pc 10 then js_c 2 1 else js_none))) else (bif Nat.ble pc 12 then (bif Nat.ble pc 11 then (bif Nat.beq pc 11 then js_ir else js_none) else (bif Nat.beq pc 12 then js_al 0 1 else js_none)) else (bif Nat.ble pc 13 then (bif Nat.beq pc 13 then js_v0 0 21 else js_none) else (bif Nat.beq pc 16 then js_ifne 21 else js_none)))) else (bif Nat.ble pc 25 then (bif Nat.ble pc 21 then (bif Nat.ble pc 20 then (bif Nat.ble pc 19 then (bif Nat.beq pc 19 then js_c 3 1 else js_none) else (bif Nat.beq pc 20 then js_ir else js_none)) else (bif Nat.beq pc 21 then js_al 0 1 else js_none)) else (bif Nat.ble pc 22 then (bif Nat.beq pc 22 then js_getf 0 2 else js_none) else (bif Nat.beq pc 25 then js_getf 5 5 else js_none))) else (bif Nat.ble pc 29 then (bif Nat.ble pc 28 then (bif Nat.beq pc 28 then js_al 0 1 else js_none) else (bif Nat.beq pc 29 then js_getf 0 3 else js_none)) else (bif Nat.ble pc 32 then (bif Nat.beq pc 32 then js_getf 7 7 else js_none) else (bif Nat.beq pc 35 then js_clt 55 else js_none))))) else (bif Nat.ble pc 56 then (bif Nat.ble pc 46 then (bif Nat.ble pc 42 then (bif Nat.ble pc 39 then (bif Nat.ble pc 38 then (bif Nat.beq pc 38 then js_al 0 1 else js_none) else (bif Nat.beq pc 39 then js_getf 0 2 else js_none)) else (bif Nat.beq pc 42 then js_getf 5 5 else js_none)) else (bif Nat.ble pc 45 then (bif Nat.beq pc 45 then js_al 0 1 else js_none) else (bif Nat.beq pc 46 then js_getf 0 3 else js_none))) else (bif Nat.ble pc 52 then (bif Nat.ble pc 49 then (bif Nat.beq pc 49 then js_getf 7 8 else js_none) else (bif Nat.beq pc 52 then js_cle 57 else js_none)) else (bif Nat.ble pc 55 then (bif Nat.beq pc 55 then js_c 4 1 else js_none) else (bif Nat.beq pc 56 then js_ir else js_none)))) else (bif Nat.ble pc 65 then (bif Nat.ble pc 61 then (bif Nat.ble pc 58 then (bif Nat.ble pc 57 then (bif Nat.beq pc 57 then js_al 0 1 else js_none) else (bif Nat.beq pc 58 then js_getf 0 3 else js_none)) else (bif Nat.beq pc 61 then js_getf 7 6 else js_none)) else (bif Nat.ble pc 64 then (bif Nat.beq pc 64 then js_al 0 1 else js_none) else (bif Nat.beq pc 65 then js_getf 0 3 else js_none))) else (bif Nat.ble pc 71 then (bif Nat.ble pc 68 then (bif Nat.beq pc 68 then js_v0 7 86 else js_none) else (bif Nat.beq pc 71 then js_cge 76 else js_none)) else (bif Nat.ble pc 74 then (bif Nat.beq pc 74 then js_c 5 1 else js_none) else (bif Nat.beq pc 75 then js_ir else js_none)))))) else (bif Nat.ble pc 110 then (bif Nat.ble pc 93 then (bif Nat.ble pc 85 then (bif Nat.ble pc 80 then (bif Nat.ble pc 77 then (bif Nat.ble pc 76 then (bif Nat.beq pc 76 then js_al 0 1 else js_none) else (bif Nat.beq pc 77 then js_v0 0 22 else js_none)) else (bif Nat.beq pc 80 then js_ifne 86 else js_none)) else (bif Nat.ble pc 83 then (bif Nat.beq pc 83 then js_c 6 2 else js_none) else (bif Nat.beq pc 85 then js_ir else js_none))) else (bif Nat.ble pc 87 then (bif Nat.ble pc 86 then (bif Nat.beq pc 86 then js_al 0 1 else js_none) else (bif Nat.beq pc 87 then js_v0 0 24 else js_none)) else (bif Nat.ble pc 90 then (bif Nat.beq pc 90 then js_ifne 96 else js_none) else (bif Nat.beq pc 93 then js_c 7 2 else js_none)))) else (bif Nat.ble pc 103 then (bif Nat.ble pc 97 then (bif Nat.ble pc 96 then (bif Nat.ble pc 95 then (bif Nat.beq pc 95 then js_ir else js_none) else (bif Nat.beq pc 96 then js_al 0 1 else js_none)) else (bif Nat.beq pc 97 then js_v0 0 25 else js_none)) else (bif Nat.ble pc 100 then (bif Nat.beq pc 100 then js_ifne 106 else js_none) else (bif Nat.beq pc 103 then js_c 8 2 else js_none))) else (bif Nat.ble pc 106 then (bif Nat.ble pc 105 then (bif Nat.beq pc 105 then js_ir else js_none) else (bif Nat.beq pc 106 then js_al 0 1 else js_none)) else (bif Nat.ble pc 107 then (bif Nat.beq pc 107 then js_v0 0 26 else js_none) else (bif Nat.beq pc 110 then js_ifeq 123 else js_none))))) else (bif Nat.ble pc 130 then (bif Nat.ble pc 122 then (bif Nat.ble pc 117 then (bif Nat.ble pc 114 then (bif Nat.ble pc 113 then (bif Nat.beq pc 113 then js_al 0 1 else js_none) else (bif Nat.beq pc 114 then js_v0 0 28 else js_none)) else (bif Nat.beq pc 117 then js_ifne 123 else js_none)) else (bif Nat.ble pc 120 then (bif Nat.beq pc 120 then js_c 9 2 else js_none) else (bif Nat.beq pc 122 then js_ir else js_none))) else (bif Nat.ble pc 124 then (bif Nat.ble pc 123 then (bif Nat.beq pc 123 then js_al 0 1 else js_none) else (bif Nat.beq pc 124 then js_getf 0 2 else js_none)) else (bif Nat.ble pc 127 then (bif Nat.beq pc 127 then js_getf 5 0 else js_none) else (bif Nat.beq pc 130 then js_al 0 1 else js_none)))) else (bif Nat.ble pc 143 then (bif Nat.ble pc 137 then (bif Nat.ble pc 134 then (bif Nat.ble pc 131 then (bif Nat.beq pc 131 then js_getf 0 3 else js_none) else (bif Nat.beq pc 134 then js_getf 7 3 else js_none)) else (bif Nat.beq pc 137 then js_getf 6 3 else js_none)) else (bif Nat.ble pc 140 then (bif Nat.beq pc 140 then js_v1 6 77 else js_none) else (bif Nat.beq pc 143 then js_ifne 149 else js_none))) else (bif Nat.ble pc 148 then (bif Nat.ble pc 146 then (bif Nat.beq pc 146 then js_c 10 2 else js_none) else (bif Nat.beq pc 148 then js_ir else js_none)) else (bif Nat.ble pc 149 then (bif Nat.beq pc 149 then js_c 0 1 else js_none) else (bif Nat.beq pc 150 then js_ir else js_none))))))
theorem jk_20_0 : jx_Snd 20 0 (js_al 0 1) := jo_aload_n (i := 0) (w := 0) rfl jd_20_0
theorem jk_20_1 : jx_Snd 20 1 (js_getf 0 3) := jo_getf rfl jf_0_35 jd_20_1
theorem jk_20_4 : jx_Snd 20 4 (js_getf 7 2) := jo_getf rfl jf_0_90 jd_20_4
theorem jk_20_7 : jx_Snd 20 7 (js_ifne 12) := jo_ifne (o := 5) rfl jd_20_7
theorem jk_20_10 : jx_Snd 20 10 (js_c 2 1) := jo_iconst (z := 2) jd_20_10 rfl
theorem jk_20_11 : jx_Snd 20 11 (js_ir) := jo_ir rfl jd_20_11
theorem jk_20_12 : jx_Snd 20 12 (js_al 0 1) := jo_aload_n (i := 0) (w := 0) rfl jd_20_12
theorem jk_20_13 : jx_Snd 20 13 (js_v0 0 21) := jo_v0 rfl jok_21 (Or.inl jw_342) jw_343 jw_704 rfl jd_20_13
theorem jk_20_16 : jx_Snd 20 16 (js_ifne 21) := jo_ifne (o := 5) rfl jd_20_16
theorem jk_20_19 : jx_Snd 20 19 (js_c 3 1) := jo_iconst (z := 3) jd_20_19 rfl
theorem jk_20_20 : jx_Snd 20 20 (js_ir) := jo_ir rfl jd_20_20
theorem jk_20_21 : jx_Snd 20 21 (js_al 0 1) := jo_aload_n (i := 0) (w := 0) rfl jd_20_21
theorem jk_20_22 : jx_Snd 20 22 (js_getf 0 2) := jo_getf rfl jf_0_28 jd_20_22
theorem jk_20_25 : jx_Snd 20 25 (js_getf 5 5) := jo_getf rfl jf_0_144 jd_20_25
theorem jk_20_28 : jx_Snd 20 28 (js_al 0 1) := jo_aload_n (i := 0) (w := 0) rfl jd_20_28
theorem jk_20_29 : jx_Snd 20 29 (js_getf 0 3) := jo_getf rfl jf_0_35 jd_20_29
theorem jk_20_32 : jx_Snd 20 32 (js_getf 7 7) := jo_getf rfl jf_0_181 jd_20_32
theorem jk_20_35 : jx_Snd 20 35 (js_clt 55) := jo_clt (o := 20) rfl jd_20_35
theorem jk_20_38 : jx_Snd 20 38 (js_al 0 1) := jo_aload_n (i := 0) (w := 0) rfl jd_20_38
theorem jk_20_39 : jx_Snd 20 39 (js_getf 0 2) := jo_getf rfl jf_0_28 jd_20_39
theorem jk_20_42 : jx_Snd 20 42 (js_getf 5 5) := jo_getf rfl jf_0_144 jd_20_42
theorem jk_20_45 : jx_Snd 20 45 (js_al 0 1) := jo_aload_n (i := 0) (w := 0) rfl jd_20_45
theorem jk_20_46 : jx_Snd 20 46 (js_getf 0 3) := jo_getf rfl jf_0_35 jd_20_46
theorem jk_20_49 : jx_Snd 20 49 (js_getf 7 8) := jo_getf rfl jf_0_184 jd_20_49
theorem jk_20_52 : jx_Snd 20 52 (js_cle 57) := jo_cle (o := 5) rfl jd_20_52
theorem jk_20_55 : jx_Snd 20 55 (js_c 4 1) := jo_iconst (z := 4) jd_20_55 rfl
theorem jk_20_56 : jx_Snd 20 56 (js_ir) := jo_ir rfl jd_20_56
theorem jk_20_57 : jx_Snd 20 57 (js_al 0 1) := jo_aload_n (i := 0) (w := 0) rfl jd_20_57
theorem jk_20_58 : jx_Snd 20 58 (js_getf 0 3) := jo_getf rfl jf_0_35 jd_20_58
theorem jk_20_61 : jx_Snd 20 61 (js_getf 7 6) := jo_getf rfl jf_0_187 jd_20_61
theorem jk_20_64 : jx_Snd 20 64 (js_al 0 1) := jo_aload_n (i := 0) (w := 0) rfl jd_20_64
theorem jk_20_65 : jx_Snd 20 65 (js_getf 0 3) := jo_getf rfl jf_0_35 jd_20_65
theorem jk_20_68 : jx_Snd 20 68 (js_v0 7 86) := jo_v0 rfl jok_86 (Or.inl jw_353) jw_354 jw_355 rfl jd_20_68
theorem jk_20_71 : jx_Snd 20 71 (js_cge 76) := jo_cge (o := 5) rfl jd_20_71
theorem jk_20_74 : jx_Snd 20 74 (js_c 5 1) := jo_iconst (z := 5) jd_20_74 rfl
theorem jk_20_75 : jx_Snd 20 75 (js_ir) := jo_ir rfl jd_20_75
theorem jk_20_76 : jx_Snd 20 76 (js_al 0 1) := jo_aload_n (i := 0) (w := 0) rfl jd_20_76
theorem jk_20_77 : jx_Snd 20 77 (js_v0 0 22) := jo_v0 rfl jok_22 (Or.inl jw_357) jw_358 jw_705 rfl jd_20_77
theorem jk_20_80 : jx_Snd 20 80 (js_ifne 86) := jo_ifne (o := 6) rfl jd_20_80
theorem jk_20_83 : jx_Snd 20 83 (js_c 6 2) := jo_bipush (z := 6) jd_20_83 (by decide +kernel)
theorem jk_20_85 : jx_Snd 20 85 (js_ir) := jo_ir rfl jd_20_85
theorem jk_20_86 : jx_Snd 20 86 (js_al 0 1) := jo_aload_n (i := 0) (w := 0) rfl jd_20_86
theorem jk_20_87 : jx_Snd 20 87 (js_v0 0 24) := jo_v0 rfl jok_24 (Or.inl jw_372) jw_373 jw_707 rfl jd_20_87
theorem jk_20_90 : jx_Snd 20 90 (js_ifne 96) := jo_ifne (o := 6) rfl jd_20_90
theorem jk_20_93 : jx_Snd 20 93 (js_c 7 2) := jo_bipush (z := 7) jd_20_93 (by decide +kernel)
theorem jk_20_95 : jx_Snd 20 95 (js_ir) := jo_ir rfl jd_20_95
theorem jk_20_96 : jx_Snd 20 96 (js_al 0 1) := jo_aload_n (i := 0) (w := 0) rfl jd_20_96
theorem jk_20_97 : jx_Snd 20 97 (js_v0 0 25) := jo_v0 rfl jok_25 (Or.inl jw_379) jw_380 jw_708 rfl jd_20_97
theorem jk_20_100 : jx_Snd 20 100 (js_ifne 106) := jo_ifne (o := 6) rfl jd_20_100
theorem jk_20_103 : jx_Snd 20 103 (js_c 8 2) := jo_bipush (z := 8) jd_20_103 (by decide +kernel)
theorem jk_20_105 : jx_Snd 20 105 (js_ir) := jo_ir rfl jd_20_105
theorem jk_20_106 : jx_Snd 20 106 (js_al 0 1) := jo_aload_n (i := 0) (w := 0) rfl jd_20_106
theorem jk_20_107 : jx_Snd 20 107 (js_v0 0 26) := jo_v0 rfl jok_26 (Or.inl jw_385) jw_386 jw_709 rfl jd_20_107
theorem jk_20_110 : jx_Snd 20 110 (js_ifeq 123) := jo_ifeq (o := 13) rfl jd_20_110
theorem jk_20_113 : jx_Snd 20 113 (js_al 0 1) := jo_aload_n (i := 0) (w := 0) rfl jd_20_113
theorem jk_20_114 : jx_Snd 20 114 (js_v0 0 28) := jo_v0 rfl jok_28 (Or.inl jw_388) jw_389 jw_710 rfl jd_20_114
theorem jk_20_117 : jx_Snd 20 117 (js_ifne 123) := jo_ifne (o := 6) rfl jd_20_117
theorem jk_20_120 : jx_Snd 20 120 (js_c 9 2) := jo_bipush (z := 9) jd_20_120 (by decide +kernel)
theorem jk_20_122 : jx_Snd 20 122 (js_ir) := jo_ir rfl jd_20_122
theorem jk_20_123 : jx_Snd 20 123 (js_al 0 1) := jo_aload_n (i := 0) (w := 0) rfl jd_20_123
theorem jk_20_124 : jx_Snd 20 124 (js_getf 0 2) := jo_getf rfl jf_0_28 jd_20_124
theorem jk_20_127 : jx_Snd 20 127 (js_getf 5 0) := jo_getf rfl jf_0_153 jd_20_127
theorem jk_20_130 : jx_Snd 20 130 (js_al 0 1) := jo_aload_n (i := 0) (w := 0) rfl jd_20_130
theorem jk_20_131 : jx_Snd 20 131 (js_getf 0 3) := jo_getf rfl jf_0_35 jd_20_131
theorem jk_20_134 : jx_Snd 20 134 (js_getf 7 3) := jo_getf rfl jf_0_100 jd_20_134
theorem jk_20_137 : jx_Snd 20 137 (js_getf 6 3) := jo_getf rfl jf_0_156 jd_20_137
theorem jk_20_140 : jx_Snd 20 140 (js_v1 6 77) := jo_v1 rfl jok_77 (Or.inl jw_315) jw_110 jw_111 rfl jd_20_140
theorem jk_20_143 : jx_Snd 20 143 (js_ifne 149) := jo_ifne (o := 6) rfl jd_20_143
theorem jk_20_146 : jx_Snd 20 146 (js_c 10 2) := jo_bipush (z := 10) jd_20_146 (by decide +kernel)
theorem jk_20_148 : jx_Snd 20 148 (js_ir) := jo_ir rfl jd_20_148
theorem jk_20_149 : jx_Snd 20 149 (js_c 0 1) := jo_iconst (z := 0) jd_20_149 rfl
theorem jk_20_150 : jx_Snd 20 150 (js_ir) := jo_ir rfl jd_20_150
theorem jk_20 : jx_So 20 jt_20 := fun pc => jo_le (jo_le (jo_le (jo_le (jo_le (jo_le (jo_le (jo_at (jk_20_0)) (jo_at (jk_20_1))) (jo_at (jk_20_4))) (jo_le (jo_at (jk_20_7)) (jo_at (jk_20_10)))) (jo_le (jo_le (jo_at (jk_20_11)) (jo_at (jk_20_12))) (jo_le (jo_at (jk_20_13)) (jo_at (jk_20_16))))) (jo_le (jo_le (jo_le (jo_le (jo_at (jk_20_19)) (jo_at (jk_20_20))) (jo_at (jk_20_21))) (jo_le (jo_at (jk_20_22)) (jo_at (jk_20_25)))) (jo_le (jo_le (jo_at (jk_20_28)) (jo_at (jk_20_29))) (jo_le (jo_at (jk_20_32)) (jo_at (jk_20_35)))))) (jo_le (jo_le (jo_le (jo_le (jo_le (jo_at (jk_20_38)) (jo_at (jk_20_39))) (jo_at (jk_20_42))) (jo_le (jo_at (jk_20_45)) (jo_at (jk_20_46)))) (jo_le (jo_le (jo_at (jk_20_49)) (jo_at (jk_20_52))) (jo_le (jo_at (jk_20_55)) (jo_at (jk_20_56))))) (jo_le (jo_le (jo_le (jo_le (jo_at (jk_20_57)) (jo_at (jk_20_58))) (jo_at (jk_20_61))) (jo_le (jo_at (jk_20_64)) (jo_at (jk_20_65)))) (jo_le (jo_le (jo_at (jk_20_68)) (jo_at (jk_20_71))) (jo_le (jo_at (jk_20_74)) (jo_at (jk_20_75))))))) (jo_le (jo_le (jo_le (jo_le (jo_le (jo_le (jo_at (jk_20_76)) (jo_at (jk_20_77))) (jo_at (jk_20_80))) (jo_le (jo_at (jk_20_83)) (jo_at (jk_20_85)))) (jo_le (jo_le (jo_at (jk_20_86)) (jo_at (jk_20_87))) (jo_le (jo_at (jk_20_90)) (jo_at (jk_20_93))))) (jo_le (jo_le (jo_le (jo_le (jo_at (jk_20_95)) (jo_at (jk_20_96))) (jo_at (jk_20_97))) (jo_le (jo_at (jk_20_100)) (jo_at (jk_20_103)))) (jo_le (jo_le (jo_at (jk_20_105)) (jo_at (jk_20_106))) (jo_le (jo_at (jk_20_107)) (jo_at (jk_20_110)))))) (jo_le (jo_le (jo_le (jo_le (jo_le (jo_at (jk_20_113)) (jo_at (jk_20_114))) (jo_at (jk_20_117))) (jo_le (jo_at (jk_20_120)) (jo_at (jk_20_122)))) (jo_le (jo_le (jo_at (jk_20_123)) (jo_at (jk_20_124))) (jo_le (jo_at (jk_20_127)) (jo_at (jk_20_130))))) (jo_le (jo_le (jo_le (jo_le (jo_at (jk_20_131)) (jo_at (jk_20_134))) (jo_at (jk_20_137))) (jo_le (jo_at (jk_20_140)) (jo_at (jk_20_143)))) (jo_le (jo_le (jo_at (jk_20_146)) (jo_at (jk_20_148))) (jo_le (jo_at (jk_20_149)) (jo_at (jk_20_150)))))))
theorem ji_20 {l : Launch} {D : va_G} {cA : ClassId} {ρ : Nat → Nat} {Λ : List jx_Lc} {d : Nat} {Q : Option Value → jx_St → Prop} {σ : jx_St} {z0 : Nat} (h : jt_20 0 Λ jx_tb0 (jx_rn Λ jx_tb0 jt_20 (fun k' as σ K => jx_C l D cA ρ Λ d k' as σ K) Q (jx_J l D cA ρ Λ (jx_A ρ Λ) jx_tb0 (d + 1) 20 Q) [] 400) (fun k' as σ K => jx_C l D cA ρ Λ d k' as σ K) Q 0 [(0, .ref z0)] [] σ) : jx_C l D cA ρ Λ (d + 1) 20 [.ref z0] σ Q := jx_in jk_20 400 [] rfl (Nat.le_of_ble_eq_true rfl) h
/-! ScriptLedger.inputsAreUnspent()Z -/
theorem jd_21_0 : decode prog_1_method_22_code 0 = .ok (.iconst 0, 1) := by decide +kernel
theorem jd_21_1 : decode prog_1_method_22_code 1 = .ok (.istore_n 1, 1) := by decide +kernel
theorem jd_21_2 : decode prog_1_method_22_code 2 = .ok (.iload_n 1, 1) := by decide +kernel
theorem jd_21_3 : decode prog_1_method_22_code 3 = .ok (.aload_n 0, 1) := by decide +kernel
theorem jd_21_4 : decode prog_1_method_22_code 4 = .ok (.getfield 35, 3) := by decide +kernel
theorem jd_21_7 : decode prog_1_method_22_code 7 = .ok (.getfield 90, 3) := by decide +kernel
theorem jd_21_10 : decode prog_1_method_22_code 10 = .ok (.if_icmp .ge 30, 3) := by decide +kernel
theorem jd_21_13 : decode prog_1_method_22_code 13 = .ok (.aload_n 0, 1) := by decide +kernel
theorem jd_21_14 : decode prog_1_method_22_code 14 = .ok (.getfield 28, 3) := by decide +kernel
theorem jd_21_17 : decode prog_1_method_22_code 17 = .ok (.aload_n 0, 1) := by decide +kernel
theorem jd_21_18 : decode prog_1_method_22_code 18 = .ok (.getfield 35, 3) := by decide +kernel
theorem jd_21_21 : decode prog_1_method_22_code 21 = .ok (.getfield 208, 3) := by decide +kernel
theorem jd_21_24 : decode prog_1_method_22_code 24 = .ok (.iload_n 1, 1) := by decide +kernel
theorem jd_21_25 : decode prog_1_method_22_code 25 = .ok (.iaload, 1) := by decide +kernel
theorem jd_21_26 : decode prog_1_method_22_code 26 = .ok (.invokevirtual 168, 3) := by decide +kernel
theorem jd_21_29 : decode prog_1_method_22_code 29 = .ok (.ifCond .ne 5, 3) := by decide +kernel
theorem jd_21_32 : decode prog_1_method_22_code 32 = .ok (.iconst 0, 1) := by decide +kernel
theorem jd_21_33 : decode prog_1_method_22_code 33 = .ok (.ireturn, 1) := by decide +kernel
theorem jd_21_34 : decode prog_1_method_22_code 34 = .ok (.iinc 1 1, 3) := by decide +kernel
theorem jd_21_37 : decode prog_1_method_22_code 37 = .ok (.goto (-35), 3) := by decide +kernel
theorem jd_21_40 : decode prog_1_method_22_code 40 = .ok (.iconst 1, 1) := by decide +kernel
theorem jd_21_41 : decode prog_1_method_22_code 41 = .ok (.ireturn, 1) := by decide +kernel
def jt_21 (pc : Nat) : jx_Sp := bif Nat.ble pc 18 then (bif Nat.ble pc 7 then (bif Nat.ble pc 2 then (bif Nat.ble pc 1 then (bif Nat.ble pc 0 then (bif Nat.beq pc 0 then js_c 0 1 else js_none) else (bif Nat.beq pc 1 then js_is 1 1 else js_none)) else (bif Nat.beq pc 2 then js_il 1 1 else js_none)) else (bif Nat.ble pc 4 then (bif Nat.ble pc 3 then (bif Nat.beq pc 3 then js_al 0 1 else js_none) else (bif Nat.beq pc 4 then js_getf 0 3 else js_none)) else (bif Nat.beq pc 7 then js_getf 7 2 else js_none))) else (bif Nat.ble pc 14 then (bif Nat.ble pc 13 then (bif Nat.ble pc 10 then (bif Nat.beq pc 10 then js_cge 40 else js_none) else (bif Nat.beq pc 13 then js_al 0 1 else js_none)) else (bif Nat.beq pc 14 then js_getf 0 2 else js_none)) else (bif Nat.ble pc 17 then (bif Nat.beq pc 17 then js_al 0 1 else js_none) else (bif Nat.beq pc 18 then js_getf 0 3 else js_none)))) else (bif Nat.ble pc 32 then (bif Nat.ble pc 25 then (bif Nat.ble pc 24 then (bif Nat.ble pc 21 then (bif Nat.beq pc 21 then js_getf 7 0 else js_none) else (bif Nat.beq pc 24 then js_il 1 1 else js_none)) else (bif Nat.beq pc 25 then js_ald else js_none)) else (bif Nat.ble pc 29 then (bif Nat.ble pc 26 then (bif Nat.beq pc 26 then js_v1 5 69 else js_none) else (bif Nat.beq pc 29 then js_ifne 34 else js_none)) else (bif Nat.beq pc 32 then js_c 0 1 else js_none))) else (bif Nat.ble pc 37 then (bif Nat.ble pc 34 then (bif Nat.ble pc 33 then (bif Nat.beq pc 33 then js_zr else js_none) else (bif Nat.beq pc 34 then js_inc 1 1 else js_none)) else (bif Nat.beq pc 37 then js_go 2 else js_none)) else (bif Nat.ble pc 40 then (bif Nat.beq pc 40 then js_c 1 1 else js_none) else (bif Nat.beq pc 41 then js_zr else js_none))))
theorem jk_21_0 : jx_Snd 21 0 (js_c 0 1) := jo_iconst (z := 0) jd_21_0 rfl
theorem jk_21_1 : jx_Snd 21 1 (js_is 1 1) := jo_istore_n (i := 1) (w := 1) rfl (Nat.le_of_ble_eq_true rfl) jd_21_1
theorem jk_21_2 : jx_Snd 21 2 (js_il 1 1) := jo_iload_n (i := 1) (w := 1) rfl jd_21_2
theorem jk_21_3 : jx_Snd 21 3 (js_al 0 1) := jo_aload_n (i := 0) (w := 0) rfl jd_21_3
theorem jk_21_4 : jx_Snd 21 4 (js_getf 0 3) := jo_getf rfl jf_0_35 jd_21_4
theorem jk_21_7 : jx_Snd 21 7 (js_getf 7 2) := jo_getf rfl jf_0_90 jd_21_7
theorem jk_21_10 : jx_Snd 21 10 (js_cge 40) := jo_cge (o := 30) rfl jd_21_10
theorem jk_21_13 : jx_Snd 21 13 (js_al 0 1) := jo_aload_n (i := 0) (w := 0) rfl jd_21_13
theorem jk_21_14 : jx_Snd 21 14 (js_getf 0 2) := jo_getf rfl jf_0_28 jd_21_14
theorem jk_21_17 : jx_Snd 21 17 (js_al 0 1) := jo_aload_n (i := 0) (w := 0) rfl jd_21_17
theorem jk_21_18 : jx_Snd 21 18 (js_getf 0 3) := jo_getf rfl jf_0_35 jd_21_18
theorem jk_21_21 : jx_Snd 21 21 (js_getf 7 0) := jo_getf rfl jf_0_208 jd_21_21
theorem jk_21_24 : jx_Snd 21 24 (js_il 1 1) := jo_iload_n (i := 1) (w := 1) rfl jd_21_24
theorem jk_21_25 : jx_Snd 21 25 (js_ald) := jo_ald jd_21_25
theorem jk_21_26 : jx_Snd 21 26 (js_v1 5 69) := jo_v1 rfl jok_69 (Or.inl jw_345) jw_346 jw_347 rfl jd_21_26
theorem jk_21_29 : jx_Snd 21 29 (js_ifne 34) := jo_ifne (o := 5) rfl jd_21_29
theorem jk_21_32 : jx_Snd 21 32 (js_c 0 1) := jo_iconst (z := 0) jd_21_32 rfl
theorem jk_21_33 : jx_Snd 21 33 (js_zr) := jo_zr rfl jd_21_33
theorem jk_21_34 : jx_Snd 21 34 (js_inc 1 1) := jo_iinc (w := 1) rfl (Nat.le_of_ble_eq_true rfl) jd_21_34
theorem jk_21_37 : jx_Snd 21 37 (js_go 2) := jo_goto (o := (-35)) rfl jd_21_37
theorem jk_21_40 : jx_Snd 21 40 (js_c 1 1) := jo_iconst (z := 1) jd_21_40 rfl
theorem jk_21_41 : jx_Snd 21 41 (js_zr) := jo_zr rfl jd_21_41
theorem jk_21 : jx_So 21 jt_21 := fun pc => jo_le (jo_le (jo_le (jo_le (jo_le (jo_at (jk_21_0)) (jo_at (jk_21_1))) (jo_at (jk_21_2))) (jo_le (jo_le (jo_at (jk_21_3)) (jo_at (jk_21_4))) (jo_at (jk_21_7)))) (jo_le (jo_le (jo_le (jo_at (jk_21_10)) (jo_at (jk_21_13))) (jo_at (jk_21_14))) (jo_le (jo_at (jk_21_17)) (jo_at (jk_21_18))))) (jo_le (jo_le (jo_le (jo_le (jo_at (jk_21_21)) (jo_at (jk_21_24))) (jo_at (jk_21_25))) (jo_le (jo_le (jo_at (jk_21_26)) (jo_at (jk_21_29))) (jo_at (jk_21_32)))) (jo_le (jo_le (jo_le (jo_at (jk_21_33)) (jo_at (jk_21_34))) (jo_at (jk_21_37))) (jo_le (jo_at (jk_21_40)) (jo_at (jk_21_41)))))
theorem ji_21 {l : Launch} {D : va_G} {cA : ClassId} {ρ : Nat → Nat} {Λ : List jx_Lc} {d : Nat} {Q : Option Value → jx_St → Prop} {σ : jx_St} {z0 : Nat} (h : jt_21 0 Λ jx_tb0 (jx_rn Λ jx_tb0 jt_21 (fun k' as σ K => jx_C l D cA ρ Λ d k' as σ K) Q (jx_J l D cA ρ Λ (jx_A ρ Λ) jx_tb0 (d + 1) 21 Q) [] 400) (fun k' as σ K => jx_C l D cA ρ Λ d k' as σ K) Q 0 [(0, .ref z0)] [] σ) : jx_C l D cA ρ Λ (d + 1) 21 [.ref z0] σ Q := jx_in jk_21 400 [] rfl (Nat.le_of_ble_eq_true rfl) h
end
