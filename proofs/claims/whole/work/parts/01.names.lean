-- ===== PART A: goes FIRST, ahead of the names: the tables' words, and 'selects' of the private methods out of them =====
/-- a private method of a class that the tables say can be made, by its rows of tables_1 -/
def lw_okq (q : MethodName × Nat) : Prop := (q.1.cls ≠ "java/lang/invoke/MethodHandle" ∧ q.1.cls ≠ "java/lang/invoke/VarHandle") ∧ Cond.instantiable q.1.cls q.2 ∈ tables_1 ∧ Cond.privateMethod q.1 ∈ tables_1 ∧ Cond.instanceMethod q.1 ∈ tables_1
theorem lw_p0 : lw_okq (⟨"java/lang/Throwable", "fillInStackTrace", "(I)Ljava/lang/Throwable;"⟩, 6) := ⟨⟨by decide +kernel, by decide +kernel⟩, List.mem_of_getElem? (i := 304) (by decide +kernel), List.mem_of_getElem? (i := 302) (by decide +kernel), List.mem_of_getElem? (i := 303) (by decide +kernel)⟩
theorem lw_p1 : lw_okq (⟨"LineDebugger$Line", "writeRequest", "(III)V"⟩, 11) := ⟨⟨by decide +kernel, by decide +kernel⟩, List.mem_of_getElem? (i := 87) (by decide +kernel), List.mem_of_getElem? (i := 367) (by decide +kernel), List.mem_of_getElem? (i := 368) (by decide +kernel)⟩
theorem lw_p2 : lw_okq (⟨"LineDebugger$Line", "carry", "([II)Z"⟩, 11) := ⟨⟨by decide +kernel, by decide +kernel⟩, List.mem_of_getElem? (i := 87) (by decide +kernel), List.mem_of_getElem? (i := 380) (by decide +kernel), List.mem_of_getElem? (i := 381) (by decide +kernel)⟩
theorem lw_p3 : lw_okq (⟨"LineDebugger$Line", "takeFault", "()I"⟩, 11) := ⟨⟨by decide +kernel, by decide +kernel⟩, List.mem_of_getElem? (i := 87) (by decide +kernel), List.mem_of_getElem? (i := 384) (by decide +kernel), List.mem_of_getElem? (i := 385) (by decide +kernel)⟩
theorem lw_p4 : lw_okq (⟨"LineDebugger$Stub", "perform", "(III)I"⟩, 7) := ⟨⟨by decide +kernel, by decide +kernel⟩, List.mem_of_getElem? (i := 55) (by decide +kernel), List.mem_of_getElem? (i := 399) (by decide +kernel), List.mem_of_getElem? (i := 400) (by decide +kernel)⟩
theorem lw_p5 : lw_okq (⟨"LineDebugger$Stub", "refuse", "()I"⟩, 7) := ⟨⟨by decide +kernel, by decide +kernel⟩, List.mem_of_getElem? (i := 55) (by decide +kernel), List.mem_of_getElem? (i := 406) (by decide +kernel), List.mem_of_getElem? (i := 407) (by decide +kernel)⟩
theorem lw_p6 : lw_okq (⟨"LineDebugger$Stub", "writeRegister", "(II)I"⟩, 7) := ⟨⟨by decide +kernel, by decide +kernel⟩, List.mem_of_getElem? (i := 55) (by decide +kernel), List.mem_of_getElem? (i := 410) (by decide +kernel), List.mem_of_getElem? (i := 411) (by decide +kernel)⟩
theorem lw_p7 : lw_okq (⟨"LineDebugger$Stub", "readWord", "(I)I"⟩, 7) := ⟨⟨by decide +kernel, by decide +kernel⟩, List.mem_of_getElem? (i := 55) (by decide +kernel), List.mem_of_getElem? (i := 414) (by decide +kernel), List.mem_of_getElem? (i := 415) (by decide +kernel)⟩
theorem lw_p8 : lw_okq (⟨"LineDebugger$Stub", "writeWord", "(II)I"⟩, 7) := ⟨⟨by decide +kernel, by decide +kernel⟩, List.mem_of_getElem? (i := 55) (by decide +kernel), List.mem_of_getElem? (i := 419) (by decide +kernel), List.mem_of_getElem? (i := 420) (by decide +kernel)⟩
theorem lw_p9 : lw_okq (⟨"LineDebugger$Stub", "putBreakpoint", "(I)I"⟩, 7) := ⟨⟨by decide +kernel, by decide +kernel⟩, List.mem_of_getElem? (i := 55) (by decide +kernel), List.mem_of_getElem? (i := 423) (by decide +kernel), List.mem_of_getElem? (i := 424) (by decide +kernel)⟩
theorem lw_p10 : lw_okq (⟨"LineDebugger$Stub", "takeBreakpoint", "(I)I"⟩, 7) := ⟨⟨by decide +kernel, by decide +kernel⟩, List.mem_of_getElem? (i := 55) (by decide +kernel), List.mem_of_getElem? (i := 427) (by decide +kernel), List.mem_of_getElem? (i := 428) (by decide +kernel)⟩
theorem lw_p11 : lw_okq (⟨"LineDebugger$Stub", "hasBreakpoint", "(I)Z"⟩, 7) := ⟨⟨by decide +kernel, by decide +kernel⟩, List.mem_of_getElem? (i := 55) (by decide +kernel), List.mem_of_getElem? (i := 431) (by decide +kernel), List.mem_of_getElem? (i := 432) (by decide +kernel)⟩
theorem lw_p12 : lw_okq (⟨"LineDebugger$Stub", "firstInstruction", "()I"⟩, 7) := ⟨⟨by decide +kernel, by decide +kernel⟩, List.mem_of_getElem? (i := 55) (by decide +kernel), List.mem_of_getElem? (i := 435) (by decide +kernel), List.mem_of_getElem? (i := 436) (by decide +kernel)⟩
theorem lw_p13 : lw_okq (⟨"LineDebugger$Stub", "run", "(II)I"⟩, 7) := ⟨⟨by decide +kernel, by decide +kernel⟩, List.mem_of_getElem? (i := 55) (by decide +kernel), List.mem_of_getElem? (i := 451) (by decide +kernel), List.mem_of_getElem? (i := 452) (by decide +kernel)⟩
theorem lw_p14 : lw_okq (⟨"LineDebugger$Expression", "push", "(I)V"⟩, 5) := ⟨⟨by decide +kernel, by decide +kernel⟩, List.mem_of_getElem? (i := 193) (by decide +kernel), List.mem_of_getElem? (i := 594) (by decide +kernel), List.mem_of_getElem? (i := 595) (by decide +kernel)⟩
theorem lw_p15 : lw_okq (⟨"LineDebugger$Expression", "need", "(I)V"⟩, 5) := ⟨⟨by decide +kernel, by decide +kernel⟩, List.mem_of_getElem? (i := 193) (by decide +kernel), List.mem_of_getElem? (i := 599) (by decide +kernel), List.mem_of_getElem? (i := 600) (by decide +kernel)⟩
def lw_privs_1 : List (MethodName × Nat) := [(⟨"java/lang/Throwable", "fillInStackTrace", "(I)Ljava/lang/Throwable;"⟩, 6), (⟨"LineDebugger$Line", "writeRequest", "(III)V"⟩, 11), (⟨"LineDebugger$Line", "carry", "([II)Z"⟩, 11), (⟨"LineDebugger$Line", "takeFault", "()I"⟩, 11), (⟨"LineDebugger$Stub", "perform", "(III)I"⟩, 7), (⟨"LineDebugger$Stub", "refuse", "()I"⟩, 7), (⟨"LineDebugger$Stub", "writeRegister", "(II)I"⟩, 7), (⟨"LineDebugger$Stub", "readWord", "(I)I"⟩, 7), (⟨"LineDebugger$Stub", "writeWord", "(II)I"⟩, 7), (⟨"LineDebugger$Stub", "putBreakpoint", "(I)I"⟩, 7), (⟨"LineDebugger$Stub", "takeBreakpoint", "(I)I"⟩, 7), (⟨"LineDebugger$Stub", "hasBreakpoint", "(I)Z"⟩, 7), (⟨"LineDebugger$Stub", "firstInstruction", "()I"⟩, 7), (⟨"LineDebugger$Stub", "run", "(II)I"⟩, 7), (⟨"LineDebugger$Expression", "push", "(I)V"⟩, 5), (⟨"LineDebugger$Expression", "need", "(I)V"⟩, 5)]
theorem lw_r1 : ∀ q ∈ lw_privs_1, lw_okq q := List.forall_mem_cons.mpr ⟨lw_p0, List.forall_mem_cons.mpr ⟨lw_p1, List.forall_mem_cons.mpr ⟨lw_p2, List.forall_mem_cons.mpr ⟨lw_p3, List.forall_mem_cons.mpr ⟨lw_p4, List.forall_mem_cons.mpr ⟨lw_p5, List.forall_mem_cons.mpr ⟨lw_p6, List.forall_mem_cons.mpr ⟨lw_p7, List.forall_mem_cons.mpr ⟨lw_p8, List.forall_mem_cons.mpr ⟨lw_p9, List.forall_mem_cons.mpr ⟨lw_p10, List.forall_mem_cons.mpr ⟨lw_p11, List.forall_mem_cons.mpr ⟨lw_p12, List.forall_mem_cons.mpr ⟨lw_p13, List.forall_mem_cons.mpr ⟨lw_p14, List.forall_mem_cons.mpr ⟨lw_p15, fun _ h => absurd h List.not_mem_nil⟩⟩⟩⟩⟩⟩⟩⟩⟩⟩⟩⟩⟩⟩⟩⟩
theorem lw_p16 : lw_okq (⟨"LineDebugger$Expression", "changePlaces", "()V"⟩, 5) := ⟨⟨by decide +kernel, by decide +kernel⟩, List.mem_of_getElem? (i := 193) (by decide +kernel), List.mem_of_getElem? (i := 609) (by decide +kernel), List.mem_of_getElem? (i := 610) (by decide +kernel)⟩
theorem lw_p17 : lw_okq (⟨"LineDebuggerModel", "ask", "(III)I"⟩, 36) := ⟨⟨by decide +kernel, by decide +kernel⟩, List.mem_of_getElem? (i := 636) (by decide +kernel), List.mem_of_getElem? (i := 770) (by decide +kernel), List.mem_of_getElem? (i := 771) (by decide +kernel)⟩
theorem lw_p18 : lw_okq (⟨"LineDebuggerModel", "sendOut", "(III)Z"⟩, 36) := ⟨⟨by decide +kernel, by decide +kernel⟩, List.mem_of_getElem? (i := 636) (by decide +kernel), List.mem_of_getElem? (i := 774) (by decide +kernel), List.mem_of_getElem? (i := 775) (by decide +kernel)⟩
theorem lw_p19 : lw_okq (⟨"LineDebuggerModel", "put", "(II)V"⟩, 36) := ⟨⟨by decide +kernel, by decide +kernel⟩, List.mem_of_getElem? (i := 636) (by decide +kernel), List.mem_of_getElem? (i := 778) (by decide +kernel), List.mem_of_getElem? (i := 779) (by decide +kernel)⟩
theorem lw_p20 : lw_okq (⟨"LineDebuggerModel", "sum", "(I)I"⟩, 36) := ⟨⟨by decide +kernel, by decide +kernel⟩, List.mem_of_getElem? (i := 636) (by decide +kernel), List.mem_of_getElem? (i := 782) (by decide +kernel), List.mem_of_getElem? (i := 783) (by decide +kernel)⟩
theorem lw_p21 : lw_okq (⟨"LineDebuggerModel", "arrives", "(I)Z"⟩, 36) := ⟨⟨by decide +kernel, by decide +kernel⟩, List.mem_of_getElem? (i := 636) (by decide +kernel), List.mem_of_getElem? (i := 786) (by decide +kernel), List.mem_of_getElem? (i := 787) (by decide +kernel)⟩
theorem lw_p22 : lw_okq (⟨"LineDebuggerModel", "answered", "()Z"⟩, 36) := ⟨⟨by decide +kernel, by decide +kernel⟩, List.mem_of_getElem? (i := 636) (by decide +kernel), List.mem_of_getElem? (i := 790) (by decide +kernel), List.mem_of_getElem? (i := 791) (by decide +kernel)⟩
theorem lw_p23 : lw_okq (⟨"LineDebuggerModel", "read", "(I)I"⟩, 36) := ⟨⟨by decide +kernel, by decide +kernel⟩, List.mem_of_getElem? (i := 636) (by decide +kernel), List.mem_of_getElem? (i := 794) (by decide +kernel), List.mem_of_getElem? (i := 795) (by decide +kernel)⟩
theorem lw_p24 : lw_okq (⟨"LineDebuggerModel", "perform", "(III)V"⟩, 36) := ⟨⟨by decide +kernel, by decide +kernel⟩, List.mem_of_getElem? (i := 636) (by decide +kernel), List.mem_of_getElem? (i := 798) (by decide +kernel), List.mem_of_getElem? (i := 799) (by decide +kernel)⟩
theorem lw_p25 : lw_okq (⟨"LineDebuggerModel", "answer", "(II)V"⟩, 36) := ⟨⟨by decide +kernel, by decide +kernel⟩, List.mem_of_getElem? (i := 636) (by decide +kernel), List.mem_of_getElem? (i := 802) (by decide +kernel), List.mem_of_getElem? (i := 803) (by decide +kernel)⟩
theorem lw_p26 : lw_okq (⟨"LineDebuggerModel", "word", "(IIZ)V"⟩, 36) := ⟨⟨by decide +kernel, by decide +kernel⟩, List.mem_of_getElem? (i := 636) (by decide +kernel), List.mem_of_getElem? (i := 806) (by decide +kernel), List.mem_of_getElem? (i := 807) (by decide +kernel)⟩
theorem lw_p27 : lw_okq (⟨"LineDebuggerModel", "breakOf", "(I)I"⟩, 36) := ⟨⟨by decide +kernel, by decide +kernel⟩, List.mem_of_getElem? (i := 636) (by decide +kernel), List.mem_of_getElem? (i := 810) (by decide +kernel), List.mem_of_getElem? (i := 811) (by decide +kernel)⟩
theorem lw_p28 : lw_okq (⟨"LineDebuggerModel", "putBreak", "(I)V"⟩, 36) := ⟨⟨by decide +kernel, by decide +kernel⟩, List.mem_of_getElem? (i := 636) (by decide +kernel), List.mem_of_getElem? (i := 814) (by decide +kernel), List.mem_of_getElem? (i := 815) (by decide +kernel)⟩
theorem lw_p29 : lw_okq (⟨"LineDebuggerModel", "takeBreak", "(I)V"⟩, 36) := ⟨⟨by decide +kernel, by decide +kernel⟩, List.mem_of_getElem? (i := 636) (by decide +kernel), List.mem_of_getElem? (i := 818) (by decide +kernel), List.mem_of_getElem? (i := 819) (by decide +kernel)⟩
theorem lw_p30 : lw_okq (⟨"LineDebuggerModel", "step", "(Z)I"⟩, 36) := ⟨⟨by decide +kernel, by decide +kernel⟩, List.mem_of_getElem? (i := 636) (by decide +kernel), List.mem_of_getElem? (i := 822) (by decide +kernel), List.mem_of_getElem? (i := 823) (by decide +kernel)⟩
theorem lw_p31 : lw_okq (⟨"LineDebuggerModel", "set", "(II)I"⟩, 36) := ⟨⟨by decide +kernel, by decide +kernel⟩, List.mem_of_getElem? (i := 636) (by decide +kernel), List.mem_of_getElem? (i := 826) (by decide +kernel), List.mem_of_getElem? (i := 827) (by decide +kernel)⟩
def lw_privs_2 : List (MethodName × Nat) := [(⟨"LineDebugger$Expression", "changePlaces", "()V"⟩, 5), (⟨"LineDebuggerModel", "ask", "(III)I"⟩, 36), (⟨"LineDebuggerModel", "sendOut", "(III)Z"⟩, 36), (⟨"LineDebuggerModel", "put", "(II)V"⟩, 36), (⟨"LineDebuggerModel", "sum", "(I)I"⟩, 36), (⟨"LineDebuggerModel", "arrives", "(I)Z"⟩, 36), (⟨"LineDebuggerModel", "answered", "()Z"⟩, 36), (⟨"LineDebuggerModel", "read", "(I)I"⟩, 36), (⟨"LineDebuggerModel", "perform", "(III)V"⟩, 36), (⟨"LineDebuggerModel", "answer", "(II)V"⟩, 36), (⟨"LineDebuggerModel", "word", "(IIZ)V"⟩, 36), (⟨"LineDebuggerModel", "breakOf", "(I)I"⟩, 36), (⟨"LineDebuggerModel", "putBreak", "(I)V"⟩, 36), (⟨"LineDebuggerModel", "takeBreak", "(I)V"⟩, 36), (⟨"LineDebuggerModel", "step", "(Z)I"⟩, 36), (⟨"LineDebuggerModel", "set", "(II)I"⟩, 36)]
theorem lw_r2 : ∀ q ∈ lw_privs_2, lw_okq q := List.forall_mem_cons.mpr ⟨lw_p16, List.forall_mem_cons.mpr ⟨lw_p17, List.forall_mem_cons.mpr ⟨lw_p18, List.forall_mem_cons.mpr ⟨lw_p19, List.forall_mem_cons.mpr ⟨lw_p20, List.forall_mem_cons.mpr ⟨lw_p21, List.forall_mem_cons.mpr ⟨lw_p22, List.forall_mem_cons.mpr ⟨lw_p23, List.forall_mem_cons.mpr ⟨lw_p24, List.forall_mem_cons.mpr ⟨lw_p25, List.forall_mem_cons.mpr ⟨lw_p26, List.forall_mem_cons.mpr ⟨lw_p27, List.forall_mem_cons.mpr ⟨lw_p28, List.forall_mem_cons.mpr ⟨lw_p29, List.forall_mem_cons.mpr ⟨lw_p30, List.forall_mem_cons.mpr ⟨lw_p31, fun _ h => absurd h List.not_mem_nil⟩⟩⟩⟩⟩⟩⟩⟩⟩⟩⟩⟩⟩⟩⟩⟩
theorem lw_p32 : lw_okq (⟨"LineDebuggerModel", "done", "(I)I"⟩, 36) := ⟨⟨by decide +kernel, by decide +kernel⟩, List.mem_of_getElem? (i := 636) (by decide +kernel), List.mem_of_getElem? (i := 830) (by decide +kernel), List.mem_of_getElem? (i := 831) (by decide +kernel)⟩
theorem lw_p33 : lw_okq (⟨"LineDebuggerModel", "moved", "(III)I"⟩, 36) := ⟨⟨by decide +kernel, by decide +kernel⟩, List.mem_of_getElem? (i := 636) (by decide +kernel), List.mem_of_getElem? (i := 834) (by decide +kernel), List.mem_of_getElem? (i := 835) (by decide +kernel)⟩
theorem lw_p34 : lw_okq (⟨"LineDebuggerModel", "steps", "(I)I"⟩, 36) := ⟨⟨by decide +kernel, by decide +kernel⟩, List.mem_of_getElem? (i := 636) (by decide +kernel), List.mem_of_getElem? (i := 838) (by decide +kernel), List.mem_of_getElem? (i := 839) (by decide +kernel)⟩
theorem lw_p35 : lw_okq (⟨"LineDebuggerModel", "next", "()I"⟩, 36) := ⟨⟨by decide +kernel, by decide +kernel⟩, List.mem_of_getElem? (i := 636) (by decide +kernel), List.mem_of_getElem? (i := 858) (by decide +kernel), List.mem_of_getElem? (i := 859) (by decide +kernel)⟩
theorem lw_p36 : lw_okq (⟨"LineDebuggerModel", "ruleOf", "(I)I"⟩, 36) := ⟨⟨by decide +kernel, by decide +kernel⟩, List.mem_of_getElem? (i := 636) (by decide +kernel), List.mem_of_getElem? (i := 862) (by decide +kernel), List.mem_of_getElem? (i := 863) (by decide +kernel)⟩
theorem lw_p37 : lw_okq (⟨"LineDebuggerModel", "fetch", "(II)I"⟩, 36) := ⟨⟨by decide +kernel, by decide +kernel⟩, List.mem_of_getElem? (i := 636) (by decide +kernel), List.mem_of_getElem? (i := 866) (by decide +kernel), List.mem_of_getElem? (i := 867) (by decide +kernel)⟩
theorem lw_p38 : lw_okq (⟨"LineDebuggerModel", "operate", "(III)I"⟩, 36) := ⟨⟨by decide +kernel, by decide +kernel⟩, List.mem_of_getElem? (i := 636) (by decide +kernel), List.mem_of_getElem? (i := 886) (by decide +kernel), List.mem_of_getElem? (i := 887) (by decide +kernel)⟩
theorem lw_p39 : lw_okq (⟨"LineDebuggerModel", "push", "(I)I"⟩, 36) := ⟨⟨by decide +kernel, by decide +kernel⟩, List.mem_of_getElem? (i := 636) (by decide +kernel), List.mem_of_getElem? (i := 890) (by decide +kernel), List.mem_of_getElem? (i := 891) (by decide +kernel)⟩
theorem lw_p40 : lw_okq (⟨"LineDebuggerModel", "wordOnTop", "()I"⟩, 36) := ⟨⟨by decide +kernel, by decide +kernel⟩, List.mem_of_getElem? (i := 636) (by decide +kernel), List.mem_of_getElem? (i := 894) (by decide +kernel), List.mem_of_getElem? (i := 895) (by decide +kernel)⟩
theorem lw_p41 : lw_okq (⟨"LineDebuggerModel", "join", "(I)I"⟩, 36) := ⟨⟨by decide +kernel, by decide +kernel⟩, List.mem_of_getElem? (i := 636) (by decide +kernel), List.mem_of_getElem? (i := 898) (by decide +kernel), List.mem_of_getElem? (i := 899) (by decide +kernel)⟩
def lw_privs_3 : List (MethodName × Nat) := [(⟨"LineDebuggerModel", "done", "(I)I"⟩, 36), (⟨"LineDebuggerModel", "moved", "(III)I"⟩, 36), (⟨"LineDebuggerModel", "steps", "(I)I"⟩, 36), (⟨"LineDebuggerModel", "next", "()I"⟩, 36), (⟨"LineDebuggerModel", "ruleOf", "(I)I"⟩, 36), (⟨"LineDebuggerModel", "fetch", "(II)I"⟩, 36), (⟨"LineDebuggerModel", "operate", "(III)I"⟩, 36), (⟨"LineDebuggerModel", "push", "(I)I"⟩, 36), (⟨"LineDebuggerModel", "wordOnTop", "()I"⟩, 36), (⟨"LineDebuggerModel", "join", "(I)I"⟩, 36)]
theorem lw_r3 : ∀ q ∈ lw_privs_3, lw_okq q := List.forall_mem_cons.mpr ⟨lw_p32, List.forall_mem_cons.mpr ⟨lw_p33, List.forall_mem_cons.mpr ⟨lw_p34, List.forall_mem_cons.mpr ⟨lw_p35, List.forall_mem_cons.mpr ⟨lw_p36, List.forall_mem_cons.mpr ⟨lw_p37, List.forall_mem_cons.mpr ⟨lw_p38, List.forall_mem_cons.mpr ⟨lw_p39, List.forall_mem_cons.mpr ⟨lw_p40, List.forall_mem_cons.mpr ⟨lw_p41, fun _ h => absurd h List.not_mem_nil⟩⟩⟩⟩⟩⟩⟩⟩⟩⟩
def lw_privs : List (MethodName × Nat) := lw_privs_1 ++ (lw_privs_2 ++ (lw_privs_3))
def lw_tbl : List Cond := k2_sels lw_privs ++ tables_1
theorem lw_privs_ok : ∀ q ∈ lw_privs, lw_okq q := by
  show ∀ q ∈ lw_privs_1 ++ (lw_privs_2 ++ (lw_privs_3)), lw_okq q
  exact List.forall_mem_append.mpr ⟨lw_r1, List.forall_mem_append.mpr ⟨lw_r2, lw_r3⟩⟩
/-! The classes whose objects the memory holds: names, fields, types. -/
def am_F0 : u_T := fun k => match k with
  | 0 => ("LineDebugger", "machine", "LLineDebugger$Machine;", true)
  | 1 => ("LineDebugger", "stub", "LLineDebugger$Stub;", true)
  | 2 => ("LineDebugger", "line", "LLineDebugger$Line;", true)
  | 3 => ("LineDebugger", "rules", "LLineDebugger$RuleTable;", true)
  | 4 => ("LineDebugger", "backtrace", "LLineDebugger$Backtrace;", true)
  | _ => ("LineDebugger", "expression", "LLineDebugger$Expression;", true)
def am_ty0 : Nat → FieldType := fun k => match k with
  | 0 => .object "LineDebugger$Machine"
  | 1 => .object "LineDebugger$Stub"
  | 2 => .object "LineDebugger$Line"
  | 3 => .object "LineDebugger$RuleTable"
  | 4 => .object "LineDebugger$Backtrace"
  | _ => .object "LineDebugger$Expression"
def am_F1 : u_T := fun k => match k with
  | 0 => ("LineDebugger$Machine", "words", "[I", true)
  | 1 => ("LineDebugger$Machine", "registers", "[I", true)
  | 2 => ("LineDebugger$Machine", "pc", "I", false)
  | _ => ("LineDebugger$Machine", "steps", "I", false)
def am_ty1 : Nat → FieldType := fun k => match k with
  | 0 => .array .int
  | 1 => .array .int
  | 2 => .int
  | _ => .int
def am_F2 : u_T := fun k => match k with
  | 0 => ("LineDebugger$Stub", "answer", "[I", true)
  | 1 => ("LineDebugger$Stub", "breakpoints", "I", false)
  | 2 => ("LineDebugger$Stub", "machine", "LLineDebugger$Machine;", true)
  | 3 => ("LineDebugger$Stub", "isBreakpoint", "[Z", true)
  | 4 => ("LineDebugger$Stub", "wordUnder", "[I", true)
  | 5 => ("LineDebugger$Stub", "latestDone", "I", false)
  | _ => ("LineDebugger$Stub", "status", "I", false)
def am_ty2 : Nat → FieldType := fun k => match k with
  | 0 => .array .int
  | 1 => .int
  | 2 => .object "LineDebugger$Machine"
  | 3 => .array .boolean
  | 4 => .array .int
  | 5 => .int
  | _ => .int
def am_F3 : u_T := fun k => match k with
  | 0 => ("LineDebugger$Line", "request", "[I", true)
  | 1 => ("LineDebugger$Line", "status", "I", false)
  | 2 => ("LineDebugger$Line", "requests", "I", false)
  | 3 => ("LineDebugger$Line", "debuggerFrames", "I", false)
  | 4 => ("LineDebugger$Line", "stubFrames", "I", false)
  | 5 => ("LineDebugger$Line", "thrownAway", "I", false)
  | 6 => ("LineDebugger$Line", "waitingFaults", "I", false)
  | 7 => ("LineDebugger$Line", "stub", "LLineDebugger$Stub;", true)
  | 8 => ("LineDebugger$Line", "faults", "[I", true)
  | 9 => ("LineDebugger$Line", "firstFault", "I", false)
  | _ => ("LineDebugger$Line", "arrived", "[I", true)
def am_ty3 : Nat → FieldType := fun k => match k with
  | 0 => .array .int
  | 1 => .int
  | 2 => .int
  | 3 => .int
  | 4 => .int
  | 5 => .int
  | 6 => .int
  | 7 => .object "LineDebugger$Stub"
  | 8 => .array .int
  | 9 => .int
  | _ => .array .int
def am_F4 : u_T := fun k => match k with
  | 0 => ("LineDebugger$RuleTable", "rows", "[LLineDebugger$Rule;", true)
  | _ => ("LineDebugger$RuleTable", "size", "I", false)
def am_ty4 : Nat → FieldType := fun k => match k with
  | 0 => .array (.object "LineDebugger$Rule")
  | _ => .int
def am_F5 : u_T := fun k => match k with
  | 0 => ("LineDebugger$Backtrace", "latest", "[[I", false)
  | 1 => ("LineDebugger$Backtrace", "size", "I", false)
  | _ => ("LineDebugger$Backtrace", "coming", "[[I", false)
def am_ty5 : Nat → FieldType := fun k => match k with
  | 0 => .array (.array .int)
  | 1 => .int
  | _ => .array (.array .int)
def am_F6 : u_T := fun k => match k with
  | 0 => ("LineDebugger$Expression", "size", "I", false)
  | 1 => ("LineDebugger$Expression", "depth", "I", false)
  | 2 => ("LineDebugger$Expression", "operations", "[I", true)
  | 3 => ("LineDebugger$Expression", "numbers", "[I", true)
  | _ => ("LineDebugger$Expression", "stack", "[I", true)
def am_ty6 : Nat → FieldType := fun k => match k with
  | 0 => .int
  | 1 => .int
  | 2 => .array .int
  | 3 => .array .int
  | _ => .array .int
def am_F7 : u_T := fun k => match k with
  | 0 => ("LineDebugger$Rule", "from", "I", false)
  | 1 => ("LineDebugger$Rule", "to", "I", false)
  | 2 => ("LineDebugger$Rule", "size", "I", false)
  | _ => ("LineDebugger$Rule", "slots", "[I", true)
def am_ty7 : Nat → FieldType := fun k => match k with
  | 0 => .int
  | 1 => .int
  | 2 => .int
  | _ => .array .int
def am_F8 : u_T := fun k => match k with
  | 0 => ("LineDebuggerModel", "memory", "[I", true)
  | 1 => ("LineDebuggerModel", "register", "[I", true)
  | 2 => ("LineDebuggerModel", "pc", "I", false)
  | 3 => ("LineDebuggerModel", "made", "I", false)
  | 4 => ("LineDebuggerModel", "breaks", "I", false)
  | 5 => ("LineDebuggerModel", "breakAt", "[I", true)
  | 6 => ("LineDebuggerModel", "breakWord", "[I", true)
  | 7 => ("LineDebuggerModel", "lastDone", "I", false)
  | 8 => ("LineDebuggerModel", "status", "I", false)
  | 9 => ("LineDebuggerModel", "value", "I", false)
  | 10 => ("LineDebuggerModel", "waiting", "I", false)
  | 11 => ("LineDebuggerModel", "fault", "[I", true)
  | 12 => ("LineDebuggerModel", "frame", "[I", true)
  | 13 => ("LineDebuggerModel", "latest", "[I", true)
  | 14 => ("LineDebuggerModel", "number", "I", false)
  | 15 => ("LineDebuggerModel", "requests", "I", false)
  | 16 => ("LineDebuggerModel", "sentOut", "I", false)
  | 17 => ("LineDebuggerModel", "sentBack", "I", false)
  | 18 => ("LineDebuggerModel", "thrownAway", "I", false)
  | 19 => ("LineDebuggerModel", "got", "I", false)
  | 20 => ("LineDebuggerModel", "rules", "I", false)
  | 21 => ("LineDebuggerModel", "from", "[I", true)
  | 22 => ("LineDebuggerModel", "to", "[I", true)
  | 23 => ("LineDebuggerModel", "sizeOf", "[I", true)
  | 24 => ("LineDebuggerModel", "slotOf", "[I", true)
  | 25 => ("LineDebuggerModel", "saved", "[I", true)
  | 26 => ("LineDebuggerModel", "frames", "I", false)
  | 27 => ("LineDebuggerModel", "unwound", "[I", true)
  | 28 => ("LineDebuggerModel", "newFrames", "I", false)
  | 29 => ("LineDebuggerModel", "fresh", "[I", true)
  | 30 => ("LineDebuggerModel", "operations", "I", false)
  | 31 => ("LineDebuggerModel", "operation", "[I", true)
  | 32 => ("LineDebuggerModel", "operand", "[I", true)
  | 33 => ("LineDebuggerModel", "high", "I", false)
  | 34 => ("LineDebuggerModel", "stack", "[I", true)
  | _ => ("LineDebuggerModel", "thrown", "I", false)
def am_ty8 : Nat → FieldType := fun k => match k with
  | 0 => .array .int
  | 1 => .array .int
  | 2 => .int
  | 3 => .int
  | 4 => .int
  | 5 => .array .int
  | 6 => .array .int
  | 7 => .int
  | 8 => .int
  | 9 => .int
  | 10 => .int
  | 11 => .array .int
  | 12 => .array .int
  | 13 => .array .int
  | 14 => .int
  | 15 => .int
  | 16 => .int
  | 17 => .int
  | 18 => .int
  | 19 => .int
  | 20 => .int
  | 21 => .array .int
  | 22 => .array .int
  | 23 => .array .int
  | 24 => .array .int
  | 25 => .array .int
  | 26 => .int
  | 27 => .array .int
  | 28 => .int
  | 29 => .array .int
  | 30 => .int
  | 31 => .array .int
  | 32 => .array .int
  | 33 => .int
  | 34 => .array .int
  | _ => .int
def am_C : Nat → String := fun b => match b with
  | 0 => "LineDebugger"
  | 1 => "LineDebugger$Machine"
  | 2 => "LineDebugger$Stub"
  | 3 => "LineDebugger$Line"
  | 4 => "LineDebugger$RuleTable"
  | 5 => "LineDebugger$Backtrace"
  | 6 => "LineDebugger$Expression"
  | 7 => "LineDebugger$Rule"
  | _ => "LineDebuggerModel"
def am_F : Nat → u_T := fun b => match b with
  | 0 => am_F0
  | 1 => am_F1
  | 2 => am_F2
  | 3 => am_F3
  | 4 => am_F4
  | 5 => am_F5
  | 6 => am_F6
  | 7 => am_F7
  | _ => am_F8
def am_ty : Nat → (Nat → FieldType) := fun b => match b with
  | 0 => am_ty0
  | 1 => am_ty1
  | 2 => am_ty2
  | 3 => am_ty3
  | 4 => am_ty4
  | 5 => am_ty5
  | 6 => am_ty6
  | 7 => am_ty7
  | _ => am_ty8
def am_N : Nat → Nat := fun b => match b with
  | 0 => 6
  | 1 => 4
  | 2 => 7
  | 3 => 11
  | 4 => 2
  | 5 => 3
  | 6 => 5
  | 7 => 4
  | _ => 36
def am_cl : List vw_C := (List.range 9).map fun b => (am_C b, am_F b, am_N b)
theorem am_cl_at (b : Nat) (h : b < 9) : am_cl[b]? = some (am_C b, am_F b, am_N b) := by simp [am_cl, List.getElem?_map, List.getElem?_range h]
theorem am_tyok : ∀ b, b < 9 → ∀ k, k < am_N b → parseFieldDescriptor (am_F b k).2.2.1 = some (am_ty b k) := by decide +kernel
theorem am_nm : ∀ b, b < 9 → ∀ a, a < am_N b → ∀ c, c < am_N b → a ≠ c → (am_F b a).2.1 ≠ (am_F b c).2.1 := by decide +kernel
theorem am_hu : ∀ b, b < 9 → ∀ w ∈ u_ws (am_C b) (am_F b) (am_N b), w ∈ lw_tbl := by decide +kernel
