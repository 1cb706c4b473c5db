section
-- ===== PART A: goes FIRST, ahead of the names: the tables' words, and 'selects' of the private methods out of them =====
/-- a private method of a class that the tables say can be made, by its rows of tables_1 -/
def lw_okq (q : MethodName × Nat) : Prop := (q.1.cls ≠ "java/lang/invoke/MethodHandle" ∧ q.1.cls ≠ "java/lang/invoke/VarHandle") ∧ Cond.instantiable q.1.cls q.2 ∈ tables_1 ∧ Cond.privateMethod q.1 ∈ tables_1 ∧ Cond.instanceMethod q.1 ∈ tables_1
theorem lw_p0 : lw_okq (⟨"TokenMouth", "startAnew", "()V"⟩, 14) := ⟨⟨by decide +kernel, by decide +kernel⟩, List.mem_of_getElem? (i := 23) (by decide +kernel), List.mem_of_getElem? (i := 273) (by decide +kernel), List.mem_of_getElem? (i := 274) (by decide +kernel)⟩
theorem lw_p1 : lw_okq (⟨"java/lang/Throwable", "fillInStackTrace", "(I)Ljava/lang/Throwable;"⟩, 6) := ⟨⟨by decide +kernel, by decide +kernel⟩, List.mem_of_getElem? (i := 340) (by decide +kernel), List.mem_of_getElem? (i := 338) (by decide +kernel), List.mem_of_getElem? (i := 339) (by decide +kernel)⟩
theorem lw_p2 : lw_okq (⟨"TokenMouth", "get", "(Z)I"⟩, 14) := ⟨⟨by decide +kernel, by decide +kernel⟩, List.mem_of_getElem? (i := 23) (by decide +kernel), List.mem_of_getElem? (i := 385) (by decide +kernel), List.mem_of_getElem? (i := 386) (by decide +kernel)⟩
theorem lw_p3 : lw_okq (⟨"TokenMouth", "fail", "(I)I"⟩, 14) := ⟨⟨by decide +kernel, by decide +kernel⟩, List.mem_of_getElem? (i := 23) (by decide +kernel), List.mem_of_getElem? (i := 406) (by decide +kernel), List.mem_of_getElem? (i := 407) (by decide +kernel)⟩
theorem lw_p4 : lw_okq (⟨"TokenMouth", "meaningOf", "(I)I"⟩, 14) := ⟨⟨by decide +kernel, by decide +kernel⟩, List.mem_of_getElem? (i := 23) (by decide +kernel), List.mem_of_getElem? (i := 415) (by decide +kernel), List.mem_of_getElem? (i := 416) (by decide +kernel)⟩
theorem lw_p5 : lw_okq (⟨"TokenMouth", "execute", "(I)V"⟩, 14) := ⟨⟨by decide +kernel, by decide +kernel⟩, List.mem_of_getElem? (i := 23) (by decide +kernel), List.mem_of_getElem? (i := 423) (by decide +kernel), List.mem_of_getElem? (i := 424) (by decide +kernel)⟩
theorem lw_p6 : lw_okq (⟨"TokenMouth", "expand", "(I)V"⟩, 14) := ⟨⟨by decide +kernel, by decide +kernel⟩, List.mem_of_getElem? (i := 23) (by decide +kernel), List.mem_of_getElem? (i := 430) (by decide +kernel), List.mem_of_getElem? (i := 431) (by decide +kernel)⟩
theorem lw_p7 : lw_okq (⟨"TokenMouth", "expandAfter", "()V"⟩, 14) := ⟨⟨by decide +kernel, by decide +kernel⟩, List.mem_of_getElem? (i := 23) (by decide +kernel), List.mem_of_getElem? (i := 434) (by decide +kernel), List.mem_of_getElem? (i := 435) (by decide +kernel)⟩
theorem lw_p8 : lw_okq (⟨"TokenMouth", "putBack", "(I)V"⟩, 14) := ⟨⟨by decide +kernel, by decide +kernel⟩, List.mem_of_getElem? (i := 23) (by decide +kernel), List.mem_of_getElem? (i := 438) (by decide +kernel), List.mem_of_getElem? (i := 439) (by decide +kernel)⟩
theorem lw_p9 : lw_okq (⟨"TokenMouth", "markNext", "()V"⟩, 14) := ⟨⟨by decide +kernel, by decide +kernel⟩, List.mem_of_getElem? (i := 23) (by decide +kernel), List.mem_of_getElem? (i := 446) (by decide +kernel), List.mem_of_getElem? (i := 447) (by decide +kernel)⟩
theorem lw_p10 : lw_okq (⟨"TokenMouth", "makeName", "()V"⟩, 14) := ⟨⟨by decide +kernel, by decide +kernel⟩, List.mem_of_getElem? (i := 23) (by decide +kernel), List.mem_of_getElem? (i := 450) (by decide +kernel), List.mem_of_getElem? (i := 451) (by decide +kernel)⟩
theorem lw_p11 : lw_okq (⟨"TokenMouth", "getExpanded", "()I"⟩, 14) := ⟨⟨by decide +kernel, by decide +kernel⟩, List.mem_of_getElem? (i := 23) (by decide +kernel), List.mem_of_getElem? (i := 454) (by decide +kernel), List.mem_of_getElem? (i := 455) (by decide +kernel)⟩
theorem lw_p12 : lw_okq (⟨"TokenMouth", "change", "(II)V"⟩, 14) := ⟨⟨by decide +kernel, by decide +kernel⟩, List.mem_of_getElem? (i := 23) (by decide +kernel), List.mem_of_getElem? (i := 458) (by decide +kernel), List.mem_of_getElem? (i := 459) (by decide +kernel)⟩
theorem lw_p13 : lw_okq (⟨"TokenMouth", "set", "(II)V"⟩, 14) := ⟨⟨by decide +kernel, by decide +kernel⟩, List.mem_of_getElem? (i := 23) (by decide +kernel), List.mem_of_getElem? (i := 484) (by decide +kernel), List.mem_of_getElem? (i := 485) (by decide +kernel)⟩
theorem lw_p14 : lw_okq (⟨"TokenMouth", "spell", "()V"⟩, 14) := ⟨⟨by decide +kernel, by decide +kernel⟩, List.mem_of_getElem? (i := 23) (by decide +kernel), List.mem_of_getElem? (i := 496) (by decide +kernel), List.mem_of_getElem? (i := 497) (by decide +kernel)⟩
theorem lw_p15 : lw_okq (⟨"TokenMouth", "openConditional", "(I)Z"⟩, 14) := ⟨⟨by decide +kernel, by decide +kernel⟩, List.mem_of_getElem? (i := 23) (by decide +kernel), List.mem_of_getElem? (i := 515) (by decide +kernel), List.mem_of_getElem? (i := 516) (by decide +kernel)⟩
def lw_privs_1 : List (MethodName × Nat) := [(⟨"TokenMouth", "startAnew", "()V"⟩, 14), (⟨"java/lang/Throwable", "fillInStackTrace", "(I)Ljava/lang/Throwable;"⟩, 6), (⟨"TokenMouth", "get", "(Z)I"⟩, 14), (⟨"TokenMouth", "fail", "(I)I"⟩, 14), (⟨"TokenMouth", "meaningOf", "(I)I"⟩, 14), (⟨"TokenMouth", "execute", "(I)V"⟩, 14), (⟨"TokenMouth", "expand", "(I)V"⟩, 14), (⟨"TokenMouth", "expandAfter", "()V"⟩, 14), (⟨"TokenMouth", "putBack", "(I)V"⟩, 14), (⟨"TokenMouth", "markNext", "()V"⟩, 14), (⟨"TokenMouth", "makeName", "()V"⟩, 14), (⟨"TokenMouth", "getExpanded", "()I"⟩, 14), (⟨"TokenMouth", "change", "(II)V"⟩, 14), (⟨"TokenMouth", "set", "(II)V"⟩, 14), (⟨"TokenMouth", "spell", "()V"⟩, 14), (⟨"TokenMouth", "openConditional", "(I)Z"⟩, 14)]
theorem lw_r1 : ∀ q ∈ lw_privs_1, lw_okq q := List.forall_mem_cons.mpr ⟨lw_p0, List.forall_mem_cons.mpr ⟨lw_p1, List.forall_mem_cons.mpr ⟨lw_p2, List.forall_mem_cons.mpr ⟨lw_p3, List.forall_mem_cons.mpr ⟨lw_p4, List.forall_mem_cons.mpr ⟨lw_p5, List.forall_mem_cons.mpr ⟨lw_p6, List.forall_mem_cons.mpr ⟨lw_p7, List.forall_mem_cons.mpr ⟨lw_p8, List.forall_mem_cons.mpr ⟨lw_p9, List.forall_mem_cons.mpr ⟨lw_p10, List.forall_mem_cons.mpr ⟨lw_p11, List.forall_mem_cons.mpr ⟨lw_p12, List.forall_mem_cons.mpr ⟨lw_p13, List.forall_mem_cons.mpr ⟨lw_p14, List.forall_mem_cons.mpr ⟨lw_p15, fun _ h => absurd h List.not_mem_nil⟩⟩⟩⟩⟩⟩⟩⟩⟩⟩⟩⟩⟩⟩⟩⟩
theorem lw_p16 : lw_okq (⟨"TokenMouth", "codeOf", "(I)I"⟩, 14) := ⟨⟨by decide +kernel, by decide +kernel⟩, List.mem_of_getElem? (i := 23) (by decide +kernel), List.mem_of_getElem? (i := 519) (by decide +kernel), List.mem_of_getElem? (i := 520) (by decide +kernel)⟩
theorem lw_p17 : lw_okq (⟨"TokenMouth", "meanTheSame", "(II)Z"⟩, 14) := ⟨⟨by decide +kernel, by decide +kernel⟩, List.mem_of_getElem? (i := 23) (by decide +kernel), List.mem_of_getElem? (i := 526) (by decide +kernel), List.mem_of_getElem? (i := 527) (by decide +kernel)⟩
theorem lw_p18 : lw_okq (⟨"TokenMouth", "macroOf", "(I)LTokenMouth$Macro;"⟩, 14) := ⟨⟨by decide +kernel, by decide +kernel⟩, List.mem_of_getElem? (i := 23) (by decide +kernel), List.mem_of_getElem? (i := 530) (by decide +kernel), List.mem_of_getElem? (i := 531) (by decide +kernel)⟩
theorem lw_p19 : lw_okq (⟨"TokenMouth", "pass", "(Z)V"⟩, 14) := ⟨⟨by decide +kernel, by decide +kernel⟩, List.mem_of_getElem? (i := 23) (by decide +kernel), List.mem_of_getElem? (i := 542) (by decide +kernel), List.mem_of_getElem? (i := 543) (by decide +kernel)⟩
theorem lw_p20 : lw_okq (⟨"TokenMouth", "matchStart", "(LTokenMouth$Row;)I"⟩, 14) := ⟨⟨by decide +kernel, by decide +kernel⟩, List.mem_of_getElem? (i := 23) (by decide +kernel), List.mem_of_getElem? (i := 547) (by decide +kernel), List.mem_of_getElem? (i := 548) (by decide +kernel)⟩
theorem lw_p21 : lw_okq (⟨"TokenMouth", "takeArgument", "(LTokenMouth$Row;ILTokenMouth$Row;)I"⟩, 14) := ⟨⟨by decide +kernel, by decide +kernel⟩, List.mem_of_getElem? (i := 23) (by decide +kernel), List.mem_of_getElem? (i := 556) (by decide +kernel), List.mem_of_getElem? (i := 557) (by decide +kernel)⟩
theorem lw_p22 : lw_okq (⟨"TokenMouth", "putBodyBack", "(LTokenMouth$Row;)V"⟩, 14) := ⟨⟨by decide +kernel, by decide +kernel⟩, List.mem_of_getElem? (i := 23) (by decide +kernel), List.mem_of_getElem? (i := 576) (by decide +kernel), List.mem_of_getElem? (i := 577) (by decide +kernel)⟩
theorem lw_p23 : lw_okq (⟨"TokenMouth", "executeCharacter", "(I)V"⟩, 14) := ⟨⟨by decide +kernel, by decide +kernel⟩, List.mem_of_getElem? (i := 23) (by decide +kernel), List.mem_of_getElem? (i := 580) (by decide +kernel), List.mem_of_getElem? (i := 581) (by decide +kernel)⟩
theorem lw_p24 : lw_okq (⟨"TokenMouth", "closeGroup", "()V"⟩, 14) := ⟨⟨by decide +kernel, by decide +kernel⟩, List.mem_of_getElem? (i := 23) (by decide +kernel), List.mem_of_getElem? (i := 591) (by decide +kernel), List.mem_of_getElem? (i := 592) (by decide +kernel)⟩
theorem lw_p25 : lw_okq (⟨"TokenMouth", "putOut", "(I)V"⟩, 14) := ⟨⟨by decide +kernel, by decide +kernel⟩, List.mem_of_getElem? (i := 23) (by decide +kernel), List.mem_of_getElem? (i := 595) (by decide +kernel), List.mem_of_getElem? (i := 596) (by decide +kernel)⟩
theorem lw_p26 : lw_okq (⟨"TokenMouth", "getName", "()I"⟩, 14) := ⟨⟨by decide +kernel, by decide +kernel⟩, List.mem_of_getElem? (i := 23) (by decide +kernel), List.mem_of_getElem? (i := 599) (by decide +kernel), List.mem_of_getElem? (i := 600) (by decide +kernel)⟩
theorem lw_p27 : lw_okq (⟨"TokenMouth", "readMacroText", "()V"⟩, 14) := ⟨⟨by decide +kernel, by decide +kernel⟩, List.mem_of_getElem? (i := 23) (by decide +kernel), List.mem_of_getElem? (i := 603) (by decide +kernel), List.mem_of_getElem? (i := 604) (by decide +kernel)⟩
theorem lw_p28 : lw_okq (⟨"TokenMouth", "newParameter", "()I"⟩, 14) := ⟨⟨by decide +kernel, by decide +kernel⟩, List.mem_of_getElem? (i := 23) (by decide +kernel), List.mem_of_getElem? (i := 612) (by decide +kernel), List.mem_of_getElem? (i := 613) (by decide +kernel)⟩
theorem lw_p29 : lw_okq (⟨"TokenMouth", "readBody", "(Z)V"⟩, 14) := ⟨⟨by decide +kernel, by decide +kernel⟩, List.mem_of_getElem? (i := 23) (by decide +kernel), List.mem_of_getElem? (i := 616) (by decide +kernel), List.mem_of_getElem? (i := 617) (by decide +kernel)⟩
theorem lw_p30 : lw_okq (⟨"TokenMouth", "behindHash", "(I)I"⟩, 14) := ⟨⟨by decide +kernel, by decide +kernel⟩, List.mem_of_getElem? (i := 23) (by decide +kernel), List.mem_of_getElem? (i := 620) (by decide +kernel), List.mem_of_getElem? (i := 621) (by decide +kernel)⟩
theorem lw_p31 : lw_okq (⟨"TokenMouth", "define", "(IZ)V"⟩, 14) := ⟨⟨by decide +kernel, by decide +kernel⟩, List.mem_of_getElem? (i := 23) (by decide +kernel), List.mem_of_getElem? (i := 624) (by decide +kernel), List.mem_of_getElem? (i := 625) (by decide +kernel)⟩
def lw_privs_2 : List (MethodName × Nat) := [(⟨"TokenMouth", "codeOf", "(I)I"⟩, 14), (⟨"TokenMouth", "meanTheSame", "(II)Z"⟩, 14), (⟨"TokenMouth", "macroOf", "(I)LTokenMouth$Macro;"⟩, 14), (⟨"TokenMouth", "pass", "(Z)V"⟩, 14), (⟨"TokenMouth", "matchStart", "(LTokenMouth$Row;)I"⟩, 14), (⟨"TokenMouth", "takeArgument", "(LTokenMouth$Row;ILTokenMouth$Row;)I"⟩, 14), (⟨"TokenMouth", "putBodyBack", "(LTokenMouth$Row;)V"⟩, 14), (⟨"TokenMouth", "executeCharacter", "(I)V"⟩, 14), (⟨"TokenMouth", "closeGroup", "()V"⟩, 14), (⟨"TokenMouth", "putOut", "(I)V"⟩, 14), (⟨"TokenMouth", "getName", "()I"⟩, 14), (⟨"TokenMouth", "readMacroText", "()V"⟩, 14), (⟨"TokenMouth", "newParameter", "()I"⟩, 14), (⟨"TokenMouth", "readBody", "(Z)V"⟩, 14), (⟨"TokenMouth", "behindHash", "(I)I"⟩, 14), (⟨"TokenMouth", "define", "(IZ)V"⟩, 14)]
theorem lw_r2 : ∀ q ∈ lw_privs_2, lw_okq q := List.forall_mem_cons.mpr ⟨lw_p16, List.forall_mem_cons.mpr ⟨lw_p17, List.forall_mem_cons.mpr ⟨lw_p18, List.forall_mem_cons.mpr ⟨lw_p19, List.forall_mem_cons.mpr ⟨lw_p20, List.forall_mem_cons.mpr ⟨lw_p21, List.forall_mem_cons.mpr ⟨lw_p22, List.forall_mem_cons.mpr ⟨lw_p23, List.forall_mem_cons.mpr ⟨lw_p24, List.forall_mem_cons.mpr ⟨lw_p25, List.forall_mem_cons.mpr ⟨lw_p26, List.forall_mem_cons.mpr ⟨lw_p27, List.forall_mem_cons.mpr ⟨lw_p28, List.forall_mem_cons.mpr ⟨lw_p29, List.forall_mem_cons.mpr ⟨lw_p30, List.forall_mem_cons.mpr ⟨lw_p31, fun _ h => absurd h List.not_mem_nil⟩⟩⟩⟩⟩⟩⟩⟩⟩⟩⟩⟩⟩⟩⟩⟩
theorem lw_p32 : lw_okq (⟨"TokenMouth", "let", "()V"⟩, 14) := ⟨⟨by decide +kernel, by decide +kernel⟩, List.mem_of_getElem? (i := 23) (by decide +kernel), List.mem_of_getElem? (i := 634) (by decide +kernel), List.mem_of_getElem? (i := 635) (by decide +kernel)⟩
theorem lw_p33 : lw_okq (⟨"TokenMouth", "changeCategory", "()V"⟩, 14) := ⟨⟨by decide +kernel, by decide +kernel⟩, List.mem_of_getElem? (i := 23) (by decide +kernel), List.mem_of_getElem? (i := 638) (by decide +kernel), List.mem_of_getElem? (i := 639) (by decide +kernel)⟩
theorem lw_p34 : lw_okq (⟨"TokenMouth", "meaningOfTyped", "(JZ)I"⟩, 14) := ⟨⟨by decide +kernel, by decide +kernel⟩, List.mem_of_getElem? (i := 23) (by decide +kernel), List.mem_of_getElem? (i := 707) (by decide +kernel), List.mem_of_getElem? (i := 708) (by decide +kernel)⟩
theorem lw_p35 : lw_okq (⟨"TokenMouthModel", "command", "(JJ)V"⟩, 41) := ⟨⟨by decide +kernel, by decide +kernel⟩, List.mem_of_getElem? (i := 736) (by decide +kernel), List.mem_of_getElem? (i := 744) (by decide +kernel), List.mem_of_getElem? (i := 745) (by decide +kernel)⟩
theorem lw_p36 : lw_okq (⟨"TokenMouthModel", "start", "()V"⟩, 41) := ⟨⟨by decide +kernel, by decide +kernel⟩, List.mem_of_getElem? (i := 736) (by decide +kernel), List.mem_of_getElem? (i := 774) (by decide +kernel), List.mem_of_getElem? (i := 775) (by decide +kernel)⟩
theorem lw_p37 : lw_okq (⟨"TokenMouthModel", "step", "()Z"⟩, 41) := ⟨⟨by decide +kernel, by decide +kernel⟩, List.mem_of_getElem? (i := 736) (by decide +kernel), List.mem_of_getElem? (i := 927) (by decide +kernel), List.mem_of_getElem? (i := 928) (by decide +kernel)⟩
theorem lw_p38 : lw_okq (⟨"TokenMouthModel", "get", "()I"⟩, 41) := ⟨⟨by decide +kernel, by decide +kernel⟩, List.mem_of_getElem? (i := 736) (by decide +kernel), List.mem_of_getElem? (i := 931) (by decide +kernel), List.mem_of_getElem? (i := 932) (by decide +kernel)⟩
theorem lw_p39 : lw_okq (⟨"TokenMouthModel", "read", "()I"⟩, 41) := ⟨⟨by decide +kernel, by decide +kernel⟩, List.mem_of_getElem? (i := 736) (by decide +kernel), List.mem_of_getElem? (i := 935) (by decide +kernel), List.mem_of_getElem? (i := 936) (by decide +kernel)⟩
theorem lw_p40 : lw_okq (⟨"TokenMouthModel", "readName", "()I"⟩, 41) := ⟨⟨by decide +kernel, by decide +kernel⟩, List.mem_of_getElem? (i := 736) (by decide +kernel), List.mem_of_getElem? (i := 939) (by decide +kernel), List.mem_of_getElem? (i := 940) (by decide +kernel)⟩
theorem lw_p41 : lw_okq (⟨"TokenMouthModel", "stop", "(I)I"⟩, 41) := ⟨⟨by decide +kernel, by decide +kernel⟩, List.mem_of_getElem? (i := 736) (by decide +kernel), List.mem_of_getElem? (i := 943) (by decide +kernel), List.mem_of_getElem? (i := 944) (by decide +kernel)⟩
theorem lw_p42 : lw_okq (⟨"TokenMouthModel", "say", "(I)V"⟩, 41) := ⟨⟨by decide +kernel, by decide +kernel⟩, List.mem_of_getElem? (i := 736) (by decide +kernel), List.mem_of_getElem? (i := 947) (by decide +kernel), List.mem_of_getElem? (i := 948) (by decide +kernel)⟩
theorem lw_p43 : lw_okq (⟨"TokenMouthModel", "named", "(Z)I"⟩, 41) := ⟨⟨by decide +kernel, by decide +kernel⟩, List.mem_of_getElem? (i := 736) (by decide +kernel), List.mem_of_getElem? (i := 951) (by decide +kernel), List.mem_of_getElem? (i := 952) (by decide +kernel)⟩
theorem lw_p44 : lw_okq (⟨"TokenMouthModel", "known", "(Z)I"⟩, 41) := ⟨⟨by decide +kernel, by decide +kernel⟩, List.mem_of_getElem? (i := 736) (by decide +kernel), List.mem_of_getElem? (i := 955) (by decide +kernel), List.mem_of_getElem? (i := 956) (by decide +kernel)⟩
theorem lw_p45 : lw_okq (⟨"TokenMouthModel", "isExpandable", "(I)Z"⟩, 41) := ⟨⟨by decide +kernel, by decide +kernel⟩, List.mem_of_getElem? (i := 736) (by decide +kernel), List.mem_of_getElem? (i := 959) (by decide +kernel), List.mem_of_getElem? (i := 960) (by decide +kernel)⟩
theorem lw_p46 : lw_okq (⟨"TokenMouthModel", "meaningOf", "(I)I"⟩, 41) := ⟨⟨by decide +kernel, by decide +kernel⟩, List.mem_of_getElem? (i := 736) (by decide +kernel), List.mem_of_getElem? (i := 963) (by decide +kernel), List.mem_of_getElem? (i := 964) (by decide +kernel)⟩
theorem lw_p47 : lw_okq (⟨"TokenMouthModel", "expand", "(I)V"⟩, 41) := ⟨⟨by decide +kernel, by decide +kernel⟩, List.mem_of_getElem? (i := 736) (by decide +kernel), List.mem_of_getElem? (i := 973) (by decide +kernel), List.mem_of_getElem? (i := 974) (by decide +kernel)⟩
def lw_privs_3 : List (MethodName × Nat) := [(⟨"TokenMouth", "let", "()V"⟩, 14), (⟨"TokenMouth", "changeCategory", "()V"⟩, 14), (⟨"TokenMouth", "meaningOfTyped", "(JZ)I"⟩, 14), (⟨"TokenMouthModel", "command", "(JJ)V"⟩, 41), (⟨"TokenMouthModel", "start", "()V"⟩, 41), (⟨"TokenMouthModel", "step", "()Z"⟩, 41), (⟨"TokenMouthModel", "get", "()I"⟩, 41), (⟨"TokenMouthModel", "read", "()I"⟩, 41), (⟨"TokenMouthModel", "readName", "()I"⟩, 41), (⟨"TokenMouthModel", "stop", "(I)I"⟩, 41), (⟨"TokenMouthModel", "say", "(I)V"⟩, 41), (⟨"TokenMouthModel", "named", "(Z)I"⟩, 41), (⟨"TokenMouthModel", "known", "(Z)I"⟩, 41), (⟨"TokenMouthModel", "isExpandable", "(I)Z"⟩, 41), (⟨"TokenMouthModel", "meaningOf", "(I)I"⟩, 41), (⟨"TokenMouthModel", "expand", "(I)V"⟩, 41)]
theorem lw_r3 : ∀ q ∈ lw_privs_3, lw_okq q := List.forall_mem_cons.mpr ⟨lw_p32, List.forall_mem_cons.mpr ⟨lw_p33, List.forall_mem_cons.mpr ⟨lw_p34, List.forall_mem_cons.mpr ⟨lw_p35, List.forall_mem_cons.mpr ⟨lw_p36, List.forall_mem_cons.mpr ⟨lw_p37, List.forall_mem_cons.mpr ⟨lw_p38, List.forall_mem_cons.mpr ⟨lw_p39, List.forall_mem_cons.mpr ⟨lw_p40, List.forall_mem_cons.mpr ⟨lw_p41, List.forall_mem_cons.mpr ⟨lw_p42, List.forall_mem_cons.mpr ⟨lw_p43, List.forall_mem_cons.mpr ⟨lw_p44, List.forall_mem_cons.mpr ⟨lw_p45, List.forall_mem_cons.mpr ⟨lw_p46, List.forall_mem_cons.mpr ⟨lw_p47, fun _ h => absurd h List.not_mem_nil⟩⟩⟩⟩⟩⟩⟩⟩⟩⟩⟩⟩⟩⟩⟩⟩
theorem lw_p48 : lw_okq (⟨"TokenMouthModel", "begin", "(I)I"⟩, 41) := ⟨⟨by decide +kernel, by decide +kernel⟩, List.mem_of_getElem? (i := 736) (by decide +kernel), List.mem_of_getElem? (i := 977) (by decide +kernel), List.mem_of_getElem? (i := 978) (by decide +kernel)⟩
theorem lw_p49 : lw_okq (⟨"TokenMouthModel", "call", "(I)V"⟩, 41) := ⟨⟨by decide +kernel, by decide +kernel⟩, List.mem_of_getElem? (i := 736) (by decide +kernel), List.mem_of_getElem? (i := 981) (by decide +kernel), List.mem_of_getElem? (i := 982) (by decide +kernel)⟩
theorem lw_p50 : lw_okq (⟨"TokenMouthModel", "need", "()I"⟩, 41) := ⟨⟨by decide +kernel, by decide +kernel⟩, List.mem_of_getElem? (i := 736) (by decide +kernel), List.mem_of_getElem? (i := 985) (by decide +kernel), List.mem_of_getElem? (i := 986) (by decide +kernel)⟩
theorem lw_p51 : lw_okq (⟨"TokenMouthModel", "plainArgument", "(II)V"⟩, 41) := ⟨⟨by decide +kernel, by decide +kernel⟩, List.mem_of_getElem? (i := 736) (by decide +kernel), List.mem_of_getElem? (i := 992) (by decide +kernel), List.mem_of_getElem? (i := 993) (by decide +kernel)⟩
theorem lw_p52 : lw_okq (⟨"TokenMouthModel", "piece", "(IIIIII)I"⟩, 41) := ⟨⟨by decide +kernel, by decide +kernel⟩, List.mem_of_getElem? (i := 736) (by decide +kernel), List.mem_of_getElem? (i := 996) (by decide +kernel), List.mem_of_getElem? (i := 997) (by decide +kernel)⟩
theorem lw_p53 : lw_okq (⟨"TokenMouthModel", "add", "(II)V"⟩, 41) := ⟨⟨by decide +kernel, by decide +kernel⟩, List.mem_of_getElem? (i := 736) (by decide +kernel), List.mem_of_getElem? (i := 1003) (by decide +kernel), List.mem_of_getElem? (i := 1004) (by decide +kernel)⟩
theorem lw_p54 : lw_okq (⟨"TokenMouthModel", "longArgument", "(IIII)V"⟩, 41) := ⟨⟨by decide +kernel, by decide +kernel⟩, List.mem_of_getElem? (i := 736) (by decide +kernel), List.mem_of_getElem? (i := 1007) (by decide +kernel), List.mem_of_getElem? (i := 1008) (by decide +kernel)⟩
theorem lw_p55 : lw_okq (⟨"TokenMouthModel", "isBehind", "(IIII)Z"⟩, 41) := ⟨⟨by decide +kernel, by decide +kernel⟩, List.mem_of_getElem? (i := 736) (by decide +kernel), List.mem_of_getElem? (i := 1011) (by decide +kernel), List.mem_of_getElem? (i := 1012) (by decide +kernel)⟩
theorem lw_p56 : lw_okq (⟨"TokenMouthModel", "putBack", "(I)V"⟩, 41) := ⟨⟨by decide +kernel, by decide +kernel⟩, List.mem_of_getElem? (i := 736) (by decide +kernel), List.mem_of_getElem? (i := 1015) (by decide +kernel), List.mem_of_getElem? (i := 1016) (by decide +kernel)⟩
theorem lw_p57 : lw_okq (⟨"TokenMouthModel", "push", "(III)V"⟩, 41) := ⟨⟨by decide +kernel, by decide +kernel⟩, List.mem_of_getElem? (i := 736) (by decide +kernel), List.mem_of_getElem? (i := 1019) (by decide +kernel), List.mem_of_getElem? (i := 1020) (by decide +kernel)⟩
theorem lw_p58 : lw_okq (⟨"TokenMouthModel", "string", "(I)V"⟩, 41) := ⟨⟨by decide +kernel, by decide +kernel⟩, List.mem_of_getElem? (i := 736) (by decide +kernel), List.mem_of_getElem? (i := 1023) (by decide +kernel), List.mem_of_getElem? (i := 1024) (by decide +kernel)⟩
theorem lw_p59 : lw_okq (⟨"TokenMouthModel", "close", "(I)V"⟩, 41) := ⟨⟨by decide +kernel, by decide +kernel⟩, List.mem_of_getElem? (i := 736) (by decide +kernel), List.mem_of_getElem? (i := 1030) (by decide +kernel), List.mem_of_getElem? (i := 1031) (by decide +kernel)⟩
theorem lw_p60 : lw_okq (⟨"TokenMouthModel", "pass", "(Z)Z"⟩, 41) := ⟨⟨by decide +kernel, by decide +kernel⟩, List.mem_of_getElem? (i := 736) (by decide +kernel), List.mem_of_getElem? (i := 1034) (by decide +kernel), List.mem_of_getElem? (i := 1035) (by decide +kernel)⟩
theorem lw_p61 : lw_okq (⟨"TokenMouthModel", "open", "()V"⟩, 41) := ⟨⟨by decide +kernel, by decide +kernel⟩, List.mem_of_getElem? (i := 736) (by decide +kernel), List.mem_of_getElem? (i := 1038) (by decide +kernel), List.mem_of_getElem? (i := 1039) (by decide +kernel)⟩
theorem lw_p62 : lw_okq (⟨"TokenMouthModel", "test", "(I)V"⟩, 41) := ⟨⟨by decide +kernel, by decide +kernel⟩, List.mem_of_getElem? (i := 736) (by decide +kernel), List.mem_of_getElem? (i := 1042) (by decide +kernel), List.mem_of_getElem? (i := 1043) (by decide +kernel)⟩
theorem lw_p63 : lw_okq (⟨"TokenMouthModel", "alike", "(II)Z"⟩, 41) := ⟨⟨by decide +kernel, by decide +kernel⟩, List.mem_of_getElem? (i := 736) (by decide +kernel), List.mem_of_getElem? (i := 1046) (by decide +kernel), List.mem_of_getElem? (i := 1047) (by decide +kernel)⟩
def lw_privs_4 : List (MethodName × Nat) := [(⟨"TokenMouthModel", "begin", "(I)I"⟩, 41), (⟨"TokenMouthModel", "call", "(I)V"⟩, 41), (⟨"TokenMouthModel", "need", "()I"⟩, 41), (⟨"TokenMouthModel", "plainArgument", "(II)V"⟩, 41), (⟨"TokenMouthModel", "piece", "(IIIIII)I"⟩, 41), (⟨"TokenMouthModel", "add", "(II)V"⟩, 41), (⟨"TokenMouthModel", "longArgument", "(IIII)V"⟩, 41), (⟨"TokenMouthModel", "isBehind", "(IIII)Z"⟩, 41), (⟨"TokenMouthModel", "putBack", "(I)V"⟩, 41), (⟨"TokenMouthModel", "push", "(III)V"⟩, 41), (⟨"TokenMouthModel", "string", "(I)V"⟩, 41), (⟨"TokenMouthModel", "close", "(I)V"⟩, 41), (⟨"TokenMouthModel", "pass", "(Z)Z"⟩, 41), (⟨"TokenMouthModel", "open", "()V"⟩, 41), (⟨"TokenMouthModel", "test", "(I)V"⟩, 41), (⟨"TokenMouthModel", "alike", "(II)Z"⟩, 41)]
theorem lw_r4 : ∀ q ∈ lw_privs_4, lw_okq q := List.forall_mem_cons.mpr ⟨lw_p48, List.forall_mem_cons.mpr ⟨lw_p49, List.forall_mem_cons.mpr ⟨lw_p50, List.forall_mem_cons.mpr ⟨lw_p51, List.forall_mem_cons.mpr ⟨lw_p52, List.forall_mem_cons.mpr ⟨lw_p53, List.forall_mem_cons.mpr ⟨lw_p54, List.forall_mem_cons.mpr ⟨lw_p55, List.forall_mem_cons.mpr ⟨lw_p56, List.forall_mem_cons.mpr ⟨lw_p57, List.forall_mem_cons.mpr ⟨lw_p58, List.forall_mem_cons.mpr ⟨lw_p59, List.forall_mem_cons.mpr ⟨lw_p60, List.forall_mem_cons.mpr ⟨lw_p61, List.forall_mem_cons.mpr ⟨lw_p62, List.forall_mem_cons.mpr ⟨lw_p63, fun _ h => absurd h List.not_mem_nil⟩⟩⟩⟩⟩⟩⟩⟩⟩⟩⟩⟩⟩⟩⟩⟩
theorem lw_p64 : lw_okq (⟨"TokenMouthModel", "decide", "(IZ)V"⟩, 41) := ⟨⟨by decide +kernel, by decide +kernel⟩, List.mem_of_getElem? (i := 736) (by decide +kernel), List.mem_of_getElem? (i := 1050) (by decide +kernel), List.mem_of_getElem? (i := 1051) (by decide +kernel)⟩
theorem lw_p65 : lw_okq (⟨"TokenMouthModel", "goOn", "()I"⟩, 41) := ⟨⟨by decide +kernel, by decide +kernel⟩, List.mem_of_getElem? (i := 736) (by decide +kernel), List.mem_of_getElem? (i := 1054) (by decide +kernel), List.mem_of_getElem? (i := 1055) (by decide +kernel)⟩
theorem lw_p66 : lw_okq (⟨"TokenMouthModel", "spelled", "(I)V"⟩, 41) := ⟨⟨by decide +kernel, by decide +kernel⟩, List.mem_of_getElem? (i := 736) (by decide +kernel), List.mem_of_getElem? (i := 1058) (by decide +kernel), List.mem_of_getElem? (i := 1059) (by decide +kernel)⟩
theorem lw_p67 : lw_okq (⟨"TokenMouthModel", "change", "(II)V"⟩, 41) := ⟨⟨by decide +kernel, by decide +kernel⟩, List.mem_of_getElem? (i := 736) (by decide +kernel), List.mem_of_getElem? (i := 1062) (by decide +kernel), List.mem_of_getElem? (i := 1063) (by decide +kernel)⟩
theorem lw_p68 : lw_okq (⟨"TokenMouthModel", "act", "(I)V"⟩, 41) := ⟨⟨by decide +kernel, by decide +kernel⟩, List.mem_of_getElem? (i := 736) (by decide +kernel), List.mem_of_getElem? (i := 1066) (by decide +kernel), List.mem_of_getElem? (i := 1067) (by decide +kernel)⟩
theorem lw_p69 : lw_okq (⟨"TokenMouthModel", "closeGroup", "()V"⟩, 41) := ⟨⟨by decide +kernel, by decide +kernel⟩, List.mem_of_getElem? (i := 736) (by decide +kernel), List.mem_of_getElem? (i := 1070) (by decide +kernel), List.mem_of_getElem? (i := 1071) (by decide +kernel)⟩
theorem lw_p70 : lw_okq (⟨"TokenMouthModel", "send", "(I)V"⟩, 41) := ⟨⟨by decide +kernel, by decide +kernel⟩, List.mem_of_getElem? (i := 736) (by decide +kernel), List.mem_of_getElem? (i := 1074) (by decide +kernel), List.mem_of_getElem? (i := 1075) (by decide +kernel)⟩
theorem lw_p71 : lw_okq (⟨"TokenMouthModel", "let", "()V"⟩, 41) := ⟨⟨by decide +kernel, by decide +kernel⟩, List.mem_of_getElem? (i := 736) (by decide +kernel), List.mem_of_getElem? (i := 1078) (by decide +kernel), List.mem_of_getElem? (i := 1079) (by decide +kernel)⟩
theorem lw_p72 : lw_okq (⟨"TokenMouthModel", "needName", "()I"⟩, 41) := ⟨⟨by decide +kernel, by decide +kernel⟩, List.mem_of_getElem? (i := 736) (by decide +kernel), List.mem_of_getElem? (i := 1082) (by decide +kernel), List.mem_of_getElem? (i := 1083) (by decide +kernel)⟩
theorem lw_p73 : lw_okq (⟨"TokenMouthModel", "catcode", "()V"⟩, 41) := ⟨⟨by decide +kernel, by decide +kernel⟩, List.mem_of_getElem? (i := 736) (by decide +kernel), List.mem_of_getElem? (i := 1086) (by decide +kernel), List.mem_of_getElem? (i := 1087) (by decide +kernel)⟩
theorem lw_p74 : lw_okq (⟨"TokenMouthModel", "define", "(I)V"⟩, 41) := ⟨⟨by decide +kernel, by decide +kernel⟩, List.mem_of_getElem? (i := 736) (by decide +kernel), List.mem_of_getElem? (i := 1093) (by decide +kernel), List.mem_of_getElem? (i := 1094) (by decide +kernel)⟩
theorem lw_p75 : lw_okq (⟨"TokenMouthModel", "readText", "()Z"⟩, 41) := ⟨⟨by decide +kernel, by decide +kernel⟩, List.mem_of_getElem? (i := 736) (by decide +kernel), List.mem_of_getElem? (i := 1097) (by decide +kernel), List.mem_of_getElem? (i := 1098) (by decide +kernel)⟩
theorem lw_p76 : lw_okq (⟨"TokenMouthModel", "readBody", "(Z)Z"⟩, 41) := ⟨⟨by decide +kernel, by decide +kernel⟩, List.mem_of_getElem? (i := 736) (by decide +kernel), List.mem_of_getElem? (i := 1101) (by decide +kernel), List.mem_of_getElem? (i := 1102) (by decide +kernel)⟩
theorem lw_p77 : lw_okq (⟨"TokenMouthModel", "needExpanded", "()I"⟩, 41) := ⟨⟨by decide +kernel, by decide +kernel⟩, List.mem_of_getElem? (i := 736) (by decide +kernel), List.mem_of_getElem? (i := 1105) (by decide +kernel), List.mem_of_getElem? (i := 1106) (by decide +kernel)⟩
theorem lw_p78 : lw_okq (⟨"TokenMouthModel", "fails", "()I"⟩, 41) := ⟨⟨by decide +kernel, by decide +kernel⟩, List.mem_of_getElem? (i := 736) (by decide +kernel), List.mem_of_getElem? (i := 1113) (by decide +kernel), List.mem_of_getElem? (i := 1114) (by decide +kernel)⟩
theorem lw_p79 : lw_okq (⟨"TokenMouthModel", "lookUp", "(JZ)I"⟩, 41) := ⟨⟨by decide +kernel, by decide +kernel⟩, List.mem_of_getElem? (i := 736) (by decide +kernel), List.mem_of_getElem? (i := 1133) (by decide +kernel), List.mem_of_getElem? (i := 1134) (by decide +kernel)⟩
def lw_privs_5 : List (MethodName × Nat) := [(⟨"TokenMouthModel", "decide", "(IZ)V"⟩, 41), (⟨"TokenMouthModel", "goOn", "()I"⟩, 41), (⟨"TokenMouthModel", "spelled", "(I)V"⟩, 41), (⟨"TokenMouthModel", "change", "(II)V"⟩, 41), (⟨"TokenMouthModel", "act", "(I)V"⟩, 41), (⟨"TokenMouthModel", "closeGroup", "()V"⟩, 41), (⟨"TokenMouthModel", "send", "(I)V"⟩, 41), (⟨"TokenMouthModel", "let", "()V"⟩, 41), (⟨"TokenMouthModel", "needName", "()I"⟩, 41), (⟨"TokenMouthModel", "catcode", "()V"⟩, 41), (⟨"TokenMouthModel", "define", "(I)V"⟩, 41), (⟨"TokenMouthModel", "readText", "()Z"⟩, 41), (⟨"TokenMouthModel", "readBody", "(Z)Z"⟩, 41), (⟨"TokenMouthModel", "needExpanded", "()I"⟩, 41), (⟨"TokenMouthModel", "fails", "()I"⟩, 41), (⟨"TokenMouthModel", "lookUp", "(JZ)I"⟩, 41)]
theorem lw_r5 : ∀ q ∈ lw_privs_5, lw_okq q := List.forall_mem_cons.mpr ⟨lw_p64, List.forall_mem_cons.mpr ⟨lw_p65, List.forall_mem_cons.mpr ⟨lw_p66, List.forall_mem_cons.mpr ⟨lw_p67, List.forall_mem_cons.mpr ⟨lw_p68, List.forall_mem_cons.mpr ⟨lw_p69, List.forall_mem_cons.mpr ⟨lw_p70, List.forall_mem_cons.mpr ⟨lw_p71, List.forall_mem_cons.mpr ⟨lw_p72, List.forall_mem_cons.mpr ⟨lw_p73, List.forall_mem_cons.mpr ⟨lw_p74, List.forall_mem_cons.mpr ⟨lw_p75, List.forall_mem_cons.mpr ⟨lw_p76, List.forall_mem_cons.mpr ⟨lw_p77, List.forall_mem_cons.mpr ⟨lw_p78, List.forall_mem_cons.mpr ⟨lw_p79, fun _ h => absurd h List.not_mem_nil⟩⟩⟩⟩⟩⟩⟩⟩⟩⟩⟩⟩⟩⟩⟩⟩
def lw_privs : List (MethodName × Nat) := lw_privs_1 ++ (lw_privs_2 ++ (lw_privs_3 ++ (lw_privs_4 ++ (lw_privs_5))))
def lw_tbl : List Cond := k2_sels lw_privs ++ tables_1
theorem lw_privs_ok : ∀ q ∈ lw_privs, lw_okq q := by
  show ∀ q ∈ lw_privs_1 ++ (lw_privs_2 ++ (lw_privs_3 ++ (lw_privs_4 ++ (lw_privs_5)))), lw_okq q
  exact List.forall_mem_append.mpr ⟨lw_r1, List.forall_mem_append.mpr ⟨lw_r2, List.forall_mem_append.mpr ⟨lw_r3, List.forall_mem_append.mpr ⟨lw_r4, lw_r5⟩⟩⟩⟩
-- ===== end of PART A; then your names; then what follows =====
end
section
/-! A contract of a method that may end by a throw, and a call by it: the road back, or the note of the throw over the caller's own frame. -/
def am_FE (first : State) (t : State) (L : List Loc) (k n : Nat) : Prop := first.WarmedH t.vm ∧ first.sameButNew ({ t with vm := first.vm } : State) L k n
def am_Met (l : Launch) (y : MethodName) (ws : List Cond) (rm : Room) (Pc : Array Value → State → Prop) (Qc : Array Value → State → Outcome → State → Prop) (mc ms : Nat) (free : Addr → Prop) : Prop :=
  MetFree l y (headSpec ws rm) Pc (fun _ _ _ _ _ => True) (fun a st o t => Qc a st o t ∧ ∃ L, am_FE st t L mc ms ∧ ∀ q ∈ L, free q.base)
def am_BackX (l : Launch) (R : Room) (p : Program) (e : Env) (below : List Frame) (s : State) (sargs : Array Value) (y : MethodName) (len W : Nat)
    (Pre : Pt → Array Value → Prop) (Post : Pt → Array Value → Outcome → Pt → Prop) : Prop :=
  ∀ (m : MethodId) (meth : Method) (c : Code) (A : Pt) (g : JFrame) (ig : Instr) (mk : MethodId) (a : Array Value),
    Stand p l e R s m sargs below meth c A.U A.locs A.cells A.slots → g.method = m → g.locals.size = c.maxLocals → decode c.code g.pc = .ok (ig, len) →
    2 * g.monitorRoom + (g.stack.map fun v => v.category).sum ≤ W → A.U.methodNamed? y = some mk → Pre A a →
    ∃ (o : Outcome) (B : Pt), Stand p l e R s m sargs below meth c B.U B.locs B.cells B.slots ∧ Post A a o B ∧
      ((∃ v, o = .returned v ∧ Steps p.tables e below (doInvoke e (A.U.setTop g) [] mk a).1 (B.U.setTop { g with pc := g.pc + len, stack := v.toList ++ g.stack })) ∨
       (∃ x, o = .threw x ∧ Steps p.tables e below (doInvoke e (A.U.setTop g) [] mk a).1 ((B.U.setTop g).pushFrame (.throwing x))))
def am_PostOf (Qc : Array Value → State → Outcome → State → Prop) (mc ms : Nat) (free : Addr → Prop) : Pt → Array Value → Outcome → Pt → Prop := fun A a o B =>
  ∃ (g : JFrame) (mk : MethodId) (t : State) (L : List Loc), B.U.heap = t.heap ∧ B.U.vm = t.vm ∧ Qc a (A.U.calling g mk a) o t ∧ B.locs = A.locs ++ L ∧ (∀ q ∈ L, free q.base) ∧ B.cells = A.cells + mc ∧ B.slots = A.slots + ms
section AMB
variable {l : Launch} {R : Room} {p : Program} {e : Env} {below : List Frame} {s : State} {sargs : Array Value} {y : MethodName} {len W : Nat}
set_option maxHeartbeats 1000000 in
theorem am_back_of {ws : List Cond} {rm : Room} {Pc : Array Value → State → Prop} {Qc : Array Value → State → Outcome → State → Prop} {mc ms : Nat} {free : Addr → Prop} {maxL : Nat}
    (hM : am_Met l y ws rm Pc Qc mc ms free) (hblind : FrameBlind Pc) (hrc : rm.cells = mc) (hrs : rm.slots = ms)
    (hframes : rm.frames + 1 ≤ R.frames) (hlocals : W + (maxL + 11) + rm.locals ≤ R.locals)
    (hws : ∀ w ∈ ws, ∀ a' U, s.WarmedH U.vm → w.before a' U = true)
    (hcd : ∀ (U : State) (mk : MethodId), s.WarmedH U.vm → U.methodNamed? y = some mk → ∃ methY cY, U.vm.method? mk = some methY ∧ methY.code = some cY ∧ cY.maxLocals = maxL)
    (hinit : ∀ a' U, s.WarmedH U.vm → (Cond.initialized y.cls).before a' U = true) :
    am_BackX l R p e below s sargs y len W (PreOf R mc ms Pc) (am_PostOf Qc mc ms free) := by
  intro m meth c A g ig mk a X hg hsize hdg hW hn hp
  obtain ⟨U, Ls, c0, s0⟩ := A
  dsimp only [Pt.U, Pt.locs, Pt.cells, Pt.slots, PreOf] at X hn hp ⊢
  obtain ⟨hp1, hp2, hp3⟩ := hp
  have h1 : (headSpec ws rm).pre.before a U = true := atoms_intro fun w hw => hws w hw _ _ X.warmed
  have h3 := hinit a U X.warmed
  obtain ⟨methY, cY, hmY, hcY, hlY⟩ := hcd U mk X.warmed hn
  obtain ⟨kY, hkY, -⟩ := className_of_methodNamed hn
  have hinitY : kY.init = .initialized := Cond.initialized_spec (findClass_of_methodNamed hn) hkY h3
  have h : At U g.method c below := by rw [hg]; exact X.here
  have happ : (headSpec ws rm).appliesLoose y e.platform (U.calling g mk a) = true :=
    Spec.appliesLoose_calling (g := g) h hdg hn hkY hinitY
      (X.room_calling (g := g) (R' := (headSpec ws rm).room) hsize hmY hcY hframes (by rw [hlY]; show _ + (_ + 11) + rm.locals ≤ _; omega) (by show c0 + rm.cells ≤ _; omega) (by show s0 + rm.slots ≤ _; omega)) h1
  obtain ⟨mid, hmid⟩ := h.above
  have hfr : (U.setTop g).frames = (.java g :: mid) ++ below := by rw [State.frames_setTop' g h.top, hmid]; rfl
  obtain ⟨o, s₂, hsteps, -, hend, hq⟩ := Steps.callFree hM p X.admits X.cas X.clock (acts := []) hfr happ (hblind _ _ _ _ hp3) trivial
  have hq' : Qc a (U.calling g mk a) o s₂ ∧ ∃ L, am_FE (U.calling g mk a) s₂ L mc ms ∧ ∀ q ∈ L, free q.base := hq
  rw [State.frames_setTop' g h.top] at hend
  obtain ⟨hqc, L, hfe, hL⟩ := hq'
  obtain ⟨hW₂, e2, q2, q3, q4, q5, q6⟩ := id hfe
  have e3 : s₂ = ({ (U.calling g mk a).setFrames s₂.frames with heap := s₂.heap, slotsUsed := s₂.slotsUsed } : State).setVm s₂.vm := by
    have : s₂ = ({ s₂ with vm := (U.calling g mk a).vm } : State).setVm s₂.vm := rfl
    rw [e2] at this
    exact this
  have hW' : U.WarmedH s₂.vm := hW₂
  obtain ⟨g₀, hg0⟩ := Option.isSome_iff_exists.mp h.top
  obtain ⟨r, hr⟩ := State.topJava?_eq_some.mp hg0
  have hsame : U.sameButNew ({ U with heap := s₂.heap, slotsUsed := s₂.slotsUsed } : State) L mc ms := by
    refine ⟨?_, q2, q3, q4, q5, q6⟩
    obtain ⟨t, ht, -⟩ := State.frames_cons hr
    show ({ U with heap := s₂.heap, slotsUsed := s₂.slotsUsed } : State) = { U.setFrames U.frames with heap := s₂.heap, slotsUsed := s₂.slotsUsed }
    rw [State.setFrames_self ht]
  subst hg
  have hstand : Stand p l e R s g.method sargs below meth c (({ U with heap := s₂.heap, slotsUsed := s₂.slotsUsed } : State).setVm s₂.vm) (Ls ++ L) (c0 + mc) (s0 + ms) :=
    ⟨X.admits, X.cas, X.clock, X.frames, X.room, X.hears, X.method, X.code, (X.here.setHeapUsed s₂.heap s₂.slotsUsed).setVm hW'.alike, X.tail, State.WarmedH.trans X.warmed hW', X.limits, X.bytes, X.same.trans (hsame.setVm s.vm)⟩
  have hr' : (({ U with heap := s₂.heap, slotsUsed := s₂.slotsUsed } : State).setVm s₂.vm).frames = .java g₀ :: r := hr
  refine ⟨o, ⟨(({ U with heap := s₂.heap, slotsUsed := s₂.slotsUsed } : State).setVm s₂.vm), Ls ++ L, c0 + mc, s0 + ms⟩, hstand, ⟨g, mk, s₂, L, rfl, rfl, hqc, rfl, hL, rfl, rfl⟩, ?_⟩
  cases o with
  | returned v =>
    obtain ⟨c₂, i₂, len₂, hc₂, hd₂, hf₂⟩ := hend
    have hcc : c₂ = c := by
      have h1 : s₂.code? g.method = U.code? g.method := by
        rw [State.code?_eq, State.code?_eq, hW'.alike.method?]
      exact Option.some.inj (hc₂.symm.trans (h1.trans h.code))
    subst hcc
    have hlen : len₂ = len := by rw [hdg] at hd₂; cases hd₂; rfl
    subst hlen
    have hs₂ : s₂ = (({ U with heap := s₂.heap, slotsUsed := s₂.slotsUsed } : State).setVm s₂.vm).setTop { g with pc := g.pc + len₂, stack := v.toList ++ g.stack } := by
      refine e3.trans ?_
      rw [hf₂, State.calling_eq h.top, State.setFrames_setFrames, State.setTop_of_frames _ hr', hr]
      rfl
    refine Or.inl ⟨v, rfl, ?_⟩
    show Steps p.tables e below _ ((({ U with heap := s₂.heap, slotsUsed := s₂.slotsUsed } : State).setVm s₂.vm).setTop { g with pc := g.pc + len₂, stack := v.toList ++ g.stack })
    rw [← hs₂]
    exact hsteps
  | threw x =>
    have hf₂ : s₂.frames = .throwing x :: .java g :: U.frames.tail := hend
    have hs₂ : s₂ = ((({ U with heap := s₂.heap, slotsUsed := s₂.slotsUsed } : State).setVm s₂.vm).setTop g).pushFrame (.throwing x) := by
      refine e3.trans ?_
      rw [hf₂, State.calling_eq h.top, State.setFrames_setFrames, State.pushFrame, State.frames_setTop _ hr', State.setTop_of_frames _ hr', State.setFrames_setFrames, hr]
      rfl
    refine Or.inr ⟨x, rfl, ?_⟩
    show Steps p.tables e below _ (((({ U with heap := s₂.heap, slotsUsed := s₂.slotsUsed } : State).setVm s₂.vm).setTop g).pushFrame (.throwing x))
    rw [← hs₂]
    exact hsteps
end AMB
section AMC
variable {p : Program} {l : Launch} {e : Env} {R : Room} {s : State} {m : MethodId} {args : Array Value} {below : List Frame} {meth : Method} {c : Code} {H : Heap} {locs : List Loc} {cells slots : Nat} {Q : State → Prop}
/-- the invoking instruction comes to the call of y with the arguments a, 'rest' left on the stack -/
def am_Inv (p : Program) (l : Launch) (e : Env) (R : Room) (s : State) (m : MethodId) (args : Array Value) (below : List Frame) (meth : Method) (c : Code) (H : Heap) (locs : List Loc) (cells slots : Nat) (g : JFrame) (rest : List Value) (y : MethodName) (a : Array Value) : Prop :=
  ∀ T : State, T.heap = H → Stand p l e R s m args below meth c T locs cells slots → ∃ (vm₁ : Vm) (mk : MethodId), Stand p l e R s m args below meth c (T.setVm vm₁) locs cells slots ∧ (T.setVm vm₁).methodNamed? y = some mk ∧
    ∀ target, Steps p.tables e below (doInvoke e ((T.setVm vm₁).setTop { g with stack := rest }) [] mk a).1 target → Steps p.tables e below (T.setTop g) target
theorem am_invV (hexec : p.tables.exec = Jvm.exec) {own C : String} {index : Nat} {y : MethodName} {bytes : ByteArray} {maxL : Nat} {ret : Option FieldType}
    (hown : s.vm.findClass own = some m.cls) (hlink : (Cond.methodLink own index y).before args s = true) (hinst : (Cond.instanceMethod y).before args s = true) (hsel : (Cond.selects C y y).before args s = true)
    (hcode : (Cond.code y bytes maxL ret).before args s = true) (hy : y.cls ≠ "java/lang/invoke/MethodHandle" ∧ y.cls ≠ "java/lang/invoke/VarHandle")
    {b : Addr} {cellB : Cell} (hcell : H[b]? = some cellB) (hobj : cellB.vm.isStatics = false) (hcls : s.vm.findClass C = some cellB.cls)
    {g : JFrame} (hg : g.method = m) {argsL rest : List Value} (hlen : ∀ sig, parseMethodDescriptor y.desc = some sig → argsL.length = sig.parameters.length)
    (hstack : g.stack = argsL.reverse ++ .ref b :: rest) (hdg : decode c.code g.pc = .ok (.invokevirtual index, 3)) :
    am_Inv p l e R s m args below meth c H locs cells slots g rest y (Value.ref b :: argsL).toArray := by
  intro T hT X
  obtain ⟨mk, methM, hnamed, hmethM, hstM, habM⟩ := Cond.instanceMethod_spec hinst
  obtain ⟨methM', cM, hmethM', -, -, -, -, -, -, hsigM⟩ := Cond.code_spec hnamed hcode
  cases hmethM.symm.trans hmethM'
  obtain ⟨c2, r2, m2, q1, q2, q3, q4, kP, hkP, hkPi⟩ := Cond.selects_spec hsel
  cases hcls.symm.trans q1
  cases (State.methodFound?_of_named hnamed hy).symm.trans q2
  cases hnamed.symm.trans q3
  have hselP : selectMethod e.platform s.vm cellB.cls mk = .method mk := by rw [Launch.admits_selectMethod X.admits]; exact q4
  obtain ⟨vm₁, X₁, hstep₁⟩ := X.invokevirtual hexec hown hlink hnamed hmethM hstM hkP hkPi hy (a := b) (cell := cellB) (by rw [hT]; exact hcell)
    (fun z h => by rw [h] at hobj; cases hobj) hselP hmethM habM hkP hkPi (g := g) hg (argsL := argsL) (rest := rest) (hlen _ hsigM) hstack hdg
  exact ⟨vm₁, mk, X₁, X₁.named hnamed, fun target h => hstep₁ _ fun acts => by rw [doInvoke_state]; exact h⟩
theorem am_invVN (hexec : p.tables.exec = Jvm.exec) {own C host : String} {index : Nat} {y : MethodName} {bytes : ByteArray} {maxL : Nat} {ret : Option FieldType}
    (hown : s.vm.findClass own = some m.cls) (hlink : (Cond.methodLinkNest own index y host).before args s = true) (hinst : (Cond.instanceMethod y).before args s = true) (hsel : (Cond.selects C y y).before args s = true)
    (hcode : (Cond.code y bytes maxL ret).before args s = true) (hy : y.cls ≠ "java/lang/invoke/MethodHandle" ∧ y.cls ≠ "java/lang/invoke/VarHandle")
    {b : Addr} {cellB : Cell} (hcell : H[b]? = some cellB) (hobj : cellB.vm.isStatics = false) (hcls : s.vm.findClass C = some cellB.cls)
    {g : JFrame} (hg : g.method = m) {argsL rest : List Value} (hlen : ∀ sig, parseMethodDescriptor y.desc = some sig → argsL.length = sig.parameters.length)
    (hstack : g.stack = argsL.reverse ++ .ref b :: rest) (hdg : decode c.code g.pc = .ok (.invokevirtual index, 3)) :
    am_Inv p l e R s m args below meth c H locs cells slots g rest y (Value.ref b :: argsL).toArray := by
  intro T hT X
  obtain ⟨mk, methM, hnamed, hmethM, hstM, habM⟩ := Cond.instanceMethod_spec hinst
  obtain ⟨methM', cM, hmethM', -, -, -, -, -, -, hsigM⟩ := Cond.code_spec hnamed hcode
  cases hmethM.symm.trans hmethM'
  obtain ⟨c2, r2, m2, q1, q2, q3, q4, kP, hkP, hkPi⟩ := Cond.selects_spec hsel
  cases hcls.symm.trans q1
  cases (State.methodFound?_of_named hnamed hy).symm.trans q2
  cases hnamed.symm.trans q3
  have hselP : selectMethod e.platform s.vm cellB.cls mk = .method mk := by rw [Launch.admits_selectMethod X.admits]; exact q4
  obtain ⟨vm₁, X₁, hstep₁⟩ := X.invokevirtualNest hexec hown hlink hnamed hmethM hstM hkP hkPi hy (a := b) (cell := cellB) (by rw [hT]; exact hcell)
    (fun z h => by rw [h] at hobj; cases hobj) hselP hmethM habM hkP hkPi (g := g) hg (argsL := argsL) (rest := rest) (hlen _ hsigM) hstack hdg
  exact ⟨vm₁, mk, X₁, X₁.named hnamed, fun target h => hstep₁ _ fun acts => by rw [doInvoke_state]; exact h⟩
theorem am_invS (hexec : p.tables.exec = Jvm.exec) {own : String} {index : Nat} {y : MethodName}
    (hown : s.vm.findClass own = some m.cls) (hlink : (Cond.methodLink own index y).before args s = true) (hstat : (Cond.static y).before args s = true) (hinit : (Cond.initialized y.cls).before args s = true)
    (hcd : ∃ mk methM, s.methodNamed? y = some mk ∧ s.vm.method? mk = some methM ∧ parseMethodDescriptor y.desc = some methM.sig) (hy : y.cls ≠ "java/lang/invoke/MethodHandle" ∧ y.cls ≠ "java/lang/invoke/VarHandle")
    {g : JFrame} (hg : g.method = m) {argsL rest : List Value} (hlen : ∀ sig, parseMethodDescriptor y.desc = some sig → argsL.length = sig.parameters.length)
    (hstack : g.stack = argsL.reverse ++ rest) (hdg : decode c.code g.pc = .ok (.invokestatic index, 3)) :
    am_Inv p l e R s m args below meth c H locs cells slots g rest y argsL.toArray := by
  intro T hT X
  obtain ⟨mk, methM, hnamed, hmethM, hsigM⟩ := hcd
  have hstatic : methM.isStatic = true := Cond.static_spec hnamed hmethM hstat
  obtain ⟨kP, hkP, -⟩ := className_of_methodNamed hnamed
  have hinitP : kP.init = .initialized := Cond.initialized_spec (findClass_of_methodNamed hnamed) hkP hinit
  obtain ⟨vm₁, X₁, hstep₁⟩ := X.invokestatic hexec hown hlink hnamed hmethM hstatic hkP hinitP hy (g := g) hg (argsL := argsL) (rest := rest) (hlen _ hsigM) hstack hdg
  exact ⟨vm₁, mk, X₁, X₁.named hnamed, fun target h => hstep₁ _ fun acts => by rw [doInvoke_state]; exact h⟩
theorem am_invSN (hexec : p.tables.exec = Jvm.exec) {own host : String} {index : Nat} {y : MethodName}
    (hown : s.vm.findClass own = some m.cls) (hlink : (Cond.methodLinkNest own index y host).before args s = true) (hstat : (Cond.static y).before args s = true) (hinit : (Cond.initialized y.cls).before args s = true)
    (hcd : ∃ mk methM, s.methodNamed? y = some mk ∧ s.vm.method? mk = some methM ∧ parseMethodDescriptor y.desc = some methM.sig) (hy : y.cls ≠ "java/lang/invoke/MethodHandle" ∧ y.cls ≠ "java/lang/invoke/VarHandle")
    {g : JFrame} (hg : g.method = m) {argsL rest : List Value} (hlen : ∀ sig, parseMethodDescriptor y.desc = some sig → argsL.length = sig.parameters.length)
    (hstack : g.stack = argsL.reverse ++ rest) (hdg : decode c.code g.pc = .ok (.invokestatic index, 3)) :
    am_Inv p l e R s m args below meth c H locs cells slots g rest y argsL.toArray := by
  intro T hT X
  obtain ⟨mk, methM, hnamed, hmethM, hsigM⟩ := hcd
  have hstatic : methM.isStatic = true := Cond.static_spec hnamed hmethM hstat
  obtain ⟨kP, hkP, -⟩ := className_of_methodNamed hnamed
  have hinitP : kP.init = .initialized := Cond.initialized_spec (findClass_of_methodNamed hnamed) hkP hinit
  obtain ⟨vm₁, X₁, hstep₁⟩ := X.invokestaticNest hexec hown hlink hnamed hmethM hstatic hkP hinitP hy (g := g) hg (argsL := argsL) (rest := rest) (hlen _ hsigM) hstack hdg
  exact ⟨vm₁, mk, X₁, X₁.named hnamed, fun target h => hstep₁ _ fun acts => by rw [doInvoke_state]; exact h⟩
theorem am_invI (hexec : p.tables.exec = Jvm.exec) {own : String} {index : Nat} {y : MethodName} {bytes : ByteArray} {maxL : Nat}
    (hown : s.vm.findClass own = some m.cls) (hy1 : y.name = "<init>") (hlink : (Cond.methodLink own index y).before args s = true) (hinst : (Cond.instanceMethod y).before args s = true)
    (hcode : (Cond.code y bytes maxL none).before args s = true) (hy : y.cls ≠ "java/lang/invoke/MethodHandle" ∧ y.cls ≠ "java/lang/invoke/VarHandle")
    {g : JFrame} (hg : g.method = m) {a : Addr} {argsL rest : List Value} (hlen : ∀ sig, parseMethodDescriptor y.desc = some sig → argsL.length = sig.parameters.length)
    (hstack : g.stack = argsL.reverse ++ .ref a :: rest) (hdg : decode c.code g.pc = .ok (.invokespecial index, 3)) :
    am_Inv p l e R s m args below meth c H locs cells slots g rest y (Value.ref a :: argsL).toArray := by
  intro T hT X
  subst hg
  have hpl : e.platform.magicAccessors = ({} : Platform).magicAccessors := by rw [X.admits.platform]
  obtain ⟨mk, methM, cM, kP, vm₁, hnamed, hmethM, hcodeM, -, hlocalsM, -, hkP, -, hW₁, hstep₁⟩ := Steps.initColdArgs (e := e) X.here hexec X.warmed hpl hown hy1 hy hlink hinst hcode (f := g) rfl hlen hstack hdg
  have X₁ := X.noted hW₁
  exact ⟨vm₁, mk, X₁, X₁.named hnamed, fun target h => hstep₁ _ fun acts => by rw [doInvoke_state]; exact h⟩
/-- the call, both ways out -/
theorem am_wcall {y : MethodName} {mc ms : Nat} {Pc : Array Value → State → Prop} {Qc : Array Value → State → Outcome → State → Prop} {free : Addr → Prop} {g : JFrame} {rest : List Value} {a : Array Value} {ig : Instr}
    (hI : am_Inv p l e R s m args below meth c H locs cells slots g rest y a)
    (hK : am_BackX l R p e below s args y 3 8 (PreOf R mc ms Pc) (am_PostOf Qc mc ms free))
    (hg : g.method = m) (hsize : g.locals.size = c.maxLocals) (hdg : decode c.code g.pc = .ok (ig, 3)) (hW : 2 * g.monitorRoom + (rest.map fun v => v.category).sum ≤ 8)
    (hf : cells + mc ≤ R.cells ∧ slots + ms ≤ R.slots) (hPc : ∀ U : State, U.heap = H → s.WarmedH U.vm → Pc a U)
    (kr : ∀ (v : Option Value) (st₀ t T' : State) (L : List Loc), st₀.heap = H → Stand p l e R s m args below meth c T' (locs ++ L) (cells + mc) (slots + ms) → (∀ q ∈ L, free q.base) → T'.heap = t.heap → T'.vm = t.vm → Qc a st₀ (.returned v) t →
      ∃ u, Steps p.tables e below (T'.setTop { g with pc := g.pc + 3, stack := v.toList ++ rest }) u ∧ Q u)
    (kt : ∀ (x : Addr) (st₀ t T' : State) (L : List Loc), st₀.heap = H → Stand p l e R s m args below meth c T' (locs ++ L) (cells + mc) (slots + ms) → (∀ q ∈ L, free q.base) → T'.heap = t.heap → T'.vm = t.vm → Qc a st₀ (.threw x) t →
      ∃ u, Steps p.tables e below ((T'.setTop { g with stack := rest }).pushFrame (.throwing x)) u ∧ Q u) :
    W p l e R s m args below meth c H locs cells slots Q g := by
  intro T hT X
  obtain ⟨vm₁, mk, X₁, hn, st⟩ := hI T hT X
  obtain ⟨o, ⟨U', l2, c2, s2⟩, X', ⟨g', mk', t, L, e1, e2, hq, h1, hL, h2, h3⟩, hs⟩ := hK m meth c ⟨T.setVm vm₁, locs, cells, slots⟩ { g with stack := rest } ig mk a X₁ hg hsize hdg hW hn ⟨hf.1, hf.2, hPc _ hT X₁.warmed⟩
  dsimp only [Pt.U, Pt.locs, Pt.cells, Pt.slots] at X' e1 e2 h1 h2 h3 hs hq
  subst h1; subst h2; subst h3
  rcases hs with ⟨v, rfl, hs⟩ | ⟨x, rfl, hs⟩
  · obtain ⟨u, a1, b1⟩ := kr v ((T.setVm vm₁).calling g' mk' a) t U' L hT X' hL e1 e2 hq
    exact ⟨u, st u (hs.trans a1), b1⟩
  · obtain ⟨u, a1, b1⟩ := kt x ((T.setVm vm₁).calling g' mk' a) t U' L hT X' hL e1 e2 hq
    exact ⟨u, st u (hs.trans a1), b1⟩
end AMC
end
section
/-! the classes: names, fields in the order of the slots, types; printed by wip/whole/gen1.py -/
def ck_R0 : String := "TokenMouth$Groups"
def ck_T0 : u_T := fun k => match k with
  | 0 => ("TokenMouth$Groups", "starts", "LTokenMouth$Row;", true)
  | 1 => ("TokenMouth$Groups", "keys", "LTokenMouth$Row;", true)
  | _ => ("TokenMouth$Groups", "values", "LTokenMouth$Row;", true)
def ck_y0 : Nat → FieldType := fun k => match k with
  | 0 => .object "TokenMouth$Row"
  | 1 => .object "TokenMouth$Row"
  | _ => .object "TokenMouth$Row"
theorem ck_n0 : ∀ a, a < 3 → ∀ b, b < 3 → a ≠ b → (ck_T0 a).2.1 ≠ (ck_T0 b).2.1 := by decide +kernel
theorem ck_o0 : ∀ k, k < 3 → parseFieldDescriptor (ck_T0 k).2.2.1 = some (ck_y0 k) := by decide +kernel
def ck_R1 : String := "TokenMouth$Macro"
def ck_T1 : u_T := fun k => match k with
  | 0 => ("TokenMouth$Macro", "text", "LTokenMouth$Row;", true)
  | 1 => ("TokenMouth$Macro", "body", "LTokenMouth$Row;", true)
  | _ => ("TokenMouth$Macro", "parameters", "I", false)
def ck_y1 : Nat → FieldType := fun k => match k with
  | 0 => .object "TokenMouth$Row"
  | 1 => .object "TokenMouth$Row"
  | _ => .int
theorem ck_n1 : ∀ a, a < 3 → ∀ b, b < 3 → a ≠ b → (ck_T1 a).2.1 ≠ (ck_T1 b).2.1 := by decide +kernel
theorem ck_o1 : ∀ k, k < 3 → parseFieldDescriptor (ck_T1 k).2.2.1 = some (ck_y1 k) := by decide +kernel
def ck_R2 : String := "TokenMouth$Names"
def ck_T2 : u_T := fun k => match k with
  | 0 => ("TokenMouth$Names", "heads", "[J", true)
  | 1 => ("TokenMouth$Names", "tails", "[J", true)
  | 2 => ("TokenMouth$Names", "meanings", "[I", true)
  | _ => ("TokenMouth$Names", "known", "I", false)
def ck_y2 : Nat → FieldType := fun k => match k with
  | 0 => .array (.long)
  | 1 => .array (.long)
  | 2 => .array (.int)
  | _ => .int
theorem ck_n2 : ∀ a, a < 4 → ∀ b, b < 4 → a ≠ b → (ck_T2 a).2.1 ≠ (ck_T2 b).2.1 := by decide +kernel
theorem ck_o2 : ∀ k, k < 4 → parseFieldDescriptor (ck_T2 k).2.2.1 = some (ck_y2 k) := by decide +kernel
def ck_R3 : String := "TokenMouth$Reader"
def ck_T3 : u_T := fun k => match k with
  | 0 => ("TokenMouth$Reader", "text", "[I", true)
  | 1 => ("TokenMouth$Reader", "categories", "[I", true)
  | 2 => ("TokenMouth$Reader", "length", "I", false)
  | 3 => ("TokenMouth$Reader", "state", "I", false)
  | 4 => ("TokenMouth$Reader", "place", "I", false)
  | 5 => ("TokenMouth$Reader", "trouble", "I", false)
  | 6 => ("TokenMouth$Reader", "head", "J", false)
  | _ => ("TokenMouth$Reader", "tail", "J", false)
def ck_y3 : Nat → FieldType := fun k => match k with
  | 0 => .array (.int)
  | 1 => .array (.int)
  | 2 => .int
  | 3 => .int
  | 4 => .int
  | 5 => .int
  | 6 => .long
  | _ => .long
theorem ck_n3 : ∀ a, a < 8 → ∀ b, b < 8 → a ≠ b → (ck_T3 a).2.1 ≠ (ck_T3 b).2.1 := by decide +kernel
theorem ck_o3 : ∀ k, k < 8 → parseFieldDescriptor (ck_T3 k).2.2.1 = some (ck_y3 k) := by decide +kernel
def ck_R4 : String := "TokenMouth$Row"
def ck_T4 : u_T := fun k => match k with
  | 0 => ("TokenMouth$Row", "items", "[I", true)
  | _ => ("TokenMouth$Row", "size", "I", false)
def ck_y4 : Nat → FieldType := fun k => match k with
  | 0 => .array (.int)
  | _ => .int
theorem ck_n4 : ∀ a, a < 2 → ∀ b, b < 2 → a ≠ b → (ck_T4 a).2.1 ≠ (ck_T4 b).2.1 := by decide +kernel
theorem ck_o4 : ∀ k, k < 2 → parseFieldDescriptor (ck_T4 k).2.2.1 = some (ck_y4 k) := by decide +kernel
def ck_R5 : String := "TokenMouth"
def ck_T5 : u_T := fun k => match k with
  | 0 => ("TokenMouth", "reader", "LTokenMouth$Reader;", true)
  | 1 => ("TokenMouth", "names", "LTokenMouth$Names;", true)
  | 2 => ("TokenMouth", "groups", "LTokenMouth$Groups;", true)
  | 3 => ("TokenMouth", "pending", "LTokenMouth$Row;", true)
  | 4 => ("TokenMouth", "outs", "LTokenMouth$Row;", true)
  | 5 => ("TokenMouth", "conditionals", "LTokenMouth$Row;", true)
  | 6 => ("TokenMouth", "arguments", "[LTokenMouth$Row;", true)
  | 7 => ("TokenMouth", "macros", "[LTokenMouth$Macro;", true)
  | 8 => ("TokenMouth", "draft", "LTokenMouth$Macro;", false)
  | 9 => ("TokenMouth", "made", "I", false)
  | 10 => ("TokenMouth", "steps", "I", false)
  | 11 => ("TokenMouth", "faultKind", "I", false)
  | 12 => ("TokenMouth", "expansions", "I", false)
  | _ => ("TokenMouth", "openExpansions", "I", false)
def ck_y5 : Nat → FieldType := fun k => match k with
  | 0 => .object "TokenMouth$Reader"
  | 1 => .object "TokenMouth$Names"
  | 2 => .object "TokenMouth$Groups"
  | 3 => .object "TokenMouth$Row"
  | 4 => .object "TokenMouth$Row"
  | 5 => .object "TokenMouth$Row"
  | 6 => .array (.object "TokenMouth$Row")
  | 7 => .array (.object "TokenMouth$Macro")
  | 8 => .object "TokenMouth$Macro"
  | 9 => .int
  | 10 => .int
  | 11 => .int
  | 12 => .int
  | _ => .int
theorem ck_n5 : ∀ a, a < 14 → ∀ b, b < 14 → a ≠ b → (ck_T5 a).2.1 ≠ (ck_T5 b).2.1 := by decide +kernel
theorem ck_o5 : ∀ k, k < 14 → parseFieldDescriptor (ck_T5 k).2.2.1 = some (ck_y5 k) := by decide +kernel
def ck_R6 : String := "TokenMouthModel"
def ck_T6 : u_T := fun k => match k with
  | 0 => ("TokenMouthModel", "thrown", "I", false)
  | 1 => ("TokenMouthModel", "length", "I", false)
  | 2 => ("TokenMouthModel", "text", "[I", true)
  | 3 => ("TokenMouthModel", "at", "I", false)
  | 4 => ("TokenMouthModel", "state", "I", false)
  | 5 => ("TokenMouthModel", "fault", "I", false)
  | 6 => ("TokenMouthModel", "steps", "I", false)
  | 7 => ("TokenMouthModel", "expansions", "I", false)
  | 8 => ("TokenMouthModel", "categories", "[I", true)
  | 9 => ("TokenMouthModel", "pending", "I", false)
  | 10 => ("TokenMouthModel", "waiting", "[I", true)
  | 11 => ("TokenMouthModel", "names", "I", false)
  | 12 => ("TokenMouthModel", "letters", "[I", true)
  | 13 => ("TokenMouthModel", "size", "[I", true)
  | 14 => ("TokenMouthModel", "active", "[Z", true)
  | 15 => ("TokenMouthModel", "means", "[I", true)
  | 16 => ("TokenMouthModel", "spelt", "I", false)
  | 17 => ("TokenMouthModel", "spelling", "[I", true)
  | 18 => ("TokenMouthModel", "groups", "I", false)
  | 19 => ("TokenMouthModel", "kept", "I", false)
  | 20 => ("TokenMouthModel", "keptGroup", "[I", true)
  | 21 => ("TokenMouthModel", "keptOf", "[I", true)
  | 22 => ("TokenMouthModel", "keptWas", "[I", true)
  | 23 => ("TokenMouthModel", "macros", "I", false)
  | 24 => ("TokenMouthModel", "textSize", "[I", true)
  | 25 => ("TokenMouthModel", "texts", "[I", true)
  | 26 => ("TokenMouthModel", "bodySize", "[I", true)
  | 27 => ("TokenMouthModel", "bodies", "[I", true)
  | 28 => ("TokenMouthModel", "parameters", "[I", true)
  | 29 => ("TokenMouthModel", "conditionals", "I", false)
  | 30 => ("TokenMouthModel", "part", "[I", true)
  | 31 => ("TokenMouthModel", "frames", "I", false)
  | 32 => ("TokenMouthModel", "doing", "[I", true)
  | 33 => ("TokenMouthModel", "holds", "[I", true)
  | 34 => ("TokenMouthModel", "stage", "[I", true)
  | 35 => ("TokenMouthModel", "opened", "[I", true)
  | 36 => ("TokenMouthModel", "spell", "[I", true)
  | 37 => ("TokenMouthModel", "outs", "I", false)
  | 38 => ("TokenMouthModel", "outputs", "[I", true)
  | 39 => ("TokenMouthModel", "argument", "[I", true)
  | _ => ("TokenMouthModel", "argumentSize", "[I", true)
def ck_y6 : Nat → FieldType := fun k => match k with
  | 0 => .int
  | 1 => .int
  | 2 => .array (.int)
  | 3 => .int
  | 4 => .int
  | 5 => .int
  | 6 => .int
  | 7 => .int
  | 8 => .array (.int)
  | 9 => .int
  | 10 => .array (.int)
  | 11 => .int
  | 12 => .array (.int)
  | 13 => .array (.int)
  | 14 => .array (.boolean)
  | 15 => .array (.int)
  | 16 => .int
  | 17 => .array (.int)
  | 18 => .int
  | 19 => .int
  | 20 => .array (.int)
  | 21 => .array (.int)
  | 22 => .array (.int)
  | 23 => .int
  | 24 => .array (.int)
  | 25 => .array (.int)
  | 26 => .array (.int)
  | 27 => .array (.int)
  | 28 => .array (.int)
  | 29 => .int
  | 30 => .array (.int)
  | 31 => .int
  | 32 => .array (.int)
  | 33 => .array (.int)
  | 34 => .array (.int)
  | 35 => .array (.int)
  | 36 => .array (.int)
  | 37 => .int
  | 38 => .array (.int)
  | 39 => .array (.int)
  | _ => .array (.int)
theorem ck_n6 : ∀ a, a < 41 → ∀ b, b < 41 → a ≠ b → (ck_T6 a).2.1 ≠ (ck_T6 b).2.1 := by decide +kernel
theorem ck_o6 : ∀ k, k < 41 → parseFieldDescriptor (ck_T6 k).2.2.1 = some (ck_y6 k) := by decide +kernel
abbrev ck_cl : List vw_C := [(ck_R0, ck_T0, 3), (ck_R1, ck_T1, 3), (ck_R2, ck_T2, 4), (ck_R3, ck_T3, 8), (ck_R4, ck_T4, 2), (ck_R5, ck_T5, 14), (ck_R6, ck_T6, 41)]
def ck_R : Nat → String := fun i => match i with
  | 0 => ck_R0
  | 1 => ck_R1
  | 2 => ck_R2
  | 3 => ck_R3
  | 4 => ck_R4
  | 5 => ck_R5
  | _ => ck_R6
def ck_T : Nat → u_T := fun i => match i with
  | 0 => ck_T0
  | 1 => ck_T1
  | 2 => ck_T2
  | 3 => ck_T3
  | 4 => ck_T4
  | 5 => ck_T5
  | _ => ck_T6
def ck_y : Nat → (Nat → FieldType) := fun i => match i with
  | 0 => ck_y0
  | 1 => ck_y1
  | 2 => ck_y2
  | 3 => ck_y3
  | 4 => ck_y4
  | 5 => ck_y5
  | _ => ck_y6
def ck_N : Nat → Nat := fun i => match i with
  | 0 => 3
  | 1 => 3
  | 2 => 4
  | 3 => 8
  | 4 => 2
  | 5 => 14
  | _ => 41
theorem ck_at : ∀ i, i < 7 → ck_cl[i]? = some (ck_R i, ck_T i, ck_N i)
  | 0, _ => rfl
  | 1, _ => rfl
  | 2, _ => rfl
  | 3, _ => rfl
  | 4, _ => rfl
  | 5, _ => rfl
  | 6, _ => rfl
  | n + 7, h => absurd h (by omega)
theorem ck_ty : ∀ i, i < 7 → ∀ k, k < ck_N i → parseFieldDescriptor (ck_T i k).2.2.1 = some (ck_y i k)
  | 0, _ => ck_o0
  | 1, _ => ck_o1
  | 2, _ => ck_o2
  | 3, _ => ck_o3
  | 4, _ => ck_o4
  | 5, _ => ck_o5
  | 6, _ => ck_o6
  | n + 7, h => absurd h (by omega)
theorem ck_nm : ∀ i, i < 7 → ∀ a, a < ck_N i → ∀ b, b < ck_N i → a ≠ b → (ck_T i a).2.1 ≠ (ck_T i b).2.1
  | 0, _ => ck_n0
  | 1, _ => ck_n1
  | 2, _ => ck_n2
  | 3, _ => ck_n3
  | 4, _ => ck_n4
  | 5, _ => ck_n5
  | 6, _ => ck_n6
  | n + 7, h => absurd h (by omega)
theorem ck_own : ∀ i, i < 7 → ∀ k, k < ck_N i → (ck_T i k).1 = ck_R i := by decide +kernel
theorem ck_w0 : ∀ w ∈ u_ws ck_R0 ck_T0 3, w ∈ tables_1 := by decide +kernel
theorem ck_w1 : ∀ w ∈ u_ws ck_R1 ck_T1 3, w ∈ tables_1 := by decide +kernel
theorem ck_w2 : ∀ w ∈ u_ws ck_R2 ck_T2 4, w ∈ tables_1 := by decide +kernel
theorem ck_w3 : ∀ w ∈ u_ws ck_R3 ck_T3 8, w ∈ tables_1 := by decide +kernel
theorem ck_w4 : ∀ w ∈ u_ws ck_R4 ck_T4 2, w ∈ tables_1 := by decide +kernel
theorem ck_w5 : ∀ w ∈ u_ws ck_R5 ck_T5 14, w ∈ tables_1 := by decide +kernel
theorem ck_w6 : ∀ w ∈ u_ws ck_R6 ck_T6 41, w ∈ tables_1 := by decide +kernel
theorem ck_ws : ∀ i, i < 7 → ∀ w ∈ u_ws (ck_R i) (ck_T i) (ck_N i), w ∈ tables_1
  | 0, _ => ck_w0
  | 1, _ => ck_w1
  | 2, _ => ck_w2
  | 3, _ => ck_w3
  | 4, _ => ck_w4
  | 5, _ => ck_w5
  | 6, _ => ck_w6
  | n + 7, h => absurd h (by omega)
end
section
/-! THE ABSTRACT MACHINE: memory at logical addresses (a cell k lies at B0 + k), frames with a list of locals; an instruction is a function. -/
abbrev am_Sh : Type := Nat ⊕ (Nat × Nat)
/-- ints, longs, references by cell and slot; the kinds of the cells; the next free one, where it is known; how many cells and slots were made -/
abbrev am_M : Type := (Nat → Nat → Int32) × (Nat → Nat → Int64) × (Nat → Nat → Option Nat) × (Nat → Option am_Sh) × Option Nat × Nat × Nat
abbrev am_I (M : am_M) : Nat → Nat → Int32 := M.1
abbrev am_L (M : am_M) : Nat → Nat → Int64 := M.2.1
abbrev am_R (M : am_M) : Nat → Nat → Option Nat := M.2.2.1
abbrev am_sh (M : am_M) : Nat → Option am_Sh := M.2.2.2.1
abbrev am_nx (M : am_M) : Option Nat := M.2.2.2.2.1
abbrev am_cn (M : am_M) : Nat := M.2.2.2.2.2.1
abbrev am_sn (M : am_M) : Nat := M.2.2.2.2.2.2
def am_u2 {α : Type} (f : Nat → Nat → α) (k j : Nat) (v : α) : Nat → Nat → α := fun a b => if a = k then (if b = j then v else f a b) else f a b
def am_u1 {α : Type} (f : Nat → α) (k : Nat) (v : α) : Nat → α := fun a => if a = k then v else f a
def am_setI (M : am_M) (k j : Nat) (v : Int32) : am_M := (am_u2 M.1 k j v, M.2)
def am_setL (M : am_M) (k j : Nat) (v : Int64) : am_M := (M.1, am_u2 M.2.1 k j v, M.2.2)
def am_setR (M : am_M) (k j : Nat) (v : Option Nat) : am_M := (M.1, M.2.1, am_u2 M.2.2.1 k j v, M.2.2.2)
/-- a new cell at n, all its slots at their defaults -/
def am_mk (M : am_M) (n : Nat) (sp : am_Sh) (w : Nat) : am_M := (am_u1 M.1 n (fun _ => 0), am_u1 M.2.1 n (fun _ => 0), am_u1 M.2.2.1 n (fun _ => none), am_u1 M.2.2.2.1 n (some sp), some (n + 1), am_cn M + 1, am_sn M + w)
/-- a pc, locals, a stack, a memory -/
abbrev am_F : Type := Nat × List (Option Value) × List Value × am_M
/-- the end of a method: returned, or a throw of that kind -/
abbrev am_O : Type := Option Value ⊕ Nat
/-- next; next under a condition; a branch; a switch; a call; the end under a condition -/
abbrev am_Res : Type := am_F ⊕ ((Prop × am_F) ⊕ ((Prop × Nat × am_F) ⊕ ((List (Int32 × Nat) × Int32 × am_F) ⊕ ((Nat × List Value × (Nat → Option (Nat × Nat)) × am_F) ⊕ (Prop × am_O × am_M)))))
abbrev am_A : Type := List (Option Value) → List Value → am_M → Option am_Res
def am_swp (K : Nat → Prop) (d : Nat) (x : Int32) : List (Int32 × Nat) → Prop
  | [] => K d
  | (v, t) :: r => (x = v → K t) ∧ (¬ x = v → am_swp K d x r)
/-- a value of one slot is stored: what was a long behind whose second half it comes is gone -/
def am_st1 (ls : List (Option Value)) (i : Nat) (v : Value) : List (Option Value) := match i with
  | 0 => ls.set 0 (some v)
  | j + 1 => match ls[j]? with
    | some (some (.long _)) => (ls.set j none).set (j + 1) (some v)
    | some (some (.double _)) => (ls.set j none).set (j + 1) (some v)
    | _ => ls.set (j + 1) (some v)
/-- a place that holds nothing known any more -/
def am_kl (ls : List (Option Value)) (j : Nat) : List (Option Value) := (am_st1 ls j .null).set j none
def am_wp (callee : Nat → List Value → am_M → am_O → am_M → Prop) (tb : Nat → Option am_A) : Nat → am_F → (am_O → am_M → Prop) → Prop
  | 0, _, _ => False
  | k + 1, F, Q => match tb F.1 with
    | none => False
    | some a => match a F.2.1 F.2.2.1 F.2.2.2 with
      | none => False
      | some (.inl G) => am_wp callee tb k G Q
      | some (.inr (.inl (c, G))) => c ∧ am_wp callee tb k G Q
      | some (.inr (.inr (.inl (c, t, G)))) => (c → am_wp callee tb k (t, G.2) Q) ∧ (¬ c → am_wp callee tb k G Q)
      | some (.inr (.inr (.inr (.inl (sw, x, G))))) => am_swp (fun t => am_wp callee tb k (t, G.2) Q) G.1 x sw
      | some (.inr (.inr (.inr (.inr (.inl (y, as, hd, G)))))) => ∃ (o : am_O) (M' : am_M), callee y as G.2.2.2 o M' ∧ (match o with
          | .inl v => am_wp callee tb k (G.1, G.2.1, v.toList ++ G.2.2.1, M') Q
          | .inr x => match hd x with
            | some h => am_wp callee tb k (h.1, am_kl G.2.1 h.2, [], M') Q
            | none => Q (.inr x) M')
      | some (.inr (.inr (.inr (.inr (.inr (c, o, M')))))) => c ∧ Q o M'
theorem am_swp_mono {K K' : Nat → Prop} {d : Nat} {x : Int32} (h : ∀ t, K t → K' t) : ∀ sw, am_swp K d x sw → am_swp K' d x sw
  | [], hk => h d hk
  | (v, t) :: r, hk => ⟨fun e => h t (hk.1 e), fun e => am_swp_mono h r (hk.2 e)⟩
/-- a switch goes somewhere -/
theorem am_swp_one {K : Nat → Prop} {d : Nat} {x : Int32} : ∀ sw, am_swp K d x sw → ∃ t, K t ∧ ∀ K' : Nat → Prop, K' t → am_swp K' d x sw
  | [], hk => ⟨d, hk, fun _ h => h⟩
  | (v, t) :: r, hk => by
    by_cases e : x = v
    · exact ⟨t, hk.1 e, fun K' h => ⟨fun _ => h, fun q => absurd e q⟩⟩
    · obtain ⟨t', h1, h2⟩ := am_swp_one r (hk.2 e)
      exact ⟨t', h1, fun K' h => ⟨fun q => absurd q e, fun _ => h2 K' h⟩⟩
set_option maxHeartbeats 1000000 in
/-- one end is reached -/
theorem am_wp_one {callee : Nat → List Value → am_M → am_O → am_M → Prop} {tb : Nat → Option am_A} : ∀ (k : Nat) (F : am_F) (Q : am_O → am_M → Prop), am_wp callee tb k F Q → ∃ (o : am_O) (M' : am_M), am_wp callee tb k F (fun o1 M1 => o1 = o ∧ M1 = M') ∧ Q o M'
  | 0, _, _, h => False.elim h
  | k + 1, F, Q, h => by
    unfold am_wp at h ⊢
    split at h
    · exact False.elim h
    next a ha =>
    try rw [ha]
    try dsimp only
    split at h
    · exact False.elim h
    · next G hG =>
      try rw [hG]
      exact am_wp_one k G Q h
    · next c G hG =>
      try rw [hG]
      obtain ⟨o, M', h1, h2⟩ := am_wp_one k G Q h.2
      exact ⟨o, M', ⟨h.1, h1⟩, h2⟩
    · next c t G hG =>
      try rw [hG]
      by_cases e : c
      · obtain ⟨o, M', h1, h2⟩ := am_wp_one k _ Q (h.1 e)
        exact ⟨o, M', ⟨fun _ => h1, fun q => absurd e q⟩, h2⟩
      · obtain ⟨o, M', h1, h2⟩ := am_wp_one k _ Q (h.2 e)
        exact ⟨o, M', ⟨fun q => absurd q e, fun _ => h1⟩, h2⟩
    · next sw x G hG =>
      try rw [hG]
      obtain ⟨t, h1, h2⟩ := am_swp_one sw h
      obtain ⟨o, M', h3, h4⟩ := am_wp_one k _ Q h1
      exact ⟨o, M', h2 _ h3, h4⟩
    · next y as hd G hG =>
      try rw [hG]
      obtain ⟨o1, M1, hc, hk⟩ := h
      cases o1 with
      | inl v =>
        obtain ⟨o, M', h3, h4⟩ := am_wp_one k _ Q hk
        exact ⟨o, M', ⟨.inl v, M1, hc, h3⟩, h4⟩
      | inr x =>
        dsimp only at hk
        cases hh : hd x with
        | none =>
          rw [hh] at hk
          exact ⟨.inr x, M1, ⟨.inr x, M1, hc, by dsimp only; rw [hh]; exact ⟨rfl, rfl⟩⟩, hk⟩
        | some h' =>
          rw [hh] at hk
          obtain ⟨o, M', h3, h4⟩ := am_wp_one k _ Q hk
          exact ⟨o, M', ⟨.inr x, M1, hc, by dsimp only; rw [hh]; exact h3⟩, h4⟩
    · next c o M' hG =>
      try rw [hG]
      exact ⟨o, M', ⟨h.1, rfl, rfl⟩, h.2⟩
/-- what a method's arguments are among its locals -/
def am_args : List Value → List (Option Value)
  | [] => []
  | .long x :: r => some (.long x) :: none :: am_args r
  | .double x :: r => some (.double x) :: none :: am_args r
  | v :: r => some v :: am_args r
def am_ent (n : Nat) (as : List Value) : List (Option Value) := am_args as ++ List.replicate (n - (am_args as).length) none
/-- a run of method y, d calls deep at most: its tables tb, its number of locals ml -/
def am_ev (tb : Nat → Nat → Option am_A) (ml : Nat → Nat) : Nat → Nat → List Value → am_M → am_O → am_M → Prop
  | 0, _, _, _, _, _ => False
  | d + 1, y, as, M, o, M' => (am_args as).length ≤ ml y ∧ ∃ k, am_wp (am_ev tb ml d) (tb y) k (0, am_ent (ml y) as, [], M) (fun o1 M1 => o1 = o ∧ M1 = M')
def am_Ev (tb : Nat → Nat → Option am_A) (ml : Nat → Nat) (d y : Nat) (as : List Value) (M : am_M) (Q : am_O → am_M → Prop) : Prop := ∃ o M', am_ev tb ml d y as M o M' ∧ Q o M'
theorem am_Ev_of {tb : Nat → Nat → Option am_A} {ml : Nat → Nat} {d y : Nat} {as : List Value} {M : am_M} {Q : am_O → am_M → Prop} (hl : (am_args as).length ≤ ml y) (k : Nat) (h : am_wp (am_ev tb ml d) (tb y) k (0, am_ent (ml y) as, [], M) Q) : am_Ev tb ml (d + 1) y as M Q := by
  obtain ⟨o, M', h1, h2⟩ := am_wp_one k _ Q h
  exact ⟨o, M', ⟨hl, k, h1⟩, h2⟩
end
section
/-! the abstract memory and the heap -/
def am_val (B0 : Nat) (sb : Nat → Option Nat) : Value → Value
  | .ref k => .ref (B0 + k)
  | .retAddr k => va_rf (sb k)
  | v => v
def am_rf (B0 : Nat) (r : Option Nat) : Value := va_rf (r.map (fun k => B0 + k))
/-- a reference as a value of the abstract machine -/
def am_rv (r : Option Nat) : Value := va_rf r
theorem am_rv_val (B0 : Nat) (sb : Nat → Option Nat) (r : Option Nat) : am_val B0 sb (am_rv r) = am_rf B0 r := by cases r <;> rfl
def am_kd : FieldType → Nat
  | .int => 0
  | .long => 1
  | _ => 2
def am_ety : Nat → FieldType := fun k => match k with
  | 0 => .int
  | 1 => .long
  | 2 => .boolean
  | 3 => .object ck_R4
  | _ => .object ck_R1
def am_fv (B0 : Nat) (M : am_M) (k kd j : Nat) : Value := match kd with
  | 0 => .int (M.1 k j)
  | 1 => .long (M.2.1 k j)
  | _ => am_rf B0 (M.2.2.1 k j)
def am_av (B0 : Nat) (M : am_M) (k n kd : Nat) : vp_A := match kd with
  | 0 => (n, .inl (M.1 k))
  | 1 => (n, .inr (.inl (M.2.1 k)))
  | 2 => (n, .inl (M.1 k))
  | _ => (n, .inr (.inr (.inr (.inr (fun i => (M.2.2.1 k i).map (fun q => B0 + q))))))
def am_fs (B0 : Nat) (M : am_M) (k ci : Nat) : List Value := (List.range (ck_N ci)).map (fun j => am_fv B0 M k (am_kd (ck_y ci j)) j)
abbrev am_tys (cA : Nat → ClassId) : List (ClassId × FieldType) := [(cA 0, .int), (cA 1, .long), (cA 2, .boolean), (cA 3, .object ck_R4), (cA 4, .object ck_R1)]
theorem am_tys_at (cA : Nat → ClassId) : ∀ kd, kd < 5 → (am_tys cA)[kd]? = some (cA kd, am_ety kd)
  | 0, _ => rfl
  | 1, _ => rfl
  | 2, _ => rfl
  | 3, _ => rfl
  | 4, _ => rfl
  | n + 5, h => absurd h (by omega)
/-- the cell k holds what the memory says; the script (kind 5) lies at sb -/
def am_at (D : va_G) (cA : Nat → ClassId) (B0 : Nat) (sb : Nat → Option Nat) (s : State) (M : am_M) (H : Heap) (k : Nat) : am_Sh → Prop
  | .inl ci => ci < 7 ∧ va_at D ck_cl (B0 + k, .inr (ci, am_fs B0 M k ci)) H
  | .inr (kd, n) => if kd = 5 then (∃ b, sb 0 = some b ∧ va_X b n (M.1 k) s H ∧ b < B0) else kd < 5 ∧ va_at D ck_cl (B0 + k, .inl (cA kd, am_av B0 M k n kd)) H
def am_Rel (D : va_G) (cA : Nat → ClassId) (B0 : Nat) (sb : Nat → Option Nat) (H00 : Heap) (s : State) (M : am_M) (H : Heap) : Prop :=
  (∀ k sp, am_sh M k = some sp → am_at D cA B0 sb s M H k sp) ∧ (∀ n, am_nx M = some n → H.size = B0 + n) ∧ (∀ q, q < B0 → H[q]? = H00[q]?)
theorem am_at_moved {D : va_G} {cA : Nat → ClassId} {B0 : Nat} {sb : Nat → Option Nat} {s U : State} {M : am_M} {H : Heap} {k : Nat} (hvm : s.vm.Alike U.vm) : ∀ {sp : am_Sh}, am_at D cA B0 sb s M H k sp → am_at D cA B0 sb U M H k sp
  | .inl ci, h => h
  | .inr (kd, n), h => by
    unfold am_at at h ⊢
    dsimp only at h ⊢
    by_cases e : kd = 5
    · rw [if_pos e] at h ⊢
      obtain ⟨b, h1, h2, h3⟩ := h
      exact ⟨b, h1, h2.moved hvm, h3⟩
    · rw [if_neg e] at h ⊢
      exact h
theorem am_Rel_moved {D : va_G} {cA : Nat → ClassId} {B0 : Nat} {sb : Nat → Option Nat} {H00 : Heap} {s U : State} {M : am_M} {H : Heap} (hvm : s.vm.Alike U.vm) (h : am_Rel D cA B0 sb H00 s M H) : am_Rel D cA B0 sb H00 U M H := ⟨fun k sp hk => am_at_moved hvm (h.1 k sp hk), h.2⟩
theorem am_fs_get (B0 : Nat) (M : am_M) (k ci j : Nat) (hj : j < ck_N ci) : (am_fs B0 M k ci)[j]? = some (am_fv B0 M k (am_kd (ck_y ci j)) j) := by
  unfold am_fs
  rw [List.getElem?_map, List.getElem?_range hj]
  rfl
theorem am_fs_len (B0 : Nat) (M : am_M) (k ci : Nat) : (am_fs B0 M k ci).length = ck_N ci := by simp [am_fs]
/-- nothing of the cell k moves: it holds in a heap that is the same there -/
theorem am_at_kept {D : va_G} {cA : Nat → ClassId} {B0 : Nat} {sb : Nat → Option Nat} {s : State} {M M' : am_M} {H H' : Heap} {k : Nat} (hI : M'.1 k = M.1 k) (hL : M'.2.1 k = M.2.1 k) (hR : M'.2.2.1 k = M.2.2.1 k) (hH : H'[B0 + k]? = H[B0 + k]?) (hsb : ∀ b, b < B0 → H'[b]? = H[b]?) : ∀ {sp : am_Sh}, am_at D cA B0 sb s M H k sp → am_at D cA B0 sb s M' H' k sp
  | .inl ci, h => by
    refine ⟨h.1, ?_⟩
    have e : am_fs B0 M' k ci = am_fs B0 M k ci := by
      unfold am_fs am_fv
      rw [hI, hL, hR]
    rw [e]
    exact h.2.kept hH
  | .inr (kd, n), h => by
    unfold am_at at h ⊢
    dsimp only at h ⊢
    by_cases e : kd = 5
    · rw [if_pos e] at h ⊢
      rw [hI]
      obtain ⟨b, h1, h2, h3⟩ := h
      exact ⟨b, h1, h2.kept (hsb b h3), h3⟩
    · rw [if_neg e] at h ⊢
      have e2 : am_av B0 M' k n kd = am_av B0 M k n kd := by
        unfold am_av
        rw [hI, hL, hR]
      rw [e2]
      exact ⟨h.1, h.2.kept hH⟩
/-- one cell has changed -/
theorem am_Rel_put {D : va_G} {cA : Nat → ClassId} {B0 : Nat} {sb : Nat → Option Nat} {H00 : Heap} {s : State} {M M' : am_M} {H H' : Heap} {k : Nat} {sp : am_Sh} (h : am_Rel D cA B0 sb H00 s M H) (hk : am_sh M k = some sp) (h2 : M'.2.2.2 = M.2.2.2)
    (hI : ∀ q, q ≠ k → M'.1 q = M.1 q) (hL : ∀ q, q ≠ k → M'.2.1 q = M.2.1 q) (hR : ∀ q, q ≠ k → M'.2.2.1 q = M.2.2.1 q) (hz : H'.size = H.size) (ho : ∀ q, q ≠ B0 + k → H'[q]? = H[q]?) (hn : am_at D cA B0 sb s M' H' k sp) : am_Rel D cA B0 sb H00 s M' H' := by
  refine ⟨fun q sq hq => ?_, fun n hn => ?_, fun q hq => (ho q (by omega)).trans (h.2.2 q hq)⟩
  · have hq' : am_sh M q = some sq := by rw [← hq]; show M.2.2.2.1 q = M'.2.2.2.1 q; rw [h2]
    by_cases e : q = k
    · subst e
      cases hk.symm.trans hq'
      exact hn
    · exact am_at_kept (hI q e) (hL q e) (hR q e) (ho _ (by omega)) (fun b hs => ho _ (by omega)) (h.1 q sq hq')
  · rw [hz]
    exact h.2.1 n (by rw [← hn]; show M.2.2.2.2.1 = M'.2.2.2.2.1; rw [h2])
theorem am_u2_ne {α : Type} {f : Nat → Nat → α} {k j : Nat} {v : α} {q : Nat} (h : q ≠ k) : am_u2 f k j v q = f q := by
  funext b
  simp [am_u2, h]
theorem am_u2_eq {α : Type} {f : Nat → Nat → α} {k j : Nat} {v : α} : am_u2 f k j v k = fun b => if b = j then v else f k b := by
  funext b
  simp [am_u2]
theorem am_u1_ne {α : Type} {f : Nat → α} {k : Nat} {v : α} {q : Nat} (h : q ≠ k) : am_u1 f k v q = f q := by simp [am_u1, h]
theorem am_u1_eq {α : Type} {f : Nat → α} {k : Nat} {v : α} : am_u1 f k v k = v := by simp [am_u1]
/-- a field is set -/
theorem am_fs_set {B0 : Nat} {M M' : am_M} {k ci j : Nat} {v : Value} (hj : j < ck_N ci) (hv : am_fv B0 M' k (am_kd (ck_y ci j)) j = v) (ho : ∀ i, i ≠ j → i < ck_N ci → am_fv B0 M' k (am_kd (ck_y ci i)) i = am_fv B0 M k (am_kd (ck_y ci i)) i) : am_fs B0 M' k ci = (am_fs B0 M k ci).set j v := by
  apply List.ext_getElem?
  intro i
  by_cases hi : i < ck_N ci
  · rw [am_fs_get _ _ _ _ _ hi]
    by_cases e : i = j
    · subst e
      rw [List.getElem?_set_self (by rw [am_fs_len]; exact hi), hv]
    · rw [List.getElem?_set_ne (fun q => e q.symm), am_fs_get _ _ _ _ _ hi, ho i e hi]
  · rw [List.getElem?_eq_none (by rw [am_fs_len]; omega), List.getElem?_eq_none (by rw [List.length_set, am_fs_len]; omega)]
/-- the frame's locals -/
def am_Loc (B0 : Nat) (sb : Nat → Option Nat) (real : Array Slot) (ls : List (Option Value)) : Prop := real.size = ls.length ∧ lv_wf real ∧ ∀ (i : Nat) (v : Value), ls[i]? = some (some v) → real[i]? = some (Slot.val (am_val B0 sb v))
def am_locs (B0 : Nat) (sb : Nat → Option Nat) (ls : List (Option Value)) : List (Nat × Value) := (List.range ls.length).filterMap (fun i => (ls[i]?.getD none).map (fun v => (i, am_val B0 sb v)))
theorem am_locs_mem {B0 : Nat} {sb : Nat → Option Nat} {ls : List (Option Value)} {q : Nat × Value} : q ∈ am_locs B0 sb ls ↔ ∃ v, ls[q.1]? = some (some v) ∧ q.2 = am_val B0 sb v := by
  unfold am_locs
  rw [List.mem_filterMap]
  constructor
  · rintro ⟨i, -, h⟩
    cases hl : ls[i]? with
    | none => rw [hl] at h; simp at h
    | some o =>
      rw [hl] at h
      cases o with
      | none => simp at h
      | some v =>
        simp at h
        subst h
        exact ⟨v, hl, rfl⟩
  · rintro ⟨v, h1, h2⟩
    refine ⟨q.1, List.mem_range.mpr (List.getElem?_eq_some_iff.mp h1).1, ?_⟩
    rw [h1]
    simp [← h2]
theorem am_Loc_has {B0 : Nat} {sb : Nat → Option Nat} {real : Array Slot} {ls : List (Option Value)} (h : am_Loc B0 sb real ls) : lv_has real ls.length (am_locs B0 sb ls) := by
  refine ⟨h.1, h.2.1, fun q hq => ?_⟩
  obtain ⟨v, h1, h2⟩ := am_locs_mem.mp hq
  rw [h2]
  exact h.2.2 _ _ h1
theorem am_val_cat (B0 : Nat) (sb : Nat → Option Nat) (v : Value) : (am_val B0 sb v).category = v.category := by
  cases v with
  | retAddr k =>
    show (va_rf (sb k)).category = 1
    cases sb k <;> rfl
  | _ => rfl
def am_st2 (ls : List (Option Value)) (i : Nat) (v : Value) : List (Option Value) := (am_st1 ls i v).set (i + 1) none
theorem am_st1_len (ls : List (Option Value)) (i : Nat) (v : Value) : (am_st1 ls i v).length = ls.length := by
  cases i with
  | zero => simp [am_st1]
  | succ j => unfold am_st1; dsimp only; split <;> simp
theorem am_st2_len (ls : List (Option Value)) (i : Nat) (v : Value) : (am_st2 ls i v).length = ls.length := by simp [am_st2, am_st1_len]
theorem am_st1_at {ls : List (Option Value)} {i k : Nat} {v w : Value} (h : (am_st1 ls i v)[k]? = some (some w)) : (k = i ∧ w = v) ∨ (k ≠ i ∧ ls[k]? = some (some w) ∧ ¬ (k + 1 = i ∧ w.category = 2)) := by
  cases i with
  | zero =>
    simp only [am_st1] at h
    by_cases e : k = 0
    · subst e
      rw [List.getElem?_set] at h
      simp at h
      exact Or.inl ⟨rfl, h.2.symm⟩
    · rw [List.getElem?_set_ne (fun q => e q.symm)] at h
      exact Or.inr ⟨e, h, fun q => by omega⟩
  | succ j =>
    have wide : ∀ (u : Value), ls[j]? = some (some u) → ((ls.set j none).set (j + 1) (some v))[k]? = some (some w) → (k = j + 1 ∧ w = v) ∨ (k ≠ j + 1 ∧ ls[k]? = some (some w) ∧ ¬ (k + 1 = j + 1 ∧ w.category = 2)) := by
      intro u hu h
      by_cases e : k = j + 1
      · subst e
        rw [List.getElem?_set] at h
        simp at h
        exact Or.inl ⟨rfl, h.2.symm⟩
      · rw [List.getElem?_set_ne (fun q => e q.symm)] at h
        by_cases e2 : k = j
        · subst e2
          rw [List.getElem?_set] at h
          simp at h
        · rw [List.getElem?_set_ne (fun q => e2 q.symm)] at h
          exact Or.inr ⟨e, h, fun q => by omega⟩
    unfold am_st1 at h
    dsimp only at h
    split at h
    next x hx => exact wide _ hx h
    next x hx => exact wide _ hx h
    next n1 n2 =>
      by_cases e : k = j + 1
      · subst e
        rw [List.getElem?_set] at h
        simp at h
        exact Or.inl ⟨rfl, h.2.symm⟩
      · rw [List.getElem?_set_ne (fun q => e q.symm)] at h
        refine Or.inr ⟨e, h, ?_⟩
        rintro ⟨q1, q2⟩
        have : k = j := by omega
        subst this
        cases w with
        | long x => exact n1 x h
        | double x => exact n2 x h
        | _ => simp [Value.category] at q2
end
section
/-! what an instruction of the abstract machine must be: the machine does the same -/
def am_ws : List Cond := lw_tbl.filter goodWord
theorem am_in {w : Cond} (i : Nat) (h : tables_1[i]? = some w) (g : goodWord w = true) : w ∈ am_ws := List.mem_filter.mpr ⟨List.mem_append_right _ (List.mem_of_getElem? h), g⟩
theorem am_inS {w : Cond} (i : Nat) (h : (k2_sels lw_privs)[i]? = some w) (g : goodWord w = true) : w ∈ am_ws := List.mem_filter.mpr ⟨List.mem_append_left _ (List.mem_of_getElem? h), g⟩
def am_nest : List Cond := [.methodLinkNest "TokenMouth$Reader" 40 ⟨"TokenMouth", "charactersOf", "(J)I"⟩ "TokenMouth", .methodLinkNest "TokenMouth$Row" 29 ⟨"TokenMouth", "braceStep", "(I)I"⟩ "TokenMouth"]
def am_exn : Nat → String := fun k => match k with
  | 0 => "java/lang/IllegalArgumentException"
  | 1 => "java/lang/IllegalStateException"
  | 2 => "java/lang/IndexOutOfBoundsException"
  | _ => "java/util/NoSuchElementException"
def am_oc (B0 : Nat) (sb : Nat → Option Nat) (o : am_O) (oc : Outcome) (t : State) : Prop := match o with
  | .inl v => oc = .returned (v.map (am_val B0 sb))
  | .inr kd => ∃ (x : Addr) (cell : Cell), oc = .threw x ∧ t.heap[x]? = some cell ∧ cell.vm = .none ∧ t.vm.findClass (am_exn kd) = some cell.cls
def am_A0 (B0 : Nat) : Nat → Prop := fun q => B0 ≤ q
def am_Qc (D : va_G) (cA : Nat → ClassId) (B0 : Nat) (sb : Nat → Option Nat) (H00 : Heap) (o : am_O) (M' : am_M) : Array Value → State → Outcome → State → Prop := fun _ st oc t => am_oc B0 sb o oc t ∧ am_Rel D cA B0 sb H00 t M' t.heap ∧ va_F (am_A0 B0) st t
def am_K (D : va_G) (cA : Nat → ClassId) (Th : State → Prop) (s : State) : Prop := va_K D ck_cl (am_tys cA) s ∧ (∀ w ∈ am_nest, va_Nw w s) ∧ va_AO ck_R4 s ∧ va_AO ck_R1 s ∧ Th s
def am_MQ (below : List Frame) (Qc : Array Value → State → Outcome → State → Prop) (a : Array Value) (s : State) (mc ms : Nat) (free : Addr → Prop) : State → Prop := fun t =>
  ∃ o, t.status = .running ∧ Ended t below o ∧ Qc a s o t ∧ ∃ L, am_FE s t L mc ms ∧ ∀ q ∈ L, free q.base
theorem am_MQ_of {below : List Frame} {Qc : Array Value → State → Outcome → State → Prop} {a : Array Value} {s : State} {mc ms : Nat} {free : Addr → Prop} {t : State} (h : MQ below Qc a s mc ms free t) : am_MQ below Qc a s mc ms free t := by
  obtain ⟨o, h1, h2, h3, L, h4, h5⟩ := h
  exact ⟨o, h1, h2, h3, L, ⟨h4.2.1, h4.2.2⟩, h5⟩
section AMW
variable {p : Program} {l : Launch} {e : Env} {R : Room} {s : State} {m : MethodId} {args : Array Value} {below : List Frame} {meth : Method} {c : Code} {H : Heap} {locs : List Loc} {cells slots : Nat} {Q Q' : State → Prop}
theorem am_W_mono {g : JFrame} (h : ∀ t, Q t → Q' t) (k : W p l e R s m args below meth c H locs cells slots Q g) : W p l e R s m args below meth c H locs cells slots Q' g := by
  intro T hT X
  obtain ⟨t, a, b⟩ := k T hT X
  exact ⟨t, a, h t b⟩
end AMW
def am_Cx (D : va_G) (cA : Nat → ClassId) (B0 : Nat) (Th : State → Prop) (cc : ByteArray) (own mn : String) (eh : List (Nat × Nat × Nat × Nat)) (rt : Option FieldType) (p : Program) (l : Launch) (R : Room) (s : State) (m : MethodId) (args : Array Value) (meth : Method) (c : Code) : Prop :=
  p.tables.exec = Jvm.exec ∧ c.code = cc ∧ meth.sig.returnType = rt ∧ meth.locks = false ∧ s.vm.findClass own = some m.cls ∧ (∀ w ∈ am_ws, w.before args s = true) ∧ am_K D cA Th s ∧ B0 ≤ s.heap.size ∧ 16 ≤ R.frames ∧ 256 ≤ R.locals ∧ meth.name = mn ∧ c.exceptionTable.toList.map (fun h => (h.startPc, h.endPc, h.handlerPc, h.catchType)) = eh ∧ l.flags = pinnedFlags ++ [noTraceFlag]
/-- the walk at a frame of the abstract machine -/
def am_Wk (B0 : Nat) (sb : Nat → Option Nat) (p : Program) (l : Launch) (e : Env) (R : Room) (s : State) (m : MethodId) (args : Array Value) (below : List Frame) (meth : Method) (c : Code) (H : Heap) (locs : List Loc) (cells slots : Nat) (Q : State → Prop) (pc : Nat) (real : Array Slot) (st : List Value) : Prop :=
  W p l e R s m args below meth c H locs cells slots Q (F0 m pc real (st.map (am_val B0 sb)))
/-- on to the frame G, from the memory M -/
def am_To (D : va_G) (cA : Nat → ClassId) (B0 : Nat) (sb : Nat → Option Nat) (H00 : Heap) (p : Program) (l : Launch) (e : Env) (R : Room) (s : State) (m : MethodId) (args : Array Value) (below : List Frame) (meth : Method) (c : Code) (cells slots : Nat) (Q : State → Prop) (M : am_M) (G : am_F) : Prop :=
  cells + (am_cn G.2.2.2 - am_cn M) ≤ R.cells ∧ slots + (am_sn G.2.2.2 - am_sn M) ≤ R.slots ∧
  ∀ (H1 : Heap) (locs1 : List Loc) (real1 : Array Slot), am_Loc B0 sb real1 G.2.1 → am_Rel D cA B0 sb H00 s G.2.2.2 H1 → va_S (am_A0 B0) s.heap H1 locs1 →
    am_Wk B0 sb p l e R s m args below meth c H1 locs1 (cells + (am_cn G.2.2.2 - am_cn M)) (slots + (am_sn G.2.2.2 - am_sn M)) Q G.1 real1 G.2.2.1
def am_Up (M M' : am_M) : Prop := am_cn M ≤ am_cn M' ∧ am_sn M ≤ am_sn M'
def am_Ok (nm : Nat → MethodName) (D : va_G) (cA : Nat → ClassId) (B0 : Nat) (sb : Nat → Option Nat) (H00 : Heap) (Th : State → Prop) (cc : ByteArray) (own mn : String) (eh : List (Nat × Nat × Nat × Nat)) (rt : Option FieldType) (pc : Nat) (a : am_A) : Prop :=
  ∀ (ls : List (Option Value)) (st : List Value) (M : am_M) (res : am_Res), a ls st M = some res →
    (match res with
      | .inl G => am_Up M G.2.2.2 ∧ G.2.1.length = ls.length
      | .inr (.inl (_, G)) => am_Up M G.2.2.2 ∧ G.2.1.length = ls.length
      | .inr (.inr (.inl (_, _, G))) => G.2.2.2 = M ∧ G.2.1 = ls
      | .inr (.inr (.inr (.inl (_, _, G)))) => G.2.2.2 = M ∧ G.2.1 = ls
      | .inr (.inr (.inr (.inr (.inl (_, _, _, G))))) => G.2.2.2 = M ∧ G.2.1 = ls ∧ G.1 = pc + 3
      | .inr (.inr (.inr (.inr (.inr (_, _, M'))))) => am_Up M M') ∧
    ∀ (p : Program) (l : Launch) (e : Env) (R : Room) (s : State) (m : MethodId) (args : Array Value) (below : List Frame) (meth : Method) (c : Code), am_Cx D cA B0 Th cc own mn eh rt p l R s m args meth c → ls.length = c.maxLocals →
    ∀ (H : Heap) (locs : List Loc) (cells slots : Nat) (real : Array Slot), am_Loc B0 sb real ls → am_Rel D cA B0 sb H00 s M H → va_S (am_A0 B0) s.heap H locs → cells ≤ R.cells → slots ≤ R.slots →
    match res with
      | .inl G => ∀ Q, am_To D cA B0 sb H00 p l e R s m args below meth c cells slots Q M G → am_Wk B0 sb p l e R s m args below meth c H locs cells slots Q pc real st
      | .inr (.inl (cd, G)) => cd → ∀ Q, am_To D cA B0 sb H00 p l e R s m args below meth c cells slots Q M G → am_Wk B0 sb p l e R s m args below meth c H locs cells slots Q pc real st
      | .inr (.inr (.inl (cd, t, G))) => ∀ Q, (cd → am_Wk B0 sb p l e R s m args below meth c H locs cells slots Q t real G.2.2.1) → (¬ cd → am_Wk B0 sb p l e R s m args below meth c H locs cells slots Q G.1 real G.2.2.1) → am_Wk B0 sb p l e R s m args below meth c H locs cells slots Q pc real st
      | .inr (.inr (.inr (.inl (sw, x, G)))) => ∀ Q, am_swp (fun t => am_Wk B0 sb p l e R s m args below meth c H locs cells slots Q t real G.2.2.1) G.1 x sw → am_Wk B0 sb p l e R s m args below meth c H locs cells slots Q pc real st
      | .inr (.inr (.inr (.inr (.inl (y, as, hd, G))))) => am_Inv p l e R s m args below meth c H locs cells slots (F0 m pc real (st.map (am_val B0 sb))) (G.2.2.1.map (am_val B0 sb)) (nm y) (as.map (am_val B0 sb)).toArray ∧ (∃ ig, decode cc pc = .ok (ig, 3)) ∧ ((G.2.2.1.map (am_val B0 sb)).map fun v => v.category).sum ≤ 8 ∧
          ∀ (Q : State → Prop) (T' : State) (x : Addr) (kd : Nat) (cell : Cell) (locs1 : List Loc) (cells1 slots1 : Nat), Stand p l e R s m args below meth c T' locs1 cells1 slots1 → T'.heap[x]? = some cell → cell.vm = .none → s.vm.findClass (am_exn kd) = some cell.cls →
            (match hd kd with
              | some h => ∀ (real1 : Array Slot), am_Loc B0 sb real1 (am_kl ls h.2) → W p l e R s m args below meth c T'.heap locs1 cells1 slots1 Q (F0 m h.1 real1 [])
              | none => ∀ vm' : Vm, Stand p l e R s m args below meth c (T'.setVm vm') locs1 cells1 slots1 → ∃ u, Steps p.tables e below ((T'.setVm vm').setFrames (.throwing x :: below)) u ∧ Q u) →
            ∃ u, Steps p.tables e below ((T'.setTop (F0 m pc real (G.2.2.1.map (am_val B0 sb)))).pushFrame (.throwing x)) u ∧ Q u
      | .inr (.inr (.inr (.inr (.inr (cd, o, M'))))) => cd → cells + (am_cn M' - am_cn M) ≤ R.cells → slots + (am_sn M' - am_sn M) ≤ R.slots →
          am_Wk B0 sb p l e R s m args below meth c H locs cells slots (am_MQ below (am_Qc D cA B0 sb H00 o M') args s (cells + (am_cn M' - am_cn M)) (slots + (am_sn M' - am_sn M)) (am_A0 B0)) pc real st
end
section
/-! instructions that leave the memory alone -/
section ACT
variable {nm : Nat → MethodName} {D : va_G} {cA : Nat → ClassId} {B0 : Nat} {sb : Nat → Option Nat} {H00 : Heap} {Th : State → Prop} {cc : ByteArray} {own mn : String} {eh : List (Nat × Nat × Nat × Nat)} {rt : Option FieldType} {pc : Nat}
theorem am_self {D : va_G} {cA : Nat → ClassId} {p : Program} {l : Launch} {e : Env} {R : Room} {s : State} {m : MethodId} {args : Array Value} {below : List Frame} {meth : Method} {c : Code} {H : Heap} {locs : List Loc} {cells slots : Nat} {Q : State → Prop} {M : am_M} {n : Nat} {ls : List (Option Value)} {st : List Value}
    (h : am_To D cA B0 sb H00 p l e R s m args below meth c cells slots Q M (n, ls, st, M)) (hR : am_Rel D cA B0 sb H00 s M H) (hS : va_S (am_A0 B0) s.heap H locs) : ∀ real1, am_Loc B0 sb real1 ls → am_Wk B0 sb p l e R s m args below meth c H locs cells slots Q n real1 st := by
  intro real1 hl
  have h3 := h.2.2 H locs real1 hl hR hS
  dsimp only at h3
  rw [Nat.sub_self, Nat.sub_self, Nat.add_zero, Nat.add_zero] at h3
  exact h3
theorem ok_simple {a : am_A} (h : ∀ ls st M res, a ls st M = some res → ∃ n ls' st', res = .inl (n, ls', st', M) ∧ ls'.length = ls.length ∧
    ∀ (p : Program) (l : Launch) (e : Env) (R : Room) (s : State) (m : MethodId) (args : Array Value) (below : List Frame) (meth : Method) (c : Code) (H : Heap) (locs : List Loc) (cells slots : Nat) (Q : State → Prop) (real : Array Slot),
      am_Cx D cA B0 Th cc own mn eh rt p l R s m args meth c → ls.length = c.maxLocals → am_Loc B0 sb real ls → (∀ real1, am_Loc B0 sb real1 ls' → am_Wk B0 sb p l e R s m args below meth c H locs cells slots Q n real1 st') → am_Wk B0 sb p l e R s m args below meth c H locs cells slots Q pc real st) : am_Ok nm D cA B0 sb H00 Th cc own mn eh rt pc a := by
  intro ls st M res hres
  obtain ⟨n, ls', st', rfl, hlen, hw⟩ := h ls st M res hres
  refine ⟨⟨⟨Nat.le_refl _, Nat.le_refl _⟩, hlen⟩, ?_⟩
  intro p l e R s m args below meth c C hml H locs cells slots real hl hR hS hc hs Q hT
  exact hw p l e R s m args below meth c H locs cells slots Q real C hml hl (am_self hT hR hS)
/-- a value is pushed -/
def ac_push (v : Value) (n : Nat) : am_A := fun ls st M => some (.inl (n, ls, v :: st, M))
theorem ok_push {v : Value} {n : Nat} (h : ∀ (p : Program) (l : Launch) (e : Env) (R : Room) (s : State) (m : MethodId) (args : Array Value) (below : List Frame) (meth : Method) (c : Code) (H : Heap) (locs : List Loc) (cells slots : Nat) (Q : State → Prop) (real : Array Slot) (rest : List Value),
      am_Cx D cA B0 Th cc own mn eh rt p l R s m args meth c → W p l e R s m args below meth c H locs cells slots Q (F0 m n real (am_val B0 sb v :: rest)) → W p l e R s m args below meth c H locs cells slots Q (F0 m pc real rest)) : am_Ok nm D cA B0 sb H00 Th cc own mn eh rt pc (ac_push v n) := by
  refine ok_simple fun ls st M res hr => ⟨n, ls, v :: st, (Option.some.inj hr).symm, rfl, ?_⟩
  intro p l e R s m args below meth c H locs cells slots Q real C hml hl k
  exact h p l e R s m args below meth c H locs cells slots Q real _ C (k real hl)
theorem ok_iconst {z : Int} {v : Int32} (hd : decode cc pc = .ok (.iconst z, 1)) (hv : Int32.ofInt z = v) : am_Ok nm D cA B0 sb H00 Th cc own mn eh rt pc (ac_push (.int v) (pc + 1)) := ok_push fun _ _ _ _ _ _ _ _ _ _ _ _ _ _ _ _ _ C k => lv_iconst C.1 C.2.1 hd hv k
theorem ok_bipush {z : Int} {v : Int32} (hd : decode cc pc = .ok (.bipush z, 2)) (hv : (Int8.ofInt z).toInt32 = v) : am_Ok nm D cA B0 sb H00 Th cc own mn eh rt pc (ac_push (.int v) (pc + 2)) := ok_push fun _ _ _ _ _ _ _ _ _ _ _ _ _ _ _ _ _ C k => lv_bipush C.1 C.2.1 hd hv k
theorem ok_sipush {z : Int} {v : Int32} (hd : decode cc pc = .ok (.sipush z, 3)) (hv : (Int16.ofInt z).toInt32 = v) : am_Ok nm D cA B0 sb H00 Th cc own mn eh rt pc (ac_push (.int v) (pc + 3)) := ok_push fun _ _ _ _ _ _ _ _ _ _ _ _ _ _ _ _ _ C k => lv_sipush C.1 C.2.1 hd hv k
theorem ok_lconst {z : Fin 2} {v : Int64} (hd : decode cc pc = .ok (.lconst z, 1)) (hv : Int64.ofNat (z : Nat) = v) : am_Ok nm D cA B0 sb H00 Th cc own mn eh rt pc (ac_push (.long v) (pc + 1)) := ok_push fun _ _ _ _ _ _ _ _ _ _ _ _ _ _ _ _ _ C k => lv_lconst C.1 C.2.1 hd hv k
theorem ok_ldc2 {i : Nat} {v : Int64} (hd : decode cc pc = .ok (.ldc2_w i, 3)) (hw : Cond.constantLong own i v ∈ am_ws) : am_Ok nm D cA B0 sb H00 Th cc own mn eh rt pc (ac_push (.long v) (pc + 3)) := ok_push fun _ _ _ _ _ _ _ _ _ _ _ _ _ _ _ _ _ C k => lv_ldc2 C.1 C.2.1 C.2.2.2.2.1 (C.2.2.2.2.2.1 _ hw) hd k
theorem ok_null (hd : decode cc pc = .ok (.aconst_null, 1)) : am_Ok nm D cA B0 sb H00 Th cc own mn eh rt pc (ac_push .null (pc + 1)) := ok_push fun _ _ _ _ _ _ _ _ _ _ _ _ _ _ _ _ _ C k => lv_null C.1 C.2.1 hd k
/-- loads -/
def ac_iload (i n : Nat) : am_A := fun ls st M => match ls[i]? with
  | some (some (.int x)) => some (.inl (n, ls, .int x :: st, M))
  | _ => none
def ac_lload (i n : Nat) : am_A := fun ls st M => match ls[i]? with
  | some (some (.long x)) => some (.inl (n, ls, .long x :: st, M))
  | _ => none
def ac_aload (i n : Nat) : am_A := fun ls st M => match ls[i]? with
  | some (some (.ref x)) => some (.inl (n, ls, .ref x :: st, M))
  | some (some .null) => some (.inl (n, ls, .null :: st, M))
  | some (some (.retAddr x)) => some (.inl (n, ls, .retAddr x :: st, M))
  | _ => none
theorem ok_iload' {i n : Nat} (h : ∀ (p : Program) (l : Launch) (e : Env) (R : Room) (s : State) (m : MethodId) (args : Array Value) (below : List Frame) (meth : Method) (c : Code) (H : Heap) (locs : List Loc) (cells slots : Nat) (Q : State → Prop) (real : Array Slot) (rest : List Value) (x : Int32),
      p.tables.exec = Jvm.exec → c.code = cc → real[i]? = some (Slot.val (.int x)) → W p l e R s m args below meth c H locs cells slots Q (F0 m n real (.int x :: rest)) → W p l e R s m args below meth c H locs cells slots Q (F0 m pc real rest)) : am_Ok nm D cA B0 sb H00 Th cc own mn eh rt pc (ac_iload i n) := by
  refine ok_simple fun ls st M res hr => ?_
  unfold ac_iload at hr
  split at hr
  next x hx =>
    cases hr
    refine ⟨n, ls, _, rfl, rfl, ?_⟩
    intro p l e R s m args below meth c H locs cells slots Q real C hml hl k
    exact h p l e R s m args below meth c H locs cells slots Q real _ x C.1 C.2.1 (hl.2.2 i _ hx) (k real hl)
  next => cases hr
theorem ok_lload' {i n : Nat} (h : ∀ (p : Program) (l : Launch) (e : Env) (R : Room) (s : State) (m : MethodId) (args : Array Value) (below : List Frame) (meth : Method) (c : Code) (H : Heap) (locs : List Loc) (cells slots : Nat) (Q : State → Prop) (real : Array Slot) (rest : List Value) (x : Int64),
      p.tables.exec = Jvm.exec → c.code = cc → real[i]? = some (Slot.val (.long x)) → W p l e R s m args below meth c H locs cells slots Q (F0 m n real (.long x :: rest)) → W p l e R s m args below meth c H locs cells slots Q (F0 m pc real rest)) : am_Ok nm D cA B0 sb H00 Th cc own mn eh rt pc (ac_lload i n) := by
  refine ok_simple fun ls st M res hr => ?_
  unfold ac_lload at hr
  split at hr
  next x hx =>
    cases hr
    refine ⟨n, ls, _, rfl, rfl, ?_⟩
    intro p l e R s m args below meth c H locs cells slots Q real C hml hl k
    exact h p l e R s m args below meth c H locs cells slots Q real _ x C.1 C.2.1 (hl.2.2 i _ hx) (k real hl)
  next => cases hr
theorem ok_aload' {i n : Nat} (h : ∀ (p : Program) (l : Launch) (e : Env) (R : Room) (s : State) (m : MethodId) (args : Array Value) (below : List Frame) (meth : Method) (c : Code) (H : Heap) (locs : List Loc) (cells slots : Nat) (Q : State → Prop) (real : Array Slot) (rest : List Value) (x : Nat),
      p.tables.exec = Jvm.exec → c.code = cc → real[i]? = some (Slot.val (.ref x)) → W p l e R s m args below meth c H locs cells slots Q (F0 m n real (.ref x :: rest)) → W p l e R s m args below meth c H locs cells slots Q (F0 m pc real rest))
    (h0 : ∀ (p : Program) (l : Launch) (e : Env) (R : Room) (s : State) (m : MethodId) (args : Array Value) (below : List Frame) (meth : Method) (c : Code) (H : Heap) (locs : List Loc) (cells slots : Nat) (Q : State → Prop) (real : Array Slot) (rest : List Value),
      p.tables.exec = Jvm.exec → c.code = cc → real[i]? = some (Slot.val .null) → W p l e R s m args below meth c H locs cells slots Q (F0 m n real (.null :: rest)) → W p l e R s m args below meth c H locs cells slots Q (F0 m pc real rest)) : am_Ok nm D cA B0 sb H00 Th cc own mn eh rt pc (ac_aload i n) := by
  refine ok_simple fun ls st M res hr => ?_
  unfold ac_aload at hr
  split at hr
  next x hx =>
    cases hr
    refine ⟨n, ls, _, rfl, rfl, ?_⟩
    intro p l e R s m args below meth c H locs cells slots Q real C hml hl k
    exact h p l e R s m args below meth c H locs cells slots Q real _ (B0 + x) C.1 C.2.1 (hl.2.2 i _ hx) (k real hl)
  next hx =>
    cases hr
    refine ⟨n, ls, _, rfl, rfl, ?_⟩
    intro p l e R s m args below meth c H locs cells slots Q real C hml hl k
    exact h0 p l e R s m args below meth c H locs cells slots Q real _ C.1 C.2.1 (hl.2.2 i _ hx) (k real hl)
  next x hx =>
    cases hr
    refine ⟨n, ls, _, rfl, rfl, ?_⟩
    intro p l e R s m args below meth c H locs cells slots Q real C hml hl k
    have hv := hl.2.2 i _ hx
    have hk := k real hl
    unfold am_Wk at hk ⊢
    rw [List.map_cons] at hk
    show W p l e R s m args below meth c H locs cells slots Q (F0 m pc real (st.map (am_val B0 sb)))
    have hv' : real[i]? = some (Slot.val (va_rf (sb x))) := hv
    have hk' : W p l e R s m args below meth c H locs cells slots Q (F0 m n real (va_rf (sb x) :: st.map (am_val B0 sb))) := hk
    cases hs : sb x with
    | none =>
      rw [hs] at hv' hk'
      exact h0 p l e R s m args below meth c H locs cells slots Q real _ C.1 C.2.1 hv' hk'
    | some q =>
      rw [hs] at hv' hk'
      exact h p l e R s m args below meth c H locs cells slots Q real _ q C.1 C.2.1 hv' hk'
  next => cases hr
theorem ok_iload_n {k : Fin 4} {i : Nat} (hd : decode cc pc = .ok (.iload_n k, 1)) (hi : (k : Nat) = i) : am_Ok nm D cA B0 sb H00 Th cc own mn eh rt pc (ac_iload i (pc + 1)) := ok_iload' fun _ _ _ _ _ _ _ _ _ _ _ _ _ _ _ _ _ _ hx hb hl k => lv_iload_n hx hb hd hi hl k
theorem ok_iload {i : Nat} (hd : decode cc pc = .ok (.iload i, 2)) : am_Ok nm D cA B0 sb H00 Th cc own mn eh rt pc (ac_iload i (pc + 2)) := ok_iload' fun _ _ _ _ _ _ _ _ _ _ _ _ _ _ _ _ _ _ hx hb hl k => lv_iload hx hb hd hl k
theorem ok_lload_n {k : Fin 4} {i : Nat} (hd : decode cc pc = .ok (.lload_n k, 1)) (hi : (k : Nat) = i) : am_Ok nm D cA B0 sb H00 Th cc own mn eh rt pc (ac_lload i (pc + 1)) := ok_lload' fun _ _ _ _ _ _ _ _ _ _ _ _ _ _ _ _ _ _ hx hb hl k => lv_lload_n hx hb hd hi hl k
theorem ok_lload {i : Nat} (hd : decode cc pc = .ok (.lload i, 2)) : am_Ok nm D cA B0 sb H00 Th cc own mn eh rt pc (ac_lload i (pc + 2)) := ok_lload' fun _ _ _ _ _ _ _ _ _ _ _ _ _ _ _ _ _ _ hx hb hl k => lv_lload hx hb hd hl k
theorem ok_aload_n {k : Fin 4} {i : Nat} (hd : decode cc pc = .ok (.aload_n k, 1)) (hi : (k : Nat) = i) : am_Ok nm D cA B0 sb H00 Th cc own mn eh rt pc (ac_aload i (pc + 1)) := ok_aload' (fun _ _ _ _ _ _ _ _ _ _ _ _ _ _ _ _ _ _ hx hb hl k => lv_aload_n hx hb hd hi hl k) (fun _ _ _ _ _ _ _ _ _ _ _ _ _ _ _ _ _ hx hb hl k => lv_aload_nN hx hb hd hi hl k)
theorem ok_aload {i : Nat} (hd : decode cc pc = .ok (.aload i, 2)) : am_Ok nm D cA B0 sb H00 Th cc own mn eh rt pc (ac_aload i (pc + 2)) := ok_aload' (fun _ _ _ _ _ _ _ _ _ _ _ _ _ _ _ _ _ _ hx hb hl k => lv_aload hx hb hd hl k) (fun _ _ _ _ _ _ _ _ _ _ _ _ _ _ _ _ _ hx hb hl k => lv_aloadN hx hb hd hl k)
/-- stores -/
theorem am_Loc_st1 {real real' : Array Slot} {ls : List (Option Value)} {i : Nat} {v : Value} (h : am_Loc B0 sb real ls) (h' : lv_has real' ls.length ((i, am_val B0 sb v) :: (am_locs B0 sb ls).filter (fun q => !(q.1 == i) && !(q.1 + 1 == i && q.2.category == 2)))) : am_Loc B0 sb real' (am_st1 ls i v) := by
  refine ⟨by rw [am_st1_len]; exact h'.1, h'.2.1, fun k w hk => ?_⟩
  rcases am_st1_at hk with ⟨rfl, rfl⟩ | ⟨h1, h2, h3⟩
  · exact h'.2.2 _ List.mem_cons_self
  · refine h'.2.2 (k, am_val B0 sb w) (List.mem_cons_of_mem _ (List.mem_filter.mpr ⟨am_locs_mem.mpr ⟨w, h2, rfl⟩, ?_⟩))
    simp only [Bool.and_eq_true, Bool.not_eq_true', beq_eq_false_iff_ne, ne_eq, Bool.and_eq_false_iff, am_val_cat]
    refine ⟨h1, ?_⟩
    by_cases e : k + 1 = i
    · exact Or.inr (fun q => h3 ⟨e, q⟩)
    · exact Or.inl e
theorem am_Loc_st2 {real real' : Array Slot} {ls : List (Option Value)} {i : Nat} {v : Value} (h : am_Loc B0 sb real ls) (h' : lv_has real' ls.length ((i, am_val B0 sb v) :: (am_locs B0 sb ls).filter (fun q => !(q.1 == i) && (!(q.1 == i + 1) && !(q.1 + 1 == i && q.2.category == 2))))) : am_Loc B0 sb real' (am_st2 ls i v) := by
  refine ⟨by rw [am_st2_len]; exact h'.1, h'.2.1, fun k w hk => ?_⟩
  unfold am_st2 at hk
  by_cases e1 : k = i + 1
  · subst e1
    rw [List.getElem?_set] at hk
    simp at hk
  · rw [List.getElem?_set_ne (fun q => e1 q.symm)] at hk
    rcases am_st1_at hk with ⟨rfl, rfl⟩ | ⟨h1, h2, h3⟩
    · exact h'.2.2 _ List.mem_cons_self
    · refine h'.2.2 (k, am_val B0 sb w) (List.mem_cons_of_mem _ (List.mem_filter.mpr ⟨am_locs_mem.mpr ⟨w, h2, rfl⟩, ?_⟩))
      simp only [Bool.and_eq_true, Bool.not_eq_true', beq_eq_false_iff_ne, ne_eq, Bool.and_eq_false_iff, am_val_cat]
      refine ⟨h1, e1, ?_⟩
      by_cases e : k + 1 = i
      · exact Or.inr (fun q => h3 ⟨e, q⟩)
      · exact Or.inl e
def ac_istore (i n : Nat) : am_A := fun ls st M => match st with
  | .int x :: r => if i < ls.length then some (.inl (n, am_st1 ls i (.int x), r, M)) else none
  | _ => none
def ac_lstore (i n : Nat) : am_A := fun ls st M => match st with
  | .long x :: r => if i + 1 < ls.length then some (.inl (n, am_st2 ls i (.long x), r, M)) else none
  | _ => none
def ac_astore (i n : Nat) : am_A := fun ls st M => match st with
  | .ref x :: r => if i < ls.length then some (.inl (n, am_st1 ls i (.ref x), r, M)) else none
  | .null :: r => if i < ls.length then some (.inl (n, am_st1 ls i .null, r, M)) else none
  | _ => none
def ac_iinc (i : Nat) (z : Int32) (n : Nat) : am_A := fun ls st M => match ls[i]? with
  | some (some (.int x)) => some (.inl (n, am_st1 ls i (.int (x + z)), st, M))
  | _ => none
theorem ok_istore' {i n : Nat} (h : ∀ (p : Program) (l : Launch) (e : Env) (R : Room) (s : State) (m : MethodId) (args : Array Value) (below : List Frame) (meth : Method) (c : Code) (H : Heap) (locs : List Loc) (cells slots : Nat) (Q : State → Prop) (real : Array Slot) (rest : List Value) (x : Int32) (nL : Nat) (lv : List (Nat × Value)),
      p.tables.exec = Jvm.exec → c.code = cc → lv_has real nL lv → i < nL → (∀ ls' : Array Slot, lv_has ls' nL ((i, Value.int x) :: lv.filter (fun q => !(q.1 == i) && !(q.1 + 1 == i && q.2.category == 2))) → W p l e R s m args below meth c H locs cells slots Q (F0 m n ls' rest)) → W p l e R s m args below meth c H locs cells slots Q (F0 m pc real (.int x :: rest))) : am_Ok nm D cA B0 sb H00 Th cc own mn eh rt pc (ac_istore i n) := by
  refine ok_simple fun ls st M res hr => ?_
  unfold ac_istore at hr
  split at hr
  next x r =>
    split at hr
    next hi =>
      cases hr
      refine ⟨n, _, _, rfl, am_st1_len _ _ _, ?_⟩
      intro p l e R s m args below meth c H locs cells slots Q real C hml hl k
      exact h p l e R s m args below meth c H locs cells slots Q real _ x _ _ C.1 C.2.1 (am_Loc_has hl) hi (fun ls' h' => k ls' (am_Loc_st1 hl h'))
    next => cases hr
  next => cases hr
theorem ok_lstore' {i n : Nat} (h : ∀ (p : Program) (l : Launch) (e : Env) (R : Room) (s : State) (m : MethodId) (args : Array Value) (below : List Frame) (meth : Method) (c : Code) (H : Heap) (locs : List Loc) (cells slots : Nat) (Q : State → Prop) (real : Array Slot) (rest : List Value) (x : Int64) (nL : Nat) (lv : List (Nat × Value)),
      p.tables.exec = Jvm.exec → c.code = cc → lv_has real nL lv → i + 1 < nL → (∀ ls' : Array Slot, lv_has ls' nL ((i, Value.long x) :: lv.filter (fun q => !(q.1 == i) && (!(q.1 == i + 1) && !(q.1 + 1 == i && q.2.category == 2)))) → W p l e R s m args below meth c H locs cells slots Q (F0 m n ls' rest)) → W p l e R s m args below meth c H locs cells slots Q (F0 m pc real (.long x :: rest))) : am_Ok nm D cA B0 sb H00 Th cc own mn eh rt pc (ac_lstore i n) := by
  refine ok_simple fun ls st M res hr => ?_
  unfold ac_lstore at hr
  split at hr
  next x r =>
    split at hr
    next hi =>
      cases hr
      refine ⟨n, _, _, rfl, am_st2_len _ _ _, ?_⟩
      intro p l e R s m args below meth c H locs cells slots Q real C hml hl k
      exact h p l e R s m args below meth c H locs cells slots Q real _ x _ _ C.1 C.2.1 (am_Loc_has hl) hi (fun ls' h' => k ls' (am_Loc_st2 hl h'))
    next => cases hr
  next => cases hr
theorem ok_astore' {i n : Nat} (h : ∀ (p : Program) (l : Launch) (e : Env) (R : Room) (s : State) (m : MethodId) (args : Array Value) (below : List Frame) (meth : Method) (c : Code) (H : Heap) (locs : List Loc) (cells slots : Nat) (Q : State → Prop) (real : Array Slot) (rest : List Value) (x : Nat) (nL : Nat) (lv : List (Nat × Value)),
      p.tables.exec = Jvm.exec → c.code = cc → lv_has real nL lv → i < nL → (∀ ls' : Array Slot, lv_has ls' nL ((i, Value.ref x) :: lv.filter (fun q => !(q.1 == i) && !(q.1 + 1 == i && q.2.category == 2))) → W p l e R s m args below meth c H locs cells slots Q (F0 m n ls' rest)) → W p l e R s m args below meth c H locs cells slots Q (F0 m pc real (.ref x :: rest)))
    (h0 : ∀ (p : Program) (l : Launch) (e : Env) (R : Room) (s : State) (m : MethodId) (args : Array Value) (below : List Frame) (meth : Method) (c : Code) (H : Heap) (locs : List Loc) (cells slots : Nat) (Q : State → Prop) (real : Array Slot) (rest : List Value) (nL : Nat) (lv : List (Nat × Value)),
      p.tables.exec = Jvm.exec → c.code = cc → lv_has real nL lv → i < nL → (∀ ls' : Array Slot, lv_has ls' nL ((i, Value.null) :: lv.filter (fun q => !(q.1 == i) && !(q.1 + 1 == i && q.2.category == 2))) → W p l e R s m args below meth c H locs cells slots Q (F0 m n ls' rest)) → W p l e R s m args below meth c H locs cells slots Q (F0 m pc real (.null :: rest))) : am_Ok nm D cA B0 sb H00 Th cc own mn eh rt pc (ac_astore i n) := by
  refine ok_simple fun ls st M res hr => ?_
  unfold ac_astore at hr
  split at hr
  next x r =>
    split at hr
    next hi =>
      cases hr
      refine ⟨n, _, _, rfl, am_st1_len _ _ _, ?_⟩
      intro p l e R s m args below meth c H locs cells slots Q real C hml hl k
      exact h p l e R s m args below meth c H locs cells slots Q real _ (B0 + x) _ _ C.1 C.2.1 (am_Loc_has hl) hi (fun ls' h' => k ls' (am_Loc_st1 hl h'))
    next => cases hr
  next r =>
    split at hr
    next hi =>
      cases hr
      refine ⟨n, _, _, rfl, am_st1_len _ _ _, ?_⟩
      intro p l e R s m args below meth c H locs cells slots Q real C hml hl k
      exact h0 p l e R s m args below meth c H locs cells slots Q real _ _ _ C.1 C.2.1 (am_Loc_has hl) hi (fun ls' h' => k ls' (am_Loc_st1 hl h'))
    next => cases hr
  next => cases hr
theorem ok_istore_n {k : Fin 4} {i : Nat} (hd : decode cc pc = .ok (.istore_n k, 1)) (hi : (k : Nat) = i) : am_Ok nm D cA B0 sb H00 Th cc own mn eh rt pc (ac_istore i (pc + 1)) := ok_istore' fun _ _ _ _ _ _ _ _ _ _ _ _ _ _ _ _ _ _ _ _ hx hb hl hn k => lv_istore_n hx hb hd hi hl hn rfl k
theorem ok_istore {i : Nat} (hd : decode cc pc = .ok (.istore i, 2)) : am_Ok nm D cA B0 sb H00 Th cc own mn eh rt pc (ac_istore i (pc + 2)) := ok_istore' fun _ _ _ _ _ _ _ _ _ _ _ _ _ _ _ _ _ _ _ _ hx hb hl hn k => lv_istore hx hb hd hl hn rfl k
theorem ok_lstore_n {k : Fin 4} {i : Nat} (hd : decode cc pc = .ok (.lstore_n k, 1)) (hi : (k : Nat) = i) : am_Ok nm D cA B0 sb H00 Th cc own mn eh rt pc (ac_lstore i (pc + 1)) := ok_lstore' fun _ _ _ _ _ _ _ _ _ _ _ _ _ _ _ _ _ _ _ _ hx hb hl hn k => lv_lstore_n hx hb hd hi hl hn rfl k
theorem ok_lstore {i : Nat} (hd : decode cc pc = .ok (.lstore i, 2)) : am_Ok nm D cA B0 sb H00 Th cc own mn eh rt pc (ac_lstore i (pc + 2)) := ok_lstore' fun _ _ _ _ _ _ _ _ _ _ _ _ _ _ _ _ _ _ _ _ hx hb hl hn k => lv_lstore hx hb hd hl hn rfl k
theorem ok_astore_n {k : Fin 4} {i : Nat} (hd : decode cc pc = .ok (.astore_n k, 1)) (hi : (k : Nat) = i) : am_Ok nm D cA B0 sb H00 Th cc own mn eh rt pc (ac_astore i (pc + 1)) := ok_astore' (fun _ _ _ _ _ _ _ _ _ _ _ _ _ _ _ _ _ _ _ _ hx hb hl hn k => lv_astore_n hx hb hd hi hl hn rfl k) (fun _ _ _ _ _ _ _ _ _ _ _ _ _ _ _ _ _ _ _ hx hb hl hn k => lv_astore_nN hx hb hd hi hl hn rfl k)
theorem ok_astore {i : Nat} (hd : decode cc pc = .ok (.astore i, 2)) : am_Ok nm D cA B0 sb H00 Th cc own mn eh rt pc (ac_astore i (pc + 2)) := ok_astore' (fun _ _ _ _ _ _ _ _ _ _ _ _ _ _ _ _ _ _ _ _ hx hb hl hn k => lv_astore hx hb hd hl hn rfl k) (fun _ _ _ _ _ _ _ _ _ _ _ _ _ _ _ _ _ _ _ hx hb hl hn k => lv_astoreN hx hb hd hl hn rfl k)
theorem ok_iinc {i : Nat} {z : Int} {z' : Int32} (hd : decode cc pc = .ok (.iinc i z, 3)) (hz : Int32.ofInt z = z') : am_Ok nm D cA B0 sb H00 Th cc own mn eh rt pc (ac_iinc i z' (pc + 3)) := by
  refine ok_simple fun ls st M res hr => ?_
  unfold ac_iinc at hr
  split at hr
  next x hx =>
    cases hr
    refine ⟨_, _, _, rfl, am_st1_len _ _ _, ?_⟩
    intro p l e R s m args below meth c H locs cells slots Q real C hml hl k
    obtain ⟨j, hj⟩ := List.getElem?_of_mem (am_locs_mem (B0 := B0) (sb := sb) (ls := ls) (q := (i, .int x)) |>.mpr ⟨_, hx, rfl⟩)
    exact lv_iinc C.1 C.2.1 hd (am_Loc_has hl) hj (by rw [hz]) (List.getElem?_eq_some_iff.mp hx).1 rfl (fun ls' h' => k ls' (am_Loc_st1 hl h'))
  next => cases hr
end ACT
end
section
/-! instructions that leave the memory alone: numbers, the stack, branches, the end -/
section ACT2
variable {nm : Nat → MethodName} {D : va_G} {cA : Nat → ClassId} {B0 : Nat} {sb : Nat → Option Nat} {H00 : Heap} {Th : State → Prop} {cc : ByteArray} {own mn : String} {eh : List (Nat × Nat × Nat × Nat)} {rt : Option FieldType} {pc : Nat}
def ac_ii (f : Int32 → Int32 → Int32) (n : Nat) : am_A := fun ls st M => match st with
  | .int y :: .int x :: r => some (.inl (n, ls, .int (f x y) :: r, M))
  | _ => none
theorem ok_ii {n : Nat} {f : Int32 → Int32 → Int32} (h : ∀ (p : Program) (l : Launch) (e : Env) (R : Room) (s : State) (m : MethodId) (args : Array Value) (below : List Frame) (meth : Method) (c : Code) (H : Heap) (locs : List Loc) (cells slots : Nat) (Q : State → Prop) (real : Array Slot) (rest : List Value) (y x : Int32), p.tables.exec = Jvm.exec → c.code = cc → W p l e R s m args below meth c H locs cells slots Q (F0 m n real (.int (f x y) :: rest)) → W p l e R s m args below meth c H locs cells slots Q (F0 m pc real (.int y :: .int x :: rest))) : am_Ok nm D cA B0 sb H00 Th cc own mn eh rt pc (ac_ii f n) := by
  refine ok_simple fun ls st M res hr => ?_
  unfold ac_ii at hr
  split at hr
  next y x r =>
    cases hr
    refine ⟨n, ls, _, rfl, rfl, ?_⟩
    intro p l e R s m args below meth c H locs cells slots Q real C hml hl k
    exact h p l e R s m args below meth c H locs cells slots Q real _ y x C.1 C.2.1 (k real hl)
  next => cases hr
def ac_ll (f : Int64 → Int64 → Int64) (n : Nat) : am_A := fun ls st M => match st with
  | .long y :: .long x :: r => some (.inl (n, ls, .long (f x y) :: r, M))
  | _ => none
theorem ok_ll {n : Nat} {f : Int64 → Int64 → Int64} (h : ∀ (p : Program) (l : Launch) (e : Env) (R : Room) (s : State) (m : MethodId) (args : Array Value) (below : List Frame) (meth : Method) (c : Code) (H : Heap) (locs : List Loc) (cells slots : Nat) (Q : State → Prop) (real : Array Slot) (rest : List Value) (y x : Int64), p.tables.exec = Jvm.exec → c.code = cc → W p l e R s m args below meth c H locs cells slots Q (F0 m n real (.long (f x y) :: rest)) → W p l e R s m args below meth c H locs cells slots Q (F0 m pc real (.long y :: .long x :: rest))) : am_Ok nm D cA B0 sb H00 Th cc own mn eh rt pc (ac_ll f n) := by
  refine ok_simple fun ls st M res hr => ?_
  unfold ac_ll at hr
  split at hr
  next y x r =>
    cases hr
    refine ⟨n, ls, _, rfl, rfl, ?_⟩
    intro p l e R s m args below meth c H locs cells slots Q real C hml hl k
    exact h p l e R s m args below meth c H locs cells slots Q real _ y x C.1 C.2.1 (k real hl)
  next => cases hr
def ac_li (f : Int64 → Int32 → Int64) (n : Nat) : am_A := fun ls st M => match st with
  | .int y :: .long x :: r => some (.inl (n, ls, .long (f x y) :: r, M))
  | _ => none
theorem ok_li {n : Nat} {f : Int64 → Int32 → Int64} (h : ∀ (p : Program) (l : Launch) (e : Env) (R : Room) (s : State) (m : MethodId) (args : Array Value) (below : List Frame) (meth : Method) (c : Code) (H : Heap) (locs : List Loc) (cells slots : Nat) (Q : State → Prop) (real : Array Slot) (rest : List Value) (y : Int32) (x : Int64), p.tables.exec = Jvm.exec → c.code = cc → W p l e R s m args below meth c H locs cells slots Q (F0 m n real (.long (f x y) :: rest)) → W p l e R s m args below meth c H locs cells slots Q (F0 m pc real (.int y :: .long x :: rest))) : am_Ok nm D cA B0 sb H00 Th cc own mn eh rt pc (ac_li f n) := by
  refine ok_simple fun ls st M res hr => ?_
  unfold ac_li at hr
  split at hr
  next y x r =>
    cases hr
    refine ⟨n, ls, _, rfl, rfl, ?_⟩
    intro p l e R s m args below meth c H locs cells slots Q real C hml hl k
    exact h p l e R s m args below meth c H locs cells slots Q real _ y x C.1 C.2.1 (k real hl)
  next => cases hr
def ac_lli (f : Int64 → Int64 → Int32) (n : Nat) : am_A := fun ls st M => match st with
  | .long y :: .long x :: r => some (.inl (n, ls, .int (f x y) :: r, M))
  | _ => none
theorem ok_lli {n : Nat} {f : Int64 → Int64 → Int32} (h : ∀ (p : Program) (l : Launch) (e : Env) (R : Room) (s : State) (m : MethodId) (args : Array Value) (below : List Frame) (meth : Method) (c : Code) (H : Heap) (locs : List Loc) (cells slots : Nat) (Q : State → Prop) (real : Array Slot) (rest : List Value) (y x : Int64), p.tables.exec = Jvm.exec → c.code = cc → W p l e R s m args below meth c H locs cells slots Q (F0 m n real (.int (f x y) :: rest)) → W p l e R s m args below meth c H locs cells slots Q (F0 m pc real (.long y :: .long x :: rest))) : am_Ok nm D cA B0 sb H00 Th cc own mn eh rt pc (ac_lli f n) := by
  refine ok_simple fun ls st M res hr => ?_
  unfold ac_lli at hr
  split at hr
  next y x r =>
    cases hr
    refine ⟨n, ls, _, rfl, rfl, ?_⟩
    intro p l e R s m args below meth c H locs cells slots Q real C hml hl k
    exact h p l e R s m args below meth c H locs cells slots Q real _ y x C.1 C.2.1 (k real hl)
  next => cases hr
def ac_i1 (f : Int32 → Int32) (n : Nat) : am_A := fun ls st M => match st with
  | .int x :: r => some (.inl (n, ls, .int (f x) :: r, M))
  | _ => none
theorem ok_i1 {n : Nat} {f : Int32 → Int32} (h : ∀ (p : Program) (l : Launch) (e : Env) (R : Room) (s : State) (m : MethodId) (args : Array Value) (below : List Frame) (meth : Method) (c : Code) (H : Heap) (locs : List Loc) (cells slots : Nat) (Q : State → Prop) (real : Array Slot) (rest : List Value) (x : Int32), p.tables.exec = Jvm.exec → c.code = cc → W p l e R s m args below meth c H locs cells slots Q (F0 m n real (.int (f x) :: rest)) → W p l e R s m args below meth c H locs cells slots Q (F0 m pc real (.int x :: rest))) : am_Ok nm D cA B0 sb H00 Th cc own mn eh rt pc (ac_i1 f n) := by
  refine ok_simple fun ls st M res hr => ?_
  unfold ac_i1 at hr
  split at hr
  next x r =>
    cases hr
    refine ⟨n, ls, _, rfl, rfl, ?_⟩
    intro p l e R s m args below meth c H locs cells slots Q real C hml hl k
    exact h p l e R s m args below meth c H locs cells slots Q real _ x C.1 C.2.1 (k real hl)
  next => cases hr
def ac_il (f : Int32 → Int64) (n : Nat) : am_A := fun ls st M => match st with
  | .int x :: r => some (.inl (n, ls, .long (f x) :: r, M))
  | _ => none
theorem ok_il {n : Nat} {f : Int32 → Int64} (h : ∀ (p : Program) (l : Launch) (e : Env) (R : Room) (s : State) (m : MethodId) (args : Array Value) (below : List Frame) (meth : Method) (c : Code) (H : Heap) (locs : List Loc) (cells slots : Nat) (Q : State → Prop) (real : Array Slot) (rest : List Value) (x : Int32), p.tables.exec = Jvm.exec → c.code = cc → W p l e R s m args below meth c H locs cells slots Q (F0 m n real (.long (f x) :: rest)) → W p l e R s m args below meth c H locs cells slots Q (F0 m pc real (.int x :: rest))) : am_Ok nm D cA B0 sb H00 Th cc own mn eh rt pc (ac_il f n) := by
  refine ok_simple fun ls st M res hr => ?_
  unfold ac_il at hr
  split at hr
  next x r =>
    cases hr
    refine ⟨n, ls, _, rfl, rfl, ?_⟩
    intro p l e R s m args below meth c H locs cells slots Q real C hml hl k
    exact h p l e R s m args below meth c H locs cells slots Q real _ x C.1 C.2.1 (k real hl)
  next => cases hr
def ac_l2 (f : Int64 → Int32) (n : Nat) : am_A := fun ls st M => match st with
  | .long x :: r => some (.inl (n, ls, .int (f x) :: r, M))
  | _ => none
theorem ok_l2 {n : Nat} {f : Int64 → Int32} (h : ∀ (p : Program) (l : Launch) (e : Env) (R : Room) (s : State) (m : MethodId) (args : Array Value) (below : List Frame) (meth : Method) (c : Code) (H : Heap) (locs : List Loc) (cells slots : Nat) (Q : State → Prop) (real : Array Slot) (rest : List Value) (x : Int64), p.tables.exec = Jvm.exec → c.code = cc → W p l e R s m args below meth c H locs cells slots Q (F0 m n real (.int (f x) :: rest)) → W p l e R s m args below meth c H locs cells slots Q (F0 m pc real (.long x :: rest))) : am_Ok nm D cA B0 sb H00 Th cc own mn eh rt pc (ac_l2 f n) := by
  refine ok_simple fun ls st M res hr => ?_
  unfold ac_l2 at hr
  split at hr
  next x r =>
    cases hr
    refine ⟨n, ls, _, rfl, rfl, ?_⟩
    intro p l e R s m args below meth c H locs cells slots Q real C hml hl k
    exact h p l e R s m args below meth c H locs cells slots Q real _ x C.1 C.2.1 (k real hl)
  next => cases hr
theorem ok_iadd (hd : decode cc pc = .ok (.iadd, 1)) : am_Ok nm D cA B0 sb H00 Th cc own mn eh rt pc (ac_ii (fun x y => x + y) (pc + 1)) := ok_ii fun _ _ _ _ _ _ _ _ _ _ _ _ _ _ _ _ _ _ _ hx hb k => lv_iadd hx hb hd k
theorem ok_isub (hd : decode cc pc = .ok (.isub, 1)) : am_Ok nm D cA B0 sb H00 Th cc own mn eh rt pc (ac_ii (fun x y => x - y) (pc + 1)) := ok_ii fun _ _ _ _ _ _ _ _ _ _ _ _ _ _ _ _ _ _ _ hx hb k => lv_isub hx hb hd k
theorem ok_imul (hd : decode cc pc = .ok (.imul, 1)) : am_Ok nm D cA B0 sb H00 Th cc own mn eh rt pc (ac_ii (fun x y => x * y) (pc + 1)) := ok_ii fun _ _ _ _ _ _ _ _ _ _ _ _ _ _ _ _ _ _ _ hx hb k => lv_imul hx hb hd k
theorem ok_iand (hd : decode cc pc = .ok (.iand, 1)) : am_Ok nm D cA B0 sb H00 Th cc own mn eh rt pc (ac_ii (fun x y => x &&& y) (pc + 1)) := ok_ii fun _ _ _ _ _ _ _ _ _ _ _ _ _ _ _ _ _ _ _ hx hb k => lv_iand hx hb hd k
theorem ok_ior (hd : decode cc pc = .ok (.ior, 1)) : am_Ok nm D cA B0 sb H00 Th cc own mn eh rt pc (ac_ii (fun x y => x ||| y) (pc + 1)) := ok_ii fun _ _ _ _ _ _ _ _ _ _ _ _ _ _ _ _ _ _ _ hx hb k => lv_ior hx hb hd k
theorem ok_ishl (hd : decode cc pc = .ok (.ishl, 1)) : am_Ok nm D cA B0 sb H00 Th cc own mn eh rt pc (ac_ii (fun x y => x <<< (y &&& 31)) (pc + 1)) := ok_ii fun _ _ _ _ _ _ _ _ _ _ _ _ _ _ _ _ _ _ _ hx hb k => lv_ishl hx hb hd k
theorem ok_ishr (hd : decode cc pc = .ok (.ishr, 1)) : am_Ok nm D cA B0 sb H00 Th cc own mn eh rt pc (ac_ii (fun x y => x >>> (y &&& 31)) (pc + 1)) := ok_ii fun _ _ _ _ _ _ _ _ _ _ _ _ _ _ _ _ _ _ _ hx hb k => lv_ishr hx hb hd k
theorem ok_ladd (hd : decode cc pc = .ok (.ladd, 1)) : am_Ok nm D cA B0 sb H00 Th cc own mn eh rt pc (ac_ll (fun x y => x + y) (pc + 1)) := ok_ll fun _ _ _ _ _ _ _ _ _ _ _ _ _ _ _ _ _ _ _ hx hb k => lv_ladd hx hb hd k
theorem ok_land (hd : decode cc pc = .ok (.land, 1)) : am_Ok nm D cA B0 sb H00 Th cc own mn eh rt pc (ac_ll (fun x y => x &&& y) (pc + 1)) := ok_ll fun _ _ _ _ _ _ _ _ _ _ _ _ _ _ _ _ _ _ _ hx hb k => lv_land hx hb hd k
theorem ok_lor (hd : decode cc pc = .ok (.lor, 1)) : am_Ok nm D cA B0 sb H00 Th cc own mn eh rt pc (ac_ll (fun x y => x ||| y) (pc + 1)) := ok_ll fun _ _ _ _ _ _ _ _ _ _ _ _ _ _ _ _ _ _ _ hx hb k => lv_lor hx hb hd k
theorem ok_lshl (hd : decode cc pc = .ok (.lshl, 1)) : am_Ok nm D cA B0 sb H00 Th cc own mn eh rt pc (ac_li (fun x y => x <<< (y.toInt64 &&& 63)) (pc + 1)) := ok_li fun _ _ _ _ _ _ _ _ _ _ _ _ _ _ _ _ _ _ _ hx hb k => lv_lshl hx hb hd rfl k
theorem ok_lshr (hd : decode cc pc = .ok (.lshr, 1)) : am_Ok nm D cA B0 sb H00 Th cc own mn eh rt pc (ac_li (fun x y => x >>> (y.toInt64 &&& 63)) (pc + 1)) := ok_li fun _ _ _ _ _ _ _ _ _ _ _ _ _ _ _ _ _ _ _ hx hb k => lv_lshr hx hb hd rfl k
theorem ok_lushr (hd : decode cc pc = .ok (.lushr, 1)) : am_Ok nm D cA B0 sb H00 Th cc own mn eh rt pc (ac_li (fun x y => (x.toUInt64 >>> (y.toInt64.toUInt64 &&& Int64.toUInt64 63)).toInt64) (pc + 1)) := ok_li fun _ _ _ _ _ _ _ _ _ _ _ _ _ _ _ _ _ _ _ hx hb k => lv_lushr hx hb hd rfl k
theorem ok_lcmp (hd : decode cc pc = .ok (.lcmp, 1)) : am_Ok nm D cA B0 sb H00 Th cc own mn eh rt pc (ac_lli lg_cmp (pc + 1)) := ok_lli fun _ _ _ _ _ _ _ _ _ _ _ _ _ _ _ _ _ _ _ hx hb k => W.lcmp hx hb hd k
theorem ok_i2l (hd : decode cc pc = .ok (.i2l, 1)) : am_Ok nm D cA B0 sb H00 Th cc own mn eh rt pc (ac_il (fun x => x.toInt64) (pc + 1)) := ok_il fun _ _ _ _ _ _ _ _ _ _ _ _ _ _ _ _ _ _ hx hb k => lv_i2l hx hb hd rfl k
theorem ok_l2i (hd : decode cc pc = .ok (.l2i, 1)) : am_Ok nm D cA B0 sb H00 Th cc own mn eh rt pc (ac_l2 (fun x => x.toInt32) (pc + 1)) := ok_l2 fun _ _ _ _ _ _ _ _ _ _ _ _ _ _ _ _ _ _ hx hb k => lv_l2i hx hb hd rfl k
def ac_dup (n : Nat) : am_A := fun ls st M => match st with
  | v :: r => if v.category = 1 then some (.inl (n, ls, v :: v :: r, M)) else none
  | _ => none
theorem ok_dup (hd : decode cc pc = .ok (.dup, 1)) : am_Ok nm D cA B0 sb H00 Th cc own mn eh rt pc (ac_dup (pc + 1)) := by
  refine ok_simple fun ls st M res hr => ?_
  unfold ac_dup at hr
  split at hr
  next v r =>
    split at hr
    next hv =>
      cases hr
      refine ⟨_, ls, _, rfl, rfl, ?_⟩
      intro p l e R s m args below meth c H locs cells slots Q real C hml hl k
      exact lv_dup C.1 C.2.1 hd (by rw [am_val_cat]; exact hv) (k real hl)
    next => cases hr
  next => cases hr
def ac_pop (n : Nat) : am_A := fun ls st M => match st with
  | v :: r => if v.category = 1 then some (.inl (n, ls, r, M)) else none
  | _ => none
theorem ok_pop (hd : decode cc pc = .ok (.pop, 1)) : am_Ok nm D cA B0 sb H00 Th cc own mn eh rt pc (ac_pop (pc + 1)) := by
  refine ok_simple fun ls st M res hr => ?_
  unfold ac_pop at hr
  split at hr
  next v r =>
    split at hr
    next hv =>
      cases hr
      refine ⟨_, ls, _, rfl, rfl, ?_⟩
      intro p l e R s m args below meth c H locs cells slots Q real C hml hl k
      exact lv_pop C.1 C.2.1 hd (by rw [am_val_cat]; exact hv) (k real hl)
    next => cases hr
  next => cases hr
def ac_dup2 (n : Nat) : am_A := fun ls st M => match st with
  | v :: w :: r => if v.category = 1 ∧ w.category = 1 then some (.inl (n, ls, v :: w :: v :: w :: r, M)) else none
  | _ => none
theorem ok_dup2 (hd : decode cc pc = .ok (.dup2, 1)) : am_Ok nm D cA B0 sb H00 Th cc own mn eh rt pc (ac_dup2 (pc + 1)) := by
  refine ok_simple fun ls st M res hr => ?_
  unfold ac_dup2 at hr
  split at hr
  next v w r =>
    split at hr
    next hv =>
      cases hr
      refine ⟨_, ls, _, rfl, rfl, ?_⟩
      intro p l e R s m args below meth c H locs cells slots Q real C hml hl k
      exact lv_dup2_11 C.1 C.2.1 hd (by rw [am_val_cat]; exact hv.1) (by rw [am_val_cat]; exact hv.2) (k real hl)
    next => cases hr
  next => cases hr
def ac_goto (t : Nat) : am_A := fun ls st M => some (.inl (t, ls, st, M))
theorem ok_goto {off : Int} {t : Nat} (hd : decode cc pc = .ok (.goto off, 3)) (ht : (pc : Int) + off = (t : Int)) : am_Ok nm D cA B0 sb H00 Th cc own mn eh rt pc (ac_goto t) := by
  refine ok_simple fun ls st M res hr => ⟨t, ls, st, (Option.some.inj hr).symm, rfl, ?_⟩
  intro p l e R s m args below meth c H locs cells slots Q real C hml hl k
  exact lv_goto C.1 C.2.1 hd ht (k real hl)
def ac_if1 (P : Int32 → Prop) (t n : Nat) : am_A := fun ls st M => match st with
  | .int x :: r => some (.inr (.inr (.inl (P x, t, (n, ls, r, M)))))
  | _ => none
def ac_if2 (P : Int32 → Int32 → Prop) (t n : Nat) : am_A := fun ls st M => match st with
  | .int y :: .int x :: r => some (.inr (.inr (.inl (P x y, t, (n, ls, r, M)))))
  | _ => none
theorem ok_if1 {P : Int32 → Prop} {t n : Nat} (h : ∀ (p : Program) (l : Launch) (e : Env) (R : Room) (s : State) (m : MethodId) (args : Array Value) (below : List Frame) (meth : Method) (c : Code) (H : Heap) (locs : List Loc) (cells slots : Nat) (Q : State → Prop) (real : Array Slot) (rest : List Value) (x : Int32), p.tables.exec = Jvm.exec → c.code = cc → (P x → W p l e R s m args below meth c H locs cells slots Q (F0 m t real rest)) → (¬ P x → W p l e R s m args below meth c H locs cells slots Q (F0 m n real rest)) → W p l e R s m args below meth c H locs cells slots Q (F0 m pc real (.int x :: rest))) : am_Ok nm D cA B0 sb H00 Th cc own mn eh rt pc (ac_if1 P t n) := by
  intro ls st M res hr
  unfold ac_if1 at hr
  split at hr
  next x r =>
    cases hr
    refine ⟨⟨rfl, rfl⟩, ?_⟩
    intro p l e R s m args below meth c C hml H locs cells slots real hl hR hS hc hs Q k1 k2
    exact h p l e R s m args below meth c H locs cells slots Q real _ x C.1 C.2.1 k1 k2
  next => cases hr
theorem ok_if2 {P : Int32 → Int32 → Prop} {t n : Nat} (h : ∀ (p : Program) (l : Launch) (e : Env) (R : Room) (s : State) (m : MethodId) (args : Array Value) (below : List Frame) (meth : Method) (c : Code) (H : Heap) (locs : List Loc) (cells slots : Nat) (Q : State → Prop) (real : Array Slot) (rest : List Value) (y x : Int32), p.tables.exec = Jvm.exec → c.code = cc → (P x y → W p l e R s m args below meth c H locs cells slots Q (F0 m t real rest)) → (¬ P x y → W p l e R s m args below meth c H locs cells slots Q (F0 m n real rest)) → W p l e R s m args below meth c H locs cells slots Q (F0 m pc real (.int y :: .int x :: rest))) : am_Ok nm D cA B0 sb H00 Th cc own mn eh rt pc (ac_if2 P t n) := by
  intro ls st M res hr
  unfold ac_if2 at hr
  split at hr
  next y x r =>
    cases hr
    refine ⟨⟨rfl, rfl⟩, ?_⟩
    intro p l e R s m args below meth c C hml H locs cells slots real hl hR hS hc hs Q k1 k2
    exact h p l e R s m args below meth c H locs cells slots Q real _ y x C.1 C.2.1 k1 k2
  next => cases hr
theorem ok_ifeq {off : Int} {t : Nat} (hd : decode cc pc = .ok (.ifCond .eq off, 3)) (ht : (pc : Int) + off = (t : Int)) : am_Ok nm D cA B0 sb H00 Th cc own mn eh rt pc (ac_if1 (fun x => x = 0) t (pc + 3)) := ok_if1 fun _ _ _ _ _ _ _ _ _ _ _ _ _ _ _ _ _ _ hx hb k1 k2 => lv_if_eq hx hb hd ht k1 k2
theorem ok_icmpeq {off : Int} {t : Nat} (hd : decode cc pc = .ok (.if_icmp .eq off, 3)) (ht : (pc : Int) + off = (t : Int)) : am_Ok nm D cA B0 sb H00 Th cc own mn eh rt pc (ac_if2 (fun x y => x = y) t (pc + 3)) := ok_if2 fun _ _ _ _ _ _ _ _ _ _ _ _ _ _ _ _ _ _ _ hx hb k1 k2 => lv_icmp_eq hx hb hd ht k1 k2
theorem ok_ifne {off : Int} {t : Nat} (hd : decode cc pc = .ok (.ifCond .ne off, 3)) (ht : (pc : Int) + off = (t : Int)) : am_Ok nm D cA B0 sb H00 Th cc own mn eh rt pc (ac_if1 (fun x => ¬ x = 0) t (pc + 3)) := ok_if1 fun _ _ _ _ _ _ _ _ _ _ _ _ _ _ _ _ _ _ hx hb k1 k2 => lv_if_ne hx hb hd ht k1 (fun q => k2 (fun z => z q))
theorem ok_icmpne {off : Int} {t : Nat} (hd : decode cc pc = .ok (.if_icmp .ne off, 3)) (ht : (pc : Int) + off = (t : Int)) : am_Ok nm D cA B0 sb H00 Th cc own mn eh rt pc (ac_if2 (fun x y => ¬ x = y) t (pc + 3)) := ok_if2 fun _ _ _ _ _ _ _ _ _ _ _ _ _ _ _ _ _ _ _ hx hb k1 k2 => lv_icmp_ne hx hb hd ht k1 (fun q => k2 (fun z => z q))
theorem ok_iflt {off : Int} {t : Nat} (hd : decode cc pc = .ok (.ifCond .lt off, 3)) (ht : (pc : Int) + off = (t : Int)) : am_Ok nm D cA B0 sb H00 Th cc own mn eh rt pc (ac_if1 (fun x => x < 0) t (pc + 3)) := ok_if1 fun _ _ _ _ _ _ _ _ _ _ _ _ _ _ _ _ _ _ hx hb k1 k2 => lv_if_lt hx hb hd ht k1 k2
theorem ok_icmplt {off : Int} {t : Nat} (hd : decode cc pc = .ok (.if_icmp .lt off, 3)) (ht : (pc : Int) + off = (t : Int)) : am_Ok nm D cA B0 sb H00 Th cc own mn eh rt pc (ac_if2 (fun x y => x < y) t (pc + 3)) := ok_if2 fun _ _ _ _ _ _ _ _ _ _ _ _ _ _ _ _ _ _ _ hx hb k1 k2 => lv_icmp_lt hx hb hd ht k1 k2
theorem ok_ifge {off : Int} {t : Nat} (hd : decode cc pc = .ok (.ifCond .ge off, 3)) (ht : (pc : Int) + off = (t : Int)) : am_Ok nm D cA B0 sb H00 Th cc own mn eh rt pc (ac_if1 (fun x => 0 ≤ x) t (pc + 3)) := ok_if1 fun _ _ _ _ _ _ _ _ _ _ _ _ _ _ _ _ _ _ hx hb k1 k2 => lv_if_ge hx hb hd ht k1 k2
theorem ok_icmpge {off : Int} {t : Nat} (hd : decode cc pc = .ok (.if_icmp .ge off, 3)) (ht : (pc : Int) + off = (t : Int)) : am_Ok nm D cA B0 sb H00 Th cc own mn eh rt pc (ac_if2 (fun x y => y ≤ x) t (pc + 3)) := ok_if2 fun _ _ _ _ _ _ _ _ _ _ _ _ _ _ _ _ _ _ _ hx hb k1 k2 => lv_icmp_ge hx hb hd ht k1 k2
theorem ok_ifgt {off : Int} {t : Nat} (hd : decode cc pc = .ok (.ifCond .gt off, 3)) (ht : (pc : Int) + off = (t : Int)) : am_Ok nm D cA B0 sb H00 Th cc own mn eh rt pc (ac_if1 (fun x => 0 < x) t (pc + 3)) := ok_if1 fun _ _ _ _ _ _ _ _ _ _ _ _ _ _ _ _ _ _ hx hb k1 k2 => lv_if_gt hx hb hd ht k1 k2
theorem ok_icmpgt {off : Int} {t : Nat} (hd : decode cc pc = .ok (.if_icmp .gt off, 3)) (ht : (pc : Int) + off = (t : Int)) : am_Ok nm D cA B0 sb H00 Th cc own mn eh rt pc (ac_if2 (fun x y => y < x) t (pc + 3)) := ok_if2 fun _ _ _ _ _ _ _ _ _ _ _ _ _ _ _ _ _ _ _ hx hb k1 k2 => lv_icmp_gt hx hb hd ht k1 k2
theorem ok_ifle {off : Int} {t : Nat} (hd : decode cc pc = .ok (.ifCond .le off, 3)) (ht : (pc : Int) + off = (t : Int)) : am_Ok nm D cA B0 sb H00 Th cc own mn eh rt pc (ac_if1 (fun x => x ≤ 0) t (pc + 3)) := ok_if1 fun _ _ _ _ _ _ _ _ _ _ _ _ _ _ _ _ _ _ hx hb k1 k2 => lv_if_le hx hb hd ht k1 k2
theorem ok_icmple {off : Int} {t : Nat} (hd : decode cc pc = .ok (.if_icmp .le off, 3)) (ht : (pc : Int) + off = (t : Int)) : am_Ok nm D cA B0 sb H00 Th cc own mn eh rt pc (ac_if2 (fun x y => x ≤ y) t (pc + 3)) := ok_if2 fun _ _ _ _ _ _ _ _ _ _ _ _ _ _ _ _ _ _ _ hx hb k1 k2 => lv_icmp_le hx hb hd ht k1 k2
def ac_ifnull (t n : Nat) : am_A := fun ls st M => match st with
  | .ref _ :: r => some (.inl (n, ls, r, M))
  | .null :: r => some (.inl (t, ls, r, M))
  | _ => none
def ac_ifnonnull (t n : Nat) : am_A := fun ls st M => match st with
  | .ref _ :: r => some (.inl (t, ls, r, M))
  | .null :: r => some (.inl (n, ls, r, M))
  | _ => none
theorem ok_ifnull {off : Int} {t : Nat} (hd : decode cc pc = .ok (.ifnull off, 3)) (ht : (pc : Int) + off = (t : Int)) : am_Ok nm D cA B0 sb H00 Th cc own mn eh rt pc (ac_ifnull t (pc + 3)) := by
  refine ok_simple fun ls st M res hr => ?_
  unfold ac_ifnull at hr
  split at hr
  next x r =>
    cases hr
    refine ⟨_, ls, _, rfl, rfl, ?_⟩
    intro p l e R s m args below meth c H locs cells slots Q real C hml hl k
    exact lv_ifnull C.1 C.2.1 hd (k real hl)
  next r =>
    cases hr
    refine ⟨_, ls, _, rfl, rfl, ?_⟩
    intro p l e R s m args below meth c H locs cells slots Q real C hml hl k
    exact lv_ifnullN C.1 C.2.1 hd ht (k real hl)
  next => cases hr
theorem ok_ifnonnull {off : Int} {t : Nat} (hd : decode cc pc = .ok (.ifnonnull off, 3)) (ht : (pc : Int) + off = (t : Int)) : am_Ok nm D cA B0 sb H00 Th cc own mn eh rt pc (ac_ifnonnull t (pc + 3)) := by
  refine ok_simple fun ls st M res hr => ?_
  unfold ac_ifnonnull at hr
  split at hr
  next x r =>
    cases hr
    refine ⟨_, ls, _, rfl, rfl, ?_⟩
    intro p l e R s m args below meth c H locs cells slots Q real C hml hl k
    exact lv_ifnonnull C.1 C.2.1 hd ht (k real hl)
  next r =>
    cases hr
    refine ⟨_, ls, _, rfl, rfl, ?_⟩
    intro p l e R s m args below meth c H locs cells slots Q real C hml hl k
    exact lv_ifnonnullN C.1 C.2.1 hd (k real hl)
  next => cases hr
end ACT2
end
section
/-! the ends of a method, the switch -/
section ACT3
variable {nm : Nat → MethodName} {D : va_G} {cA : Nat → ClassId} {B0 : Nat} {sb : Nat → Option Nat} {H00 : Heap} {Th : State → Prop} {cc : ByteArray} {own mn : String} {eh : List (Nat × Nat × Nat × Nat)} {rt : Option FieldType} {pc : Nat}
def ac_ret : am_A := fun ls st M => match st with
  | [] => some (.inr (.inr (.inr (.inr (.inr (True, .inl none, M))))))
  | _ => none
def ac_iret : am_A := fun ls st M => match st with
  | [.int x] => some (.inr (.inr (.inr (.inr (.inr (True, .inl (some (.int x)), M))))))
  | _ => none
def ac_zret : am_A := fun ls st M => match st with
  | [.int x] => some (.inr (.inr (.inr (.inr (.inr (x = 0 ∨ x = 1, .inl (some (.int x)), M))))))
  | _ => none
def ac_lret : am_A := fun ls st M => match st with
  | [.long x] => some (.inr (.inr (.inr (.inr (.inr (True, .inl (some (.long x)), M))))))
  | _ => none
def ac_aret : am_A := fun ls st M => match st with
  | [.ref x] => some (.inr (.inr (.inr (.inr (.inr (True, .inl (some (.ref x)), M))))))
  | [.null] => some (.inr (.inr (.inr (.inr (.inr (True, .inl (some .null), M))))))
  | _ => none
theorem am_end {p : Program} {l : Launch} {e : Env} {R : Room} {s : State} {m : MethodId} {args : Array Value} {below : List Frame} {meth : Method} {c : Code} {H : Heap} {locs : List Loc} {cells slots : Nat} {M : am_M} {g : JFrame} {v : Option Value}
    (hR : am_Rel D cA B0 sb H00 s M H) (hS : va_S (am_A0 B0) s.heap H locs)
    (k : (∀ t : State, t.heap = H → s.WarmedH t.vm → am_Qc D cA B0 sb H00 (.inl v) M args s (.returned (v.map (am_val B0 sb))) t) → (∀ q ∈ locs, am_A0 B0 q.base) → W p l e R s m args below meth c H locs cells slots (MQ below (am_Qc D cA B0 sb H00 (.inl v) M) args s cells slots (am_A0 B0)) g) :
    W p l e R s m args below meth c H locs cells slots (am_MQ below (am_Qc D cA B0 sb H00 (.inl v) M) args s (cells + (am_cn M - am_cn M)) (slots + (am_sn M - am_sn M)) (am_A0 B0)) g := by
  rw [Nat.sub_self, Nat.sub_self, Nat.add_zero, Nat.add_zero]
  refine am_W_mono (fun t h => am_MQ_of h) (k (fun t ht hW => ⟨rfl, ?_, hS.F ht⟩) hS.2.2)
  rw [ht]
  exact am_Rel_moved hW.alike hR
theorem ok_ret (hd : decode cc pc = .ok (.return_, 1)) (hr : rt = none) : am_Ok nm D cA B0 sb H00 Th cc own mn eh rt pc ac_ret := by
  intro ls st M res h
  unfold ac_ret at h
  split at h
  next =>
    cases h
    refine ⟨⟨Nat.le_refl _, Nat.le_refl _⟩, ?_⟩
    intro p l e R s m args below meth c C hml H locs cells slots real hl hR hS hc hs _ _ _
    exact am_end hR hS (fun hq hf => W.vret C.1 C.2.1 (C.2.2.1.trans hr) hq hf hd (hlocks := C.2.2.2.1))
  next => cases h
theorem ok_iret (hd : decode cc pc = .ok (.ireturn, 1)) (hr : rt = some .int) : am_Ok nm D cA B0 sb H00 Th cc own mn eh rt pc ac_iret := by
  intro ls st M res h
  unfold ac_iret at h
  split at h
  next x =>
    cases h
    refine ⟨⟨Nat.le_refl _, Nat.le_refl _⟩, ?_⟩
    intro p l e R s m args below meth c C hml H locs cells slots real hl hR hS hc hs _ _ _
    exact am_end hR hS (fun hq hf => W.iret C.1 C.2.1 (C.2.2.1.trans hr) hq hf hd (hlocks := C.2.2.2.1))
  next => cases h
theorem ok_zret (hd : decode cc pc = .ok (.ireturn, 1)) (hr : rt = some .boolean) : am_Ok nm D cA B0 sb H00 Th cc own mn eh rt pc ac_zret := by
  intro ls st M res h
  unfold ac_zret at h
  split at h
  next x =>
    cases h
    refine ⟨⟨Nat.le_refl _, Nat.le_refl _⟩, ?_⟩
    intro p l e R s m args below meth c C hml H locs cells slots real hl hR hS hc hs hx _ _
    exact am_end hR hS (fun hq hf => W.zret C.1 C.2.1 (C.2.2.1.trans hr) (by rcases hx with rfl | rfl <;> decide) hq hf hd (hlocks := C.2.2.2.1))
  next => cases h
theorem ok_lret (hd : decode cc pc = .ok (.lreturn, 1)) (hr : rt = some .long) : am_Ok nm D cA B0 sb H00 Th cc own mn eh rt pc ac_lret := by
  intro ls st M res h
  unfold ac_lret at h
  split at h
  next x =>
    cases h
    refine ⟨⟨Nat.le_refl _, Nat.le_refl _⟩, ?_⟩
    intro p l e R s m args below meth c C hml H locs cells slots real hl hR hS hc hs _ _ _
    exact am_end hR hS (fun hq hf => W.lret C.1 C.2.1 (C.2.2.1.trans hr) hq hf hd (hlocks := C.2.2.2.1))
  next => cases h
theorem ok_aret {n : String} (hd : decode cc pc = .ok (.areturn, 1)) (hr : rt = some (.object n)) : am_Ok nm D cA B0 sb H00 Th cc own mn eh rt pc ac_aret := by
  intro ls st M res h
  unfold ac_aret at h
  split at h
  next x =>
    cases h
    refine ⟨⟨Nat.le_refl _, Nat.le_refl _⟩, ?_⟩
    intro p l e R s m args below meth c C hml H locs cells slots real hl hR hS hc hs _ _ _
    exact am_end hR hS (fun hq hf => W.aret C.1 C.2.1 (C.2.2.1.trans hr) (Or.inl ⟨n, rfl⟩) (Or.inr ⟨_, rfl⟩) hq hf hd (hlocks := C.2.2.2.1))
  next =>
    cases h
    refine ⟨⟨Nat.le_refl _, Nat.le_refl _⟩, ?_⟩
    intro p l e R s m args below meth c C hml H locs cells slots real hl hR hS hc hs _ _ _
    exact am_end hR hS (fun hq hf => W.aret C.1 C.2.1 (C.2.2.1.trans hr) (Or.inl ⟨n, rfl⟩) (Or.inl rfl) hq hf hd (hlocks := C.2.2.2.1))
  next => cases h
/-- a switch over lo, lo + 1, ..: the targets -/
def ac_sw (sw : List (Int32 × Nat)) (d : Nat) : am_A := fun ls st M => match st with
  | .int x :: r => some (.inr (.inr (.inr (.inl (sw, x, (d, ls, r, M))))))
  | _ => none
/-- the list of a table's cases: value lo + i goes to pc + offs i -/
def am_swl (pc : Nat) (lo : Int) : Nat → List Int → List (Int32 × Nat) → Prop
  | _, [], sw => sw = []
  | i, o :: r, (v, t) :: sw => v.toInt = lo + i ∧ (pc : Int) + o = (t : Int) ∧ am_swl pc lo (i + 1) r sw
  | _, _ :: _, [] => False
theorem am_sw_walk {K : Nat → Prop} {K' : Prop} {pc d : Nat} {lo : Int} {x : Int32} : ∀ (offs : List Int) (i : Nat) (sw : List (Int32 × Nat)), am_swl pc lo i offs sw → am_swp K d x sw → (∀ (j : Nat) (o : Int) (t : Nat), offs[j]? = some o → x.toInt = lo + (i + j : Nat) → (pc : Int) + o = (t : Int) → K t → K') → ((∀ j : Nat, j < offs.length → ¬ x.toInt = lo + (i + j : Nat)) → K d → K') → K'
  | [], i, sw, h, hk, h1, h2 => by
    unfold am_swl at h
    subst h
    exact h2 (fun j hj => absurd hj (Nat.not_lt_zero _)) hk
  | o :: r, i, [], h, hk, h1, h2 => False.elim h
  | o :: r, i, (v, t) :: sw, h, hk, h1, h2 => by
    obtain ⟨e1, e2, e3⟩ := h
    by_cases e : x = v
    · exact h1 0 o t rfl (by rw [e]; exact e1) e2 (hk.1 e)
    · have hne : ¬ x.toInt = lo + (i : Nat) := fun q => e (Int32.toInt_inj.mp (q.trans e1.symm))
      refine am_sw_walk r (i + 1) sw e3 (hk.2 e) (fun j o' t' hj hx => h1 (j + 1) o' t' hj (by rw [hx]; congr 1; omega)) (fun hj => h2 (fun j hl => ?_))
      cases j with
      | zero => exact hne
      | succ j => 
        have := hj j (by simpa using hl)
        intro q
        exact this (by rw [q]; congr 1; omega)
theorem ok_sw {dflt lo hi : Int} {offs : Array Int} {len d : Nat} {sw : List (Int32 × Nat)} (hd : decode cc pc = .ok (.tableswitch dflt lo hi offs, len)) (hsw : am_swl pc lo 0 offs.toList sw) (hn : hi = lo + (offs.size : Int) - 1) (ht : (pc : Int) + dflt = (d : Int)) : am_Ok nm D cA B0 sb H00 Th cc own mn eh rt pc (ac_sw sw d) := by
  intro ls st M res h
  unfold ac_sw at h
  split at h
  next x r =>
    cases h
    refine ⟨⟨rfl, rfl⟩, ?_⟩
    intro p l e R s m args below meth c C hml H locs cells slots real hl hR hS hc hs Q k
    refine am_sw_walk offs.toList 0 sw hsw k (fun j o t hj hx hto hw => ?_) (fun hno hw => ?_)
    · have hj' : offs[j]? = some o := by rw [← Array.getElem?_toList]; exact hj
      have hlt : j < offs.size := (Array.getElem?_eq_some_iff.mp hj').1
      have e1 : x.toInt - lo = (j : Int) := by rw [hx]; omega
      exact lv_tableIn C.1 C.2.1 hd (by rw [hx]; omega) (by rw [hx, hn]; omega) (off := o) (by rw [e1]; exact hj') hto hw
    · refine lv_tableOut C.1 C.2.1 hd ?_ ht hw
      rcases Int.lt_or_le x.toInt lo with q | q
      · exact Or.inl q
      · refine Or.inr ?_
        rcases Int.lt_or_le hi x.toInt with q2 | q2
        · exact q2
        · exact absurd (by omega) (hno (x.toInt - lo).toNat (by rw [Array.length_toList]; omega))
  next => cases h
end ACT3
end
section
/-! fields -/
theorem am_lays : ∀ i, i < 7 → ∀ w ∈ u_ws (ck_R i) (ck_T i) (ck_N i), w ∈ am_ws := by
  intro i hi w hw
  refine List.mem_filter.mpr ⟨List.mem_append_right _ (ck_ws i hi w hw), ?_⟩
  obtain ⟨k, -, hk⟩ := List.mem_map.mp hw
  rw [← hk]
  unfold u_lay
  split <;> rfl
def am_fl (M : am_M) (k kd j : Nat) : Value := match kd with
  | 0 => .int (M.1 k j)
  | 1 => .long (M.2.1 k j)
  | _ => am_rv (M.2.2.1 k j)
theorem am_fl_val (B0 : Nat) (sb : Nat → Option Nat) (M : am_M) (k : Nat) : ∀ (kd j : Nat), am_val B0 sb (am_fl M k kd j) = am_fv B0 M k kd j
  | 0, _ => rfl
  | 1, _ => rfl
  | _ + 2, _ => am_rv_val B0 sb _
section FLD
variable {nm : Nat → MethodName} {D : va_G} {cA : Nat → ClassId} {B0 : Nat} {sb : Nat → Option Nat} {H00 : Heap} {Th : State → Prop} {cc : ByteArray} {own mn : String} {eh : List (Nat × Nat × Nat × Nat)} {rt : Option FieldType} {pc : Nat}
def ac_get (kd ci j n : Nat) : am_A := fun ls st M => match st with
  | .ref k :: r => match am_sh M k with
    | some (.inl c1) => if c1 = ci then some (.inl (n, ls, am_fl M k kd j :: r, M)) else none
    | _ => none
  | _ => none
theorem ok_get {kd ci j idx : Nat} (hci : ci < 7) (hj : j < ck_N ci) (hk : am_kd (ck_y ci j) = kd) (hd : decode cc pc = .ok (.getfield idx, 3)) (hw : Cond.fieldLink own idx (ck_T ci j).1 (ck_T ci j).2.1 (ck_T ci j).2.2.1 ∈ am_ws) : am_Ok nm D cA B0 sb H00 Th cc own mn eh rt pc (ac_get kd ci j (pc + 3)) := by
  intro ls st M res h
  unfold ac_get at h
  split at h
  next k r =>
    split at h
    next c1 hsh =>
      split at h
      next hc1 =>
        subst hc1
        cases h
        refine ⟨⟨⟨Nat.le_refl _, Nat.le_refl _⟩, rfl⟩, ?_⟩
        intro p l e R s m args below meth c C hml H locs cells slots real hl hR hS hc hs Q hT
        have h2 := am_self hT hR hS real hl
        obtain ⟨hx, hb, -, -, hown, hts, hK, -⟩ := C
        have hat := (hR.1 k _ hsh).2
        unfold am_Wk at h2 ⊢
        rw [List.map_cons, am_fl_val] at h2
        exact va_get (ws := [(B0 + k, .inr (c1, am_fs B0 M k c1))]) hx hb hts (am_lays c1 hci) hown hK.1 (fun q e he => by
          have : q < 1 := (List.getElem?_eq_some_iff.mp he).1
          rw [show q = 0 by omega] at he
          cases he
          exact hat) 0 rfl (ck_at c1 hci) j hj (hts _ hw) (fun _ h => h) (by rw [am_fs_get _ _ _ _ _ hj, hk]) hd h2
      next => cases h
    next => cases h
  next => cases h
/-- a store into a field: the new heap differs in that cell alone -/
theorem am_putK {p : Program} {l : Launch} {e : Env} {R : Room} {s : State} {m : MethodId} {args : Array Value} {below : List Frame} {meth : Method} {c : Code} {H : Heap} {locs : List Loc} {cells slots : Nat} {Q : State → Prop} {ls : Array Slot} {rest : List Value} {a : Nat} {tys : List (ClassId × FieldType)}
    (hexec : p.tables.exec = Jvm.exec) (hb : c.code = cc) {ref C : String} {T : u_T} {N ci index : Nat} {Ts : List Cond} (hts : ∀ w ∈ Ts, w.before args s = true) (hin : ∀ w ∈ u_ws C T N, w ∈ Ts) (ty0 : Nat → FieldType) (hty : ∀ k, k < N → parseFieldDescriptor (T k).2.2.1 = some (ty0 k)) (hnm : ∀ a, a < N → ∀ b, b < N → a ≠ b → (T a).2.1 ≠ (T b).2.1) (hown : s.vm.findClass own = some m.cls) (hK : va_K D ck_cl tys s) {fs : List Value} (hat : va_at D ck_cl (a, .inr (ci, fs)) H) (hc : ck_cl[ci]? = some (C, T, N)) (k : Nat) (hk : k < N) (hlink : (Cond.fieldLink own index ref (T k).2.1 (T k).2.2.1).before args s = true) (hsame : ∀ x, s.fieldFound? (T k).1 (T k).2.1 (T k).2.2.1 = some x → s.fieldFound? ref (T k).2.1 (T k).2.2.1 = some x) (hfin : (T k).2.2.2 = false ∨ ((T k).2.2.2 = true ∧ meth.name = "<init>" ∧ (T k).1 = own)) {ty : FieldType} {v : Value} (hd : parseFieldDescriptor (T k).2.2.1 = some ty) (hn : narrow ty v = v) (hfit : fits ty v = true) (hl : k < fs.length)
    (hdg : decode cc pc = .ok (.putfield index, 3)) (kk : ∀ (H1 : Heap) (loc : Loc), loc.base = a → H1.size = H.size → (∀ q, q ≠ a → H1[q]? = H[q]?) → va_at D ck_cl (a, .inr (ci, fs.set k v)) H1 → W p l e R s m args below meth c H1 (locs ++ [loc]) cells slots Q (F0 m (pc + 3) ls rest)) : W p l e R s m args below meth c H locs cells slots Q (F0 m pc ls (v :: .ref a :: rest)) := by
  have hap := va_apart (own := own) hts hin ty0 hty hnm hK hc
  obtain ⟨r, h1, cell, q1, q2, q3, q4⟩ := hat
  have hr : r = (C, T, N) := Option.some.inj (h1.symm.trans hc)
  subst hr
  obtain ⟨hS, hfc, kC, hkC, hkind⟩ := hK.1 ci _ hc
  obtain ⟨cf, kf, fi, f, hi, hsl⟩ := hS k hk
  have hlay := hts _ (hin _ (u_in_lay hk))
  have hst := (u_facts hfc hkC (u_lays hts hin hk) hi).1
  unfold u_lay at hlay
  rcases hfin with hfin | ⟨hfin, hin2, hdecl⟩
  · rw [if_neg (by rw [hfin]; decide)] at hlay
    have h6 := u_store hfc hkC hkind hlay hi hd hn hfit
    refine W.putK hexec hb (f := f) ⟨hown, hlink, ⟨_, _, _, hsame _ hi⟩, hst⟩ (by rw [q2]; exact h6) q1 q3 (by rw [hsl]; exact k2_hasslot (q4 k hk)) rfl rfl hdg fun H' e1 e2 e3 => ?_
    rw [hsl] at e1 ⊢
    exact kk H' _ rfl e2 e3 ⟨_, hc, t_OB.to (V := updV (vp_V fs) k v) ⟨_, e1, q2, q3, t_set q4 hap hk v⟩ (fun j _ => vp_updV_set hl v j)⟩
  · rw [if_pos hfin] at hlay
    have hcf : m.cls = cf := by
      obtain ⟨_, _, c', _, _, _, -, -, hf', -, -, -, hown2, -⟩ := Cond.laysFinal_spec hlay
      have e1 : c' = cf := by have := hi.symm.trans hf'; simp at this; exact this.1.symm
      rw [hdecl] at hown2
      rw [← e1]; exact Option.some.inj (hown.symm.trans hown2)
    have h6 := u_fits hfc hkC hkind (Or.inr hlay) hi hd hn hfit
    refine W.putFinK hexec hb hown hlink (hsame _ hi) hst hcf hin2 (by rw [q2]; exact h6) q1 q3 (by rw [hsl]; exact k2_hasslot (q4 k hk)) rfl rfl hdg fun H' e1 e2 e3 => ?_
    rw [hsl] at e1 ⊢
    exact kk H' _ rfl e2 e3 ⟨_, hc, t_OB.to (V := updV (vp_V fs) k v) ⟨_, e1, q2, q3, t_set q4 hap hk v⟩ (fun j _ => vp_updV_set hl v j)⟩
theorem am_S_put {H0 H H1 : Heap} {locs : List Loc} {loc : Loc} {k : Nat} (h : va_S (am_A0 B0) H0 H locs) (hb : loc.base = B0 + k) (z : H1.size = H.size) (oq : ∀ q : Nat, q ≠ B0 + k → H1[q]? = H[q]?) : va_S (am_A0 B0) H0 H1 (locs ++ [loc]) := by
  obtain ⟨b, i⟩ := loc
  dsimp only at hb
  subst hb
  exact h.put z oq (Nat.le_add_right _ _)
def ac_putI (ci j n : Nat) : am_A := fun ls st M => match st with
  | .int x :: .ref k :: r => match am_sh M k with
    | some (.inl c1) => if c1 = ci then some (.inl (n, ls, r, am_setI M k j x)) else none
    | _ => none
  | _ => none
def ac_putL (ci j n : Nat) : am_A := fun ls st M => match st with
  | .long x :: .ref k :: r => match am_sh M k with
    | some (.inl c1) => if c1 = ci then some (.inl (n, ls, r, am_setL M k j x)) else none
    | _ => none
  | _ => none
def ac_putR (ci j n : Nat) : am_A := fun ls st M => match st with
  | .ref x :: .ref k :: r => match am_sh M k with
    | some (.inl c1) => if c1 = ci then some (.inl (n, ls, r, am_setR M k j (some x))) else none
    | _ => none
  | _ => none
theorem ok_putI {ci j idx : Nat} (hci : ci < 7) (hj : j < ck_N ci) (hty : ck_y ci j = .int) (hd : decode cc pc = .ok (.putfield idx, 3)) (hw : Cond.fieldLink own idx (ck_T ci j).1 (ck_T ci j).2.1 (ck_T ci j).2.2.1 ∈ am_ws) (hf : (ck_T ci j).2.2.2 = false) : am_Ok nm D cA B0 sb H00 Th cc own mn eh rt pc (ac_putI ci j (pc + 3)) := by
  intro ls st M res h
  unfold ac_putI at h
  split at h
  next x k r =>
    split at h
    next c1 hsh =>
      split at h
      next hc1 =>
        subst hc1
        cases h
        refine ⟨⟨⟨Nat.le_refl _, Nat.le_refl _⟩, rfl⟩, ?_⟩
        intro p l e R s m args below meth c C hml H locs cells slots real hl hR hS hc hs Q hT
        obtain ⟨hx, hb, -, -, hown, hts, hK, -⟩ := C
        have hat := (hR.1 k _ hsh).2
        refine am_putK hx hb hts (am_lays c1 hci) (ck_y c1) (ck_ty c1 hci) (ck_nm c1 hci) hown hK.1 hat (ck_at c1 hci) j hj (hts _ hw) (fun _ h => h) (Or.inl hf) (ty := .int) (v := .int x) (by rw [ck_ty c1 hci j hj, hty]) rfl rfl (by rw [am_fs_len]; exact hj) hd (fun H1 loc hlc hz ho h1 => ?_)
        have hne : ∀ q, q ≠ k → am_u2 M.1 k j x q = M.1 q := fun q hq => am_u2_ne hq
        have hset : am_fs B0 (am_setI M k j x) k c1 = (am_fs B0 M k c1).set j (.int x) := am_fs_set hj (by rw [hty]; show Value.int (am_u2 M.1 k j x k j) = _; rw [am_u2_eq]; simp) (fun i hi hi2 => by
          unfold am_fv am_setI
          dsimp only
          rw [am_u2_eq]
          simp [hi])
        have hR1 : am_Rel D cA B0 sb H00 s (am_setI M k j x) H1 := am_Rel_put hR hsh rfl hne (fun _ _ => rfl) (fun _ _ => rfl) hz ho ⟨hci, by rw [hset]; exact h1⟩
        have h3 := hT.2.2 H1 (locs ++ [loc]) real hl hR1 (am_S_put hS hlc hz ho)
        have e1 : cells + (am_cn (am_setI M k j x) - am_cn M) = cells := by show cells + (am_cn M - am_cn M) = cells; omega
        have e2 : slots + (am_sn (am_setI M k j x) - am_sn M) = slots := by show slots + (am_sn M - am_sn M) = slots; omega
        dsimp only at h3
        rw [e1, e2] at h3
        exact h3
      next => cases h
    next => cases h
  next => cases h
theorem ok_putL {ci j idx : Nat} (hci : ci < 7) (hj : j < ck_N ci) (hty : ck_y ci j = .long) (hd : decode cc pc = .ok (.putfield idx, 3)) (hw : Cond.fieldLink own idx (ck_T ci j).1 (ck_T ci j).2.1 (ck_T ci j).2.2.1 ∈ am_ws) (hf : (ck_T ci j).2.2.2 = false) : am_Ok nm D cA B0 sb H00 Th cc own mn eh rt pc (ac_putL ci j (pc + 3)) := by
  intro ls st M res h
  unfold ac_putL at h
  split at h
  next x k r =>
    split at h
    next c1 hsh =>
      split at h
      next hc1 =>
        subst hc1
        cases h
        refine ⟨⟨⟨Nat.le_refl _, Nat.le_refl _⟩, rfl⟩, ?_⟩
        intro p l e R s m args below meth c C hml H locs cells slots real hl hR hS hc hs Q hT
        obtain ⟨hx, hb, -, -, hown, hts, hK, -⟩ := C
        have hat := (hR.1 k _ hsh).2
        refine am_putK hx hb hts (am_lays c1 hci) (ck_y c1) (ck_ty c1 hci) (ck_nm c1 hci) hown hK.1 hat (ck_at c1 hci) j hj (hts _ hw) (fun _ h => h) (Or.inl hf) (ty := .long) (v := .long x) (by rw [ck_ty c1 hci j hj, hty]) rfl rfl (by rw [am_fs_len]; exact hj) hd (fun H1 loc hlc hz ho h1 => ?_)
        have hne : ∀ q, q ≠ k → am_u2 M.2.1 k j x q = M.2.1 q := fun q hq => am_u2_ne hq
        have hset : am_fs B0 (am_setL M k j x) k c1 = (am_fs B0 M k c1).set j (.long x) := am_fs_set hj (by rw [hty]; show Value.long (am_u2 M.2.1 k j x k j) = _; rw [am_u2_eq]; simp) (fun i hi hi2 => by
          unfold am_fv am_setL
          dsimp only
          rw [am_u2_eq]
          simp [hi])
        have hR1 : am_Rel D cA B0 sb H00 s (am_setL M k j x) H1 := am_Rel_put hR hsh rfl (fun _ _ => rfl) hne (fun _ _ => rfl) hz ho ⟨hci, by rw [hset]; exact h1⟩
        have h3 := hT.2.2 H1 (locs ++ [loc]) real hl hR1 (am_S_put hS hlc hz ho)
        have e1 : cells + (am_cn (am_setL M k j x) - am_cn M) = cells := by show cells + (am_cn M - am_cn M) = cells; omega
        have e2 : slots + (am_sn (am_setL M k j x) - am_sn M) = slots := by show slots + (am_sn M - am_sn M) = slots; omega
        dsimp only at h3
        rw [e1, e2] at h3
        exact h3
      next => cases h
    next => cases h
  next => cases h
theorem ok_putR {ci j idx : Nat} (hci : ci < 7) (hj : j < ck_N ci) {ty : FieldType} (hty : ck_y ci j = ty) (hk2 : am_kd ty = 2) (hfit : ∀ a, narrow ty (.ref a) = .ref a ∧ fits ty (.ref a) = true) (hd : decode cc pc = .ok (.putfield idx, 3)) (hw : Cond.fieldLink own idx (ck_T ci j).1 (ck_T ci j).2.1 (ck_T ci j).2.2.1 ∈ am_ws) (hf : (ck_T ci j).2.2.2 = false ∨ ((ck_T ci j).2.2.2 = true ∧ mn = "<init>" ∧ (ck_T ci j).1 = own)) : am_Ok nm D cA B0 sb H00 Th cc own mn eh rt pc (ac_putR ci j (pc + 3)) := by
  intro ls st M res h
  unfold ac_putR at h
  split at h
  next x k r =>
    split at h
    next c1 hsh =>
      split at h
      next hc1 =>
        subst hc1
        cases h
        refine ⟨⟨⟨Nat.le_refl _, Nat.le_refl _⟩, rfl⟩, ?_⟩
        intro p l e R s m args below meth c C hml H locs cells slots real hl hR hS hc hs Q hT
        obtain ⟨hx, hb, -, -, hown, hts, hK, -, -, -, hmn, -⟩ := C
        have hat := (hR.1 k _ hsh).2
        refine am_putK hx hb hts (am_lays c1 hci) (ck_y c1) (ck_ty c1 hci) (ck_nm c1 hci) hown hK.1 hat (ck_at c1 hci) j hj (hts _ hw) (fun _ h => h) (hf.imp id (fun q => ⟨q.1, hmn.trans q.2.1, q.2.2⟩)) (ty := ty) (v := .ref (B0 + x)) (by rw [ck_ty c1 hci j hj, hty]) (hfit _).1 (hfit _).2 (by rw [am_fs_len]; exact hj) hd (fun H1 loc hlc hz ho h1 => ?_)
        have hne : ∀ q, q ≠ k → am_u2 M.2.2.1 k j (some x) q = M.2.2.1 q := fun q hq => am_u2_ne hq
        have hset : am_fs B0 (am_setR M k j (some x)) k c1 = (am_fs B0 M k c1).set j (.ref (B0 + x)) := am_fs_set hj (by rw [hty, hk2]; show am_rf B0 (am_u2 M.2.2.1 k j (some x) k j) = _; rw [am_u2_eq]; simp [am_rf, va_rf]) (fun i hi hi2 => by
          unfold am_fv am_setR
          dsimp only
          rw [am_u2_eq]
          simp [hi])
        have hR1 : am_Rel D cA B0 sb H00 s (am_setR M k j (some x)) H1 := am_Rel_put hR hsh rfl (fun _ _ => rfl) (fun _ _ => rfl) hne hz ho ⟨hci, by rw [hset]; exact h1⟩
        have h3 := hT.2.2 H1 (locs ++ [loc]) real hl hR1 (am_S_put hS hlc hz ho)
        have e1 : cells + (am_cn (am_setR M k j (some x)) - am_cn M) = cells := by show cells + (am_cn M - am_cn M) = cells; omega
        have e2 : slots + (am_sn (am_setR M k j (some x)) - am_sn M) = slots := by show slots + (am_sn M - am_sn M) = slots; omega
        dsimp only at h3
        rw [e1, e2] at h3
        exact h3
      next => cases h
    next => cases h
  next => cases h
end FLD
end
section
/-! arrays, the script -/
section ARR
variable {nm : Nat → MethodName} {D : va_G} {cA : Nat → ClassId} {B0 : Nat} {sb : Nat → Option Nat} {H00 : Heap} {Th : State → Prop} {cc : ByteArray} {own mn : String} {eh : List (Nat × Nat × Nat × Nat)} {rt : Option FieldType} {pc : Nat}
theorem am_one {D : va_G} {H : Heap} {x : Nat × va_E} (h : va_at D ck_cl x H) : va_P D ck_cl [x] H := fun q e he => by
  have : q < 1 := (List.getElem?_eq_some_iff.mp he).1
  rw [show q = 0 by omega] at he
  cases he
  exact h
/-- a condition, then on, the memory as it was -/
theorem ok_cond {a : am_A} (h : ∀ ls st M res, a ls st M = some res → ∃ cd n st', res = .inr (.inl (cd, (n, ls, st', M))) ∧
    ∀ (p : Program) (l : Launch) (e : Env) (R : Room) (s : State) (m : MethodId) (args : Array Value) (below : List Frame) (meth : Method) (c : Code) (H : Heap) (locs : List Loc) (cells slots : Nat) (Q : State → Prop) (real : Array Slot),
      am_Cx D cA B0 Th cc own mn eh rt p l R s m args meth c → am_Rel D cA B0 sb H00 s M H → va_S (am_A0 B0) s.heap H locs → cd → am_Wk B0 sb p l e R s m args below meth c H locs cells slots Q n real st' → am_Wk B0 sb p l e R s m args below meth c H locs cells slots Q pc real st) : am_Ok nm D cA B0 sb H00 Th cc own mn eh rt pc a := by
  intro ls st M res hres
  obtain ⟨cd, n, st', rfl, hw⟩ := h ls st M res hres
  refine ⟨⟨⟨Nat.le_refl _, Nat.le_refl _⟩, rfl⟩, ?_⟩
  intro p l e R s m args below meth c C hml H locs cells slots real hl hR hS hc hs hcd Q hT
  exact hw p l e R s m args below meth c H locs cells slots Q real C hR hS hcd (am_self hT hR hS real hl)
def ac_iald (kd n : Nat) : am_A := fun ls st M => match st with
  | .int i :: .ref k :: r => match am_sh M k with
    | some (.inr (kd1, w)) => if kd1 = kd then some (.inr (.inl (vp_in i w, (n, ls, .int (M.1 k i.toNatClampNeg) :: r, M)))) else none
    | _ => none
  | _ => none
def ac_lald (n : Nat) : am_A := fun ls st M => match st with
  | .int i :: .ref k :: r => match am_sh M k with
    | some (.inr (kd1, w)) => if kd1 = 1 then some (.inr (.inl (vp_in i w, (n, ls, .long (M.2.1 k i.toNatClampNeg) :: r, M)))) else none
    | _ => none
  | _ => none
def ac_aald (kd n : Nat) : am_A := fun ls st M => match st with
  | .int i :: .ref k :: r => match am_sh M k with
    | some (.inr (kd1, w)) => if kd1 = kd then some (.inr (.inl (vp_in i w, (n, ls, am_rv (M.2.2.1 k i.toNatClampNeg) :: r, M)))) else none
    | _ => none
  | _ => none
def ac_sld (n : Nat) : am_A := fun ls st M => match st with
  | .int i :: .retAddr 0 :: r => match am_sh M 5000 with
    | some (.inr (kd1, w)) => if kd1 = 5 then some (.inr (.inl (vp_in i w, (n, ls, .int (M.1 5000 i.toNatClampNeg) :: r, M)))) else none
    | _ => none
  | _ => none
theorem am_at_arr {s : State} {M : am_M} {H : Heap} {k kd w : Nat} (hk : kd ≠ 5) (h : am_at D cA B0 sb s M H k (.inr (kd, w))) : kd < 5 ∧ va_at D ck_cl (B0 + k, .inl (cA kd, am_av B0 M k w kd)) H := by
  unfold am_at at h
  dsimp only at h
  rw [if_neg hk] at h
  exact h
theorem am_at_scr {s : State} {M : am_M} {H : Heap} {k w : Nat} (h : am_at D cA B0 sb s M H k (.inr (5, w))) : ∃ b, sb 0 = some b ∧ va_X b w (M.1 k) s H ∧ b < B0 := by
  unfold am_at at h
  dsimp only at h
  rw [if_pos rfl] at h
  exact h
theorem ok_iald (hd : decode cc pc = .ok (.iaload, 1)) : am_Ok nm D cA B0 sb H00 Th cc own mn eh rt pc (ac_iald 0 (pc + 1)) := by
  refine ok_cond fun ls st M res h => ?_
  unfold ac_iald at h
  split at h
  next i k r =>
    split at h
    next kd1 w hsh =>
      split at h
      next hk =>
        subst hk
        cases h
        refine ⟨_, _, _, rfl, ?_⟩
        intro p l e R s m args below meth c H locs cells slots Q real C hR hS hin kk
        exact va_iald C.1 C.2.1 C.2.2.2.2.2.2.1.1 (am_one (am_at_arr (by decide) (hR.1 k _ hsh)).2) 0 0 rfl rfl hin hd kk
      next => cases h
    next => cases h
  next => cases h
theorem ok_zald (hd : decode cc pc = .ok (.baload, 1)) : am_Ok nm D cA B0 sb H00 Th cc own mn eh rt pc (ac_iald 2 (pc + 1)) := by
  refine ok_cond fun ls st M res h => ?_
  unfold ac_iald at h
  split at h
  next i k r =>
    split at h
    next kd1 w hsh =>
      split at h
      next hk =>
        subst hk
        cases h
        refine ⟨_, _, _, rfl, ?_⟩
        intro p l e R s m args below meth c H locs cells slots Q real C hR hS hin kk
        exact va_zald C.1 C.2.1 C.2.2.2.2.2.2.1.1 (am_one (am_at_arr (by decide) (hR.1 k _ hsh)).2) 0 2 rfl rfl hin hd kk
      next => cases h
    next => cases h
  next => cases h
theorem ok_lald (hd : decode cc pc = .ok (.laload, 1)) : am_Ok nm D cA B0 sb H00 Th cc own mn eh rt pc (ac_lald (pc + 1)) := by
  refine ok_cond fun ls st M res h => ?_
  unfold ac_lald at h
  split at h
  next i k r =>
    split at h
    next kd1 w hsh =>
      split at h
      next hk =>
        subst hk
        cases h
        refine ⟨_, _, _, rfl, ?_⟩
        intro p l e R s m args below meth c H locs cells slots Q real C hR hS hin kk
        exact va_lald C.1 C.2.1 C.2.2.2.2.2.2.1.1 (am_one (am_at_arr (by decide) (hR.1 k _ hsh)).2) 0 1 rfl rfl hin hd kk
      next => cases h
    next => cases h
  next => cases h
theorem ok_aald {kd : Nat} (hkd : kd = 3 ∨ kd = 4) (hd : decode cc pc = .ok (.aaload, 1)) : am_Ok nm D cA B0 sb H00 Th cc own mn eh rt pc (ac_aald kd (pc + 1)) := by
  refine ok_cond fun ls st M res h => ?_
  unfold ac_aald at h
  split at h
  next i k r =>
    split at h
    next kd1 w hsh =>
      split at h
      next hk =>
        subst hk
        cases h
        refine ⟨_, _, _, rfl, ?_⟩
        intro p l e R s m args below meth c H locs cells slots Q real C hR hS hin kk
        unfold am_Wk at kk ⊢
        rw [List.map_cons, am_rv_val] at kk
        rcases hkd with rfl | rfl
        · exact va_aldq C.1 C.2.1 C.2.2.2.2.2.2.1.1 (am_one (am_at_arr (by decide) (hR.1 k _ hsh)).2) 0 3 rfl rfl hin hd kk
        · exact va_aldq C.1 C.2.1 C.2.2.2.2.2.2.1.1 (am_one (am_at_arr (by decide) (hR.1 k _ hsh)).2) 0 4 rfl rfl hin hd kk
      next => cases h
    next => cases h
  next => cases h
theorem am_scr0 {s : State} {M : am_M} {H : Heap} {w b : Nat} {locs : List Loc} (hB : B0 ≤ s.heap.size) (h : va_X b w (M.1 5000) s H ∧ b < B0) (hS : va_S (am_A0 B0) s.heap H locs) : va_X b w (M.1 5000) s s.heap ∧ b < s.heap.size ∧ ¬ am_A0 B0 b := by
  refine ⟨h.1.kept (hS.2.1 b (by omega) (by unfold am_A0; omega)).symm, by omega, by unfold am_A0; omega⟩
theorem ok_sld (hd : decode cc pc = .ok (.iaload, 1)) : am_Ok nm D cA B0 sb H00 Th cc own mn eh rt pc (ac_sld (pc + 1)) := by
  refine ok_cond fun ls st M res h => ?_
  unfold ac_sld at h
  split at h
  next i r =>
    split at h
    next kd1 w hsh =>
      split at h
      next hk =>
        subst hk
        cases h
        refine ⟨_, _, _, rfl, ?_⟩
        intro p l e R s m args below meth c H locs cells slots Q real C hR hS hin kk
        obtain ⟨b, hb, hbx⟩ := am_at_scr (hR.1 5000 _ hsh)
        obtain ⟨h1, h2, h3⟩ := am_scr0 C.2.2.2.2.2.2.2.1 hbx hS
        unfold am_Wk at kk ⊢
        show W p l e R s m args below meth c H locs cells slots Q (F0 m pc real (.int i :: va_rf (sb 0) :: r.map (am_val B0 sb)))
        rw [hb]
        exact va_sld C.1 C.2.1 h1 h2 h3 hS hin hd kk
      next => cases h
    next => cases h
  next => cases h
/-- lengths -/
def ac_alen (n : Nat) : am_A := fun ls st M => match st with
  | .ref k :: r => match am_sh M k with
    | some (.inr (kd, w)) => if kd = 5 then none else some (.inl (n, ls, .int (Int32.ofNat w) :: r, M))
    | _ => none
  | .retAddr 0 :: r => match am_sh M 5000 with
    | some (.inr (kd, w)) => if kd = 5 then some (.inl (n, ls, .int (Int32.ofNat w) :: r, M)) else none
    | _ => none
  | _ => none
theorem am_av_1 (M : am_M) (k w : Nat) : ∀ kd, (am_av B0 M k w kd).1 = w
  | 0 => rfl
  | 1 => rfl
  | 2 => rfl
  | _ + 3 => rfl
theorem ok_alen (hd : decode cc pc = .ok (.arraylength, 1)) : am_Ok nm D cA B0 sb H00 Th cc own mn eh rt pc (ac_alen (pc + 1)) := by
  intro ls st M res h
  unfold ac_alen at h
  split at h
  next k r =>
    split at h
    next kd w hsh =>
      split at h
      next => cases h
      next hk =>
        cases h
        refine ⟨⟨⟨Nat.le_refl _, Nat.le_refl _⟩, rfl⟩, ?_⟩
        intro p l e R s m args below meth c C hml H locs cells slots real hl hR hS hc hs Q hT
        have h2 := am_self hT hR hS real hl
        obtain ⟨hlt, hat⟩ := am_at_arr hk (hR.1 k _ hsh)
        exact va_alen C.1 C.2.1 C.2.2.2.2.2.2.1.1 (am_one hat) 0 kd rfl (am_tys_at cA kd hlt) (by rw [am_av_1]) hd h2
    next => cases h
  next r =>
    split at h
    next kd w hsh =>
      split at h
      next hk =>
        subst hk
        cases h
        refine ⟨⟨⟨Nat.le_refl _, Nat.le_refl _⟩, rfl⟩, ?_⟩
        intro p l e R s m args below meth c C hml H locs cells slots real hl hR hS hc hs Q hT
        have h2' := am_self hT hR hS real hl
        obtain ⟨b, hb, hbx⟩ := am_at_scr (hR.1 5000 _ hsh)
        obtain ⟨h1, h2, h3⟩ := am_scr0 C.2.2.2.2.2.2.2.1 hbx hS
        unfold am_Wk at h2' ⊢
        show W p l e R s m args below meth c H locs cells slots Q (F0 m pc real (va_rf (sb 0) :: r.map (am_val B0 sb)))
        rw [hb]
        exact va_slen C.1 C.2.1 h1 h2 h3 hS hd h2'
      next => cases h
    next => cases h
  next => cases h
end ARR
end
section
/-! stores into arrays -/
section STO
variable {nm : Nat → MethodName} {D : va_G} {cA : Nat → ClassId} {B0 : Nat} {sb : Nat → Option Nat} {H00 : Heap} {Th : State → Prop} {cc : ByteArray} {own mn : String} {eh : List (Nat × Nat × Nat × Nat)} {rt : Option FieldType} {pc : Nat}
theorem ok_condM {a : am_A} (h : ∀ ls st M res, a ls st M = some res → ∃ cd n st' M', res = .inr (.inl (cd, (n, ls, st', M'))) ∧ M'.2.2.2 = M.2.2.2 ∧
    ∀ (p : Program) (l : Launch) (e : Env) (R : Room) (s : State) (m : MethodId) (args : Array Value) (below : List Frame) (meth : Method) (c : Code) (H : Heap) (locs : List Loc) (cells slots : Nat) (Q : State → Prop) (real : Array Slot),
      am_Cx D cA B0 Th cc own mn eh rt p l R s m args meth c → c.maxLocals = real.size → am_Rel D cA B0 sb H00 s M H → va_S (am_A0 B0) s.heap H locs → cd → (∀ H1 locs1, am_Rel D cA B0 sb H00 s M' H1 → va_S (am_A0 B0) s.heap H1 locs1 → am_Wk B0 sb p l e R s m args below meth c H1 locs1 cells slots Q n real st') → am_Wk B0 sb p l e R s m args below meth c H locs cells slots Q pc real st) : am_Ok nm D cA B0 sb H00 Th cc own mn eh rt pc a := by
  intro ls st M res hres
  obtain ⟨cd, n, st', M', rfl, hM, hw⟩ := h ls st M res hres
  have e1 : am_cn M' = am_cn M := by show M'.2.2.2.2.2.1 = M.2.2.2.2.2.1; rw [hM]
  have e2 : am_sn M' = am_sn M := by show M'.2.2.2.2.2.2 = M.2.2.2.2.2.2; rw [hM]
  refine ⟨⟨⟨Nat.le_of_eq e1.symm, Nat.le_of_eq e2.symm⟩, rfl⟩, ?_⟩
  intro p l e R s m args below meth c C hml H locs cells slots real hl hR hS hc hs hcd Q hT
  refine hw p l e R s m args below meth c H locs cells slots Q real C (hml.symm.trans hl.1.symm) hR hS hcd (fun H1 locs1 hR1 hS1 => ?_)
  have h3 := hT.2.2 H1 locs1 real hl hR1 hS1
  dsimp only at h3
  rw [e1, e2, Nat.sub_self, Nat.sub_self, Nat.add_zero, Nat.add_zero] at h3
  exact h3
theorem am_arr_rel {s : State} {M M' : am_M} {H H1 : Heap} {k kd w : Nat} (hR : am_Rel D cA B0 sb H00 s M H) (hsh : am_sh M k = some (.inr (kd, w))) (h5 : kd < 5) (h2 : M'.2.2.2 = M.2.2.2)
    (hI : ∀ q, q ≠ k → M'.1 q = M.1 q) (hL : ∀ q, q ≠ k → M'.2.1 q = M.2.1 q) (hRR : ∀ q, q ≠ k → M'.2.2.1 q = M.2.2.1 q) (hz : H1.size = H.size) (ho : ∀ q, q ≠ B0 + k → H1[q]? = H[q]?) (hn : H1[B0 + k]? = some (vp_cell (cA kd) (am_av B0 M' k w kd))) : am_Rel D cA B0 sb H00 s M' H1 := by
  refine am_Rel_put hR hsh h2 hI hL hRR hz ho ?_
  unfold am_at
  dsimp only
  rw [if_neg (by omega)]
  exact ⟨h5, hn⟩
theorem am_S_put' {H0 H H1 : Heap} {locs : List Loc} {k j : Nat} (h : va_S (am_A0 B0) H0 H locs) (z : H1.size = H.size) (oq : ∀ q : Nat, q ≠ B0 + k → H1[q]? = H[q]?) : va_S (am_A0 B0) H0 H1 (locs ++ [⟨B0 + k, j⟩]) := am_S_put h rfl z oq
def ac_iast (n : Nat) : am_A := fun ls st M => match st with
  | .int x :: .int i :: .ref k :: r => match am_sh M k with
    | some (.inr (kd1, w)) => if kd1 = 0 then some (.inr (.inl (vp_in i w, (n, ls, r, am_setI M k i.toNatClampNeg x)))) else none
    | _ => none
  | _ => none
def ac_zast (n : Nat) : am_A := fun ls st M => match st with
  | .int x :: .int i :: .ref k :: r => match am_sh M k with
    | some (.inr (kd1, w)) => if kd1 = 2 then some (.inr (.inl (vp_in i w ∧ (x = 0 ∨ x = 1), (n, ls, r, am_setI M k i.toNatClampNeg x)))) else none
    | _ => none
  | _ => none
def ac_last (n : Nat) : am_A := fun ls st M => match st with
  | .long x :: .int i :: .ref k :: r => match am_sh M k with
    | some (.inr (kd1, w)) => if kd1 = 1 then some (.inr (.inl (vp_in i w, (n, ls, r, am_setL M k i.toNatClampNeg x)))) else none
    | _ => none
  | _ => none
/-- references into an array of kind kd, whose elements are of the kind ci -/
def ac_aast (kd ci n : Nat) : am_A := fun ls st M => match st with
  | .ref x :: .int i :: .ref k :: r => match am_sh M k with
    | some (.inr (kd1, w)) => if kd1 = kd then (match am_sh M x with
        | some (.inl c1) => if c1 = ci then some (.inr (.inl (vp_in i w, (n, ls, r, am_setR M k i.toNatClampNeg (some x))))) else none
        | _ => none) else none
    | _ => none
  | _ => none
theorem ok_iast (hd : decode cc pc = .ok (.iastore, 1)) : am_Ok nm D cA B0 sb H00 Th cc own mn eh rt pc (ac_iast (pc + 1)) := by
  refine ok_condM fun ls st M res h => ?_
  unfold ac_iast at h
  split at h
  next x i k r =>
    split at h
    next kd1 w hsh =>
      split at h
      next hk =>
        subst hk
        cases h
        refine ⟨_, _, _, _, rfl, rfl, ?_⟩
        intro p l e R s m args below meth c H locs cells slots Q real C hml hR hS hin kk
        obtain ⟨h5, hat⟩ := am_at_arr (by decide) (hR.1 k _ hsh)
        refine W.iast C.1 C.2.1 hat ((C.2.2.2.2.2.2.1.1.2 0 _ rfl).1 w (fun j => .int (M.1 k j))) (fun q => by cases q) (by show ¬ (i < 0 ∨ (arrV _ _ _).slots.size ≤ _); rw [arrV_size]; exact hin) rfl rfl hd fun H1 e z oq => ?_
        refine kk H1 _ (am_arr_rel hR hsh h5 rfl (fun q hq => am_u2_ne hq) (fun _ _ => rfl) (fun _ _ => rfl) z oq ?_) (am_S_put' hS z oq)
        rw [e]
        show some ((vp_cell (cA 0) (w, .inl (M.1 k))).setSlot i.toNatClampNeg (.int x)) = some (vp_cell (cA 0) (w, .inl (am_u2 M.1 k i.toNatClampNeg x k)))
        rw [vp_cell_i, vp_cell_i, arrV_store, am_u2_eq]
        congr 2
        funext q
        by_cases hq : q = i.toNatClampNeg
        · subst hq
          simp [updV]
        · simp [updV, hq]
      next => cases h
    next => cases h
  next => cases h
theorem ok_zast (hd : decode cc pc = .ok (.bastore, 1)) : am_Ok nm D cA B0 sb H00 Th cc own mn eh rt pc (ac_zast (pc + 1)) := by
  refine ok_condM fun ls st M res h => ?_
  unfold ac_zast at h
  split at h
  next x i k r =>
    split at h
    next kd1 w hsh =>
      split at h
      next hk =>
        subst hk
        cases h
        refine ⟨_, _, _, _, rfl, rfl, ?_⟩
        intro p l e R s m args below meth c H locs cells slots Q real C hml hR hS hin kk
        obtain ⟨h5, hat⟩ := am_at_arr (by decide) (hR.1 k _ hsh)
        have hnx : vp_nar .boolean x = x := by rcases hin.2 with rfl | rfl <;> decide
        refine W.zast C.1 C.2.1 hat ((C.2.2.2.2.2.2.1.1.2 2 _ rfl).1 w (fun j => .int (M.1 k j))) (fun q => by cases q) (by show ¬ (i < 0 ∨ (arrV _ _ _).slots.size ≤ _); rw [arrV_size]; exact hin.1) rfl rfl hd fun H1 e z oq => ?_
        refine kk H1 _ (am_arr_rel hR hsh h5 rfl (fun q hq => am_u2_ne hq) (fun _ _ => rfl) (fun _ _ => rfl) z oq ?_) (am_S_put' hS z oq)
        rw [e]
        show some ((vp_cell (cA 2) (w, .inl (M.1 k))).setSlot i.toNatClampNeg _) = some (vp_cell (cA 2) (w, .inl (am_u2 M.1 k i.toNatClampNeg x k)))
        rw [vp_cell_i, vp_cell_i, arrV_store, am_u2_eq]
        congr 2
        funext q
        by_cases hq : q = i.toNatClampNeg
        · subst hq
          rcases hin.2 with rfl | rfl <;> simp [updV] <;> decide
        · simp [updV, hq]
      next => cases h
    next => cases h
  next => cases h
theorem ok_last (hd : decode cc pc = .ok (.lastore, 1)) : am_Ok nm D cA B0 sb H00 Th cc own mn eh rt pc (ac_last (pc + 1)) := by
  refine ok_condM fun ls st M res h => ?_
  unfold ac_last at h
  split at h
  next x i k r =>
    split at h
    next kd1 w hsh =>
      split at h
      next hk =>
        subst hk
        cases h
        refine ⟨_, _, _, _, rfl, rfl, ?_⟩
        intro p l e R s m args below meth c H locs cells slots Q real C hml hR hS hin kk
        obtain ⟨h5, hat⟩ := am_at_arr (by decide) (hR.1 k _ hsh)
        refine W.last C.1 C.2.1 hat ((C.2.2.2.2.2.2.1.1.2 1 _ rfl).1 w (fun j => .long (M.2.1 k j))) (fun q => by cases q) (by show ¬ (i < 0 ∨ (arrV _ _ _).slots.size ≤ _); rw [arrV_size]; exact hin) rfl rfl hd fun H1 e z oq => ?_
        refine kk H1 _ (am_arr_rel hR hsh h5 rfl (fun _ _ => rfl) (fun q hq => am_u2_ne hq) (fun _ _ => rfl) z oq ?_) (am_S_put' hS z oq)
        rw [e]
        show some ((vp_cell (cA 1) (w, .inr (.inl (M.2.1 k)))).setSlot i.toNatClampNeg (.long x)) = some (vp_cell (cA 1) (w, .inr (.inl (am_u2 M.2.1 k i.toNatClampNeg x k))))
        rw [vp_cell_l, vp_cell_l, arrV_store, am_u2_eq]
        congr 2
        funext q
        by_cases hq : q = i.toNatClampNeg
        · subst hq
          simp [updV]
        · simp [updV, hq]
      next => cases h
    next => cases h
  next => cases h
theorem am_aast_W {p : Program} {l : Launch} {e : Env} {R : Room} {s : State} {m : MethodId} {args : Array Value} {below : List Frame} {meth : Method} {c : Code} {H : Heap} {locs : List Loc} {cells slots : Nat} {Q : State → Prop} {ls : Array Slot} {rest : List Value} {a v t0 ci n : Nat} {cB : ClassId} {r : vw_C} {vs : List Value} {f : Nat → Option Nat} {i : Int32}
    (hexec : p.tables.exec = Jvm.exec) (hb : c.code = cc) (hK : va_K D ck_cl (am_tys cA) s) (ha : va_at D ck_cl (a, .inl (cB, n, .inr (.inr (.inr (.inr f))))) H) (ht : (am_tys cA)[t0]? = some (cB, .object r.1)) (hv : va_at D ck_cl (v, .inr (ci, vs)) H) (hc : ck_cl[ci]? = some r) (hin : vp_in i n) (hdg : decode cc pc = .ok (.aastore, 1))
    (kk : ∀ (H1 : Heap), H1.size = H.size → (∀ q, q ≠ a → H1[q]? = H[q]?) → H1[a]? = some (vp_cell cB (n, .inr (.inr (.inr (.inr (va_up f i.toNatClampNeg (some v))))))) → W p l e R s m args below meth c H1 (locs ++ [⟨a, i.toNatClampNeg⟩]) cells slots Q (F0 m (pc + 1) ls rest)) : W p l e R s m args below meth c H locs cells slots Q (F0 m pc ls (.ref v :: .int i :: .ref a :: rest)) := by
  have hlt : i.toNatClampNeg < n := Nat.not_le.mp fun q => hin (Or.inr q)
  have h0 : ¬ i < 0 := fun q => hin (Or.inl q)
  obtain ⟨r', hr', cellV, g1, g2, g3, -⟩ := hv
  have hcls := (hK.1 ci r hc).2
  obtain ⟨kA, comp, k1, k2, k3, -⟩ := (hK.2 t0 _ ht).2
  have hcomp : comp = D.1 ci := Option.some.inj (k3.symm.trans hcls.1)
  subst hcomp
  obtain ⟨kC, hkC, -⟩ := hcls.2
  refine W.aast hexec hb ha (fun q h => by cases h) (fun h => by cases h) k1 k2 rfl hkC ⟨h0, by show _ < (arrV _ _ _).slots.size; rw [arrV_size]; exact hlt⟩ g1 (fun q h => by rw [g3] at h; cases h) (by rw [g2]; exact hkC) (by rw [g2]; exact va_assign hcls) rfl rfl hdg fun H1 e z oq => ?_
  refine kk H1 z oq ?_
  rw [e]
  rw [vp_cell_q, vp_cell_q, arrV_store]
  congr 2
  funext q
  by_cases hq : q = i.toNatClampNeg
  · subst hq
    simp [updV, va_up, va_rf]
  · simp [updV, va_up, hq]
theorem am_av_q (M : am_M) (k w : Nat) {kd : Nat} (h : kd = 3 ∨ kd = 4) : am_av B0 M k w kd = (w, .inr (.inr (.inr (.inr (fun i => (M.2.2.1 k i).map (fun q => B0 + q)))))) := by
  rcases h with rfl | rfl <;> rfl
theorem ok_aast {kd ci : Nat} (hkd : kd = 3 ∨ kd = 4) (hci : ci < 7) (hty : am_ety kd = .object (ck_R ci)) (hd : decode cc pc = .ok (.aastore, 1)) : am_Ok nm D cA B0 sb H00 Th cc own mn eh rt pc (ac_aast kd ci (pc + 1)) := by
  refine ok_condM fun ls st M res h => ?_
  unfold ac_aast at h
  split at h
  next x i k r =>
    split at h
    next kd1 w hsh =>
      split at h
      next hk =>
        subst hk
        split at h
        next c1 hsx =>
          split at h
          next hc1 =>
            subst hc1
            cases h
            refine ⟨_, _, _, _, rfl, rfl, ?_⟩
            intro p l e R s m args below meth c H locs cells slots Q real C hml hR hS hin kk
            have hk5 : kd1 ≠ 5 := by rcases hkd with rfl | rfl <;> decide
            obtain ⟨h5, hat⟩ := am_at_arr hk5 (hR.1 k _ hsh)
            rw [am_av_q M k w hkd] at hat
            refine am_aast_W (t0 := kd1) (r := (ck_R c1, ck_T c1, ck_N c1)) C.1 C.2.1 C.2.2.2.2.2.2.1.1 hat (by rw [am_tys_at cA kd1 h5, hty]) (hR.1 x _ hsx).2 (ck_at c1 hci) hin hd (fun H1 z oq e => ?_)
            refine kk H1 _ (am_arr_rel hR hsh h5 rfl (fun _ _ => rfl) (fun _ _ => rfl) (fun q hq => am_u2_ne hq) z oq ?_) (am_S_put' hS z oq)
            rw [e, am_av_q _ k w hkd]
            congr 3
            show _ = Sum.inr (Sum.inr (Sum.inr (Sum.inr (fun j => (am_u2 M.2.2.1 k i.toNatClampNeg (some x) k j).map (fun q => B0 + q)))))
            rw [am_u2_eq]
            congr 4
            funext q
            by_cases hq : q = i.toNatClampNeg
            · subst hq
              simp [va_up]
            · simp [va_up, hq]
          next => cases h
        next => cases h
      next => cases h
    next => cases h
  next => cases h
end STO
end
section
/-! new cells; calls of Object's own <init> and of max -/
def am_plain : FieldType → Bool
  | .int => true
  | .long => true
  | .object _ => true
  | .array _ => true
  | _ => false
theorem ck_plain : ∀ i, i < 7 → ∀ k, k < ck_N i → am_plain (ck_y i k) = true := by decide +kernel
section NEW
variable {nm : Nat → MethodName} {D : va_G} {cA : Nat → ClassId} {B0 : Nat} {sb : Nat → Option Nat} {H00 : Heap} {Th : State → Prop} {cc : ByteArray} {own mn : String} {eh : List (Nat × Nat × Nat × Nat)} {rt : Option FieldType} {pc : Nat}
theorem am_Rel_new {s : State} {M : am_M} {H H1 : Heap} {q w : Nat} {sp : am_Sh} (hR : am_Rel D cA B0 sb H00 s M H) (hq : am_nx M = some q) (hz : H1.size = B0 + q + 1) (ho : ∀ a, a < B0 + q → H1[a]? = H[a]?) (hn : am_at D cA B0 sb s (am_mk M q sp w) H1 q sp) : am_Rel D cA B0 sb H00 s (am_mk M q sp w) H1 := by
  have hsz : H.size = B0 + q := hR.2.1 q hq
  refine ⟨fun k sk hk => ?_, fun n hn' => ?_, fun a ha => (ho a (by omega)).trans (hR.2.2 a ha)⟩
  · by_cases e : k = q
    · subst e
      have : am_sh (am_mk M k sp w) k = some sp := am_u1_eq
      cases this.symm.trans hk
      exact hn
    · have hk' : am_sh M k = some sk := by
        rw [← hk]
        exact (am_u1_ne e).symm
      have hI : (am_mk M q sp w).1 k = M.1 k := am_u1_ne e
      have hL : (am_mk M q sp w).2.1 k = M.2.1 k := am_u1_ne e
      have hRR : (am_mk M q sp w).2.2.1 k = M.2.2.1 k := am_u1_ne e
      have h0 := hR.1 k sk hk'
      match sk, h0 with
      | .inl ci, h0 =>
        have hlt : B0 + k < H.size := h0.2.lt
        exact am_at_kept hI hL hRR (ho _ (by omega)) (fun b hs => ho _ (by omega)) h0
      | .inr (kd, n), h0 =>
        by_cases e5 : kd = 5
        · subst e5
          obtain ⟨b, h1, h2, h3⟩ := am_at_scr h0
          unfold am_at
          dsimp only
          rw [if_pos rfl, hI]
          exact ⟨b, h1, h2.kept (ho _ (by omega)), h3⟩
        · have hlt : B0 + k < H.size := (am_at_arr e5 h0).2.lt
          exact am_at_kept hI hL hRR (ho _ (by omega)) (fun b hs => ho _ (by omega)) h0
  · have : n = q + 1 := (Option.some.inj hn').symm
    omega
theorem am_S_new {H0 H H1 : Heap} {locs : List Loc} {q : Nat} (h : va_S (am_A0 B0) H0 H locs) (hsz : H.size = B0 + q) (hz : H1.size = B0 + q + 1) (ho : ∀ a, a < B0 + q → H1[a]? = H[a]?) : va_S (am_A0 B0) H0 H1 locs :=
  ⟨by have := h.1; omega, fun a h1 h2 => (ho a (by have := h.1; omega)).trans (h.2.1 a h1 h2), h.2.2⟩
theorem am_cnt (M : am_M) (q : Nat) (sp : am_Sh) (w : Nat) : am_cn (am_mk M q sp w) - am_cn M = 1 ∧ am_sn (am_mk M q sp w) - am_sn M = w := by
  constructor
  · show am_cn M + 1 - am_cn M = 1; omega
  · show am_sn M + w - am_sn M = w; omega
theorem am_To_new {p : Program} {l : Launch} {e : Env} {R : Room} {s : State} {m : MethodId} {args : Array Value} {below : List Frame} {meth : Method} {c : Code} {cells slots : Nat} {Q : State → Prop} {M : am_M} {n q w : Nat} {ls : List (Option Value)} {st : List Value} {sp : am_Sh}
    (h : am_To D cA B0 sb H00 p l e R s m args below meth c cells slots Q M (n, ls, st, am_mk M q sp w)) : cells + 1 ≤ R.cells ∧ slots + w ≤ R.slots ∧ ∀ (H1 : Heap) (locs1 : List Loc) (real1 : Array Slot), am_Loc B0 sb real1 ls → am_Rel D cA B0 sb H00 s (am_mk M q sp w) H1 → va_S (am_A0 B0) s.heap H1 locs1 → am_Wk B0 sb p l e R s m args below meth c H1 locs1 (cells + 1) (slots + w) Q n real1 st := by
  obtain ⟨h1, h2, h3⟩ := h
  dsimp only at h1 h2 h3
  obtain ⟨e1, e2⟩ := am_cnt M q sp w
  rw [e1] at h1
  rw [e2] at h2
  rw [e1, e2] at h3
  exact ⟨h1, h2, h3⟩
def ac_new (ci n : Nat) : am_A := fun ls st M => match am_nx M with
  | some q => some (.inl (n, ls, .ref q :: st, am_mk M q (.inl ci) (ck_N ci)))
  | none => none
theorem am_fs_new (M : am_M) (q ci : Nat) (hci : ci < 7) (w : Nat) : ∀ j, j < ck_N ci → defaultValue (ck_y ci j) = vp_V (am_fs B0 (am_mk M q (.inl ci) w) q ci) j := by
  intro j hj
  unfold vp_V
  rw [List.getD_eq_getElem?_getD, am_fs_get _ _ _ _ _ hj]
  have hp := ck_plain ci hci j hj
  have hI : (am_mk M q (.inl ci) w).1 q = fun _ => 0 := am_u1_eq
  have hL : (am_mk M q (.inl ci) w).2.1 q = fun _ => 0 := am_u1_eq
  have hRR : (am_mk M q (.inl ci) w).2.2.1 q = fun _ => none := am_u1_eq
  cases hty : ck_y ci j with
  | int => show _ = Value.int _; rw [hI]; rfl
  | long => show _ = Value.long _; rw [hL]; rfl
  | object x => show _ = am_rf B0 _; rw [hRR]; rfl
  | array x => show _ = am_rf B0 _; rw [hRR]; rfl
  | _ => rw [hty] at hp; simp [am_plain] at hp
theorem ok_new {ci idx : Nat} (hci : ci < 7) (hd : decode cc pc = .ok (.new idx, 3)) (h1 : Cond.classLink own idx (ck_R ci) ∈ am_ws) (h2 : Cond.instantiable (ck_R ci) (ck_N ci) ∈ am_ws) (h3 : Cond.initialized (ck_R ci) ∈ am_ws) : am_Ok nm D cA B0 sb H00 Th cc own mn eh rt pc (ac_new ci (pc + 3)) := by
  intro ls st M res h
  unfold ac_new at h
  split at h
  next q hq =>
    cases h
    refine ⟨⟨⟨by show am_cn M ≤ am_cn M + 1; omega, by show am_sn M ≤ am_sn M + ck_N ci; omega⟩, rfl⟩, ?_⟩
    intro p l e R s m args below meth c C hml H locs cells slots real hl hR hS hc hs Q hT
    obtain ⟨hx, hb, -, -, hown, hts, hK, -⟩ := C
    obtain ⟨hc1, hs1, hk⟩ := am_To_new hT
    have hsz : H.size = B0 + q := hR.2.1 q hq
    have hKn := hK.1.1 ci _ (ck_at ci hci)
    refine W.newcK hx hb hown (hts _ h1) (hts _ h2) (hts _ h3) rfl hd hc1 hs1 hKn.2.1 hsz fun H1 kC hkC e1 z1 o1 => ?_
    refine hk H1 locs real hl (am_Rel_new hR hq z1 o1 ⟨hci, _, ck_at ci hci, (u_born (ck_y ci) hts (am_lays ci hci) hKn hkC e1 (ck_ty ci hci)).to (am_fs_new M q ci hci _)⟩) (am_S_new hS hsz z1 o1)
  next => cases h
/-- arrays of numbers -/
def ac_newa (kd bytes n : Nat) : am_A := fun ls st M => match st with
  | .int x :: r => match am_nx M with
    | some q => some (.inr (.inl (¬ x < 0 ∧ x.toNatClampNeg * bytes ≤ 536870912, (n, ls, .ref q :: r, am_mk M q (.inr (kd, x.toNatClampNeg)) x.toNatClampNeg))))
    | none => none
  | _ => none
theorem am_at_new {s : State} {M : am_M} {H1 : Heap} {q kd N : Nat} (h5 : kd < 5) (e : H1[B0 + q]? = some (arrV (cA kd) N (fun _ => defaultValue (am_ety kd)))) : am_at D cA B0 sb s (am_mk M q (.inr (kd, N)) N) H1 q (.inr (kd, N)) := by
  unfold am_at
  dsimp only
  rw [if_neg (by omega)]
  refine ⟨h5, ?_⟩
  have hI : (am_mk M q (.inr (kd, N)) N).1 q = fun _ => 0 := am_u1_eq
  have hL : (am_mk M q (.inr (kd, N)) N).2.1 q = fun _ => 0 := am_u1_eq
  have hRR : (am_mk M q (.inr (kd, N)) N).2.2.1 q = fun _ => none := am_u1_eq
  show H1[B0 + q]? = some (vp_cell (cA kd) (am_av B0 (am_mk M q (.inr (kd, N)) N) q N kd))
  rw [e]
  match kd, h5 with
  | 0, _ => unfold am_av; rw [hI]; rfl
  | 1, _ => unfold am_av; rw [hL]; rfl
  | 2, _ => unfold am_av; rw [hI]; rfl
  | 3, _ => unfold am_av; rw [hRR]; rfl
  | 4, _ => unfold am_av; rw [hRR]; rfl
  | n + 5, h5 => exact absurd h5 (by omega)
theorem ok_newa {kd bytes : Nat} {at_ : ArrayType} (h3 : kd < 3) (hty : newarray.typeOf at_ = am_ety kd) (hby : componentBytes (am_ety kd) = bytes) (hd : decode cc pc = .ok (.newarray at_, 2)) (hw : Cond.arrayClass (am_ety kd) ∈ am_ws) : am_Ok nm D cA B0 sb H00 Th cc own mn eh rt pc (ac_newa kd bytes (pc + 2)) := by
  intro ls st M res h
  unfold ac_newa at h
  split at h
  next x r =>
    split at h
    next q hq =>
      cases h
      refine ⟨⟨⟨by show am_cn M ≤ am_cn M + 1; omega, by show am_sn M ≤ am_sn M + x.toNatClampNeg; omega⟩, rfl⟩, ?_⟩
      intro p l e R s m args below meth c C hml H locs cells slots real hl hR hS hc hs hcd Q hT
      obtain ⟨hx, hb, -, -, hown, hts, hK, -⟩ := C
      obtain ⟨hc1, hs1, hk⟩ := am_To_new hT
      have hsz : H.size = B0 + q := hR.2.1 q hq
      refine va_newaK hx hb (by rw [hty]; exact hts _ hw) rfl hd rfl hcd.1 rfl (by rw [hty, hby]; exact hcd.2) hc1 hs1 hsz fun H1 cB e1 z1 o1 hAr hNm => ?_
      have hcB : cB = cA kd := by
        have h9 := (hK.1.2 kd _ (am_tys_at cA kd (by omega))).2
        rw [hty] at hNm
        match kd, h3, h9, hNm with
        | 0, _, h9, hNm => exact Option.some.inj (hNm.symm.trans h9)
        | 1, _, h9, hNm => exact Option.some.inj (hNm.symm.trans h9)
        | 2, _, h9, hNm => exact Option.some.inj (hNm.symm.trans h9)
        | n + 3, h3, _, _ => exact absurd h3 (by omega)
      subst hcB
      rw [hty] at e1
      exact hk H1 locs real hl (am_Rel_new hR hq z1 o1 (am_at_new (by omega) e1)) (am_S_new hS hsz z1 o1)
    next => cases h
  next => cases h
/-- arrays of references -/
theorem ok_anew {kd ci idx : Nat} (hkd : kd = 3 ∨ kd = 4) (hty : am_ety kd = .object (ck_R ci)) (hd : decode cc pc = .ok (.anewarray idx, 3)) (h1 : Cond.classLink own idx (ck_R ci) ∈ am_ws) (hao : ∀ s, am_K D cA Th s → va_AO (ck_R ci) s) : am_Ok nm D cA B0 sb H00 Th cc own mn eh rt pc (ac_newa kd 4 (pc + 3)) := by
  intro ls st M res h
  unfold ac_newa at h
  split at h
  next x r =>
    split at h
    next q hq =>
      cases h
      refine ⟨⟨⟨by show am_cn M ≤ am_cn M + 1; omega, by show am_sn M ≤ am_sn M + x.toNatClampNeg; omega⟩, rfl⟩, ?_⟩
      intro p l e R s m args below meth c C hml H locs cells slots real hl hR hS hc hs hcd Q hT
      obtain ⟨hx, hb, -, -, hown, hts, hK, -⟩ := C
      obtain ⟨hc1, hs1, hk⟩ := am_To_new hT
      have hsz : H.size = B0 + q := hR.2.1 q hq
      have h5 : kd < 5 := by rcases hkd with rfl | rfl <;> decide
      refine W.anew hx hb hown (hts _ h1) (va_AO.use (hao s hK)) rfl hd rfl hcd.1 hcd.2 hc1 hs1 fun cB kA comp f1 f2 f3 f4 => ?_
      have hcB : cB = cA kd := by
        have h9 := (hK.1.2 kd _ (am_tys_at cA kd h5)).2
        rw [hty] at h9
        obtain ⟨_, _, _, _, _, h10⟩ := h9
        exact Option.some.inj (f1.symm.trans h10)
      subst hcB
      generalize hH1 : H.push ({ cls := cA kd, slots := Array.replicate x.toNatClampNeg .null, vm := .none } : Cell) = H1
      have z1 : H1.size = B0 + q + 1 := by rw [← hH1, Array.size_push, hsz]
      have e1 : H1[B0 + q]? = some (arrV (cA kd) x.toNatClampNeg (fun _ => defaultValue (am_ety kd))) := by
        rw [← hH1, ← hsz, Array.getElem?_push_size, ← arrV_new, hty]
        rfl
      have o1 : ∀ a : Nat, a < B0 + q → H1[a]? = H[a]? := fun a ha => by rw [← hH1, Array.getElem?_push, if_neg (by omega)]
      rw [hsz]
      exact hk H1 locs real hl (am_Rel_new hR hq z1 o1 (am_at_new h5 e1)) (am_S_new hS hsz z1 o1)
    next => cases h
  next => cases h
def ac_oinit (n : Nat) : am_A := fun ls st M => match st with
  | .ref k :: r => if (r.map fun v => v.category).sum ≤ 8 then some (.inl (n, ls, r, M)) else none
  | _ => none
theorem am_cats (r : List Value) : ((r.map (am_val B0 sb)).map fun v => v.category).sum = (r.map fun v => v.category).sum := by
  congr 1
  rw [List.map_map]
  apply List.map_congr_left
  intro v _
  exact am_val_cat B0 sb v
theorem ok_oinit {idx : Nat} (hd : decode cc pc = .ok (.invokespecial idx, 3)) (h1 : Cond.methodLink own idx Lib.objectInit ∈ am_ws) (h2 : Cond.instanceMethod Lib.objectInit ∈ am_ws) (h3 : Cond.code Lib.objectInit ⟨#[0xb1]⟩ 1 none ∈ am_ws) : am_Ok nm D cA B0 sb H00 Th cc own mn eh rt pc (ac_oinit (pc + 3)) := by
  refine ok_simple fun ls st M res h => ?_
  unfold ac_oinit at h
  split at h
  next k r =>
    split at h
    next hr =>
      cases h
      refine ⟨_, _, _, rfl, rfl, ?_⟩
      intro p l e R s m args below meth c H locs cells slots Q real C hml hl kk
      refine W.objInit C.1 C.2.1 C.2.2.2.2.1 (C.2.2.2.2.2.1 _ h1) (C.2.2.2.2.2.1 _ h2) (C.2.2.2.2.2.1 _ h3) rfl (by show real.size = _; rw [hl.1, hml]) rfl hd (by have := C.2.2.2.2.2.2.2.2.1; omega) ?_ (kk real hl)
      have h9 := C.2.2.2.2.2.2.2.2.2.1
      have h8 : ((r.map (am_val B0 sb)).map fun v => v.category).sum ≤ 8 := by rw [am_cats]; exact hr
      show 2 * 0 + _ + 12 ≤ _
      omega
    next => cases h
  next => cases h
def ac_max (n : Nat) : am_A := fun ls st M => match st with
  | .int y :: .int x :: r => if (r.map fun v => v.category).sum ≤ 8 then some (.inl (n, ls, .int (if x < y then y else x) :: r, M)) else none
  | _ => none
theorem ok_max {idx : Nat} (hd : decode cc pc = .ok (.invokestatic idx, 3)) (h1 : Cond.methodLink own idx Lib.Math.max.name ∈ am_ws) (h2 : Cond.static Lib.Math.max.name ∈ am_ws) (h3 : Cond.initialized "java/lang/Math" ∈ am_ws) (h4 : Cond.code Lib.Math.max.name Lib.Math.max.code 2 (some .int) ∈ am_ws) : am_Ok nm D cA B0 sb H00 Th cc own mn eh rt pc (ac_max (pc + 3)) := by
  intro ls st M res h
  unfold ac_max at h
  split at h
  next y x r =>
    split at h
    next hr =>
      cases h
      refine ⟨⟨⟨Nat.le_refl _, Nat.le_refl _⟩, rfl⟩, ?_⟩
      intro p l e R s m args below meth c C hml H locs cells slots real hl hR hS hc hs Q hT
      have hts := C.2.2.2.2.2.1
      have h9 := C.2.2.2.2.2.2.2.2.2.1
      have h8 : ((r.map (am_val B0 sb)).map fun v => v.category).sum ≤ 8 := by rw [am_cats]; exact hr
      exact va_mmax C.1 C.2.1 (hml.symm.trans hl.1.symm) C.2.2.2.2.1 (hts _ h1) (hts _ h2) (hts _ h3) (hts _ h4) (by have := C.2.2.2.2.2.2.2.2.1; omega) (by omega) hc hs hd (am_self hT hR hS real hl)
    next => cases h
  next => cases h
end NEW
end
section
/-! calls -/
def am_split : Nat → List Value → List Value → Option (List Value × List Value)
  | 0, st, acc => some (acc, st)
  | n + 1, v :: st, acc => am_split n st (v :: acc)
  | _ + 1, [], _ => none
theorem am_split_spec : ∀ (n : Nat) (st acc as r : List Value), am_split n st acc = some (as, r) → ∃ xs, as = xs ++ acc ∧ st = xs.reverse ++ r ∧ xs.length = n
  | 0, st, acc, as, r, h => by
    cases h
    exact ⟨[], rfl, rfl, rfl⟩
  | n + 1, v :: st, acc, as, r, h => by
    obtain ⟨xs, h1, h2, h3⟩ := am_split_spec n st (v :: acc) as r h
    refine ⟨xs ++ [v], by rw [h1]; simp, by rw [h2]; simp, by simp [h3]⟩
  | n + 1, [], acc, as, r, h => by cases h
def am_nohd : Nat → Option (Nat × Nat) := fun _ => none
/-- a call on an object of the kind ci: n1 values with the receiver -/
def ac_callV (ci y n1 n : Nat) (hd : Nat → Option (Nat × Nat)) : am_A := fun ls st M => match am_split n1 st [] with
  | some (as, r) => match as with
    | .ref k :: _ => match am_sh M k with
      | some (.inl c1) => if c1 = ci ∧ (r.map fun v => v.category).sum ≤ 8 then some (.inr (.inr (.inr (.inr (.inl (y, as, hd, (n, ls, r, M))))))) else none
      | _ => none
    | _ => none
  | none => none
/-- a static call, or one of <init> -/
def ac_callS (y n1 n : Nat) : am_A := fun ls st M => match am_split n1 st [] with
  | some (as, r) => if (r.map fun v => v.category).sum ≤ 8 then some (.inr (.inr (.inr (.inr (.inl (y, as, am_nohd, (n, ls, r, M))))))) else none
  | none => none
def ac_callI (y n1 n : Nat) : am_A := fun ls st M => match am_split n1 st [] with
  | some (as, r) => match as with
    | .ref _ :: _ => if (r.map fun v => v.category).sum ≤ 8 then some (.inr (.inr (.inr (.inr (.inl (y, as, am_nohd, (n, ls, r, M))))))) else none
    | _ => none
  | none => none
section CAL
variable {nm : Nat → MethodName} {D : va_G} {cA : Nat → ClassId} {B0 : Nat} {sb : Nat → Option Nat} {H00 : Heap} {Th : State → Prop} {cc : ByteArray} {own mn : String} {rt : Option FieldType} {pc : Nat}
/-- a throw out of a method without handlers -/
theorem am_leave {p : Program} {l : Launch} {e : Env} {R : Room} {s : State} {m : MethodId} {args : Array Value} {below : List Frame} {meth : Method} {c : Code} {T' : State} {locs : List Loc} {cells slots : Nat} {Q : State → Prop} {x : Addr} {real : Array Slot} {st : List Value}
    (C : am_Cx D cA B0 Th cc own mn [] rt p l R s m args meth c) (X : Stand p l e R s m args below meth c T' locs cells slots) (h : ∀ vm' : Vm, Stand p l e R s m args below meth c (T'.setVm vm') locs cells slots → ∃ u, Steps p.tables e below ((T'.setVm vm').setFrames (.throwing x :: below)) u ∧ Q u) : ∃ u, Steps p.tables e below ((T'.setTop (F0 m pc real st)).pushFrame (.throwing x)) u ∧ Q u := by
  obtain ⟨u, h1, h2⟩ := h T'.vm X
  have het : c.exceptionTable.toList = [] := List.map_eq_nil_iff.mp C.2.2.2.2.2.2.2.2.2.2.2.1
  exact ⟨u, (X.leaveThrown x (g := F0 m pc real st) rfl rfl rfl (fun y hy => by rw [het] at hy; cases hy) (hlocks := C.2.2.2.1)).1.trans h1, h2⟩
theorem am_ne {y : MethodName} (h : (y.cls != "java/lang/invoke/MethodHandle" && y.cls != "java/lang/invoke/VarHandle") = true) : y.cls ≠ "java/lang/invoke/MethodHandle" ∧ y.cls ≠ "java/lang/invoke/VarHandle" := by
  simpa using h
theorem am_par {y : MethodName} {n : Nat} (h : (parseMethodDescriptor y.desc).map (fun d => d.parameters.length) = some n) : ∀ sig, parseMethodDescriptor y.desc = some sig → n = sig.parameters.length := by
  intro sig hs
  rw [hs] at h
  exact (Option.some.inj h).symm
theorem ok_callV {ci y n0 idx maxL : Nat} {bytes : ByteArray} {ret : Option FieldType} (hci : ci < 7) (hd : decode cc pc = .ok (.invokevirtual idx, 3)) (h1 : Cond.methodLink own idx (nm y) ∈ am_ws) (h2 : Cond.instanceMethod (nm y) ∈ am_ws) (h3 : Cond.selects (ck_R ci) (nm y) (nm y) ∈ am_ws) (h4 : Cond.code (nm y) bytes maxL ret ∈ am_ws)
    (h5 : ((nm y).cls != "java/lang/invoke/MethodHandle" && (nm y).cls != "java/lang/invoke/VarHandle") = true) (h6 : (parseMethodDescriptor (nm y).desc).map (fun d => d.parameters.length) = some n0) : am_Ok nm D cA B0 sb H00 Th cc own mn [] rt pc (ac_callV ci y (n0 + 1) (pc + 3) am_nohd) := by
  intro ls st M res h
  unfold ac_callV at h
  split at h
  next as r hsp =>
    split at h
    next k rest =>
      split at h
      next c1 hsh =>
        split at h
        next hc1 =>
          obtain ⟨rfl, hr⟩ := hc1
          cases h
          refine ⟨⟨rfl, rfl, rfl⟩, ?_⟩
          intro p l e R s m args below meth c C hml H locs cells slots real hl hR hS hc hs
          obtain ⟨xs, e1, e2, e3⟩ := am_split_spec _ _ _ _ _ hsp
          rw [List.append_nil] at e1
          subst e1
          have hts := C.2.2.2.2.2.1
          obtain ⟨cell, g1, g2, g3⟩ := va_recv C.2.2.2.2.2.2.1.1 (am_one (hR.1 k _ hsh).2) (ck_at c1 hci) (q0 := 0) rfl
          refine ⟨am_invV C.1 C.2.2.2.2.1 (hts _ h1) (hts _ h2) (hts _ h3) (hts _ h4) (am_ne h5) g1 g2 g3 rfl (argsL := rest.map (am_val B0 sb)) (fun sig hs => ?_) ?_ (by rw [C.2.1]; exact hd), ⟨_, hd⟩, by rw [am_cats]; exact hr, ?_⟩
          · rw [List.length_map]
            have := am_par h6 sig hs
            have h9 : rest.length + 1 = n0 + 1 := by rw [← e3]; rfl
            omega
          · show st.map (am_val B0 sb) = _
            rw [e2]
            simp [am_val]
          · intro Q T' x kd cell locs1 cells1 slots1 X _ _ _ hk
            exact am_leave C X hk
        next => cases h
      next => cases h
    next => cases h
  next => cases h
theorem ok_callS {y n0 idx maxL : Nat} {bytes : ByteArray} {ret : Option FieldType} (hd : decode cc pc = .ok (.invokestatic idx, 3)) (h1 : Cond.methodLink own idx (nm y) ∈ am_ws) (h2 : Cond.static (nm y) ∈ am_ws) (h3 : Cond.initialized (nm y).cls ∈ am_ws) (h4 : Cond.code (nm y) bytes maxL ret ∈ am_ws)
    (h5 : ((nm y).cls != "java/lang/invoke/MethodHandle" && (nm y).cls != "java/lang/invoke/VarHandle") = true) (h6 : (parseMethodDescriptor (nm y).desc).map (fun d => d.parameters.length) = some n0) : am_Ok nm D cA B0 sb H00 Th cc own mn [] rt pc (ac_callS y n0 (pc + 3)) := by
  intro ls st M res h
  unfold ac_callS at h
  split at h
  next as r hsp =>
    split at h
    next hr =>
      cases h
      refine ⟨⟨rfl, rfl, rfl⟩, ?_⟩
      intro p l e R s m args below meth c C hml H locs cells slots real hl hR hS hc hs
      obtain ⟨xs, e1, e2, e3⟩ := am_split_spec _ _ _ _ _ hsp
      rw [List.append_nil] at e1
      subst e1
      have hts := C.2.2.2.2.2.1
      refine ⟨am_invS C.1 C.2.2.2.2.1 (hts _ h1) (hts _ h2) (hts _ h3) ?_ (am_ne h5) rfl (argsL := as.map (am_val B0 sb)) (fun sig hs => ?_) ?_ (by rw [C.2.1]; exact hd), ⟨_, hd⟩, by rw [am_cats]; exact hr, ?_⟩
      · obtain ⟨mk, hnamed⟩ := Cond.code_named (hts _ h4)
        obtain ⟨methM, cM, hmethM, -, -, -, -, -, -, hsigM⟩ := Cond.code_spec hnamed (hts _ h4)
        exact ⟨mk, methM, hnamed, hmethM, hsigM⟩
      · rw [List.length_map, e3]
        exact am_par h6 sig hs
      · show st.map (am_val B0 sb) = _
        rw [e2]
        simp
      · intro Q T' x kd cell locs1 cells1 slots1 X _ _ _ hk
        exact am_leave C X hk
    next => cases h
  next => cases h
theorem ok_callSN {y n0 idx maxL : Nat} {bytes : ByteArray} {ret : Option FieldType} {host : String} (hd : decode cc pc = .ok (.invokestatic idx, 3)) (h1 : Cond.methodLinkNest own idx (nm y) host ∈ am_nest) (h2 : Cond.static (nm y) ∈ am_ws) (h3 : Cond.initialized (nm y).cls ∈ am_ws) (h4 : Cond.code (nm y) bytes maxL ret ∈ am_ws)
    (h5 : ((nm y).cls != "java/lang/invoke/MethodHandle" && (nm y).cls != "java/lang/invoke/VarHandle") = true) (h6 : (parseMethodDescriptor (nm y).desc).map (fun d => d.parameters.length) = some n0) : am_Ok nm D cA B0 sb H00 Th cc own mn [] rt pc (ac_callS y n0 (pc + 3)) := by
  intro ls st M res h
  unfold ac_callS at h
  split at h
  next as r hsp =>
    split at h
    next hr =>
      cases h
      refine ⟨⟨rfl, rfl, rfl⟩, ?_⟩
      intro p l e R s m args below meth c C hml H locs cells slots real hl hR hS hc hs
      obtain ⟨xs, e1, e2, e3⟩ := am_split_spec _ _ _ _ _ hsp
      rw [List.append_nil] at e1
      subst e1
      have hts := C.2.2.2.2.2.1
      refine ⟨am_invSN C.1 C.2.2.2.2.1 (va_Nw.use rfl (C.2.2.2.2.2.2.1.2.1 _ h1)) (hts _ h2) (hts _ h3) ?_ (am_ne h5) rfl (argsL := as.map (am_val B0 sb)) (fun sig hs => ?_) ?_ (by rw [C.2.1]; exact hd), ⟨_, hd⟩, by rw [am_cats]; exact hr, ?_⟩
      · obtain ⟨mk, hnamed⟩ := Cond.code_named (hts _ h4)
        obtain ⟨methM, cM, hmethM, -, -, -, -, -, -, hsigM⟩ := Cond.code_spec hnamed (hts _ h4)
        exact ⟨mk, methM, hnamed, hmethM, hsigM⟩
      · rw [List.length_map, e3]
        exact am_par h6 sig hs
      · show st.map (am_val B0 sb) = _
        rw [e2]
        simp
      · intro Q T' x kd cell locs1 cells1 slots1 X _ _ _ hk
        exact am_leave C X hk
    next => cases h
  next => cases h
theorem ok_callI {y n0 idx maxL : Nat} {bytes : ByteArray} (hd : decode cc pc = .ok (.invokespecial idx, 3)) (hin : (nm y).name = "<init>") (h1 : Cond.methodLink own idx (nm y) ∈ am_ws) (h2 : Cond.instanceMethod (nm y) ∈ am_ws) (h4 : Cond.code (nm y) bytes maxL none ∈ am_ws)
    (h5 : ((nm y).cls != "java/lang/invoke/MethodHandle" && (nm y).cls != "java/lang/invoke/VarHandle") = true) (h6 : (parseMethodDescriptor (nm y).desc).map (fun d => d.parameters.length) = some n0) : am_Ok nm D cA B0 sb H00 Th cc own mn [] rt pc (ac_callI y (n0 + 1) (pc + 3)) := by
  intro ls st M res h
  unfold ac_callI at h
  split at h
  next as r hsp =>
    split at h
    next k rest =>
      split at h
      next hr =>
        cases h
        refine ⟨⟨rfl, rfl, rfl⟩, ?_⟩
        intro p l e R s m args below meth c C hml H locs cells slots real hl hR hS hc hs
        obtain ⟨xs, e1, e2, e3⟩ := am_split_spec _ _ _ _ _ hsp
        rw [List.append_nil] at e1
        subst e1
        have hts := C.2.2.2.2.2.1
        refine ⟨am_invI C.1 C.2.2.2.2.1 hin (hts _ h1) (hts _ h2) (hts _ h4) (am_ne h5) rfl (argsL := rest.map (am_val B0 sb)) (fun sig hs => ?_) ?_ (by rw [C.2.1]; exact hd), ⟨_, hd⟩, by rw [am_cats]; exact hr, ?_⟩
        · rw [List.length_map]
          have := am_par h6 sig hs
          have h9 : rest.length + 1 = n0 + 1 := by rw [← e3]; rfl
          omega
        · show st.map (am_val B0 sb) = _
          rw [e2]
          simp [am_val]
        · intro Q T' x kd cell locs1 cells1 slots1 X _ _ _ hk
          exact am_leave C X hk
      next => cases h
    next => cases h
  next => cases h
end CAL
end
section
/-! WHAT THE ABSTRACT MACHINE DOES, THE MACHINE DOES -/
theorem am_args_len : ∀ as : List Value, (lg_sl as).length = (am_args as).length
  | [] => rfl
  | v :: r => by
    have ih := am_args_len r
    have h : lg_sl (v :: r) = (if v.category = 2 then [.val v, .second] else [.val v]) ++ lg_sl r := by simp [lg_sl]
    rw [h, List.length_append, ih]
    cases v <;> simp [Value.category, am_args] <;> omega
theorem am_args_val (B0 : Nat) (sb : Nat → Option Nat) : ∀ as : List Value, (am_args (as.map (am_val B0 sb))).length = (am_args as).length
  | [] => rfl
  | v :: r => by
    have ih := am_args_val B0 sb r
    cases v with
    | retAddr k =>
      show (am_args (va_rf (sb k) :: r.map (am_val B0 sb))).length = (am_args r).length + 1
      rw [← ih]
      cases sb k <;> rfl
    | _ => simp [am_args, am_val, ih]
theorem am_args_at (B0 : Nat) (sb : Nat → Option Nat) : ∀ (as : List Value) (j i : Nat) (v : Value), (am_args as)[i]? = some (some v) → (j + i, am_val B0 sb v) ∈ lv_args j (as.map (am_val B0 sb))
  | [], j, i, v, h => by simp [am_args] at h
  | w :: r, j, i, v, h => by
    have one : w.category = 1 → am_args (w :: r) = some w :: am_args r → (j + i, am_val B0 sb v) ∈ lv_args j ((w :: r).map (am_val B0 sb)) := by
      intro hc e
      rw [e] at h
      rw [List.map_cons]
      unfold lv_args
      rw [am_val_cat, if_neg (by omega)]
      cases i with
      | zero =>
        simp at h
        subst h
        exact List.mem_cons_self
      | succ i =>
        refine List.mem_cons_of_mem _ ?_
        have := am_args_at B0 sb r (j + 1) i v (by simpa using h)
        rw [show j + 1 + i = j + (i + 1) by omega] at this
        exact this
    have two : w.category = 2 → am_args (w :: r) = some w :: none :: am_args r → (j + i, am_val B0 sb v) ∈ lv_args j ((w :: r).map (am_val B0 sb)) := by
      intro hc e
      rw [e] at h
      rw [List.map_cons]
      unfold lv_args
      rw [am_val_cat, if_pos hc]
      cases i with
      | zero =>
        simp at h
        subst h
        exact List.mem_cons_self
      | succ i =>
        cases i with
        | zero => simp at h
        | succ i =>
          refine List.mem_cons_of_mem _ ?_
          have := am_args_at B0 sb r (j + 2) i v (by simpa using h)
          rw [show j + 2 + i = j + (i + 1 + 1) by omega] at this
          exact this
    cases w with
    | long x => exact two rfl rfl
    | double x => exact two rfl rfl
    | _ => exact one rfl rfl
theorem am_ent_len {n : Nat} {as : List Value} (h : (am_args as).length ≤ n) : (am_ent n as).length = n := by
  unfold am_ent
  rw [List.length_append, List.length_replicate]
  omega
theorem am_ent_loc {B0 n : Nat} {sb : Nat → Option Nat} {as : List Value} (h : (am_args as).length ≤ n) : am_Loc B0 sb ((lg_sl (as.map (am_val B0 sb)) ++ List.replicate (n - (lg_sl (as.map (am_val B0 sb))).length) Slot.unset).toArray) (am_ent n as) := by
  have hl := lv_entry (as.map (am_val B0 sb)) (n := n) (by rw [am_args_len, am_args_val]; exact h)
  refine ⟨by rw [am_ent_len h]; exact hl.1, hl.2.1, fun i v hi => ?_⟩
  have : (am_args as)[i]? = some (some v) := by
    unfold am_ent at hi
    by_cases q : i < (am_args as).length
    · rw [List.getElem?_append_left q] at hi
      exact hi
    · rw [List.getElem?_append_right (by omega), List.getElem?_replicate] at hi
      split at hi <;> simp at hi
  have h2 := am_args_at B0 sb as 0 i v this
  rw [Nat.zero_add] at h2
  exact hl.2.2 _ h2
def am_room (d mc ms : Nat) : Room := { frames := d + 20, cells := mc, slots := ms, locals := 64 * d + 512 }
def am_Pc (D : va_G) (cA : Nat → ClassId) (B0 : Nat) (sb : Nat → Option Nat) (H00 : Heap) (Th : State → Prop) (as : List Value) (M : am_M) : Array Value → State → Prop := va_Pc (as.map (am_val B0 sb)) (fun U => am_K D cA Th U ∧ am_Rel D cA B0 sb H00 U M U.heap ∧ B0 ≤ U.heap.size)
/-- a method's data: its words' own code row -/
def am_cw (nm : Nat → MethodName) (cc : Nat → ByteArray) (ml : Nat → Nat) (eh : Nat → List (Nat × Nat × Nat × Nat)) (rt : Nat → Option FieldType) (y : Nat) : Cond := match eh y with
  | [] => .code (nm y) (cc y) (ml y) (rt y)
  | h :: t => .codeWith (nm y) (cc y) (ml y) (rt y) (h :: t)
theorem am_cw_spec {nm : Nat → MethodName} {cc : Nat → ByteArray} {ml : Nat → Nat} {eh : Nat → List (Nat × Nat × Nat × Nat)} {rt : Nat → Option FieldType} {y : Nat} {a : Array Value} {U : State} (h : (am_cw nm cc ml eh rt y).before a U = true) :
    ∃ m meth c, U.methodNamed? (nm y) = some m ∧ U.vm.method? m = some meth ∧ meth.code = some c ∧ c.code = cc y ∧ c.maxLocals = ml y ∧ c.exceptionTable.toList.map (fun h => (h.startPc, h.endPc, h.handlerPc, h.catchType)) = eh y ∧ meth.sig.returnType = rt y ∧ meth.locks = false ∧ parseMethodDescriptor (nm y).desc = some meth.sig := by
  unfold am_cw at h
  split at h
  next he =>
    obtain ⟨mk, hn⟩ := Cond.code_named h
    obtain ⟨meth, c, h1, h2, h3, h4, h5, h6, h7, h8⟩ := Cond.code_spec hn h
    refine ⟨mk, meth, c, hn, h1, h2, h3, h4, ?_, h5, h6, h8⟩
    rw [he]
    have : c.exceptionTable.toList = [] := by
      have h9 : c.exceptionTable = #[] := by simpa using h7
      rw [h9]
    rw [this]
    rfl
  next x t he =>
    obtain ⟨m, meth, c, h1, h2, h3, h4, h5, h6, h7, h8, h9⟩ := Cond.codeWith_spec h
    exact ⟨m, meth, c, h1, h2, h3, h4, h5, by rw [he]; exact h6, h7, h8, h9⟩
section SND
variable {nm : Nat → MethodName} {cc : Nat → ByteArray} {ml : Nat → Nat} {eh : Nat → List (Nat × Nat × Nat × Nat)} {rt : Nat → Option FieldType} {tb : Nat → Nat → Option am_A} {D : va_G} {cA : Nat → ClassId} {B0 : Nat} {sb : Nat → Option Nat} {H00 : Heap} {Th : State → Prop}
def am_Con (nm : Nat → MethodName) (cc : Nat → ByteArray) (ml : Nat → Nat) (eh : Nat → List (Nat × Nat × Nat × Nat)) (rt : Nat → Option FieldType) (D : va_G) (cA : Nat → ClassId) (B0 : Nat) (sb : Nat → Option Nat) (H00 : Heap) (Th : State → Prop) (l : Launch) (d y : Nat) (as : List Value) (M : am_M) (o : am_O) (M' : am_M) : Prop :=
  am_Met l (nm y) (am_cw nm cc ml eh rt y :: am_ws) (am_room d (am_cn M' - am_cn M) (am_sn M' - am_sn M)) (am_Pc D cA B0 sb H00 Th as M) (am_Qc D cA B0 sb H00 o M') (am_cn M' - am_cn M) (am_sn M' - am_sn M) (am_A0 B0)
theorem am_K_moved (hTh : ∀ (s U : State), s.WarmedH U.vm → Th s → Th U) {s U : State} (hW : s.WarmedH U.vm) (h : am_K D cA Th s) : am_K D cA Th U := by
  obtain ⟨h1, h2, h3, h4, h5⟩ := h
  refine ⟨va_K.moved hW.alike h1, fun w hw => ?_, va_AO.moved hW.alike h3, va_AO.moved hW.alike h4, hTh s U hW h5⟩
  have h9 := h2 w hw
  unfold am_nest at hw
  rcases List.mem_cons.mp hw with rfl | hw
  · exact va_Nw.warmM hW h9
  · rcases List.mem_cons.mp hw with rfl | hw
    · exact va_Nw.warmM hW h9
    · cases hw
theorem am_Pc_blind (hTh : ∀ (s U : State), s.WarmedH U.vm → Th s → Th U) (as : List Value) (M : am_M) : FrameBlind (am_Pc D cA B0 sb H00 Th as M) := by
  intro a U g mk h
  obtain ⟨e, hK, hR, hB⟩ := h
  exact ⟨e, am_K_moved (s := U) (U := U.calling g mk a) hTh (State.WarmedH.refl U) hK, am_Rel_moved (s := U) (U := U.calling g mk a) (Vm.Alike.refl U.vm) hR, hB⟩
/-- what is made only grows -/
theorem am_up {callee : Nat → List Value → am_M → am_O → am_M → Prop} {y : Nat} (hok : ∀ pc a, tb y pc = some a → am_Ok nm D cA B0 sb H00 Th (cc y) (nm y).cls (nm y).name (eh y) (rt y) pc a) (hcal : ∀ y as M o M', callee y as M o M' → am_Up M M') : ∀ (k : Nat) (F : am_F) (o : am_O) (M' : am_M), am_wp callee (tb y) k F (fun o1 M1 => o1 = o ∧ M1 = M') → am_Up F.2.2.2 M'
  | 0, _, _, _, h => False.elim h
  | k + 1, F, o, M', h => by
    unfold am_wp at h
    split at h
    · exact False.elim h
    next a ha =>
    split at h
    · exact False.elim h
    · next G hG =>
      have h1 := (hok _ _ ha _ _ _ _ hG).1.1
      have h2 := am_up hok hcal k G o M' h
      exact ⟨Nat.le_trans h1.1 h2.1, Nat.le_trans h1.2 h2.2⟩
    · next c G hG =>
      have h1 := (hok _ _ ha _ _ _ _ hG).1.1
      have h2 := am_up hok hcal k G o M' h.2
      exact ⟨Nat.le_trans h1.1 h2.1, Nat.le_trans h1.2 h2.2⟩
    · next c t G hG =>
      have h1 := (hok _ _ ha _ _ _ _ hG).1.1
      by_cases e : c
      · have h2 := am_up hok hcal k _ o M' (h.1 e)
        rw [← h1]; exact h2
      · have h2 := am_up hok hcal k _ o M' (h.2 e)
        rw [← h1]; exact h2
    · next sw x G hG =>
      have h1 := (hok _ _ ha _ _ _ _ hG).1.1
      obtain ⟨t, h3, -⟩ := am_swp_one sw h
      have h2 := am_up hok hcal k _ o M' h3
      rw [← h1]; exact h2
    · next y1 as hd G hG =>
      have h1 := (hok _ _ ha _ _ _ _ hG).1.1
      obtain ⟨o1, M1, hc, hk⟩ := h
      have h2 := hcal _ _ _ _ _ hc
      rw [h1] at h2
      cases o1 with
      | inl v =>
        have h3 := am_up hok hcal k _ o M' hk
        exact ⟨Nat.le_trans h2.1 h3.1, Nat.le_trans h2.2 h3.2⟩
      | inr x =>
        dsimp only at hk
        cases hh : hd x with
        | none =>
          rw [hh] at hk
          rw [← hk.2]
          exact h2
        | some h' =>
          rw [hh] at hk
          have h3 := am_up hok hcal k _ o M' hk
          exact ⟨Nat.le_trans h2.1 h3.1, Nat.le_trans h2.2 h3.2⟩
    · next c o1 M1 hG =>
      have h1 := (hok _ _ ha _ _ _ _ hG).1
      rw [← h.2.2]
      exact h1
end SND
end
section
/-! the walk, and the contracts by depth -/
section WLK
variable {nm : Nat → MethodName} {cc : Nat → ByteArray} {ml : Nat → Nat} {eh : Nat → List (Nat × Nat × Nat × Nat)} {rt : Nat → Option FieldType} {tb : Nat → Nat → Option am_A} {D : va_G} {cA : Nat → ClassId} {B0 : Nat} {sb : Nat → Option Nat} {H00 : Heap} {Th : State → Prop}
theorem am_wk_f {d x y : Nat} (h : d + 21 ≤ y) (e : x = d + 20) : x + 1 ≤ y := by omega
theorem am_wk_l {d m x y : Nat} (h : 64 * (d + 1) + 512 ≤ y) (hm : m ≤ 45) (e : x = 64 * d + 512) : 8 + (m + 11) + x ≤ y := by omega
theorem am_MQ_eq {below : List Frame} {Qc : Array Value → State → Outcome → State → Prop} {a : Array Value} {s : State} {mc ms mc' ms' : Nat} {free : Addr → Prop} (h1 : mc = mc') (h2 : ms = ms') {t : State} (h : am_MQ below Qc a s mc ms free t) : am_MQ below Qc a s mc' ms' free t := by
  subst h1; subst h2; exact h
set_option maxHeartbeats 2000000 in
theorem am_walk {l : Launch} {d : Nat} {callee : Nat → List Value → am_M → am_O → am_M → Prop} {y : Nat} (hTh : ∀ (s U : State), s.WarmedH U.vm → Th s → Th U)
    (hok : ∀ pc a, tb y pc = some a → am_Ok nm D cA B0 sb H00 Th (cc y) (nm y).cls (nm y).name (eh y) (rt y) pc a)
    (hcal : ∀ y as M o M', callee y as M o M' → am_Up M M' ∧ am_Con nm cc ml eh rt D cA B0 sb H00 Th l d y as M o M' ∧ am_cw nm cc ml eh rt y ∈ am_ws ∧ Cond.initialized (nm y).cls ∈ am_ws ∧ ml y ≤ 45)
    {p : Program} {e : Env} {R : Room} {s : State} {m : MethodId} {args : Array Value} {below : List Frame} {meth : Method} {c : Code} (C : am_Cx D cA B0 Th (cc y) (nm y).cls (nm y).name (eh y) (rt y) p l R s m args meth c) (hRf : d + 21 ≤ R.frames) (hRl : 64 * (d + 1) + 512 ≤ R.locals) (o : am_O) (M' : am_M) :
    ∀ (k : Nat) (F : am_F), am_wp callee (tb y) k F (fun o1 M1 => o1 = o ∧ M1 = M') → F.2.1.length = c.maxLocals → ∀ (H : Heap) (locs : List Loc) (cells slots : Nat) (real : Array Slot), am_Loc B0 sb real F.2.1 → am_Rel D cA B0 sb H00 s F.2.2.2 H → va_S (am_A0 B0) s.heap H locs → cells + (am_cn M' - am_cn F.2.2.2) ≤ R.cells → slots + (am_sn M' - am_sn F.2.2.2) ≤ R.slots →
      am_Wk B0 sb p l e R s m args below meth c H locs cells slots (am_MQ below (am_Qc D cA B0 sb H00 o M') args s (cells + (am_cn M' - am_cn F.2.2.2)) (slots + (am_sn M' - am_sn F.2.2.2)) (am_A0 B0)) F.1 real F.2.2.1
  | 0, _, h => False.elim h
  | k + 1, F, h => by
    have IH := am_walk (l := l) (d := d) (e := e) (below := below) hTh hok hcal C hRf hRl o M' k
    have UP := am_up hok (fun y as M o M' h => (hcal y as M o M' h).1) k
    intro hlen H locs cells slots real hl hR hS hcc hss
    have hc0 : cells ≤ R.cells := by omega
    have hs0 : slots ≤ R.slots := by omega
    unfold am_wp at h
    split at h
    · exact False.elim h
    next a ha =>
    split at h
    · exact False.elim h
    · next G hG =>
      obtain ⟨⟨h1, h1l⟩, h2⟩ := hok _ _ ha _ _ _ _ hG
      have h3 := UP G o M' h
      refine h2 p l e R s m args below meth c C hlen H locs cells slots real hl hR hS hc0 hs0 _ ⟨by have := h1.1; have := h3.1; omega, by have := h1.2; have := h3.2; omega, fun H1 locs1 real1 hl1 hR1 hS1 => ?_⟩
      have h4 := IH G h (h1l.trans hlen) H1 locs1 (cells + (am_cn G.2.2.2 - am_cn F.2.2.2)) (slots + (am_sn G.2.2.2 - am_sn F.2.2.2)) real1 hl1 hR1 hS1 (by have := h1.1; have := h3.1; omega) (by have := h1.2; have := h3.2; omega)
      exact am_W_mono (fun t ht => am_MQ_eq (by have := h1.1; have := h3.1; omega) (by have := h1.2; have := h3.2; omega) ht) h4
    · next cd G hG =>
      obtain ⟨⟨h1, h1l⟩, h2⟩ := hok _ _ ha _ _ _ _ hG
      have h3 := UP G o M' h.2
      refine h2 p l e R s m args below meth c C hlen H locs cells slots real hl hR hS hc0 hs0 h.1 _ ⟨by have := h1.1; have := h3.1; omega, by have := h1.2; have := h3.2; omega, fun H1 locs1 real1 hl1 hR1 hS1 => ?_⟩
      have h4 := IH G h.2 (h1l.trans hlen) H1 locs1 (cells + (am_cn G.2.2.2 - am_cn F.2.2.2)) (slots + (am_sn G.2.2.2 - am_sn F.2.2.2)) real1 hl1 hR1 hS1 (by have := h1.1; have := h3.1; omega) (by have := h1.2; have := h3.2; omega)
      exact am_W_mono (fun t ht => am_MQ_eq (by have := h1.1; have := h3.1; omega) (by have := h1.2; have := h3.2; omega) ht) h4
    · next cd t G hG =>
      obtain ⟨⟨h1, h1l⟩, h2⟩ := hok _ _ ha _ _ _ _ hG
      refine h2 p l e R s m args below meth c C hlen H locs cells slots real hl hR hS hc0 hs0 _ (fun hcd => ?_) (fun hcd => ?_)
      · have h4 := IH (t, G.2) (h.1 hcd) (by show G.2.1.length = _; rw [h1l]; exact hlen) H locs cells slots real (by show am_Loc B0 sb real G.2.1; rw [h1l]; exact hl) (by show am_Rel D cA B0 sb H00 s G.2.2.2 H; rw [h1]; exact hR) hS (by show cells + (am_cn M' - am_cn G.2.2.2) ≤ _; rw [h1]; exact hcc) (by show slots + (am_sn M' - am_sn G.2.2.2) ≤ _; rw [h1]; exact hss)
        dsimp only at h4
        rw [h1] at h4
        exact h4
      · have h4 := IH G (h.2 hcd) (by rw [h1l]; exact hlen) H locs cells slots real (by rw [h1l]; exact hl) (by rw [h1]; exact hR) hS (by rw [h1]; exact hcc) (by rw [h1]; exact hss)
        rw [h1] at h4
        exact h4
    · next sw x G hG =>
      obtain ⟨⟨h1, h1l⟩, h2⟩ := hok _ _ ha _ _ _ _ hG
      refine h2 p l e R s m args below meth c C hlen H locs cells slots real hl hR hS hc0 hs0 _ (am_swp_mono (fun t ht => ?_) sw h)
      have h4 := IH (t, G.2) ht (by show G.2.1.length = _; rw [h1l]; exact hlen) H locs cells slots real (by show am_Loc B0 sb real G.2.1; rw [h1l]; exact hl) (by show am_Rel D cA B0 sb H00 s G.2.2.2 H; rw [h1]; exact hR) hS (by show cells + (am_cn M' - am_cn G.2.2.2) ≤ _; rw [h1]; exact hcc) (by show slots + (am_sn M' - am_sn G.2.2.2) ≤ _; rw [h1]; exact hss)
      dsimp only at h4
      rw [h1] at h4
      exact h4
    · next y1 as hd G hG =>
      obtain ⟨⟨h1, h1l, hpc⟩, h2⟩ := hok _ _ ha _ _ _ _ hG
      obtain ⟨o1, M1, hcl, hk⟩ := h
      obtain ⟨hup, hcon, hcw, hini, hml⟩ := hcal _ _ _ _ _ hcl
      rw [h1] at hup hcon
      obtain ⟨hI, ⟨ig, hdg⟩, hcat, hexc⟩ := h2 p l e R s m args below meth c C hlen H locs cells slots real hl hR hS hc0 hs0
      have hts := C.2.2.2.2.2.1
      have hK := C.2.2.2.2.2.2.1
      have upk : am_Up M1 M' := by
        cases o1 with
        | inl v => exact UP _ o M' hk
        | inr x =>
          dsimp only at hk
          cases hh : hd x with
          | none => rw [hh] at hk; rw [← hk.2]; exact ⟨Nat.le_refl _, Nat.le_refl _⟩
          | some h' => rw [hh] at hk; exact UP _ o M' hk
      have hback : am_BackX l R p e below s args (nm y1) 3 8 (PreOf R (am_cn M1 - am_cn F.2.2.2) (am_sn M1 - am_sn F.2.2.2) (am_Pc D cA B0 sb H00 Th as F.2.2.2)) (am_PostOf (am_Qc D cA B0 sb H00 o1 M1) (am_cn M1 - am_cn F.2.2.2) (am_sn M1 - am_sn F.2.2.2) (am_A0 B0)) := by
        have hgood : ∀ w ∈ am_ws, ∀ (a' : Array Value) (U : State), s.WarmedH U.vm → w.before a' U = true := fun w hw a' U hW => word_at hW (good_of_word (List.mem_filter.mp hw).2) (hts w hw)
        refine am_back_of (maxL := ml y1) hcon (am_Pc_blind hTh as _) rfl rfl (am_wk_f hRf rfl) (am_wk_l hRl hml rfl) (fun w hw => ?_) (fun U mk hW hn => ?_) (fun a' U hW => hgood _ hini a' U hW)
        · rcases List.mem_cons.mp hw with rfl | hw
          · exact hgood _ hcw
          · exact hgood w hw
        · obtain ⟨m9, meth9, c9, q1, q2, q3, q4, q5, -⟩ := am_cw_spec (hgood _ hcw #[] U hW)
          cases hn.symm.trans q1
          exact ⟨meth9, c9, q2, q3, q5⟩
      have hPc : ∀ U : State, U.heap = H → s.WarmedH U.vm → am_Pc D cA B0 sb H00 Th as F.2.2.2 (as.map (am_val B0 sb)).toArray U := by
        intro U hU hW
        refine ⟨rfl, am_K_moved hTh hW hK, ?_, ?_⟩
        · rw [hU]; exact am_Rel_moved hW.alike hR
        · rw [hU]; have := hS.1; have := C.2.2.2.2.2.2.2.1; omega
      refine am_wcall hI hback rfl (by show real.size = _; rw [hl.1]; exact hlen) (by rw [C.2.1]; exact hdg) (by show 2 * 0 + _ ≤ 8; omega) ⟨by have := hup.1; have := upk.1; omega, by have := hup.2; have := upk.2; omega⟩ hPc ?_ ?_
      · intro v st₀ t T' L hst X hL e1 e2 hq
        obtain ⟨hoc, hR1, hF⟩ := hq
        cases o1 with
        | inr x =>
          obtain ⟨_, _, hz, -⟩ := hoc
          cases hz
        | inl v1 =>
          have hv : v = v1.map (am_val B0 sb) := Outcome.returned.inj hoc
          subst hv
          have hal : t.vm.Alike s.vm := by rw [← e2]; exact X.warmed.alike.symm
          have hR2 : am_Rel D cA B0 sb H00 s M1 T'.heap := by rw [e1]; exact am_Rel_moved hal hR1
          have hS2 : va_S (am_A0 B0) s.heap T'.heap (locs ++ L) := by
            refine ⟨?_, fun q h1 h2 => ?_, fun q hq => ?_⟩
            · have := hF.1; rw [hst] at this; rw [e1]; have := hS.1; omega
            · have h9 := hS.1
              rw [e1, hF.2 q (by rw [hst]; omega) h2, hst]
              exact hS.2.1 q h1 h2
            · rcases List.mem_append.mp hq with h | h
              · exact hS.2.2 q h
              · exact hL q h
          have h4 := IH (G.1, G.2.1, v1.toList ++ G.2.2.1, M1) hk (by show G.2.1.length = _; rw [h1l]; exact hlen) T'.heap (locs ++ L) (cells + (am_cn M1 - am_cn F.2.2.2)) (slots + (am_sn M1 - am_sn F.2.2.2)) real (by show am_Loc B0 sb real G.2.1; rw [h1l]; exact hl) hR2 hS2 (by show _ + (am_cn M' - am_cn M1) ≤ _; have := hup.1; have := upk.1; omega) (by show _ + (am_sn M' - am_sn M1) ≤ _; have := hup.2; have := upk.2; omega)
          obtain ⟨u, a1, b1⟩ := h4 T' rfl X
          refine ⟨u, ?_, am_MQ_eq (by show _ + (am_cn M' - am_cn M1) = _; have := hup.1; have := upk.1; omega) (by show _ + (am_sn M' - am_sn M1) = _; have := hup.2; have := upk.2; omega) b1⟩
          have e9 : (v1.map (am_val B0 sb)).toList ++ G.2.2.1.map (am_val B0 sb) = (v1.toList ++ G.2.2.1).map (am_val B0 sb) := by cases v1 <;> simp
          show Steps p.tables e below (T'.setTop (F0 m (F.1 + 3) real ((v1.map (am_val B0 sb)).toList ++ G.2.2.1.map (am_val B0 sb)))) u
          rw [e9, ← hpc]
          exact a1
      · intro x st₀ t T' L hst X hL e1 e2 hq
        obtain ⟨hoc, hR1, hF⟩ := hq
        cases o1 with
        | inl v1 => cases hoc
        | inr kd =>
          obtain ⟨x', cell, hz, g1, g2, g3⟩ := hoc
          cases hz
          have hal : t.vm.Alike s.vm := by rw [← e2]; exact X.warmed.alike.symm
          have hR2 : am_Rel D cA B0 sb H00 s M1 T'.heap := by rw [e1]; exact am_Rel_moved hal hR1
          have hS2 : va_S (am_A0 B0) s.heap T'.heap (locs ++ L) := by
            refine ⟨?_, fun q h1 h2 => ?_, fun q hq => ?_⟩
            · have := hF.1; rw [hst] at this; rw [e1]; have := hS.1; omega
            · have h9 := hS.1
              rw [e1, hF.2 q (by rw [hst]; omega) h2, hst]
              exact hS.2.1 q h1 h2
            · rcases List.mem_append.mp hq with h | h
              · exact hS.2.2 q h
              · exact hL q h
          have g3' : s.vm.findClass (am_exn kd) = some cell.cls := by rw [hal.findClass]; exact g3
          refine hexc _ T' x kd cell _ _ _ X (by rw [e1]; exact g1) g2 g3' ?_
          dsimp only at hk
          cases hh : hd kd with
          | none =>
            rw [hh] at hk
            dsimp only
            obtain ⟨hko, hkM⟩ := hk
            subst hkM
            subst hko
            intro vm9 X9
            obtain ⟨g₀, hfr⟩ := X9.frames_eq
            refine ⟨_, Steps.refl _, .threw x, X9.here.running, State.frames_setFrames _ (State.cur_lt_of_frames hfr), ⟨⟨x, cell, rfl, by show T'.heap[x]? = _; rw [e1]; exact g1, g2, by show vm9.findClass _ = _; rw [show vm9.findClass (am_exn kd) = s.vm.findClass (am_exn kd) from X9.warmed.alike.findClass _ _]; exact g3'⟩, ?_, ?_⟩, locs ++ L, X9.ends _, hS2.2.2⟩
            · show am_Rel D cA B0 sb H00 ((T'.setVm vm9).setFrames _) M1 T'.heap
              exact am_Rel_moved (s := s) X9.warmed.alike hR2
            · exact ⟨hS2.1, hS2.2.1⟩
          | some h' =>
            rw [hh] at hk
            dsimp only
            intro real1 hl1
            have h4 := IH (h'.1, am_kl G.2.1 h'.2, [], M1) hk (by show (am_kl G.2.1 h'.2).length = _; unfold am_kl; rw [List.length_set, am_st1_len, h1l]; exact hlen) T'.heap (locs ++ L) (cells + (am_cn M1 - am_cn F.2.2.2)) (slots + (am_sn M1 - am_sn F.2.2.2)) real1 (by show am_Loc B0 sb real1 (am_kl G.2.1 h'.2); rw [h1l]; exact hl1) hR2 hS2 (by show _ + (am_cn M' - am_cn M1) ≤ _; have := hup.1; have := upk.1; omega) (by show _ + (am_sn M' - am_sn M1) ≤ _; have := hup.2; have := upk.2; omega)
            intro T9 hT9 X9
            obtain ⟨u, a1, b1⟩ := h4 T9 hT9 X9
            exact ⟨u, a1, am_MQ_eq (by show _ + (am_cn M' - am_cn M1) = _; have := hup.1; have := upk.1; omega) (by show _ + (am_sn M' - am_sn M1) = _; have := hup.2; have := upk.2; omega) b1⟩
    · next cd o1 M1 hG =>
      obtain ⟨h1, h2⟩ := hok _ _ ha _ _ _ _ hG
      obtain ⟨hcd, rfl, rfl⟩ := h
      exact h2 p l e R s m args below meth c C hlen H locs cells slots real hl hR hS hc0 hs0 hcd hcc hss
end WLK
end
section
/-! THE CONTRACTS: every run of the abstract machine is a run of the machine -/
section SN2
variable {nm : Nat → MethodName} {cc : Nat → ByteArray} {ml : Nat → Nat} {eh : Nat → List (Nat × Nat × Nat × Nat)} {rt : Nat → Option FieldType} {tb : Nat → Nat → Option am_A} {D : va_G} {cA : Nat → ClassId} {B0 : Nat} {sb : Nat → Option Nat} {H00 : Heap} {Th : State → Prop}
theorem am_wp_tb {callee : Nat → List Value → am_M → am_O → am_M → Prop} {tbl : Nat → Option am_A} {k : Nat} {F : am_F} {Q : am_O → am_M → Prop} (h : am_wp callee tbl k F Q) : ∃ a, tbl F.1 = some a := by
  cases k with
  | zero => exact False.elim h
  | succ k =>
    unfold am_wp at h
    split at h
    · exact False.elim h
    next a ha => exact ⟨a, ha⟩
set_option maxHeartbeats 1000000 in
theorem am_sound (l : Launch) (hfl : l.flags = pinnedFlags ++ [noTraceFlag]) (hTh : ∀ (s U : State), s.WarmedH U.vm → Th s → Th U)
    (hok : ∀ y pc a, tb y pc = some a → am_Ok nm D cA B0 sb H00 Th (cc y) (nm y).cls (nm y).name (eh y) (rt y) pc a)
    (hV : ∀ y pc a, tb y pc = some a → am_cw nm cc ml eh rt y ∈ am_ws ∧ Cond.initialized (nm y).cls ∈ am_ws ∧ ml y ≤ 45 ∧ plainName (nm y).cls = true) :
    ∀ (d y : Nat) (as : List Value) (M : am_M) (o : am_O) (M' : am_M), am_ev tb ml d y as M o M' → am_Up M M' ∧ am_Con nm cc ml eh rt D cA B0 sb H00 Th l d y as M o M' ∧ am_cw nm cc ml eh rt y ∈ am_ws ∧ Cond.initialized (nm y).cls ∈ am_ws ∧ ml y ≤ 45
  | 0, _, _, _, _, _, h => False.elim h
  | d + 1, y, as, M, o, M', h => by
    have IH := am_sound l hfl hTh hok hV d
    obtain ⟨hlen, k, hwp⟩ := h
    obtain ⟨a0, ha0⟩ := am_wp_tb hwp
    obtain ⟨hcw, hini, hml, hpl⟩ := hV y _ a0 ha0
    refine ⟨am_up (hok y) (fun y as M o M' h => (IH y as M o M' h).1) k _ o M' hwp, ?_, hcw, hini, hml⟩
    unfold am_Con am_Met
    refine MetFree.of_bodyS (code := cc y) (maxLocals := ml y) (ret := rt y) hpl ?_ ?_
    · intro args s m h hn
      obtain ⟨m9, meth9, c9, q1, q2, q3, q4, q5, q6, q7, q8, q9⟩ := am_cw_spec (atoms_spec (ws := am_cw nm cc ml eh rt y :: am_ws) h _ List.mem_cons_self)
      cases hn.symm.trans q1
      exact ⟨meth9, c9, q2, q3, q4, q5, q7, q8⟩
    · intro p e s m args below meth c s₁ B hml0 hP _
      obtain ⟨rfl, hK, hR, hB⟩ := hP
      have hts0 := atoms_spec (ws := am_cw nm cc ml eh rt y :: am_ws) B.pre
      obtain ⟨m9, meth9, c9, q1, q2, q3, q4, q5, q6, q7, q8, q9⟩ := am_cw_spec (hts0 _ List.mem_cons_self)
      cases B.named.symm.trans q1
      cases B.method.symm.trans q2
      cases (Stand.of_body B).code.symm.trans q3
      have C : am_Cx D cA B0 Th (cc y) (nm y).cls (nm y).name (eh y) (rt y) p l (headSpec (am_cw nm cc ml eh rt y :: am_ws) (am_room (d + 1) (am_cn M' - am_cn M) (am_sn M' - am_sn M))).room s m ((as.map (am_val B0 sb)).toArray) meth c :=
        ⟨B.exec, q4, q7, q8, findClass_of_methodNamed B.named, fun w hw => hts0 w (List.mem_cons_of_mem _ hw), hK, hB, by show 16 ≤ d + 1 + 20; omega, by show 256 ≤ 64 * (d + 1) + 512; omega, (name_of_methodNamed B.named B.method).1, q6, hfl⟩
      have hh0 : s₁.heap = s.heap := by rw [B.state]; rfl
      have hW := am_walk (l := l) (d := d) (e := e) (below := below) hTh (hok y) IH C (by show d + 21 ≤ d + 1 + 20; omega) (Nat.le_refl _) o M' k (0, am_ent (ml y) as, [], M) hwp (by show (am_ent (ml y) as).length = _; rw [am_ent_len hlen, q5]) s.heap [] 0 0 _ (am_ent_loc hlen) hR va_S.rf (Nat.le_of_eq (Nat.zero_add _)) (Nat.le_of_eq (Nat.zero_add _))
      dsimp only at hW
      rw [Nat.zero_add, Nat.zero_add] at hW
      have X₀ := Stand.of_body B
      obtain ⟨t, a1, o1, b1, b2, b3⟩ := hW s₁ hh0 X₀
      refine ⟨t, o1, ?_, b1, b2, b3⟩
      have e0 := lg_entry_eq m (as.map (am_val B0 sb)) (ml y)
      have e1 : F0 m 0 ((lg_sl (as.map (am_val B0 sb)) ++ List.replicate (ml y - (lg_sl (as.map (am_val B0 sb))).length) Slot.unset).toArray) (([] : List Value).map (am_val B0 sb)) = entryFrame m (as.map (am_val B0 sb)).toArray (ml y) := e0.symm
      rw [e1] at a1
      exact a1
end SN2
end
