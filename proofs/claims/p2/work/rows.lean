section
-- ===== PART A: goes FIRST, ahead of the names: the tables' words, and 'selects' of the private methods out of them =====
/-- a private method of a class that the tables say can be made, by its rows of tables_1 -/
def lw_okq (q : MethodName × Nat) : Prop := (q.1.cls ≠ "java/lang/invoke/MethodHandle" ∧ q.1.cls ≠ "java/lang/invoke/VarHandle") ∧ Cond.instantiable q.1.cls q.2 ∈ tables_1 ∧ Cond.privateMethod q.1 ∈ tables_1 ∧ Cond.instanceMethod q.1 ∈ tables_1
theorem lw_p0 : lw_okq (⟨"GuardedMoves$TextReader", "nextByte", "()I"⟩, 9) := ⟨⟨by decide +kernel, by decide +kernel⟩, List.mem_of_getElem? (i := 30) (by decide +kernel), List.mem_of_getElem? (i := 263) (by decide +kernel), List.mem_of_getElem? (i := 264) (by decide +kernel)⟩
theorem lw_p1 : lw_okq (⟨"GuardedMoves$TextReader", "refuse", "(I)Z"⟩, 9) := ⟨⟨by decide +kernel, by decide +kernel⟩, List.mem_of_getElem? (i := 30) (by decide +kernel), List.mem_of_getElem? (i := 267) (by decide +kernel), List.mem_of_getElem? (i := 268) (by decide +kernel)⟩
theorem lw_p2 : lw_okq (⟨"GuardedMoves$TextReader", "closeSide", "()Z"⟩, 9) := ⟨⟨by decide +kernel, by decide +kernel⟩, List.mem_of_getElem? (i := 30) (by decide +kernel), List.mem_of_getElem? (i := 271) (by decide +kernel), List.mem_of_getElem? (i := 272) (by decide +kernel)⟩
theorem lw_p3 : lw_okq (⟨"GuardedMoves$TextReader", "takeStatement", "(I)Z"⟩, 9) := ⟨⟨by decide +kernel, by decide +kernel⟩, List.mem_of_getElem? (i := 30) (by decide +kernel), List.mem_of_getElem? (i := 275) (by decide +kernel), List.mem_of_getElem? (i := 276) (by decide +kernel)⟩
theorem lw_p4 : lw_okq (⟨"GuardedMoves$TextReader", "takeWrite", "(I)Z"⟩, 9) := ⟨⟨by decide +kernel, by decide +kernel⟩, List.mem_of_getElem? (i := 30) (by decide +kernel), List.mem_of_getElem? (i := 286) (by decide +kernel), List.mem_of_getElem? (i := 287) (by decide +kernel)⟩
theorem lw_p5 : lw_okq (⟨"GuardedMoves$TextReader", "takeValue", "(I)Z"⟩, 9) := ⟨⟨by decide +kernel, by decide +kernel⟩, List.mem_of_getElem? (i := 30) (by decide +kernel), List.mem_of_getElem? (i := 290) (by decide +kernel), List.mem_of_getElem? (i := 291) (by decide +kernel)⟩
theorem lw_p6 : lw_okq (⟨"GuardedMoves$TextReader", "takeNumber", "(IZ)Z"⟩, 9) := ⟨⟨by decide +kernel, by decide +kernel⟩, List.mem_of_getElem? (i := 30) (by decide +kernel), List.mem_of_getElem? (i := 301) (by decide +kernel), List.mem_of_getElem? (i := 302) (by decide +kernel)⟩
theorem lw_p7 : lw_okq (⟨"GuardedMoves$TextReader", "takeByte", "(I)Z"⟩, 9) := ⟨⟨by decide +kernel, by decide +kernel⟩, List.mem_of_getElem? (i := 30) (by decide +kernel), List.mem_of_getElem? (i := 310) (by decide +kernel), List.mem_of_getElem? (i := 311) (by decide +kernel)⟩
theorem lw_p8 : lw_okq (⟨"GuardedMoves$TextReader", "takeTelling", "(I)Z"⟩, 9) := ⟨⟨by decide +kernel, by decide +kernel⟩, List.mem_of_getElem? (i := 30) (by decide +kernel), List.mem_of_getElem? (i := 314) (by decide +kernel), List.mem_of_getElem? (i := 315) (by decide +kernel)⟩
theorem lw_p9 : lw_okq (⟨"GuardedMoves$TextReader", "takeBranch", "(I)Z"⟩, 9) := ⟨⟨by decide +kernel, by decide +kernel⟩, List.mem_of_getElem? (i := 30) (by decide +kernel), List.mem_of_getElem? (i := 318) (by decide +kernel), List.mem_of_getElem? (i := 319) (by decide +kernel)⟩
theorem lw_p10 : lw_okq (⟨"GuardedMoves$TextReader", "takeSetting", "(I)Z"⟩, 9) := ⟨⟨by decide +kernel, by decide +kernel⟩, List.mem_of_getElem? (i := 30) (by decide +kernel), List.mem_of_getElem? (i := 374) (by decide +kernel), List.mem_of_getElem? (i := 375) (by decide +kernel)⟩
theorem lw_p11 : lw_okq (⟨"GuardedMoves$Code", "findUseless", "()V"⟩, 7) := ⟨⟨by decide +kernel, by decide +kernel⟩, List.mem_of_getElem? (i := 136) (by decide +kernel), List.mem_of_getElem? (i := 396) (by decide +kernel), List.mem_of_getElem? (i := 397) (by decide +kernel)⟩
theorem lw_p12 : lw_okq (⟨"GuardedMoves$Code", "mayGo", "(I)Z"⟩, 7) := ⟨⟨by decide +kernel, by decide +kernel⟩, List.mem_of_getElem? (i := 136) (by decide +kernel), List.mem_of_getElem? (i := 400) (by decide +kernel), List.mem_of_getElem? (i := 401) (by decide +kernel)⟩
theorem lw_p13 : lw_okq (⟨"GuardedMoves$Code", "markTaken", "(I)V"⟩, 7) := ⟨⟨by decide +kernel, by decide +kernel⟩, List.mem_of_getElem? (i := 136) (by decide +kernel), List.mem_of_getElem? (i := 407) (by decide +kernel), List.mem_of_getElem? (i := 408) (by decide +kernel)⟩
theorem lw_p14 : lw_okq (⟨"GuardedMoves$Code", "shift", "(II)V"⟩, 7) := ⟨⟨by decide +kernel, by decide +kernel⟩, List.mem_of_getElem? (i := 136) (by decide +kernel), List.mem_of_getElem? (i := 415) (by decide +kernel), List.mem_of_getElem? (i := 416) (by decide +kernel)⟩
theorem lw_p15 : lw_okq (⟨"GuardedMoves$Code", "isJump", "(I)Z"⟩, 7) := ⟨⟨by decide +kernel, by decide +kernel⟩, List.mem_of_getElem? (i := 136) (by decide +kernel), List.mem_of_getElem? (i := 419) (by decide +kernel), List.mem_of_getElem? (i := 420) (by decide +kernel)⟩
def lw_privs_1 : List (MethodName × Nat) := [(⟨"GuardedMoves$TextReader", "nextByte", "()I"⟩, 9), (⟨"GuardedMoves$TextReader", "refuse", "(I)Z"⟩, 9), (⟨"GuardedMoves$TextReader", "closeSide", "()Z"⟩, 9), (⟨"GuardedMoves$TextReader", "takeStatement", "(I)Z"⟩, 9), (⟨"GuardedMoves$TextReader", "takeWrite", "(I)Z"⟩, 9), (⟨"GuardedMoves$TextReader", "takeValue", "(I)Z"⟩, 9), (⟨"GuardedMoves$TextReader", "takeNumber", "(IZ)Z"⟩, 9), (⟨"GuardedMoves$TextReader", "takeByte", "(I)Z"⟩, 9), (⟨"GuardedMoves$TextReader", "takeTelling", "(I)Z"⟩, 9), (⟨"GuardedMoves$TextReader", "takeBranch", "(I)Z"⟩, 9), (⟨"GuardedMoves$TextReader", "takeSetting", "(I)Z"⟩, 9), (⟨"GuardedMoves$Code", "findUseless", "()V"⟩, 7), (⟨"GuardedMoves$Code", "mayGo", "(I)Z"⟩, 7), (⟨"GuardedMoves$Code", "markTaken", "(I)V"⟩, 7), (⟨"GuardedMoves$Code", "shift", "(II)V"⟩, 7), (⟨"GuardedMoves$Code", "isJump", "(I)Z"⟩, 7)]
theorem lw_r1 : ∀ q ∈ lw_privs_1, lw_okq q := List.forall_mem_cons.mpr ⟨lw_p0, List.forall_mem_cons.mpr ⟨lw_p1, List.forall_mem_cons.mpr ⟨lw_p2, List.forall_mem_cons.mpr ⟨lw_p3, List.forall_mem_cons.mpr ⟨lw_p4, List.forall_mem_cons.mpr ⟨lw_p5, List.forall_mem_cons.mpr ⟨lw_p6, List.forall_mem_cons.mpr ⟨lw_p7, List.forall_mem_cons.mpr ⟨lw_p8, List.forall_mem_cons.mpr ⟨lw_p9, List.forall_mem_cons.mpr ⟨lw_p10, List.forall_mem_cons.mpr ⟨lw_p11, List.forall_mem_cons.mpr ⟨lw_p12, List.forall_mem_cons.mpr ⟨lw_p13, List.forall_mem_cons.mpr ⟨lw_p14, List.forall_mem_cons.mpr ⟨lw_p15, fun _ h => absurd h List.not_mem_nil⟩⟩⟩⟩⟩⟩⟩⟩⟩⟩⟩⟩⟩⟩⟩⟩
theorem lw_p16 : lw_okq (⟨"GuardedMoves$Code", "leadRow", "(I)I"⟩, 7) := ⟨⟨by decide +kernel, by decide +kernel⟩, List.mem_of_getElem? (i := 136) (by decide +kernel), List.mem_of_getElem? (i := 423) (by decide +kernel), List.mem_of_getElem? (i := 424) (by decide +kernel)⟩
theorem lw_p17 : lw_okq (⟨"GuardedMoves$LatestRun", "doRange", "(LGuardedMoves$Text;III)V"⟩, 7) := ⟨⟨by decide +kernel, by decide +kernel⟩, List.mem_of_getElem? (i := 195) (by decide +kernel), List.mem_of_getElem? (i := 445) (by decide +kernel), List.mem_of_getElem? (i := 446) (by decide +kernel)⟩
theorem lw_p18 : lw_okq (⟨"GuardedMoves$LatestRun", "doBranch", "(LGuardedMoves$Text;II)V"⟩, 7) := ⟨⟨by decide +kernel, by decide +kernel⟩, List.mem_of_getElem? (i := 195) (by decide +kernel), List.mem_of_getElem? (i := 449) (by decide +kernel), List.mem_of_getElem? (i := 450) (by decide +kernel)⟩
theorem lw_p19 : lw_okq (⟨"GuardedMoves$LatestRun", "valueOf", "(LGuardedMoves$Text;I)I"⟩, 7) := ⟨⟨by decide +kernel, by decide +kernel⟩, List.mem_of_getElem? (i := 195) (by decide +kernel), List.mem_of_getElem? (i := 453) (by decide +kernel), List.mem_of_getElem? (i := 454) (by decide +kernel)⟩
theorem lw_p20 : lw_okq (⟨"GuardedMoves$LatestRun", "doSimple", "(LGuardedMoves$Text;I)V"⟩, 7) := ⟨⟨by decide +kernel, by decide +kernel⟩, List.mem_of_getElem? (i := 195) (by decide +kernel), List.mem_of_getElem? (i := 460) (by decide +kernel), List.mem_of_getElem? (i := 461) (by decide +kernel)⟩
theorem lw_p21 : lw_okq (⟨"GuardedMoves$LatestRun", "reach", "(IIIII)V"⟩, 7) := ⟨⟨by decide +kernel, by decide +kernel⟩, List.mem_of_getElem? (i := 195) (by decide +kernel), List.mem_of_getElem? (i := 464) (by decide +kernel), List.mem_of_getElem? (i := 465) (by decide +kernel)⟩
theorem lw_p22 : lw_okq (⟨"GuardedMoves$LatestRun", "end", "(II)V"⟩, 7) := ⟨⟨by decide +kernel, by decide +kernel⟩, List.mem_of_getElem? (i := 195) (by decide +kernel), List.mem_of_getElem? (i := 469) (by decide +kernel), List.mem_of_getElem? (i := 470) (by decide +kernel)⟩
theorem lw_p23 : lw_okq (⟨"GuardedMoves$LatestRun", "load", "(III)V"⟩, 7) := ⟨⟨by decide +kernel, by decide +kernel⟩, List.mem_of_getElem? (i := 195) (by decide +kernel), List.mem_of_getElem? (i := 473) (by decide +kernel), List.mem_of_getElem? (i := 474) (by decide +kernel)⟩
theorem lw_p24 : lw_okq (⟨"GuardedMoves$LatestRun", "store", "(III)V"⟩, 7) := ⟨⟨by decide +kernel, by decide +kernel⟩, List.mem_of_getElem? (i := 195) (by decide +kernel), List.mem_of_getElem? (i := 480) (by decide +kernel), List.mem_of_getElem? (i := 481) (by decide +kernel)⟩
theorem lw_p25 : lw_okq (⟨"GuardedMoves$LatestRun", "say", "(I)V"⟩, 7) := ⟨⟨by decide +kernel, by decide +kernel⟩, List.mem_of_getElem? (i := 195) (by decide +kernel), List.mem_of_getElem? (i := 484) (by decide +kernel), List.mem_of_getElem? (i := 485) (by decide +kernel)⟩
theorem lw_p26 : lw_okq (⟨"java/lang/Throwable", "fillInStackTrace", "(I)Ljava/lang/Throwable;"⟩, 6) := ⟨⟨by decide +kernel, by decide +kernel⟩, List.mem_of_getElem? (i := 537) (by decide +kernel), List.mem_of_getElem? (i := 535) (by decide +kernel), List.mem_of_getElem? (i := 536) (by decide +kernel)⟩
theorem lw_p27 : lw_okq (⟨"GuardedMoves$Lowering", "mayConvert", "(LGuardedMoves$Text;I)Z"⟩, 6) := ⟨⟨by decide +kernel, by decide +kernel⟩, List.mem_of_getElem? (i := 130) (by decide +kernel), List.mem_of_getElem? (i := 644) (by decide +kernel), List.mem_of_getElem? (i := 645) (by decide +kernel)⟩
theorem lw_p28 : lw_okq (⟨"GuardedMoves$Lowering", "stepsAlone", "(LGuardedMoves$Text;I)I"⟩, 6) := ⟨⟨by decide +kernel, by decide +kernel⟩, List.mem_of_getElem? (i := 130) (by decide +kernel), List.mem_of_getElem? (i := 648) (by decide +kernel), List.mem_of_getElem? (i := 649) (by decide +kernel)⟩
theorem lw_p29 : lw_okq (⟨"GuardedMoves$Lowering", "beginCode", "()V"⟩, 6) := ⟨⟨by decide +kernel, by decide +kernel⟩, List.mem_of_getElem? (i := 130) (by decide +kernel), List.mem_of_getElem? (i := 652) (by decide +kernel), List.mem_of_getElem? (i := 653) (by decide +kernel)⟩
theorem lw_p30 : lw_okq (⟨"GuardedMoves$Lowering", "convert", "(LGuardedMoves$Text;II)V"⟩, 6) := ⟨⟨by decide +kernel, by decide +kernel⟩, List.mem_of_getElem? (i := 130) (by decide +kernel), List.mem_of_getElem? (i := 660) (by decide +kernel), List.mem_of_getElem? (i := 661) (by decide +kernel)⟩
theorem lw_p31 : lw_okq (⟨"GuardedMoves$Lowering", "testRegister", "(LGuardedMoves$Text;I)I"⟩, 6) := ⟨⟨by decide +kernel, by decide +kernel⟩, List.mem_of_getElem? (i := 130) (by decide +kernel), List.mem_of_getElem? (i := 664) (by decide +kernel), List.mem_of_getElem? (i := 665) (by decide +kernel)⟩
def lw_privs_2 : List (MethodName × Nat) := [(⟨"GuardedMoves$Code", "leadRow", "(I)I"⟩, 7), (⟨"GuardedMoves$LatestRun", "doRange", "(LGuardedMoves$Text;III)V"⟩, 7), (⟨"GuardedMoves$LatestRun", "doBranch", "(LGuardedMoves$Text;II)V"⟩, 7), (⟨"GuardedMoves$LatestRun", "valueOf", "(LGuardedMoves$Text;I)I"⟩, 7), (⟨"GuardedMoves$LatestRun", "doSimple", "(LGuardedMoves$Text;I)V"⟩, 7), (⟨"GuardedMoves$LatestRun", "reach", "(IIIII)V"⟩, 7), (⟨"GuardedMoves$LatestRun", "end", "(II)V"⟩, 7), (⟨"GuardedMoves$LatestRun", "load", "(III)V"⟩, 7), (⟨"GuardedMoves$LatestRun", "store", "(III)V"⟩, 7), (⟨"GuardedMoves$LatestRun", "say", "(I)V"⟩, 7), (⟨"java/lang/Throwable", "fillInStackTrace", "(I)Ljava/lang/Throwable;"⟩, 6), (⟨"GuardedMoves$Lowering", "mayConvert", "(LGuardedMoves$Text;I)Z"⟩, 6), (⟨"GuardedMoves$Lowering", "stepsAlone", "(LGuardedMoves$Text;I)I"⟩, 6), (⟨"GuardedMoves$Lowering", "beginCode", "()V"⟩, 6), (⟨"GuardedMoves$Lowering", "convert", "(LGuardedMoves$Text;II)V"⟩, 6), (⟨"GuardedMoves$Lowering", "testRegister", "(LGuardedMoves$Text;I)I"⟩, 6)]
theorem lw_r2 : ∀ q ∈ lw_privs_2, lw_okq q := List.forall_mem_cons.mpr ⟨lw_p16, List.forall_mem_cons.mpr ⟨lw_p17, List.forall_mem_cons.mpr ⟨lw_p18, List.forall_mem_cons.mpr ⟨lw_p19, List.forall_mem_cons.mpr ⟨lw_p20, List.forall_mem_cons.mpr ⟨lw_p21, List.forall_mem_cons.mpr ⟨lw_p22, List.forall_mem_cons.mpr ⟨lw_p23, List.forall_mem_cons.mpr ⟨lw_p24, List.forall_mem_cons.mpr ⟨lw_p25, List.forall_mem_cons.mpr ⟨lw_p26, List.forall_mem_cons.mpr ⟨lw_p27, List.forall_mem_cons.mpr ⟨lw_p28, List.forall_mem_cons.mpr ⟨lw_p29, List.forall_mem_cons.mpr ⟨lw_p30, List.forall_mem_cons.mpr ⟨lw_p31, fun _ h => absurd h List.not_mem_nil⟩⟩⟩⟩⟩⟩⟩⟩⟩⟩⟩⟩⟩⟩⟩⟩
theorem lw_p32 : lw_okq (⟨"GuardedMoves$Lowering", "valueRegister", "(LGuardedMoves$Text;I)I"⟩, 6) := ⟨⟨by decide +kernel, by decide +kernel⟩, List.mem_of_getElem? (i := 130) (by decide +kernel), List.mem_of_getElem? (i := 668) (by decide +kernel), List.mem_of_getElem? (i := 669) (by decide +kernel)⟩
theorem lw_p33 : lw_okq (⟨"GuardedMoves$Lowering", "setNew", "(I)I"⟩, 6) := ⟨⟨by decide +kernel, by decide +kernel⟩, List.mem_of_getElem? (i := 130) (by decide +kernel), List.mem_of_getElem? (i := 672) (by decide +kernel), List.mem_of_getElem? (i := 673) (by decide +kernel)⟩
theorem lw_p34 : lw_okq (⟨"GuardedMoves$Lowering", "guardWithin", "(II)I"⟩, 6) := ⟨⟨by decide +kernel, by decide +kernel⟩, List.mem_of_getElem? (i := 130) (by decide +kernel), List.mem_of_getElem? (i := 685) (by decide +kernel), List.mem_of_getElem? (i := 686) (by decide +kernel)⟩
theorem lw_p35 : lw_okq (⟨"GuardedMoves$Lowering", "lowerRange", "(LGuardedMoves$Text;III)V"⟩, 6) := ⟨⟨by decide +kernel, by decide +kernel⟩, List.mem_of_getElem? (i := 130) (by decide +kernel), List.mem_of_getElem? (i := 689) (by decide +kernel), List.mem_of_getElem? (i := 690) (by decide +kernel)⟩
theorem lw_p36 : lw_okq (⟨"GuardedMoves$Lowering", "lowerOne", "(LGuardedMoves$Text;II)V"⟩, 6) := ⟨⟨by decide +kernel, by decide +kernel⟩, List.mem_of_getElem? (i := 130) (by decide +kernel), List.mem_of_getElem? (i := 693) (by decide +kernel), List.mem_of_getElem? (i := 694) (by decide +kernel)⟩
theorem lw_p37 : lw_okq (⟨"GuardedMoves$Lowering", "lowerWithJumps", "(LGuardedMoves$Text;II)V"⟩, 6) := ⟨⟨by decide +kernel, by decide +kernel⟩, List.mem_of_getElem? (i := 130) (by decide +kernel), List.mem_of_getElem? (i := 697) (by decide +kernel), List.mem_of_getElem? (i := 698) (by decide +kernel)⟩
theorem lw_p38 : lw_okq (⟨"GuardedMoves$Lowering", "lowerPlainly", "(LGuardedMoves$Text;I)V"⟩, 6) := ⟨⟨by decide +kernel, by decide +kernel⟩, List.mem_of_getElem? (i := 130) (by decide +kernel), List.mem_of_getElem? (i := 706) (by decide +kernel), List.mem_of_getElem? (i := 707) (by decide +kernel)⟩
theorem lw_p39 : lw_okq (⟨"GuardedMoves$Lowering", "lowerGuarded", "(LGuardedMoves$Text;I)V"⟩, 6) := ⟨⟨by decide +kernel, by decide +kernel⟩, List.mem_of_getElem? (i := 130) (by decide +kernel), List.mem_of_getElem? (i := 710) (by decide +kernel), List.mem_of_getElem? (i := 711) (by decide +kernel)⟩
theorem lw_p40 : lw_okq (⟨"GuardedMoves$Lowering", "guardedOperation", "(LGuardedMoves$Text;II)I"⟩, 6) := ⟨⟨by decide +kernel, by decide +kernel⟩, List.mem_of_getElem? (i := 130) (by decide +kernel), List.mem_of_getElem? (i := 714) (by decide +kernel), List.mem_of_getElem? (i := 715) (by decide +kernel)⟩
theorem lw_p41 : lw_okq (⟨"GuardedMoves$Lowering", "harmless", "(IZI)I"⟩, 6) := ⟨⟨by decide +kernel, by decide +kernel⟩, List.mem_of_getElem? (i := 130) (by decide +kernel), List.mem_of_getElem? (i := 719) (by decide +kernel), List.mem_of_getElem? (i := 720) (by decide +kernel)⟩
theorem lw_p42 : lw_okq (⟨"GuardedMoves$Lowering", "guardedWrite", "(II)V"⟩, 6) := ⟨⟨by decide +kernel, by decide +kernel⟩, List.mem_of_getElem? (i := 130) (by decide +kernel), List.mem_of_getElem? (i := 727) (by decide +kernel), List.mem_of_getElem? (i := 728) (by decide +kernel)⟩
theorem lw_p43 : lw_okq (⟨"GuardedMoves$Lowering", "chooseSides", "(II)V"⟩, 6) := ⟨⟨by decide +kernel, by decide +kernel⟩, List.mem_of_getElem? (i := 130) (by decide +kernel), List.mem_of_getElem? (i := 732) (by decide +kernel), List.mem_of_getElem? (i := 733) (by decide +kernel)⟩
theorem lw_p44 : lw_okq (⟨"GuardedMoves$Lowering", "moveBack", "()V"⟩, 6) := ⟨⟨by decide +kernel, by decide +kernel⟩, List.mem_of_getElem? (i := 130) (by decide +kernel), List.mem_of_getElem? (i := 736) (by decide +kernel), List.mem_of_getElem? (i := 737) (by decide +kernel)⟩
theorem lw_p45 : lw_okq (⟨"GuardedMoves$LatestRun", "nextBehind", "(LGuardedMoves$Code;I)I"⟩, 7) := ⟨⟨by decide +kernel, by decide +kernel⟩, List.mem_of_getElem? (i := 195) (by decide +kernel), List.mem_of_getElem? (i := 761) (by decide +kernel), List.mem_of_getElem? (i := 762) (by decide +kernel)⟩
theorem lw_p46 : lw_okq (⟨"GuardedMoves$LatestRun", "doStep", "(LGuardedMoves$Code;I)V"⟩, 7) := ⟨⟨by decide +kernel, by decide +kernel⟩, List.mem_of_getElem? (i := 195) (by decide +kernel), List.mem_of_getElem? (i := 765) (by decide +kernel), List.mem_of_getElem? (i := 766) (by decide +kernel)⟩
theorem lw_p47 : lw_okq (⟨"GuardedMovesModel", "may", "(ZZ)Z"⟩, 45) := ⟨⟨by decide +kernel, by decide +kernel⟩, List.mem_of_getElem? (i := 807) (by decide +kernel), List.mem_of_getElem? (i := 961) (by decide +kernel), List.mem_of_getElem? (i := 962) (by decide +kernel)⟩
def lw_privs_3 : List (MethodName × Nat) := [(⟨"GuardedMoves$Lowering", "valueRegister", "(LGuardedMoves$Text;I)I"⟩, 6), (⟨"GuardedMoves$Lowering", "setNew", "(I)I"⟩, 6), (⟨"GuardedMoves$Lowering", "guardWithin", "(II)I"⟩, 6), (⟨"GuardedMoves$Lowering", "lowerRange", "(LGuardedMoves$Text;III)V"⟩, 6), (⟨"GuardedMoves$Lowering", "lowerOne", "(LGuardedMoves$Text;II)V"⟩, 6), (⟨"GuardedMoves$Lowering", "lowerWithJumps", "(LGuardedMoves$Text;II)V"⟩, 6), (⟨"GuardedMoves$Lowering", "lowerPlainly", "(LGuardedMoves$Text;I)V"⟩, 6), (⟨"GuardedMoves$Lowering", "lowerGuarded", "(LGuardedMoves$Text;I)V"⟩, 6), (⟨"GuardedMoves$Lowering", "guardedOperation", "(LGuardedMoves$Text;II)I"⟩, 6), (⟨"GuardedMoves$Lowering", "harmless", "(IZI)I"⟩, 6), (⟨"GuardedMoves$Lowering", "guardedWrite", "(II)V"⟩, 6), (⟨"GuardedMoves$Lowering", "chooseSides", "(II)V"⟩, 6), (⟨"GuardedMoves$Lowering", "moveBack", "()V"⟩, 6), (⟨"GuardedMoves$LatestRun", "nextBehind", "(LGuardedMoves$Code;I)I"⟩, 7), (⟨"GuardedMoves$LatestRun", "doStep", "(LGuardedMoves$Code;I)V"⟩, 7), (⟨"GuardedMovesModel", "may", "(ZZ)Z"⟩, 45)]
theorem lw_r3 : ∀ q ∈ lw_privs_3, lw_okq q := List.forall_mem_cons.mpr ⟨lw_p32, List.forall_mem_cons.mpr ⟨lw_p33, List.forall_mem_cons.mpr ⟨lw_p34, List.forall_mem_cons.mpr ⟨lw_p35, List.forall_mem_cons.mpr ⟨lw_p36, List.forall_mem_cons.mpr ⟨lw_p37, List.forall_mem_cons.mpr ⟨lw_p38, List.forall_mem_cons.mpr ⟨lw_p39, List.forall_mem_cons.mpr ⟨lw_p40, List.forall_mem_cons.mpr ⟨lw_p41, List.forall_mem_cons.mpr ⟨lw_p42, List.forall_mem_cons.mpr ⟨lw_p43, List.forall_mem_cons.mpr ⟨lw_p44, List.forall_mem_cons.mpr ⟨lw_p45, List.forall_mem_cons.mpr ⟨lw_p46, List.forall_mem_cons.mpr ⟨lw_p47, fun _ h => absurd h List.not_mem_nil⟩⟩⟩⟩⟩⟩⟩⟩⟩⟩⟩⟩⟩⟩⟩⟩
theorem lw_p48 : lw_okq (⟨"GuardedMovesModel", "next", "()I"⟩, 45) := ⟨⟨by decide +kernel, by decide +kernel⟩, List.mem_of_getElem? (i := 807) (by decide +kernel), List.mem_of_getElem? (i := 980) (by decide +kernel), List.mem_of_getElem? (i := 981) (by decide +kernel)⟩
theorem lw_p49 : lw_okq (⟨"GuardedMovesModel", "closeSide", "()V"⟩, 45) := ⟨⟨by decide +kernel, by decide +kernel⟩, List.mem_of_getElem? (i := 807) (by decide +kernel), List.mem_of_getElem? (i := 984) (by decide +kernel), List.mem_of_getElem? (i := 985) (by decide +kernel)⟩
theorem lw_p50 : lw_okq (⟨"GuardedMovesModel", "readStatement", "(I)V"⟩, 45) := ⟨⟨by decide +kernel, by decide +kernel⟩, List.mem_of_getElem? (i := 807) (by decide +kernel), List.mem_of_getElem? (i := 988) (by decide +kernel), List.mem_of_getElem? (i := 989) (by decide +kernel)⟩
theorem lw_p51 : lw_okq (⟨"GuardedMovesModel", "fail", "(II)V"⟩, 45) := ⟨⟨by decide +kernel, by decide +kernel⟩, List.mem_of_getElem? (i := 807) (by decide +kernel), List.mem_of_getElem? (i := 995) (by decide +kernel), List.mem_of_getElem? (i := 996) (by decide +kernel)⟩
theorem lw_p52 : lw_okq (⟨"GuardedMovesModel", "readSet", "(I)V"⟩, 45) := ⟨⟨by decide +kernel, by decide +kernel⟩, List.mem_of_getElem? (i := 807) (by decide +kernel), List.mem_of_getElem? (i := 999) (by decide +kernel), List.mem_of_getElem? (i := 1000) (by decide +kernel)⟩
theorem lw_p53 : lw_okq (⟨"GuardedMovesModel", "take", "(I)V"⟩, 45) := ⟨⟨by decide +kernel, by decide +kernel⟩, List.mem_of_getElem? (i := 807) (by decide +kernel), List.mem_of_getElem? (i := 1003) (by decide +kernel), List.mem_of_getElem? (i := 1004) (by decide +kernel)⟩
theorem lw_p54 : lw_okq (⟨"GuardedMovesModel", "readValue", "(II)V"⟩, 45) := ⟨⟨by decide +kernel, by decide +kernel⟩, List.mem_of_getElem? (i := 807) (by decide +kernel), List.mem_of_getElem? (i := 1007) (by decide +kernel), List.mem_of_getElem? (i := 1008) (by decide +kernel)⟩
theorem lw_p55 : lw_okq (⟨"GuardedMovesModel", "readNumber", "(IIZ)V"⟩, 45) := ⟨⟨by decide +kernel, by decide +kernel⟩, List.mem_of_getElem? (i := 807) (by decide +kernel), List.mem_of_getElem? (i := 1011) (by decide +kernel), List.mem_of_getElem? (i := 1012) (by decide +kernel)⟩
theorem lw_p56 : lw_okq (⟨"GuardedMovesModel", "readTest", "(I)V"⟩, 45) := ⟨⟨by decide +kernel, by decide +kernel⟩, List.mem_of_getElem? (i := 807) (by decide +kernel), List.mem_of_getElem? (i := 1025) (by decide +kernel), List.mem_of_getElem? (i := 1026) (by decide +kernel)⟩
theorem lw_p57 : lw_okq (⟨"GuardedMovesModel", "of", "(II)I"⟩, 45) := ⟨⟨by decide +kernel, by decide +kernel⟩, List.mem_of_getElem? (i := 807) (by decide +kernel), List.mem_of_getElem? (i := 1041) (by decide +kernel), List.mem_of_getElem? (i := 1042) (by decide +kernel)⟩
theorem lw_p58 : lw_okq (⟨"GuardedMovesModel", "mayConvert", "(II)Z"⟩, 45) := ⟨⟨by decide +kernel, by decide +kernel⟩, List.mem_of_getElem? (i := 807) (by decide +kernel), List.mem_of_getElem? (i := 1045) (by decide +kernel), List.mem_of_getElem? (i := 1046) (by decide +kernel)⟩
theorem lw_p59 : lw_okq (⟨"GuardedMovesModel", "lowerAll", "(II)V"⟩, 45) := ⟨⟨by decide +kernel, by decide +kernel⟩, List.mem_of_getElem? (i := 807) (by decide +kernel), List.mem_of_getElem? (i := 1049) (by decide +kernel), List.mem_of_getElem? (i := 1050) (by decide +kernel)⟩
theorem lw_p60 : lw_okq (⟨"GuardedMovesModel", "endSecond", "(I)V"⟩, 45) := ⟨⟨by decide +kernel, by decide +kernel⟩, List.mem_of_getElem? (i := 807) (by decide +kernel), List.mem_of_getElem? (i := 1053) (by decide +kernel), List.mem_of_getElem? (i := 1054) (by decide +kernel)⟩
theorem lw_p61 : lw_okq (⟨"GuardedMovesModel", "fresh1", "()I"⟩, 45) := ⟨⟨by decide +kernel, by decide +kernel⟩, List.mem_of_getElem? (i := 807) (by decide +kernel), List.mem_of_getElem? (i := 1057) (by decide +kernel), List.mem_of_getElem? (i := 1058) (by decide +kernel)⟩
theorem lw_p62 : lw_okq (⟨"GuardedMovesModel", "emit", "(IIIII)I"⟩, 45) := ⟨⟨by decide +kernel, by decide +kernel⟩, List.mem_of_getElem? (i := 807) (by decide +kernel), List.mem_of_getElem? (i := 1061) (by decide +kernel), List.mem_of_getElem? (i := 1062) (by decide +kernel)⟩
theorem lw_p63 : lw_okq (⟨"GuardedMovesModel", "isOnSide", "()Z"⟩, 45) := ⟨⟨by decide +kernel, by decide +kernel⟩, List.mem_of_getElem? (i := 807) (by decide +kernel), List.mem_of_getElem? (i := 1065) (by decide +kernel), List.mem_of_getElem? (i := 1066) (by decide +kernel)⟩
def lw_privs_4 : List (MethodName × Nat) := [(⟨"GuardedMovesModel", "next", "()I"⟩, 45), (⟨"GuardedMovesModel", "closeSide", "()V"⟩, 45), (⟨"GuardedMovesModel", "readStatement", "(I)V"⟩, 45), (⟨"GuardedMovesModel", "fail", "(II)V"⟩, 45), (⟨"GuardedMovesModel", "readSet", "(I)V"⟩, 45), (⟨"GuardedMovesModel", "take", "(I)V"⟩, 45), (⟨"GuardedMovesModel", "readValue", "(II)V"⟩, 45), (⟨"GuardedMovesModel", "readNumber", "(IIZ)V"⟩, 45), (⟨"GuardedMovesModel", "readTest", "(I)V"⟩, 45), (⟨"GuardedMovesModel", "of", "(II)I"⟩, 45), (⟨"GuardedMovesModel", "mayConvert", "(II)Z"⟩, 45), (⟨"GuardedMovesModel", "lowerAll", "(II)V"⟩, 45), (⟨"GuardedMovesModel", "endSecond", "(I)V"⟩, 45), (⟨"GuardedMovesModel", "fresh1", "()I"⟩, 45), (⟨"GuardedMovesModel", "emit", "(IIIII)I"⟩, 45), (⟨"GuardedMovesModel", "isOnSide", "()Z"⟩, 45)]
theorem lw_r4 : ∀ q ∈ lw_privs_4, lw_okq q := List.forall_mem_cons.mpr ⟨lw_p48, List.forall_mem_cons.mpr ⟨lw_p49, List.forall_mem_cons.mpr ⟨lw_p50, List.forall_mem_cons.mpr ⟨lw_p51, List.forall_mem_cons.mpr ⟨lw_p52, List.forall_mem_cons.mpr ⟨lw_p53, List.forall_mem_cons.mpr ⟨lw_p54, List.forall_mem_cons.mpr ⟨lw_p55, List.forall_mem_cons.mpr ⟨lw_p56, List.forall_mem_cons.mpr ⟨lw_p57, List.forall_mem_cons.mpr ⟨lw_p58, List.forall_mem_cons.mpr ⟨lw_p59, List.forall_mem_cons.mpr ⟨lw_p60, List.forall_mem_cons.mpr ⟨lw_p61, List.forall_mem_cons.mpr ⟨lw_p62, List.forall_mem_cons.mpr ⟨lw_p63, fun _ h => absurd h List.not_mem_nil⟩⟩⟩⟩⟩⟩⟩⟩⟩⟩⟩⟩⟩⟩⟩⟩
theorem lw_p64 : lw_okq (⟨"GuardedMovesModel", "endFirst", "(I)V"⟩, 45) := ⟨⟨by decide +kernel, by decide +kernel⟩, List.mem_of_getElem? (i := 807) (by decide +kernel), List.mem_of_getElem? (i := 1069) (by decide +kernel), List.mem_of_getElem? (i := 1070) (by decide +kernel)⟩
theorem lw_p65 : lw_okq (⟨"GuardedMovesModel", "setNew", "(I)I"⟩, 45) := ⟨⟨by decide +kernel, by decide +kernel⟩, List.mem_of_getElem? (i := 807) (by decide +kernel), List.mem_of_getElem? (i := 1073) (by decide +kernel), List.mem_of_getElem? (i := 1074) (by decide +kernel)⟩
theorem lw_p66 : lw_okq (⟨"GuardedMovesModel", "guarded", "(II)I"⟩, 45) := ⟨⟨by decide +kernel, by decide +kernel⟩, List.mem_of_getElem? (i := 807) (by decide +kernel), List.mem_of_getElem? (i := 1077) (by decide +kernel), List.mem_of_getElem? (i := 1078) (by decide +kernel)⟩
theorem lw_p67 : lw_okq (⟨"GuardedMovesModel", "lowerOne", "(I)V"⟩, 45) := ⟨⟨by decide +kernel, by decide +kernel⟩, List.mem_of_getElem? (i := 807) (by decide +kernel), List.mem_of_getElem? (i := 1081) (by decide +kernel), List.mem_of_getElem? (i := 1082) (by decide +kernel)⟩
theorem lw_p68 : lw_okq (⟨"GuardedMovesModel", "lowerSet", "(I)V"⟩, 45) := ⟨⟨by decide +kernel, by decide +kernel⟩, List.mem_of_getElem? (i := 807) (by decide +kernel), List.mem_of_getElem? (i := 1085) (by decide +kernel), List.mem_of_getElem? (i := 1086) (by decide +kernel)⟩
theorem lw_p69 : lw_okq (⟨"GuardedMovesModel", "target", "(I)I"⟩, 45) := ⟨⟨by decide +kernel, by decide +kernel⟩, List.mem_of_getElem? (i := 807) (by decide +kernel), List.mem_of_getElem? (i := 1089) (by decide +kernel), List.mem_of_getElem? (i := 1090) (by decide +kernel)⟩
theorem lw_p70 : lw_okq (⟨"GuardedMovesModel", "value", "(II)I"⟩, 45) := ⟨⟨by decide +kernel, by decide +kernel⟩, List.mem_of_getElem? (i := 807) (by decide +kernel), List.mem_of_getElem? (i := 1093) (by decide +kernel), List.mem_of_getElem? (i := 1094) (by decide +kernel)⟩
theorem lw_p71 : lw_okq (⟨"GuardedMovesModel", "harmless", "(II)I"⟩, 45) := ⟨⟨by decide +kernel, by decide +kernel⟩, List.mem_of_getElem? (i := 807) (by decide +kernel), List.mem_of_getElem? (i := 1097) (by decide +kernel), List.mem_of_getElem? (i := 1098) (by decide +kernel)⟩
theorem lw_p72 : lw_okq (⟨"GuardedMovesModel", "isPlainIndex", "(I)Z"⟩, 45) := ⟨⟨by decide +kernel, by decide +kernel⟩, List.mem_of_getElem? (i := 807) (by decide +kernel), List.mem_of_getElem? (i := 1101) (by decide +kernel), List.mem_of_getElem? (i := 1102) (by decide +kernel)⟩
theorem lw_p73 : lw_okq (⟨"GuardedMovesModel", "lowerStore", "(III)V"⟩, 45) := ⟨⟨by decide +kernel, by decide +kernel⟩, List.mem_of_getElem? (i := 807) (by decide +kernel), List.mem_of_getElem? (i := 1105) (by decide +kernel), List.mem_of_getElem? (i := 1106) (by decide +kernel)⟩
theorem lw_p74 : lw_okq (⟨"GuardedMovesModel", "beginTest", "(I)V"⟩, 45) := ⟨⟨by decide +kernel, by decide +kernel⟩, List.mem_of_getElem? (i := 807) (by decide +kernel), List.mem_of_getElem? (i := 1109) (by decide +kernel), List.mem_of_getElem? (i := 1110) (by decide +kernel)⟩
theorem lw_p75 : lw_okq (⟨"GuardedMovesModel", "isUseless", "(I)Z"⟩, 45) := ⟨⟨by decide +kernel, by decide +kernel⟩, List.mem_of_getElem? (i := 807) (by decide +kernel), List.mem_of_getElem? (i := 1117) (by decide +kernel), List.mem_of_getElem? (i := 1118) (by decide +kernel)⟩
theorem lw_p76 : lw_okq (⟨"GuardedMovesModel", "names", "(II)Z"⟩, 45) := ⟨⟨by decide +kernel, by decide +kernel⟩, List.mem_of_getElem? (i := 807) (by decide +kernel), List.mem_of_getElem? (i := 1121) (by decide +kernel), List.mem_of_getElem? (i := 1122) (by decide +kernel)⟩
theorem lw_p77 : lw_okq (⟨"GuardedMovesModel", "goneBefore", "(I)I"⟩, 45) := ⟨⟨by decide +kernel, by decide +kernel⟩, List.mem_of_getElem? (i := 807) (by decide +kernel), List.mem_of_getElem? (i := 1125) (by decide +kernel), List.mem_of_getElem? (i := 1126) (by decide +kernel)⟩
theorem lw_p78 : lw_okq (⟨"GuardedMovesModel", "begin", "()V"⟩, 45) := ⟨⟨by decide +kernel, by decide +kernel⟩, List.mem_of_getElem? (i := 807) (by decide +kernel), List.mem_of_getElem? (i := 1143) (by decide +kernel), List.mem_of_getElem? (i := 1144) (by decide +kernel)⟩
theorem lw_p79 : lw_okq (⟨"GuardedMovesModel", "doStatement", "(I)I"⟩, 45) := ⟨⟨by decide +kernel, by decide +kernel⟩, List.mem_of_getElem? (i := 807) (by decide +kernel), List.mem_of_getElem? (i := 1147) (by decide +kernel), List.mem_of_getElem? (i := 1148) (by decide +kernel)⟩
def lw_privs_5 : List (MethodName × Nat) := [(⟨"GuardedMovesModel", "endFirst", "(I)V"⟩, 45), (⟨"GuardedMovesModel", "setNew", "(I)I"⟩, 45), (⟨"GuardedMovesModel", "guarded", "(II)I"⟩, 45), (⟨"GuardedMovesModel", "lowerOne", "(I)V"⟩, 45), (⟨"GuardedMovesModel", "lowerSet", "(I)V"⟩, 45), (⟨"GuardedMovesModel", "target", "(I)I"⟩, 45), (⟨"GuardedMovesModel", "value", "(II)I"⟩, 45), (⟨"GuardedMovesModel", "harmless", "(II)I"⟩, 45), (⟨"GuardedMovesModel", "isPlainIndex", "(I)Z"⟩, 45), (⟨"GuardedMovesModel", "lowerStore", "(III)V"⟩, 45), (⟨"GuardedMovesModel", "beginTest", "(I)V"⟩, 45), (⟨"GuardedMovesModel", "isUseless", "(I)Z"⟩, 45), (⟨"GuardedMovesModel", "names", "(II)Z"⟩, 45), (⟨"GuardedMovesModel", "goneBefore", "(I)I"⟩, 45), (⟨"GuardedMovesModel", "begin", "()V"⟩, 45), (⟨"GuardedMovesModel", "doStatement", "(I)I"⟩, 45)]
theorem lw_r5 : ∀ q ∈ lw_privs_5, lw_okq q := List.forall_mem_cons.mpr ⟨lw_p64, List.forall_mem_cons.mpr ⟨lw_p65, List.forall_mem_cons.mpr ⟨lw_p66, List.forall_mem_cons.mpr ⟨lw_p67, List.forall_mem_cons.mpr ⟨lw_p68, List.forall_mem_cons.mpr ⟨lw_p69, List.forall_mem_cons.mpr ⟨lw_p70, List.forall_mem_cons.mpr ⟨lw_p71, List.forall_mem_cons.mpr ⟨lw_p72, List.forall_mem_cons.mpr ⟨lw_p73, List.forall_mem_cons.mpr ⟨lw_p74, List.forall_mem_cons.mpr ⟨lw_p75, List.forall_mem_cons.mpr ⟨lw_p76, List.forall_mem_cons.mpr ⟨lw_p77, List.forall_mem_cons.mpr ⟨lw_p78, List.forall_mem_cons.mpr ⟨lw_p79, fun _ h => absurd h List.not_mem_nil⟩⟩⟩⟩⟩⟩⟩⟩⟩⟩⟩⟩⟩⟩⟩⟩
theorem lw_p80 : lw_okq (⟨"GuardedMovesModel", "toldValue", "(II)I"⟩, 45) := ⟨⟨by decide +kernel, by decide +kernel⟩, List.mem_of_getElem? (i := 807) (by decide +kernel), List.mem_of_getElem? (i := 1151) (by decide +kernel), List.mem_of_getElem? (i := 1152) (by decide +kernel)⟩
theorem lw_p81 : lw_okq (⟨"GuardedMovesModel", "reach", "(IIII)I"⟩, 45) := ⟨⟨by decide +kernel, by decide +kernel⟩, List.mem_of_getElem? (i := 807) (by decide +kernel), List.mem_of_getElem? (i := 1155) (by decide +kernel), List.mem_of_getElem? (i := 1156) (by decide +kernel)⟩
theorem lw_p82 : lw_okq (⟨"GuardedMovesModel", "stop", "(II)V"⟩, 45) := ⟨⟨by decide +kernel, by decide +kernel⟩, List.mem_of_getElem? (i := 807) (by decide +kernel), List.mem_of_getElem? (i := 1159) (by decide +kernel), List.mem_of_getElem? (i := 1160) (by decide +kernel)⟩
theorem lw_p83 : lw_okq (⟨"GuardedMovesModel", "isWord", "(II)Z"⟩, 45) := ⟨⟨by decide +kernel, by decide +kernel⟩, List.mem_of_getElem? (i := 807) (by decide +kernel), List.mem_of_getElem? (i := 1163) (by decide +kernel), List.mem_of_getElem? (i := 1164) (by decide +kernel)⟩
theorem lw_p84 : lw_okq (⟨"GuardedMovesModel", "behind", "(I)I"⟩, 45) := ⟨⟨by decide +kernel, by decide +kernel⟩, List.mem_of_getElem? (i := 807) (by decide +kernel), List.mem_of_getElem? (i := 1167) (by decide +kernel), List.mem_of_getElem? (i := 1168) (by decide +kernel)⟩
theorem lw_p85 : lw_okq (⟨"GuardedMovesModel", "leave", "()V"⟩, 45) := ⟨⟨by decide +kernel, by decide +kernel⟩, List.mem_of_getElem? (i := 807) (by decide +kernel), List.mem_of_getElem? (i := 1171) (by decide +kernel), List.mem_of_getElem? (i := 1172) (by decide +kernel)⟩
theorem lw_p86 : lw_okq (⟨"GuardedMovesModel", "doStep", "(I)I"⟩, 45) := ⟨⟨by decide +kernel, by decide +kernel⟩, List.mem_of_getElem? (i := 807) (by decide +kernel), List.mem_of_getElem? (i := 1179) (by decide +kernel), List.mem_of_getElem? (i := 1180) (by decide +kernel)⟩
theorem lw_p87 : lw_okq (⟨"GuardedMovesModel", "countJumps", "()I"⟩, 45) := ⟨⟨by decide +kernel, by decide +kernel⟩, List.mem_of_getElem? (i := 807) (by decide +kernel), List.mem_of_getElem? (i := 1199) (by decide +kernel), List.mem_of_getElem? (i := 1200) (by decide +kernel)⟩
theorem lw_p88 : lw_okq (⟨"GuardedMovesModel", "countConverted", "()I"⟩, 45) := ⟨⟨by decide +kernel, by decide +kernel⟩, List.mem_of_getElem? (i := 807) (by decide +kernel), List.mem_of_getElem? (i := 1203) (by decide +kernel), List.mem_of_getElem? (i := 1204) (by decide +kernel)⟩
def lw_privs_6 : List (MethodName × Nat) := [(⟨"GuardedMovesModel", "toldValue", "(II)I"⟩, 45), (⟨"GuardedMovesModel", "reach", "(IIII)I"⟩, 45), (⟨"GuardedMovesModel", "stop", "(II)V"⟩, 45), (⟨"GuardedMovesModel", "isWord", "(II)Z"⟩, 45), (⟨"GuardedMovesModel", "behind", "(I)I"⟩, 45), (⟨"GuardedMovesModel", "leave", "()V"⟩, 45), (⟨"GuardedMovesModel", "doStep", "(I)I"⟩, 45), (⟨"GuardedMovesModel", "countJumps", "()I"⟩, 45), (⟨"GuardedMovesModel", "countConverted", "()I"⟩, 45)]
theorem lw_r6 : ∀ q ∈ lw_privs_6, lw_okq q := List.forall_mem_cons.mpr ⟨lw_p80, List.forall_mem_cons.mpr ⟨lw_p81, List.forall_mem_cons.mpr ⟨lw_p82, List.forall_mem_cons.mpr ⟨lw_p83, List.forall_mem_cons.mpr ⟨lw_p84, List.forall_mem_cons.mpr ⟨lw_p85, List.forall_mem_cons.mpr ⟨lw_p86, List.forall_mem_cons.mpr ⟨lw_p87, List.forall_mem_cons.mpr ⟨lw_p88, fun _ h => absurd h List.not_mem_nil⟩⟩⟩⟩⟩⟩⟩⟩⟩
def lw_privs : List (MethodName × Nat) := lw_privs_1 ++ (lw_privs_2 ++ (lw_privs_3 ++ (lw_privs_4 ++ (lw_privs_5 ++ (lw_privs_6)))))
def lw_tbl : List Cond := k2_sels lw_privs ++ tables_1
theorem lw_privs_ok : ∀ q ∈ lw_privs, lw_okq q := by
  show ∀ q ∈ lw_privs_1 ++ (lw_privs_2 ++ (lw_privs_3 ++ (lw_privs_4 ++ (lw_privs_5 ++ (lw_privs_6))))), lw_okq q
  exact List.forall_mem_append.mpr ⟨lw_r1, List.forall_mem_append.mpr ⟨lw_r2, List.forall_mem_append.mpr ⟨lw_r3, List.forall_mem_append.mpr ⟨lw_r4, List.forall_mem_append.mpr ⟨lw_r5, lw_r6⟩⟩⟩⟩⟩
end
section
/-! ===== BEGIN words of one list among another's, by their places ===== -/
theorem goodIn_r {big : List Cond} (ws : List Cond) (ps : List Nat) (hp : ws = ps.filterMap (fun i => big[i]?)) (h : ws.all goodWord = true) : GoodIn big ws := by
  intro w hw
  have h1 := List.all_eq_true.mp h w hw
  rw [hp] at hw
  obtain ⟨i, -, hi⟩ := List.mem_filterMap.mp hw
  have hm : w ∈ big := by first | exact List.mem_of_getElem? hi | exact List.getElem?_mem hi
  exact ⟨hm, good_of_word h1⟩
theorem goodIn_app {big a b : List Cond} (ha : GoodIn big a) (hb : GoodIn big b) : GoodIn big (a ++ b) := fun w h => (List.mem_append.mp h).elim (ha w) (hb w)
theorem goodIn_ca {big a b : List Cond} {c : Cond} (ha : GoodIn big (c :: a)) (hb : GoodIn big b) : GoodIn big (c :: (a ++ b)) := fun w h => (List.mem_cons.mp h).elim (fun e => ha w (List.mem_cons.mpr (Or.inl e))) (fun h => (List.mem_append.mp h).elim (fun h => ha w (List.mem_cons.mpr (Or.inr h))) (hb w))
theorem goodIn_sub {big ws : List Cond} (hm : ∀ w ∈ ws, w ∈ big) (h : ws.all goodWord = true) : GoodIn big ws := fun w hw => ⟨hm w hw, good_of_word (List.all_eq_true.mp h w hw)⟩
/-! ===== END ===== -/
end
section
def RX0 : String := "GuardedMoves$Code"
def TX0 : u_T := fun k => match k with
  | 0 => ("GuardedMoves$Code", "rows", "[[I", true)
  | 1 => ("GuardedMoves$Code", "steps", "I", false)
  | 2 => ("GuardedMoves$Code", "registers", "I", false)
  | 3 => ("GuardedMoves$Code", "statement", "I", false)
  | 4 => ("GuardedMoves$Code", "taken", "[Z", true)
  | 5 => ("GuardedMoves$Code", "stays", "[Z", true)
  | _ => ("GuardedMoves$Code", "placeThen", "[I", true)
def tyX0 : Nat → FieldType := fun k => match k with
  | 0 => .array (.array .int)
  | 1 => .int
  | 2 => .int
  | 3 => .int
  | 4 => .array .boolean
  | 5 => .array .boolean
  | _ => .array .int
abbrev wsX00 : List Cond := u_ws RX0 TX0 7
theorem nmX0 : ∀ a, a < 7 → ∀ b, b < 7 → a ≠ b → (TX0 a).2.1 ≠ (TX0 b).2.1 := by decide +kernel
theorem tyX0_ok : ∀ k, k < 7 → parseFieldDescriptor (TX0 k).2.2.1 = some (tyX0 k) := by decide +kernel
abbrev cX0_init : ByteArray := prog_2_method_1_code
def yX0_init : MethodName := ⟨RX0, "<init>", "()V"⟩
abbrev cX0_clear : ByteArray := prog_2_method_2_code
def yX0_clear : MethodName := ⟨RX0, "clear", "()V"⟩
abbrev cX0_add : ByteArray := prog_2_method_3_code
def yX0_add : MethodName := ⟨RX0, "add", "(IIIII)I"⟩
abbrev cX0_addToNew : ByteArray := prog_2_method_4_code
def yX0_addToNew : MethodName := ⟨RX0, "addToNew", "(IIII)I"⟩
abbrev cX0_leadHere : ByteArray := prog_2_method_5_code
def yX0_leadHere : MethodName := ⟨RX0, "leadHere", "(I)V"⟩
abbrev cX0_leadRow : ByteArray := prog_2_method_6_code
def yX0_leadRow : MethodName := ⟨RX0, "leadRow", "(I)I"⟩
abbrev cX0_isJump : ByteArray := prog_2_method_7_code
def yX0_isJump : MethodName := ⟨RX0, "isJump", "(I)Z"⟩
abbrev cX0_jumps : ByteArray := prog_2_method_8_code
def yX0_jumps : MethodName := ⟨RX0, "jumps", "()I"⟩
abbrev cX0_stepsOf : ByteArray := prog_2_method_9_code
def yX0_stepsOf : MethodName := ⟨RX0, "stepsOf", "(I)I"⟩
abbrev cX0_dropUseless : ByteArray := prog_2_method_10_code
def yX0_dropUseless : MethodName := ⟨RX0, "dropUseless", "()I"⟩
abbrev cX0_findUseless : ByteArray := prog_2_method_11_code
def yX0_findUseless : MethodName := ⟨RX0, "findUseless", "()V"⟩
abbrev cX0_mayGo : ByteArray := prog_2_method_12_code
def yX0_mayGo : MethodName := ⟨RX0, "mayGo", "(I)Z"⟩
abbrev cX0_markTaken : ByteArray := prog_2_method_13_code
def yX0_markTaken : MethodName := ⟨RX0, "markTaken", "(I)V"⟩
abbrev cX0_shift : ByteArray := prog_2_method_14_code
def yX0_shift : MethodName := ⟨RX0, "shift", "(II)V"⟩
def RX1 : String := "GuardedMoves$LatestRun"
def TX1 : u_T := fun k => match k with
  | 0 => ("GuardedMoves$LatestRun", "register", "[I", true)
  | 1 => ("GuardedMoves$LatestRun", "words", "[I", true)
  | 2 => ("GuardedMoves$LatestRun", "output", "[I", true)
  | 3 => ("GuardedMoves$LatestRun", "outputs", "I", false)
  | 4 => ("GuardedMoves$LatestRun", "ended", "I", false)
  | 5 => ("GuardedMoves$LatestRun", "where", "I", false)
  | _ => ("GuardedMoves$LatestRun", "did", "I", false)
def tyX1 : Nat → FieldType := fun k => match k with
  | 0 => .array .int
  | 1 => .array .int
  | 2 => .array .int
  | 3 => .int
  | 4 => .int
  | 5 => .int
  | _ => .int
abbrev wsX10 : List Cond := u_ws RX1 TX1 7
theorem nmX1 : ∀ a, a < 7 → ∀ b, b < 7 → a ≠ b → (TX1 a).2.1 ≠ (TX1 b).2.1 := by decide +kernel
theorem tyX1_ok : ∀ k, k < 7 → parseFieldDescriptor (TX1 k).2.2.1 = some (tyX1 k) := by decide +kernel
abbrev cX1_init : ByteArray := prog_3_method_1_code
def yX1_init : MethodName := ⟨RX1, "<init>", "()V"⟩
abbrev cX1_begin : ByteArray := prog_3_method_2_code
def yX1_begin : MethodName := ⟨RX1, "begin", "([I[I)V"⟩
abbrev cX1_doText : ByteArray := prog_3_method_3_code
def yX1_doText : MethodName := ⟨RX1, "doText", "(LGuardedMoves$Text;)V"⟩
abbrev cX1_doRange : ByteArray := prog_3_method_4_code
def yX1_doRange : MethodName := ⟨RX1, "doRange", "(LGuardedMoves$Text;III)V"⟩
abbrev cX1_doBranch : ByteArray := prog_3_method_5_code
def yX1_doBranch : MethodName := ⟨RX1, "doBranch", "(LGuardedMoves$Text;II)V"⟩
abbrev cX1_valueOf : ByteArray := prog_3_method_6_code
def yX1_valueOf : MethodName := ⟨RX1, "valueOf", "(LGuardedMoves$Text;I)I"⟩
abbrev cX1_doSimple : ByteArray := prog_3_method_7_code
def yX1_doSimple : MethodName := ⟨RX1, "doSimple", "(LGuardedMoves$Text;I)V"⟩
abbrev cX1_doCode : ByteArray := prog_3_method_8_code
def yX1_doCode : MethodName := ⟨RX1, "doCode", "(LGuardedMoves$Code;)V"⟩
abbrev cX1_nextBehind : ByteArray := prog_3_method_9_code
def yX1_nextBehind : MethodName := ⟨RX1, "nextBehind", "(LGuardedMoves$Code;I)I"⟩
abbrev cX1_doStep : ByteArray := prog_3_method_10_code
def yX1_doStep : MethodName := ⟨RX1, "doStep", "(LGuardedMoves$Code;I)V"⟩
abbrev cX1_reach : ByteArray := prog_3_method_11_code
def yX1_reach : MethodName := ⟨RX1, "reach", "(IIIII)V"⟩
abbrev cX1_load : ByteArray := prog_3_method_12_code
def yX1_load : MethodName := ⟨RX1, "load", "(III)V"⟩
abbrev cX1_store : ByteArray := prog_3_method_13_code
def yX1_store : MethodName := ⟨RX1, "store", "(III)V"⟩
abbrev cX1_say : ByteArray := prog_3_method_14_code
def yX1_say : MethodName := ⟨RX1, "say", "(I)V"⟩
abbrev cX1_end : ByteArray := prog_3_method_15_code
def yX1_end : MethodName := ⟨RX1, "end", "(II)V"⟩
def RX2 : String := "GuardedMoves$Lowering"
def TX2 : u_T := fun k => match k with
  | 0 => ("GuardedMoves$Lowering", "code", "LGuardedMoves$Code;", true)
  | 1 => ("GuardedMoves$Lowering", "converted", "[Z", true)
  | 2 => ("GuardedMoves$Lowering", "standing", "[I", true)
  | 3 => ("GuardedMoves$Lowering", "before", "[[I", true)
  | 4 => ("GuardedMoves$Lowering", "behindFirst", "[[I", true)
  | _ => ("GuardedMoves$Lowering", "guard", "I", false)
def tyX2 : Nat → FieldType := fun k => match k with
  | 0 => .object "GuardedMoves$Code"
  | 1 => .array .boolean
  | 2 => .array .int
  | 3 => .array (.array .int)
  | 4 => .array (.array .int)
  | _ => .int
abbrev wsX20 : List Cond := u_ws RX2 TX2 6
theorem nmX2 : ∀ a, a < 6 → ∀ b, b < 6 → a ≠ b → (TX2 a).2.1 ≠ (TX2 b).2.1 := by decide +kernel
theorem tyX2_ok : ∀ k, k < 6 → parseFieldDescriptor (TX2 k).2.2.1 = some (tyX2 k) := by decide +kernel
abbrev cX2_init : ByteArray := prog_4_method_1_code
def yX2_init : MethodName := ⟨RX2, "<init>", "()V"⟩
abbrev cX2_convertedBranches : ByteArray := prog_4_method_2_code
def yX2_convertedBranches : MethodName := ⟨RX2, "convertedBranches", "()I"⟩
abbrev cX2_makeCode : ByteArray := prog_4_method_3_code
def yX2_makeCode : MethodName := ⟨RX2, "makeCode", "(LGuardedMoves$Text;I)V"⟩
abbrev cX2_beginCode : ByteArray := prog_4_method_4_code
def yX2_beginCode : MethodName := ⟨RX2, "beginCode", "()V"⟩
abbrev cX2_mayConvert : ByteArray := prog_4_method_5_code
def yX2_mayConvert : MethodName := ⟨RX2, "mayConvert", "(LGuardedMoves$Text;I)Z"⟩
abbrev cX2_stepsAlone : ByteArray := prog_4_method_6_code
def yX2_stepsAlone : MethodName := ⟨RX2, "stepsAlone", "(LGuardedMoves$Text;I)I"⟩
abbrev cX2_lowerRange : ByteArray := prog_4_method_7_code
def yX2_lowerRange : MethodName := ⟨RX2, "lowerRange", "(LGuardedMoves$Text;III)V"⟩
abbrev cX2_lowerOne : ByteArray := prog_4_method_8_code
def yX2_lowerOne : MethodName := ⟨RX2, "lowerOne", "(LGuardedMoves$Text;II)V"⟩
abbrev cX2_valueRegister : ByteArray := prog_4_method_9_code
def yX2_valueRegister : MethodName := ⟨RX2, "valueRegister", "(LGuardedMoves$Text;I)I"⟩
abbrev cX2_setNew : ByteArray := prog_4_method_10_code
def yX2_setNew : MethodName := ⟨RX2, "setNew", "(I)I"⟩
abbrev cX2_testRegister : ByteArray := prog_4_method_11_code
def yX2_testRegister : MethodName := ⟨RX2, "testRegister", "(LGuardedMoves$Text;I)I"⟩
abbrev cX2_lowerPlainly : ByteArray := prog_4_method_12_code
def yX2_lowerPlainly : MethodName := ⟨RX2, "lowerPlainly", "(LGuardedMoves$Text;I)V"⟩
abbrev cX2_lowerWithJumps : ByteArray := prog_4_method_13_code
def yX2_lowerWithJumps : MethodName := ⟨RX2, "lowerWithJumps", "(LGuardedMoves$Text;II)V"⟩
abbrev cX2_lowerGuarded : ByteArray := prog_4_method_14_code
def yX2_lowerGuarded : MethodName := ⟨RX2, "lowerGuarded", "(LGuardedMoves$Text;I)V"⟩
abbrev cX2_guardedOperation : ByteArray := prog_4_method_15_code
def yX2_guardedOperation : MethodName := ⟨RX2, "guardedOperation", "(LGuardedMoves$Text;II)I"⟩
abbrev cX2_guardedWrite : ByteArray := prog_4_method_16_code
def yX2_guardedWrite : MethodName := ⟨RX2, "guardedWrite", "(II)V"⟩
abbrev cX2_isSurelyWord : ByteArray := prog_4_method_17_code
def yX2_isSurelyWord : MethodName := ⟨RX2, "isSurelyWord", "(LGuardedMoves$Text;I)Z"⟩
abbrev cX2_harmless : ByteArray := prog_4_method_18_code
def yX2_harmless : MethodName := ⟨RX2, "harmless", "(IZI)I"⟩
abbrev cX2_convert : ByteArray := prog_4_method_19_code
def yX2_convert : MethodName := ⟨RX2, "convert", "(LGuardedMoves$Text;II)V"⟩
abbrev cX2_guardWithin : ByteArray := prog_4_method_20_code
def yX2_guardWithin : MethodName := ⟨RX2, "guardWithin", "(II)I"⟩
abbrev cX2_chooseSides : ByteArray := prog_4_method_21_code
def yX2_chooseSides : MethodName := ⟨RX2, "chooseSides", "(II)V"⟩
abbrev cX2_moveBack : ByteArray := prog_4_method_22_code
def yX2_moveBack : MethodName := ⟨RX2, "moveBack", "()V"⟩
def RX3 : String := "GuardedMoves$Text"
def TX3 : u_T := fun k => match k with
  | 0 => ("GuardedMoves$Text", "sort", "[I", true)
  | 1 => ("GuardedMoves$Text", "depth", "[I", true)
  | 2 => ("GuardedMoves$Text", "target", "[I", true)
  | 3 => ("GuardedMoves$Text", "operation", "[I", true)
  | 4 => ("GuardedMoves$Text", "second", "[I", true)
  | 5 => ("GuardedMoves$Text", "end", "[I", true)
  | 6 => ("GuardedMoves$Text", "named", "[Z", true)
  | 7 => ("GuardedMoves$Text", "number", "[I", true)
  | _ => ("GuardedMoves$Text", "size", "I", false)
def tyX3 : Nat → FieldType := fun k => match k with
  | 0 => .array .int
  | 1 => .array .int
  | 2 => .array .int
  | 3 => .array .int
  | 4 => .array .int
  | 5 => .array .int
  | 6 => .array .boolean
  | 7 => .array .int
  | _ => .int
abbrev wsX30 : List Cond := u_ws RX3 TX3 9
theorem nmX3 : ∀ a, a < 9 → ∀ b, b < 9 → a ≠ b → (TX3 a).2.1 ≠ (TX3 b).2.1 := by decide +kernel
theorem tyX3_ok : ∀ k, k < 9 → parseFieldDescriptor (TX3 k).2.2.1 = some (tyX3 k) := by decide +kernel
abbrev cX3_init : ByteArray := prog_5_method_1_code
def yX3_init : MethodName := ⟨RX3, "<init>", "()V"⟩
abbrev cX3_begin : ByteArray := prog_5_method_2_code
def yX3_begin : MethodName := ⟨RX3, "begin", "(I)I"⟩
abbrev cX3_putValue : ByteArray := prog_5_method_3_code
def yX3_putValue : MethodName := ⟨RX3, "putValue", "(IZI)V"⟩
def RX4 : String := "GuardedMoves$TextReader"
def TX4 : u_T := fun k => match k with
  | 0 => ("GuardedMoves$TextReader", "tape", "[I", true)
  | 1 => ("GuardedMoves$TextReader", "length", "I", false)
  | 2 => ("GuardedMoves$TextReader", "text", "LGuardedMoves$Text;", false)
  | 3 => ("GuardedMoves$TextReader", "openBranch", "[I", true)
  | 4 => ("GuardedMoves$TextReader", "inSecond", "[Z", true)
  | 5 => ("GuardedMoves$TextReader", "open", "I", false)
  | 6 => ("GuardedMoves$TextReader", "place", "I", false)
  | 7 => ("GuardedMoves$TextReader", "fault", "I", false)
  | _ => ("GuardedMoves$TextReader", "faultPlace", "I", false)
def tyX4 : Nat → FieldType := fun k => match k with
  | 0 => .array .int
  | 1 => .int
  | 2 => .object "GuardedMoves$Text"
  | 3 => .array .int
  | 4 => .array .boolean
  | 5 => .int
  | 6 => .int
  | 7 => .int
  | _ => .int
abbrev wsX40 : List Cond := u_ws RX4 TX4 9
theorem nmX4 : ∀ a, a < 9 → ∀ b, b < 9 → a ≠ b → (TX4 a).2.1 ≠ (TX4 b).2.1 := by decide +kernel
theorem tyX4_ok : ∀ k, k < 9 → parseFieldDescriptor (TX4 k).2.2.1 = some (tyX4 k) := by decide +kernel
abbrev cX4_init : ByteArray := prog_6_method_1_code
def yX4_init : MethodName := ⟨RX4, "<init>", "()V"⟩
abbrev cX4_append : ByteArray := prog_6_method_2_code
def yX4_append : MethodName := ⟨RX4, "append", "(I)V"⟩
abbrev cX4_handOver : ByteArray := prog_6_method_3_code
def yX4_handOver : MethodName := ⟨RX4, "handOver", "(LGuardedMoves$Text;)LGuardedMoves$Text;"⟩
abbrev cX4_takeTape : ByteArray := prog_6_method_4_code
def yX4_takeTape : MethodName := ⟨RX4, "takeTape", "()Z"⟩
abbrev cX4_refuse : ByteArray := prog_6_method_5_code
def yX4_refuse : MethodName := ⟨RX4, "refuse", "(I)Z"⟩
abbrev cX4_nextByte : ByteArray := prog_6_method_6_code
def yX4_nextByte : MethodName := ⟨RX4, "nextByte", "()I"⟩
abbrev cX4_takeByte : ByteArray := prog_6_method_7_code
def yX4_takeByte : MethodName := ⟨RX4, "takeByte", "(I)Z"⟩
abbrev cX4_closeSide : ByteArray := prog_6_method_8_code
def yX4_closeSide : MethodName := ⟨RX4, "closeSide", "()Z"⟩
abbrev cX4_takeStatement : ByteArray := prog_6_method_9_code
def yX4_takeStatement : MethodName := ⟨RX4, "takeStatement", "(I)Z"⟩
abbrev cX4_takeWrite : ByteArray := prog_6_method_10_code
def yX4_takeWrite : MethodName := ⟨RX4, "takeWrite", "(I)Z"⟩
abbrev cX4_takeTelling : ByteArray := prog_6_method_11_code
def yX4_takeTelling : MethodName := ⟨RX4, "takeTelling", "(I)Z"⟩
abbrev cX4_takeBranch : ByteArray := prog_6_method_12_code
def yX4_takeBranch : MethodName := ⟨RX4, "takeBranch", "(I)Z"⟩
abbrev cX4_takeSetting : ByteArray := prog_6_method_13_code
def yX4_takeSetting : MethodName := ⟨RX4, "takeSetting", "(I)Z"⟩
abbrev cX4_takeValue : ByteArray := prog_6_method_14_code
def yX4_takeValue : MethodName := ⟨RX4, "takeValue", "(I)Z"⟩
abbrev cX4_takeNumber : ByteArray := prog_6_method_15_code
def yX4_takeNumber : MethodName := ⟨RX4, "takeNumber", "(IZ)Z"⟩
abbrev cX4_isVariable : ByteArray := prog_6_method_16_code
def yX4_isVariable : MethodName := ⟨RX4, "isVariable", "(I)Z"⟩
abbrev cX4_isFigure : ByteArray := prog_6_method_17_code
def yX4_isFigure : MethodName := ⟨RX4, "isFigure", "(I)Z"⟩
abbrev cX4_placeIn : ByteArray := prog_6_method_18_code
def yX4_placeIn : MethodName := ⟨RX4, "placeIn", "(Ljava/lang/String;I)I"⟩
def RX5 : String := "GuardedMoves"
def TX5 : u_T := fun k => match k with
  | 0 => ("GuardedMoves", "putVariables", "[I", true)
  | 1 => ("GuardedMoves", "putWords", "[I", true)
  | 2 => ("GuardedMoves", "reader", "LGuardedMoves$TextReader;", true)
  | 3 => ("GuardedMoves", "text", "LGuardedMoves$Text;", false)
  | 4 => ("GuardedMoves", "lowering", "LGuardedMoves$Lowering;", true)
  | 5 => ("GuardedMoves", "code", "LGuardedMoves$Code;", true)
  | 6 => ("GuardedMoves", "hasCode", "Z", false)
  | _ => ("GuardedMoves", "latest", "LGuardedMoves$LatestRun;", true)
def tyX5 : Nat → FieldType := fun k => match k with
  | 0 => .array .int
  | 1 => .array .int
  | 2 => .object "GuardedMoves$TextReader"
  | 3 => .object "GuardedMoves$Text"
  | 4 => .object "GuardedMoves$Lowering"
  | 5 => .object "GuardedMoves$Code"
  | 6 => .boolean
  | _ => .object "GuardedMoves$LatestRun"
abbrev wsX50 : List Cond := u_ws RX5 TX5 8
theorem nmX5 : ∀ a, a < 8 → ∀ b, b < 8 → a ≠ b → (TX5 a).2.1 ≠ (TX5 b).2.1 := by decide +kernel
theorem tyX5_ok : ∀ k, k < 8 → parseFieldDescriptor (TX5 k).2.2.1 = some (tyX5 k) := by decide +kernel
abbrev cX5_init : ByteArray := prog_1_method_1_code
def yX5_init : MethodName := ⟨RX5, "<init>", "()V"⟩
abbrev cX5_variable : ByteArray := prog_1_method_2_code
def yX5_variable : MethodName := ⟨RX5, "variable", "(II)V"⟩
abbrev cX5_word : ByteArray := prog_1_method_3_code
def yX5_word : MethodName := ⟨RX5, "word", "(II)V"⟩
abbrev cX5_feed : ByteArray := prog_1_method_4_code
def yX5_feed : MethodName := ⟨RX5, "feed", "(JI)I"⟩
abbrev cX5_read : ByteArray := prog_1_method_5_code
def yX5_read : MethodName := ⟨RX5, "read", "()I"⟩
abbrev cX5_fault : ByteArray := prog_1_method_6_code
def yX5_fault : MethodName := ⟨RX5, "fault", "()I"⟩
abbrev cX5_statement : ByteArray := prog_1_method_7_code
def yX5_statement : MethodName := ⟨RX5, "statement", "(II)I"⟩
abbrev cX5_lower : ByteArray := prog_1_method_8_code
def yX5_lower : MethodName := ⟨RX5, "lower", "(I)I"⟩
abbrev cX5_trim : ByteArray := prog_1_method_9_code
def yX5_trim : MethodName := ⟨RX5, "trim", "()I"⟩
abbrev cX5_step : ByteArray := prog_1_method_10_code
def yX5_step : MethodName := ⟨RX5, "step", "(II)I"⟩
abbrev cX5_tell : ByteArray := prog_1_method_11_code
def yX5_tell : MethodName := ⟨RX5, "tell", "()I"⟩
abbrev cX5_run : ByteArray := prog_1_method_12_code
def yX5_run : MethodName := ⟨RX5, "run", "()I"⟩
abbrev cX5_left : ByteArray := prog_1_method_13_code
def yX5_left : MethodName := ⟨RX5, "left", "(I)I"⟩
abbrev cX5_kept : ByteArray := prog_1_method_14_code
def yX5_kept : MethodName := ⟨RX5, "kept", "(I)I"⟩
abbrev cX5_output : ByteArray := prog_1_method_15_code
def yX5_output : MethodName := ⟨RX5, "output", "(I)I"⟩
abbrev cX5_count : ByteArray := prog_1_method_16_code
def yX5_count : MethodName := ⟨RX5, "count", "(I)I"⟩
abbrev cX5_isWord : ByteArray := prog_1_method_17_code
def yX5_isWord : MethodName := ⟨RX5, "isWord", "(I)Z"⟩
abbrev cX5_divides : ByteArray := prog_1_method_18_code
def yX5_divides : MethodName := ⟨RX5, "divides", "(I)Z"⟩
abbrev cX5_resultOf : ByteArray := prog_1_method_19_code
def yX5_resultOf : MethodName := ⟨RX5, "resultOf", "(III)I"⟩
def RX6 : String := "GuardedMovesModel"
def TX6 : u_T := fun k => match k with
  | 0 => ("GuardedMovesModel", "thrown", "I", false)
  | 1 => ("GuardedMovesModel", "putVariable", "[I", true)
  | 2 => ("GuardedMovesModel", "putWord", "[I", true)
  | 3 => ("GuardedMovesModel", "tape", "[I", true)
  | 4 => ("GuardedMovesModel", "tapeSize", "I", false)
  | 5 => ("GuardedMovesModel", "at", "I", false)
  | 6 => ("GuardedMovesModel", "faultIs", "I", false)
  | 7 => ("GuardedMovesModel", "faultAt", "I", false)
  | 8 => ("GuardedMovesModel", "fresh", "I", false)
  | 9 => ("GuardedMovesModel", "statements", "I", false)
  | 10 => ("GuardedMovesModel", "freshAt", "[I", true)
  | 11 => ("GuardedMovesModel", "told", "[I", true)
  | 12 => ("GuardedMovesModel", "freshFirst", "[I", true)
  | 13 => ("GuardedMovesModel", "freshSecond", "[I", true)
  | 14 => ("GuardedMovesModel", "firstEnd", "[I", true)
  | 15 => ("GuardedMovesModel", "secondEnd", "[I", true)
  | 16 => ("GuardedMovesModel", "openAt", "[I", true)
  | 17 => ("GuardedMovesModel", "openSecond", "[Z", true)
  | 18 => ("GuardedMovesModel", "opens", "I", false)
  | 19 => ("GuardedMovesModel", "step", "[I", true)
  | 20 => ("GuardedMovesModel", "steps", "I", false)
  | 21 => ("GuardedMovesModel", "registers", "I", false)
  | 22 => ("GuardedMovesModel", "isCoded", "Z", false)
  | 23 => ("GuardedMovesModel", "isConverted", "[Z", true)
  | 24 => ("GuardedMovesModel", "statementNow", "I", false)
  | 25 => ("GuardedMovesModel", "map", "[I", true)
  | 26 => ("GuardedMovesModel", "sides", "I", false)
  | 27 => ("GuardedMovesModel", "sideOf", "[I", true)
  | 28 => ("GuardedMovesModel", "isSecond", "[Z", true)
  | 29 => ("GuardedMovesModel", "isMoved", "[Z", true)
  | 30 => ("GuardedMovesModel", "sideTest", "[I", true)
  | 31 => ("GuardedMovesModel", "sideGuard", "[I", true)
  | 32 => ("GuardedMovesModel", "sideJump", "[I", true)
  | 33 => ("GuardedMovesModel", "mapBefore", "[I", true)
  | 34 => ("GuardedMovesModel", "mapFirst", "[I", true)
  | 35 => ("GuardedMovesModel", "isGone", "[Z", true)
  | 36 => ("GuardedMovesModel", "left", "[I", true)
  | 37 => ("GuardedMovesModel", "kept", "[I", true)
  | 38 => ("GuardedMovesModel", "output", "[I", true)
  | 39 => ("GuardedMovesModel", "outputs", "I", false)
  | 40 => ("GuardedMovesModel", "endedAt", "I", false)
  | 41 => ("GuardedMovesModel", "done", "I", false)
  | 42 => ("GuardedMovesModel", "ended", "I", false)
  | 43 => ("GuardedMovesModel", "register", "[I", true)
  | _ => ("GuardedMovesModel", "tookFirst", "[Z", true)
def tyX6 : Nat → FieldType := fun k => match k with
  | 0 => .int
  | 1 => .array .int
  | 2 => .array .int
  | 3 => .array .int
  | 4 => .int
  | 5 => .int
  | 6 => .int
  | 7 => .int
  | 8 => .int
  | 9 => .int
  | 10 => .array .int
  | 11 => .array .int
  | 12 => .array .int
  | 13 => .array .int
  | 14 => .array .int
  | 15 => .array .int
  | 16 => .array .int
  | 17 => .array .boolean
  | 18 => .int
  | 19 => .array .int
  | 20 => .int
  | 21 => .int
  | 22 => .boolean
  | 23 => .array .boolean
  | 24 => .int
  | 25 => .array .int
  | 26 => .int
  | 27 => .array .int
  | 28 => .array .boolean
  | 29 => .array .boolean
  | 30 => .array .int
  | 31 => .array .int
  | 32 => .array .int
  | 33 => .array .int
  | 34 => .array .int
  | 35 => .array .boolean
  | 36 => .array .int
  | 37 => .array .int
  | 38 => .array .int
  | 39 => .int
  | 40 => .int
  | 41 => .int
  | 42 => .int
  | 43 => .array .int
  | _ => .array .boolean
abbrev wsX60 : List Cond := u_ws RX6 TX6 45
theorem nmX6 : ∀ a, a < 45 → ∀ b, b < 45 → a ≠ b → (TX6 a).2.1 ≠ (TX6 b).2.1 := by decide +kernel
theorem tyX6_ok : ∀ k, k < 45 → parseFieldDescriptor (TX6 k).2.2.1 = some (tyX6 k) := by decide +kernel
abbrev cX6_init : ByteArray := prog_8_method_1_code
def yX6_init : MethodName := ⟨RX6, "<init>", "()V"⟩
abbrev cX6_thrown : ByteArray := prog_8_method_2_code
def yX6_thrown : MethodName := ⟨RX6, "thrown", "()I"⟩
abbrev cX6_isIn : ByteArray := prog_8_method_3_code
def yX6_isIn : MethodName := ⟨RX6, "isIn", "(JJJ)Z"⟩
abbrev cX6_may : ByteArray := prog_8_method_4_code
def yX6_may : MethodName := ⟨RX6, "may", "(ZZ)Z"⟩
abbrev cX6_variable : ByteArray := prog_8_method_5_code
def yX6_variable : MethodName := ⟨RX6, "variable", "(II)V"⟩
abbrev cX6_word : ByteArray := prog_8_method_6_code
def yX6_word : MethodName := ⟨RX6, "word", "(II)V"⟩
abbrev cX6_feed : ByteArray := prog_8_method_7_code
def yX6_feed : MethodName := ⟨RX6, "feed", "(JI)I"⟩
abbrev cX6_fail : ByteArray := prog_8_method_8_code
def yX6_fail : MethodName := ⟨RX6, "fail", "(II)V"⟩
abbrev cX6_next : ByteArray := prog_8_method_9_code
def yX6_next : MethodName := ⟨RX6, "next", "()I"⟩
abbrev cX6_take : ByteArray := prog_8_method_10_code
def yX6_take : MethodName := ⟨RX6, "take", "(I)V"⟩
abbrev cX6_isVariable : ByteArray := prog_8_method_11_code
def yX6_isVariable : MethodName := ⟨RX6, "isVariable", "(I)Z"⟩
abbrev cX6_isFigure : ByteArray := prog_8_method_12_code
def yX6_isFigure : MethodName := ⟨RX6, "isFigure", "(I)Z"⟩
abbrev cX6_readNumber : ByteArray := prog_8_method_13_code
def yX6_readNumber : MethodName := ⟨RX6, "readNumber", "(IIZ)V"⟩
abbrev cX6_readValue : ByteArray := prog_8_method_14_code
def yX6_readValue : MethodName := ⟨RX6, "readValue", "(II)V"⟩
abbrev cX6_opOf : ByteArray := prog_8_method_15_code
def yX6_opOf : MethodName := ⟨RX6, "opOf", "(I)I"⟩
abbrev cX6_relOf : ByteArray := prog_8_method_16_code
def yX6_relOf : MethodName := ⟨RX6, "relOf", "(I)I"⟩
abbrev cX6_readSet : ByteArray := prog_8_method_17_code
def yX6_readSet : MethodName := ⟨RX6, "readSet", "(I)V"⟩
abbrev cX6_readTest : ByteArray := prog_8_method_18_code
def yX6_readTest : MethodName := ⟨RX6, "readTest", "(I)V"⟩
abbrev cX6_readStatement : ByteArray := prog_8_method_19_code
def yX6_readStatement : MethodName := ⟨RX6, "readStatement", "(I)V"⟩
abbrev cX6_closeSide : ByteArray := prog_8_method_20_code
def yX6_closeSide : MethodName := ⟨RX6, "closeSide", "()V"⟩
abbrev cX6_read : ByteArray := prog_8_method_21_code
def yX6_read : MethodName := ⟨RX6, "read", "()I"⟩
abbrev cX6_fault : ByteArray := prog_8_method_22_code
def yX6_fault : MethodName := ⟨RX6, "fault", "()I"⟩
abbrev cX6_of : ByteArray := prog_8_method_23_code
def yX6_of : MethodName := ⟨RX6, "of", "(II)I"⟩
abbrev cX6_emit : ByteArray := prog_8_method_24_code
def yX6_emit : MethodName := ⟨RX6, "emit", "(IIIII)I"⟩
abbrev cX6_fresh1 : ByteArray := prog_8_method_25_code
def yX6_fresh1 : MethodName := ⟨RX6, "fresh1", "()I"⟩
abbrev cX6_setNew : ByteArray := prog_8_method_26_code
def yX6_setNew : MethodName := ⟨RX6, "setNew", "(I)I"⟩
abbrev cX6_value : ByteArray := prog_8_method_27_code
def yX6_value : MethodName := ⟨RX6, "value", "(II)I"⟩
abbrev cX6_isOnSide : ByteArray := prog_8_method_28_code
def yX6_isOnSide : MethodName := ⟨RX6, "isOnSide", "()Z"⟩
abbrev cX6_guarded : ByteArray := prog_8_method_29_code
def yX6_guarded : MethodName := ⟨RX6, "guarded", "(II)I"⟩
abbrev cX6_beginTest : ByteArray := prog_8_method_30_code
def yX6_beginTest : MethodName := ⟨RX6, "beginTest", "(I)V"⟩
abbrev cX6_endFirst : ByteArray := prog_8_method_31_code
def yX6_endFirst : MethodName := ⟨RX6, "endFirst", "(I)V"⟩
abbrev cX6_endSecond : ByteArray := prog_8_method_32_code
def yX6_endSecond : MethodName := ⟨RX6, "endSecond", "(I)V"⟩
abbrev cX6_harmless : ByteArray := prog_8_method_33_code
def yX6_harmless : MethodName := ⟨RX6, "harmless", "(II)I"⟩
abbrev cX6_isPlainIndex : ByteArray := prog_8_method_34_code
def yX6_isPlainIndex : MethodName := ⟨RX6, "isPlainIndex", "(I)Z"⟩
abbrev cX6_target : ByteArray := prog_8_method_35_code
def yX6_target : MethodName := ⟨RX6, "target", "(I)I"⟩
abbrev cX6_lowerSet : ByteArray := prog_8_method_36_code
def yX6_lowerSet : MethodName := ⟨RX6, "lowerSet", "(I)V"⟩
abbrev cX6_lowerOne : ByteArray := prog_8_method_37_code
def yX6_lowerOne : MethodName := ⟨RX6, "lowerOne", "(I)V"⟩
abbrev cX6_lowerStore : ByteArray := prog_8_method_38_code
def yX6_lowerStore : MethodName := ⟨RX6, "lowerStore", "(III)V"⟩
abbrev cX6_lowerAll : ByteArray := prog_8_method_39_code
def yX6_lowerAll : MethodName := ⟨RX6, "lowerAll", "(II)V"⟩
abbrev cX6_mayConvert : ByteArray := prog_8_method_40_code
def yX6_mayConvert : MethodName := ⟨RX6, "mayConvert", "(II)Z"⟩
abbrev cX6_lower : ByteArray := prog_8_method_41_code
def yX6_lower : MethodName := ⟨RX6, "lower", "(I)I"⟩
abbrev cX6_names : ByteArray := prog_8_method_42_code
def yX6_names : MethodName := ⟨RX6, "names", "(II)Z"⟩
abbrev cX6_isUseless : ByteArray := prog_8_method_43_code
def yX6_isUseless : MethodName := ⟨RX6, "isUseless", "(I)Z"⟩
abbrev cX6_trim : ByteArray := prog_8_method_44_code
def yX6_trim : MethodName := ⟨RX6, "trim", "()I"⟩
abbrev cX6_goneBefore : ByteArray := prog_8_method_45_code
def yX6_goneBefore : MethodName := ⟨RX6, "goneBefore", "(I)I"⟩
abbrev cX6_step : ByteArray := prog_8_method_46_code
def yX6_step : MethodName := ⟨RX6, "step", "(II)I"⟩
abbrev cX6_statement : ByteArray := prog_8_method_47_code
def yX6_statement : MethodName := ⟨RX6, "statement", "(II)I"⟩
abbrev cX6_begin : ByteArray := prog_8_method_48_code
def yX6_begin : MethodName := ⟨RX6, "begin", "()V"⟩
abbrev cX6_leave : ByteArray := prog_8_method_49_code
def yX6_leave : MethodName := ⟨RX6, "leave", "()V"⟩
abbrev cX6_stop : ByteArray := prog_8_method_50_code
def yX6_stop : MethodName := ⟨RX6, "stop", "(II)V"⟩
abbrev cX6_reach : ByteArray := prog_8_method_51_code
def yX6_reach : MethodName := ⟨RX6, "reach", "(IIII)I"⟩
abbrev cX6_isWord : ByteArray := prog_8_method_52_code
def yX6_isWord : MethodName := ⟨RX6, "isWord", "(II)Z"⟩
abbrev cX6_toldValue : ByteArray := prog_8_method_53_code
def yX6_toldValue : MethodName := ⟨RX6, "toldValue", "(II)I"⟩
abbrev cX6_doStatement : ByteArray := prog_8_method_54_code
def yX6_doStatement : MethodName := ⟨RX6, "doStatement", "(I)I"⟩
abbrev cX6_tell : ByteArray := prog_8_method_55_code
def yX6_tell : MethodName := ⟨RX6, "tell", "()I"⟩
abbrev cX6_behind : ByteArray := prog_8_method_56_code
def yX6_behind : MethodName := ⟨RX6, "behind", "(I)I"⟩
abbrev cX6_run : ByteArray := prog_8_method_57_code
def yX6_run : MethodName := ⟨RX6, "run", "()I"⟩
abbrev cX6_doStep : ByteArray := prog_8_method_58_code
def yX6_doStep : MethodName := ⟨RX6, "doStep", "(I)I"⟩
abbrev cX6_left : ByteArray := prog_8_method_59_code
def yX6_left : MethodName := ⟨RX6, "left", "(I)I"⟩
abbrev cX6_kept : ByteArray := prog_8_method_60_code
def yX6_kept : MethodName := ⟨RX6, "kept", "(I)I"⟩
abbrev cX6_output : ByteArray := prog_8_method_61_code
def yX6_output : MethodName := ⟨RX6, "output", "(I)I"⟩
abbrev cX6_countJumps : ByteArray := prog_8_method_62_code
def yX6_countJumps : MethodName := ⟨RX6, "countJumps", "()I"⟩
abbrev cX6_countConverted : ByteArray := prog_8_method_63_code
def yX6_countConverted : MethodName := ⟨RX6, "countConverted", "()I"⟩
abbrev cX6_count : ByteArray := prog_8_method_64_code
def yX6_count : MethodName := ⟨RX6, "count", "(I)I"⟩
def RJ9 : String := "java/lang/Math"
def TJ9 : u_T := fun k => match k with
  | _ => ("", "", "", false)
def tyJ9 : Nat → FieldType := fun k => match k with
  | _ => .int
abbrev wsJ90 : List Cond := u_ws RJ9 TJ9 0
theorem nmJ9 : ∀ a, a < 0 → ∀ b, b < 0 → a ≠ b → (TJ9 a).2.1 ≠ (TJ9 b).2.1 := by decide +kernel
theorem tyJ9_ok : ∀ k, k < 0 → parseFieldDescriptor (TJ9 k).2.2.1 = some (tyJ9 k) := by decide +kernel
abbrev cJ9_max_7cf53 : ByteArray := prog_13_method_65_code
def yJ9_max_7cf53 : MethodName := ⟨RJ9, "max", "(II)I"⟩
abbrev cJ9_min_f86c9 : ByteArray := prog_13_method_70_code
def yJ9_min_f86c9 : MethodName := ⟨RJ9, "min", "(JJ)J"⟩
def RJ0 : String := "java/lang/String"
def TJ0 : u_T := fun k => match k with
  | _ => ("", "", "", false)
def tyJ0 : Nat → FieldType := fun k => match k with
  | _ => .int
abbrev wsJ00 : List Cond := u_ws RJ0 TJ0 0
theorem nmJ0 : ∀ a, a < 0 → ∀ b, b < 0 → a ≠ b → (TJ0 a).2.1 ≠ (TJ0 b).2.1 := by decide +kernel
theorem tyJ0_ok : ∀ k, k < 0 → parseFieldDescriptor (TJ0 k).2.2.1 = some (tyJ0 k) := by decide +kernel
abbrev cJ0_length_8abf5 : ByteArray := prog_15_method_54_code
def yJ0_length_8abf5 : MethodName := ⟨RJ0, "length", "()I"⟩
abbrev cJ0_charAt_5068e : ByteArray := prog_15_method_56_code
def yJ0_charAt_5068e : MethodName := ⟨RJ0, "charAt", "(I)C"⟩
abbrev cJ0_coder_7d493 : ByteArray := prog_15_method_152_code
def yJ0_coder_7d493 : MethodName := ⟨RJ0, "coder", "()B"⟩
abbrev cJ0_isLatin1_aae02 : ByteArray := prog_15_method_154_code
def yJ0_isLatin1_aae02 : MethodName := ⟨RJ0, "isLatin1", "()Z"⟩
abbrev cJ0_checkIndex_df160 : ByteArray := prog_15_method_155_code
def yJ0_checkIndex_df160 : MethodName := ⟨RJ0, "checkIndex", "(II)V"⟩
def RJ1 : String := "java/lang/StringLatin1"
def TJ1 : u_T := fun k => match k with
  | _ => ("", "", "", false)
def tyJ1 : Nat → FieldType := fun k => match k with
  | _ => .int
abbrev wsJ10 : List Cond := u_ws RJ1 TJ1 0
theorem nmJ1 : ∀ a, a < 0 → ∀ b, b < 0 → a ≠ b → (TJ1 a).2.1 ≠ (TJ1 b).2.1 := by decide +kernel
theorem tyJ1_ok : ∀ k, k < 0 → parseFieldDescriptor (TJ1 k).2.2.1 = some (tyJ1 k) := by decide +kernel
abbrev cJ1_charAt_3b067 : ByteArray := prog_16_method_2_code
def yJ1_charAt_3b067 : MethodName := ⟨RJ1, "charAt", "([BI)C"⟩
def RJ2 : String := "java/lang/StringUTF16"
def TJ2 : u_T := fun k => match k with
  | _ => ("", "", "", false)
def tyJ2 : Nat → FieldType := fun k => match k with
  | _ => .int
abbrev wsJ20 : List Cond := u_ws RJ2 TJ2 0
theorem nmJ2 : ∀ a, a < 0 → ∀ b, b < 0 → a ≠ b → (TJ2 a).2.1 ≠ (TJ2 b).2.1 := by decide +kernel
theorem tyJ2_ok : ∀ k, k < 0 → parseFieldDescriptor (TJ2 k).2.2.1 = some (tyJ2 k) := by decide +kernel
abbrev cJ2_getChar_3b067 : ByteArray := prog_17_method_5_code
def yJ2_getChar_3b067 : MethodName := ⟨RJ2, "getChar", "([BI)C"⟩
abbrev cJ2_length_9d52b : ByteArray := prog_17_method_6_code
def yJ2_length_9d52b : MethodName := ⟨RJ2, "length", "([B)I"⟩
abbrev cJ2_charAt_3b067 : ByteArray := prog_17_method_83_code
def yJ2_charAt_3b067 : MethodName := ⟨RJ2, "charAt", "([BI)C"⟩
abbrev cJ2_checkIndex_2214a : ByteArray := prog_17_method_91_code
def yJ2_checkIndex_2214a : MethodName := ⟨RJ2, "checkIndex", "(I[B)V"⟩
def RJ10 : String := "java/lang/System"
def TJ10 : u_T := fun k => match k with
  | _ => ("", "", "", false)
def tyJ10 : Nat → FieldType := fun k => match k with
  | _ => .int
abbrev wsJ100 : List Cond := u_ws RJ10 TJ10 0
theorem nmJ10 : ∀ a, a < 0 → ∀ b, b < 0 → a ≠ b → (TJ10 a).2.1 ≠ (TJ10 b).2.1 := by decide +kernel
theorem tyJ10_ok : ∀ k, k < 0 → parseFieldDescriptor (TJ10 k).2.2.1 = some (tyJ10 k) := by decide +kernel
def RJ7 : String := "java/util/Arrays"
def TJ7 : u_T := fun k => match k with
  | _ => ("", "", "", false)
def tyJ7 : Nat → FieldType := fun k => match k with
  | _ => .int
abbrev wsJ70 : List Cond := u_ws RJ7 TJ7 0
theorem nmJ7 : ∀ a, a < 0 → ∀ b, b < 0 → a ≠ b → (TJ7 a).2.1 ≠ (TJ7 b).2.1 := by decide +kernel
theorem tyJ7_ok : ∀ k, k < 0 → parseFieldDescriptor (TJ7 k).2.2.1 = some (tyJ7 k) := by decide +kernel
abbrev cJ7_fill_53178 : ByteArray := prog_20_method_103_code
def yJ7_fill_53178 : MethodName := ⟨RJ7, "fill", "([II)V"⟩
def RJ3 : String := "jdk/internal/util/Preconditions"
def TJ3 : u_T := fun k => match k with
  | _ => ("", "", "", false)
def tyJ3 : Nat → FieldType := fun k => match k with
  | _ => .int
abbrev wsJ30 : List Cond := u_ws RJ3 TJ3 0
theorem nmJ3 : ∀ a, a < 0 → ∀ b, b < 0 → a ≠ b → (TJ3 a).2.1 ≠ (TJ3 b).2.1 := by decide +kernel
theorem tyJ3_ok : ∀ k, k < 0 → parseFieldDescriptor (TJ3 k).2.2.1 = some (tyJ3 k) := by decide +kernel
abbrev cJ3_checkIndex_8e157 : ByteArray := prog_21_method_11_code
def yJ3_checkIndex_8e157 : MethodName := ⟨RJ3, "checkIndex", "(IILjava/util/function/BiFunction;)I"⟩
def RL : String := "GuardedMovesLaw"
abbrev cL_variable : ByteArray := method_3_code
def yL_variable : MethodName := ⟨RL, "variable", "(LGuardedMoves;II)I"⟩
abbrev cL_word : ByteArray := method_4_code
def yL_word : MethodName := ⟨RL, "word", "(LGuardedMoves;II)I"⟩
abbrev cL_feed : ByteArray := method_5_code
def yL_feed : MethodName := ⟨RL, "feed", "(LGuardedMoves;JI[J)I"⟩
abbrev cL_statement : ByteArray := method_6_code
def yL_statement : MethodName := ⟨RL, "statement", "(LGuardedMoves;II[J)I"⟩
abbrev cL_lower : ByteArray := method_7_code
def yL_lower : MethodName := ⟨RL, "lower", "(LGuardedMoves;I[J)I"⟩
abbrev cL_step : ByteArray := method_8_code
def yL_step : MethodName := ⟨RL, "step", "(LGuardedMoves;II[J)I"⟩
abbrev cL_run : ByteArray := method_9_code
def yL_run : MethodName := ⟨RL, "run", "(LGuardedMoves;[J)I"⟩
abbrev cL_left : ByteArray := method_10_code
def yL_left : MethodName := ⟨RL, "left", "(LGuardedMoves;I[J)I"⟩
abbrev cL_kept : ByteArray := method_11_code
def yL_kept : MethodName := ⟨RL, "kept", "(LGuardedMoves;I[J)I"⟩
abbrev cL_output : ByteArray := method_12_code
def yL_output : MethodName := ⟨RL, "output", "(LGuardedMoves;I[J)I"⟩
abbrev cL_count : ByteArray := method_13_code
def yL_count : MethodName := ⟨RL, "count", "(LGuardedMoves;I[J)I"⟩
abbrev cL_law : ByteArray := code
def yL_law : MethodName := ⟨RL, "law", "([I)Z"⟩
abbrev vwCl : List vw_C := [(RX0, TX0, 7), (RX1, TX1, 7), (RX2, TX2, 6), (RX3, TX3, 9), (RX4, TX4, 9), (RX5, TX5, 8), (RX6, TX6, 45)]
end
section
theorem dX0_init_0 : decode cX0_init 0 = .ok (.aload_n 0, 1) := by decide +kernel
theorem dX0_init_1 : decode cX0_init 1 = .ok (.invokespecial 3, 3) := by decide +kernel
theorem dX0_init_4 : decode cX0_init 4 = .ok (.aload_n 0, 1) := by decide +kernel
theorem dX0_init_5 : decode cX0_init 5 = .ok (.bipush 6, 2) := by decide +kernel
theorem dX0_init_7 : decode cX0_init 7 = .ok (.sipush 720, 3) := by decide +kernel
theorem dX0_init_10 : decode cX0_init 10 = .ok (.multianewarray 11 2, 4) := by decide +kernel
theorem dX0_init_14 : decode cX0_init 14 = .ok (.putfield 13, 3) := by decide +kernel
theorem dX0_init_17 : decode cX0_init 17 = .ok (.aload_n 0, 1) := by decide +kernel
theorem dX0_init_18 : decode cX0_init 18 = .ok (.iconst 0, 1) := by decide +kernel
theorem dX0_init_19 : decode cX0_init 19 = .ok (.putfield 16, 3) := by decide +kernel
theorem dX0_init_22 : decode cX0_init 22 = .ok (.aload_n 0, 1) := by decide +kernel
theorem dX0_init_23 : decode cX0_init 23 = .ok (.bipush 16, 2) := by decide +kernel
theorem dX0_init_25 : decode cX0_init 25 = .ok (.putfield 20, 3) := by decide +kernel
theorem dX0_init_28 : decode cX0_init 28 = .ok (.aload_n 0, 1) := by decide +kernel
theorem dX0_init_29 : decode cX0_init 29 = .ok (.iconst 0, 1) := by decide +kernel
theorem dX0_init_30 : decode cX0_init 30 = .ok (.putfield 23, 3) := by decide +kernel
theorem dX0_init_33 : decode cX0_init 33 = .ok (.aload_n 0, 1) := by decide +kernel
theorem dX0_init_34 : decode cX0_init 34 = .ok (.sipush 736, 3) := by decide +kernel
theorem dX0_init_37 : decode cX0_init 37 = .ok (.newarray .boolean, 2) := by decide +kernel
theorem dX0_init_39 : decode cX0_init 39 = .ok (.putfield 26, 3) := by decide +kernel
theorem dX0_init_42 : decode cX0_init 42 = .ok (.aload_n 0, 1) := by decide +kernel
theorem dX0_init_43 : decode cX0_init 43 = .ok (.sipush 720, 3) := by decide +kernel
theorem dX0_init_46 : decode cX0_init 46 = .ok (.newarray .boolean, 2) := by decide +kernel
theorem dX0_init_48 : decode cX0_init 48 = .ok (.putfield 30, 3) := by decide +kernel
theorem dX0_init_51 : decode cX0_init 51 = .ok (.aload_n 0, 1) := by decide +kernel
theorem dX0_init_52 : decode cX0_init 52 = .ok (.sipush 721, 3) := by decide +kernel
theorem dX0_init_55 : decode cX0_init 55 = .ok (.newarray .int, 2) := by decide +kernel
theorem dX0_init_57 : decode cX0_init 57 = .ok (.putfield 33, 3) := by decide +kernel
theorem dX0_init_60 : decode cX0_init 60 = .ok (.return_, 1) := by decide +kernel
theorem dX0_clear_0 : decode cX0_clear 0 = .ok (.aload_n 0, 1) := by decide +kernel
theorem dX0_clear_1 : decode cX0_clear 1 = .ok (.iconst 0, 1) := by decide +kernel
theorem dX0_clear_2 : decode cX0_clear 2 = .ok (.putfield 16, 3) := by decide +kernel
theorem dX0_clear_5 : decode cX0_clear 5 = .ok (.aload_n 0, 1) := by decide +kernel
theorem dX0_clear_6 : decode cX0_clear 6 = .ok (.bipush 16, 2) := by decide +kernel
theorem dX0_clear_8 : decode cX0_clear 8 = .ok (.putfield 20, 3) := by decide +kernel
theorem dX0_clear_11 : decode cX0_clear 11 = .ok (.return_, 1) := by decide +kernel
theorem dX0_add_0 : decode cX0_add 0 = .ok (.aload_n 0, 1) := by decide +kernel
theorem dX0_add_1 : decode cX0_add 1 = .ok (.getfield 16, 3) := by decide +kernel
theorem dX0_add_4 : decode cX0_add 4 = .ok (.istore 6, 2) := by decide +kernel
theorem dX0_add_6 : decode cX0_add 6 = .ok (.iload 6, 2) := by decide +kernel
theorem dX0_add_8 : decode cX0_add 8 = .ok (.sipush 720, 3) := by decide +kernel
theorem dX0_add_11 : decode cX0_add 11 = .ok (.if_icmp .ge 78, 3) := by decide +kernel
theorem dX0_add_14 : decode cX0_add 14 = .ok (.aload_n 0, 1) := by decide +kernel
theorem dX0_add_15 : decode cX0_add 15 = .ok (.getfield 13, 3) := by decide +kernel
theorem dX0_add_18 : decode cX0_add 18 = .ok (.iconst 0, 1) := by decide +kernel
theorem dX0_add_19 : decode cX0_add 19 = .ok (.aaload, 1) := by decide +kernel
theorem dX0_add_20 : decode cX0_add 20 = .ok (.iload 6, 2) := by decide +kernel
theorem dX0_add_22 : decode cX0_add 22 = .ok (.iload_n 1, 1) := by decide +kernel
theorem dX0_add_23 : decode cX0_add 23 = .ok (.iastore, 1) := by decide +kernel
theorem dX0_add_24 : decode cX0_add 24 = .ok (.aload_n 0, 1) := by decide +kernel
theorem dX0_add_25 : decode cX0_add 25 = .ok (.getfield 13, 3) := by decide +kernel
theorem dX0_add_28 : decode cX0_add 28 = .ok (.iconst 1, 1) := by decide +kernel
theorem dX0_add_29 : decode cX0_add 29 = .ok (.aaload, 1) := by decide +kernel
theorem dX0_add_30 : decode cX0_add 30 = .ok (.iload 6, 2) := by decide +kernel
theorem dX0_add_32 : decode cX0_add 32 = .ok (.iload_n 2, 1) := by decide +kernel
theorem dX0_add_33 : decode cX0_add 33 = .ok (.iastore, 1) := by decide +kernel
theorem dX0_add_34 : decode cX0_add 34 = .ok (.aload_n 0, 1) := by decide +kernel
theorem dX0_add_35 : decode cX0_add 35 = .ok (.getfield 13, 3) := by decide +kernel
theorem dX0_add_38 : decode cX0_add 38 = .ok (.iconst 2, 1) := by decide +kernel
theorem dX0_add_39 : decode cX0_add 39 = .ok (.aaload, 1) := by decide +kernel
theorem dX0_add_40 : decode cX0_add 40 = .ok (.iload 6, 2) := by decide +kernel
theorem dX0_add_42 : decode cX0_add 42 = .ok (.iload_n 3, 1) := by decide +kernel
theorem dX0_add_43 : decode cX0_add 43 = .ok (.iastore, 1) := by decide +kernel
theorem dX0_add_44 : decode cX0_add 44 = .ok (.aload_n 0, 1) := by decide +kernel
theorem dX0_add_45 : decode cX0_add 45 = .ok (.getfield 13, 3) := by decide +kernel
theorem dX0_add_48 : decode cX0_add 48 = .ok (.iconst 3, 1) := by decide +kernel
theorem dX0_add_49 : decode cX0_add 49 = .ok (.aaload, 1) := by decide +kernel
theorem dX0_add_50 : decode cX0_add 50 = .ok (.iload 6, 2) := by decide +kernel
theorem dX0_add_52 : decode cX0_add 52 = .ok (.iload 4, 2) := by decide +kernel
theorem dX0_add_54 : decode cX0_add 54 = .ok (.iastore, 1) := by decide +kernel
theorem dX0_add_55 : decode cX0_add 55 = .ok (.aload_n 0, 1) := by decide +kernel
theorem dX0_add_56 : decode cX0_add 56 = .ok (.getfield 13, 3) := by decide +kernel
theorem dX0_add_59 : decode cX0_add 59 = .ok (.iconst 4, 1) := by decide +kernel
theorem dX0_add_60 : decode cX0_add 60 = .ok (.aaload, 1) := by decide +kernel
theorem dX0_add_61 : decode cX0_add 61 = .ok (.iload 6, 2) := by decide +kernel
theorem dX0_add_63 : decode cX0_add 63 = .ok (.iload 5, 2) := by decide +kernel
theorem dX0_add_65 : decode cX0_add 65 = .ok (.iastore, 1) := by decide +kernel
theorem dX0_add_66 : decode cX0_add 66 = .ok (.aload_n 0, 1) := by decide +kernel
theorem dX0_add_67 : decode cX0_add 67 = .ok (.getfield 13, 3) := by decide +kernel
theorem dX0_add_70 : decode cX0_add 70 = .ok (.iconst 5, 1) := by decide +kernel
theorem dX0_add_71 : decode cX0_add 71 = .ok (.aaload, 1) := by decide +kernel
theorem dX0_add_72 : decode cX0_add 72 = .ok (.iload 6, 2) := by decide +kernel
theorem dX0_add_74 : decode cX0_add 74 = .ok (.aload_n 0, 1) := by decide +kernel
theorem dX0_add_75 : decode cX0_add 75 = .ok (.getfield 23, 3) := by decide +kernel
theorem dX0_add_78 : decode cX0_add 78 = .ok (.iastore, 1) := by decide +kernel
theorem dX0_add_79 : decode cX0_add 79 = .ok (.aload_n 0, 1) := by decide +kernel
theorem dX0_add_80 : decode cX0_add 80 = .ok (.dup, 1) := by decide +kernel
theorem dX0_add_81 : decode cX0_add 81 = .ok (.getfield 16, 3) := by decide +kernel
theorem dX0_add_84 : decode cX0_add 84 = .ok (.iconst 1, 1) := by decide +kernel
theorem dX0_add_85 : decode cX0_add 85 = .ok (.iadd, 1) := by decide +kernel
theorem dX0_add_86 : decode cX0_add 86 = .ok (.putfield 16, 3) := by decide +kernel
theorem dX0_add_89 : decode cX0_add 89 = .ok (.iload 6, 2) := by decide +kernel
theorem dX0_add_91 : decode cX0_add 91 = .ok (.ireturn, 1) := by decide +kernel
theorem dX0_addToNew_0 : decode cX0_addToNew 0 = .ok (.aload_n 0, 1) := by decide +kernel
theorem dX0_addToNew_1 : decode cX0_addToNew 1 = .ok (.getfield 20, 3) := by decide +kernel
theorem dX0_addToNew_4 : decode cX0_addToNew 4 = .ok (.istore 5, 2) := by decide +kernel
theorem dX0_addToNew_6 : decode cX0_addToNew 6 = .ok (.aload_n 0, 1) := by decide +kernel
theorem dX0_addToNew_7 : decode cX0_addToNew 7 = .ok (.dup, 1) := by decide +kernel
theorem dX0_addToNew_8 : decode cX0_addToNew 8 = .ok (.getfield 20, 3) := by decide +kernel
theorem dX0_addToNew_11 : decode cX0_addToNew 11 = .ok (.iconst 1, 1) := by decide +kernel
theorem dX0_addToNew_12 : decode cX0_addToNew 12 = .ok (.iadd, 1) := by decide +kernel
theorem dX0_addToNew_13 : decode cX0_addToNew 13 = .ok (.putfield 20, 3) := by decide +kernel
theorem dX0_addToNew_16 : decode cX0_addToNew 16 = .ok (.aload_n 0, 1) := by decide +kernel
theorem dX0_addToNew_17 : decode cX0_addToNew 17 = .ok (.iload_n 1, 1) := by decide +kernel
theorem dX0_addToNew_18 : decode cX0_addToNew 18 = .ok (.iload 5, 2) := by decide +kernel
theorem dX0_addToNew_20 : decode cX0_addToNew 20 = .ok (.iload_n 2, 1) := by decide +kernel
theorem dX0_addToNew_21 : decode cX0_addToNew 21 = .ok (.iload_n 3, 1) := by decide +kernel
theorem dX0_addToNew_22 : decode cX0_addToNew 22 = .ok (.iload 4, 2) := by decide +kernel
theorem dX0_addToNew_24 : decode cX0_addToNew 24 = .ok (.invokevirtual 37, 3) := by decide +kernel
theorem dX0_addToNew_27 : decode cX0_addToNew 27 = .ok (.pop, 1) := by decide +kernel
theorem dX0_addToNew_28 : decode cX0_addToNew 28 = .ok (.iload 5, 2) := by decide +kernel
theorem dX0_addToNew_30 : decode cX0_addToNew 30 = .ok (.ireturn, 1) := by decide +kernel
theorem dX0_leadHere_0 : decode cX0_leadHere 0 = .ok (.iload_n 1, 1) := by decide +kernel
theorem dX0_leadHere_1 : decode cX0_leadHere 1 = .ok (.ifCond .lt 27, 3) := by decide +kernel
theorem dX0_leadHere_4 : decode cX0_leadHere 4 = .ok (.iload_n 1, 1) := by decide +kernel
theorem dX0_leadHere_5 : decode cX0_leadHere 5 = .ok (.aload_n 0, 1) := by decide +kernel
theorem dX0_leadHere_6 : decode cX0_leadHere 6 = .ok (.getfield 16, 3) := by decide +kernel
theorem dX0_leadHere_9 : decode cX0_leadHere 9 = .ok (.if_icmp .ge 19, 3) := by decide +kernel
theorem dX0_leadHere_12 : decode cX0_leadHere 12 = .ok (.aload_n 0, 1) := by decide +kernel
theorem dX0_leadHere_13 : decode cX0_leadHere 13 = .ok (.getfield 13, 3) := by decide +kernel
theorem dX0_leadHere_16 : decode cX0_leadHere 16 = .ok (.aload_n 0, 1) := by decide +kernel
theorem dX0_leadHere_17 : decode cX0_leadHere 17 = .ok (.iload_n 1, 1) := by decide +kernel
theorem dX0_leadHere_18 : decode cX0_leadHere 18 = .ok (.invokevirtual 41, 3) := by decide +kernel
theorem dX0_leadHere_21 : decode cX0_leadHere 21 = .ok (.aaload, 1) := by decide +kernel
theorem dX0_leadHere_22 : decode cX0_leadHere 22 = .ok (.iload_n 1, 1) := by decide +kernel
theorem dX0_leadHere_23 : decode cX0_leadHere 23 = .ok (.aload_n 0, 1) := by decide +kernel
theorem dX0_leadHere_24 : decode cX0_leadHere 24 = .ok (.getfield 16, 3) := by decide +kernel
theorem dX0_leadHere_27 : decode cX0_leadHere 27 = .ok (.iastore, 1) := by decide +kernel
theorem dX0_leadHere_28 : decode cX0_leadHere 28 = .ok (.return_, 1) := by decide +kernel
theorem dX0_leadRow_0 : decode cX0_leadRow 0 = .ok (.aload_n 0, 1) := by decide +kernel
theorem dX0_leadRow_1 : decode cX0_leadRow 1 = .ok (.getfield 13, 3) := by decide +kernel
theorem dX0_leadRow_4 : decode cX0_leadRow 4 = .ok (.iconst 0, 1) := by decide +kernel
theorem dX0_leadRow_5 : decode cX0_leadRow 5 = .ok (.aaload, 1) := by decide +kernel
theorem dX0_leadRow_6 : decode cX0_leadRow 6 = .ok (.iload_n 1, 1) := by decide +kernel
theorem dX0_leadRow_7 : decode cX0_leadRow 7 = .ok (.iaload, 1) := by decide +kernel
theorem dX0_leadRow_8 : decode cX0_leadRow 8 = .ok (.bipush 16, 2) := by decide +kernel
theorem dX0_leadRow_10 : decode cX0_leadRow 10 = .ok (.if_icmp .ne 7, 3) := by decide +kernel
theorem dX0_leadRow_13 : decode cX0_leadRow 13 = .ok (.iconst 1, 1) := by decide +kernel
theorem dX0_leadRow_14 : decode cX0_leadRow 14 = .ok (.goto 4, 3) := by decide +kernel
theorem dX0_leadRow_17 : decode cX0_leadRow 17 = .ok (.iconst 2, 1) := by decide +kernel
theorem dX0_leadRow_18 : decode cX0_leadRow 18 = .ok (.ireturn, 1) := by decide +kernel
theorem dX0_isJump_0 : decode cX0_isJump 0 = .ok (.aload_n 0, 1) := by decide +kernel
theorem dX0_isJump_1 : decode cX0_isJump 1 = .ok (.getfield 13, 3) := by decide +kernel
theorem dX0_isJump_4 : decode cX0_isJump 4 = .ok (.iconst 0, 1) := by decide +kernel
theorem dX0_isJump_5 : decode cX0_isJump 5 = .ok (.aaload, 1) := by decide +kernel
theorem dX0_isJump_6 : decode cX0_isJump 6 = .ok (.iload_n 1, 1) := by decide +kernel
theorem dX0_isJump_7 : decode cX0_isJump 7 = .ok (.iaload, 1) := by decide +kernel
theorem dX0_isJump_8 : decode cX0_isJump 8 = .ok (.bipush 16, 2) := by decide +kernel
theorem dX0_isJump_10 : decode cX0_isJump 10 = .ok (.if_icmp .eq 16, 3) := by decide +kernel
theorem dX0_isJump_13 : decode cX0_isJump 13 = .ok (.aload_n 0, 1) := by decide +kernel
theorem dX0_isJump_14 : decode cX0_isJump 14 = .ok (.getfield 13, 3) := by decide +kernel
theorem dX0_isJump_17 : decode cX0_isJump 17 = .ok (.iconst 0, 1) := by decide +kernel
theorem dX0_isJump_18 : decode cX0_isJump 18 = .ok (.aaload, 1) := by decide +kernel
theorem dX0_isJump_19 : decode cX0_isJump 19 = .ok (.iload_n 1, 1) := by decide +kernel
theorem dX0_isJump_20 : decode cX0_isJump 20 = .ok (.iaload, 1) := by decide +kernel
theorem dX0_isJump_21 : decode cX0_isJump 21 = .ok (.bipush 17, 2) := by decide +kernel
theorem dX0_isJump_23 : decode cX0_isJump 23 = .ok (.if_icmp .ne 7, 3) := by decide +kernel
theorem dX0_isJump_26 : decode cX0_isJump 26 = .ok (.iconst 1, 1) := by decide +kernel
theorem dX0_isJump_27 : decode cX0_isJump 27 = .ok (.goto 4, 3) := by decide +kernel
theorem dX0_isJump_30 : decode cX0_isJump 30 = .ok (.iconst 0, 1) := by decide +kernel
theorem dX0_isJump_31 : decode cX0_isJump 31 = .ok (.ireturn, 1) := by decide +kernel
theorem dX0_jumps_0 : decode cX0_jumps 0 = .ok (.iconst 0, 1) := by decide +kernel
theorem dX0_jumps_1 : decode cX0_jumps 1 = .ok (.istore_n 1, 1) := by decide +kernel
theorem dX0_jumps_2 : decode cX0_jumps 2 = .ok (.iconst 0, 1) := by decide +kernel
theorem dX0_jumps_3 : decode cX0_jumps 3 = .ok (.istore_n 2, 1) := by decide +kernel
theorem dX0_jumps_4 : decode cX0_jumps 4 = .ok (.iload_n 2, 1) := by decide +kernel
theorem dX0_jumps_5 : decode cX0_jumps 5 = .ok (.aload_n 0, 1) := by decide +kernel
theorem dX0_jumps_6 : decode cX0_jumps 6 = .ok (.getfield 16, 3) := by decide +kernel
theorem dX0_jumps_9 : decode cX0_jumps 9 = .ok (.if_icmp .ge 25, 3) := by decide +kernel
theorem dX0_jumps_12 : decode cX0_jumps 12 = .ok (.iload_n 1, 1) := by decide +kernel
theorem dX0_jumps_13 : decode cX0_jumps 13 = .ok (.aload_n 0, 1) := by decide +kernel
theorem dX0_jumps_14 : decode cX0_jumps 14 = .ok (.iload_n 2, 1) := by decide +kernel
theorem dX0_jumps_15 : decode cX0_jumps 15 = .ok (.invokevirtual 45, 3) := by decide +kernel
theorem dX0_jumps_18 : decode cX0_jumps 18 = .ok (.ifCond .eq 7, 3) := by decide +kernel
theorem dX0_jumps_21 : decode cX0_jumps 21 = .ok (.iconst 1, 1) := by decide +kernel
theorem dX0_jumps_22 : decode cX0_jumps 22 = .ok (.goto 4, 3) := by decide +kernel
theorem dX0_jumps_25 : decode cX0_jumps 25 = .ok (.iconst 0, 1) := by decide +kernel
theorem dX0_jumps_26 : decode cX0_jumps 26 = .ok (.iadd, 1) := by decide +kernel
theorem dX0_jumps_27 : decode cX0_jumps 27 = .ok (.istore_n 1, 1) := by decide +kernel
theorem dX0_jumps_28 : decode cX0_jumps 28 = .ok (.iinc 2 1, 3) := by decide +kernel
theorem dX0_jumps_31 : decode cX0_jumps 31 = .ok (.goto (-27), 3) := by decide +kernel
theorem dX0_jumps_34 : decode cX0_jumps 34 = .ok (.iload_n 1, 1) := by decide +kernel
theorem dX0_jumps_35 : decode cX0_jumps 35 = .ok (.ireturn, 1) := by decide +kernel
theorem dX0_stepsOf_0 : decode cX0_stepsOf 0 = .ok (.iconst 0, 1) := by decide +kernel
theorem dX0_stepsOf_1 : decode cX0_stepsOf 1 = .ok (.istore_n 2, 1) := by decide +kernel
theorem dX0_stepsOf_2 : decode cX0_stepsOf 2 = .ok (.iconst 0, 1) := by decide +kernel
theorem dX0_stepsOf_3 : decode cX0_stepsOf 3 = .ok (.istore_n 3, 1) := by decide +kernel
theorem dX0_stepsOf_4 : decode cX0_stepsOf 4 = .ok (.iload_n 3, 1) := by decide +kernel
theorem dX0_stepsOf_5 : decode cX0_stepsOf 5 = .ok (.aload_n 0, 1) := by decide +kernel
theorem dX0_stepsOf_6 : decode cX0_stepsOf 6 = .ok (.getfield 16, 3) := by decide +kernel
theorem dX0_stepsOf_9 : decode cX0_stepsOf 9 = .ok (.if_icmp .ge 29, 3) := by decide +kernel
theorem dX0_stepsOf_12 : decode cX0_stepsOf 12 = .ok (.iload_n 2, 1) := by decide +kernel
theorem dX0_stepsOf_13 : decode cX0_stepsOf 13 = .ok (.aload_n 0, 1) := by decide +kernel
theorem dX0_stepsOf_14 : decode cX0_stepsOf 14 = .ok (.getfield 13, 3) := by decide +kernel
theorem dX0_stepsOf_17 : decode cX0_stepsOf 17 = .ok (.iconst 5, 1) := by decide +kernel
theorem dX0_stepsOf_18 : decode cX0_stepsOf 18 = .ok (.aaload, 1) := by decide +kernel
theorem dX0_stepsOf_19 : decode cX0_stepsOf 19 = .ok (.iload_n 3, 1) := by decide +kernel
theorem dX0_stepsOf_20 : decode cX0_stepsOf 20 = .ok (.iaload, 1) := by decide +kernel
theorem dX0_stepsOf_21 : decode cX0_stepsOf 21 = .ok (.iload_n 1, 1) := by decide +kernel
theorem dX0_stepsOf_22 : decode cX0_stepsOf 22 = .ok (.if_icmp .ne 7, 3) := by decide +kernel
theorem dX0_stepsOf_25 : decode cX0_stepsOf 25 = .ok (.iconst 1, 1) := by decide +kernel
theorem dX0_stepsOf_26 : decode cX0_stepsOf 26 = .ok (.goto 4, 3) := by decide +kernel
theorem dX0_stepsOf_29 : decode cX0_stepsOf 29 = .ok (.iconst 0, 1) := by decide +kernel
theorem dX0_stepsOf_30 : decode cX0_stepsOf 30 = .ok (.iadd, 1) := by decide +kernel
theorem dX0_stepsOf_31 : decode cX0_stepsOf 31 = .ok (.istore_n 2, 1) := by decide +kernel
theorem dX0_stepsOf_32 : decode cX0_stepsOf 32 = .ok (.iinc 3 1, 3) := by decide +kernel
theorem dX0_stepsOf_35 : decode cX0_stepsOf 35 = .ok (.goto (-31), 3) := by decide +kernel
theorem dX0_stepsOf_38 : decode cX0_stepsOf 38 = .ok (.iload_n 2, 1) := by decide +kernel
theorem dX0_stepsOf_39 : decode cX0_stepsOf 39 = .ok (.ireturn, 1) := by decide +kernel
theorem dX0_dropUseless_0 : decode cX0_dropUseless 0 = .ok (.aload_n 0, 1) := by decide +kernel
theorem dX0_dropUseless_1 : decode cX0_dropUseless 1 = .ok (.invokevirtual 49, 3) := by decide +kernel
theorem dX0_dropUseless_4 : decode cX0_dropUseless 4 = .ok (.aload_n 0, 1) := by decide +kernel
theorem dX0_dropUseless_5 : decode cX0_dropUseless 5 = .ok (.getfield 16, 3) := by decide +kernel
theorem dX0_dropUseless_8 : decode cX0_dropUseless 8 = .ok (.istore_n 1, 1) := by decide +kernel
theorem dX0_dropUseless_9 : decode cX0_dropUseless 9 = .ok (.aload_n 0, 1) := by decide +kernel
theorem dX0_dropUseless_10 : decode cX0_dropUseless 10 = .ok (.getfield 33, 3) := by decide +kernel
theorem dX0_dropUseless_13 : decode cX0_dropUseless 13 = .ok (.iconst 0, 1) := by decide +kernel
theorem dX0_dropUseless_14 : decode cX0_dropUseless 14 = .ok (.iconst 0, 1) := by decide +kernel
theorem dX0_dropUseless_15 : decode cX0_dropUseless 15 = .ok (.iastore, 1) := by decide +kernel
theorem dX0_dropUseless_16 : decode cX0_dropUseless 16 = .ok (.iconst 0, 1) := by decide +kernel
theorem dX0_dropUseless_17 : decode cX0_dropUseless 17 = .ok (.istore_n 2, 1) := by decide +kernel
theorem dX0_dropUseless_18 : decode cX0_dropUseless 18 = .ok (.iload_n 2, 1) := by decide +kernel
theorem dX0_dropUseless_19 : decode cX0_dropUseless 19 = .ok (.iload_n 1, 1) := by decide +kernel
theorem dX0_dropUseless_20 : decode cX0_dropUseless 20 = .ok (.if_icmp .ge 38, 3) := by decide +kernel
theorem dX0_dropUseless_23 : decode cX0_dropUseless 23 = .ok (.aload_n 0, 1) := by decide +kernel
theorem dX0_dropUseless_24 : decode cX0_dropUseless 24 = .ok (.getfield 33, 3) := by decide +kernel
theorem dX0_dropUseless_27 : decode cX0_dropUseless 27 = .ok (.iload_n 2, 1) := by decide +kernel
theorem dX0_dropUseless_28 : decode cX0_dropUseless 28 = .ok (.iconst 1, 1) := by decide +kernel
theorem dX0_dropUseless_29 : decode cX0_dropUseless 29 = .ok (.iadd, 1) := by decide +kernel
theorem dX0_dropUseless_30 : decode cX0_dropUseless 30 = .ok (.aload_n 0, 1) := by decide +kernel
theorem dX0_dropUseless_31 : decode cX0_dropUseless 31 = .ok (.getfield 33, 3) := by decide +kernel
theorem dX0_dropUseless_34 : decode cX0_dropUseless 34 = .ok (.iload_n 2, 1) := by decide +kernel
theorem dX0_dropUseless_35 : decode cX0_dropUseless 35 = .ok (.iaload, 1) := by decide +kernel
theorem dX0_dropUseless_36 : decode cX0_dropUseless 36 = .ok (.aload_n 0, 1) := by decide +kernel
theorem dX0_dropUseless_37 : decode cX0_dropUseless 37 = .ok (.getfield 30, 3) := by decide +kernel
theorem dX0_dropUseless_40 : decode cX0_dropUseless 40 = .ok (.iload_n 2, 1) := by decide +kernel
theorem dX0_dropUseless_41 : decode cX0_dropUseless 41 = .ok (.baload, 1) := by decide +kernel
theorem dX0_dropUseless_42 : decode cX0_dropUseless 42 = .ok (.ifCond .eq 7, 3) := by decide +kernel
theorem dX0_dropUseless_45 : decode cX0_dropUseless 45 = .ok (.iconst 1, 1) := by decide +kernel
theorem dX0_dropUseless_46 : decode cX0_dropUseless 46 = .ok (.goto 4, 3) := by decide +kernel
theorem dX0_dropUseless_49 : decode cX0_dropUseless 49 = .ok (.iconst 0, 1) := by decide +kernel
theorem dX0_dropUseless_50 : decode cX0_dropUseless 50 = .ok (.iadd, 1) := by decide +kernel
theorem dX0_dropUseless_51 : decode cX0_dropUseless 51 = .ok (.iastore, 1) := by decide +kernel
theorem dX0_dropUseless_52 : decode cX0_dropUseless 52 = .ok (.iinc 2 1, 3) := by decide +kernel
theorem dX0_dropUseless_55 : decode cX0_dropUseless 55 = .ok (.goto (-37), 3) := by decide +kernel
theorem dX0_dropUseless_58 : decode cX0_dropUseless 58 = .ok (.iconst 0, 1) := by decide +kernel
theorem dX0_dropUseless_59 : decode cX0_dropUseless 59 = .ok (.istore_n 2, 1) := by decide +kernel
theorem dX0_dropUseless_60 : decode cX0_dropUseless 60 = .ok (.iload_n 2, 1) := by decide +kernel
theorem dX0_dropUseless_61 : decode cX0_dropUseless 61 = .ok (.iload_n 1, 1) := by decide +kernel
theorem dX0_dropUseless_62 : decode cX0_dropUseless 62 = .ok (.if_icmp .ge 29, 3) := by decide +kernel
theorem dX0_dropUseless_65 : decode cX0_dropUseless 65 = .ok (.aload_n 0, 1) := by decide +kernel
theorem dX0_dropUseless_66 : decode cX0_dropUseless 66 = .ok (.getfield 30, 3) := by decide +kernel
theorem dX0_dropUseless_69 : decode cX0_dropUseless 69 = .ok (.iload_n 2, 1) := by decide +kernel
theorem dX0_dropUseless_70 : decode cX0_dropUseless 70 = .ok (.baload, 1) := by decide +kernel
theorem dX0_dropUseless_71 : decode cX0_dropUseless 71 = .ok (.ifCond .eq 14, 3) := by decide +kernel
theorem dX0_dropUseless_74 : decode cX0_dropUseless 74 = .ok (.aload_n 0, 1) := by decide +kernel
theorem dX0_dropUseless_75 : decode cX0_dropUseless 75 = .ok (.iload_n 2, 1) := by decide +kernel
theorem dX0_dropUseless_76 : decode cX0_dropUseless 76 = .ok (.aload_n 0, 1) := by decide +kernel
theorem dX0_dropUseless_77 : decode cX0_dropUseless 77 = .ok (.getfield 33, 3) := by decide +kernel
theorem dX0_dropUseless_80 : decode cX0_dropUseless 80 = .ok (.iload_n 2, 1) := by decide +kernel
theorem dX0_dropUseless_81 : decode cX0_dropUseless 81 = .ok (.iaload, 1) := by decide +kernel
theorem dX0_dropUseless_82 : decode cX0_dropUseless 82 = .ok (.invokevirtual 52, 3) := by decide +kernel
theorem dX0_dropUseless_85 : decode cX0_dropUseless 85 = .ok (.iinc 2 1, 3) := by decide +kernel
theorem dX0_dropUseless_88 : decode cX0_dropUseless 88 = .ok (.goto (-28), 3) := by decide +kernel
theorem dX0_dropUseless_91 : decode cX0_dropUseless 91 = .ok (.aload_n 0, 1) := by decide +kernel
theorem dX0_dropUseless_92 : decode cX0_dropUseless 92 = .ok (.aload_n 0, 1) := by decide +kernel
theorem dX0_dropUseless_93 : decode cX0_dropUseless 93 = .ok (.getfield 33, 3) := by decide +kernel
theorem dX0_dropUseless_96 : decode cX0_dropUseless 96 = .ok (.iload_n 1, 1) := by decide +kernel
theorem dX0_dropUseless_97 : decode cX0_dropUseless 97 = .ok (.iaload, 1) := by decide +kernel
theorem dX0_dropUseless_98 : decode cX0_dropUseless 98 = .ok (.putfield 16, 3) := by decide +kernel
theorem dX0_dropUseless_101 : decode cX0_dropUseless 101 = .ok (.iload_n 1, 1) := by decide +kernel
theorem dX0_dropUseless_102 : decode cX0_dropUseless 102 = .ok (.aload_n 0, 1) := by decide +kernel
theorem dX0_dropUseless_103 : decode cX0_dropUseless 103 = .ok (.getfield 16, 3) := by decide +kernel
theorem dX0_dropUseless_106 : decode cX0_dropUseless 106 = .ok (.isub, 1) := by decide +kernel
theorem dX0_dropUseless_107 : decode cX0_dropUseless 107 = .ok (.ireturn, 1) := by decide +kernel
theorem dX0_findUseless_0 : decode cX0_findUseless 0 = .ok (.iconst 0, 1) := by decide +kernel
theorem dX0_findUseless_1 : decode cX0_findUseless 1 = .ok (.istore_n 1, 1) := by decide +kernel
theorem dX0_findUseless_2 : decode cX0_findUseless 2 = .ok (.iload_n 1, 1) := by decide +kernel
theorem dX0_findUseless_3 : decode cX0_findUseless 3 = .ok (.aload_n 0, 1) := by decide +kernel
theorem dX0_findUseless_4 : decode cX0_findUseless 4 = .ok (.getfield 26, 3) := by decide +kernel
theorem dX0_findUseless_7 : decode cX0_findUseless 7 = .ok (.arraylength, 1) := by decide +kernel
theorem dX0_findUseless_8 : decode cX0_findUseless 8 = .ok (.if_icmp .ge 16, 3) := by decide +kernel
theorem dX0_findUseless_11 : decode cX0_findUseless 11 = .ok (.aload_n 0, 1) := by decide +kernel
theorem dX0_findUseless_12 : decode cX0_findUseless 12 = .ok (.getfield 26, 3) := by decide +kernel
theorem dX0_findUseless_15 : decode cX0_findUseless 15 = .ok (.iload_n 1, 1) := by decide +kernel
theorem dX0_findUseless_16 : decode cX0_findUseless 16 = .ok (.iconst 0, 1) := by decide +kernel
theorem dX0_findUseless_17 : decode cX0_findUseless 17 = .ok (.bastore, 1) := by decide +kernel
theorem dX0_findUseless_18 : decode cX0_findUseless 18 = .ok (.iinc 1 1, 3) := by decide +kernel
theorem dX0_findUseless_21 : decode cX0_findUseless 21 = .ok (.goto (-19), 3) := by decide +kernel
theorem dX0_findUseless_24 : decode cX0_findUseless 24 = .ok (.aload_n 0, 1) := by decide +kernel
theorem dX0_findUseless_25 : decode cX0_findUseless 25 = .ok (.getfield 16, 3) := by decide +kernel
theorem dX0_findUseless_28 : decode cX0_findUseless 28 = .ok (.iconst 1, 1) := by decide +kernel
theorem dX0_findUseless_29 : decode cX0_findUseless 29 = .ok (.isub, 1) := by decide +kernel
theorem dX0_findUseless_30 : decode cX0_findUseless 30 = .ok (.istore_n 1, 1) := by decide +kernel
theorem dX0_findUseless_31 : decode cX0_findUseless 31 = .ok (.iload_n 1, 1) := by decide +kernel
theorem dX0_findUseless_32 : decode cX0_findUseless 32 = .ok (.ifCond .lt 58, 3) := by decide +kernel
theorem dX0_findUseless_35 : decode cX0_findUseless 35 = .ok (.aload_n 0, 1) := by decide +kernel
theorem dX0_findUseless_36 : decode cX0_findUseless 36 = .ok (.getfield 30, 3) := by decide +kernel
theorem dX0_findUseless_39 : decode cX0_findUseless 39 = .ok (.iload_n 1, 1) := by decide +kernel
theorem dX0_findUseless_40 : decode cX0_findUseless 40 = .ok (.aload_n 0, 1) := by decide +kernel
theorem dX0_findUseless_41 : decode cX0_findUseless 41 = .ok (.iload_n 1, 1) := by decide +kernel
theorem dX0_findUseless_42 : decode cX0_findUseless 42 = .ok (.invokevirtual 56, 3) := by decide +kernel
theorem dX0_findUseless_45 : decode cX0_findUseless 45 = .ok (.ifCond .eq 19, 3) := by decide +kernel
theorem dX0_findUseless_48 : decode cX0_findUseless 48 = .ok (.aload_n 0, 1) := by decide +kernel
theorem dX0_findUseless_49 : decode cX0_findUseless 49 = .ok (.getfield 26, 3) := by decide +kernel
theorem dX0_findUseless_52 : decode cX0_findUseless 52 = .ok (.aload_n 0, 1) := by decide +kernel
theorem dX0_findUseless_53 : decode cX0_findUseless 53 = .ok (.getfield 13, 3) := by decide +kernel
theorem dX0_findUseless_56 : decode cX0_findUseless 56 = .ok (.iconst 1, 1) := by decide +kernel
theorem dX0_findUseless_57 : decode cX0_findUseless 57 = .ok (.aaload, 1) := by decide +kernel
theorem dX0_findUseless_58 : decode cX0_findUseless 58 = .ok (.iload_n 1, 1) := by decide +kernel
theorem dX0_findUseless_59 : decode cX0_findUseless 59 = .ok (.iaload, 1) := by decide +kernel
theorem dX0_findUseless_60 : decode cX0_findUseless 60 = .ok (.baload, 1) := by decide +kernel
theorem dX0_findUseless_61 : decode cX0_findUseless 61 = .ok (.ifCond .eq 7, 3) := by decide +kernel
theorem dX0_findUseless_64 : decode cX0_findUseless 64 = .ok (.iconst 1, 1) := by decide +kernel
theorem dX0_findUseless_65 : decode cX0_findUseless 65 = .ok (.goto 4, 3) := by decide +kernel
theorem dX0_findUseless_68 : decode cX0_findUseless 68 = .ok (.iconst 0, 1) := by decide +kernel
theorem dX0_findUseless_69 : decode cX0_findUseless 69 = .ok (.bastore, 1) := by decide +kernel
theorem dX0_findUseless_70 : decode cX0_findUseless 70 = .ok (.aload_n 0, 1) := by decide +kernel
theorem dX0_findUseless_71 : decode cX0_findUseless 71 = .ok (.getfield 30, 3) := by decide +kernel
theorem dX0_findUseless_74 : decode cX0_findUseless 74 = .ok (.iload_n 1, 1) := by decide +kernel
theorem dX0_findUseless_75 : decode cX0_findUseless 75 = .ok (.baload, 1) := by decide +kernel
theorem dX0_findUseless_76 : decode cX0_findUseless 76 = .ok (.ifCond .eq 8, 3) := by decide +kernel
theorem dX0_findUseless_79 : decode cX0_findUseless 79 = .ok (.aload_n 0, 1) := by decide +kernel
theorem dX0_findUseless_80 : decode cX0_findUseless 80 = .ok (.iload_n 1, 1) := by decide +kernel
theorem dX0_findUseless_81 : decode cX0_findUseless 81 = .ok (.invokevirtual 59, 3) := by decide +kernel
theorem dX0_findUseless_84 : decode cX0_findUseless 84 = .ok (.iinc 1 (-1), 3) := by decide +kernel
theorem dX0_findUseless_87 : decode cX0_findUseless 87 = .ok (.goto (-56), 3) := by decide +kernel
theorem dX0_findUseless_90 : decode cX0_findUseless 90 = .ok (.return_, 1) := by decide +kernel
theorem dX0_mayGo_0 : decode cX0_mayGo 0 = .ok (.aload_n 0, 1) := by decide +kernel
theorem dX0_mayGo_1 : decode cX0_mayGo 1 = .ok (.getfield 13, 3) := by decide +kernel
theorem dX0_mayGo_4 : decode cX0_mayGo 4 = .ok (.iconst 0, 1) := by decide +kernel
theorem dX0_mayGo_5 : decode cX0_mayGo 5 = .ok (.aaload, 1) := by decide +kernel
theorem dX0_mayGo_6 : decode cX0_mayGo 6 = .ok (.iload_n 1, 1) := by decide +kernel
theorem dX0_mayGo_7 : decode cX0_mayGo 7 = .ok (.iaload, 1) := by decide +kernel
theorem dX0_mayGo_8 : decode cX0_mayGo 8 = .ok (.istore_n 2, 1) := by decide +kernel
theorem dX0_mayGo_9 : decode cX0_mayGo 9 = .ok (.iload_n 2, 1) := by decide +kernel
theorem dX0_mayGo_10 : decode cX0_mayGo 10 = .ok (.bipush 13, 2) := by decide +kernel
theorem dX0_mayGo_12 : decode cX0_mayGo 12 = .ok (.if_icmp .gt 27, 3) := by decide +kernel
theorem dX0_mayGo_15 : decode cX0_mayGo 15 = .ok (.iload_n 2, 1) := by decide +kernel
theorem dX0_mayGo_16 : decode cX0_mayGo 16 = .ok (.invokestatic 63, 3) := by decide +kernel
theorem dX0_mayGo_19 : decode cX0_mayGo 19 = .ok (.ifCond .ne 20, 3) := by decide +kernel
theorem dX0_mayGo_22 : decode cX0_mayGo 22 = .ok (.aload_n 0, 1) := by decide +kernel
theorem dX0_mayGo_23 : decode cX0_mayGo 23 = .ok (.getfield 13, 3) := by decide +kernel
theorem dX0_mayGo_26 : decode cX0_mayGo 26 = .ok (.iconst 1, 1) := by decide +kernel
theorem dX0_mayGo_27 : decode cX0_mayGo 27 = .ok (.aaload, 1) := by decide +kernel
theorem dX0_mayGo_28 : decode cX0_mayGo 28 = .ok (.iload_n 1, 1) := by decide +kernel
theorem dX0_mayGo_29 : decode cX0_mayGo 29 = .ok (.iaload, 1) := by decide +kernel
theorem dX0_mayGo_30 : decode cX0_mayGo 30 = .ok (.bipush 16, 2) := by decide +kernel
theorem dX0_mayGo_32 : decode cX0_mayGo 32 = .ok (.if_icmp .lt 7, 3) := by decide +kernel
theorem dX0_mayGo_35 : decode cX0_mayGo 35 = .ok (.iconst 1, 1) := by decide +kernel
theorem dX0_mayGo_36 : decode cX0_mayGo 36 = .ok (.goto 4, 3) := by decide +kernel
theorem dX0_mayGo_39 : decode cX0_mayGo 39 = .ok (.iconst 0, 1) := by decide +kernel
theorem dX0_mayGo_40 : decode cX0_mayGo 40 = .ok (.ireturn, 1) := by decide +kernel
theorem dX0_markTaken_0 : decode cX0_markTaken 0 = .ok (.aload_n 0, 1) := by decide +kernel
theorem dX0_markTaken_1 : decode cX0_markTaken 1 = .ok (.getfield 13, 3) := by decide +kernel
theorem dX0_markTaken_4 : decode cX0_markTaken 4 = .ok (.iconst 0, 1) := by decide +kernel
theorem dX0_markTaken_5 : decode cX0_markTaken 5 = .ok (.aaload, 1) := by decide +kernel
theorem dX0_markTaken_6 : decode cX0_markTaken 6 = .ok (.iload_n 1, 1) := by decide +kernel
theorem dX0_markTaken_7 : decode cX0_markTaken 7 = .ok (.iaload, 1) := by decide +kernel
theorem dX0_markTaken_8 : decode cX0_markTaken 8 = .ok (.istore_n 2, 1) := by decide +kernel
theorem dX0_markTaken_9 : decode cX0_markTaken 9 = .ok (.getstatic 66, 3) := by decide +kernel
theorem dX0_markTaken_12 : decode cX0_markTaken 12 = .ok (.iload_n 2, 1) := by decide +kernel
theorem dX0_markTaken_13 : decode cX0_markTaken 13 = .ok (.iaload, 1) := by decide +kernel
theorem dX0_markTaken_14 : decode cX0_markTaken 14 = .ok (.istore_n 3, 1) := by decide +kernel
theorem dX0_markTaken_15 : decode cX0_markTaken 15 = .ok (.iload_n 3, 1) := by decide +kernel
theorem dX0_markTaken_16 : decode cX0_markTaken 16 = .ok (.getstatic 69, 3) := by decide +kernel
theorem dX0_markTaken_19 : decode cX0_markTaken 19 = .ok (.iload_n 2, 1) := by decide +kernel
theorem dX0_markTaken_20 : decode cX0_markTaken 20 = .ok (.iaload, 1) := by decide +kernel
theorem dX0_markTaken_21 : decode cX0_markTaken 21 = .ok (.if_icmp .gt 23, 3) := by decide +kernel
theorem dX0_markTaken_24 : decode cX0_markTaken 24 = .ok (.aload_n 0, 1) := by decide +kernel
theorem dX0_markTaken_25 : decode cX0_markTaken 25 = .ok (.getfield 26, 3) := by decide +kernel
theorem dX0_markTaken_28 : decode cX0_markTaken 28 = .ok (.aload_n 0, 1) := by decide +kernel
theorem dX0_markTaken_29 : decode cX0_markTaken 29 = .ok (.getfield 13, 3) := by decide +kernel
theorem dX0_markTaken_32 : decode cX0_markTaken 32 = .ok (.iload_n 3, 1) := by decide +kernel
theorem dX0_markTaken_33 : decode cX0_markTaken 33 = .ok (.aaload, 1) := by decide +kernel
theorem dX0_markTaken_34 : decode cX0_markTaken 34 = .ok (.iload_n 1, 1) := by decide +kernel
theorem dX0_markTaken_35 : decode cX0_markTaken 35 = .ok (.iaload, 1) := by decide +kernel
theorem dX0_markTaken_36 : decode cX0_markTaken 36 = .ok (.iconst 1, 1) := by decide +kernel
theorem dX0_markTaken_37 : decode cX0_markTaken 37 = .ok (.bastore, 1) := by decide +kernel
theorem dX0_markTaken_38 : decode cX0_markTaken 38 = .ok (.iinc 3 1, 3) := by decide +kernel
theorem dX0_markTaken_41 : decode cX0_markTaken 41 = .ok (.goto (-26), 3) := by decide +kernel
theorem dX0_markTaken_44 : decode cX0_markTaken 44 = .ok (.return_, 1) := by decide +kernel
theorem dX0_shift_0 : decode cX0_shift 0 = .ok (.aload_n 0, 1) := by decide +kernel
theorem dX0_shift_1 : decode cX0_shift 1 = .ok (.iload_n 1, 1) := by decide +kernel
theorem dX0_shift_2 : decode cX0_shift 2 = .ok (.invokevirtual 45, 3) := by decide +kernel
theorem dX0_shift_5 : decode cX0_shift 5 = .ok (.ifCond .eq 30, 3) := by decide +kernel
theorem dX0_shift_8 : decode cX0_shift 8 = .ok (.aload_n 0, 1) := by decide +kernel
theorem dX0_shift_9 : decode cX0_shift 9 = .ok (.iload_n 1, 1) := by decide +kernel
theorem dX0_shift_10 : decode cX0_shift 10 = .ok (.invokevirtual 41, 3) := by decide +kernel
theorem dX0_shift_13 : decode cX0_shift 13 = .ok (.istore_n 3, 1) := by decide +kernel
theorem dX0_shift_14 : decode cX0_shift 14 = .ok (.aload_n 0, 1) := by decide +kernel
theorem dX0_shift_15 : decode cX0_shift 15 = .ok (.getfield 13, 3) := by decide +kernel
theorem dX0_shift_18 : decode cX0_shift 18 = .ok (.iload_n 3, 1) := by decide +kernel
theorem dX0_shift_19 : decode cX0_shift 19 = .ok (.aaload, 1) := by decide +kernel
theorem dX0_shift_20 : decode cX0_shift 20 = .ok (.iload_n 1, 1) := by decide +kernel
theorem dX0_shift_21 : decode cX0_shift 21 = .ok (.aload_n 0, 1) := by decide +kernel
theorem dX0_shift_22 : decode cX0_shift 22 = .ok (.getfield 33, 3) := by decide +kernel
theorem dX0_shift_25 : decode cX0_shift 25 = .ok (.aload_n 0, 1) := by decide +kernel
theorem dX0_shift_26 : decode cX0_shift 26 = .ok (.getfield 13, 3) := by decide +kernel
theorem dX0_shift_29 : decode cX0_shift 29 = .ok (.iload_n 3, 1) := by decide +kernel
theorem dX0_shift_30 : decode cX0_shift 30 = .ok (.aaload, 1) := by decide +kernel
theorem dX0_shift_31 : decode cX0_shift 31 = .ok (.iload_n 1, 1) := by decide +kernel
theorem dX0_shift_32 : decode cX0_shift 32 = .ok (.iaload, 1) := by decide +kernel
theorem dX0_shift_33 : decode cX0_shift 33 = .ok (.iaload, 1) := by decide +kernel
theorem dX0_shift_34 : decode cX0_shift 34 = .ok (.iastore, 1) := by decide +kernel
theorem dX0_shift_35 : decode cX0_shift 35 = .ok (.iconst 0, 1) := by decide +kernel
theorem dX0_shift_36 : decode cX0_shift 36 = .ok (.istore_n 3, 1) := by decide +kernel
theorem dX0_shift_37 : decode cX0_shift 37 = .ok (.iload_n 3, 1) := by decide +kernel
theorem dX0_shift_38 : decode cX0_shift 38 = .ok (.bipush 6, 2) := by decide +kernel
theorem dX0_shift_40 : decode cX0_shift 40 = .ok (.if_icmp .ge 25, 3) := by decide +kernel
theorem dX0_shift_43 : decode cX0_shift 43 = .ok (.aload_n 0, 1) := by decide +kernel
theorem dX0_shift_44 : decode cX0_shift 44 = .ok (.getfield 13, 3) := by decide +kernel
theorem dX0_shift_47 : decode cX0_shift 47 = .ok (.iload_n 3, 1) := by decide +kernel
theorem dX0_shift_48 : decode cX0_shift 48 = .ok (.aaload, 1) := by decide +kernel
theorem dX0_shift_49 : decode cX0_shift 49 = .ok (.iload_n 2, 1) := by decide +kernel
theorem dX0_shift_50 : decode cX0_shift 50 = .ok (.aload_n 0, 1) := by decide +kernel
theorem dX0_shift_51 : decode cX0_shift 51 = .ok (.getfield 13, 3) := by decide +kernel
theorem dX0_shift_54 : decode cX0_shift 54 = .ok (.iload_n 3, 1) := by decide +kernel
theorem dX0_shift_55 : decode cX0_shift 55 = .ok (.aaload, 1) := by decide +kernel
theorem dX0_shift_56 : decode cX0_shift 56 = .ok (.iload_n 1, 1) := by decide +kernel
theorem dX0_shift_57 : decode cX0_shift 57 = .ok (.iaload, 1) := by decide +kernel
theorem dX0_shift_58 : decode cX0_shift 58 = .ok (.iastore, 1) := by decide +kernel
theorem dX0_shift_59 : decode cX0_shift 59 = .ok (.iinc 3 1, 3) := by decide +kernel
theorem dX0_shift_62 : decode cX0_shift 62 = .ok (.goto (-25), 3) := by decide +kernel
theorem dX0_shift_65 : decode cX0_shift 65 = .ok (.return_, 1) := by decide +kernel
theorem dX1_init_0 : decode cX1_init 0 = .ok (.aload_n 0, 1) := by decide +kernel
theorem dX1_init_1 : decode cX1_init 1 = .ok (.invokespecial 3, 3) := by decide +kernel
theorem dX1_init_4 : decode cX1_init 4 = .ok (.aload_n 0, 1) := by decide +kernel
theorem dX1_init_5 : decode cX1_init 5 = .ok (.sipush 736, 3) := by decide +kernel
theorem dX1_init_8 : decode cX1_init 8 = .ok (.newarray .int, 2) := by decide +kernel
theorem dX1_init_10 : decode cX1_init 10 = .ok (.putfield 9, 3) := by decide +kernel
theorem dX1_init_13 : decode cX1_init 13 = .ok (.aload_n 0, 1) := by decide +kernel
theorem dX1_init_14 : decode cX1_init 14 = .ok (.bipush 32, 2) := by decide +kernel
theorem dX1_init_16 : decode cX1_init 16 = .ok (.newarray .int, 2) := by decide +kernel
theorem dX1_init_18 : decode cX1_init 18 = .ok (.putfield 15, 3) := by decide +kernel
theorem dX1_init_21 : decode cX1_init 21 = .ok (.aload_n 0, 1) := by decide +kernel
theorem dX1_init_22 : decode cX1_init 22 = .ok (.bipush 60, 2) := by decide +kernel
theorem dX1_init_24 : decode cX1_init 24 = .ok (.newarray .int, 2) := by decide +kernel
theorem dX1_init_26 : decode cX1_init 26 = .ok (.putfield 18, 3) := by decide +kernel
theorem dX1_init_29 : decode cX1_init 29 = .ok (.aload_n 0, 1) := by decide +kernel
theorem dX1_init_30 : decode cX1_init 30 = .ok (.iconst 0, 1) := by decide +kernel
theorem dX1_init_31 : decode cX1_init 31 = .ok (.putfield 21, 3) := by decide +kernel
theorem dX1_init_34 : decode cX1_init 34 = .ok (.aload_n 0, 1) := by decide +kernel
theorem dX1_init_35 : decode cX1_init 35 = .ok (.iconst 0, 1) := by decide +kernel
theorem dX1_init_36 : decode cX1_init 36 = .ok (.putfield 25, 3) := by decide +kernel
theorem dX1_init_39 : decode cX1_init 39 = .ok (.aload_n 0, 1) := by decide +kernel
theorem dX1_init_40 : decode cX1_init 40 = .ok (.iconst (-1), 1) := by decide +kernel
theorem dX1_init_41 : decode cX1_init 41 = .ok (.putfield 28, 3) := by decide +kernel
theorem dX1_init_44 : decode cX1_init 44 = .ok (.aload_n 0, 1) := by decide +kernel
theorem dX1_init_45 : decode cX1_init 45 = .ok (.iconst 0, 1) := by decide +kernel
theorem dX1_init_46 : decode cX1_init 46 = .ok (.putfield 31, 3) := by decide +kernel
theorem dX1_init_49 : decode cX1_init 49 = .ok (.return_, 1) := by decide +kernel
theorem dX1_begin_0 : decode cX1_begin 0 = .ok (.aload_n 0, 1) := by decide +kernel
theorem dX1_begin_1 : decode cX1_begin 1 = .ok (.getfield 9, 3) := by decide +kernel
theorem dX1_begin_4 : decode cX1_begin 4 = .ok (.iconst 0, 1) := by decide +kernel
theorem dX1_begin_5 : decode cX1_begin 5 = .ok (.invokestatic 34, 3) := by decide +kernel
theorem dX1_begin_8 : decode cX1_begin 8 = .ok (.aload_n 1, 1) := by decide +kernel
theorem dX1_begin_9 : decode cX1_begin 9 = .ok (.iconst 0, 1) := by decide +kernel
theorem dX1_begin_10 : decode cX1_begin 10 = .ok (.aload_n 0, 1) := by decide +kernel
theorem dX1_begin_11 : decode cX1_begin 11 = .ok (.getfield 9, 3) := by decide +kernel
theorem dX1_begin_14 : decode cX1_begin 14 = .ok (.iconst 0, 1) := by decide +kernel
theorem dX1_begin_15 : decode cX1_begin 15 = .ok (.bipush 16, 2) := by decide +kernel
theorem dX1_begin_17 : decode cX1_begin 17 = .ok (.invokestatic 40, 3) := by decide +kernel
theorem dX1_begin_20 : decode cX1_begin 20 = .ok (.aload_n 2, 1) := by decide +kernel
theorem dX1_begin_21 : decode cX1_begin 21 = .ok (.iconst 0, 1) := by decide +kernel
theorem dX1_begin_22 : decode cX1_begin 22 = .ok (.aload_n 0, 1) := by decide +kernel
theorem dX1_begin_23 : decode cX1_begin 23 = .ok (.getfield 15, 3) := by decide +kernel
theorem dX1_begin_26 : decode cX1_begin 26 = .ok (.iconst 0, 1) := by decide +kernel
theorem dX1_begin_27 : decode cX1_begin 27 = .ok (.bipush 32, 2) := by decide +kernel
theorem dX1_begin_29 : decode cX1_begin 29 = .ok (.invokestatic 40, 3) := by decide +kernel
theorem dX1_begin_32 : decode cX1_begin 32 = .ok (.aload_n 0, 1) := by decide +kernel
theorem dX1_begin_33 : decode cX1_begin 33 = .ok (.iconst 0, 1) := by decide +kernel
theorem dX1_begin_34 : decode cX1_begin 34 = .ok (.putfield 21, 3) := by decide +kernel
theorem dX1_begin_37 : decode cX1_begin 37 = .ok (.aload_n 0, 1) := by decide +kernel
theorem dX1_begin_38 : decode cX1_begin 38 = .ok (.iconst 0, 1) := by decide +kernel
theorem dX1_begin_39 : decode cX1_begin 39 = .ok (.putfield 25, 3) := by decide +kernel
theorem dX1_begin_42 : decode cX1_begin 42 = .ok (.aload_n 0, 1) := by decide +kernel
theorem dX1_begin_43 : decode cX1_begin 43 = .ok (.iconst (-1), 1) := by decide +kernel
theorem dX1_begin_44 : decode cX1_begin 44 = .ok (.putfield 28, 3) := by decide +kernel
theorem dX1_begin_47 : decode cX1_begin 47 = .ok (.aload_n 0, 1) := by decide +kernel
theorem dX1_begin_48 : decode cX1_begin 48 = .ok (.iconst 0, 1) := by decide +kernel
theorem dX1_begin_49 : decode cX1_begin 49 = .ok (.putfield 31, 3) := by decide +kernel
theorem dX1_begin_52 : decode cX1_begin 52 = .ok (.return_, 1) := by decide +kernel
theorem dX1_doText_0 : decode cX1_doText 0 = .ok (.aload_n 0, 1) := by decide +kernel
theorem dX1_doText_1 : decode cX1_doText 1 = .ok (.aload_n 1, 1) := by decide +kernel
theorem dX1_doText_2 : decode cX1_doText 2 = .ok (.iconst 0, 1) := by decide +kernel
theorem dX1_doText_3 : decode cX1_doText 3 = .ok (.aload_n 1, 1) := by decide +kernel
theorem dX1_doText_4 : decode cX1_doText 4 = .ok (.getfield 46, 3) := by decide +kernel
theorem dX1_doText_7 : decode cX1_doText 7 = .ok (.iconst 0, 1) := by decide +kernel
theorem dX1_doText_8 : decode cX1_doText 8 = .ok (.invokevirtual 51, 3) := by decide +kernel
theorem dX1_doText_11 : decode cX1_doText 11 = .ok (.return_, 1) := by decide +kernel
theorem dX1_doRange_0 : decode cX1_doRange 0 = .ok (.iload_n 2, 1) := by decide +kernel
theorem dX1_doRange_1 : decode cX1_doRange 1 = .ok (.istore 5, 2) := by decide +kernel
theorem dX1_doRange_3 : decode cX1_doRange 3 = .ok (.iload 5, 2) := by decide +kernel
theorem dX1_doRange_5 : decode cX1_doRange 5 = .ok (.iload_n 3, 1) := by decide +kernel
theorem dX1_doRange_6 : decode cX1_doRange 6 = .ok (.if_icmp .ge 69, 3) := by decide +kernel
theorem dX1_doRange_9 : decode cX1_doRange 9 = .ok (.aload_n 0, 1) := by decide +kernel
theorem dX1_doRange_10 : decode cX1_doRange 10 = .ok (.getfield 25, 3) := by decide +kernel
theorem dX1_doRange_13 : decode cX1_doRange 13 = .ok (.ifCond .ne 62, 3) := by decide +kernel
theorem dX1_doRange_16 : decode cX1_doRange 16 = .ok (.aload_n 0, 1) := by decide +kernel
theorem dX1_doRange_17 : decode cX1_doRange 17 = .ok (.dup, 1) := by decide +kernel
theorem dX1_doRange_18 : decode cX1_doRange 18 = .ok (.getfield 31, 3) := by decide +kernel
theorem dX1_doRange_21 : decode cX1_doRange 21 = .ok (.iconst 1, 1) := by decide +kernel
theorem dX1_doRange_22 : decode cX1_doRange 22 = .ok (.iadd, 1) := by decide +kernel
theorem dX1_doRange_23 : decode cX1_doRange 23 = .ok (.putfield 31, 3) := by decide +kernel
theorem dX1_doRange_26 : decode cX1_doRange 26 = .ok (.aload_n 1, 1) := by decide +kernel
theorem dX1_doRange_27 : decode cX1_doRange 27 = .ok (.getfield 55, 3) := by decide +kernel
theorem dX1_doRange_30 : decode cX1_doRange 30 = .ok (.iload 5, 2) := by decide +kernel
theorem dX1_doRange_32 : decode cX1_doRange 32 = .ok (.iaload, 1) := by decide +kernel
theorem dX1_doRange_33 : decode cX1_doRange 33 = .ok (.iconst 5, 1) := by decide +kernel
theorem dX1_doRange_34 : decode cX1_doRange 34 = .ok (.if_icmp .ne 15, 3) := by decide +kernel
theorem dX1_doRange_37 : decode cX1_doRange 37 = .ok (.aload_n 0, 1) := by decide +kernel
theorem dX1_doRange_38 : decode cX1_doRange 38 = .ok (.aload_n 1, 1) := by decide +kernel
theorem dX1_doRange_39 : decode cX1_doRange 39 = .ok (.iload 5, 2) := by decide +kernel
theorem dX1_doRange_41 : decode cX1_doRange 41 = .ok (.iload 4, 2) := by decide +kernel
theorem dX1_doRange_43 : decode cX1_doRange 43 = .ok (.invokevirtual 58, 3) := by decide +kernel
theorem dX1_doRange_46 : decode cX1_doRange 46 = .ok (.goto 10, 3) := by decide +kernel
theorem dX1_doRange_49 : decode cX1_doRange 49 = .ok (.aload_n 0, 1) := by decide +kernel
theorem dX1_doRange_50 : decode cX1_doRange 50 = .ok (.aload_n 1, 1) := by decide +kernel
theorem dX1_doRange_51 : decode cX1_doRange 51 = .ok (.iload 5, 2) := by decide +kernel
theorem dX1_doRange_53 : decode cX1_doRange 53 = .ok (.invokevirtual 62, 3) := by decide +kernel
theorem dX1_doRange_56 : decode cX1_doRange 56 = .ok (.iload 5, 2) := by decide +kernel
theorem dX1_doRange_58 : decode cX1_doRange 58 = .ok (.iconst 1, 1) := by decide +kernel
theorem dX1_doRange_59 : decode cX1_doRange 59 = .ok (.iadd, 1) := by decide +kernel
theorem dX1_doRange_60 : decode cX1_doRange 60 = .ok (.aload_n 1, 1) := by decide +kernel
theorem dX1_doRange_61 : decode cX1_doRange 61 = .ok (.getfield 66, 3) := by decide +kernel
theorem dX1_doRange_64 : decode cX1_doRange 64 = .ok (.iload 5, 2) := by decide +kernel
theorem dX1_doRange_66 : decode cX1_doRange 66 = .ok (.iaload, 1) := by decide +kernel
theorem dX1_doRange_67 : decode cX1_doRange 67 = .ok (.invokestatic 69, 3) := by decide +kernel
theorem dX1_doRange_70 : decode cX1_doRange 70 = .ok (.istore 5, 2) := by decide +kernel
theorem dX1_doRange_72 : decode cX1_doRange 72 = .ok (.goto (-69), 3) := by decide +kernel
theorem dX1_doRange_75 : decode cX1_doRange 75 = .ok (.return_, 1) := by decide +kernel
theorem dX1_doBranch_0 : decode cX1_doBranch 0 = .ok (.iload_n 3, 1) := by decide +kernel
theorem dX1_doBranch_1 : decode cX1_doBranch 1 = .ok (.bipush 6, 2) := by decide +kernel
theorem dX1_doBranch_3 : decode cX1_doBranch 3 = .ok (.if_icmp .lt 4, 3) := by decide +kernel
theorem dX1_doBranch_6 : decode cX1_doBranch 6 = .ok (.return_, 1) := by decide +kernel
theorem dX1_doBranch_7 : decode cX1_doBranch 7 = .ok (.aload_n 1, 1) := by decide +kernel
theorem dX1_doBranch_8 : decode cX1_doBranch 8 = .ok (.getfield 75, 3) := by decide +kernel
theorem dX1_doBranch_11 : decode cX1_doBranch 11 = .ok (.iload_n 2, 1) := by decide +kernel
theorem dX1_doBranch_12 : decode cX1_doBranch 12 = .ok (.iaload, 1) := by decide +kernel
theorem dX1_doBranch_13 : decode cX1_doBranch 13 = .ok (.aload_n 0, 1) := by decide +kernel
theorem dX1_doBranch_14 : decode cX1_doBranch 14 = .ok (.aload_n 1, 1) := by decide +kernel
theorem dX1_doBranch_15 : decode cX1_doBranch 15 = .ok (.iconst 2, 1) := by decide +kernel
theorem dX1_doBranch_16 : decode cX1_doBranch 16 = .ok (.iload_n 2, 1) := by decide +kernel
theorem dX1_doBranch_17 : decode cX1_doBranch 17 = .ok (.imul, 1) := by decide +kernel
theorem dX1_doBranch_18 : decode cX1_doBranch 18 = .ok (.invokevirtual 78, 3) := by decide +kernel
theorem dX1_doBranch_21 : decode cX1_doBranch 21 = .ok (.aload_n 0, 1) := by decide +kernel
theorem dX1_doBranch_22 : decode cX1_doBranch 22 = .ok (.aload_n 1, 1) := by decide +kernel
theorem dX1_doBranch_23 : decode cX1_doBranch 23 = .ok (.iconst 2, 1) := by decide +kernel
theorem dX1_doBranch_24 : decode cX1_doBranch 24 = .ok (.iload_n 2, 1) := by decide +kernel
theorem dX1_doBranch_25 : decode cX1_doBranch 25 = .ok (.imul, 1) := by decide +kernel
theorem dX1_doBranch_26 : decode cX1_doBranch 26 = .ok (.iconst 1, 1) := by decide +kernel
theorem dX1_doBranch_27 : decode cX1_doBranch 27 = .ok (.iadd, 1) := by decide +kernel
theorem dX1_doBranch_28 : decode cX1_doBranch 28 = .ok (.invokevirtual 78, 3) := by decide +kernel
theorem dX1_doBranch_31 : decode cX1_doBranch 31 = .ok (.invokestatic 82, 3) := by decide +kernel
theorem dX1_doBranch_34 : decode cX1_doBranch 34 = .ok (.ifCond .eq 23, 3) := by decide +kernel
theorem dX1_doBranch_37 : decode cX1_doBranch 37 = .ok (.aload_n 0, 1) := by decide +kernel
theorem dX1_doBranch_38 : decode cX1_doBranch 38 = .ok (.aload_n 1, 1) := by decide +kernel
theorem dX1_doBranch_39 : decode cX1_doBranch 39 = .ok (.iload_n 2, 1) := by decide +kernel
theorem dX1_doBranch_40 : decode cX1_doBranch 40 = .ok (.iconst 1, 1) := by decide +kernel
theorem dX1_doBranch_41 : decode cX1_doBranch 41 = .ok (.iadd, 1) := by decide +kernel
theorem dX1_doBranch_42 : decode cX1_doBranch 42 = .ok (.aload_n 1, 1) := by decide +kernel
theorem dX1_doBranch_43 : decode cX1_doBranch 43 = .ok (.getfield 86, 3) := by decide +kernel
theorem dX1_doBranch_46 : decode cX1_doBranch 46 = .ok (.iload_n 2, 1) := by decide +kernel
theorem dX1_doBranch_47 : decode cX1_doBranch 47 = .ok (.iaload, 1) := by decide +kernel
theorem dX1_doBranch_48 : decode cX1_doBranch 48 = .ok (.iload_n 3, 1) := by decide +kernel
theorem dX1_doBranch_49 : decode cX1_doBranch 49 = .ok (.iconst 1, 1) := by decide +kernel
theorem dX1_doBranch_50 : decode cX1_doBranch 50 = .ok (.iadd, 1) := by decide +kernel
theorem dX1_doBranch_51 : decode cX1_doBranch 51 = .ok (.invokevirtual 51, 3) := by decide +kernel
theorem dX1_doBranch_54 : decode cX1_doBranch 54 = .ok (.goto 23, 3) := by decide +kernel
theorem dX1_doBranch_57 : decode cX1_doBranch 57 = .ok (.aload_n 0, 1) := by decide +kernel
theorem dX1_doBranch_58 : decode cX1_doBranch 58 = .ok (.aload_n 1, 1) := by decide +kernel
theorem dX1_doBranch_59 : decode cX1_doBranch 59 = .ok (.aload_n 1, 1) := by decide +kernel
theorem dX1_doBranch_60 : decode cX1_doBranch 60 = .ok (.getfield 86, 3) := by decide +kernel
theorem dX1_doBranch_63 : decode cX1_doBranch 63 = .ok (.iload_n 2, 1) := by decide +kernel
theorem dX1_doBranch_64 : decode cX1_doBranch 64 = .ok (.iaload, 1) := by decide +kernel
theorem dX1_doBranch_65 : decode cX1_doBranch 65 = .ok (.aload_n 1, 1) := by decide +kernel
theorem dX1_doBranch_66 : decode cX1_doBranch 66 = .ok (.getfield 66, 3) := by decide +kernel
theorem dX1_doBranch_69 : decode cX1_doBranch 69 = .ok (.iload_n 2, 1) := by decide +kernel
theorem dX1_doBranch_70 : decode cX1_doBranch 70 = .ok (.iaload, 1) := by decide +kernel
theorem dX1_doBranch_71 : decode cX1_doBranch 71 = .ok (.iload_n 3, 1) := by decide +kernel
theorem dX1_doBranch_72 : decode cX1_doBranch 72 = .ok (.iconst 1, 1) := by decide +kernel
theorem dX1_doBranch_73 : decode cX1_doBranch 73 = .ok (.iadd, 1) := by decide +kernel
theorem dX1_doBranch_74 : decode cX1_doBranch 74 = .ok (.invokevirtual 51, 3) := by decide +kernel
theorem dX1_doBranch_77 : decode cX1_doBranch 77 = .ok (.return_, 1) := by decide +kernel
theorem dX1_valueOf_0 : decode cX1_valueOf 0 = .ok (.aload_n 1, 1) := by decide +kernel
theorem dX1_valueOf_1 : decode cX1_valueOf 1 = .ok (.getfield 89, 3) := by decide +kernel
theorem dX1_valueOf_4 : decode cX1_valueOf 4 = .ok (.iload_n 2, 1) := by decide +kernel
theorem dX1_valueOf_5 : decode cX1_valueOf 5 = .ok (.baload, 1) := by decide +kernel
theorem dX1_valueOf_6 : decode cX1_valueOf 6 = .ok (.ifCond .eq 17, 3) := by decide +kernel
theorem dX1_valueOf_9 : decode cX1_valueOf 9 = .ok (.aload_n 0, 1) := by decide +kernel
theorem dX1_valueOf_10 : decode cX1_valueOf 10 = .ok (.getfield 9, 3) := by decide +kernel
theorem dX1_valueOf_13 : decode cX1_valueOf 13 = .ok (.aload_n 1, 1) := by decide +kernel
theorem dX1_valueOf_14 : decode cX1_valueOf 14 = .ok (.getfield 93, 3) := by decide +kernel
theorem dX1_valueOf_17 : decode cX1_valueOf 17 = .ok (.iload_n 2, 1) := by decide +kernel
theorem dX1_valueOf_18 : decode cX1_valueOf 18 = .ok (.iaload, 1) := by decide +kernel
theorem dX1_valueOf_19 : decode cX1_valueOf 19 = .ok (.iaload, 1) := by decide +kernel
theorem dX1_valueOf_20 : decode cX1_valueOf 20 = .ok (.goto 9, 3) := by decide +kernel
theorem dX1_valueOf_23 : decode cX1_valueOf 23 = .ok (.aload_n 1, 1) := by decide +kernel
theorem dX1_valueOf_24 : decode cX1_valueOf 24 = .ok (.getfield 93, 3) := by decide +kernel
theorem dX1_valueOf_27 : decode cX1_valueOf 27 = .ok (.iload_n 2, 1) := by decide +kernel
theorem dX1_valueOf_28 : decode cX1_valueOf 28 = .ok (.iaload, 1) := by decide +kernel
theorem dX1_valueOf_29 : decode cX1_valueOf 29 = .ok (.ireturn, 1) := by decide +kernel
theorem dX1_doSimple_0 : decode cX1_doSimple 0 = .ok (.aload_n 0, 1) := by decide +kernel
theorem dX1_doSimple_1 : decode cX1_doSimple 1 = .ok (.aload_n 1, 1) := by decide +kernel
theorem dX1_doSimple_2 : decode cX1_doSimple 2 = .ok (.iconst 2, 1) := by decide +kernel
theorem dX1_doSimple_3 : decode cX1_doSimple 3 = .ok (.iload_n 2, 1) := by decide +kernel
theorem dX1_doSimple_4 : decode cX1_doSimple 4 = .ok (.imul, 1) := by decide +kernel
theorem dX1_doSimple_5 : decode cX1_doSimple 5 = .ok (.invokevirtual 78, 3) := by decide +kernel
theorem dX1_doSimple_8 : decode cX1_doSimple 8 = .ok (.istore_n 3, 1) := by decide +kernel
theorem dX1_doSimple_9 : decode cX1_doSimple 9 = .ok (.aload_n 1, 1) := by decide +kernel
theorem dX1_doSimple_10 : decode cX1_doSimple 10 = .ok (.getfield 55, 3) := by decide +kernel
theorem dX1_doSimple_13 : decode cX1_doSimple 13 = .ok (.iload_n 2, 1) := by decide +kernel
theorem dX1_doSimple_14 : decode cX1_doSimple 14 = .ok (.iaload, 1) := by decide +kernel
theorem dX1_doSimple_15 : decode cX1_doSimple 15 = .ok (.tableswitch 109 0 3 #[29, 44, 75, 90], 29) := by decide +kernel
theorem dX1_doSimple_44 : decode cX1_doSimple 44 = .ok (.aload_n 0, 1) := by decide +kernel
theorem dX1_doSimple_45 : decode cX1_doSimple 45 = .ok (.getfield 9, 3) := by decide +kernel
theorem dX1_doSimple_48 : decode cX1_doSimple 48 = .ok (.aload_n 1, 1) := by decide +kernel
theorem dX1_doSimple_49 : decode cX1_doSimple 49 = .ok (.getfield 96, 3) := by decide +kernel
theorem dX1_doSimple_52 : decode cX1_doSimple 52 = .ok (.iload_n 2, 1) := by decide +kernel
theorem dX1_doSimple_53 : decode cX1_doSimple 53 = .ok (.iaload, 1) := by decide +kernel
theorem dX1_doSimple_54 : decode cX1_doSimple 54 = .ok (.iload_n 3, 1) := by decide +kernel
theorem dX1_doSimple_55 : decode cX1_doSimple 55 = .ok (.iastore, 1) := by decide +kernel
theorem dX1_doSimple_56 : decode cX1_doSimple 56 = .ok (.goto 73, 3) := by decide +kernel
theorem dX1_doSimple_59 : decode cX1_doSimple 59 = .ok (.aload_n 0, 1) := by decide +kernel
theorem dX1_doSimple_60 : decode cX1_doSimple 60 = .ok (.aload_n 1, 1) := by decide +kernel
theorem dX1_doSimple_61 : decode cX1_doSimple 61 = .ok (.getfield 75, 3) := by decide +kernel
theorem dX1_doSimple_64 : decode cX1_doSimple 64 = .ok (.iload_n 2, 1) := by decide +kernel
theorem dX1_doSimple_65 : decode cX1_doSimple 65 = .ok (.iaload, 1) := by decide +kernel
theorem dX1_doSimple_66 : decode cX1_doSimple 66 = .ok (.aload_n 1, 1) := by decide +kernel
theorem dX1_doSimple_67 : decode cX1_doSimple 67 = .ok (.getfield 96, 3) := by decide +kernel
theorem dX1_doSimple_70 : decode cX1_doSimple 70 = .ok (.iload_n 2, 1) := by decide +kernel
theorem dX1_doSimple_71 : decode cX1_doSimple 71 = .ok (.iaload, 1) := by decide +kernel
theorem dX1_doSimple_72 : decode cX1_doSimple 72 = .ok (.iload_n 3, 1) := by decide +kernel
theorem dX1_doSimple_73 : decode cX1_doSimple 73 = .ok (.aload_n 0, 1) := by decide +kernel
theorem dX1_doSimple_74 : decode cX1_doSimple 74 = .ok (.aload_n 1, 1) := by decide +kernel
theorem dX1_doSimple_75 : decode cX1_doSimple 75 = .ok (.iconst 2, 1) := by decide +kernel
theorem dX1_doSimple_76 : decode cX1_doSimple 76 = .ok (.iload_n 2, 1) := by decide +kernel
theorem dX1_doSimple_77 : decode cX1_doSimple 77 = .ok (.imul, 1) := by decide +kernel
theorem dX1_doSimple_78 : decode cX1_doSimple 78 = .ok (.iconst 1, 1) := by decide +kernel
theorem dX1_doSimple_79 : decode cX1_doSimple 79 = .ok (.iadd, 1) := by decide +kernel
theorem dX1_doSimple_80 : decode cX1_doSimple 80 = .ok (.invokevirtual 78, 3) := by decide +kernel
theorem dX1_doSimple_83 : decode cX1_doSimple 83 = .ok (.iload_n 2, 1) := by decide +kernel
theorem dX1_doSimple_84 : decode cX1_doSimple 84 = .ok (.invokevirtual 99, 3) := by decide +kernel
theorem dX1_doSimple_87 : decode cX1_doSimple 87 = .ok (.goto 42, 3) := by decide +kernel
theorem dX1_doSimple_90 : decode cX1_doSimple 90 = .ok (.aload_n 0, 1) := by decide +kernel
theorem dX1_doSimple_91 : decode cX1_doSimple 91 = .ok (.aload_n 1, 1) := by decide +kernel
theorem dX1_doSimple_92 : decode cX1_doSimple 92 = .ok (.getfield 96, 3) := by decide +kernel
theorem dX1_doSimple_95 : decode cX1_doSimple 95 = .ok (.iload_n 2, 1) := by decide +kernel
theorem dX1_doSimple_96 : decode cX1_doSimple 96 = .ok (.iaload, 1) := by decide +kernel
theorem dX1_doSimple_97 : decode cX1_doSimple 97 = .ok (.iload_n 3, 1) := by decide +kernel
theorem dX1_doSimple_98 : decode cX1_doSimple 98 = .ok (.iload_n 2, 1) := by decide +kernel
theorem dX1_doSimple_99 : decode cX1_doSimple 99 = .ok (.invokevirtual 103, 3) := by decide +kernel
theorem dX1_doSimple_102 : decode cX1_doSimple 102 = .ok (.goto 27, 3) := by decide +kernel
theorem dX1_doSimple_105 : decode cX1_doSimple 105 = .ok (.aload_n 0, 1) := by decide +kernel
theorem dX1_doSimple_106 : decode cX1_doSimple 106 = .ok (.iload_n 3, 1) := by decide +kernel
theorem dX1_doSimple_107 : decode cX1_doSimple 107 = .ok (.aload_n 0, 1) := by decide +kernel
theorem dX1_doSimple_108 : decode cX1_doSimple 108 = .ok (.aload_n 1, 1) := by decide +kernel
theorem dX1_doSimple_109 : decode cX1_doSimple 109 = .ok (.iconst 2, 1) := by decide +kernel
theorem dX1_doSimple_110 : decode cX1_doSimple 110 = .ok (.iload_n 2, 1) := by decide +kernel
theorem dX1_doSimple_111 : decode cX1_doSimple 111 = .ok (.imul, 1) := by decide +kernel
theorem dX1_doSimple_112 : decode cX1_doSimple 112 = .ok (.iconst 1, 1) := by decide +kernel
theorem dX1_doSimple_113 : decode cX1_doSimple 113 = .ok (.iadd, 1) := by decide +kernel
theorem dX1_doSimple_114 : decode cX1_doSimple 114 = .ok (.invokevirtual 78, 3) := by decide +kernel
theorem dX1_doSimple_117 : decode cX1_doSimple 117 = .ok (.iload_n 2, 1) := by decide +kernel
theorem dX1_doSimple_118 : decode cX1_doSimple 118 = .ok (.invokevirtual 107, 3) := by decide +kernel
theorem dX1_doSimple_121 : decode cX1_doSimple 121 = .ok (.goto 8, 3) := by decide +kernel
theorem dX1_doSimple_124 : decode cX1_doSimple 124 = .ok (.aload_n 0, 1) := by decide +kernel
theorem dX1_doSimple_125 : decode cX1_doSimple 125 = .ok (.iload_n 3, 1) := by decide +kernel
theorem dX1_doSimple_126 : decode cX1_doSimple 126 = .ok (.invokevirtual 110, 3) := by decide +kernel
theorem dX1_doSimple_129 : decode cX1_doSimple 129 = .ok (.return_, 1) := by decide +kernel
theorem dX1_doCode_0 : decode cX1_doCode 0 = .ok (.iconst 0, 1) := by decide +kernel
theorem dX1_doCode_1 : decode cX1_doCode 1 = .ok (.istore_n 2, 1) := by decide +kernel
theorem dX1_doCode_2 : decode cX1_doCode 2 = .ok (.iconst 0, 1) := by decide +kernel
theorem dX1_doCode_3 : decode cX1_doCode 3 = .ok (.istore_n 3, 1) := by decide +kernel
theorem dX1_doCode_4 : decode cX1_doCode 4 = .ok (.iload_n 3, 1) := by decide +kernel
theorem dX1_doCode_5 : decode cX1_doCode 5 = .ok (.aload_n 1, 1) := by decide +kernel
theorem dX1_doCode_6 : decode cX1_doCode 6 = .ok (.getfield 114, 3) := by decide +kernel
theorem dX1_doCode_9 : decode cX1_doCode 9 = .ok (.if_icmp .ge 44, 3) := by decide +kernel
theorem dX1_doCode_12 : decode cX1_doCode 12 = .ok (.aload_n 0, 1) := by decide +kernel
theorem dX1_doCode_13 : decode cX1_doCode 13 = .ok (.getfield 25, 3) := by decide +kernel
theorem dX1_doCode_16 : decode cX1_doCode 16 = .ok (.ifCond .ne 37, 3) := by decide +kernel
theorem dX1_doCode_19 : decode cX1_doCode 19 = .ok (.aload_n 0, 1) := by decide +kernel
theorem dX1_doCode_20 : decode cX1_doCode 20 = .ok (.dup, 1) := by decide +kernel
theorem dX1_doCode_21 : decode cX1_doCode 21 = .ok (.getfield 31, 3) := by decide +kernel
theorem dX1_doCode_24 : decode cX1_doCode 24 = .ok (.iconst 1, 1) := by decide +kernel
theorem dX1_doCode_25 : decode cX1_doCode 25 = .ok (.iadd, 1) := by decide +kernel
theorem dX1_doCode_26 : decode cX1_doCode 26 = .ok (.putfield 31, 3) := by decide +kernel
theorem dX1_doCode_29 : decode cX1_doCode 29 = .ok (.aload_n 0, 1) := by decide +kernel
theorem dX1_doCode_30 : decode cX1_doCode 30 = .ok (.aload_n 1, 1) := by decide +kernel
theorem dX1_doCode_31 : decode cX1_doCode 31 = .ok (.iload_n 3, 1) := by decide +kernel
theorem dX1_doCode_32 : decode cX1_doCode 32 = .ok (.invokevirtual 119, 3) := by decide +kernel
theorem dX1_doCode_35 : decode cX1_doCode 35 = .ok (.istore_n 2, 1) := by decide +kernel
theorem dX1_doCode_36 : decode cX1_doCode 36 = .ok (.aload_n 0, 1) := by decide +kernel
theorem dX1_doCode_37 : decode cX1_doCode 37 = .ok (.aload_n 1, 1) := by decide +kernel
theorem dX1_doCode_38 : decode cX1_doCode 38 = .ok (.iload_n 3, 1) := by decide +kernel
theorem dX1_doCode_39 : decode cX1_doCode 39 = .ok (.invokevirtual 123, 3) := by decide +kernel
theorem dX1_doCode_42 : decode cX1_doCode 42 = .ok (.iload_n 3, 1) := by decide +kernel
theorem dX1_doCode_43 : decode cX1_doCode 43 = .ok (.iconst 1, 1) := by decide +kernel
theorem dX1_doCode_44 : decode cX1_doCode 44 = .ok (.iadd, 1) := by decide +kernel
theorem dX1_doCode_45 : decode cX1_doCode 45 = .ok (.iload_n 2, 1) := by decide +kernel
theorem dX1_doCode_46 : decode cX1_doCode 46 = .ok (.invokestatic 69, 3) := by decide +kernel
theorem dX1_doCode_49 : decode cX1_doCode 49 = .ok (.istore_n 3, 1) := by decide +kernel
theorem dX1_doCode_50 : decode cX1_doCode 50 = .ok (.goto (-46), 3) := by decide +kernel
theorem dX1_doCode_53 : decode cX1_doCode 53 = .ok (.return_, 1) := by decide +kernel
theorem dX1_nextBehind_0 : decode cX1_nextBehind 0 = .ok (.aload_n 1, 1) := by decide +kernel
theorem dX1_nextBehind_1 : decode cX1_nextBehind 1 = .ok (.getfield 127, 3) := by decide +kernel
theorem dX1_nextBehind_4 : decode cX1_nextBehind 4 = .ok (.iconst 0, 1) := by decide +kernel
theorem dX1_nextBehind_5 : decode cX1_nextBehind 5 = .ok (.aaload, 1) := by decide +kernel
theorem dX1_nextBehind_6 : decode cX1_nextBehind 6 = .ok (.iload_n 2, 1) := by decide +kernel
theorem dX1_nextBehind_7 : decode cX1_nextBehind 7 = .ok (.iaload, 1) := by decide +kernel
theorem dX1_nextBehind_8 : decode cX1_nextBehind 8 = .ok (.bipush 16, 2) := by decide +kernel
theorem dX1_nextBehind_10 : decode cX1_nextBehind 10 = .ok (.if_icmp .ne 12, 3) := by decide +kernel
theorem dX1_nextBehind_13 : decode cX1_nextBehind 13 = .ok (.aload_n 1, 1) := by decide +kernel
theorem dX1_nextBehind_14 : decode cX1_nextBehind 14 = .ok (.getfield 127, 3) := by decide +kernel
theorem dX1_nextBehind_17 : decode cX1_nextBehind 17 = .ok (.iconst 1, 1) := by decide +kernel
theorem dX1_nextBehind_18 : decode cX1_nextBehind 18 = .ok (.aaload, 1) := by decide +kernel
theorem dX1_nextBehind_19 : decode cX1_nextBehind 19 = .ok (.iload_n 2, 1) := by decide +kernel
theorem dX1_nextBehind_20 : decode cX1_nextBehind 20 = .ok (.iaload, 1) := by decide +kernel
theorem dX1_nextBehind_21 : decode cX1_nextBehind 21 = .ok (.ireturn, 1) := by decide +kernel
theorem dX1_nextBehind_22 : decode cX1_nextBehind 22 = .ok (.aload_n 1, 1) := by decide +kernel
theorem dX1_nextBehind_23 : decode cX1_nextBehind 23 = .ok (.getfield 127, 3) := by decide +kernel
theorem dX1_nextBehind_26 : decode cX1_nextBehind 26 = .ok (.iconst 0, 1) := by decide +kernel
theorem dX1_nextBehind_27 : decode cX1_nextBehind 27 = .ok (.aaload, 1) := by decide +kernel
theorem dX1_nextBehind_28 : decode cX1_nextBehind 28 = .ok (.iload_n 2, 1) := by decide +kernel
theorem dX1_nextBehind_29 : decode cX1_nextBehind 29 = .ok (.iaload, 1) := by decide +kernel
theorem dX1_nextBehind_30 : decode cX1_nextBehind 30 = .ok (.bipush 17, 2) := by decide +kernel
theorem dX1_nextBehind_32 : decode cX1_nextBehind 32 = .ok (.if_icmp .ne 23, 3) := by decide +kernel
theorem dX1_nextBehind_35 : decode cX1_nextBehind 35 = .ok (.aload_n 0, 1) := by decide +kernel
theorem dX1_nextBehind_36 : decode cX1_nextBehind 36 = .ok (.getfield 9, 3) := by decide +kernel
theorem dX1_nextBehind_39 : decode cX1_nextBehind 39 = .ok (.aload_n 1, 1) := by decide +kernel
theorem dX1_nextBehind_40 : decode cX1_nextBehind 40 = .ok (.getfield 127, 3) := by decide +kernel
theorem dX1_nextBehind_43 : decode cX1_nextBehind 43 = .ok (.iconst 1, 1) := by decide +kernel
theorem dX1_nextBehind_44 : decode cX1_nextBehind 44 = .ok (.aaload, 1) := by decide +kernel
theorem dX1_nextBehind_45 : decode cX1_nextBehind 45 = .ok (.iload_n 2, 1) := by decide +kernel
theorem dX1_nextBehind_46 : decode cX1_nextBehind 46 = .ok (.iaload, 1) := by decide +kernel
theorem dX1_nextBehind_47 : decode cX1_nextBehind 47 = .ok (.iaload, 1) := by decide +kernel
theorem dX1_nextBehind_48 : decode cX1_nextBehind 48 = .ok (.ifCond .ne 7, 3) := by decide +kernel
theorem dX1_nextBehind_51 : decode cX1_nextBehind 51 = .ok (.iconst 1, 1) := by decide +kernel
theorem dX1_nextBehind_52 : decode cX1_nextBehind 52 = .ok (.goto 4, 3) := by decide +kernel
theorem dX1_nextBehind_55 : decode cX1_nextBehind 55 = .ok (.iconst 0, 1) := by decide +kernel
theorem dX1_nextBehind_56 : decode cX1_nextBehind 56 = .ok (.istore_n 3, 1) := by decide +kernel
theorem dX1_nextBehind_57 : decode cX1_nextBehind 57 = .ok (.iload_n 3, 1) := by decide +kernel
theorem dX1_nextBehind_58 : decode cX1_nextBehind 58 = .ok (.ifCond .eq 14, 3) := by decide +kernel
theorem dX1_nextBehind_61 : decode cX1_nextBehind 61 = .ok (.aload_n 1, 1) := by decide +kernel
theorem dX1_nextBehind_62 : decode cX1_nextBehind 62 = .ok (.getfield 127, 3) := by decide +kernel
theorem dX1_nextBehind_65 : decode cX1_nextBehind 65 = .ok (.iconst 2, 1) := by decide +kernel
theorem dX1_nextBehind_66 : decode cX1_nextBehind 66 = .ok (.aaload, 1) := by decide +kernel
theorem dX1_nextBehind_67 : decode cX1_nextBehind 67 = .ok (.iload_n 2, 1) := by decide +kernel
theorem dX1_nextBehind_68 : decode cX1_nextBehind 68 = .ok (.iaload, 1) := by decide +kernel
theorem dX1_nextBehind_69 : decode cX1_nextBehind 69 = .ok (.goto 6, 3) := by decide +kernel
theorem dX1_nextBehind_72 : decode cX1_nextBehind 72 = .ok (.iload_n 2, 1) := by decide +kernel
theorem dX1_nextBehind_73 : decode cX1_nextBehind 73 = .ok (.iconst 1, 1) := by decide +kernel
theorem dX1_nextBehind_74 : decode cX1_nextBehind 74 = .ok (.iadd, 1) := by decide +kernel
theorem dX1_nextBehind_75 : decode cX1_nextBehind 75 = .ok (.ireturn, 1) := by decide +kernel
theorem dX1_doStep_0 : decode cX1_doStep 0 = .ok (.aload_n 1, 1) := by decide +kernel
theorem dX1_doStep_1 : decode cX1_doStep 1 = .ok (.getfield 127, 3) := by decide +kernel
theorem dX1_doStep_4 : decode cX1_doStep 4 = .ok (.iconst 0, 1) := by decide +kernel
theorem dX1_doStep_5 : decode cX1_doStep 5 = .ok (.aaload, 1) := by decide +kernel
theorem dX1_doStep_6 : decode cX1_doStep 6 = .ok (.iload_n 2, 1) := by decide +kernel
theorem dX1_doStep_7 : decode cX1_doStep 7 = .ok (.iaload, 1) := by decide +kernel
theorem dX1_doStep_8 : decode cX1_doStep 8 = .ok (.istore_n 3, 1) := by decide +kernel
theorem dX1_doStep_9 : decode cX1_doStep 9 = .ok (.aload_n 1, 1) := by decide +kernel
theorem dX1_doStep_10 : decode cX1_doStep 10 = .ok (.getfield 127, 3) := by decide +kernel
theorem dX1_doStep_13 : decode cX1_doStep 13 = .ok (.iconst 1, 1) := by decide +kernel
theorem dX1_doStep_14 : decode cX1_doStep 14 = .ok (.aaload, 1) := by decide +kernel
theorem dX1_doStep_15 : decode cX1_doStep 15 = .ok (.iload_n 2, 1) := by decide +kernel
theorem dX1_doStep_16 : decode cX1_doStep 16 = .ok (.iaload, 1) := by decide +kernel
theorem dX1_doStep_17 : decode cX1_doStep 17 = .ok (.istore 4, 2) := by decide +kernel
theorem dX1_doStep_19 : decode cX1_doStep 19 = .ok (.aload_n 1, 1) := by decide +kernel
theorem dX1_doStep_20 : decode cX1_doStep 20 = .ok (.getfield 127, 3) := by decide +kernel
theorem dX1_doStep_23 : decode cX1_doStep 23 = .ok (.iconst 2, 1) := by decide +kernel
theorem dX1_doStep_24 : decode cX1_doStep 24 = .ok (.aaload, 1) := by decide +kernel
theorem dX1_doStep_25 : decode cX1_doStep 25 = .ok (.iload_n 2, 1) := by decide +kernel
theorem dX1_doStep_26 : decode cX1_doStep 26 = .ok (.iaload, 1) := by decide +kernel
theorem dX1_doStep_27 : decode cX1_doStep 27 = .ok (.istore 5, 2) := by decide +kernel
theorem dX1_doStep_29 : decode cX1_doStep 29 = .ok (.aload_n 1, 1) := by decide +kernel
theorem dX1_doStep_30 : decode cX1_doStep 30 = .ok (.getfield 127, 3) := by decide +kernel
theorem dX1_doStep_33 : decode cX1_doStep 33 = .ok (.iconst 5, 1) := by decide +kernel
theorem dX1_doStep_34 : decode cX1_doStep 34 = .ok (.aaload, 1) := by decide +kernel
theorem dX1_doStep_35 : decode cX1_doStep 35 = .ok (.iload_n 2, 1) := by decide +kernel
theorem dX1_doStep_36 : decode cX1_doStep 36 = .ok (.iaload, 1) := by decide +kernel
theorem dX1_doStep_37 : decode cX1_doStep 37 = .ok (.istore 6, 2) := by decide +kernel
theorem dX1_doStep_39 : decode cX1_doStep 39 = .ok (.iload_n 3, 1) := by decide +kernel
theorem dX1_doStep_40 : decode cX1_doStep 40 = .ok (.tableswitch 223 0 18 #[92, 104, 223, 223, 223, 223, 223, 223, 223, 223, 223, 223, 223, 121, 165, 183, 206, 206, 209], 92) := by decide +kernel
theorem dX1_doStep_132 : decode cX1_doStep 132 = .ok (.aload_n 0, 1) := by decide +kernel
theorem dX1_doStep_133 : decode cX1_doStep 133 = .ok (.getfield 9, 3) := by decide +kernel
theorem dX1_doStep_136 : decode cX1_doStep 136 = .ok (.iload 4, 2) := by decide +kernel
theorem dX1_doStep_138 : decode cX1_doStep 138 = .ok (.iload 5, 2) := by decide +kernel
theorem dX1_doStep_140 : decode cX1_doStep 140 = .ok (.iastore, 1) := by decide +kernel
theorem dX1_doStep_141 : decode cX1_doStep 141 = .ok (.goto 151, 3) := by decide +kernel
theorem dX1_doStep_144 : decode cX1_doStep 144 = .ok (.aload_n 0, 1) := by decide +kernel
theorem dX1_doStep_145 : decode cX1_doStep 145 = .ok (.getfield 9, 3) := by decide +kernel
theorem dX1_doStep_148 : decode cX1_doStep 148 = .ok (.iload 4, 2) := by decide +kernel
theorem dX1_doStep_150 : decode cX1_doStep 150 = .ok (.aload_n 0, 1) := by decide +kernel
theorem dX1_doStep_151 : decode cX1_doStep 151 = .ok (.getfield 9, 3) := by decide +kernel
theorem dX1_doStep_154 : decode cX1_doStep 154 = .ok (.iload 5, 2) := by decide +kernel
theorem dX1_doStep_156 : decode cX1_doStep 156 = .ok (.iaload, 1) := by decide +kernel
theorem dX1_doStep_157 : decode cX1_doStep 157 = .ok (.iastore, 1) := by decide +kernel
theorem dX1_doStep_158 : decode cX1_doStep 158 = .ok (.goto 134, 3) := by decide +kernel
theorem dX1_doStep_161 : decode cX1_doStep 161 = .ok (.aload_n 0, 1) := by decide +kernel
theorem dX1_doStep_162 : decode cX1_doStep 162 = .ok (.getfield 9, 3) := by decide +kernel
theorem dX1_doStep_165 : decode cX1_doStep 165 = .ok (.iload 4, 2) := by decide +kernel
theorem dX1_doStep_167 : decode cX1_doStep 167 = .ok (.aload_n 0, 1) := by decide +kernel
theorem dX1_doStep_168 : decode cX1_doStep 168 = .ok (.getfield 9, 3) := by decide +kernel
theorem dX1_doStep_171 : decode cX1_doStep 171 = .ok (.aload_n 0, 1) := by decide +kernel
theorem dX1_doStep_172 : decode cX1_doStep 172 = .ok (.getfield 9, 3) := by decide +kernel
theorem dX1_doStep_175 : decode cX1_doStep 175 = .ok (.iload 5, 2) := by decide +kernel
theorem dX1_doStep_177 : decode cX1_doStep 177 = .ok (.iaload, 1) := by decide +kernel
theorem dX1_doStep_178 : decode cX1_doStep 178 = .ok (.ifCond .eq 14, 3) := by decide +kernel
theorem dX1_doStep_181 : decode cX1_doStep 181 = .ok (.aload_n 1, 1) := by decide +kernel
theorem dX1_doStep_182 : decode cX1_doStep 182 = .ok (.getfield 127, 3) := by decide +kernel
theorem dX1_doStep_185 : decode cX1_doStep 185 = .ok (.iconst 3, 1) := by decide +kernel
theorem dX1_doStep_186 : decode cX1_doStep 186 = .ok (.aaload, 1) := by decide +kernel
theorem dX1_doStep_187 : decode cX1_doStep 187 = .ok (.iload_n 2, 1) := by decide +kernel
theorem dX1_doStep_188 : decode cX1_doStep 188 = .ok (.iaload, 1) := by decide +kernel
theorem dX1_doStep_189 : decode cX1_doStep 189 = .ok (.goto 11, 3) := by decide +kernel
theorem dX1_doStep_192 : decode cX1_doStep 192 = .ok (.aload_n 1, 1) := by decide +kernel
theorem dX1_doStep_193 : decode cX1_doStep 193 = .ok (.getfield 127, 3) := by decide +kernel
theorem dX1_doStep_196 : decode cX1_doStep 196 = .ok (.iconst 4, 1) := by decide +kernel
theorem dX1_doStep_197 : decode cX1_doStep 197 = .ok (.aaload, 1) := by decide +kernel
theorem dX1_doStep_198 : decode cX1_doStep 198 = .ok (.iload_n 2, 1) := by decide +kernel
theorem dX1_doStep_199 : decode cX1_doStep 199 = .ok (.iaload, 1) := by decide +kernel
theorem dX1_doStep_200 : decode cX1_doStep 200 = .ok (.iaload, 1) := by decide +kernel
theorem dX1_doStep_201 : decode cX1_doStep 201 = .ok (.iastore, 1) := by decide +kernel
theorem dX1_doStep_202 : decode cX1_doStep 202 = .ok (.goto 90, 3) := by decide +kernel
theorem dX1_doStep_205 : decode cX1_doStep 205 = .ok (.aload_n 0, 1) := by decide +kernel
theorem dX1_doStep_206 : decode cX1_doStep 206 = .ok (.iload 4, 2) := by decide +kernel
theorem dX1_doStep_208 : decode cX1_doStep 208 = .ok (.aload_n 0, 1) := by decide +kernel
theorem dX1_doStep_209 : decode cX1_doStep 209 = .ok (.getfield 9, 3) := by decide +kernel
theorem dX1_doStep_212 : decode cX1_doStep 212 = .ok (.iload 5, 2) := by decide +kernel
theorem dX1_doStep_214 : decode cX1_doStep 214 = .ok (.iaload, 1) := by decide +kernel
theorem dX1_doStep_215 : decode cX1_doStep 215 = .ok (.iload 6, 2) := by decide +kernel
theorem dX1_doStep_217 : decode cX1_doStep 217 = .ok (.invokevirtual 103, 3) := by decide +kernel
theorem dX1_doStep_220 : decode cX1_doStep 220 = .ok (.goto 72, 3) := by decide +kernel
theorem dX1_doStep_223 : decode cX1_doStep 223 = .ok (.aload_n 0, 1) := by decide +kernel
theorem dX1_doStep_224 : decode cX1_doStep 224 = .ok (.aload_n 0, 1) := by decide +kernel
theorem dX1_doStep_225 : decode cX1_doStep 225 = .ok (.getfield 9, 3) := by decide +kernel
theorem dX1_doStep_228 : decode cX1_doStep 228 = .ok (.iload 4, 2) := by decide +kernel
theorem dX1_doStep_230 : decode cX1_doStep 230 = .ok (.iaload, 1) := by decide +kernel
theorem dX1_doStep_231 : decode cX1_doStep 231 = .ok (.aload_n 0, 1) := by decide +kernel
theorem dX1_doStep_232 : decode cX1_doStep 232 = .ok (.getfield 9, 3) := by decide +kernel
theorem dX1_doStep_235 : decode cX1_doStep 235 = .ok (.iload 5, 2) := by decide +kernel
theorem dX1_doStep_237 : decode cX1_doStep 237 = .ok (.iaload, 1) := by decide +kernel
theorem dX1_doStep_238 : decode cX1_doStep 238 = .ok (.iload 6, 2) := by decide +kernel
theorem dX1_doStep_240 : decode cX1_doStep 240 = .ok (.invokevirtual 107, 3) := by decide +kernel
theorem dX1_doStep_243 : decode cX1_doStep 243 = .ok (.goto 49, 3) := by decide +kernel
theorem dX1_doStep_246 : decode cX1_doStep 246 = .ok (.goto 46, 3) := by decide +kernel
theorem dX1_doStep_249 : decode cX1_doStep 249 = .ok (.aload_n 0, 1) := by decide +kernel
theorem dX1_doStep_250 : decode cX1_doStep 250 = .ok (.aload_n 0, 1) := by decide +kernel
theorem dX1_doStep_251 : decode cX1_doStep 251 = .ok (.getfield 9, 3) := by decide +kernel
theorem dX1_doStep_254 : decode cX1_doStep 254 = .ok (.iload 4, 2) := by decide +kernel
theorem dX1_doStep_256 : decode cX1_doStep 256 = .ok (.iaload, 1) := by decide +kernel
theorem dX1_doStep_257 : decode cX1_doStep 257 = .ok (.invokevirtual 110, 3) := by decide +kernel
theorem dX1_doStep_260 : decode cX1_doStep 260 = .ok (.goto 32, 3) := by decide +kernel
theorem dX1_doStep_263 : decode cX1_doStep 263 = .ok (.aload_n 0, 1) := by decide +kernel
theorem dX1_doStep_264 : decode cX1_doStep 264 = .ok (.iload_n 3, 1) := by decide +kernel
theorem dX1_doStep_265 : decode cX1_doStep 265 = .ok (.iload 4, 2) := by decide +kernel
theorem dX1_doStep_267 : decode cX1_doStep 267 = .ok (.aload_n 0, 1) := by decide +kernel
theorem dX1_doStep_268 : decode cX1_doStep 268 = .ok (.getfield 9, 3) := by decide +kernel
theorem dX1_doStep_271 : decode cX1_doStep 271 = .ok (.iload 5, 2) := by decide +kernel
theorem dX1_doStep_273 : decode cX1_doStep 273 = .ok (.iaload, 1) := by decide +kernel
theorem dX1_doStep_274 : decode cX1_doStep 274 = .ok (.aload_n 0, 1) := by decide +kernel
theorem dX1_doStep_275 : decode cX1_doStep 275 = .ok (.getfield 9, 3) := by decide +kernel
theorem dX1_doStep_278 : decode cX1_doStep 278 = .ok (.aload_n 1, 1) := by decide +kernel
theorem dX1_doStep_279 : decode cX1_doStep 279 = .ok (.getfield 127, 3) := by decide +kernel
theorem dX1_doStep_282 : decode cX1_doStep 282 = .ok (.iconst 3, 1) := by decide +kernel
theorem dX1_doStep_283 : decode cX1_doStep 283 = .ok (.aaload, 1) := by decide +kernel
theorem dX1_doStep_284 : decode cX1_doStep 284 = .ok (.iload_n 2, 1) := by decide +kernel
theorem dX1_doStep_285 : decode cX1_doStep 285 = .ok (.iaload, 1) := by decide +kernel
theorem dX1_doStep_286 : decode cX1_doStep 286 = .ok (.iaload, 1) := by decide +kernel
theorem dX1_doStep_287 : decode cX1_doStep 287 = .ok (.iload 6, 2) := by decide +kernel
theorem dX1_doStep_289 : decode cX1_doStep 289 = .ok (.invokevirtual 99, 3) := by decide +kernel
theorem dX1_doStep_292 : decode cX1_doStep 292 = .ok (.return_, 1) := by decide +kernel
theorem dX1_reach_0 : decode cX1_reach 0 = .ok (.iload_n 1, 1) := by decide +kernel
theorem dX1_reach_1 : decode cX1_reach 1 = .ok (.invokestatic 131, 3) := by decide +kernel
theorem dX1_reach_4 : decode cX1_reach 4 = .ok (.ifCond .eq 18, 3) := by decide +kernel
theorem dX1_reach_7 : decode cX1_reach 7 = .ok (.iload 4, 2) := by decide +kernel
theorem dX1_reach_9 : decode cX1_reach 9 = .ok (.ifCond .ne 13, 3) := by decide +kernel
theorem dX1_reach_12 : decode cX1_reach 12 = .ok (.aload_n 0, 1) := by decide +kernel
theorem dX1_reach_13 : decode cX1_reach 13 = .ok (.iconst 1, 1) := by decide +kernel
theorem dX1_reach_14 : decode cX1_reach 14 = .ok (.iload 5, 2) := by decide +kernel
theorem dX1_reach_16 : decode cX1_reach 16 = .ok (.invokevirtual 135, 3) := by decide +kernel
theorem dX1_reach_19 : decode cX1_reach 19 = .ok (.goto 16, 3) := by decide +kernel
theorem dX1_reach_22 : decode cX1_reach 22 = .ok (.aload_n 0, 1) := by decide +kernel
theorem dX1_reach_23 : decode cX1_reach 23 = .ok (.getfield 9, 3) := by decide +kernel
theorem dX1_reach_26 : decode cX1_reach 26 = .ok (.iload_n 2, 1) := by decide +kernel
theorem dX1_reach_27 : decode cX1_reach 27 = .ok (.iload_n 1, 1) := by decide +kernel
theorem dX1_reach_28 : decode cX1_reach 28 = .ok (.iload_n 3, 1) := by decide +kernel
theorem dX1_reach_29 : decode cX1_reach 29 = .ok (.iload 4, 2) := by decide +kernel
theorem dX1_reach_31 : decode cX1_reach 31 = .ok (.invokestatic 82, 3) := by decide +kernel
theorem dX1_reach_34 : decode cX1_reach 34 = .ok (.iastore, 1) := by decide +kernel
theorem dX1_reach_35 : decode cX1_reach 35 = .ok (.return_, 1) := by decide +kernel
theorem dX1_load_0 : decode cX1_load 0 = .ok (.iload_n 2, 1) := by decide +kernel
theorem dX1_load_1 : decode cX1_load 1 = .ok (.invokestatic 138, 3) := by decide +kernel
theorem dX1_load_4 : decode cX1_load 4 = .ok (.ifCond .eq 18, 3) := by decide +kernel
theorem dX1_load_7 : decode cX1_load 7 = .ok (.aload_n 0, 1) := by decide +kernel
theorem dX1_load_8 : decode cX1_load 8 = .ok (.getfield 9, 3) := by decide +kernel
theorem dX1_load_11 : decode cX1_load 11 = .ok (.iload_n 1, 1) := by decide +kernel
theorem dX1_load_12 : decode cX1_load 12 = .ok (.aload_n 0, 1) := by decide +kernel
theorem dX1_load_13 : decode cX1_load 13 = .ok (.getfield 15, 3) := by decide +kernel
theorem dX1_load_16 : decode cX1_load 16 = .ok (.iload_n 2, 1) := by decide +kernel
theorem dX1_load_17 : decode cX1_load 17 = .ok (.iaload, 1) := by decide +kernel
theorem dX1_load_18 : decode cX1_load 18 = .ok (.iastore, 1) := by decide +kernel
theorem dX1_load_19 : decode cX1_load 19 = .ok (.goto 9, 3) := by decide +kernel
theorem dX1_load_22 : decode cX1_load 22 = .ok (.aload_n 0, 1) := by decide +kernel
theorem dX1_load_23 : decode cX1_load 23 = .ok (.iconst 2, 1) := by decide +kernel
theorem dX1_load_24 : decode cX1_load 24 = .ok (.iload_n 3, 1) := by decide +kernel
theorem dX1_load_25 : decode cX1_load 25 = .ok (.invokevirtual 135, 3) := by decide +kernel
theorem dX1_load_28 : decode cX1_load 28 = .ok (.return_, 1) := by decide +kernel
theorem dX1_store_0 : decode cX1_store 0 = .ok (.iload_n 1, 1) := by decide +kernel
theorem dX1_store_1 : decode cX1_store 1 = .ok (.invokestatic 138, 3) := by decide +kernel
theorem dX1_store_4 : decode cX1_store 4 = .ok (.ifCond .eq 13, 3) := by decide +kernel
theorem dX1_store_7 : decode cX1_store 7 = .ok (.aload_n 0, 1) := by decide +kernel
theorem dX1_store_8 : decode cX1_store 8 = .ok (.getfield 15, 3) := by decide +kernel
theorem dX1_store_11 : decode cX1_store 11 = .ok (.iload_n 1, 1) := by decide +kernel
theorem dX1_store_12 : decode cX1_store 12 = .ok (.iload_n 2, 1) := by decide +kernel
theorem dX1_store_13 : decode cX1_store 13 = .ok (.iastore, 1) := by decide +kernel
theorem dX1_store_14 : decode cX1_store 14 = .ok (.goto 9, 3) := by decide +kernel
theorem dX1_store_17 : decode cX1_store 17 = .ok (.aload_n 0, 1) := by decide +kernel
theorem dX1_store_18 : decode cX1_store 18 = .ok (.iconst 2, 1) := by decide +kernel
theorem dX1_store_19 : decode cX1_store 19 = .ok (.iload_n 3, 1) := by decide +kernel
theorem dX1_store_20 : decode cX1_store 20 = .ok (.invokevirtual 135, 3) := by decide +kernel
theorem dX1_store_23 : decode cX1_store 23 = .ok (.return_, 1) := by decide +kernel
theorem dX1_say_0 : decode cX1_say 0 = .ok (.aload_n 0, 1) := by decide +kernel
theorem dX1_say_1 : decode cX1_say 1 = .ok (.getfield 21, 3) := by decide +kernel
theorem dX1_say_4 : decode cX1_say 4 = .ok (.bipush 60, 2) := by decide +kernel
theorem dX1_say_6 : decode cX1_say 6 = .ok (.if_icmp .ge 23, 3) := by decide +kernel
theorem dX1_say_9 : decode cX1_say 9 = .ok (.aload_n 0, 1) := by decide +kernel
theorem dX1_say_10 : decode cX1_say 10 = .ok (.getfield 18, 3) := by decide +kernel
theorem dX1_say_13 : decode cX1_say 13 = .ok (.aload_n 0, 1) := by decide +kernel
theorem dX1_say_14 : decode cX1_say 14 = .ok (.getfield 21, 3) := by decide +kernel
theorem dX1_say_17 : decode cX1_say 17 = .ok (.iload_n 1, 1) := by decide +kernel
theorem dX1_say_18 : decode cX1_say 18 = .ok (.iastore, 1) := by decide +kernel
theorem dX1_say_19 : decode cX1_say 19 = .ok (.aload_n 0, 1) := by decide +kernel
theorem dX1_say_20 : decode cX1_say 20 = .ok (.dup, 1) := by decide +kernel
theorem dX1_say_21 : decode cX1_say 21 = .ok (.getfield 21, 3) := by decide +kernel
theorem dX1_say_24 : decode cX1_say 24 = .ok (.iconst 1, 1) := by decide +kernel
theorem dX1_say_25 : decode cX1_say 25 = .ok (.iadd, 1) := by decide +kernel
theorem dX1_say_26 : decode cX1_say 26 = .ok (.putfield 21, 3) := by decide +kernel
theorem dX1_say_29 : decode cX1_say 29 = .ok (.return_, 1) := by decide +kernel
theorem dX1_end_0 : decode cX1_end 0 = .ok (.aload_n 0, 1) := by decide +kernel
theorem dX1_end_1 : decode cX1_end 1 = .ok (.iload_n 1, 1) := by decide +kernel
theorem dX1_end_2 : decode cX1_end 2 = .ok (.putfield 25, 3) := by decide +kernel
theorem dX1_end_5 : decode cX1_end 5 = .ok (.aload_n 0, 1) := by decide +kernel
theorem dX1_end_6 : decode cX1_end 6 = .ok (.iload_n 2, 1) := by decide +kernel
theorem dX1_end_7 : decode cX1_end 7 = .ok (.putfield 28, 3) := by decide +kernel
theorem dX1_end_10 : decode cX1_end 10 = .ok (.return_, 1) := by decide +kernel
theorem dX2_init_0 : decode cX2_init 0 = .ok (.aload_n 0, 1) := by decide +kernel
theorem dX2_init_1 : decode cX2_init 1 = .ok (.invokespecial 3, 3) := by decide +kernel
theorem dX2_init_4 : decode cX2_init 4 = .ok (.aload_n 0, 1) := by decide +kernel
theorem dX2_init_5 : decode cX2_init 5 = .ok (.new 9, 3) := by decide +kernel
theorem dX2_init_8 : decode cX2_init 8 = .ok (.dup, 1) := by decide +kernel
theorem dX2_init_9 : decode cX2_init 9 = .ok (.invokespecial 11, 3) := by decide +kernel
theorem dX2_init_12 : decode cX2_init 12 = .ok (.putfield 12, 3) := by decide +kernel
theorem dX2_init_15 : decode cX2_init 15 = .ok (.aload_n 0, 1) := by decide +kernel
theorem dX2_init_16 : decode cX2_init 16 = .ok (.bipush 60, 2) := by decide +kernel
theorem dX2_init_18 : decode cX2_init 18 = .ok (.newarray .boolean, 2) := by decide +kernel
theorem dX2_init_20 : decode cX2_init 20 = .ok (.putfield 18, 3) := by decide +kernel
theorem dX2_init_23 : decode cX2_init 23 = .ok (.aload_n 0, 1) := by decide +kernel
theorem dX2_init_24 : decode cX2_init 24 = .ok (.bipush 16, 2) := by decide +kernel
theorem dX2_init_26 : decode cX2_init 26 = .ok (.newarray .int, 2) := by decide +kernel
theorem dX2_init_28 : decode cX2_init 28 = .ok (.putfield 22, 3) := by decide +kernel
theorem dX2_init_31 : decode cX2_init 31 = .ok (.aload_n 0, 1) := by decide +kernel
theorem dX2_init_32 : decode cX2_init 32 = .ok (.bipush 6, 2) := by decide +kernel
theorem dX2_init_34 : decode cX2_init 34 = .ok (.bipush 16, 2) := by decide +kernel
theorem dX2_init_36 : decode cX2_init 36 = .ok (.multianewarray 26 2, 4) := by decide +kernel
theorem dX2_init_40 : decode cX2_init 40 = .ok (.putfield 28, 3) := by decide +kernel
theorem dX2_init_43 : decode cX2_init 43 = .ok (.aload_n 0, 1) := by decide +kernel
theorem dX2_init_44 : decode cX2_init 44 = .ok (.bipush 6, 2) := by decide +kernel
theorem dX2_init_46 : decode cX2_init 46 = .ok (.bipush 16, 2) := by decide +kernel
theorem dX2_init_48 : decode cX2_init 48 = .ok (.multianewarray 26 2, 4) := by decide +kernel
theorem dX2_init_52 : decode cX2_init 52 = .ok (.putfield 31, 3) := by decide +kernel
theorem dX2_init_55 : decode cX2_init 55 = .ok (.aload_n 0, 1) := by decide +kernel
theorem dX2_init_56 : decode cX2_init 56 = .ok (.iconst (-1), 1) := by decide +kernel
theorem dX2_init_57 : decode cX2_init 57 = .ok (.putfield 34, 3) := by decide +kernel
theorem dX2_init_60 : decode cX2_init 60 = .ok (.return_, 1) := by decide +kernel
theorem dX2_convertedBranches_0 : decode cX2_convertedBranches 0 = .ok (.iconst 0, 1) := by decide +kernel
theorem dX2_convertedBranches_1 : decode cX2_convertedBranches 1 = .ok (.istore_n 1, 1) := by decide +kernel
theorem dX2_convertedBranches_2 : decode cX2_convertedBranches 2 = .ok (.iconst 0, 1) := by decide +kernel
theorem dX2_convertedBranches_3 : decode cX2_convertedBranches 3 = .ok (.istore_n 2, 1) := by decide +kernel
theorem dX2_convertedBranches_4 : decode cX2_convertedBranches 4 = .ok (.iload_n 2, 1) := by decide +kernel
theorem dX2_convertedBranches_5 : decode cX2_convertedBranches 5 = .ok (.bipush 60, 2) := by decide +kernel
theorem dX2_convertedBranches_7 : decode cX2_convertedBranches 7 = .ok (.if_icmp .ge 26, 3) := by decide +kernel
theorem dX2_convertedBranches_10 : decode cX2_convertedBranches 10 = .ok (.iload_n 1, 1) := by decide +kernel
theorem dX2_convertedBranches_11 : decode cX2_convertedBranches 11 = .ok (.aload_n 0, 1) := by decide +kernel
theorem dX2_convertedBranches_12 : decode cX2_convertedBranches 12 = .ok (.getfield 18, 3) := by decide +kernel
theorem dX2_convertedBranches_15 : decode cX2_convertedBranches 15 = .ok (.iload_n 2, 1) := by decide +kernel
theorem dX2_convertedBranches_16 : decode cX2_convertedBranches 16 = .ok (.baload, 1) := by decide +kernel
theorem dX2_convertedBranches_17 : decode cX2_convertedBranches 17 = .ok (.ifCond .eq 7, 3) := by decide +kernel
theorem dX2_convertedBranches_20 : decode cX2_convertedBranches 20 = .ok (.iconst 1, 1) := by decide +kernel
theorem dX2_convertedBranches_21 : decode cX2_convertedBranches 21 = .ok (.goto 4, 3) := by decide +kernel
theorem dX2_convertedBranches_24 : decode cX2_convertedBranches 24 = .ok (.iconst 0, 1) := by decide +kernel
theorem dX2_convertedBranches_25 : decode cX2_convertedBranches 25 = .ok (.iadd, 1) := by decide +kernel
theorem dX2_convertedBranches_26 : decode cX2_convertedBranches 26 = .ok (.istore_n 1, 1) := by decide +kernel
theorem dX2_convertedBranches_27 : decode cX2_convertedBranches 27 = .ok (.iinc 2 1, 3) := by decide +kernel
theorem dX2_convertedBranches_30 : decode cX2_convertedBranches 30 = .ok (.goto (-26), 3) := by decide +kernel
theorem dX2_convertedBranches_33 : decode cX2_convertedBranches 33 = .ok (.iload_n 1, 1) := by decide +kernel
theorem dX2_convertedBranches_34 : decode cX2_convertedBranches 34 = .ok (.ireturn, 1) := by decide +kernel
theorem dX2_makeCode_0 : decode cX2_makeCode 0 = .ok (.iconst 0, 1) := by decide +kernel
theorem dX2_makeCode_1 : decode cX2_makeCode 1 = .ok (.istore_n 3, 1) := by decide +kernel
theorem dX2_makeCode_2 : decode cX2_makeCode 2 = .ok (.iload_n 3, 1) := by decide +kernel
theorem dX2_makeCode_3 : decode cX2_makeCode 3 = .ok (.bipush 60, 2) := by decide +kernel
theorem dX2_makeCode_5 : decode cX2_makeCode 5 = .ok (.if_icmp .ge 16, 3) := by decide +kernel
theorem dX2_makeCode_8 : decode cX2_makeCode 8 = .ok (.aload_n 0, 1) := by decide +kernel
theorem dX2_makeCode_9 : decode cX2_makeCode 9 = .ok (.getfield 18, 3) := by decide +kernel
theorem dX2_makeCode_12 : decode cX2_makeCode 12 = .ok (.iload_n 3, 1) := by decide +kernel
theorem dX2_makeCode_13 : decode cX2_makeCode 13 = .ok (.iconst 0, 1) := by decide +kernel
theorem dX2_makeCode_14 : decode cX2_makeCode 14 = .ok (.bastore, 1) := by decide +kernel
theorem dX2_makeCode_15 : decode cX2_makeCode 15 = .ok (.iinc 3 1, 3) := by decide +kernel
theorem dX2_makeCode_18 : decode cX2_makeCode 18 = .ok (.goto (-16), 3) := by decide +kernel
theorem dX2_makeCode_21 : decode cX2_makeCode 21 = .ok (.aload_n 1, 1) := by decide +kernel
theorem dX2_makeCode_22 : decode cX2_makeCode 22 = .ok (.getfield 38, 3) := by decide +kernel
theorem dX2_makeCode_25 : decode cX2_makeCode 25 = .ok (.iconst 1, 1) := by decide +kernel
theorem dX2_makeCode_26 : decode cX2_makeCode 26 = .ok (.isub, 1) := by decide +kernel
theorem dX2_makeCode_27 : decode cX2_makeCode 27 = .ok (.istore_n 3, 1) := by decide +kernel
theorem dX2_makeCode_28 : decode cX2_makeCode 28 = .ok (.iload_n 3, 1) := by decide +kernel
theorem dX2_makeCode_29 : decode cX2_makeCode 29 = .ok (.ifCond .lt 39, 3) := by decide +kernel
theorem dX2_makeCode_32 : decode cX2_makeCode 32 = .ok (.aload_n 0, 1) := by decide +kernel
theorem dX2_makeCode_33 : decode cX2_makeCode 33 = .ok (.getfield 18, 3) := by decide +kernel
theorem dX2_makeCode_36 : decode cX2_makeCode 36 = .ok (.iload_n 3, 1) := by decide +kernel
theorem dX2_makeCode_37 : decode cX2_makeCode 37 = .ok (.aload_n 0, 1) := by decide +kernel
theorem dX2_makeCode_38 : decode cX2_makeCode 38 = .ok (.aload_n 1, 1) := by decide +kernel
theorem dX2_makeCode_39 : decode cX2_makeCode 39 = .ok (.iload_n 3, 1) := by decide +kernel
theorem dX2_makeCode_40 : decode cX2_makeCode 40 = .ok (.invokevirtual 43, 3) := by decide +kernel
theorem dX2_makeCode_43 : decode cX2_makeCode 43 = .ok (.ifCond .eq 17, 3) := by decide +kernel
theorem dX2_makeCode_46 : decode cX2_makeCode 46 = .ok (.aload_n 0, 1) := by decide +kernel
theorem dX2_makeCode_47 : decode cX2_makeCode 47 = .ok (.aload_n 1, 1) := by decide +kernel
theorem dX2_makeCode_48 : decode cX2_makeCode 48 = .ok (.iload_n 3, 1) := by decide +kernel
theorem dX2_makeCode_49 : decode cX2_makeCode 49 = .ok (.invokevirtual 47, 3) := by decide +kernel
theorem dX2_makeCode_52 : decode cX2_makeCode 52 = .ok (.iload_n 2, 1) := by decide +kernel
theorem dX2_makeCode_53 : decode cX2_makeCode 53 = .ok (.if_icmp .gt 7, 3) := by decide +kernel
theorem dX2_makeCode_56 : decode cX2_makeCode 56 = .ok (.iconst 1, 1) := by decide +kernel
theorem dX2_makeCode_57 : decode cX2_makeCode 57 = .ok (.goto 4, 3) := by decide +kernel
theorem dX2_makeCode_60 : decode cX2_makeCode 60 = .ok (.iconst 0, 1) := by decide +kernel
theorem dX2_makeCode_61 : decode cX2_makeCode 61 = .ok (.bastore, 1) := by decide +kernel
theorem dX2_makeCode_62 : decode cX2_makeCode 62 = .ok (.iinc 3 (-1), 3) := by decide +kernel
theorem dX2_makeCode_65 : decode cX2_makeCode 65 = .ok (.goto (-37), 3) := by decide +kernel
theorem dX2_makeCode_68 : decode cX2_makeCode 68 = .ok (.aload_n 0, 1) := by decide +kernel
theorem dX2_makeCode_69 : decode cX2_makeCode 69 = .ok (.invokevirtual 51, 3) := by decide +kernel
theorem dX2_makeCode_72 : decode cX2_makeCode 72 = .ok (.aload_n 0, 1) := by decide +kernel
theorem dX2_makeCode_73 : decode cX2_makeCode 73 = .ok (.aload_n 1, 1) := by decide +kernel
theorem dX2_makeCode_74 : decode cX2_makeCode 74 = .ok (.iconst 0, 1) := by decide +kernel
theorem dX2_makeCode_75 : decode cX2_makeCode 75 = .ok (.aload_n 1, 1) := by decide +kernel
theorem dX2_makeCode_76 : decode cX2_makeCode 76 = .ok (.getfield 38, 3) := by decide +kernel
theorem dX2_makeCode_79 : decode cX2_makeCode 79 = .ok (.iconst 0, 1) := by decide +kernel
theorem dX2_makeCode_80 : decode cX2_makeCode 80 = .ok (.invokevirtual 54, 3) := by decide +kernel
theorem dX2_makeCode_83 : decode cX2_makeCode 83 = .ok (.return_, 1) := by decide +kernel
theorem dX2_beginCode_0 : decode cX2_beginCode 0 = .ok (.aload_n 0, 1) := by decide +kernel
theorem dX2_beginCode_1 : decode cX2_beginCode 1 = .ok (.getfield 12, 3) := by decide +kernel
theorem dX2_beginCode_4 : decode cX2_beginCode 4 = .ok (.invokevirtual 58, 3) := by decide +kernel
theorem dX2_beginCode_7 : decode cX2_beginCode 7 = .ok (.aload_n 0, 1) := by decide +kernel
theorem dX2_beginCode_8 : decode cX2_beginCode 8 = .ok (.iconst (-1), 1) := by decide +kernel
theorem dX2_beginCode_9 : decode cX2_beginCode 9 = .ok (.putfield 34, 3) := by decide +kernel
theorem dX2_beginCode_12 : decode cX2_beginCode 12 = .ok (.iconst 0, 1) := by decide +kernel
theorem dX2_beginCode_13 : decode cX2_beginCode 13 = .ok (.istore_n 1, 1) := by decide +kernel
theorem dX2_beginCode_14 : decode cX2_beginCode 14 = .ok (.iload_n 1, 1) := by decide +kernel
theorem dX2_beginCode_15 : decode cX2_beginCode 15 = .ok (.bipush 16, 2) := by decide +kernel
theorem dX2_beginCode_17 : decode cX2_beginCode 17 = .ok (.if_icmp .ge 16, 3) := by decide +kernel
theorem dX2_beginCode_20 : decode cX2_beginCode 20 = .ok (.aload_n 0, 1) := by decide +kernel
theorem dX2_beginCode_21 : decode cX2_beginCode 21 = .ok (.getfield 22, 3) := by decide +kernel
theorem dX2_beginCode_24 : decode cX2_beginCode 24 = .ok (.iload_n 1, 1) := by decide +kernel
theorem dX2_beginCode_25 : decode cX2_beginCode 25 = .ok (.iload_n 1, 1) := by decide +kernel
theorem dX2_beginCode_26 : decode cX2_beginCode 26 = .ok (.iastore, 1) := by decide +kernel
theorem dX2_beginCode_27 : decode cX2_beginCode 27 = .ok (.iinc 1 1, 3) := by decide +kernel
theorem dX2_beginCode_30 : decode cX2_beginCode 30 = .ok (.goto (-16), 3) := by decide +kernel
theorem dX2_beginCode_33 : decode cX2_beginCode 33 = .ok (.return_, 1) := by decide +kernel
theorem dX2_mayConvert_0 : decode cX2_mayConvert 0 = .ok (.iload_n 2, 1) := by decide +kernel
theorem dX2_mayConvert_1 : decode cX2_mayConvert 1 = .ok (.iconst 1, 1) := by decide +kernel
theorem dX2_mayConvert_2 : decode cX2_mayConvert 2 = .ok (.iadd, 1) := by decide +kernel
theorem dX2_mayConvert_3 : decode cX2_mayConvert 3 = .ok (.istore_n 3, 1) := by decide +kernel
theorem dX2_mayConvert_4 : decode cX2_mayConvert 4 = .ok (.iload_n 3, 1) := by decide +kernel
theorem dX2_mayConvert_5 : decode cX2_mayConvert 5 = .ok (.aload_n 1, 1) := by decide +kernel
theorem dX2_mayConvert_6 : decode cX2_mayConvert 6 = .ok (.getfield 61, 3) := by decide +kernel
theorem dX2_mayConvert_9 : decode cX2_mayConvert 9 = .ok (.iload_n 2, 1) := by decide +kernel
theorem dX2_mayConvert_10 : decode cX2_mayConvert 10 = .ok (.iaload, 1) := by decide +kernel
theorem dX2_mayConvert_11 : decode cX2_mayConvert 11 = .ok (.if_icmp .ge 52, 3) := by decide +kernel
theorem dX2_mayConvert_14 : decode cX2_mayConvert 14 = .ok (.aload_n 1, 1) := by decide +kernel
theorem dX2_mayConvert_15 : decode cX2_mayConvert 15 = .ok (.getfield 64, 3) := by decide +kernel
theorem dX2_mayConvert_18 : decode cX2_mayConvert 18 = .ok (.iload_n 3, 1) := by decide +kernel
theorem dX2_mayConvert_19 : decode cX2_mayConvert 19 = .ok (.iaload, 1) := by decide +kernel
theorem dX2_mayConvert_20 : decode cX2_mayConvert 20 = .ok (.iconst 5, 1) := by decide +kernel
theorem dX2_mayConvert_21 : decode cX2_mayConvert 21 = .ok (.if_icmp .ne 16, 3) := by decide +kernel
theorem dX2_mayConvert_24 : decode cX2_mayConvert 24 = .ok (.aload_n 0, 1) := by decide +kernel
theorem dX2_mayConvert_25 : decode cX2_mayConvert 25 = .ok (.getfield 18, 3) := by decide +kernel
theorem dX2_mayConvert_28 : decode cX2_mayConvert 28 = .ok (.iload_n 3, 1) := by decide +kernel
theorem dX2_mayConvert_29 : decode cX2_mayConvert 29 = .ok (.baload, 1) := by decide +kernel
theorem dX2_mayConvert_30 : decode cX2_mayConvert 30 = .ok (.ifCond .ne 7, 3) := by decide +kernel
theorem dX2_mayConvert_33 : decode cX2_mayConvert 33 = .ok (.iconst 1, 1) := by decide +kernel
theorem dX2_mayConvert_34 : decode cX2_mayConvert 34 = .ok (.goto 4, 3) := by decide +kernel
theorem dX2_mayConvert_37 : decode cX2_mayConvert 37 = .ok (.iconst 0, 1) := by decide +kernel
theorem dX2_mayConvert_38 : decode cX2_mayConvert 38 = .ok (.istore 4, 2) := by decide +kernel
theorem dX2_mayConvert_40 : decode cX2_mayConvert 40 = .ok (.iload 4, 2) := by decide +kernel
theorem dX2_mayConvert_42 : decode cX2_mayConvert 42 = .ok (.ifCond .ne 13, 3) := by decide +kernel
theorem dX2_mayConvert_45 : decode cX2_mayConvert 45 = .ok (.aload_n 1, 1) := by decide +kernel
theorem dX2_mayConvert_46 : decode cX2_mayConvert 46 = .ok (.getfield 64, 3) := by decide +kernel
theorem dX2_mayConvert_49 : decode cX2_mayConvert 49 = .ok (.iload_n 3, 1) := by decide +kernel
theorem dX2_mayConvert_50 : decode cX2_mayConvert 50 = .ok (.iaload, 1) := by decide +kernel
theorem dX2_mayConvert_51 : decode cX2_mayConvert 51 = .ok (.iconst 4, 1) := by decide +kernel
theorem dX2_mayConvert_52 : decode cX2_mayConvert 52 = .ok (.if_icmp .ne 5, 3) := by decide +kernel
theorem dX2_mayConvert_55 : decode cX2_mayConvert 55 = .ok (.iconst 0, 1) := by decide +kernel
theorem dX2_mayConvert_56 : decode cX2_mayConvert 56 = .ok (.ireturn, 1) := by decide +kernel
theorem dX2_mayConvert_57 : decode cX2_mayConvert 57 = .ok (.iinc 3 1, 3) := by decide +kernel
theorem dX2_mayConvert_60 : decode cX2_mayConvert 60 = .ok (.goto (-56), 3) := by decide +kernel
theorem dX2_mayConvert_63 : decode cX2_mayConvert 63 = .ok (.aload_n 1, 1) := by decide +kernel
theorem dX2_mayConvert_64 : decode cX2_mayConvert 64 = .ok (.getfield 64, 3) := by decide +kernel
theorem dX2_mayConvert_67 : decode cX2_mayConvert 67 = .ok (.iload_n 2, 1) := by decide +kernel
theorem dX2_mayConvert_68 : decode cX2_mayConvert 68 = .ok (.iaload, 1) := by decide +kernel
theorem dX2_mayConvert_69 : decode cX2_mayConvert 69 = .ok (.iconst 5, 1) := by decide +kernel
theorem dX2_mayConvert_70 : decode cX2_mayConvert 70 = .ok (.if_icmp .ne 7, 3) := by decide +kernel
theorem dX2_mayConvert_73 : decode cX2_mayConvert 73 = .ok (.iconst 1, 1) := by decide +kernel
theorem dX2_mayConvert_74 : decode cX2_mayConvert 74 = .ok (.goto 4, 3) := by decide +kernel
theorem dX2_mayConvert_77 : decode cX2_mayConvert 77 = .ok (.iconst 0, 1) := by decide +kernel
theorem dX2_mayConvert_78 : decode cX2_mayConvert 78 = .ok (.ireturn, 1) := by decide +kernel
theorem dX2_stepsAlone_0 : decode cX2_stepsAlone 0 = .ok (.aload_n 0, 1) := by decide +kernel
theorem dX2_stepsAlone_1 : decode cX2_stepsAlone 1 = .ok (.invokevirtual 51, 3) := by decide +kernel
theorem dX2_stepsAlone_4 : decode cX2_stepsAlone 4 = .ok (.aload_n 0, 1) := by decide +kernel
theorem dX2_stepsAlone_5 : decode cX2_stepsAlone 5 = .ok (.aload_n 1, 1) := by decide +kernel
theorem dX2_stepsAlone_6 : decode cX2_stepsAlone 6 = .ok (.iload_n 2, 1) := by decide +kernel
theorem dX2_stepsAlone_7 : decode cX2_stepsAlone 7 = .ok (.iconst 0, 1) := by decide +kernel
theorem dX2_stepsAlone_8 : decode cX2_stepsAlone 8 = .ok (.invokevirtual 67, 3) := by decide +kernel
theorem dX2_stepsAlone_11 : decode cX2_stepsAlone 11 = .ok (.aload_n 0, 1) := by decide +kernel
theorem dX2_stepsAlone_12 : decode cX2_stepsAlone 12 = .ok (.getfield 12, 3) := by decide +kernel
theorem dX2_stepsAlone_15 : decode cX2_stepsAlone 15 = .ok (.getfield 71, 3) := by decide +kernel
theorem dX2_stepsAlone_18 : decode cX2_stepsAlone 18 = .ok (.ireturn, 1) := by decide +kernel
theorem dX2_lowerRange_0 : decode cX2_lowerRange 0 = .ok (.iload_n 2, 1) := by decide +kernel
theorem dX2_lowerRange_1 : decode cX2_lowerRange 1 = .ok (.istore 5, 2) := by decide +kernel
theorem dX2_lowerRange_3 : decode cX2_lowerRange 3 = .ok (.iload 5, 2) := by decide +kernel
theorem dX2_lowerRange_5 : decode cX2_lowerRange 5 = .ok (.iload_n 3, 1) := by decide +kernel
theorem dX2_lowerRange_6 : decode cX2_lowerRange 6 = .ok (.if_icmp .ge 31, 3) := by decide +kernel
theorem dX2_lowerRange_9 : decode cX2_lowerRange 9 = .ok (.aload_n 0, 1) := by decide +kernel
theorem dX2_lowerRange_10 : decode cX2_lowerRange 10 = .ok (.aload_n 1, 1) := by decide +kernel
theorem dX2_lowerRange_11 : decode cX2_lowerRange 11 = .ok (.iload 5, 2) := by decide +kernel
theorem dX2_lowerRange_13 : decode cX2_lowerRange 13 = .ok (.iload 4, 2) := by decide +kernel
theorem dX2_lowerRange_15 : decode cX2_lowerRange 15 = .ok (.invokevirtual 74, 3) := by decide +kernel
theorem dX2_lowerRange_18 : decode cX2_lowerRange 18 = .ok (.iload 5, 2) := by decide +kernel
theorem dX2_lowerRange_20 : decode cX2_lowerRange 20 = .ok (.iconst 1, 1) := by decide +kernel
theorem dX2_lowerRange_21 : decode cX2_lowerRange 21 = .ok (.iadd, 1) := by decide +kernel
theorem dX2_lowerRange_22 : decode cX2_lowerRange 22 = .ok (.aload_n 1, 1) := by decide +kernel
theorem dX2_lowerRange_23 : decode cX2_lowerRange 23 = .ok (.getfield 61, 3) := by decide +kernel
theorem dX2_lowerRange_26 : decode cX2_lowerRange 26 = .ok (.iload 5, 2) := by decide +kernel
theorem dX2_lowerRange_28 : decode cX2_lowerRange 28 = .ok (.iaload, 1) := by decide +kernel
theorem dX2_lowerRange_29 : decode cX2_lowerRange 29 = .ok (.invokestatic 77, 3) := by decide +kernel
theorem dX2_lowerRange_32 : decode cX2_lowerRange 32 = .ok (.istore 5, 2) := by decide +kernel
theorem dX2_lowerRange_34 : decode cX2_lowerRange 34 = .ok (.goto (-31), 3) := by decide +kernel
theorem dX2_lowerRange_37 : decode cX2_lowerRange 37 = .ok (.return_, 1) := by decide +kernel
theorem dX2_lowerOne_0 : decode cX2_lowerOne 0 = .ok (.aload_n 0, 1) := by decide +kernel
theorem dX2_lowerOne_1 : decode cX2_lowerOne 1 = .ok (.getfield 12, 3) := by decide +kernel
theorem dX2_lowerOne_4 : decode cX2_lowerOne 4 = .ok (.iload_n 2, 1) := by decide +kernel
theorem dX2_lowerOne_5 : decode cX2_lowerOne 5 = .ok (.putfield 83, 3) := by decide +kernel
theorem dX2_lowerOne_8 : decode cX2_lowerOne 8 = .ok (.aload_n 1, 1) := by decide +kernel
theorem dX2_lowerOne_9 : decode cX2_lowerOne 9 = .ok (.getfield 64, 3) := by decide +kernel
theorem dX2_lowerOne_12 : decode cX2_lowerOne 12 = .ok (.iload_n 2, 1) := by decide +kernel
theorem dX2_lowerOne_13 : decode cX2_lowerOne 13 = .ok (.iaload, 1) := by decide +kernel
theorem dX2_lowerOne_14 : decode cX2_lowerOne 14 = .ok (.iconst 5, 1) := by decide +kernel
theorem dX2_lowerOne_15 : decode cX2_lowerOne 15 = .ok (.if_icmp .ne 32, 3) := by decide +kernel
theorem dX2_lowerOne_18 : decode cX2_lowerOne 18 = .ok (.aload_n 0, 1) := by decide +kernel
theorem dX2_lowerOne_19 : decode cX2_lowerOne 19 = .ok (.getfield 18, 3) := by decide +kernel
theorem dX2_lowerOne_22 : decode cX2_lowerOne 22 = .ok (.iload_n 2, 1) := by decide +kernel
theorem dX2_lowerOne_23 : decode cX2_lowerOne 23 = .ok (.baload, 1) := by decide +kernel
theorem dX2_lowerOne_24 : decode cX2_lowerOne 24 = .ok (.ifCond .eq 13, 3) := by decide +kernel
theorem dX2_lowerOne_27 : decode cX2_lowerOne 27 = .ok (.aload_n 0, 1) := by decide +kernel
theorem dX2_lowerOne_28 : decode cX2_lowerOne 28 = .ok (.aload_n 1, 1) := by decide +kernel
theorem dX2_lowerOne_29 : decode cX2_lowerOne 29 = .ok (.iload_n 2, 1) := by decide +kernel
theorem dX2_lowerOne_30 : decode cX2_lowerOne 30 = .ok (.iload_n 3, 1) := by decide +kernel
theorem dX2_lowerOne_31 : decode cX2_lowerOne 31 = .ok (.invokevirtual 67, 3) := by decide +kernel
theorem dX2_lowerOne_34 : decode cX2_lowerOne 34 = .ok (.goto 36, 3) := by decide +kernel
theorem dX2_lowerOne_37 : decode cX2_lowerOne 37 = .ok (.aload_n 0, 1) := by decide +kernel
theorem dX2_lowerOne_38 : decode cX2_lowerOne 38 = .ok (.aload_n 1, 1) := by decide +kernel
theorem dX2_lowerOne_39 : decode cX2_lowerOne 39 = .ok (.iload_n 2, 1) := by decide +kernel
theorem dX2_lowerOne_40 : decode cX2_lowerOne 40 = .ok (.iload_n 3, 1) := by decide +kernel
theorem dX2_lowerOne_41 : decode cX2_lowerOne 41 = .ok (.invokevirtual 86, 3) := by decide +kernel
theorem dX2_lowerOne_44 : decode cX2_lowerOne 44 = .ok (.goto 26, 3) := by decide +kernel
theorem dX2_lowerOne_47 : decode cX2_lowerOne 47 = .ok (.aload_n 0, 1) := by decide +kernel
theorem dX2_lowerOne_48 : decode cX2_lowerOne 48 = .ok (.getfield 34, 3) := by decide +kernel
theorem dX2_lowerOne_51 : decode cX2_lowerOne 51 = .ok (.iconst (-1), 1) := by decide +kernel
theorem dX2_lowerOne_52 : decode cX2_lowerOne 52 = .ok (.if_icmp .ne 12, 3) := by decide +kernel
theorem dX2_lowerOne_55 : decode cX2_lowerOne 55 = .ok (.aload_n 0, 1) := by decide +kernel
theorem dX2_lowerOne_56 : decode cX2_lowerOne 56 = .ok (.aload_n 1, 1) := by decide +kernel
theorem dX2_lowerOne_57 : decode cX2_lowerOne 57 = .ok (.iload_n 2, 1) := by decide +kernel
theorem dX2_lowerOne_58 : decode cX2_lowerOne 58 = .ok (.invokevirtual 89, 3) := by decide +kernel
theorem dX2_lowerOne_61 : decode cX2_lowerOne 61 = .ok (.goto 9, 3) := by decide +kernel
theorem dX2_lowerOne_64 : decode cX2_lowerOne 64 = .ok (.aload_n 0, 1) := by decide +kernel
theorem dX2_lowerOne_65 : decode cX2_lowerOne 65 = .ok (.aload_n 1, 1) := by decide +kernel
theorem dX2_lowerOne_66 : decode cX2_lowerOne 66 = .ok (.iload_n 2, 1) := by decide +kernel
theorem dX2_lowerOne_67 : decode cX2_lowerOne 67 = .ok (.invokevirtual 93, 3) := by decide +kernel
theorem dX2_lowerOne_70 : decode cX2_lowerOne 70 = .ok (.return_, 1) := by decide +kernel
theorem dX2_valueRegister_0 : decode cX2_valueRegister 0 = .ok (.aload_n 1, 1) := by decide +kernel
theorem dX2_valueRegister_1 : decode cX2_valueRegister 1 = .ok (.getfield 96, 3) := by decide +kernel
theorem dX2_valueRegister_4 : decode cX2_valueRegister 4 = .ok (.iload_n 2, 1) := by decide +kernel
theorem dX2_valueRegister_5 : decode cX2_valueRegister 5 = .ok (.baload, 1) := by decide +kernel
theorem dX2_valueRegister_6 : decode cX2_valueRegister 6 = .ok (.ifCond .eq 17, 3) := by decide +kernel
theorem dX2_valueRegister_9 : decode cX2_valueRegister 9 = .ok (.aload_n 0, 1) := by decide +kernel
theorem dX2_valueRegister_10 : decode cX2_valueRegister 10 = .ok (.getfield 22, 3) := by decide +kernel
theorem dX2_valueRegister_13 : decode cX2_valueRegister 13 = .ok (.aload_n 1, 1) := by decide +kernel
theorem dX2_valueRegister_14 : decode cX2_valueRegister 14 = .ok (.getfield 99, 3) := by decide +kernel
theorem dX2_valueRegister_17 : decode cX2_valueRegister 17 = .ok (.iload_n 2, 1) := by decide +kernel
theorem dX2_valueRegister_18 : decode cX2_valueRegister 18 = .ok (.iaload, 1) := by decide +kernel
theorem dX2_valueRegister_19 : decode cX2_valueRegister 19 = .ok (.iaload, 1) := by decide +kernel
theorem dX2_valueRegister_20 : decode cX2_valueRegister 20 = .ok (.goto 13, 3) := by decide +kernel
theorem dX2_valueRegister_23 : decode cX2_valueRegister 23 = .ok (.aload_n 0, 1) := by decide +kernel
theorem dX2_valueRegister_24 : decode cX2_valueRegister 24 = .ok (.aload_n 1, 1) := by decide +kernel
theorem dX2_valueRegister_25 : decode cX2_valueRegister 25 = .ok (.getfield 99, 3) := by decide +kernel
theorem dX2_valueRegister_28 : decode cX2_valueRegister 28 = .ok (.iload_n 2, 1) := by decide +kernel
theorem dX2_valueRegister_29 : decode cX2_valueRegister 29 = .ok (.iaload, 1) := by decide +kernel
theorem dX2_valueRegister_30 : decode cX2_valueRegister 30 = .ok (.invokevirtual 102, 3) := by decide +kernel
theorem dX2_valueRegister_33 : decode cX2_valueRegister 33 = .ok (.ireturn, 1) := by decide +kernel
theorem dX2_setNew_0 : decode cX2_setNew 0 = .ok (.aload_n 0, 1) := by decide +kernel
theorem dX2_setNew_1 : decode cX2_setNew 1 = .ok (.getfield 12, 3) := by decide +kernel
theorem dX2_setNew_4 : decode cX2_setNew 4 = .ok (.iconst 0, 1) := by decide +kernel
theorem dX2_setNew_5 : decode cX2_setNew 5 = .ok (.iload_n 1, 1) := by decide +kernel
theorem dX2_setNew_6 : decode cX2_setNew 6 = .ok (.iconst 0, 1) := by decide +kernel
theorem dX2_setNew_7 : decode cX2_setNew 7 = .ok (.iconst 0, 1) := by decide +kernel
theorem dX2_setNew_8 : decode cX2_setNew 8 = .ok (.invokevirtual 106, 3) := by decide +kernel
theorem dX2_setNew_11 : decode cX2_setNew 11 = .ok (.ireturn, 1) := by decide +kernel
theorem dX2_testRegister_0 : decode cX2_testRegister 0 = .ok (.aload_n 0, 1) := by decide +kernel
theorem dX2_testRegister_1 : decode cX2_testRegister 1 = .ok (.aload_n 1, 1) := by decide +kernel
theorem dX2_testRegister_2 : decode cX2_testRegister 2 = .ok (.iconst 2, 1) := by decide +kernel
theorem dX2_testRegister_3 : decode cX2_testRegister 3 = .ok (.iload_n 2, 1) := by decide +kernel
theorem dX2_testRegister_4 : decode cX2_testRegister 4 = .ok (.imul, 1) := by decide +kernel
theorem dX2_testRegister_5 : decode cX2_testRegister 5 = .ok (.invokevirtual 110, 3) := by decide +kernel
theorem dX2_testRegister_8 : decode cX2_testRegister 8 = .ok (.istore_n 3, 1) := by decide +kernel
theorem dX2_testRegister_9 : decode cX2_testRegister 9 = .ok (.aload_n 0, 1) := by decide +kernel
theorem dX2_testRegister_10 : decode cX2_testRegister 10 = .ok (.aload_n 1, 1) := by decide +kernel
theorem dX2_testRegister_11 : decode cX2_testRegister 11 = .ok (.iconst 2, 1) := by decide +kernel
theorem dX2_testRegister_12 : decode cX2_testRegister 12 = .ok (.iload_n 2, 1) := by decide +kernel
theorem dX2_testRegister_13 : decode cX2_testRegister 13 = .ok (.imul, 1) := by decide +kernel
theorem dX2_testRegister_14 : decode cX2_testRegister 14 = .ok (.iconst 1, 1) := by decide +kernel
theorem dX2_testRegister_15 : decode cX2_testRegister 15 = .ok (.iadd, 1) := by decide +kernel
theorem dX2_testRegister_16 : decode cX2_testRegister 16 = .ok (.invokevirtual 110, 3) := by decide +kernel
theorem dX2_testRegister_19 : decode cX2_testRegister 19 = .ok (.istore 4, 2) := by decide +kernel
theorem dX2_testRegister_21 : decode cX2_testRegister 21 = .ok (.aload_n 0, 1) := by decide +kernel
theorem dX2_testRegister_22 : decode cX2_testRegister 22 = .ok (.getfield 12, 3) := by decide +kernel
theorem dX2_testRegister_25 : decode cX2_testRegister 25 = .ok (.aload_n 1, 1) := by decide +kernel
theorem dX2_testRegister_26 : decode cX2_testRegister 26 = .ok (.getfield 113, 3) := by decide +kernel
theorem dX2_testRegister_29 : decode cX2_testRegister 29 = .ok (.iload_n 2, 1) := by decide +kernel
theorem dX2_testRegister_30 : decode cX2_testRegister 30 = .ok (.iaload, 1) := by decide +kernel
theorem dX2_testRegister_31 : decode cX2_testRegister 31 = .ok (.iload_n 3, 1) := by decide +kernel
theorem dX2_testRegister_32 : decode cX2_testRegister 32 = .ok (.iload 4, 2) := by decide +kernel
theorem dX2_testRegister_34 : decode cX2_testRegister 34 = .ok (.iconst 0, 1) := by decide +kernel
theorem dX2_testRegister_35 : decode cX2_testRegister 35 = .ok (.invokevirtual 106, 3) := by decide +kernel
theorem dX2_testRegister_38 : decode cX2_testRegister 38 = .ok (.ireturn, 1) := by decide +kernel
theorem dX2_lowerPlainly_0 : decode cX2_lowerPlainly 0 = .ok (.aload_n 1, 1) := by decide +kernel
theorem dX2_lowerPlainly_1 : decode cX2_lowerPlainly 1 = .ok (.getfield 116, 3) := by decide +kernel
theorem dX2_lowerPlainly_4 : decode cX2_lowerPlainly 4 = .ok (.iload_n 2, 1) := by decide +kernel
theorem dX2_lowerPlainly_5 : decode cX2_lowerPlainly 5 = .ok (.iaload, 1) := by decide +kernel
theorem dX2_lowerPlainly_6 : decode cX2_lowerPlainly 6 = .ok (.istore_n 3, 1) := by decide +kernel
theorem dX2_lowerPlainly_7 : decode cX2_lowerPlainly 7 = .ok (.aload_n 1, 1) := by decide +kernel
theorem dX2_lowerPlainly_8 : decode cX2_lowerPlainly 8 = .ok (.getfield 64, 3) := by decide +kernel
theorem dX2_lowerPlainly_11 : decode cX2_lowerPlainly 11 = .ok (.iload_n 2, 1) := by decide +kernel
theorem dX2_lowerPlainly_12 : decode cX2_lowerPlainly 12 = .ok (.iaload, 1) := by decide +kernel
theorem dX2_lowerPlainly_13 : decode cX2_lowerPlainly 13 = .ok (.ifCond .ne 35, 3) := by decide +kernel
theorem dX2_lowerPlainly_16 : decode cX2_lowerPlainly 16 = .ok (.aload_n 1, 1) := by decide +kernel
theorem dX2_lowerPlainly_17 : decode cX2_lowerPlainly 17 = .ok (.getfield 96, 3) := by decide +kernel
theorem dX2_lowerPlainly_20 : decode cX2_lowerPlainly 20 = .ok (.iconst 2, 1) := by decide +kernel
theorem dX2_lowerPlainly_21 : decode cX2_lowerPlainly 21 = .ok (.iload_n 2, 1) := by decide +kernel
theorem dX2_lowerPlainly_22 : decode cX2_lowerPlainly 22 = .ok (.imul, 1) := by decide +kernel
theorem dX2_lowerPlainly_23 : decode cX2_lowerPlainly 23 = .ok (.baload, 1) := by decide +kernel
theorem dX2_lowerPlainly_24 : decode cX2_lowerPlainly 24 = .ok (.ifCond .ne 24, 3) := by decide +kernel
theorem dX2_lowerPlainly_27 : decode cX2_lowerPlainly 27 = .ok (.aload_n 0, 1) := by decide +kernel
theorem dX2_lowerPlainly_28 : decode cX2_lowerPlainly 28 = .ok (.getfield 12, 3) := by decide +kernel
theorem dX2_lowerPlainly_31 : decode cX2_lowerPlainly 31 = .ok (.iconst 0, 1) := by decide +kernel
theorem dX2_lowerPlainly_32 : decode cX2_lowerPlainly 32 = .ok (.iload_n 3, 1) := by decide +kernel
theorem dX2_lowerPlainly_33 : decode cX2_lowerPlainly 33 = .ok (.aload_n 1, 1) := by decide +kernel
theorem dX2_lowerPlainly_34 : decode cX2_lowerPlainly 34 = .ok (.getfield 99, 3) := by decide +kernel
theorem dX2_lowerPlainly_37 : decode cX2_lowerPlainly 37 = .ok (.iconst 2, 1) := by decide +kernel
theorem dX2_lowerPlainly_38 : decode cX2_lowerPlainly 38 = .ok (.iload_n 2, 1) := by decide +kernel
theorem dX2_lowerPlainly_39 : decode cX2_lowerPlainly 39 = .ok (.imul, 1) := by decide +kernel
theorem dX2_lowerPlainly_40 : decode cX2_lowerPlainly 40 = .ok (.iaload, 1) := by decide +kernel
theorem dX2_lowerPlainly_41 : decode cX2_lowerPlainly 41 = .ok (.iconst 0, 1) := by decide +kernel
theorem dX2_lowerPlainly_42 : decode cX2_lowerPlainly 42 = .ok (.iconst 0, 1) := by decide +kernel
theorem dX2_lowerPlainly_43 : decode cX2_lowerPlainly 43 = .ok (.invokevirtual 119, 3) := by decide +kernel
theorem dX2_lowerPlainly_46 : decode cX2_lowerPlainly 46 = .ok (.pop, 1) := by decide +kernel
theorem dX2_lowerPlainly_47 : decode cX2_lowerPlainly 47 = .ok (.return_, 1) := by decide +kernel
theorem dX2_lowerPlainly_48 : decode cX2_lowerPlainly 48 = .ok (.aload_n 0, 1) := by decide +kernel
theorem dX2_lowerPlainly_49 : decode cX2_lowerPlainly 49 = .ok (.aload_n 1, 1) := by decide +kernel
theorem dX2_lowerPlainly_50 : decode cX2_lowerPlainly 50 = .ok (.iconst 2, 1) := by decide +kernel
theorem dX2_lowerPlainly_51 : decode cX2_lowerPlainly 51 = .ok (.iload_n 2, 1) := by decide +kernel
theorem dX2_lowerPlainly_52 : decode cX2_lowerPlainly 52 = .ok (.imul, 1) := by decide +kernel
theorem dX2_lowerPlainly_53 : decode cX2_lowerPlainly 53 = .ok (.invokevirtual 110, 3) := by decide +kernel
theorem dX2_lowerPlainly_56 : decode cX2_lowerPlainly 56 = .ok (.istore 4, 2) := by decide +kernel
theorem dX2_lowerPlainly_58 : decode cX2_lowerPlainly 58 = .ok (.aload_n 1, 1) := by decide +kernel
theorem dX2_lowerPlainly_59 : decode cX2_lowerPlainly 59 = .ok (.getfield 64, 3) := by decide +kernel
theorem dX2_lowerPlainly_62 : decode cX2_lowerPlainly 62 = .ok (.iload_n 2, 1) := by decide +kernel
theorem dX2_lowerPlainly_63 : decode cX2_lowerPlainly 63 = .ok (.iaload, 1) := by decide +kernel
theorem dX2_lowerPlainly_64 : decode cX2_lowerPlainly 64 = .ok (.tableswitch 125 0 3 #[32, 49, 80, 98], 32) := by decide +kernel
theorem dX2_lowerPlainly_96 : decode cX2_lowerPlainly 96 = .ok (.aload_n 0, 1) := by decide +kernel
theorem dX2_lowerPlainly_97 : decode cX2_lowerPlainly 97 = .ok (.getfield 12, 3) := by decide +kernel
theorem dX2_lowerPlainly_100 : decode cX2_lowerPlainly 100 = .ok (.iconst 1, 1) := by decide +kernel
theorem dX2_lowerPlainly_101 : decode cX2_lowerPlainly 101 = .ok (.iload_n 3, 1) := by decide +kernel
theorem dX2_lowerPlainly_102 : decode cX2_lowerPlainly 102 = .ok (.iload 4, 2) := by decide +kernel
theorem dX2_lowerPlainly_104 : decode cX2_lowerPlainly 104 = .ok (.iconst 0, 1) := by decide +kernel
theorem dX2_lowerPlainly_105 : decode cX2_lowerPlainly 105 = .ok (.iconst 0, 1) := by decide +kernel
theorem dX2_lowerPlainly_106 : decode cX2_lowerPlainly 106 = .ok (.invokevirtual 119, 3) := by decide +kernel
theorem dX2_lowerPlainly_109 : decode cX2_lowerPlainly 109 = .ok (.pop, 1) := by decide +kernel
theorem dX2_lowerPlainly_110 : decode cX2_lowerPlainly 110 = .ok (.goto 94, 3) := by decide +kernel
theorem dX2_lowerPlainly_113 : decode cX2_lowerPlainly 113 = .ok (.aload_n 0, 1) := by decide +kernel
theorem dX2_lowerPlainly_114 : decode cX2_lowerPlainly 114 = .ok (.getfield 12, 3) := by decide +kernel
theorem dX2_lowerPlainly_117 : decode cX2_lowerPlainly 117 = .ok (.aload_n 1, 1) := by decide +kernel
theorem dX2_lowerPlainly_118 : decode cX2_lowerPlainly 118 = .ok (.getfield 113, 3) := by decide +kernel
theorem dX2_lowerPlainly_121 : decode cX2_lowerPlainly 121 = .ok (.iload_n 2, 1) := by decide +kernel
theorem dX2_lowerPlainly_122 : decode cX2_lowerPlainly 122 = .ok (.iaload, 1) := by decide +kernel
theorem dX2_lowerPlainly_123 : decode cX2_lowerPlainly 123 = .ok (.iload_n 3, 1) := by decide +kernel
theorem dX2_lowerPlainly_124 : decode cX2_lowerPlainly 124 = .ok (.iload 4, 2) := by decide +kernel
theorem dX2_lowerPlainly_126 : decode cX2_lowerPlainly 126 = .ok (.aload_n 0, 1) := by decide +kernel
theorem dX2_lowerPlainly_127 : decode cX2_lowerPlainly 127 = .ok (.aload_n 1, 1) := by decide +kernel
theorem dX2_lowerPlainly_128 : decode cX2_lowerPlainly 128 = .ok (.iconst 2, 1) := by decide +kernel
theorem dX2_lowerPlainly_129 : decode cX2_lowerPlainly 129 = .ok (.iload_n 2, 1) := by decide +kernel
theorem dX2_lowerPlainly_130 : decode cX2_lowerPlainly 130 = .ok (.imul, 1) := by decide +kernel
theorem dX2_lowerPlainly_131 : decode cX2_lowerPlainly 131 = .ok (.iconst 1, 1) := by decide +kernel
theorem dX2_lowerPlainly_132 : decode cX2_lowerPlainly 132 = .ok (.iadd, 1) := by decide +kernel
theorem dX2_lowerPlainly_133 : decode cX2_lowerPlainly 133 = .ok (.invokevirtual 110, 3) := by decide +kernel
theorem dX2_lowerPlainly_136 : decode cX2_lowerPlainly 136 = .ok (.iconst 0, 1) := by decide +kernel
theorem dX2_lowerPlainly_137 : decode cX2_lowerPlainly 137 = .ok (.invokevirtual 119, 3) := by decide +kernel
theorem dX2_lowerPlainly_140 : decode cX2_lowerPlainly 140 = .ok (.pop, 1) := by decide +kernel
theorem dX2_lowerPlainly_141 : decode cX2_lowerPlainly 141 = .ok (.goto 63, 3) := by decide +kernel
theorem dX2_lowerPlainly_144 : decode cX2_lowerPlainly 144 = .ok (.aload_n 0, 1) := by decide +kernel
theorem dX2_lowerPlainly_145 : decode cX2_lowerPlainly 145 = .ok (.getfield 12, 3) := by decide +kernel
theorem dX2_lowerPlainly_148 : decode cX2_lowerPlainly 148 = .ok (.bipush 14, 2) := by decide +kernel
theorem dX2_lowerPlainly_150 : decode cX2_lowerPlainly 150 = .ok (.iload_n 3, 1) := by decide +kernel
theorem dX2_lowerPlainly_151 : decode cX2_lowerPlainly 151 = .ok (.iload 4, 2) := by decide +kernel
theorem dX2_lowerPlainly_153 : decode cX2_lowerPlainly 153 = .ok (.iconst 0, 1) := by decide +kernel
theorem dX2_lowerPlainly_154 : decode cX2_lowerPlainly 154 = .ok (.iconst 0, 1) := by decide +kernel
theorem dX2_lowerPlainly_155 : decode cX2_lowerPlainly 155 = .ok (.invokevirtual 119, 3) := by decide +kernel
theorem dX2_lowerPlainly_158 : decode cX2_lowerPlainly 158 = .ok (.pop, 1) := by decide +kernel
theorem dX2_lowerPlainly_159 : decode cX2_lowerPlainly 159 = .ok (.goto 45, 3) := by decide +kernel
theorem dX2_lowerPlainly_162 : decode cX2_lowerPlainly 162 = .ok (.aload_n 0, 1) := by decide +kernel
theorem dX2_lowerPlainly_163 : decode cX2_lowerPlainly 163 = .ok (.getfield 12, 3) := by decide +kernel
theorem dX2_lowerPlainly_166 : decode cX2_lowerPlainly 166 = .ok (.bipush 15, 2) := by decide +kernel
theorem dX2_lowerPlainly_168 : decode cX2_lowerPlainly 168 = .ok (.iload 4, 2) := by decide +kernel
theorem dX2_lowerPlainly_170 : decode cX2_lowerPlainly 170 = .ok (.aload_n 0, 1) := by decide +kernel
theorem dX2_lowerPlainly_171 : decode cX2_lowerPlainly 171 = .ok (.aload_n 1, 1) := by decide +kernel
theorem dX2_lowerPlainly_172 : decode cX2_lowerPlainly 172 = .ok (.iconst 2, 1) := by decide +kernel
theorem dX2_lowerPlainly_173 : decode cX2_lowerPlainly 173 = .ok (.iload_n 2, 1) := by decide +kernel
theorem dX2_lowerPlainly_174 : decode cX2_lowerPlainly 174 = .ok (.imul, 1) := by decide +kernel
theorem dX2_lowerPlainly_175 : decode cX2_lowerPlainly 175 = .ok (.iconst 1, 1) := by decide +kernel
theorem dX2_lowerPlainly_176 : decode cX2_lowerPlainly 176 = .ok (.iadd, 1) := by decide +kernel
theorem dX2_lowerPlainly_177 : decode cX2_lowerPlainly 177 = .ok (.invokevirtual 110, 3) := by decide +kernel
theorem dX2_lowerPlainly_180 : decode cX2_lowerPlainly 180 = .ok (.iconst 0, 1) := by decide +kernel
theorem dX2_lowerPlainly_181 : decode cX2_lowerPlainly 181 = .ok (.iconst 0, 1) := by decide +kernel
theorem dX2_lowerPlainly_182 : decode cX2_lowerPlainly 182 = .ok (.invokevirtual 119, 3) := by decide +kernel
theorem dX2_lowerPlainly_185 : decode cX2_lowerPlainly 185 = .ok (.pop, 1) := by decide +kernel
theorem dX2_lowerPlainly_186 : decode cX2_lowerPlainly 186 = .ok (.goto 18, 3) := by decide +kernel
theorem dX2_lowerPlainly_189 : decode cX2_lowerPlainly 189 = .ok (.aload_n 0, 1) := by decide +kernel
theorem dX2_lowerPlainly_190 : decode cX2_lowerPlainly 190 = .ok (.getfield 12, 3) := by decide +kernel
theorem dX2_lowerPlainly_193 : decode cX2_lowerPlainly 193 = .ok (.bipush 18, 2) := by decide +kernel
theorem dX2_lowerPlainly_195 : decode cX2_lowerPlainly 195 = .ok (.iload 4, 2) := by decide +kernel
theorem dX2_lowerPlainly_197 : decode cX2_lowerPlainly 197 = .ok (.iconst 0, 1) := by decide +kernel
theorem dX2_lowerPlainly_198 : decode cX2_lowerPlainly 198 = .ok (.iconst 0, 1) := by decide +kernel
theorem dX2_lowerPlainly_199 : decode cX2_lowerPlainly 199 = .ok (.iconst 0, 1) := by decide +kernel
theorem dX2_lowerPlainly_200 : decode cX2_lowerPlainly 200 = .ok (.invokevirtual 119, 3) := by decide +kernel
theorem dX2_lowerPlainly_203 : decode cX2_lowerPlainly 203 = .ok (.pop, 1) := by decide +kernel
theorem dX2_lowerPlainly_204 : decode cX2_lowerPlainly 204 = .ok (.return_, 1) := by decide +kernel
theorem dX2_lowerWithJumps_0 : decode cX2_lowerWithJumps 0 = .ok (.iload_n 3, 1) := by decide +kernel
theorem dX2_lowerWithJumps_1 : decode cX2_lowerWithJumps 1 = .ok (.bipush 6, 2) := by decide +kernel
theorem dX2_lowerWithJumps_3 : decode cX2_lowerWithJumps 3 = .ok (.if_icmp .lt 4, 3) := by decide +kernel
theorem dX2_lowerWithJumps_6 : decode cX2_lowerWithJumps 6 = .ok (.return_, 1) := by decide +kernel
theorem dX2_lowerWithJumps_7 : decode cX2_lowerWithJumps 7 = .ok (.aload_n 0, 1) := by decide +kernel
theorem dX2_lowerWithJumps_8 : decode cX2_lowerWithJumps 8 = .ok (.getfield 12, 3) := by decide +kernel
theorem dX2_lowerWithJumps_11 : decode cX2_lowerWithJumps 11 = .ok (.bipush 17, 2) := by decide +kernel
theorem dX2_lowerWithJumps_13 : decode cX2_lowerWithJumps 13 = .ok (.aload_n 0, 1) := by decide +kernel
theorem dX2_lowerWithJumps_14 : decode cX2_lowerWithJumps 14 = .ok (.aload_n 1, 1) := by decide +kernel
theorem dX2_lowerWithJumps_15 : decode cX2_lowerWithJumps 15 = .ok (.iload_n 2, 1) := by decide +kernel
theorem dX2_lowerWithJumps_16 : decode cX2_lowerWithJumps 16 = .ok (.invokevirtual 123, 3) := by decide +kernel
theorem dX2_lowerWithJumps_19 : decode cX2_lowerWithJumps 19 = .ok (.iconst 0, 1) := by decide +kernel
theorem dX2_lowerWithJumps_20 : decode cX2_lowerWithJumps 20 = .ok (.iconst 0, 1) := by decide +kernel
theorem dX2_lowerWithJumps_21 : decode cX2_lowerWithJumps 21 = .ok (.iconst 0, 1) := by decide +kernel
theorem dX2_lowerWithJumps_22 : decode cX2_lowerWithJumps 22 = .ok (.invokevirtual 119, 3) := by decide +kernel
theorem dX2_lowerWithJumps_25 : decode cX2_lowerWithJumps 25 = .ok (.istore 4, 2) := by decide +kernel
theorem dX2_lowerWithJumps_27 : decode cX2_lowerWithJumps 27 = .ok (.aload_n 0, 1) := by decide +kernel
theorem dX2_lowerWithJumps_28 : decode cX2_lowerWithJumps 28 = .ok (.aload_n 1, 1) := by decide +kernel
theorem dX2_lowerWithJumps_29 : decode cX2_lowerWithJumps 29 = .ok (.iload_n 2, 1) := by decide +kernel
theorem dX2_lowerWithJumps_30 : decode cX2_lowerWithJumps 30 = .ok (.iconst 1, 1) := by decide +kernel
theorem dX2_lowerWithJumps_31 : decode cX2_lowerWithJumps 31 = .ok (.iadd, 1) := by decide +kernel
theorem dX2_lowerWithJumps_32 : decode cX2_lowerWithJumps 32 = .ok (.aload_n 1, 1) := by decide +kernel
theorem dX2_lowerWithJumps_33 : decode cX2_lowerWithJumps 33 = .ok (.getfield 126, 3) := by decide +kernel
theorem dX2_lowerWithJumps_36 : decode cX2_lowerWithJumps 36 = .ok (.iload_n 2, 1) := by decide +kernel
theorem dX2_lowerWithJumps_37 : decode cX2_lowerWithJumps 37 = .ok (.iaload, 1) := by decide +kernel
theorem dX2_lowerWithJumps_38 : decode cX2_lowerWithJumps 38 = .ok (.iload_n 3, 1) := by decide +kernel
theorem dX2_lowerWithJumps_39 : decode cX2_lowerWithJumps 39 = .ok (.iconst 1, 1) := by decide +kernel
theorem dX2_lowerWithJumps_40 : decode cX2_lowerWithJumps 40 = .ok (.iadd, 1) := by decide +kernel
theorem dX2_lowerWithJumps_41 : decode cX2_lowerWithJumps 41 = .ok (.invokevirtual 54, 3) := by decide +kernel
theorem dX2_lowerWithJumps_44 : decode cX2_lowerWithJumps 44 = .ok (.aload_n 1, 1) := by decide +kernel
theorem dX2_lowerWithJumps_45 : decode cX2_lowerWithJumps 45 = .ok (.getfield 126, 3) := by decide +kernel
theorem dX2_lowerWithJumps_48 : decode cX2_lowerWithJumps 48 = .ok (.iload_n 2, 1) := by decide +kernel
theorem dX2_lowerWithJumps_49 : decode cX2_lowerWithJumps 49 = .ok (.iaload, 1) := by decide +kernel
theorem dX2_lowerWithJumps_50 : decode cX2_lowerWithJumps 50 = .ok (.aload_n 1, 1) := by decide +kernel
theorem dX2_lowerWithJumps_51 : decode cX2_lowerWithJumps 51 = .ok (.getfield 61, 3) := by decide +kernel
theorem dX2_lowerWithJumps_54 : decode cX2_lowerWithJumps 54 = .ok (.iload_n 2, 1) := by decide +kernel
theorem dX2_lowerWithJumps_55 : decode cX2_lowerWithJumps 55 = .ok (.iaload, 1) := by decide +kernel
theorem dX2_lowerWithJumps_56 : decode cX2_lowerWithJumps 56 = .ok (.if_icmp .ne 13, 3) := by decide +kernel
theorem dX2_lowerWithJumps_59 : decode cX2_lowerWithJumps 59 = .ok (.aload_n 0, 1) := by decide +kernel
theorem dX2_lowerWithJumps_60 : decode cX2_lowerWithJumps 60 = .ok (.getfield 12, 3) := by decide +kernel
theorem dX2_lowerWithJumps_63 : decode cX2_lowerWithJumps 63 = .ok (.iload 4, 2) := by decide +kernel
theorem dX2_lowerWithJumps_65 : decode cX2_lowerWithJumps 65 = .ok (.invokevirtual 129, 3) := by decide +kernel
theorem dX2_lowerWithJumps_68 : decode cX2_lowerWithJumps 68 = .ok (.return_, 1) := by decide +kernel
theorem dX2_lowerWithJumps_69 : decode cX2_lowerWithJumps 69 = .ok (.aload_n 0, 1) := by decide +kernel
theorem dX2_lowerWithJumps_70 : decode cX2_lowerWithJumps 70 = .ok (.getfield 12, 3) := by decide +kernel
theorem dX2_lowerWithJumps_73 : decode cX2_lowerWithJumps 73 = .ok (.iload_n 2, 1) := by decide +kernel
theorem dX2_lowerWithJumps_74 : decode cX2_lowerWithJumps 74 = .ok (.putfield 83, 3) := by decide +kernel
theorem dX2_lowerWithJumps_77 : decode cX2_lowerWithJumps 77 = .ok (.aload_n 0, 1) := by decide +kernel
theorem dX2_lowerWithJumps_78 : decode cX2_lowerWithJumps 78 = .ok (.getfield 12, 3) := by decide +kernel
theorem dX2_lowerWithJumps_81 : decode cX2_lowerWithJumps 81 = .ok (.bipush 16, 2) := by decide +kernel
theorem dX2_lowerWithJumps_83 : decode cX2_lowerWithJumps 83 = .ok (.iconst 0, 1) := by decide +kernel
theorem dX2_lowerWithJumps_84 : decode cX2_lowerWithJumps 84 = .ok (.iconst 0, 1) := by decide +kernel
theorem dX2_lowerWithJumps_85 : decode cX2_lowerWithJumps 85 = .ok (.iconst 0, 1) := by decide +kernel
theorem dX2_lowerWithJumps_86 : decode cX2_lowerWithJumps 86 = .ok (.iconst 0, 1) := by decide +kernel
theorem dX2_lowerWithJumps_87 : decode cX2_lowerWithJumps 87 = .ok (.invokevirtual 119, 3) := by decide +kernel
theorem dX2_lowerWithJumps_90 : decode cX2_lowerWithJumps 90 = .ok (.istore 5, 2) := by decide +kernel
theorem dX2_lowerWithJumps_92 : decode cX2_lowerWithJumps 92 = .ok (.aload_n 0, 1) := by decide +kernel
theorem dX2_lowerWithJumps_93 : decode cX2_lowerWithJumps 93 = .ok (.getfield 12, 3) := by decide +kernel
theorem dX2_lowerWithJumps_96 : decode cX2_lowerWithJumps 96 = .ok (.iload 4, 2) := by decide +kernel
theorem dX2_lowerWithJumps_98 : decode cX2_lowerWithJumps 98 = .ok (.invokevirtual 129, 3) := by decide +kernel
theorem dX2_lowerWithJumps_101 : decode cX2_lowerWithJumps 101 = .ok (.aload_n 0, 1) := by decide +kernel
theorem dX2_lowerWithJumps_102 : decode cX2_lowerWithJumps 102 = .ok (.aload_n 1, 1) := by decide +kernel
theorem dX2_lowerWithJumps_103 : decode cX2_lowerWithJumps 103 = .ok (.aload_n 1, 1) := by decide +kernel
theorem dX2_lowerWithJumps_104 : decode cX2_lowerWithJumps 104 = .ok (.getfield 126, 3) := by decide +kernel
theorem dX2_lowerWithJumps_107 : decode cX2_lowerWithJumps 107 = .ok (.iload_n 2, 1) := by decide +kernel
theorem dX2_lowerWithJumps_108 : decode cX2_lowerWithJumps 108 = .ok (.iaload, 1) := by decide +kernel
theorem dX2_lowerWithJumps_109 : decode cX2_lowerWithJumps 109 = .ok (.aload_n 1, 1) := by decide +kernel
theorem dX2_lowerWithJumps_110 : decode cX2_lowerWithJumps 110 = .ok (.getfield 61, 3) := by decide +kernel
theorem dX2_lowerWithJumps_113 : decode cX2_lowerWithJumps 113 = .ok (.iload_n 2, 1) := by decide +kernel
theorem dX2_lowerWithJumps_114 : decode cX2_lowerWithJumps 114 = .ok (.iaload, 1) := by decide +kernel
theorem dX2_lowerWithJumps_115 : decode cX2_lowerWithJumps 115 = .ok (.iload_n 3, 1) := by decide +kernel
theorem dX2_lowerWithJumps_116 : decode cX2_lowerWithJumps 116 = .ok (.iconst 1, 1) := by decide +kernel
theorem dX2_lowerWithJumps_117 : decode cX2_lowerWithJumps 117 = .ok (.iadd, 1) := by decide +kernel
theorem dX2_lowerWithJumps_118 : decode cX2_lowerWithJumps 118 = .ok (.invokevirtual 54, 3) := by decide +kernel
theorem dX2_lowerWithJumps_121 : decode cX2_lowerWithJumps 121 = .ok (.aload_n 0, 1) := by decide +kernel
theorem dX2_lowerWithJumps_122 : decode cX2_lowerWithJumps 122 = .ok (.getfield 12, 3) := by decide +kernel
theorem dX2_lowerWithJumps_125 : decode cX2_lowerWithJumps 125 = .ok (.iload 5, 2) := by decide +kernel
theorem dX2_lowerWithJumps_127 : decode cX2_lowerWithJumps 127 = .ok (.invokevirtual 129, 3) := by decide +kernel
theorem dX2_lowerWithJumps_130 : decode cX2_lowerWithJumps 130 = .ok (.return_, 1) := by decide +kernel
theorem dX2_lowerGuarded_0 : decode cX2_lowerGuarded 0 = .ok (.aload_n 1, 1) := by decide +kernel
theorem dX2_lowerGuarded_1 : decode cX2_lowerGuarded 1 = .ok (.getfield 116, 3) := by decide +kernel
theorem dX2_lowerGuarded_4 : decode cX2_lowerGuarded 4 = .ok (.iload_n 2, 1) := by decide +kernel
theorem dX2_lowerGuarded_5 : decode cX2_lowerGuarded 5 = .ok (.iaload, 1) := by decide +kernel
theorem dX2_lowerGuarded_6 : decode cX2_lowerGuarded 6 = .ok (.istore_n 3, 1) := by decide +kernel
theorem dX2_lowerGuarded_7 : decode cX2_lowerGuarded 7 = .ok (.aload_n 0, 1) := by decide +kernel
theorem dX2_lowerGuarded_8 : decode cX2_lowerGuarded 8 = .ok (.aload_n 1, 1) := by decide +kernel
theorem dX2_lowerGuarded_9 : decode cX2_lowerGuarded 9 = .ok (.iconst 2, 1) := by decide +kernel
theorem dX2_lowerGuarded_10 : decode cX2_lowerGuarded 10 = .ok (.iload_n 2, 1) := by decide +kernel
theorem dX2_lowerGuarded_11 : decode cX2_lowerGuarded 11 = .ok (.imul, 1) := by decide +kernel
theorem dX2_lowerGuarded_12 : decode cX2_lowerGuarded 12 = .ok (.invokevirtual 110, 3) := by decide +kernel
theorem dX2_lowerGuarded_15 : decode cX2_lowerGuarded 15 = .ok (.istore 4, 2) := by decide +kernel
theorem dX2_lowerGuarded_17 : decode cX2_lowerGuarded 17 = .ok (.aload_n 1, 1) := by decide +kernel
theorem dX2_lowerGuarded_18 : decode cX2_lowerGuarded 18 = .ok (.getfield 64, 3) := by decide +kernel
theorem dX2_lowerGuarded_21 : decode cX2_lowerGuarded 21 = .ok (.iload_n 2, 1) := by decide +kernel
theorem dX2_lowerGuarded_22 : decode cX2_lowerGuarded 22 = .ok (.iaload, 1) := by decide +kernel
theorem dX2_lowerGuarded_23 : decode cX2_lowerGuarded 23 = .ok (.tableswitch 91 0 2 #[25, 36, 53], 25) := by decide +kernel
theorem dX2_lowerGuarded_48 : decode cX2_lowerGuarded 48 = .ok (.aload_n 0, 1) := by decide +kernel
theorem dX2_lowerGuarded_49 : decode cX2_lowerGuarded 49 = .ok (.getfield 22, 3) := by decide +kernel
theorem dX2_lowerGuarded_52 : decode cX2_lowerGuarded 52 = .ok (.iload_n 3, 1) := by decide +kernel
theorem dX2_lowerGuarded_53 : decode cX2_lowerGuarded 53 = .ok (.iload 4, 2) := by decide +kernel
theorem dX2_lowerGuarded_55 : decode cX2_lowerGuarded 55 = .ok (.iastore, 1) := by decide +kernel
theorem dX2_lowerGuarded_56 : decode cX2_lowerGuarded 56 = .ok (.goto 90, 3) := by decide +kernel
theorem dX2_lowerGuarded_59 : decode cX2_lowerGuarded 59 = .ok (.aload_n 0, 1) := by decide +kernel
theorem dX2_lowerGuarded_60 : decode cX2_lowerGuarded 60 = .ok (.getfield 22, 3) := by decide +kernel
theorem dX2_lowerGuarded_63 : decode cX2_lowerGuarded 63 = .ok (.iload_n 3, 1) := by decide +kernel
theorem dX2_lowerGuarded_64 : decode cX2_lowerGuarded 64 = .ok (.aload_n 0, 1) := by decide +kernel
theorem dX2_lowerGuarded_65 : decode cX2_lowerGuarded 65 = .ok (.aload_n 1, 1) := by decide +kernel
theorem dX2_lowerGuarded_66 : decode cX2_lowerGuarded 66 = .ok (.iload_n 2, 1) := by decide +kernel
theorem dX2_lowerGuarded_67 : decode cX2_lowerGuarded 67 = .ok (.iload 4, 2) := by decide +kernel
theorem dX2_lowerGuarded_69 : decode cX2_lowerGuarded 69 = .ok (.invokevirtual 133, 3) := by decide +kernel
theorem dX2_lowerGuarded_72 : decode cX2_lowerGuarded 72 = .ok (.iastore, 1) := by decide +kernel
theorem dX2_lowerGuarded_73 : decode cX2_lowerGuarded 73 = .ok (.goto 73, 3) := by decide +kernel
theorem dX2_lowerGuarded_76 : decode cX2_lowerGuarded 76 = .ok (.aload_n 0, 1) := by decide +kernel
theorem dX2_lowerGuarded_77 : decode cX2_lowerGuarded 77 = .ok (.iload 4, 2) := by decide +kernel
theorem dX2_lowerGuarded_79 : decode cX2_lowerGuarded 79 = .ok (.aload_n 1, 1) := by decide +kernel
theorem dX2_lowerGuarded_80 : decode cX2_lowerGuarded 80 = .ok (.iconst 2, 1) := by decide +kernel
theorem dX2_lowerGuarded_81 : decode cX2_lowerGuarded 81 = .ok (.iload_n 2, 1) := by decide +kernel
theorem dX2_lowerGuarded_82 : decode cX2_lowerGuarded 82 = .ok (.imul, 1) := by decide +kernel
theorem dX2_lowerGuarded_83 : decode cX2_lowerGuarded 83 = .ok (.invokestatic 137, 3) := by decide +kernel
theorem dX2_lowerGuarded_86 : decode cX2_lowerGuarded 86 = .ok (.iconst 0, 1) := by decide +kernel
theorem dX2_lowerGuarded_87 : decode cX2_lowerGuarded 87 = .ok (.invokevirtual 140, 3) := by decide +kernel
theorem dX2_lowerGuarded_90 : decode cX2_lowerGuarded 90 = .ok (.istore 5, 2) := by decide +kernel
theorem dX2_lowerGuarded_92 : decode cX2_lowerGuarded 92 = .ok (.aload_n 0, 1) := by decide +kernel
theorem dX2_lowerGuarded_93 : decode cX2_lowerGuarded 93 = .ok (.getfield 22, 3) := by decide +kernel
theorem dX2_lowerGuarded_96 : decode cX2_lowerGuarded 96 = .ok (.iload_n 3, 1) := by decide +kernel
theorem dX2_lowerGuarded_97 : decode cX2_lowerGuarded 97 = .ok (.aload_n 0, 1) := by decide +kernel
theorem dX2_lowerGuarded_98 : decode cX2_lowerGuarded 98 = .ok (.getfield 12, 3) := by decide +kernel
theorem dX2_lowerGuarded_101 : decode cX2_lowerGuarded 101 = .ok (.bipush 14, 2) := by decide +kernel
theorem dX2_lowerGuarded_103 : decode cX2_lowerGuarded 103 = .ok (.iload 5, 2) := by decide +kernel
theorem dX2_lowerGuarded_105 : decode cX2_lowerGuarded 105 = .ok (.iconst 0, 1) := by decide +kernel
theorem dX2_lowerGuarded_106 : decode cX2_lowerGuarded 106 = .ok (.iconst 0, 1) := by decide +kernel
theorem dX2_lowerGuarded_107 : decode cX2_lowerGuarded 107 = .ok (.invokevirtual 106, 3) := by decide +kernel
theorem dX2_lowerGuarded_110 : decode cX2_lowerGuarded 110 = .ok (.iastore, 1) := by decide +kernel
theorem dX2_lowerGuarded_111 : decode cX2_lowerGuarded 111 = .ok (.goto 35, 3) := by decide +kernel
theorem dX2_lowerGuarded_114 : decode cX2_lowerGuarded 114 = .ok (.aload_n 0, 1) := by decide +kernel
theorem dX2_lowerGuarded_115 : decode cX2_lowerGuarded 115 = .ok (.aload_n 1, 1) := by decide +kernel
theorem dX2_lowerGuarded_116 : decode cX2_lowerGuarded 116 = .ok (.iconst 2, 1) := by decide +kernel
theorem dX2_lowerGuarded_117 : decode cX2_lowerGuarded 117 = .ok (.iload_n 2, 1) := by decide +kernel
theorem dX2_lowerGuarded_118 : decode cX2_lowerGuarded 118 = .ok (.imul, 1) := by decide +kernel
theorem dX2_lowerGuarded_119 : decode cX2_lowerGuarded 119 = .ok (.iconst 1, 1) := by decide +kernel
theorem dX2_lowerGuarded_120 : decode cX2_lowerGuarded 120 = .ok (.iadd, 1) := by decide +kernel
theorem dX2_lowerGuarded_121 : decode cX2_lowerGuarded 121 = .ok (.invokevirtual 110, 3) := by decide +kernel
theorem dX2_lowerGuarded_124 : decode cX2_lowerGuarded 124 = .ok (.istore 6, 2) := by decide +kernel
theorem dX2_lowerGuarded_126 : decode cX2_lowerGuarded 126 = .ok (.aload_n 0, 1) := by decide +kernel
theorem dX2_lowerGuarded_127 : decode cX2_lowerGuarded 127 = .ok (.aload_n 0, 1) := by decide +kernel
theorem dX2_lowerGuarded_128 : decode cX2_lowerGuarded 128 = .ok (.iload 4, 2) := by decide +kernel
theorem dX2_lowerGuarded_130 : decode cX2_lowerGuarded 130 = .ok (.aload_n 1, 1) := by decide +kernel
theorem dX2_lowerGuarded_131 : decode cX2_lowerGuarded 131 = .ok (.iconst 2, 1) := by decide +kernel
theorem dX2_lowerGuarded_132 : decode cX2_lowerGuarded 132 = .ok (.iload_n 2, 1) := by decide +kernel
theorem dX2_lowerGuarded_133 : decode cX2_lowerGuarded 133 = .ok (.imul, 1) := by decide +kernel
theorem dX2_lowerGuarded_134 : decode cX2_lowerGuarded 134 = .ok (.invokestatic 137, 3) := by decide +kernel
theorem dX2_lowerGuarded_137 : decode cX2_lowerGuarded 137 = .ok (.iconst 0, 1) := by decide +kernel
theorem dX2_lowerGuarded_138 : decode cX2_lowerGuarded 138 = .ok (.invokevirtual 140, 3) := by decide +kernel
theorem dX2_lowerGuarded_141 : decode cX2_lowerGuarded 141 = .ok (.iload 6, 2) := by decide +kernel
theorem dX2_lowerGuarded_143 : decode cX2_lowerGuarded 143 = .ok (.invokevirtual 144, 3) := by decide +kernel
theorem dX2_lowerGuarded_146 : decode cX2_lowerGuarded 146 = .ok (.return_, 1) := by decide +kernel
theorem dX2_guardedOperation_0 : decode cX2_guardedOperation 0 = .ok (.iconst 2, 1) := by decide +kernel
theorem dX2_guardedOperation_1 : decode cX2_guardedOperation 1 = .ok (.iload_n 2, 1) := by decide +kernel
theorem dX2_guardedOperation_2 : decode cX2_guardedOperation 2 = .ok (.imul, 1) := by decide +kernel
theorem dX2_guardedOperation_3 : decode cX2_guardedOperation 3 = .ok (.iconst 1, 1) := by decide +kernel
theorem dX2_guardedOperation_4 : decode cX2_guardedOperation 4 = .ok (.iadd, 1) := by decide +kernel
theorem dX2_guardedOperation_5 : decode cX2_guardedOperation 5 = .ok (.istore 4, 2) := by decide +kernel
theorem dX2_guardedOperation_7 : decode cX2_guardedOperation 7 = .ok (.aload_n 0, 1) := by decide +kernel
theorem dX2_guardedOperation_8 : decode cX2_guardedOperation 8 = .ok (.aload_n 1, 1) := by decide +kernel
theorem dX2_guardedOperation_9 : decode cX2_guardedOperation 9 = .ok (.iload 4, 2) := by decide +kernel
theorem dX2_guardedOperation_11 : decode cX2_guardedOperation 11 = .ok (.invokevirtual 110, 3) := by decide +kernel
theorem dX2_guardedOperation_14 : decode cX2_guardedOperation 14 = .ok (.istore 5, 2) := by decide +kernel
theorem dX2_guardedOperation_16 : decode cX2_guardedOperation 16 = .ok (.aload_n 1, 1) := by decide +kernel
theorem dX2_guardedOperation_17 : decode cX2_guardedOperation 17 = .ok (.getfield 96, 3) := by decide +kernel
theorem dX2_guardedOperation_20 : decode cX2_guardedOperation 20 = .ok (.iload 4, 2) := by decide +kernel
theorem dX2_guardedOperation_22 : decode cX2_guardedOperation 22 = .ok (.baload, 1) := by decide +kernel
theorem dX2_guardedOperation_23 : decode cX2_guardedOperation 23 = .ok (.ifCond .ne 13, 3) := by decide +kernel
theorem dX2_guardedOperation_26 : decode cX2_guardedOperation 26 = .ok (.aload_n 1, 1) := by decide +kernel
theorem dX2_guardedOperation_27 : decode cX2_guardedOperation 27 = .ok (.getfield 99, 3) := by decide +kernel
theorem dX2_guardedOperation_30 : decode cX2_guardedOperation 30 = .ok (.iload 4, 2) := by decide +kernel
theorem dX2_guardedOperation_32 : decode cX2_guardedOperation 32 = .ok (.iaload, 1) := by decide +kernel
theorem dX2_guardedOperation_33 : decode cX2_guardedOperation 33 = .ok (.ifCond .ne 7, 3) := by decide +kernel
theorem dX2_guardedOperation_36 : decode cX2_guardedOperation 36 = .ok (.iconst 1, 1) := by decide +kernel
theorem dX2_guardedOperation_37 : decode cX2_guardedOperation 37 = .ok (.goto 4, 3) := by decide +kernel
theorem dX2_guardedOperation_40 : decode cX2_guardedOperation 40 = .ok (.iconst 0, 1) := by decide +kernel
theorem dX2_guardedOperation_41 : decode cX2_guardedOperation 41 = .ok (.istore 6, 2) := by decide +kernel
theorem dX2_guardedOperation_43 : decode cX2_guardedOperation 43 = .ok (.aload_n 1, 1) := by decide +kernel
theorem dX2_guardedOperation_44 : decode cX2_guardedOperation 44 = .ok (.getfield 113, 3) := by decide +kernel
theorem dX2_guardedOperation_47 : decode cX2_guardedOperation 47 = .ok (.iload_n 2, 1) := by decide +kernel
theorem dX2_guardedOperation_48 : decode cX2_guardedOperation 48 = .ok (.iaload, 1) := by decide +kernel
theorem dX2_guardedOperation_49 : decode cX2_guardedOperation 49 = .ok (.invokestatic 148, 3) := by decide +kernel
theorem dX2_guardedOperation_52 : decode cX2_guardedOperation 52 = .ok (.ifCond .eq 8, 3) := by decide +kernel
theorem dX2_guardedOperation_55 : decode cX2_guardedOperation 55 = .ok (.iload 6, 2) := by decide +kernel
theorem dX2_guardedOperation_57 : decode cX2_guardedOperation 57 = .ok (.ifCond .ne 7, 3) := by decide +kernel
theorem dX2_guardedOperation_60 : decode cX2_guardedOperation 60 = .ok (.iconst 1, 1) := by decide +kernel
theorem dX2_guardedOperation_61 : decode cX2_guardedOperation 61 = .ok (.goto 4, 3) := by decide +kernel
theorem dX2_guardedOperation_64 : decode cX2_guardedOperation 64 = .ok (.iconst 0, 1) := by decide +kernel
theorem dX2_guardedOperation_65 : decode cX2_guardedOperation 65 = .ok (.istore 7, 2) := by decide +kernel
theorem dX2_guardedOperation_67 : decode cX2_guardedOperation 67 = .ok (.aload_n 0, 1) := by decide +kernel
theorem dX2_guardedOperation_68 : decode cX2_guardedOperation 68 = .ok (.getfield 12, 3) := by decide +kernel
theorem dX2_guardedOperation_71 : decode cX2_guardedOperation 71 = .ok (.aload_n 1, 1) := by decide +kernel
theorem dX2_guardedOperation_72 : decode cX2_guardedOperation 72 = .ok (.getfield 113, 3) := by decide +kernel
theorem dX2_guardedOperation_75 : decode cX2_guardedOperation 75 = .ok (.iload_n 2, 1) := by decide +kernel
theorem dX2_guardedOperation_76 : decode cX2_guardedOperation 76 = .ok (.iaload, 1) := by decide +kernel
theorem dX2_guardedOperation_77 : decode cX2_guardedOperation 77 = .ok (.iload_n 3, 1) := by decide +kernel
theorem dX2_guardedOperation_78 : decode cX2_guardedOperation 78 = .ok (.aload_n 0, 1) := by decide +kernel
theorem dX2_guardedOperation_79 : decode cX2_guardedOperation 79 = .ok (.iload 5, 2) := by decide +kernel
theorem dX2_guardedOperation_81 : decode cX2_guardedOperation 81 = .ok (.iload 7, 2) := by decide +kernel
theorem dX2_guardedOperation_83 : decode cX2_guardedOperation 83 = .ok (.iconst 1, 1) := by decide +kernel
theorem dX2_guardedOperation_84 : decode cX2_guardedOperation 84 = .ok (.invokevirtual 140, 3) := by decide +kernel
theorem dX2_guardedOperation_87 : decode cX2_guardedOperation 87 = .ok (.iconst 0, 1) := by decide +kernel
theorem dX2_guardedOperation_88 : decode cX2_guardedOperation 88 = .ok (.invokevirtual 106, 3) := by decide +kernel
theorem dX2_guardedOperation_91 : decode cX2_guardedOperation 91 = .ok (.ireturn, 1) := by decide +kernel
theorem dX2_guardedWrite_0 : decode cX2_guardedWrite 0 = .ok (.aload_n 0, 1) := by decide +kernel
theorem dX2_guardedWrite_1 : decode cX2_guardedWrite 1 = .ok (.getfield 12, 3) := by decide +kernel
theorem dX2_guardedWrite_4 : decode cX2_guardedWrite 4 = .ok (.bipush 14, 2) := by decide +kernel
theorem dX2_guardedWrite_6 : decode cX2_guardedWrite 6 = .ok (.iload_n 1, 1) := by decide +kernel
theorem dX2_guardedWrite_7 : decode cX2_guardedWrite 7 = .ok (.iconst 0, 1) := by decide +kernel
theorem dX2_guardedWrite_8 : decode cX2_guardedWrite 8 = .ok (.iconst 0, 1) := by decide +kernel
theorem dX2_guardedWrite_9 : decode cX2_guardedWrite 9 = .ok (.invokevirtual 106, 3) := by decide +kernel
theorem dX2_guardedWrite_12 : decode cX2_guardedWrite 12 = .ok (.istore_n 3, 1) := by decide +kernel
theorem dX2_guardedWrite_13 : decode cX2_guardedWrite 13 = .ok (.aload_n 0, 1) := by decide +kernel
theorem dX2_guardedWrite_14 : decode cX2_guardedWrite 14 = .ok (.getfield 12, 3) := by decide +kernel
theorem dX2_guardedWrite_17 : decode cX2_guardedWrite 17 = .ok (.bipush 13, 2) := by decide +kernel
theorem dX2_guardedWrite_19 : decode cX2_guardedWrite 19 = .ok (.aload_n 0, 1) := by decide +kernel
theorem dX2_guardedWrite_20 : decode cX2_guardedWrite 20 = .ok (.getfield 34, 3) := by decide +kernel
theorem dX2_guardedWrite_23 : decode cX2_guardedWrite 23 = .ok (.iload_n 2, 1) := by decide +kernel
theorem dX2_guardedWrite_24 : decode cX2_guardedWrite 24 = .ok (.iload_n 3, 1) := by decide +kernel
theorem dX2_guardedWrite_25 : decode cX2_guardedWrite 25 = .ok (.invokevirtual 106, 3) := by decide +kernel
theorem dX2_guardedWrite_28 : decode cX2_guardedWrite 28 = .ok (.istore 4, 2) := by decide +kernel
theorem dX2_guardedWrite_30 : decode cX2_guardedWrite 30 = .ok (.aload_n 0, 1) := by decide +kernel
theorem dX2_guardedWrite_31 : decode cX2_guardedWrite 31 = .ok (.getfield 12, 3) := by decide +kernel
theorem dX2_guardedWrite_34 : decode cX2_guardedWrite 34 = .ok (.bipush 15, 2) := by decide +kernel
theorem dX2_guardedWrite_36 : decode cX2_guardedWrite 36 = .ok (.iload_n 1, 1) := by decide +kernel
theorem dX2_guardedWrite_37 : decode cX2_guardedWrite 37 = .ok (.iload 4, 2) := by decide +kernel
theorem dX2_guardedWrite_39 : decode cX2_guardedWrite 39 = .ok (.iconst 0, 1) := by decide +kernel
theorem dX2_guardedWrite_40 : decode cX2_guardedWrite 40 = .ok (.iconst 0, 1) := by decide +kernel
theorem dX2_guardedWrite_41 : decode cX2_guardedWrite 41 = .ok (.invokevirtual 119, 3) := by decide +kernel
theorem dX2_guardedWrite_44 : decode cX2_guardedWrite 44 = .ok (.pop, 1) := by decide +kernel
theorem dX2_guardedWrite_45 : decode cX2_guardedWrite 45 = .ok (.return_, 1) := by decide +kernel
theorem dX2_isSurelyWord_0 : decode cX2_isSurelyWord 0 = .ok (.aload_n 0, 1) := by decide +kernel
theorem dX2_isSurelyWord_1 : decode cX2_isSurelyWord 1 = .ok (.getfield 96, 3) := by decide +kernel
theorem dX2_isSurelyWord_4 : decode cX2_isSurelyWord 4 = .ok (.iload_n 1, 1) := by decide +kernel
theorem dX2_isSurelyWord_5 : decode cX2_isSurelyWord 5 = .ok (.baload, 1) := by decide +kernel
theorem dX2_isSurelyWord_6 : decode cX2_isSurelyWord 6 = .ok (.ifCond .ne 19, 3) := by decide +kernel
theorem dX2_isSurelyWord_9 : decode cX2_isSurelyWord 9 = .ok (.aload_n 0, 1) := by decide +kernel
theorem dX2_isSurelyWord_10 : decode cX2_isSurelyWord 10 = .ok (.getfield 99, 3) := by decide +kernel
theorem dX2_isSurelyWord_13 : decode cX2_isSurelyWord 13 = .ok (.iload_n 1, 1) := by decide +kernel
theorem dX2_isSurelyWord_14 : decode cX2_isSurelyWord 14 = .ok (.iaload, 1) := by decide +kernel
theorem dX2_isSurelyWord_15 : decode cX2_isSurelyWord 15 = .ok (.invokestatic 152, 3) := by decide +kernel
theorem dX2_isSurelyWord_18 : decode cX2_isSurelyWord 18 = .ok (.ifCond .eq 7, 3) := by decide +kernel
theorem dX2_isSurelyWord_21 : decode cX2_isSurelyWord 21 = .ok (.iconst 1, 1) := by decide +kernel
theorem dX2_isSurelyWord_22 : decode cX2_isSurelyWord 22 = .ok (.goto 4, 3) := by decide +kernel
theorem dX2_isSurelyWord_25 : decode cX2_isSurelyWord 25 = .ok (.iconst 0, 1) := by decide +kernel
theorem dX2_isSurelyWord_26 : decode cX2_isSurelyWord 26 = .ok (.ireturn, 1) := by decide +kernel
theorem dX2_harmless_0 : decode cX2_harmless 0 = .ok (.iload_n 2, 1) := by decide +kernel
theorem dX2_harmless_1 : decode cX2_harmless 1 = .ok (.ifCond .eq 5, 3) := by decide +kernel
theorem dX2_harmless_4 : decode cX2_harmless 4 = .ok (.iload_n 1, 1) := by decide +kernel
theorem dX2_harmless_5 : decode cX2_harmless 5 = .ok (.ireturn, 1) := by decide +kernel
theorem dX2_harmless_6 : decode cX2_harmless 6 = .ok (.aload_n 0, 1) := by decide +kernel
theorem dX2_harmless_7 : decode cX2_harmless 7 = .ok (.iload_n 3, 1) := by decide +kernel
theorem dX2_harmless_8 : decode cX2_harmless 8 = .ok (.invokevirtual 102, 3) := by decide +kernel
theorem dX2_harmless_11 : decode cX2_harmless 11 = .ok (.istore 4, 2) := by decide +kernel
theorem dX2_harmless_13 : decode cX2_harmless 13 = .ok (.aload_n 0, 1) := by decide +kernel
theorem dX2_harmless_14 : decode cX2_harmless 14 = .ok (.getfield 12, 3) := by decide +kernel
theorem dX2_harmless_17 : decode cX2_harmless 17 = .ok (.bipush 13, 2) := by decide +kernel
theorem dX2_harmless_19 : decode cX2_harmless 19 = .ok (.aload_n 0, 1) := by decide +kernel
theorem dX2_harmless_20 : decode cX2_harmless 20 = .ok (.getfield 34, 3) := by decide +kernel
theorem dX2_harmless_23 : decode cX2_harmless 23 = .ok (.iload_n 1, 1) := by decide +kernel
theorem dX2_harmless_24 : decode cX2_harmless 24 = .ok (.iload 4, 2) := by decide +kernel
theorem dX2_harmless_26 : decode cX2_harmless 26 = .ok (.invokevirtual 106, 3) := by decide +kernel
theorem dX2_harmless_29 : decode cX2_harmless 29 = .ok (.ireturn, 1) := by decide +kernel
theorem dX2_convert_0 : decode cX2_convert 0 = .ok (.iload_n 3, 1) := by decide +kernel
theorem dX2_convert_1 : decode cX2_convert 1 = .ok (.bipush 6, 2) := by decide +kernel
theorem dX2_convert_3 : decode cX2_convert 3 = .ok (.if_icmp .lt 4, 3) := by decide +kernel
theorem dX2_convert_6 : decode cX2_convert 6 = .ok (.return_, 1) := by decide +kernel
theorem dX2_convert_7 : decode cX2_convert 7 = .ok (.aload_n 0, 1) := by decide +kernel
theorem dX2_convert_8 : decode cX2_convert 8 = .ok (.getfield 34, 3) := by decide +kernel
theorem dX2_convert_11 : decode cX2_convert 11 = .ok (.istore 4, 2) := by decide +kernel
theorem dX2_convert_13 : decode cX2_convert 13 = .ok (.aload_n 0, 1) := by decide +kernel
theorem dX2_convert_14 : decode cX2_convert 14 = .ok (.aload_n 1, 1) := by decide +kernel
theorem dX2_convert_15 : decode cX2_convert 15 = .ok (.iload_n 2, 1) := by decide +kernel
theorem dX2_convert_16 : decode cX2_convert 16 = .ok (.invokevirtual 123, 3) := by decide +kernel
theorem dX2_convert_19 : decode cX2_convert 19 = .ok (.istore 5, 2) := by decide +kernel
theorem dX2_convert_21 : decode cX2_convert 21 = .ok (.aload_n 0, 1) := by decide +kernel
theorem dX2_convert_22 : decode cX2_convert 22 = .ok (.getfield 22, 3) := by decide +kernel
theorem dX2_convert_25 : decode cX2_convert 25 = .ok (.iconst 0, 1) := by decide +kernel
theorem dX2_convert_26 : decode cX2_convert 26 = .ok (.aload_n 0, 1) := by decide +kernel
theorem dX2_convert_27 : decode cX2_convert 27 = .ok (.getfield 28, 3) := by decide +kernel
theorem dX2_convert_30 : decode cX2_convert 30 = .ok (.iload_n 3, 1) := by decide +kernel
theorem dX2_convert_31 : decode cX2_convert 31 = .ok (.aaload, 1) := by decide +kernel
theorem dX2_convert_32 : decode cX2_convert 32 = .ok (.iconst 0, 1) := by decide +kernel
theorem dX2_convert_33 : decode cX2_convert 33 = .ok (.bipush 16, 2) := by decide +kernel
theorem dX2_convert_35 : decode cX2_convert 35 = .ok (.invokestatic 155, 3) := by decide +kernel
theorem dX2_convert_38 : decode cX2_convert 38 = .ok (.iload_n 2, 1) := by decide +kernel
theorem dX2_convert_39 : decode cX2_convert 39 = .ok (.iconst 1, 1) := by decide +kernel
theorem dX2_convert_40 : decode cX2_convert 40 = .ok (.iadd, 1) := by decide +kernel
theorem dX2_convert_41 : decode cX2_convert 41 = .ok (.aload_n 1, 1) := by decide +kernel
theorem dX2_convert_42 : decode cX2_convert 42 = .ok (.getfield 126, 3) := by decide +kernel
theorem dX2_convert_45 : decode cX2_convert 45 = .ok (.iload_n 2, 1) := by decide +kernel
theorem dX2_convert_46 : decode cX2_convert 46 = .ok (.iaload, 1) := by decide +kernel
theorem dX2_convert_47 : decode cX2_convert 47 = .ok (.if_icmp .ge 32, 3) := by decide +kernel
theorem dX2_convert_50 : decode cX2_convert 50 = .ok (.aload_n 0, 1) := by decide +kernel
theorem dX2_convert_51 : decode cX2_convert 51 = .ok (.aload_n 0, 1) := by decide +kernel
theorem dX2_convert_52 : decode cX2_convert 52 = .ok (.iload 4, 2) := by decide +kernel
theorem dX2_convert_54 : decode cX2_convert 54 = .ok (.iload 5, 2) := by decide +kernel
theorem dX2_convert_56 : decode cX2_convert 56 = .ok (.invokevirtual 161, 3) := by decide +kernel
theorem dX2_convert_59 : decode cX2_convert 59 = .ok (.putfield 34, 3) := by decide +kernel
theorem dX2_convert_62 : decode cX2_convert 62 = .ok (.aload_n 0, 1) := by decide +kernel
theorem dX2_convert_63 : decode cX2_convert 63 = .ok (.aload_n 1, 1) := by decide +kernel
theorem dX2_convert_64 : decode cX2_convert 64 = .ok (.iload_n 2, 1) := by decide +kernel
theorem dX2_convert_65 : decode cX2_convert 65 = .ok (.iconst 1, 1) := by decide +kernel
theorem dX2_convert_66 : decode cX2_convert 66 = .ok (.iadd, 1) := by decide +kernel
theorem dX2_convert_67 : decode cX2_convert 67 = .ok (.aload_n 1, 1) := by decide +kernel
theorem dX2_convert_68 : decode cX2_convert 68 = .ok (.getfield 126, 3) := by decide +kernel
theorem dX2_convert_71 : decode cX2_convert 71 = .ok (.iload_n 2, 1) := by decide +kernel
theorem dX2_convert_72 : decode cX2_convert 72 = .ok (.iaload, 1) := by decide +kernel
theorem dX2_convert_73 : decode cX2_convert 73 = .ok (.iload_n 3, 1) := by decide +kernel
theorem dX2_convert_74 : decode cX2_convert 74 = .ok (.iconst 1, 1) := by decide +kernel
theorem dX2_convert_75 : decode cX2_convert 75 = .ok (.iadd, 1) := by decide +kernel
theorem dX2_convert_76 : decode cX2_convert 76 = .ok (.invokevirtual 54, 3) := by decide +kernel
theorem dX2_convert_79 : decode cX2_convert 79 = .ok (.aload_n 0, 1) := by decide +kernel
theorem dX2_convert_80 : decode cX2_convert 80 = .ok (.getfield 22, 3) := by decide +kernel
theorem dX2_convert_83 : decode cX2_convert 83 = .ok (.iconst 0, 1) := by decide +kernel
theorem dX2_convert_84 : decode cX2_convert 84 = .ok (.aload_n 0, 1) := by decide +kernel
theorem dX2_convert_85 : decode cX2_convert 85 = .ok (.getfield 31, 3) := by decide +kernel
theorem dX2_convert_88 : decode cX2_convert 88 = .ok (.iload_n 3, 1) := by decide +kernel
theorem dX2_convert_89 : decode cX2_convert 89 = .ok (.aaload, 1) := by decide +kernel
theorem dX2_convert_90 : decode cX2_convert 90 = .ok (.iconst 0, 1) := by decide +kernel
theorem dX2_convert_91 : decode cX2_convert 91 = .ok (.bipush 16, 2) := by decide +kernel
theorem dX2_convert_93 : decode cX2_convert 93 = .ok (.invokestatic 155, 3) := by decide +kernel
theorem dX2_convert_96 : decode cX2_convert 96 = .ok (.aload_n 0, 1) := by decide +kernel
theorem dX2_convert_97 : decode cX2_convert 97 = .ok (.getfield 28, 3) := by decide +kernel
theorem dX2_convert_100 : decode cX2_convert 100 = .ok (.iload_n 3, 1) := by decide +kernel
theorem dX2_convert_101 : decode cX2_convert 101 = .ok (.aaload, 1) := by decide +kernel
theorem dX2_convert_102 : decode cX2_convert 102 = .ok (.iconst 0, 1) := by decide +kernel
theorem dX2_convert_103 : decode cX2_convert 103 = .ok (.aload_n 0, 1) := by decide +kernel
theorem dX2_convert_104 : decode cX2_convert 104 = .ok (.getfield 22, 3) := by decide +kernel
theorem dX2_convert_107 : decode cX2_convert 107 = .ok (.iconst 0, 1) := by decide +kernel
theorem dX2_convert_108 : decode cX2_convert 108 = .ok (.bipush 16, 2) := by decide +kernel
theorem dX2_convert_110 : decode cX2_convert 110 = .ok (.invokestatic 155, 3) := by decide +kernel
theorem dX2_convert_113 : decode cX2_convert 113 = .ok (.aload_n 0, 1) := by decide +kernel
theorem dX2_convert_114 : decode cX2_convert 114 = .ok (.getfield 12, 3) := by decide +kernel
theorem dX2_convert_117 : decode cX2_convert 117 = .ok (.iload_n 2, 1) := by decide +kernel
theorem dX2_convert_118 : decode cX2_convert 118 = .ok (.putfield 83, 3) := by decide +kernel
theorem dX2_convert_121 : decode cX2_convert 121 = .ok (.aload_n 1, 1) := by decide +kernel
theorem dX2_convert_122 : decode cX2_convert 122 = .ok (.getfield 126, 3) := by decide +kernel
theorem dX2_convert_125 : decode cX2_convert 125 = .ok (.iload_n 2, 1) := by decide +kernel
theorem dX2_convert_126 : decode cX2_convert 126 = .ok (.iaload, 1) := by decide +kernel
theorem dX2_convert_127 : decode cX2_convert 127 = .ok (.aload_n 1, 1) := by decide +kernel
theorem dX2_convert_128 : decode cX2_convert 128 = .ok (.getfield 61, 3) := by decide +kernel
theorem dX2_convert_131 : decode cX2_convert 131 = .ok (.iload_n 2, 1) := by decide +kernel
theorem dX2_convert_132 : decode cX2_convert 132 = .ok (.iaload, 1) := by decide +kernel
theorem dX2_convert_133 : decode cX2_convert 133 = .ok (.if_icmp .ge 54, 3) := by decide +kernel
theorem dX2_convert_136 : decode cX2_convert 136 = .ok (.aload_n 0, 1) := by decide +kernel
theorem dX2_convert_137 : decode cX2_convert 137 = .ok (.iconst 0, 1) := by decide +kernel
theorem dX2_convert_138 : decode cX2_convert 138 = .ok (.invokevirtual 102, 3) := by decide +kernel
theorem dX2_convert_141 : decode cX2_convert 141 = .ok (.istore 6, 2) := by decide +kernel
theorem dX2_convert_143 : decode cX2_convert 143 = .ok (.aload_n 0, 1) := by decide +kernel
theorem dX2_convert_144 : decode cX2_convert 144 = .ok (.aload_n 0, 1) := by decide +kernel
theorem dX2_convert_145 : decode cX2_convert 145 = .ok (.iload 4, 2) := by decide +kernel
theorem dX2_convert_147 : decode cX2_convert 147 = .ok (.aload_n 0, 1) := by decide +kernel
theorem dX2_convert_148 : decode cX2_convert 148 = .ok (.getfield 12, 3) := by decide +kernel
theorem dX2_convert_151 : decode cX2_convert 151 = .ok (.bipush 10, 2) := by decide +kernel
theorem dX2_convert_153 : decode cX2_convert 153 = .ok (.iload 5, 2) := by decide +kernel
theorem dX2_convert_155 : decode cX2_convert 155 = .ok (.iload 6, 2) := by decide +kernel
theorem dX2_convert_157 : decode cX2_convert 157 = .ok (.iconst 0, 1) := by decide +kernel
theorem dX2_convert_158 : decode cX2_convert 158 = .ok (.invokevirtual 106, 3) := by decide +kernel
theorem dX2_convert_161 : decode cX2_convert 161 = .ok (.invokevirtual 161, 3) := by decide +kernel
theorem dX2_convert_164 : decode cX2_convert 164 = .ok (.putfield 34, 3) := by decide +kernel
theorem dX2_convert_167 : decode cX2_convert 167 = .ok (.aload_n 0, 1) := by decide +kernel
theorem dX2_convert_168 : decode cX2_convert 168 = .ok (.aload_n 1, 1) := by decide +kernel
theorem dX2_convert_169 : decode cX2_convert 169 = .ok (.aload_n 1, 1) := by decide +kernel
theorem dX2_convert_170 : decode cX2_convert 170 = .ok (.getfield 126, 3) := by decide +kernel
theorem dX2_convert_173 : decode cX2_convert 173 = .ok (.iload_n 2, 1) := by decide +kernel
theorem dX2_convert_174 : decode cX2_convert 174 = .ok (.iaload, 1) := by decide +kernel
theorem dX2_convert_175 : decode cX2_convert 175 = .ok (.aload_n 1, 1) := by decide +kernel
theorem dX2_convert_176 : decode cX2_convert 176 = .ok (.getfield 61, 3) := by decide +kernel
theorem dX2_convert_179 : decode cX2_convert 179 = .ok (.iload_n 2, 1) := by decide +kernel
theorem dX2_convert_180 : decode cX2_convert 180 = .ok (.iaload, 1) := by decide +kernel
theorem dX2_convert_181 : decode cX2_convert 181 = .ok (.iload_n 3, 1) := by decide +kernel
theorem dX2_convert_182 : decode cX2_convert 182 = .ok (.iconst 1, 1) := by decide +kernel
theorem dX2_convert_183 : decode cX2_convert 183 = .ok (.iadd, 1) := by decide +kernel
theorem dX2_convert_184 : decode cX2_convert 184 = .ok (.invokevirtual 54, 3) := by decide +kernel
theorem dX2_convert_187 : decode cX2_convert 187 = .ok (.aload_n 0, 1) := by decide +kernel
theorem dX2_convert_188 : decode cX2_convert 188 = .ok (.getfield 12, 3) := by decide +kernel
theorem dX2_convert_191 : decode cX2_convert 191 = .ok (.iload_n 2, 1) := by decide +kernel
theorem dX2_convert_192 : decode cX2_convert 192 = .ok (.putfield 83, 3) := by decide +kernel
theorem dX2_convert_195 : decode cX2_convert 195 = .ok (.aload_n 0, 1) := by decide +kernel
theorem dX2_convert_196 : decode cX2_convert 196 = .ok (.iload 4, 2) := by decide +kernel
theorem dX2_convert_198 : decode cX2_convert 198 = .ok (.putfield 34, 3) := by decide +kernel
theorem dX2_convert_201 : decode cX2_convert 201 = .ok (.aload_n 0, 1) := by decide +kernel
theorem dX2_convert_202 : decode cX2_convert 202 = .ok (.iload 5, 2) := by decide +kernel
theorem dX2_convert_204 : decode cX2_convert 204 = .ok (.iload_n 3, 1) := by decide +kernel
theorem dX2_convert_205 : decode cX2_convert 205 = .ok (.invokevirtual 164, 3) := by decide +kernel
theorem dX2_convert_208 : decode cX2_convert 208 = .ok (.iload 4, 2) := by decide +kernel
theorem dX2_convert_210 : decode cX2_convert 210 = .ok (.iconst (-1), 1) := by decide +kernel
theorem dX2_convert_211 : decode cX2_convert 211 = .ok (.if_icmp .ne 7, 3) := by decide +kernel
theorem dX2_convert_214 : decode cX2_convert 214 = .ok (.aload_n 0, 1) := by decide +kernel
theorem dX2_convert_215 : decode cX2_convert 215 = .ok (.invokevirtual 167, 3) := by decide +kernel
theorem dX2_convert_218 : decode cX2_convert 218 = .ok (.return_, 1) := by decide +kernel
theorem dX2_guardWithin_0 : decode cX2_guardWithin 0 = .ok (.iload_n 1, 1) := by decide +kernel
theorem dX2_guardWithin_1 : decode cX2_guardWithin 1 = .ok (.iconst (-1), 1) := by decide +kernel
theorem dX2_guardWithin_2 : decode cX2_guardWithin 2 = .ok (.if_icmp .ne 7, 3) := by decide +kernel
theorem dX2_guardWithin_5 : decode cX2_guardWithin 5 = .ok (.iload_n 2, 1) := by decide +kernel
theorem dX2_guardWithin_6 : decode cX2_guardWithin 6 = .ok (.goto 15, 3) := by decide +kernel
theorem dX2_guardWithin_9 : decode cX2_guardWithin 9 = .ok (.aload_n 0, 1) := by decide +kernel
theorem dX2_guardWithin_10 : decode cX2_guardWithin 10 = .ok (.getfield 12, 3) := by decide +kernel
theorem dX2_guardWithin_13 : decode cX2_guardWithin 13 = .ok (.bipush 7, 2) := by decide +kernel
theorem dX2_guardWithin_15 : decode cX2_guardWithin 15 = .ok (.iload_n 1, 1) := by decide +kernel
theorem dX2_guardWithin_16 : decode cX2_guardWithin 16 = .ok (.iload_n 2, 1) := by decide +kernel
theorem dX2_guardWithin_17 : decode cX2_guardWithin 17 = .ok (.iconst 0, 1) := by decide +kernel
theorem dX2_guardWithin_18 : decode cX2_guardWithin 18 = .ok (.invokevirtual 106, 3) := by decide +kernel
theorem dX2_guardWithin_21 : decode cX2_guardWithin 21 = .ok (.ireturn, 1) := by decide +kernel
theorem dX2_chooseSides_0 : decode cX2_chooseSides 0 = .ok (.iconst 0, 1) := by decide +kernel
theorem dX2_chooseSides_1 : decode cX2_chooseSides 1 = .ok (.istore_n 3, 1) := by decide +kernel
theorem dX2_chooseSides_2 : decode cX2_chooseSides 2 = .ok (.iload_n 3, 1) := by decide +kernel
theorem dX2_chooseSides_3 : decode cX2_chooseSides 3 = .ok (.bipush 16, 2) := by decide +kernel
theorem dX2_chooseSides_5 : decode cX2_chooseSides 5 = .ok (.if_icmp .ge 73, 3) := by decide +kernel
theorem dX2_chooseSides_8 : decode cX2_chooseSides 8 = .ok (.aload_n 0, 1) := by decide +kernel
theorem dX2_chooseSides_9 : decode cX2_chooseSides 9 = .ok (.getfield 31, 3) := by decide +kernel
theorem dX2_chooseSides_12 : decode cX2_chooseSides 12 = .ok (.iload_n 2, 1) := by decide +kernel
theorem dX2_chooseSides_13 : decode cX2_chooseSides 13 = .ok (.aaload, 1) := by decide +kernel
theorem dX2_chooseSides_14 : decode cX2_chooseSides 14 = .ok (.iload_n 3, 1) := by decide +kernel
theorem dX2_chooseSides_15 : decode cX2_chooseSides 15 = .ok (.iaload, 1) := by decide +kernel
theorem dX2_chooseSides_16 : decode cX2_chooseSides 16 = .ok (.istore 4, 2) := by decide +kernel
theorem dX2_chooseSides_18 : decode cX2_chooseSides 18 = .ok (.aload_n 0, 1) := by decide +kernel
theorem dX2_chooseSides_19 : decode cX2_chooseSides 19 = .ok (.getfield 22, 3) := by decide +kernel
theorem dX2_chooseSides_22 : decode cX2_chooseSides 22 = .ok (.iload_n 3, 1) := by decide +kernel
theorem dX2_chooseSides_23 : decode cX2_chooseSides 23 = .ok (.iaload, 1) := by decide +kernel
theorem dX2_chooseSides_24 : decode cX2_chooseSides 24 = .ok (.istore 5, 2) := by decide +kernel
end
section
theorem dX2_chooseSides_26 : decode cX2_chooseSides 26 = .ok (.iload 4, 2) := by decide +kernel
theorem dX2_chooseSides_28 : decode cX2_chooseSides 28 = .ok (.aload_n 0, 1) := by decide +kernel
theorem dX2_chooseSides_29 : decode cX2_chooseSides 29 = .ok (.getfield 28, 3) := by decide +kernel
theorem dX2_chooseSides_32 : decode cX2_chooseSides 32 = .ok (.iload_n 2, 1) := by decide +kernel
theorem dX2_chooseSides_33 : decode cX2_chooseSides 33 = .ok (.aaload, 1) := by decide +kernel
theorem dX2_chooseSides_34 : decode cX2_chooseSides 34 = .ok (.iload_n 3, 1) := by decide +kernel
theorem dX2_chooseSides_35 : decode cX2_chooseSides 35 = .ok (.iaload, 1) := by decide +kernel
theorem dX2_chooseSides_36 : decode cX2_chooseSides 36 = .ok (.if_icmp .ne 16, 3) := by decide +kernel
theorem dX2_chooseSides_39 : decode cX2_chooseSides 39 = .ok (.iload 5, 2) := by decide +kernel
theorem dX2_chooseSides_41 : decode cX2_chooseSides 41 = .ok (.aload_n 0, 1) := by decide +kernel
theorem dX2_chooseSides_42 : decode cX2_chooseSides 42 = .ok (.getfield 28, 3) := by decide +kernel
theorem dX2_chooseSides_45 : decode cX2_chooseSides 45 = .ok (.iload_n 2, 1) := by decide +kernel
theorem dX2_chooseSides_46 : decode cX2_chooseSides 46 = .ok (.aaload, 1) := by decide +kernel
theorem dX2_chooseSides_47 : decode cX2_chooseSides 47 = .ok (.iload_n 3, 1) := by decide +kernel
theorem dX2_chooseSides_48 : decode cX2_chooseSides 48 = .ok (.iaload, 1) := by decide +kernel
theorem dX2_chooseSides_49 : decode cX2_chooseSides 49 = .ok (.if_icmp .eq 23, 3) := by decide +kernel
theorem dX2_chooseSides_52 : decode cX2_chooseSides 52 = .ok (.aload_n 0, 1) := by decide +kernel
theorem dX2_chooseSides_53 : decode cX2_chooseSides 53 = .ok (.getfield 22, 3) := by decide +kernel
theorem dX2_chooseSides_56 : decode cX2_chooseSides 56 = .ok (.iload_n 3, 1) := by decide +kernel
theorem dX2_chooseSides_57 : decode cX2_chooseSides 57 = .ok (.aload_n 0, 1) := by decide +kernel
theorem dX2_chooseSides_58 : decode cX2_chooseSides 58 = .ok (.getfield 12, 3) := by decide +kernel
theorem dX2_chooseSides_61 : decode cX2_chooseSides 61 = .ok (.bipush 13, 2) := by decide +kernel
theorem dX2_chooseSides_63 : decode cX2_chooseSides 63 = .ok (.iload_n 1, 1) := by decide +kernel
theorem dX2_chooseSides_64 : decode cX2_chooseSides 64 = .ok (.iload 4, 2) := by decide +kernel
theorem dX2_chooseSides_66 : decode cX2_chooseSides 66 = .ok (.iload 5, 2) := by decide +kernel
theorem dX2_chooseSides_68 : decode cX2_chooseSides 68 = .ok (.invokevirtual 106, 3) := by decide +kernel
theorem dX2_chooseSides_71 : decode cX2_chooseSides 71 = .ok (.iastore, 1) := by decide +kernel
theorem dX2_chooseSides_72 : decode cX2_chooseSides 72 = .ok (.iinc 3 1, 3) := by decide +kernel
theorem dX2_chooseSides_75 : decode cX2_chooseSides 75 = .ok (.goto (-73), 3) := by decide +kernel
theorem dX2_chooseSides_78 : decode cX2_chooseSides 78 = .ok (.return_, 1) := by decide +kernel
theorem dX2_moveBack_0 : decode cX2_moveBack 0 = .ok (.iconst 0, 1) := by decide +kernel
theorem dX2_moveBack_1 : decode cX2_moveBack 1 = .ok (.istore_n 1, 1) := by decide +kernel
theorem dX2_moveBack_2 : decode cX2_moveBack 2 = .ok (.iload_n 1, 1) := by decide +kernel
theorem dX2_moveBack_3 : decode cX2_moveBack 3 = .ok (.bipush 16, 2) := by decide +kernel
theorem dX2_moveBack_5 : decode cX2_moveBack 5 = .ok (.if_icmp .ge 44, 3) := by decide +kernel
theorem dX2_moveBack_8 : decode cX2_moveBack 8 = .ok (.aload_n 0, 1) := by decide +kernel
theorem dX2_moveBack_9 : decode cX2_moveBack 9 = .ok (.getfield 22, 3) := by decide +kernel
theorem dX2_moveBack_12 : decode cX2_moveBack 12 = .ok (.iload_n 1, 1) := by decide +kernel
theorem dX2_moveBack_13 : decode cX2_moveBack 13 = .ok (.iaload, 1) := by decide +kernel
theorem dX2_moveBack_14 : decode cX2_moveBack 14 = .ok (.iload_n 1, 1) := by decide +kernel
theorem dX2_moveBack_15 : decode cX2_moveBack 15 = .ok (.if_icmp .eq 28, 3) := by decide +kernel
theorem dX2_moveBack_18 : decode cX2_moveBack 18 = .ok (.aload_n 0, 1) := by decide +kernel
theorem dX2_moveBack_19 : decode cX2_moveBack 19 = .ok (.getfield 12, 3) := by decide +kernel
theorem dX2_moveBack_22 : decode cX2_moveBack 22 = .ok (.iconst 1, 1) := by decide +kernel
theorem dX2_moveBack_23 : decode cX2_moveBack 23 = .ok (.iload_n 1, 1) := by decide +kernel
theorem dX2_moveBack_24 : decode cX2_moveBack 24 = .ok (.aload_n 0, 1) := by decide +kernel
theorem dX2_moveBack_25 : decode cX2_moveBack 25 = .ok (.getfield 22, 3) := by decide +kernel
theorem dX2_moveBack_28 : decode cX2_moveBack 28 = .ok (.iload_n 1, 1) := by decide +kernel
theorem dX2_moveBack_29 : decode cX2_moveBack 29 = .ok (.iaload, 1) := by decide +kernel
theorem dX2_moveBack_30 : decode cX2_moveBack 30 = .ok (.iconst 0, 1) := by decide +kernel
theorem dX2_moveBack_31 : decode cX2_moveBack 31 = .ok (.iconst 0, 1) := by decide +kernel
theorem dX2_moveBack_32 : decode cX2_moveBack 32 = .ok (.invokevirtual 119, 3) := by decide +kernel
theorem dX2_moveBack_35 : decode cX2_moveBack 35 = .ok (.pop, 1) := by decide +kernel
theorem dX2_moveBack_36 : decode cX2_moveBack 36 = .ok (.aload_n 0, 1) := by decide +kernel
theorem dX2_moveBack_37 : decode cX2_moveBack 37 = .ok (.getfield 22, 3) := by decide +kernel
theorem dX2_moveBack_40 : decode cX2_moveBack 40 = .ok (.iload_n 1, 1) := by decide +kernel
theorem dX2_moveBack_41 : decode cX2_moveBack 41 = .ok (.iload_n 1, 1) := by decide +kernel
theorem dX2_moveBack_42 : decode cX2_moveBack 42 = .ok (.iastore, 1) := by decide +kernel
theorem dX2_moveBack_43 : decode cX2_moveBack 43 = .ok (.iinc 1 1, 3) := by decide +kernel
theorem dX2_moveBack_46 : decode cX2_moveBack 46 = .ok (.goto (-44), 3) := by decide +kernel
theorem dX2_moveBack_49 : decode cX2_moveBack 49 = .ok (.return_, 1) := by decide +kernel
theorem dX3_init_0 : decode cX3_init 0 = .ok (.aload_n 0, 1) := by decide +kernel
theorem dX3_init_1 : decode cX3_init 1 = .ok (.invokespecial 3, 3) := by decide +kernel
theorem dX3_init_4 : decode cX3_init 4 = .ok (.aload_n 0, 1) := by decide +kernel
theorem dX3_init_5 : decode cX3_init 5 = .ok (.bipush 60, 2) := by decide +kernel
theorem dX3_init_7 : decode cX3_init 7 = .ok (.newarray .int, 2) := by decide +kernel
theorem dX3_init_9 : decode cX3_init 9 = .ok (.putfield 9, 3) := by decide +kernel
theorem dX3_init_12 : decode cX3_init 12 = .ok (.aload_n 0, 1) := by decide +kernel
theorem dX3_init_13 : decode cX3_init 13 = .ok (.bipush 60, 2) := by decide +kernel
theorem dX3_init_15 : decode cX3_init 15 = .ok (.newarray .int, 2) := by decide +kernel
theorem dX3_init_17 : decode cX3_init 17 = .ok (.putfield 15, 3) := by decide +kernel
theorem dX3_init_20 : decode cX3_init 20 = .ok (.aload_n 0, 1) := by decide +kernel
theorem dX3_init_21 : decode cX3_init 21 = .ok (.bipush 60, 2) := by decide +kernel
theorem dX3_init_23 : decode cX3_init 23 = .ok (.newarray .int, 2) := by decide +kernel
theorem dX3_init_25 : decode cX3_init 25 = .ok (.putfield 18, 3) := by decide +kernel
theorem dX3_init_28 : decode cX3_init 28 = .ok (.aload_n 0, 1) := by decide +kernel
theorem dX3_init_29 : decode cX3_init 29 = .ok (.bipush 60, 2) := by decide +kernel
theorem dX3_init_31 : decode cX3_init 31 = .ok (.newarray .int, 2) := by decide +kernel
theorem dX3_init_33 : decode cX3_init 33 = .ok (.putfield 21, 3) := by decide +kernel
theorem dX3_init_36 : decode cX3_init 36 = .ok (.aload_n 0, 1) := by decide +kernel
theorem dX3_init_37 : decode cX3_init 37 = .ok (.bipush 60, 2) := by decide +kernel
theorem dX3_init_39 : decode cX3_init 39 = .ok (.newarray .int, 2) := by decide +kernel
theorem dX3_init_41 : decode cX3_init 41 = .ok (.putfield 24, 3) := by decide +kernel
theorem dX3_init_44 : decode cX3_init 44 = .ok (.aload_n 0, 1) := by decide +kernel
theorem dX3_init_45 : decode cX3_init 45 = .ok (.bipush 60, 2) := by decide +kernel
theorem dX3_init_47 : decode cX3_init 47 = .ok (.newarray .int, 2) := by decide +kernel
theorem dX3_init_49 : decode cX3_init 49 = .ok (.putfield 27, 3) := by decide +kernel
theorem dX3_init_52 : decode cX3_init 52 = .ok (.aload_n 0, 1) := by decide +kernel
theorem dX3_init_53 : decode cX3_init 53 = .ok (.bipush 120, 2) := by decide +kernel
theorem dX3_init_55 : decode cX3_init 55 = .ok (.newarray .boolean, 2) := by decide +kernel
theorem dX3_init_57 : decode cX3_init 57 = .ok (.putfield 30, 3) := by decide +kernel
theorem dX3_init_60 : decode cX3_init 60 = .ok (.aload_n 0, 1) := by decide +kernel
theorem dX3_init_61 : decode cX3_init 61 = .ok (.bipush 120, 2) := by decide +kernel
theorem dX3_init_63 : decode cX3_init 63 = .ok (.newarray .int, 2) := by decide +kernel
theorem dX3_init_65 : decode cX3_init 65 = .ok (.putfield 34, 3) := by decide +kernel
theorem dX3_init_68 : decode cX3_init 68 = .ok (.aload_n 0, 1) := by decide +kernel
theorem dX3_init_69 : decode cX3_init 69 = .ok (.iconst 0, 1) := by decide +kernel
theorem dX3_init_70 : decode cX3_init 70 = .ok (.putfield 37, 3) := by decide +kernel
theorem dX3_init_73 : decode cX3_init 73 = .ok (.return_, 1) := by decide +kernel
theorem dX3_begin_0 : decode cX3_begin 0 = .ok (.aload_n 0, 1) := by decide +kernel
theorem dX3_begin_1 : decode cX3_begin 1 = .ok (.getfield 37, 3) := by decide +kernel
theorem dX3_begin_4 : decode cX3_begin 4 = .ok (.istore_n 2, 1) := by decide +kernel
theorem dX3_begin_5 : decode cX3_begin 5 = .ok (.aload_n 0, 1) := by decide +kernel
theorem dX3_begin_6 : decode cX3_begin 6 = .ok (.getfield 9, 3) := by decide +kernel
theorem dX3_begin_9 : decode cX3_begin 9 = .ok (.iload_n 2, 1) := by decide +kernel
theorem dX3_begin_10 : decode cX3_begin 10 = .ok (.iconst 0, 1) := by decide +kernel
theorem dX3_begin_11 : decode cX3_begin 11 = .ok (.iastore, 1) := by decide +kernel
theorem dX3_begin_12 : decode cX3_begin 12 = .ok (.aload_n 0, 1) := by decide +kernel
theorem dX3_begin_13 : decode cX3_begin 13 = .ok (.getfield 15, 3) := by decide +kernel
theorem dX3_begin_16 : decode cX3_begin 16 = .ok (.iload_n 2, 1) := by decide +kernel
theorem dX3_begin_17 : decode cX3_begin 17 = .ok (.iload_n 1, 1) := by decide +kernel
theorem dX3_begin_18 : decode cX3_begin 18 = .ok (.iastore, 1) := by decide +kernel
theorem dX3_begin_19 : decode cX3_begin 19 = .ok (.aload_n 0, 1) := by decide +kernel
theorem dX3_begin_20 : decode cX3_begin 20 = .ok (.getfield 18, 3) := by decide +kernel
theorem dX3_begin_23 : decode cX3_begin 23 = .ok (.iload_n 2, 1) := by decide +kernel
theorem dX3_begin_24 : decode cX3_begin 24 = .ok (.iconst 0, 1) := by decide +kernel
theorem dX3_begin_25 : decode cX3_begin 25 = .ok (.iastore, 1) := by decide +kernel
theorem dX3_begin_26 : decode cX3_begin 26 = .ok (.aload_n 0, 1) := by decide +kernel
theorem dX3_begin_27 : decode cX3_begin 27 = .ok (.getfield 21, 3) := by decide +kernel
theorem dX3_begin_30 : decode cX3_begin 30 = .ok (.iload_n 2, 1) := by decide +kernel
theorem dX3_begin_31 : decode cX3_begin 31 = .ok (.iconst 0, 1) := by decide +kernel
theorem dX3_begin_32 : decode cX3_begin 32 = .ok (.iastore, 1) := by decide +kernel
theorem dX3_begin_33 : decode cX3_begin 33 = .ok (.aload_n 0, 1) := by decide +kernel
theorem dX3_begin_34 : decode cX3_begin 34 = .ok (.getfield 24, 3) := by decide +kernel
theorem dX3_begin_37 : decode cX3_begin 37 = .ok (.iload_n 2, 1) := by decide +kernel
theorem dX3_begin_38 : decode cX3_begin 38 = .ok (.iload_n 2, 1) := by decide +kernel
theorem dX3_begin_39 : decode cX3_begin 39 = .ok (.iconst 1, 1) := by decide +kernel
theorem dX3_begin_40 : decode cX3_begin 40 = .ok (.iadd, 1) := by decide +kernel
theorem dX3_begin_41 : decode cX3_begin 41 = .ok (.iastore, 1) := by decide +kernel
theorem dX3_begin_42 : decode cX3_begin 42 = .ok (.aload_n 0, 1) := by decide +kernel
theorem dX3_begin_43 : decode cX3_begin 43 = .ok (.getfield 27, 3) := by decide +kernel
theorem dX3_begin_46 : decode cX3_begin 46 = .ok (.iload_n 2, 1) := by decide +kernel
theorem dX3_begin_47 : decode cX3_begin 47 = .ok (.iload_n 2, 1) := by decide +kernel
theorem dX3_begin_48 : decode cX3_begin 48 = .ok (.iconst 1, 1) := by decide +kernel
theorem dX3_begin_49 : decode cX3_begin 49 = .ok (.iadd, 1) := by decide +kernel
theorem dX3_begin_50 : decode cX3_begin 50 = .ok (.iastore, 1) := by decide +kernel
theorem dX3_begin_51 : decode cX3_begin 51 = .ok (.aload_n 0, 1) := by decide +kernel
theorem dX3_begin_52 : decode cX3_begin 52 = .ok (.dup, 1) := by decide +kernel
theorem dX3_begin_53 : decode cX3_begin 53 = .ok (.getfield 37, 3) := by decide +kernel
theorem dX3_begin_56 : decode cX3_begin 56 = .ok (.iconst 1, 1) := by decide +kernel
theorem dX3_begin_57 : decode cX3_begin 57 = .ok (.iadd, 1) := by decide +kernel
theorem dX3_begin_58 : decode cX3_begin 58 = .ok (.putfield 37, 3) := by decide +kernel
theorem dX3_begin_61 : decode cX3_begin 61 = .ok (.iload_n 2, 1) := by decide +kernel
theorem dX3_begin_62 : decode cX3_begin 62 = .ok (.ireturn, 1) := by decide +kernel
theorem dX3_putValue_0 : decode cX3_putValue 0 = .ok (.aload_n 0, 1) := by decide +kernel
theorem dX3_putValue_1 : decode cX3_putValue 1 = .ok (.getfield 30, 3) := by decide +kernel
theorem dX3_putValue_4 : decode cX3_putValue 4 = .ok (.iload_n 1, 1) := by decide +kernel
theorem dX3_putValue_5 : decode cX3_putValue 5 = .ok (.iload_n 2, 1) := by decide +kernel
theorem dX3_putValue_6 : decode cX3_putValue 6 = .ok (.bastore, 1) := by decide +kernel
theorem dX3_putValue_7 : decode cX3_putValue 7 = .ok (.aload_n 0, 1) := by decide +kernel
theorem dX3_putValue_8 : decode cX3_putValue 8 = .ok (.getfield 34, 3) := by decide +kernel
theorem dX3_putValue_11 : decode cX3_putValue 11 = .ok (.iload_n 1, 1) := by decide +kernel
theorem dX3_putValue_12 : decode cX3_putValue 12 = .ok (.iload_n 3, 1) := by decide +kernel
theorem dX3_putValue_13 : decode cX3_putValue 13 = .ok (.iastore, 1) := by decide +kernel
theorem dX3_putValue_14 : decode cX3_putValue 14 = .ok (.return_, 1) := by decide +kernel
theorem dX4_init_0 : decode cX4_init 0 = .ok (.aload_n 0, 1) := by decide +kernel
theorem dX4_init_1 : decode cX4_init 1 = .ok (.invokespecial 3, 3) := by decide +kernel
theorem dX4_init_4 : decode cX4_init 4 = .ok (.aload_n 0, 1) := by decide +kernel
theorem dX4_init_5 : decode cX4_init 5 = .ok (.sipush 600, 3) := by decide +kernel
theorem dX4_init_8 : decode cX4_init 8 = .ok (.newarray .int, 2) := by decide +kernel
theorem dX4_init_10 : decode cX4_init 10 = .ok (.putfield 9, 3) := by decide +kernel
theorem dX4_init_13 : decode cX4_init 13 = .ok (.aload_n 0, 1) := by decide +kernel
theorem dX4_init_14 : decode cX4_init 14 = .ok (.iconst 0, 1) := by decide +kernel
theorem dX4_init_15 : decode cX4_init 15 = .ok (.putfield 15, 3) := by decide +kernel
theorem dX4_init_18 : decode cX4_init 18 = .ok (.aload_n 0, 1) := by decide +kernel
theorem dX4_init_19 : decode cX4_init 19 = .ok (.new 19, 3) := by decide +kernel
theorem dX4_init_22 : decode cX4_init 22 = .ok (.dup, 1) := by decide +kernel
theorem dX4_init_23 : decode cX4_init 23 = .ok (.invokespecial 21, 3) := by decide +kernel
theorem dX4_init_26 : decode cX4_init 26 = .ok (.putfield 22, 3) := by decide +kernel
theorem dX4_init_29 : decode cX4_init 29 = .ok (.aload_n 0, 1) := by decide +kernel
theorem dX4_init_30 : decode cX4_init 30 = .ok (.bipush 6, 2) := by decide +kernel
theorem dX4_init_32 : decode cX4_init 32 = .ok (.newarray .int, 2) := by decide +kernel
theorem dX4_init_34 : decode cX4_init 34 = .ok (.putfield 26, 3) := by decide +kernel
theorem dX4_init_37 : decode cX4_init 37 = .ok (.aload_n 0, 1) := by decide +kernel
theorem dX4_init_38 : decode cX4_init 38 = .ok (.bipush 6, 2) := by decide +kernel
theorem dX4_init_40 : decode cX4_init 40 = .ok (.newarray .boolean, 2) := by decide +kernel
theorem dX4_init_42 : decode cX4_init 42 = .ok (.putfield 29, 3) := by decide +kernel
theorem dX4_init_45 : decode cX4_init 45 = .ok (.aload_n 0, 1) := by decide +kernel
theorem dX4_init_46 : decode cX4_init 46 = .ok (.iconst 0, 1) := by decide +kernel
theorem dX4_init_47 : decode cX4_init 47 = .ok (.putfield 33, 3) := by decide +kernel
theorem dX4_init_50 : decode cX4_init 50 = .ok (.aload_n 0, 1) := by decide +kernel
theorem dX4_init_51 : decode cX4_init 51 = .ok (.iconst 0, 1) := by decide +kernel
theorem dX4_init_52 : decode cX4_init 52 = .ok (.putfield 36, 3) := by decide +kernel
theorem dX4_init_55 : decode cX4_init 55 = .ok (.aload_n 0, 1) := by decide +kernel
theorem dX4_init_56 : decode cX4_init 56 = .ok (.iconst 0, 1) := by decide +kernel
theorem dX4_init_57 : decode cX4_init 57 = .ok (.putfield 39, 3) := by decide +kernel
theorem dX4_init_60 : decode cX4_init 60 = .ok (.aload_n 0, 1) := by decide +kernel
theorem dX4_init_61 : decode cX4_init 61 = .ok (.iconst 0, 1) := by decide +kernel
theorem dX4_init_62 : decode cX4_init 62 = .ok (.putfield 42, 3) := by decide +kernel
theorem dX4_init_65 : decode cX4_init 65 = .ok (.return_, 1) := by decide +kernel
theorem dX4_append_0 : decode cX4_append 0 = .ok (.aload_n 0, 1) := by decide +kernel
theorem dX4_append_1 : decode cX4_append 1 = .ok (.getfield 15, 3) := by decide +kernel
theorem dX4_append_4 : decode cX4_append 4 = .ok (.sipush 600, 3) := by decide +kernel
theorem dX4_append_7 : decode cX4_append 7 = .ok (.if_icmp .ge 23, 3) := by decide +kernel
theorem dX4_append_10 : decode cX4_append 10 = .ok (.aload_n 0, 1) := by decide +kernel
theorem dX4_append_11 : decode cX4_append 11 = .ok (.getfield 9, 3) := by decide +kernel
theorem dX4_append_14 : decode cX4_append 14 = .ok (.aload_n 0, 1) := by decide +kernel
theorem dX4_append_15 : decode cX4_append 15 = .ok (.getfield 15, 3) := by decide +kernel
theorem dX4_append_18 : decode cX4_append 18 = .ok (.iload_n 1, 1) := by decide +kernel
theorem dX4_append_19 : decode cX4_append 19 = .ok (.iastore, 1) := by decide +kernel
theorem dX4_append_20 : decode cX4_append 20 = .ok (.aload_n 0, 1) := by decide +kernel
theorem dX4_append_21 : decode cX4_append 21 = .ok (.dup, 1) := by decide +kernel
theorem dX4_append_22 : decode cX4_append 22 = .ok (.getfield 15, 3) := by decide +kernel
theorem dX4_append_25 : decode cX4_append 25 = .ok (.iconst 1, 1) := by decide +kernel
theorem dX4_append_26 : decode cX4_append 26 = .ok (.iadd, 1) := by decide +kernel
theorem dX4_append_27 : decode cX4_append 27 = .ok (.putfield 15, 3) := by decide +kernel
theorem dX4_append_30 : decode cX4_append 30 = .ok (.return_, 1) := by decide +kernel
theorem dX4_handOver_0 : decode cX4_handOver 0 = .ok (.aload_n 0, 1) := by decide +kernel
theorem dX4_handOver_1 : decode cX4_handOver 1 = .ok (.getfield 22, 3) := by decide +kernel
theorem dX4_handOver_4 : decode cX4_handOver 4 = .ok (.astore_n 2, 1) := by decide +kernel
theorem dX4_handOver_5 : decode cX4_handOver 5 = .ok (.aload_n 0, 1) := by decide +kernel
theorem dX4_handOver_6 : decode cX4_handOver 6 = .ok (.aload_n 1, 1) := by decide +kernel
theorem dX4_handOver_7 : decode cX4_handOver 7 = .ok (.putfield 22, 3) := by decide +kernel
theorem dX4_handOver_10 : decode cX4_handOver 10 = .ok (.aload_n 0, 1) := by decide +kernel
theorem dX4_handOver_11 : decode cX4_handOver 11 = .ok (.iconst 0, 1) := by decide +kernel
theorem dX4_handOver_12 : decode cX4_handOver 12 = .ok (.putfield 15, 3) := by decide +kernel
theorem dX4_handOver_15 : decode cX4_handOver 15 = .ok (.aload_n 2, 1) := by decide +kernel
theorem dX4_handOver_16 : decode cX4_handOver 16 = .ok (.areturn, 1) := by decide +kernel
theorem dX4_takeTape_0 : decode cX4_takeTape 0 = .ok (.aload_n 0, 1) := by decide +kernel
theorem dX4_takeTape_1 : decode cX4_takeTape 1 = .ok (.getfield 22, 3) := by decide +kernel
theorem dX4_takeTape_4 : decode cX4_takeTape 4 = .ok (.iconst 0, 1) := by decide +kernel
theorem dX4_takeTape_5 : decode cX4_takeTape 5 = .ok (.putfield 45, 3) := by decide +kernel
theorem dX4_takeTape_8 : decode cX4_takeTape 8 = .ok (.aload_n 0, 1) := by decide +kernel
theorem dX4_takeTape_9 : decode cX4_takeTape 9 = .ok (.iconst 0, 1) := by decide +kernel
theorem dX4_takeTape_10 : decode cX4_takeTape 10 = .ok (.putfield 33, 3) := by decide +kernel
theorem dX4_takeTape_13 : decode cX4_takeTape 13 = .ok (.aload_n 0, 1) := by decide +kernel
theorem dX4_takeTape_14 : decode cX4_takeTape 14 = .ok (.iconst 0, 1) := by decide +kernel
theorem dX4_takeTape_15 : decode cX4_takeTape 15 = .ok (.putfield 36, 3) := by decide +kernel
theorem dX4_takeTape_18 : decode cX4_takeTape 18 = .ok (.aload_n 0, 1) := by decide +kernel
theorem dX4_takeTape_19 : decode cX4_takeTape 19 = .ok (.iconst 0, 1) := by decide +kernel
theorem dX4_takeTape_20 : decode cX4_takeTape 20 = .ok (.putfield 39, 3) := by decide +kernel
theorem dX4_takeTape_23 : decode cX4_takeTape 23 = .ok (.aload_n 0, 1) := by decide +kernel
theorem dX4_takeTape_24 : decode cX4_takeTape 24 = .ok (.iconst 0, 1) := by decide +kernel
theorem dX4_takeTape_25 : decode cX4_takeTape 25 = .ok (.putfield 42, 3) := by decide +kernel
theorem dX4_takeTape_28 : decode cX4_takeTape 28 = .ok (.iconst 0, 1) := by decide +kernel
theorem dX4_takeTape_29 : decode cX4_takeTape 29 = .ok (.istore_n 1, 1) := by decide +kernel
theorem dX4_takeTape_30 : decode cX4_takeTape 30 = .ok (.iload_n 1, 1) := by decide +kernel
theorem dX4_takeTape_31 : decode cX4_takeTape 31 = .ok (.aload_n 0, 1) := by decide +kernel
theorem dX4_takeTape_32 : decode cX4_takeTape 32 = .ok (.getfield 15, 3) := by decide +kernel
theorem dX4_takeTape_35 : decode cX4_takeTape 35 = .ok (.if_icmp .gt 67, 3) := by decide +kernel
theorem dX4_takeTape_38 : decode cX4_takeTape 38 = .ok (.aload_n 0, 1) := by decide +kernel
theorem dX4_takeTape_39 : decode cX4_takeTape 39 = .ok (.getfield 39, 3) := by decide +kernel
theorem dX4_takeTape_42 : decode cX4_takeTape 42 = .ok (.ifCond .ne 60, 3) := by decide +kernel
theorem dX4_takeTape_45 : decode cX4_takeTape 45 = .ok (.aload_n 0, 1) := by decide +kernel
theorem dX4_takeTape_46 : decode cX4_takeTape 46 = .ok (.invokevirtual 48, 3) := by decide +kernel
theorem dX4_takeTape_49 : decode cX4_takeTape 49 = .ok (.istore_n 2, 1) := by decide +kernel
theorem dX4_takeTape_50 : decode cX4_takeTape 50 = .ok (.iload_n 2, 1) := by decide +kernel
theorem dX4_takeTape_51 : decode cX4_takeTape 51 = .ok (.iconst (-1), 1) := by decide +kernel
theorem dX4_takeTape_52 : decode cX4_takeTape 52 = .ok (.if_icmp .ne 24, 3) := by decide +kernel
theorem dX4_takeTape_55 : decode cX4_takeTape 55 = .ok (.aload_n 0, 1) := by decide +kernel
theorem dX4_takeTape_56 : decode cX4_takeTape 56 = .ok (.getfield 33, 3) := by decide +kernel
theorem dX4_takeTape_59 : decode cX4_takeTape 59 = .ok (.ifCond .eq 11, 3) := by decide +kernel
theorem dX4_takeTape_62 : decode cX4_takeTape 62 = .ok (.aload_n 0, 1) := by decide +kernel
theorem dX4_takeTape_63 : decode cX4_takeTape 63 = .ok (.iconst 1, 1) := by decide +kernel
theorem dX4_takeTape_64 : decode cX4_takeTape 64 = .ok (.invokevirtual 52, 3) := by decide +kernel
theorem dX4_takeTape_67 : decode cX4_takeTape 67 = .ok (.ifCond .eq 7, 3) := by decide +kernel
theorem dX4_takeTape_70 : decode cX4_takeTape 70 = .ok (.iconst 1, 1) := by decide +kernel
theorem dX4_takeTape_71 : decode cX4_takeTape 71 = .ok (.goto 4, 3) := by decide +kernel
theorem dX4_takeTape_74 : decode cX4_takeTape 74 = .ok (.iconst 0, 1) := by decide +kernel
theorem dX4_takeTape_75 : decode cX4_takeTape 75 = .ok (.ireturn, 1) := by decide +kernel
theorem dX4_takeTape_76 : decode cX4_takeTape 76 = .ok (.iload_n 2, 1) := by decide +kernel
theorem dX4_takeTape_77 : decode cX4_takeTape 77 = .ok (.bipush 125, 2) := by decide +kernel
theorem dX4_takeTape_79 : decode cX4_takeTape 79 = .ok (.if_icmp .ne 11, 3) := by decide +kernel
theorem dX4_takeTape_82 : decode cX4_takeTape 82 = .ok (.aload_n 0, 1) := by decide +kernel
theorem dX4_takeTape_83 : decode cX4_takeTape 83 = .ok (.invokevirtual 56, 3) := by decide +kernel
theorem dX4_takeTape_86 : decode cX4_takeTape 86 = .ok (.pop, 1) := by decide +kernel
theorem dX4_takeTape_87 : decode cX4_takeTape 87 = .ok (.goto 9, 3) := by decide +kernel
theorem dX4_takeTape_90 : decode cX4_takeTape 90 = .ok (.aload_n 0, 1) := by decide +kernel
theorem dX4_takeTape_91 : decode cX4_takeTape 91 = .ok (.iload_n 2, 1) := by decide +kernel
theorem dX4_takeTape_92 : decode cX4_takeTape 92 = .ok (.invokevirtual 60, 3) := by decide +kernel
theorem dX4_takeTape_95 : decode cX4_takeTape 95 = .ok (.pop, 1) := by decide +kernel
theorem dX4_takeTape_96 : decode cX4_takeTape 96 = .ok (.iinc 1 1, 3) := by decide +kernel
theorem dX4_takeTape_99 : decode cX4_takeTape 99 = .ok (.goto (-69), 3) := by decide +kernel
theorem dX4_takeTape_102 : decode cX4_takeTape 102 = .ok (.aload_n 0, 1) := by decide +kernel
theorem dX4_takeTape_103 : decode cX4_takeTape 103 = .ok (.getfield 39, 3) := by decide +kernel
theorem dX4_takeTape_106 : decode cX4_takeTape 106 = .ok (.ifCond .ne 7, 3) := by decide +kernel
theorem dX4_takeTape_109 : decode cX4_takeTape 109 = .ok (.iconst 1, 1) := by decide +kernel
theorem dX4_takeTape_110 : decode cX4_takeTape 110 = .ok (.goto 4, 3) := by decide +kernel
theorem dX4_takeTape_113 : decode cX4_takeTape 113 = .ok (.iconst 0, 1) := by decide +kernel
theorem dX4_takeTape_114 : decode cX4_takeTape 114 = .ok (.ireturn, 1) := by decide +kernel
theorem dX4_refuse_0 : decode cX4_refuse 0 = .ok (.aload_n 0, 1) := by decide +kernel
theorem dX4_refuse_1 : decode cX4_refuse 1 = .ok (.iload_n 1, 1) := by decide +kernel
theorem dX4_refuse_2 : decode cX4_refuse 2 = .ok (.putfield 39, 3) := by decide +kernel
theorem dX4_refuse_5 : decode cX4_refuse 5 = .ok (.aload_n 0, 1) := by decide +kernel
theorem dX4_refuse_6 : decode cX4_refuse 6 = .ok (.aload_n 0, 1) := by decide +kernel
theorem dX4_refuse_7 : decode cX4_refuse 7 = .ok (.getfield 36, 3) := by decide +kernel
theorem dX4_refuse_10 : decode cX4_refuse 10 = .ok (.putfield 42, 3) := by decide +kernel
theorem dX4_refuse_13 : decode cX4_refuse 13 = .ok (.iconst 0, 1) := by decide +kernel
theorem dX4_refuse_14 : decode cX4_refuse 14 = .ok (.ireturn, 1) := by decide +kernel
theorem dX4_nextByte_0 : decode cX4_nextByte 0 = .ok (.aload_n 0, 1) := by decide +kernel
theorem dX4_nextByte_1 : decode cX4_nextByte 1 = .ok (.getfield 36, 3) := by decide +kernel
theorem dX4_nextByte_4 : decode cX4_nextByte 4 = .ok (.aload_n 0, 1) := by decide +kernel
theorem dX4_nextByte_5 : decode cX4_nextByte 5 = .ok (.getfield 15, 3) := by decide +kernel
theorem dX4_nextByte_8 : decode cX4_nextByte 8 = .ok (.if_icmp .ge 44, 3) := by decide +kernel
theorem dX4_nextByte_11 : decode cX4_nextByte 11 = .ok (.aload_n 0, 1) := by decide +kernel
theorem dX4_nextByte_12 : decode cX4_nextByte 12 = .ok (.getfield 9, 3) := by decide +kernel
theorem dX4_nextByte_15 : decode cX4_nextByte 15 = .ok (.aload_n 0, 1) := by decide +kernel
theorem dX4_nextByte_16 : decode cX4_nextByte 16 = .ok (.getfield 36, 3) := by decide +kernel
theorem dX4_nextByte_19 : decode cX4_nextByte 19 = .ok (.iaload, 1) := by decide +kernel
theorem dX4_nextByte_20 : decode cX4_nextByte 20 = .ok (.bipush 32, 2) := by decide +kernel
theorem dX4_nextByte_22 : decode cX4_nextByte 22 = .ok (.if_icmp .eq 17, 3) := by decide +kernel
theorem dX4_nextByte_25 : decode cX4_nextByte 25 = .ok (.aload_n 0, 1) := by decide +kernel
theorem dX4_nextByte_26 : decode cX4_nextByte 26 = .ok (.getfield 9, 3) := by decide +kernel
theorem dX4_nextByte_29 : decode cX4_nextByte 29 = .ok (.aload_n 0, 1) := by decide +kernel
theorem dX4_nextByte_30 : decode cX4_nextByte 30 = .ok (.getfield 36, 3) := by decide +kernel
theorem dX4_nextByte_33 : decode cX4_nextByte 33 = .ok (.iaload, 1) := by decide +kernel
theorem dX4_nextByte_34 : decode cX4_nextByte 34 = .ok (.bipush 10, 2) := by decide +kernel
theorem dX4_nextByte_36 : decode cX4_nextByte 36 = .ok (.if_icmp .ne 16, 3) := by decide +kernel
theorem dX4_nextByte_39 : decode cX4_nextByte 39 = .ok (.aload_n 0, 1) := by decide +kernel
theorem dX4_nextByte_40 : decode cX4_nextByte 40 = .ok (.dup, 1) := by decide +kernel
theorem dX4_nextByte_41 : decode cX4_nextByte 41 = .ok (.getfield 36, 3) := by decide +kernel
theorem dX4_nextByte_44 : decode cX4_nextByte 44 = .ok (.iconst 1, 1) := by decide +kernel
theorem dX4_nextByte_45 : decode cX4_nextByte 45 = .ok (.iadd, 1) := by decide +kernel
theorem dX4_nextByte_46 : decode cX4_nextByte 46 = .ok (.putfield 36, 3) := by decide +kernel
theorem dX4_nextByte_49 : decode cX4_nextByte 49 = .ok (.goto (-49), 3) := by decide +kernel
theorem dX4_nextByte_52 : decode cX4_nextByte 52 = .ok (.aload_n 0, 1) := by decide +kernel
theorem dX4_nextByte_53 : decode cX4_nextByte 53 = .ok (.getfield 36, 3) := by decide +kernel
theorem dX4_nextByte_56 : decode cX4_nextByte 56 = .ok (.aload_n 0, 1) := by decide +kernel
theorem dX4_nextByte_57 : decode cX4_nextByte 57 = .ok (.getfield 15, 3) := by decide +kernel
theorem dX4_nextByte_60 : decode cX4_nextByte 60 = .ok (.if_icmp .ge 15, 3) := by decide +kernel
theorem dX4_nextByte_63 : decode cX4_nextByte 63 = .ok (.aload_n 0, 1) := by decide +kernel
theorem dX4_nextByte_64 : decode cX4_nextByte 64 = .ok (.getfield 9, 3) := by decide +kernel
theorem dX4_nextByte_67 : decode cX4_nextByte 67 = .ok (.aload_n 0, 1) := by decide +kernel
theorem dX4_nextByte_68 : decode cX4_nextByte 68 = .ok (.getfield 36, 3) := by decide +kernel
theorem dX4_nextByte_71 : decode cX4_nextByte 71 = .ok (.iaload, 1) := by decide +kernel
theorem dX4_nextByte_72 : decode cX4_nextByte 72 = .ok (.goto 4, 3) := by decide +kernel
theorem dX4_nextByte_75 : decode cX4_nextByte 75 = .ok (.iconst (-1), 1) := by decide +kernel
theorem dX4_nextByte_76 : decode cX4_nextByte 76 = .ok (.ireturn, 1) := by decide +kernel
theorem dX4_takeByte_0 : decode cX4_takeByte 0 = .ok (.aload_n 0, 1) := by decide +kernel
theorem dX4_takeByte_1 : decode cX4_takeByte 1 = .ok (.invokevirtual 48, 3) := by decide +kernel
theorem dX4_takeByte_4 : decode cX4_takeByte 4 = .ok (.iload_n 1, 1) := by decide +kernel
theorem dX4_takeByte_5 : decode cX4_takeByte 5 = .ok (.if_icmp .eq 9, 3) := by decide +kernel
theorem dX4_takeByte_8 : decode cX4_takeByte 8 = .ok (.aload_n 0, 1) := by decide +kernel
theorem dX4_takeByte_9 : decode cX4_takeByte 9 = .ok (.iconst 1, 1) := by decide +kernel
theorem dX4_takeByte_10 : decode cX4_takeByte 10 = .ok (.invokevirtual 52, 3) := by decide +kernel
theorem dX4_takeByte_13 : decode cX4_takeByte 13 = .ok (.ireturn, 1) := by decide +kernel
theorem dX4_takeByte_14 : decode cX4_takeByte 14 = .ok (.aload_n 0, 1) := by decide +kernel
theorem dX4_takeByte_15 : decode cX4_takeByte 15 = .ok (.dup, 1) := by decide +kernel
theorem dX4_takeByte_16 : decode cX4_takeByte 16 = .ok (.getfield 36, 3) := by decide +kernel
theorem dX4_takeByte_19 : decode cX4_takeByte 19 = .ok (.iconst 1, 1) := by decide +kernel
theorem dX4_takeByte_20 : decode cX4_takeByte 20 = .ok (.iadd, 1) := by decide +kernel
theorem dX4_takeByte_21 : decode cX4_takeByte 21 = .ok (.putfield 36, 3) := by decide +kernel
theorem dX4_takeByte_24 : decode cX4_takeByte 24 = .ok (.iconst 1, 1) := by decide +kernel
theorem dX4_takeByte_25 : decode cX4_takeByte 25 = .ok (.ireturn, 1) := by decide +kernel
theorem dX4_closeSide_0 : decode cX4_closeSide 0 = .ok (.aload_n 0, 1) := by decide +kernel
theorem dX4_closeSide_1 : decode cX4_closeSide 1 = .ok (.getfield 33, 3) := by decide +kernel
theorem dX4_closeSide_4 : decode cX4_closeSide 4 = .ok (.ifCond .ne 9, 3) := by decide +kernel
theorem dX4_closeSide_7 : decode cX4_closeSide 7 = .ok (.aload_n 0, 1) := by decide +kernel
theorem dX4_closeSide_8 : decode cX4_closeSide 8 = .ok (.iconst 1, 1) := by decide +kernel
theorem dX4_closeSide_9 : decode cX4_closeSide 9 = .ok (.invokevirtual 52, 3) := by decide +kernel
theorem dX4_closeSide_12 : decode cX4_closeSide 12 = .ok (.ireturn, 1) := by decide +kernel
theorem dX4_closeSide_13 : decode cX4_closeSide 13 = .ok (.aload_n 0, 1) := by decide +kernel
theorem dX4_closeSide_14 : decode cX4_closeSide 14 = .ok (.dup, 1) := by decide +kernel
theorem dX4_closeSide_15 : decode cX4_closeSide 15 = .ok (.getfield 36, 3) := by decide +kernel
theorem dX4_closeSide_18 : decode cX4_closeSide 18 = .ok (.iconst 1, 1) := by decide +kernel
theorem dX4_closeSide_19 : decode cX4_closeSide 19 = .ok (.iadd, 1) := by decide +kernel
theorem dX4_closeSide_20 : decode cX4_closeSide 20 = .ok (.putfield 36, 3) := by decide +kernel
theorem dX4_closeSide_23 : decode cX4_closeSide 23 = .ok (.aload_n 0, 1) := by decide +kernel
theorem dX4_closeSide_24 : decode cX4_closeSide 24 = .ok (.getfield 26, 3) := by decide +kernel
theorem dX4_closeSide_27 : decode cX4_closeSide 27 = .ok (.aload_n 0, 1) := by decide +kernel
theorem dX4_closeSide_28 : decode cX4_closeSide 28 = .ok (.getfield 33, 3) := by decide +kernel
theorem dX4_closeSide_31 : decode cX4_closeSide 31 = .ok (.iconst 1, 1) := by decide +kernel
theorem dX4_closeSide_32 : decode cX4_closeSide 32 = .ok (.isub, 1) := by decide +kernel
theorem dX4_closeSide_33 : decode cX4_closeSide 33 = .ok (.iaload, 1) := by decide +kernel
theorem dX4_closeSide_34 : decode cX4_closeSide 34 = .ok (.istore_n 1, 1) := by decide +kernel
theorem dX4_closeSide_35 : decode cX4_closeSide 35 = .ok (.aload_n 0, 1) := by decide +kernel
theorem dX4_closeSide_36 : decode cX4_closeSide 36 = .ok (.getfield 29, 3) := by decide +kernel
theorem dX4_closeSide_39 : decode cX4_closeSide 39 = .ok (.aload_n 0, 1) := by decide +kernel
theorem dX4_closeSide_40 : decode cX4_closeSide 40 = .ok (.getfield 33, 3) := by decide +kernel
theorem dX4_closeSide_43 : decode cX4_closeSide 43 = .ok (.iconst 1, 1) := by decide +kernel
theorem dX4_closeSide_44 : decode cX4_closeSide 44 = .ok (.isub, 1) := by decide +kernel
theorem dX4_closeSide_45 : decode cX4_closeSide 45 = .ok (.baload, 1) := by decide +kernel
theorem dX4_closeSide_46 : decode cX4_closeSide 46 = .ok (.ifCond .ne 52, 3) := by decide +kernel
theorem dX4_closeSide_49 : decode cX4_closeSide 49 = .ok (.aload_n 0, 1) := by decide +kernel
theorem dX4_closeSide_50 : decode cX4_closeSide 50 = .ok (.getfield 22, 3) := by decide +kernel
theorem dX4_closeSide_53 : decode cX4_closeSide 53 = .ok (.getfield 63, 3) := by decide +kernel
theorem dX4_closeSide_56 : decode cX4_closeSide 56 = .ok (.iload_n 1, 1) := by decide +kernel
theorem dX4_closeSide_57 : decode cX4_closeSide 57 = .ok (.aload_n 0, 1) := by decide +kernel
theorem dX4_closeSide_58 : decode cX4_closeSide 58 = .ok (.getfield 22, 3) := by decide +kernel
theorem dX4_closeSide_61 : decode cX4_closeSide 61 = .ok (.getfield 45, 3) := by decide +kernel
theorem dX4_closeSide_64 : decode cX4_closeSide 64 = .ok (.iastore, 1) := by decide +kernel
theorem dX4_closeSide_65 : decode cX4_closeSide 65 = .ok (.aload_n 0, 1) := by decide +kernel
theorem dX4_closeSide_66 : decode cX4_closeSide 66 = .ok (.invokevirtual 48, 3) := by decide +kernel
theorem dX4_closeSide_69 : decode cX4_closeSide 69 = .ok (.bipush 123, 2) := by decide +kernel
theorem dX4_closeSide_71 : decode cX4_closeSide 71 = .ok (.if_icmp .ne 27, 3) := by decide +kernel
theorem dX4_closeSide_74 : decode cX4_closeSide 74 = .ok (.aload_n 0, 1) := by decide +kernel
theorem dX4_closeSide_75 : decode cX4_closeSide 75 = .ok (.dup, 1) := by decide +kernel
theorem dX4_closeSide_76 : decode cX4_closeSide 76 = .ok (.getfield 36, 3) := by decide +kernel
theorem dX4_closeSide_79 : decode cX4_closeSide 79 = .ok (.iconst 1, 1) := by decide +kernel
theorem dX4_closeSide_80 : decode cX4_closeSide 80 = .ok (.iadd, 1) := by decide +kernel
theorem dX4_closeSide_81 : decode cX4_closeSide 81 = .ok (.putfield 36, 3) := by decide +kernel
theorem dX4_closeSide_84 : decode cX4_closeSide 84 = .ok (.aload_n 0, 1) := by decide +kernel
theorem dX4_closeSide_85 : decode cX4_closeSide 85 = .ok (.getfield 29, 3) := by decide +kernel
theorem dX4_closeSide_88 : decode cX4_closeSide 88 = .ok (.aload_n 0, 1) := by decide +kernel
theorem dX4_closeSide_89 : decode cX4_closeSide 89 = .ok (.getfield 33, 3) := by decide +kernel
theorem dX4_closeSide_92 : decode cX4_closeSide 92 = .ok (.iconst 1, 1) := by decide +kernel
theorem dX4_closeSide_93 : decode cX4_closeSide 93 = .ok (.isub, 1) := by decide +kernel
theorem dX4_closeSide_94 : decode cX4_closeSide 94 = .ok (.iconst 1, 1) := by decide +kernel
theorem dX4_closeSide_95 : decode cX4_closeSide 95 = .ok (.bastore, 1) := by decide +kernel
theorem dX4_closeSide_96 : decode cX4_closeSide 96 = .ok (.iconst 1, 1) := by decide +kernel
theorem dX4_closeSide_97 : decode cX4_closeSide 97 = .ok (.ireturn, 1) := by decide +kernel
theorem dX4_closeSide_98 : decode cX4_closeSide 98 = .ok (.aload_n 0, 1) := by decide +kernel
theorem dX4_closeSide_99 : decode cX4_closeSide 99 = .ok (.getfield 22, 3) := by decide +kernel
theorem dX4_closeSide_102 : decode cX4_closeSide 102 = .ok (.getfield 66, 3) := by decide +kernel
theorem dX4_closeSide_105 : decode cX4_closeSide 105 = .ok (.iload_n 1, 1) := by decide +kernel
theorem dX4_closeSide_106 : decode cX4_closeSide 106 = .ok (.aload_n 0, 1) := by decide +kernel
theorem dX4_closeSide_107 : decode cX4_closeSide 107 = .ok (.getfield 22, 3) := by decide +kernel
theorem dX4_closeSide_110 : decode cX4_closeSide 110 = .ok (.getfield 45, 3) := by decide +kernel
theorem dX4_closeSide_113 : decode cX4_closeSide 113 = .ok (.iastore, 1) := by decide +kernel
theorem dX4_closeSide_114 : decode cX4_closeSide 114 = .ok (.aload_n 0, 1) := by decide +kernel
theorem dX4_closeSide_115 : decode cX4_closeSide 115 = .ok (.dup, 1) := by decide +kernel
theorem dX4_closeSide_116 : decode cX4_closeSide 116 = .ok (.getfield 33, 3) := by decide +kernel
theorem dX4_closeSide_119 : decode cX4_closeSide 119 = .ok (.iconst 1, 1) := by decide +kernel
theorem dX4_closeSide_120 : decode cX4_closeSide 120 = .ok (.isub, 1) := by decide +kernel
theorem dX4_closeSide_121 : decode cX4_closeSide 121 = .ok (.putfield 33, 3) := by decide +kernel
theorem dX4_closeSide_124 : decode cX4_closeSide 124 = .ok (.iconst 1, 1) := by decide +kernel
theorem dX4_closeSide_125 : decode cX4_closeSide 125 = .ok (.ireturn, 1) := by decide +kernel
theorem dX4_takeStatement_0 : decode cX4_takeStatement 0 = .ok (.iload_n 1, 1) := by decide +kernel
theorem dX4_takeStatement_1 : decode cX4_takeStatement 1 = .ok (.invokestatic 69, 3) := by decide +kernel
theorem dX4_takeStatement_4 : decode cX4_takeStatement 4 = .ok (.ifCond .ne 27, 3) := by decide +kernel
theorem dX4_takeStatement_7 : decode cX4_takeStatement 7 = .ok (.iload_n 1, 1) := by decide +kernel
theorem dX4_takeStatement_8 : decode cX4_takeStatement 8 = .ok (.bipush 64, 2) := by decide +kernel
theorem dX4_takeStatement_10 : decode cX4_takeStatement 10 = .ok (.if_icmp .eq 21, 3) := by decide +kernel
theorem dX4_takeStatement_13 : decode cX4_takeStatement 13 = .ok (.iload_n 1, 1) := by decide +kernel
theorem dX4_takeStatement_14 : decode cX4_takeStatement 14 = .ok (.bipush 33, 2) := by decide +kernel
theorem dX4_takeStatement_16 : decode cX4_takeStatement 16 = .ok (.if_icmp .eq 15, 3) := by decide +kernel
theorem dX4_takeStatement_19 : decode cX4_takeStatement 19 = .ok (.iload_n 1, 1) := by decide +kernel
theorem dX4_takeStatement_20 : decode cX4_takeStatement 20 = .ok (.bipush 63, 2) := by decide +kernel
theorem dX4_takeStatement_22 : decode cX4_takeStatement 22 = .ok (.if_icmp .eq 9, 3) := by decide +kernel
theorem dX4_takeStatement_25 : decode cX4_takeStatement 25 = .ok (.aload_n 0, 1) := by decide +kernel
theorem dX4_takeStatement_26 : decode cX4_takeStatement 26 = .ok (.iconst 1, 1) := by decide +kernel
theorem dX4_takeStatement_27 : decode cX4_takeStatement 27 = .ok (.invokevirtual 52, 3) := by decide +kernel
theorem dX4_takeStatement_30 : decode cX4_takeStatement 30 = .ok (.ireturn, 1) := by decide +kernel
theorem dX4_takeStatement_31 : decode cX4_takeStatement 31 = .ok (.aload_n 0, 1) := by decide +kernel
theorem dX4_takeStatement_32 : decode cX4_takeStatement 32 = .ok (.getfield 22, 3) := by decide +kernel
theorem dX4_takeStatement_35 : decode cX4_takeStatement 35 = .ok (.getfield 45, 3) := by decide +kernel
theorem dX4_takeStatement_38 : decode cX4_takeStatement 38 = .ok (.bipush 60, 2) := by decide +kernel
theorem dX4_takeStatement_40 : decode cX4_takeStatement 40 = .ok (.if_icmp .lt 9, 3) := by decide +kernel
theorem dX4_takeStatement_43 : decode cX4_takeStatement 43 = .ok (.aload_n 0, 1) := by decide +kernel
theorem dX4_takeStatement_44 : decode cX4_takeStatement 44 = .ok (.iconst 3, 1) := by decide +kernel
theorem dX4_takeStatement_45 : decode cX4_takeStatement 45 = .ok (.invokevirtual 52, 3) := by decide +kernel
theorem dX4_takeStatement_48 : decode cX4_takeStatement 48 = .ok (.ireturn, 1) := by decide +kernel
theorem dX4_takeStatement_49 : decode cX4_takeStatement 49 = .ok (.iload_n 1, 1) := by decide +kernel
theorem dX4_takeStatement_50 : decode cX4_takeStatement 50 = .ok (.bipush 63, 2) := by decide +kernel
theorem dX4_takeStatement_52 : decode cX4_takeStatement 52 = .ok (.if_icmp .ne 18, 3) := by decide +kernel
theorem dX4_takeStatement_55 : decode cX4_takeStatement 55 = .ok (.aload_n 0, 1) := by decide +kernel
theorem dX4_takeStatement_56 : decode cX4_takeStatement 56 = .ok (.getfield 33, 3) := by decide +kernel
theorem dX4_takeStatement_59 : decode cX4_takeStatement 59 = .ok (.bipush 6, 2) := by decide +kernel
theorem dX4_takeStatement_61 : decode cX4_takeStatement 61 = .ok (.if_icmp .lt 9, 3) := by decide +kernel
theorem dX4_takeStatement_64 : decode cX4_takeStatement 64 = .ok (.aload_n 0, 1) := by decide +kernel
theorem dX4_takeStatement_65 : decode cX4_takeStatement 65 = .ok (.iconst 4, 1) := by decide +kernel
theorem dX4_takeStatement_66 : decode cX4_takeStatement 66 = .ok (.invokevirtual 52, 3) := by decide +kernel
theorem dX4_takeStatement_69 : decode cX4_takeStatement 69 = .ok (.ireturn, 1) := by decide +kernel
theorem dX4_takeStatement_70 : decode cX4_takeStatement 70 = .ok (.aload_n 0, 1) := by decide +kernel
theorem dX4_takeStatement_71 : decode cX4_takeStatement 71 = .ok (.getfield 22, 3) := by decide +kernel
theorem dX4_takeStatement_74 : decode cX4_takeStatement 74 = .ok (.aload_n 0, 1) := by decide +kernel
theorem dX4_takeStatement_75 : decode cX4_takeStatement 75 = .ok (.getfield 33, 3) := by decide +kernel
theorem dX4_takeStatement_78 : decode cX4_takeStatement 78 = .ok (.invokevirtual 72, 3) := by decide +kernel
theorem dX4_takeStatement_81 : decode cX4_takeStatement 81 = .ok (.istore_n 2, 1) := by decide +kernel
theorem dX4_takeStatement_82 : decode cX4_takeStatement 82 = .ok (.aload_n 0, 1) := by decide +kernel
theorem dX4_takeStatement_83 : decode cX4_takeStatement 83 = .ok (.dup, 1) := by decide +kernel
theorem dX4_takeStatement_84 : decode cX4_takeStatement 84 = .ok (.getfield 36, 3) := by decide +kernel
theorem dX4_takeStatement_87 : decode cX4_takeStatement 87 = .ok (.iconst 1, 1) := by decide +kernel
theorem dX4_takeStatement_88 : decode cX4_takeStatement 88 = .ok (.iadd, 1) := by decide +kernel
theorem dX4_takeStatement_89 : decode cX4_takeStatement 89 = .ok (.putfield 36, 3) := by decide +kernel
theorem dX4_takeStatement_92 : decode cX4_takeStatement 92 = .ok (.iload_n 1, 1) := by decide +kernel
theorem dX4_takeStatement_93 : decode cX4_takeStatement 93 = .ok (.lookupswitch 53 #[(33, 41), (63, 47), (64, 35)], 35) := by decide +kernel
theorem dX4_takeStatement_128 : decode cX4_takeStatement 128 = .ok (.aload_n 0, 1) := by decide +kernel
theorem dX4_takeStatement_129 : decode cX4_takeStatement 129 = .ok (.iload_n 2, 1) := by decide +kernel
theorem dX4_takeStatement_130 : decode cX4_takeStatement 130 = .ok (.invokevirtual 76, 3) := by decide +kernel
theorem dX4_takeStatement_133 : decode cX4_takeStatement 133 = .ok (.ireturn, 1) := by decide +kernel
theorem dX4_takeStatement_134 : decode cX4_takeStatement 134 = .ok (.aload_n 0, 1) := by decide +kernel
theorem dX4_takeStatement_135 : decode cX4_takeStatement 135 = .ok (.iload_n 2, 1) := by decide +kernel
theorem dX4_takeStatement_136 : decode cX4_takeStatement 136 = .ok (.invokevirtual 79, 3) := by decide +kernel
theorem dX4_takeStatement_139 : decode cX4_takeStatement 139 = .ok (.ireturn, 1) := by decide +kernel
theorem dX4_takeStatement_140 : decode cX4_takeStatement 140 = .ok (.aload_n 0, 1) := by decide +kernel
theorem dX4_takeStatement_141 : decode cX4_takeStatement 141 = .ok (.iload_n 2, 1) := by decide +kernel
theorem dX4_takeStatement_142 : decode cX4_takeStatement 142 = .ok (.invokevirtual 82, 3) := by decide +kernel
theorem dX4_takeStatement_145 : decode cX4_takeStatement 145 = .ok (.ireturn, 1) := by decide +kernel
theorem dX4_takeStatement_146 : decode cX4_takeStatement 146 = .ok (.aload_n 0, 1) := by decide +kernel
theorem dX4_takeStatement_147 : decode cX4_takeStatement 147 = .ok (.getfield 22, 3) := by decide +kernel
theorem dX4_takeStatement_150 : decode cX4_takeStatement 150 = .ok (.getfield 85, 3) := by decide +kernel
theorem dX4_takeStatement_153 : decode cX4_takeStatement 153 = .ok (.iload_n 2, 1) := by decide +kernel
theorem dX4_takeStatement_154 : decode cX4_takeStatement 154 = .ok (.iload_n 1, 1) := by decide +kernel
theorem dX4_takeStatement_155 : decode cX4_takeStatement 155 = .ok (.bipush 97, 2) := by decide +kernel
theorem dX4_takeStatement_157 : decode cX4_takeStatement 157 = .ok (.isub, 1) := by decide +kernel
theorem dX4_takeStatement_158 : decode cX4_takeStatement 158 = .ok (.iastore, 1) := by decide +kernel
theorem dX4_takeStatement_159 : decode cX4_takeStatement 159 = .ok (.aload_n 0, 1) := by decide +kernel
theorem dX4_takeStatement_160 : decode cX4_takeStatement 160 = .ok (.iload_n 2, 1) := by decide +kernel
theorem dX4_takeStatement_161 : decode cX4_takeStatement 161 = .ok (.invokevirtual 88, 3) := by decide +kernel
theorem dX4_takeStatement_164 : decode cX4_takeStatement 164 = .ok (.ireturn, 1) := by decide +kernel
theorem dX4_takeWrite_0 : decode cX4_takeWrite 0 = .ok (.aload_n 0, 1) := by decide +kernel
theorem dX4_takeWrite_1 : decode cX4_takeWrite 1 = .ok (.getfield 22, 3) := by decide +kernel
theorem dX4_takeWrite_4 : decode cX4_takeWrite 4 = .ok (.getfield 91, 3) := by decide +kernel
theorem dX4_takeWrite_7 : decode cX4_takeWrite 7 = .ok (.iload_n 1, 1) := by decide +kernel
theorem dX4_takeWrite_8 : decode cX4_takeWrite 8 = .ok (.iconst 3, 1) := by decide +kernel
theorem dX4_takeWrite_9 : decode cX4_takeWrite 9 = .ok (.iastore, 1) := by decide +kernel
theorem dX4_takeWrite_10 : decode cX4_takeWrite 10 = .ok (.aload_n 0, 1) := by decide +kernel
theorem dX4_takeWrite_11 : decode cX4_takeWrite 11 = .ok (.iconst 2, 1) := by decide +kernel
theorem dX4_takeWrite_12 : decode cX4_takeWrite 12 = .ok (.iload_n 1, 1) := by decide +kernel
theorem dX4_takeWrite_13 : decode cX4_takeWrite 13 = .ok (.imul, 1) := by decide +kernel
theorem dX4_takeWrite_14 : decode cX4_takeWrite 14 = .ok (.invokevirtual 94, 3) := by decide +kernel
theorem dX4_takeWrite_17 : decode cX4_takeWrite 17 = .ok (.ifCond .eq 37, 3) := by decide +kernel
theorem dX4_takeWrite_20 : decode cX4_takeWrite 20 = .ok (.aload_n 0, 1) := by decide +kernel
theorem dX4_takeWrite_21 : decode cX4_takeWrite 21 = .ok (.bipush 61, 2) := by decide +kernel
theorem dX4_takeWrite_23 : decode cX4_takeWrite 23 = .ok (.invokevirtual 97, 3) := by decide +kernel
theorem dX4_takeWrite_26 : decode cX4_takeWrite 26 = .ok (.ifCond .eq 28, 3) := by decide +kernel
theorem dX4_takeWrite_29 : decode cX4_takeWrite 29 = .ok (.aload_n 0, 1) := by decide +kernel
theorem dX4_takeWrite_30 : decode cX4_takeWrite 30 = .ok (.iconst 2, 1) := by decide +kernel
theorem dX4_takeWrite_31 : decode cX4_takeWrite 31 = .ok (.iload_n 1, 1) := by decide +kernel
theorem dX4_takeWrite_32 : decode cX4_takeWrite 32 = .ok (.imul, 1) := by decide +kernel
theorem dX4_takeWrite_33 : decode cX4_takeWrite 33 = .ok (.iconst 1, 1) := by decide +kernel
theorem dX4_takeWrite_34 : decode cX4_takeWrite 34 = .ok (.iadd, 1) := by decide +kernel
theorem dX4_takeWrite_35 : decode cX4_takeWrite 35 = .ok (.invokevirtual 94, 3) := by decide +kernel
theorem dX4_takeWrite_38 : decode cX4_takeWrite 38 = .ok (.ifCond .eq 16, 3) := by decide +kernel
theorem dX4_takeWrite_41 : decode cX4_takeWrite 41 = .ok (.aload_n 0, 1) := by decide +kernel
theorem dX4_takeWrite_42 : decode cX4_takeWrite 42 = .ok (.bipush 59, 2) := by decide +kernel
theorem dX4_takeWrite_44 : decode cX4_takeWrite 44 = .ok (.invokevirtual 97, 3) := by decide +kernel
theorem dX4_takeWrite_47 : decode cX4_takeWrite 47 = .ok (.ifCond .eq 7, 3) := by decide +kernel
theorem dX4_takeWrite_50 : decode cX4_takeWrite 50 = .ok (.iconst 1, 1) := by decide +kernel
theorem dX4_takeWrite_51 : decode cX4_takeWrite 51 = .ok (.goto 4, 3) := by decide +kernel
theorem dX4_takeWrite_54 : decode cX4_takeWrite 54 = .ok (.iconst 0, 1) := by decide +kernel
theorem dX4_takeWrite_55 : decode cX4_takeWrite 55 = .ok (.ireturn, 1) := by decide +kernel
theorem dX4_takeTelling_0 : decode cX4_takeTelling 0 = .ok (.aload_n 0, 1) := by decide +kernel
theorem dX4_takeTelling_1 : decode cX4_takeTelling 1 = .ok (.getfield 22, 3) := by decide +kernel
theorem dX4_takeTelling_4 : decode cX4_takeTelling 4 = .ok (.getfield 91, 3) := by decide +kernel
theorem dX4_takeTelling_7 : decode cX4_takeTelling 7 = .ok (.iload_n 1, 1) := by decide +kernel
theorem dX4_takeTelling_8 : decode cX4_takeTelling 8 = .ok (.iconst 4, 1) := by decide +kernel
theorem dX4_takeTelling_9 : decode cX4_takeTelling 9 = .ok (.iastore, 1) := by decide +kernel
theorem dX4_takeTelling_10 : decode cX4_takeTelling 10 = .ok (.aload_n 0, 1) := by decide +kernel
theorem dX4_takeTelling_11 : decode cX4_takeTelling 11 = .ok (.iconst 2, 1) := by decide +kernel
theorem dX4_takeTelling_12 : decode cX4_takeTelling 12 = .ok (.iload_n 1, 1) := by decide +kernel
theorem dX4_takeTelling_13 : decode cX4_takeTelling 13 = .ok (.imul, 1) := by decide +kernel
theorem dX4_takeTelling_14 : decode cX4_takeTelling 14 = .ok (.invokevirtual 94, 3) := by decide +kernel
theorem dX4_takeTelling_17 : decode cX4_takeTelling 17 = .ok (.ifCond .eq 16, 3) := by decide +kernel
theorem dX4_takeTelling_20 : decode cX4_takeTelling 20 = .ok (.aload_n 0, 1) := by decide +kernel
theorem dX4_takeTelling_21 : decode cX4_takeTelling 21 = .ok (.bipush 59, 2) := by decide +kernel
theorem dX4_takeTelling_23 : decode cX4_takeTelling 23 = .ok (.invokevirtual 97, 3) := by decide +kernel
theorem dX4_takeTelling_26 : decode cX4_takeTelling 26 = .ok (.ifCond .eq 7, 3) := by decide +kernel
theorem dX4_takeTelling_29 : decode cX4_takeTelling 29 = .ok (.iconst 1, 1) := by decide +kernel
theorem dX4_takeTelling_30 : decode cX4_takeTelling 30 = .ok (.goto 4, 3) := by decide +kernel
theorem dX4_takeTelling_33 : decode cX4_takeTelling 33 = .ok (.iconst 0, 1) := by decide +kernel
theorem dX4_takeTelling_34 : decode cX4_takeTelling 34 = .ok (.ireturn, 1) := by decide +kernel
theorem dX4_takeBranch_0 : decode cX4_takeBranch 0 = .ok (.aload_n 0, 1) := by decide +kernel
theorem dX4_takeBranch_1 : decode cX4_takeBranch 1 = .ok (.getfield 22, 3) := by decide +kernel
theorem dX4_takeBranch_4 : decode cX4_takeBranch 4 = .ok (.getfield 91, 3) := by decide +kernel
theorem dX4_takeBranch_7 : decode cX4_takeBranch 7 = .ok (.iload_n 1, 1) := by decide +kernel
theorem dX4_takeBranch_8 : decode cX4_takeBranch 8 = .ok (.iconst 5, 1) := by decide +kernel
theorem dX4_takeBranch_9 : decode cX4_takeBranch 9 = .ok (.iastore, 1) := by decide +kernel
theorem dX4_takeBranch_10 : decode cX4_takeBranch 10 = .ok (.aload_n 0, 1) := by decide +kernel
theorem dX4_takeBranch_11 : decode cX4_takeBranch 11 = .ok (.iconst 2, 1) := by decide +kernel
theorem dX4_takeBranch_12 : decode cX4_takeBranch 12 = .ok (.iload_n 1, 1) := by decide +kernel
theorem dX4_takeBranch_13 : decode cX4_takeBranch 13 = .ok (.imul, 1) := by decide +kernel
theorem dX4_takeBranch_14 : decode cX4_takeBranch 14 = .ok (.invokevirtual 94, 3) := by decide +kernel
theorem dX4_takeBranch_17 : decode cX4_takeBranch 17 = .ok (.ifCond .ne 5, 3) := by decide +kernel
theorem dX4_takeBranch_20 : decode cX4_takeBranch 20 = .ok (.iconst 0, 1) := by decide +kernel
theorem dX4_takeBranch_21 : decode cX4_takeBranch 21 = .ok (.ireturn, 1) := by decide +kernel
theorem dX4_takeBranch_22 : decode cX4_takeBranch 22 = .ok (.ldc 100, 2) := by decide +kernel
theorem dX4_takeBranch_24 : decode cX4_takeBranch 24 = .ok (.aload_n 0, 1) := by decide +kernel
theorem dX4_takeBranch_25 : decode cX4_takeBranch 25 = .ok (.invokevirtual 48, 3) := by decide +kernel
theorem dX4_takeBranch_28 : decode cX4_takeBranch 28 = .ok (.invokestatic 102, 3) := by decide +kernel
theorem dX4_takeBranch_31 : decode cX4_takeBranch 31 = .ok (.istore_n 2, 1) := by decide +kernel
theorem dX4_takeBranch_32 : decode cX4_takeBranch 32 = .ok (.iload_n 2, 1) := by decide +kernel
theorem dX4_takeBranch_33 : decode cX4_takeBranch 33 = .ok (.iconst (-1), 1) := by decide +kernel
theorem dX4_takeBranch_34 : decode cX4_takeBranch 34 = .ok (.if_icmp .ne 9, 3) := by decide +kernel
theorem dX4_takeBranch_37 : decode cX4_takeBranch 37 = .ok (.aload_n 0, 1) := by decide +kernel
theorem dX4_takeBranch_38 : decode cX4_takeBranch 38 = .ok (.iconst 1, 1) := by decide +kernel
theorem dX4_takeBranch_39 : decode cX4_takeBranch 39 = .ok (.invokevirtual 52, 3) := by decide +kernel
theorem dX4_takeBranch_42 : decode cX4_takeBranch 42 = .ok (.ireturn, 1) := by decide +kernel
theorem dX4_takeBranch_43 : decode cX4_takeBranch 43 = .ok (.aload_n 0, 1) := by decide +kernel
theorem dX4_takeBranch_44 : decode cX4_takeBranch 44 = .ok (.dup, 1) := by decide +kernel
theorem dX4_takeBranch_45 : decode cX4_takeBranch 45 = .ok (.getfield 36, 3) := by decide +kernel
theorem dX4_takeBranch_48 : decode cX4_takeBranch 48 = .ok (.iconst 1, 1) := by decide +kernel
theorem dX4_takeBranch_49 : decode cX4_takeBranch 49 = .ok (.iadd, 1) := by decide +kernel
theorem dX4_takeBranch_50 : decode cX4_takeBranch 50 = .ok (.putfield 36, 3) := by decide +kernel
theorem dX4_takeBranch_53 : decode cX4_takeBranch 53 = .ok (.aload_n 0, 1) := by decide +kernel
theorem dX4_takeBranch_54 : decode cX4_takeBranch 54 = .ok (.getfield 22, 3) := by decide +kernel
theorem dX4_takeBranch_57 : decode cX4_takeBranch 57 = .ok (.getfield 106, 3) := by decide +kernel
theorem dX4_takeBranch_60 : decode cX4_takeBranch 60 = .ok (.iload_n 1, 1) := by decide +kernel
theorem dX4_takeBranch_61 : decode cX4_takeBranch 61 = .ok (.bipush 10, 2) := by decide +kernel
theorem dX4_takeBranch_63 : decode cX4_takeBranch 63 = .ok (.iload_n 2, 1) := by decide +kernel
theorem dX4_takeBranch_64 : decode cX4_takeBranch 64 = .ok (.iadd, 1) := by decide +kernel
theorem dX4_takeBranch_65 : decode cX4_takeBranch 65 = .ok (.iastore, 1) := by decide +kernel
theorem dX4_takeBranch_66 : decode cX4_takeBranch 66 = .ok (.aload_n 0, 1) := by decide +kernel
theorem dX4_takeBranch_67 : decode cX4_takeBranch 67 = .ok (.iconst 2, 1) := by decide +kernel
theorem dX4_takeBranch_68 : decode cX4_takeBranch 68 = .ok (.iload_n 1, 1) := by decide +kernel
theorem dX4_takeBranch_69 : decode cX4_takeBranch 69 = .ok (.imul, 1) := by decide +kernel
theorem dX4_takeBranch_70 : decode cX4_takeBranch 70 = .ok (.iconst 1, 1) := by decide +kernel
theorem dX4_takeBranch_71 : decode cX4_takeBranch 71 = .ok (.iadd, 1) := by decide +kernel
theorem dX4_takeBranch_72 : decode cX4_takeBranch 72 = .ok (.invokevirtual 94, 3) := by decide +kernel
theorem dX4_takeBranch_75 : decode cX4_takeBranch 75 = .ok (.ifCond .eq 12, 3) := by decide +kernel
theorem dX4_takeBranch_78 : decode cX4_takeBranch 78 = .ok (.aload_n 0, 1) := by decide +kernel
theorem dX4_takeBranch_79 : decode cX4_takeBranch 79 = .ok (.bipush 123, 2) := by decide +kernel
theorem dX4_takeBranch_81 : decode cX4_takeBranch 81 = .ok (.invokevirtual 97, 3) := by decide +kernel
theorem dX4_takeBranch_84 : decode cX4_takeBranch 84 = .ok (.ifCond .ne 5, 3) := by decide +kernel
theorem dX4_takeBranch_87 : decode cX4_takeBranch 87 = .ok (.iconst 0, 1) := by decide +kernel
theorem dX4_takeBranch_88 : decode cX4_takeBranch 88 = .ok (.ireturn, 1) := by decide +kernel
theorem dX4_takeBranch_89 : decode cX4_takeBranch 89 = .ok (.aload_n 0, 1) := by decide +kernel
theorem dX4_takeBranch_90 : decode cX4_takeBranch 90 = .ok (.getfield 26, 3) := by decide +kernel
theorem dX4_takeBranch_93 : decode cX4_takeBranch 93 = .ok (.aload_n 0, 1) := by decide +kernel
theorem dX4_takeBranch_94 : decode cX4_takeBranch 94 = .ok (.getfield 33, 3) := by decide +kernel
theorem dX4_takeBranch_97 : decode cX4_takeBranch 97 = .ok (.iload_n 1, 1) := by decide +kernel
theorem dX4_takeBranch_98 : decode cX4_takeBranch 98 = .ok (.iastore, 1) := by decide +kernel
theorem dX4_takeBranch_99 : decode cX4_takeBranch 99 = .ok (.aload_n 0, 1) := by decide +kernel
theorem dX4_takeBranch_100 : decode cX4_takeBranch 100 = .ok (.getfield 29, 3) := by decide +kernel
theorem dX4_takeBranch_103 : decode cX4_takeBranch 103 = .ok (.aload_n 0, 1) := by decide +kernel
theorem dX4_takeBranch_104 : decode cX4_takeBranch 104 = .ok (.getfield 33, 3) := by decide +kernel
theorem dX4_takeBranch_107 : decode cX4_takeBranch 107 = .ok (.iconst 0, 1) := by decide +kernel
theorem dX4_takeBranch_108 : decode cX4_takeBranch 108 = .ok (.bastore, 1) := by decide +kernel
theorem dX4_takeBranch_109 : decode cX4_takeBranch 109 = .ok (.aload_n 0, 1) := by decide +kernel
theorem dX4_takeBranch_110 : decode cX4_takeBranch 110 = .ok (.dup, 1) := by decide +kernel
theorem dX4_takeBranch_111 : decode cX4_takeBranch 111 = .ok (.getfield 33, 3) := by decide +kernel
theorem dX4_takeBranch_114 : decode cX4_takeBranch 114 = .ok (.iconst 1, 1) := by decide +kernel
theorem dX4_takeBranch_115 : decode cX4_takeBranch 115 = .ok (.iadd, 1) := by decide +kernel
theorem dX4_takeBranch_116 : decode cX4_takeBranch 116 = .ok (.putfield 33, 3) := by decide +kernel
theorem dX4_takeBranch_119 : decode cX4_takeBranch 119 = .ok (.iconst 1, 1) := by decide +kernel
theorem dX4_takeBranch_120 : decode cX4_takeBranch 120 = .ok (.ireturn, 1) := by decide +kernel
theorem dX4_takeSetting_0 : decode cX4_takeSetting 0 = .ok (.aload_n 0, 1) := by decide +kernel
theorem dX4_takeSetting_1 : decode cX4_takeSetting 1 = .ok (.bipush 61, 2) := by decide +kernel
theorem dX4_takeSetting_3 : decode cX4_takeSetting 3 = .ok (.invokevirtual 97, 3) := by decide +kernel
theorem dX4_takeSetting_6 : decode cX4_takeSetting 6 = .ok (.ifCond .ne 5, 3) := by decide +kernel
theorem dX4_takeSetting_9 : decode cX4_takeSetting 9 = .ok (.iconst 0, 1) := by decide +kernel
theorem dX4_takeSetting_10 : decode cX4_takeSetting 10 = .ok (.ireturn, 1) := by decide +kernel
theorem dX4_takeSetting_11 : decode cX4_takeSetting 11 = .ok (.aload_n 0, 1) := by decide +kernel
theorem dX4_takeSetting_12 : decode cX4_takeSetting 12 = .ok (.invokevirtual 48, 3) := by decide +kernel
theorem dX4_takeSetting_15 : decode cX4_takeSetting 15 = .ok (.bipush 64, 2) := by decide +kernel
theorem dX4_takeSetting_17 : decode cX4_takeSetting 17 = .ok (.if_icmp .ne 48, 3) := by decide +kernel
theorem dX4_takeSetting_20 : decode cX4_takeSetting 20 = .ok (.aload_n 0, 1) := by decide +kernel
theorem dX4_takeSetting_21 : decode cX4_takeSetting 21 = .ok (.dup, 1) := by decide +kernel
theorem dX4_takeSetting_22 : decode cX4_takeSetting 22 = .ok (.getfield 36, 3) := by decide +kernel
theorem dX4_takeSetting_25 : decode cX4_takeSetting 25 = .ok (.iconst 1, 1) := by decide +kernel
theorem dX4_takeSetting_26 : decode cX4_takeSetting 26 = .ok (.iadd, 1) := by decide +kernel
theorem dX4_takeSetting_27 : decode cX4_takeSetting 27 = .ok (.putfield 36, 3) := by decide +kernel
theorem dX4_takeSetting_30 : decode cX4_takeSetting 30 = .ok (.aload_n 0, 1) := by decide +kernel
theorem dX4_takeSetting_31 : decode cX4_takeSetting 31 = .ok (.getfield 22, 3) := by decide +kernel
theorem dX4_takeSetting_34 : decode cX4_takeSetting 34 = .ok (.getfield 91, 3) := by decide +kernel
theorem dX4_takeSetting_37 : decode cX4_takeSetting 37 = .ok (.iload_n 1, 1) := by decide +kernel
theorem dX4_takeSetting_38 : decode cX4_takeSetting 38 = .ok (.iconst 2, 1) := by decide +kernel
theorem dX4_takeSetting_39 : decode cX4_takeSetting 39 = .ok (.iastore, 1) := by decide +kernel
theorem dX4_takeSetting_40 : decode cX4_takeSetting 40 = .ok (.aload_n 0, 1) := by decide +kernel
theorem dX4_takeSetting_41 : decode cX4_takeSetting 41 = .ok (.iconst 2, 1) := by decide +kernel
theorem dX4_takeSetting_42 : decode cX4_takeSetting 42 = .ok (.iload_n 1, 1) := by decide +kernel
theorem dX4_takeSetting_43 : decode cX4_takeSetting 43 = .ok (.imul, 1) := by decide +kernel
theorem dX4_takeSetting_44 : decode cX4_takeSetting 44 = .ok (.invokevirtual 94, 3) := by decide +kernel
theorem dX4_takeSetting_47 : decode cX4_takeSetting 47 = .ok (.ifCond .eq 16, 3) := by decide +kernel
theorem dX4_takeSetting_50 : decode cX4_takeSetting 50 = .ok (.aload_n 0, 1) := by decide +kernel
theorem dX4_takeSetting_51 : decode cX4_takeSetting 51 = .ok (.bipush 59, 2) := by decide +kernel
theorem dX4_takeSetting_53 : decode cX4_takeSetting 53 = .ok (.invokevirtual 97, 3) := by decide +kernel
theorem dX4_takeSetting_56 : decode cX4_takeSetting 56 = .ok (.ifCond .eq 7, 3) := by decide +kernel
theorem dX4_takeSetting_59 : decode cX4_takeSetting 59 = .ok (.iconst 1, 1) := by decide +kernel
theorem dX4_takeSetting_60 : decode cX4_takeSetting 60 = .ok (.goto 4, 3) := by decide +kernel
theorem dX4_takeSetting_63 : decode cX4_takeSetting 63 = .ok (.iconst 0, 1) := by decide +kernel
theorem dX4_takeSetting_64 : decode cX4_takeSetting 64 = .ok (.ireturn, 1) := by decide +kernel
theorem dX4_takeSetting_65 : decode cX4_takeSetting 65 = .ok (.aload_n 0, 1) := by decide +kernel
theorem dX4_takeSetting_66 : decode cX4_takeSetting 66 = .ok (.iconst 2, 1) := by decide +kernel
theorem dX4_takeSetting_67 : decode cX4_takeSetting 67 = .ok (.iload_n 1, 1) := by decide +kernel
theorem dX4_takeSetting_68 : decode cX4_takeSetting 68 = .ok (.imul, 1) := by decide +kernel
theorem dX4_takeSetting_69 : decode cX4_takeSetting 69 = .ok (.invokevirtual 94, 3) := by decide +kernel
theorem dX4_takeSetting_72 : decode cX4_takeSetting 72 = .ok (.ifCond .ne 5, 3) := by decide +kernel
theorem dX4_takeSetting_75 : decode cX4_takeSetting 75 = .ok (.iconst 0, 1) := by decide +kernel
theorem dX4_takeSetting_76 : decode cX4_takeSetting 76 = .ok (.ireturn, 1) := by decide +kernel
theorem dX4_takeSetting_77 : decode cX4_takeSetting 77 = .ok (.ldc 109, 2) := by decide +kernel
theorem dX4_takeSetting_79 : decode cX4_takeSetting 79 = .ok (.aload_n 0, 1) := by decide +kernel
theorem dX4_takeSetting_80 : decode cX4_takeSetting 80 = .ok (.invokevirtual 48, 3) := by decide +kernel
theorem dX4_takeSetting_83 : decode cX4_takeSetting 83 = .ok (.invokestatic 102, 3) := by decide +kernel
theorem dX4_takeSetting_86 : decode cX4_takeSetting 86 = .ok (.istore_n 2, 1) := by decide +kernel
theorem dX4_takeSetting_87 : decode cX4_takeSetting 87 = .ok (.iload_n 2, 1) := by decide +kernel
theorem dX4_takeSetting_88 : decode cX4_takeSetting 88 = .ok (.iconst (-1), 1) := by decide +kernel
theorem dX4_takeSetting_89 : decode cX4_takeSetting 89 = .ok (.if_icmp .ne 10, 3) := by decide +kernel
theorem dX4_takeSetting_92 : decode cX4_takeSetting 92 = .ok (.aload_n 0, 1) := by decide +kernel
theorem dX4_takeSetting_93 : decode cX4_takeSetting 93 = .ok (.bipush 59, 2) := by decide +kernel
theorem dX4_takeSetting_95 : decode cX4_takeSetting 95 = .ok (.invokevirtual 97, 3) := by decide +kernel
theorem dX4_takeSetting_98 : decode cX4_takeSetting 98 = .ok (.ireturn, 1) := by decide +kernel
theorem dX4_takeSetting_99 : decode cX4_takeSetting 99 = .ok (.aload_n 0, 1) := by decide +kernel
theorem dX4_takeSetting_100 : decode cX4_takeSetting 100 = .ok (.dup, 1) := by decide +kernel
theorem dX4_takeSetting_101 : decode cX4_takeSetting 101 = .ok (.getfield 36, 3) := by decide +kernel
theorem dX4_takeSetting_104 : decode cX4_takeSetting 104 = .ok (.iconst 1, 1) := by decide +kernel
theorem dX4_takeSetting_105 : decode cX4_takeSetting 105 = .ok (.iadd, 1) := by decide +kernel
theorem dX4_takeSetting_106 : decode cX4_takeSetting 106 = .ok (.putfield 36, 3) := by decide +kernel
theorem dX4_takeSetting_109 : decode cX4_takeSetting 109 = .ok (.aload_n 0, 1) := by decide +kernel
theorem dX4_takeSetting_110 : decode cX4_takeSetting 110 = .ok (.getfield 22, 3) := by decide +kernel
theorem dX4_takeSetting_113 : decode cX4_takeSetting 113 = .ok (.getfield 91, 3) := by decide +kernel
theorem dX4_takeSetting_116 : decode cX4_takeSetting 116 = .ok (.iload_n 1, 1) := by decide +kernel
theorem dX4_takeSetting_117 : decode cX4_takeSetting 117 = .ok (.iconst 1, 1) := by decide +kernel
theorem dX4_takeSetting_118 : decode cX4_takeSetting 118 = .ok (.iastore, 1) := by decide +kernel
theorem dX4_takeSetting_119 : decode cX4_takeSetting 119 = .ok (.aload_n 0, 1) := by decide +kernel
theorem dX4_takeSetting_120 : decode cX4_takeSetting 120 = .ok (.getfield 22, 3) := by decide +kernel
theorem dX4_takeSetting_123 : decode cX4_takeSetting 123 = .ok (.getfield 106, 3) := by decide +kernel
theorem dX4_takeSetting_126 : decode cX4_takeSetting 126 = .ok (.iload_n 1, 1) := by decide +kernel
theorem dX4_takeSetting_127 : decode cX4_takeSetting 127 = .ok (.iconst 2, 1) := by decide +kernel
theorem dX4_takeSetting_128 : decode cX4_takeSetting 128 = .ok (.iload_n 2, 1) := by decide +kernel
theorem dX4_takeSetting_129 : decode cX4_takeSetting 129 = .ok (.iadd, 1) := by decide +kernel
theorem dX4_takeSetting_130 : decode cX4_takeSetting 130 = .ok (.iastore, 1) := by decide +kernel
theorem dX4_takeSetting_131 : decode cX4_takeSetting 131 = .ok (.aload_n 0, 1) := by decide +kernel
theorem dX4_takeSetting_132 : decode cX4_takeSetting 132 = .ok (.iconst 2, 1) := by decide +kernel
theorem dX4_takeSetting_133 : decode cX4_takeSetting 133 = .ok (.iload_n 1, 1) := by decide +kernel
theorem dX4_takeSetting_134 : decode cX4_takeSetting 134 = .ok (.imul, 1) := by decide +kernel
theorem dX4_takeSetting_135 : decode cX4_takeSetting 135 = .ok (.iconst 1, 1) := by decide +kernel
theorem dX4_takeSetting_136 : decode cX4_takeSetting 136 = .ok (.iadd, 1) := by decide +kernel
theorem dX4_takeSetting_137 : decode cX4_takeSetting 137 = .ok (.invokevirtual 94, 3) := by decide +kernel
theorem dX4_takeSetting_140 : decode cX4_takeSetting 140 = .ok (.ifCond .eq 16, 3) := by decide +kernel
theorem dX4_takeSetting_143 : decode cX4_takeSetting 143 = .ok (.aload_n 0, 1) := by decide +kernel
theorem dX4_takeSetting_144 : decode cX4_takeSetting 144 = .ok (.bipush 59, 2) := by decide +kernel
theorem dX4_takeSetting_146 : decode cX4_takeSetting 146 = .ok (.invokevirtual 97, 3) := by decide +kernel
theorem dX4_takeSetting_149 : decode cX4_takeSetting 149 = .ok (.ifCond .eq 7, 3) := by decide +kernel
theorem dX4_takeSetting_152 : decode cX4_takeSetting 152 = .ok (.iconst 1, 1) := by decide +kernel
theorem dX4_takeSetting_153 : decode cX4_takeSetting 153 = .ok (.goto 4, 3) := by decide +kernel
theorem dX4_takeSetting_156 : decode cX4_takeSetting 156 = .ok (.iconst 0, 1) := by decide +kernel
theorem dX4_takeSetting_157 : decode cX4_takeSetting 157 = .ok (.ireturn, 1) := by decide +kernel
theorem dX4_takeValue_0 : decode cX4_takeValue 0 = .ok (.aload_n 0, 1) := by decide +kernel
theorem dX4_takeValue_1 : decode cX4_takeValue 1 = .ok (.invokevirtual 48, 3) := by decide +kernel
theorem dX4_takeValue_4 : decode cX4_takeValue 4 = .ok (.istore_n 2, 1) := by decide +kernel
theorem dX4_takeValue_5 : decode cX4_takeValue 5 = .ok (.iload_n 2, 1) := by decide +kernel
theorem dX4_takeValue_6 : decode cX4_takeValue 6 = .ok (.invokestatic 69, 3) := by decide +kernel
theorem dX4_takeValue_9 : decode cX4_takeValue 9 = .ok (.ifCond .eq 28, 3) := by decide +kernel
theorem dX4_takeValue_12 : decode cX4_takeValue 12 = .ok (.aload_n 0, 1) := by decide +kernel
theorem dX4_takeValue_13 : decode cX4_takeValue 13 = .ok (.dup, 1) := by decide +kernel
theorem dX4_takeValue_14 : decode cX4_takeValue 14 = .ok (.getfield 36, 3) := by decide +kernel
theorem dX4_takeValue_17 : decode cX4_takeValue 17 = .ok (.iconst 1, 1) := by decide +kernel
theorem dX4_takeValue_18 : decode cX4_takeValue 18 = .ok (.iadd, 1) := by decide +kernel
theorem dX4_takeValue_19 : decode cX4_takeValue 19 = .ok (.putfield 36, 3) := by decide +kernel
theorem dX4_takeValue_22 : decode cX4_takeValue 22 = .ok (.aload_n 0, 1) := by decide +kernel
theorem dX4_takeValue_23 : decode cX4_takeValue 23 = .ok (.getfield 22, 3) := by decide +kernel
theorem dX4_takeValue_26 : decode cX4_takeValue 26 = .ok (.iload_n 1, 1) := by decide +kernel
theorem dX4_takeValue_27 : decode cX4_takeValue 27 = .ok (.iconst 1, 1) := by decide +kernel
theorem dX4_takeValue_28 : decode cX4_takeValue 28 = .ok (.iload_n 2, 1) := by decide +kernel
theorem dX4_takeValue_29 : decode cX4_takeValue 29 = .ok (.bipush 97, 2) := by decide +kernel
theorem dX4_takeValue_31 : decode cX4_takeValue 31 = .ok (.isub, 1) := by decide +kernel
theorem dX4_takeValue_32 : decode cX4_takeValue 32 = .ok (.invokevirtual 111, 3) := by decide +kernel
theorem dX4_takeValue_35 : decode cX4_takeValue 35 = .ok (.iconst 1, 1) := by decide +kernel
theorem dX4_takeValue_36 : decode cX4_takeValue 36 = .ok (.ireturn, 1) := by decide +kernel
theorem dX4_takeValue_37 : decode cX4_takeValue 37 = .ok (.iload_n 2, 1) := by decide +kernel
theorem dX4_takeValue_38 : decode cX4_takeValue 38 = .ok (.bipush 45, 2) := by decide +kernel
theorem dX4_takeValue_40 : decode cX4_takeValue 40 = .ok (.if_icmp .ne 7, 3) := by decide +kernel
theorem dX4_takeValue_43 : decode cX4_takeValue 43 = .ok (.iconst 1, 1) := by decide +kernel
theorem dX4_takeValue_44 : decode cX4_takeValue 44 = .ok (.goto 4, 3) := by decide +kernel
theorem dX4_takeValue_47 : decode cX4_takeValue 47 = .ok (.iconst 0, 1) := by decide +kernel
theorem dX4_takeValue_48 : decode cX4_takeValue 48 = .ok (.istore_n 3, 1) := by decide +kernel
theorem dX4_takeValue_49 : decode cX4_takeValue 49 = .ok (.iload_n 3, 1) := by decide +kernel
theorem dX4_takeValue_50 : decode cX4_takeValue 50 = .ok (.ifCond .eq 18, 3) := by decide +kernel
theorem dX4_takeValue_53 : decode cX4_takeValue 53 = .ok (.aload_n 0, 1) := by decide +kernel
theorem dX4_takeValue_54 : decode cX4_takeValue 54 = .ok (.dup, 1) := by decide +kernel
theorem dX4_takeValue_55 : decode cX4_takeValue 55 = .ok (.getfield 36, 3) := by decide +kernel
theorem dX4_takeValue_58 : decode cX4_takeValue 58 = .ok (.iconst 1, 1) := by decide +kernel
theorem dX4_takeValue_59 : decode cX4_takeValue 59 = .ok (.iadd, 1) := by decide +kernel
theorem dX4_takeValue_60 : decode cX4_takeValue 60 = .ok (.putfield 36, 3) := by decide +kernel
theorem dX4_takeValue_63 : decode cX4_takeValue 63 = .ok (.aload_n 0, 1) := by decide +kernel
theorem dX4_takeValue_64 : decode cX4_takeValue 64 = .ok (.invokevirtual 48, 3) := by decide +kernel
theorem dX4_takeValue_67 : decode cX4_takeValue 67 = .ok (.istore_n 2, 1) := by decide +kernel
theorem dX4_takeValue_68 : decode cX4_takeValue 68 = .ok (.iload_n 2, 1) := by decide +kernel
theorem dX4_takeValue_69 : decode cX4_takeValue 69 = .ok (.invokestatic 115, 3) := by decide +kernel
theorem dX4_takeValue_72 : decode cX4_takeValue 72 = .ok (.ifCond .eq 12, 3) := by decide +kernel
theorem dX4_takeValue_75 : decode cX4_takeValue 75 = .ok (.aload_n 0, 1) := by decide +kernel
theorem dX4_takeValue_76 : decode cX4_takeValue 76 = .ok (.iload_n 1, 1) := by decide +kernel
theorem dX4_takeValue_77 : decode cX4_takeValue 77 = .ok (.iload_n 3, 1) := by decide +kernel
theorem dX4_takeValue_78 : decode cX4_takeValue 78 = .ok (.invokevirtual 118, 3) := by decide +kernel
theorem dX4_takeValue_81 : decode cX4_takeValue 81 = .ok (.goto 8, 3) := by decide +kernel
theorem dX4_takeValue_84 : decode cX4_takeValue 84 = .ok (.aload_n 0, 1) := by decide +kernel
theorem dX4_takeValue_85 : decode cX4_takeValue 85 = .ok (.iconst 1, 1) := by decide +kernel
theorem dX4_takeValue_86 : decode cX4_takeValue 86 = .ok (.invokevirtual 52, 3) := by decide +kernel
theorem dX4_takeValue_89 : decode cX4_takeValue 89 = .ok (.ireturn, 1) := by decide +kernel
theorem dX4_takeNumber_0 : decode cX4_takeNumber 0 = .ok (.aload_n 0, 1) := by decide +kernel
theorem dX4_takeNumber_1 : decode cX4_takeNumber 1 = .ok (.getfield 36, 3) := by decide +kernel
theorem dX4_takeNumber_4 : decode cX4_takeNumber 4 = .ok (.istore_n 3, 1) := by decide +kernel
theorem dX4_takeNumber_5 : decode cX4_takeNumber 5 = .ok (.lconst 0, 1) := by decide +kernel
theorem dX4_takeNumber_6 : decode cX4_takeNumber 6 = .ok (.lstore 4, 2) := by decide +kernel
theorem dX4_takeNumber_8 : decode cX4_takeNumber 8 = .ok (.aload_n 0, 1) := by decide +kernel
theorem dX4_takeNumber_9 : decode cX4_takeNumber 9 = .ok (.getfield 36, 3) := by decide +kernel
theorem dX4_takeNumber_12 : decode cX4_takeNumber 12 = .ok (.aload_n 0, 1) := by decide +kernel
theorem dX4_takeNumber_13 : decode cX4_takeNumber 13 = .ok (.getfield 15, 3) := by decide +kernel
theorem dX4_takeNumber_16 : decode cX4_takeNumber 16 = .ok (.if_icmp .ge 59, 3) := by decide +kernel
theorem dX4_takeNumber_19 : decode cX4_takeNumber 19 = .ok (.aload_n 0, 1) := by decide +kernel
theorem dX4_takeNumber_20 : decode cX4_takeNumber 20 = .ok (.getfield 9, 3) := by decide +kernel
theorem dX4_takeNumber_23 : decode cX4_takeNumber 23 = .ok (.aload_n 0, 1) := by decide +kernel
theorem dX4_takeNumber_24 : decode cX4_takeNumber 24 = .ok (.getfield 36, 3) := by decide +kernel
theorem dX4_takeNumber_27 : decode cX4_takeNumber 27 = .ok (.iaload, 1) := by decide +kernel
theorem dX4_takeNumber_28 : decode cX4_takeNumber 28 = .ok (.invokestatic 115, 3) := by decide +kernel
theorem dX4_takeNumber_31 : decode cX4_takeNumber 31 = .ok (.ifCond .eq 44, 3) := by decide +kernel
theorem dX4_takeNumber_34 : decode cX4_takeNumber 34 = .ok (.lload 4, 2) := by decide +kernel
theorem dX4_takeNumber_36 : decode cX4_takeNumber 36 = .ok (.ldc2_w 122, 3) := by decide +kernel
theorem dX4_takeNumber_39 : decode cX4_takeNumber 39 = .ok (.lmul, 1) := by decide +kernel
theorem dX4_takeNumber_40 : decode cX4_takeNumber 40 = .ok (.aload_n 0, 1) := by decide +kernel
theorem dX4_takeNumber_41 : decode cX4_takeNumber 41 = .ok (.getfield 9, 3) := by decide +kernel
theorem dX4_takeNumber_44 : decode cX4_takeNumber 44 = .ok (.aload_n 0, 1) := by decide +kernel
theorem dX4_takeNumber_45 : decode cX4_takeNumber 45 = .ok (.getfield 36, 3) := by decide +kernel
theorem dX4_takeNumber_48 : decode cX4_takeNumber 48 = .ok (.iaload, 1) := by decide +kernel
theorem dX4_takeNumber_49 : decode cX4_takeNumber 49 = .ok (.bipush 48, 2) := by decide +kernel
theorem dX4_takeNumber_51 : decode cX4_takeNumber 51 = .ok (.isub, 1) := by decide +kernel
theorem dX4_takeNumber_52 : decode cX4_takeNumber 52 = .ok (.i2l, 1) := by decide +kernel
theorem dX4_takeNumber_53 : decode cX4_takeNumber 53 = .ok (.ladd, 1) := by decide +kernel
theorem dX4_takeNumber_54 : decode cX4_takeNumber 54 = .ok (.ldc2_w 124, 3) := by decide +kernel
theorem dX4_takeNumber_57 : decode cX4_takeNumber 57 = .ok (.invokestatic 126, 3) := by decide +kernel
theorem dX4_takeNumber_60 : decode cX4_takeNumber 60 = .ok (.lstore 4, 2) := by decide +kernel
theorem dX4_takeNumber_62 : decode cX4_takeNumber 62 = .ok (.aload_n 0, 1) := by decide +kernel
theorem dX4_takeNumber_63 : decode cX4_takeNumber 63 = .ok (.dup, 1) := by decide +kernel
theorem dX4_takeNumber_64 : decode cX4_takeNumber 64 = .ok (.getfield 36, 3) := by decide +kernel
theorem dX4_takeNumber_67 : decode cX4_takeNumber 67 = .ok (.iconst 1, 1) := by decide +kernel
theorem dX4_takeNumber_68 : decode cX4_takeNumber 68 = .ok (.iadd, 1) := by decide +kernel
theorem dX4_takeNumber_69 : decode cX4_takeNumber 69 = .ok (.putfield 36, 3) := by decide +kernel
theorem dX4_takeNumber_72 : decode cX4_takeNumber 72 = .ok (.goto (-64), 3) := by decide +kernel
theorem dX4_takeNumber_75 : decode cX4_takeNumber 75 = .ok (.lload 4, 2) := by decide +kernel
theorem dX4_takeNumber_77 : decode cX4_takeNumber 77 = .ok (.ldc2_w 124, 3) := by decide +kernel
theorem dX4_takeNumber_80 : decode cX4_takeNumber 80 = .ok (.lcmp, 1) := by decide +kernel
theorem dX4_takeNumber_81 : decode cX4_takeNumber 81 = .ok (.ifCond .lt 14, 3) := by decide +kernel
theorem dX4_takeNumber_84 : decode cX4_takeNumber 84 = .ok (.aload_n 0, 1) := by decide +kernel
theorem dX4_takeNumber_85 : decode cX4_takeNumber 85 = .ok (.iload_n 3, 1) := by decide +kernel
theorem dX4_takeNumber_86 : decode cX4_takeNumber 86 = .ok (.putfield 36, 3) := by decide +kernel
theorem dX4_takeNumber_89 : decode cX4_takeNumber 89 = .ok (.aload_n 0, 1) := by decide +kernel
theorem dX4_takeNumber_90 : decode cX4_takeNumber 90 = .ok (.iconst 2, 1) := by decide +kernel
theorem dX4_takeNumber_91 : decode cX4_takeNumber 91 = .ok (.invokevirtual 52, 3) := by decide +kernel
theorem dX4_takeNumber_94 : decode cX4_takeNumber 94 = .ok (.ireturn, 1) := by decide +kernel
theorem dX4_takeNumber_95 : decode cX4_takeNumber 95 = .ok (.aload_n 0, 1) := by decide +kernel
theorem dX4_takeNumber_96 : decode cX4_takeNumber 96 = .ok (.getfield 22, 3) := by decide +kernel
theorem dX4_takeNumber_99 : decode cX4_takeNumber 99 = .ok (.iload_n 1, 1) := by decide +kernel
theorem dX4_takeNumber_100 : decode cX4_takeNumber 100 = .ok (.iconst 0, 1) := by decide +kernel
theorem dX4_takeNumber_101 : decode cX4_takeNumber 101 = .ok (.iload_n 2, 1) := by decide +kernel
theorem dX4_takeNumber_102 : decode cX4_takeNumber 102 = .ok (.ifCond .eq 9, 3) := by decide +kernel
theorem dX4_takeNumber_105 : decode cX4_takeNumber 105 = .ok (.lload 4, 2) := by decide +kernel
theorem dX4_takeNumber_107 : decode cX4_takeNumber 107 = .ok (.lneg, 1) := by decide +kernel
theorem dX4_takeNumber_108 : decode cX4_takeNumber 108 = .ok (.goto 5, 3) := by decide +kernel
theorem dX4_takeNumber_111 : decode cX4_takeNumber 111 = .ok (.lload 4, 2) := by decide +kernel
theorem dX4_takeNumber_113 : decode cX4_takeNumber 113 = .ok (.l2i, 1) := by decide +kernel
theorem dX4_takeNumber_114 : decode cX4_takeNumber 114 = .ok (.invokevirtual 111, 3) := by decide +kernel
theorem dX4_takeNumber_117 : decode cX4_takeNumber 117 = .ok (.iconst 1, 1) := by decide +kernel
theorem dX4_takeNumber_118 : decode cX4_takeNumber 118 = .ok (.ireturn, 1) := by decide +kernel
theorem dX4_isVariable_0 : decode cX4_isVariable 0 = .ok (.iload_n 0, 1) := by decide +kernel
theorem dX4_isVariable_1 : decode cX4_isVariable 1 = .ok (.bipush 97, 2) := by decide +kernel
theorem dX4_isVariable_3 : decode cX4_isVariable 3 = .ok (.if_icmp .lt 13, 3) := by decide +kernel
theorem dX4_isVariable_6 : decode cX4_isVariable 6 = .ok (.iload_n 0, 1) := by decide +kernel
theorem dX4_isVariable_7 : decode cX4_isVariable 7 = .ok (.bipush 113, 2) := by decide +kernel
theorem dX4_isVariable_9 : decode cX4_isVariable 9 = .ok (.if_icmp .ge 7, 3) := by decide +kernel
theorem dX4_isVariable_12 : decode cX4_isVariable 12 = .ok (.iconst 1, 1) := by decide +kernel
theorem dX4_isVariable_13 : decode cX4_isVariable 13 = .ok (.goto 4, 3) := by decide +kernel
theorem dX4_isVariable_16 : decode cX4_isVariable 16 = .ok (.iconst 0, 1) := by decide +kernel
theorem dX4_isVariable_17 : decode cX4_isVariable 17 = .ok (.ireturn, 1) := by decide +kernel
theorem dX4_isFigure_0 : decode cX4_isFigure 0 = .ok (.iload_n 0, 1) := by decide +kernel
theorem dX4_isFigure_1 : decode cX4_isFigure 1 = .ok (.bipush 48, 2) := by decide +kernel
theorem dX4_isFigure_3 : decode cX4_isFigure 3 = .ok (.if_icmp .lt 13, 3) := by decide +kernel
theorem dX4_isFigure_6 : decode cX4_isFigure 6 = .ok (.iload_n 0, 1) := by decide +kernel
theorem dX4_isFigure_7 : decode cX4_isFigure 7 = .ok (.bipush 57, 2) := by decide +kernel
theorem dX4_isFigure_9 : decode cX4_isFigure 9 = .ok (.if_icmp .gt 7, 3) := by decide +kernel
theorem dX4_isFigure_12 : decode cX4_isFigure 12 = .ok (.iconst 1, 1) := by decide +kernel
theorem dX4_isFigure_13 : decode cX4_isFigure 13 = .ok (.goto 4, 3) := by decide +kernel
theorem dX4_isFigure_16 : decode cX4_isFigure 16 = .ok (.iconst 0, 1) := by decide +kernel
theorem dX4_isFigure_17 : decode cX4_isFigure 17 = .ok (.ireturn, 1) := by decide +kernel
theorem dX4_placeIn_0 : decode cX4_placeIn 0 = .ok (.iconst 0, 1) := by decide +kernel
theorem dX4_placeIn_1 : decode cX4_placeIn 1 = .ok (.istore_n 2, 1) := by decide +kernel
theorem dX4_placeIn_2 : decode cX4_placeIn 2 = .ok (.iload_n 2, 1) := by decide +kernel
theorem dX4_placeIn_3 : decode cX4_placeIn 3 = .ok (.aload_n 0, 1) := by decide +kernel
theorem dX4_placeIn_4 : decode cX4_placeIn 4 = .ok (.invokevirtual 132, 3) := by decide +kernel
theorem dX4_placeIn_7 : decode cX4_placeIn 7 = .ok (.if_icmp .ge 20, 3) := by decide +kernel
theorem dX4_placeIn_10 : decode cX4_placeIn 10 = .ok (.aload_n 0, 1) := by decide +kernel
theorem dX4_placeIn_11 : decode cX4_placeIn 11 = .ok (.iload_n 2, 1) := by decide +kernel
theorem dX4_placeIn_12 : decode cX4_placeIn 12 = .ok (.invokevirtual 136, 3) := by decide +kernel
theorem dX4_placeIn_15 : decode cX4_placeIn 15 = .ok (.iload_n 1, 1) := by decide +kernel
theorem dX4_placeIn_16 : decode cX4_placeIn 16 = .ok (.if_icmp .ne 5, 3) := by decide +kernel
theorem dX4_placeIn_19 : decode cX4_placeIn 19 = .ok (.iload_n 2, 1) := by decide +kernel
theorem dX4_placeIn_20 : decode cX4_placeIn 20 = .ok (.ireturn, 1) := by decide +kernel
theorem dX4_placeIn_21 : decode cX4_placeIn 21 = .ok (.iinc 2 1, 3) := by decide +kernel
theorem dX4_placeIn_24 : decode cX4_placeIn 24 = .ok (.goto (-22), 3) := by decide +kernel
theorem dX4_placeIn_27 : decode cX4_placeIn 27 = .ok (.iconst (-1), 1) := by decide +kernel
theorem dX4_placeIn_28 : decode cX4_placeIn 28 = .ok (.ireturn, 1) := by decide +kernel
theorem dX5_init_0 : decode cX5_init 0 = .ok (.aload_n 0, 1) := by decide +kernel
theorem dX5_init_1 : decode cX5_init 1 = .ok (.invokespecial 3, 3) := by decide +kernel
theorem dX5_init_4 : decode cX5_init 4 = .ok (.aload_n 0, 1) := by decide +kernel
theorem dX5_init_5 : decode cX5_init 5 = .ok (.bipush 16, 2) := by decide +kernel
theorem dX5_init_7 : decode cX5_init 7 = .ok (.newarray .int, 2) := by decide +kernel
theorem dX5_init_9 : decode cX5_init 9 = .ok (.putfield 9, 3) := by decide +kernel
theorem dX5_init_12 : decode cX5_init 12 = .ok (.aload_n 0, 1) := by decide +kernel
theorem dX5_init_13 : decode cX5_init 13 = .ok (.bipush 32, 2) := by decide +kernel
theorem dX5_init_15 : decode cX5_init 15 = .ok (.newarray .int, 2) := by decide +kernel
theorem dX5_init_17 : decode cX5_init 17 = .ok (.putfield 13, 3) := by decide +kernel
theorem dX5_init_20 : decode cX5_init 20 = .ok (.aload_n 0, 1) := by decide +kernel
theorem dX5_init_21 : decode cX5_init 21 = .ok (.new 16, 3) := by decide +kernel
theorem dX5_init_24 : decode cX5_init 24 = .ok (.dup, 1) := by decide +kernel
theorem dX5_init_25 : decode cX5_init 25 = .ok (.invokespecial 18, 3) := by decide +kernel
theorem dX5_init_28 : decode cX5_init 28 = .ok (.putfield 19, 3) := by decide +kernel
theorem dX5_init_31 : decode cX5_init 31 = .ok (.aload_n 0, 1) := by decide +kernel
theorem dX5_init_32 : decode cX5_init 32 = .ok (.new 23, 3) := by decide +kernel
theorem dX5_init_35 : decode cX5_init 35 = .ok (.dup, 1) := by decide +kernel
theorem dX5_init_36 : decode cX5_init 36 = .ok (.invokespecial 25, 3) := by decide +kernel
theorem dX5_init_39 : decode cX5_init 39 = .ok (.putfield 26, 3) := by decide +kernel
theorem dX5_init_42 : decode cX5_init 42 = .ok (.aload_n 0, 1) := by decide +kernel
theorem dX5_init_43 : decode cX5_init 43 = .ok (.new 30, 3) := by decide +kernel
theorem dX5_init_46 : decode cX5_init 46 = .ok (.dup, 1) := by decide +kernel
theorem dX5_init_47 : decode cX5_init 47 = .ok (.invokespecial 32, 3) := by decide +kernel
theorem dX5_init_50 : decode cX5_init 50 = .ok (.putfield 33, 3) := by decide +kernel
theorem dX5_init_53 : decode cX5_init 53 = .ok (.aload_n 0, 1) := by decide +kernel
theorem dX5_init_54 : decode cX5_init 54 = .ok (.aload_n 0, 1) := by decide +kernel
theorem dX5_init_55 : decode cX5_init 55 = .ok (.getfield 33, 3) := by decide +kernel
theorem dX5_init_58 : decode cX5_init 58 = .ok (.getfield 37, 3) := by decide +kernel
theorem dX5_init_61 : decode cX5_init 61 = .ok (.putfield 41, 3) := by decide +kernel
theorem dX5_init_64 : decode cX5_init 64 = .ok (.aload_n 0, 1) := by decide +kernel
theorem dX5_init_65 : decode cX5_init 65 = .ok (.iconst 0, 1) := by decide +kernel
theorem dX5_init_66 : decode cX5_init 66 = .ok (.putfield 42, 3) := by decide +kernel
theorem dX5_init_69 : decode cX5_init 69 = .ok (.aload_n 0, 1) := by decide +kernel
theorem dX5_init_70 : decode cX5_init 70 = .ok (.new 46, 3) := by decide +kernel
theorem dX5_init_73 : decode cX5_init 73 = .ok (.dup, 1) := by decide +kernel
theorem dX5_init_74 : decode cX5_init 74 = .ok (.invokespecial 48, 3) := by decide +kernel
theorem dX5_init_77 : decode cX5_init 77 = .ok (.putfield 49, 3) := by decide +kernel
theorem dX5_init_80 : decode cX5_init 80 = .ok (.return_, 1) := by decide +kernel
theorem dX5_variable_0 : decode cX5_variable 0 = .ok (.iload_n 1, 1) := by decide +kernel
theorem dX5_variable_1 : decode cX5_variable 1 = .ok (.ifCond .lt 9, 3) := by decide +kernel
theorem dX5_variable_4 : decode cX5_variable 4 = .ok (.iload_n 1, 1) := by decide +kernel
theorem dX5_variable_5 : decode cX5_variable 5 = .ok (.bipush 16, 2) := by decide +kernel
theorem dX5_variable_7 : decode cX5_variable 7 = .ok (.if_icmp .lt 13, 3) := by decide +kernel
theorem dX5_variable_10 : decode cX5_variable 10 = .ok (.new 53, 3) := by decide +kernel
theorem dX5_variable_13 : decode cX5_variable 13 = .ok (.dup, 1) := by decide +kernel
theorem dX5_variable_14 : decode cX5_variable 14 = .ok (.ldc 55, 2) := by decide +kernel
theorem dX5_variable_16 : decode cX5_variable 16 = .ok (.invokespecial 57, 3) := by decide +kernel
theorem dX5_variable_19 : decode cX5_variable 19 = .ok (.athrow, 1) := by decide +kernel
theorem dX5_variable_20 : decode cX5_variable 20 = .ok (.aload_n 0, 1) := by decide +kernel
theorem dX5_variable_21 : decode cX5_variable 21 = .ok (.getfield 9, 3) := by decide +kernel
theorem dX5_variable_24 : decode cX5_variable 24 = .ok (.iload_n 1, 1) := by decide +kernel
theorem dX5_variable_25 : decode cX5_variable 25 = .ok (.iload_n 2, 1) := by decide +kernel
theorem dX5_variable_26 : decode cX5_variable 26 = .ok (.iastore, 1) := by decide +kernel
theorem dX5_variable_27 : decode cX5_variable 27 = .ok (.return_, 1) := by decide +kernel
theorem dX5_word_0 : decode cX5_word 0 = .ok (.iload_n 1, 1) := by decide +kernel
theorem dX5_word_1 : decode cX5_word 1 = .ok (.ifCond .lt 9, 3) := by decide +kernel
theorem dX5_word_4 : decode cX5_word 4 = .ok (.iload_n 1, 1) := by decide +kernel
theorem dX5_word_5 : decode cX5_word 5 = .ok (.bipush 32, 2) := by decide +kernel
theorem dX5_word_7 : decode cX5_word 7 = .ok (.if_icmp .lt 13, 3) := by decide +kernel
theorem dX5_word_10 : decode cX5_word 10 = .ok (.new 53, 3) := by decide +kernel
theorem dX5_word_13 : decode cX5_word 13 = .ok (.dup, 1) := by decide +kernel
theorem dX5_word_14 : decode cX5_word 14 = .ok (.ldc 60, 2) := by decide +kernel
theorem dX5_word_16 : decode cX5_word 16 = .ok (.invokespecial 57, 3) := by decide +kernel
theorem dX5_word_19 : decode cX5_word 19 = .ok (.athrow, 1) := by decide +kernel
theorem dX5_word_20 : decode cX5_word 20 = .ok (.aload_n 0, 1) := by decide +kernel
theorem dX5_word_21 : decode cX5_word 21 = .ok (.getfield 13, 3) := by decide +kernel
theorem dX5_word_24 : decode cX5_word 24 = .ok (.iload_n 1, 1) := by decide +kernel
theorem dX5_word_25 : decode cX5_word 25 = .ok (.iload_n 2, 1) := by decide +kernel
theorem dX5_word_26 : decode cX5_word 26 = .ok (.iastore, 1) := by decide +kernel
theorem dX5_word_27 : decode cX5_word 27 = .ok (.return_, 1) := by decide +kernel
theorem dX5_feed_0 : decode cX5_feed 0 = .ok (.iload_n 3, 1) := by decide +kernel
theorem dX5_feed_1 : decode cX5_feed 1 = .ok (.iconst 1, 1) := by decide +kernel
theorem dX5_feed_2 : decode cX5_feed 2 = .ok (.if_icmp .lt 9, 3) := by decide +kernel
theorem dX5_feed_5 : decode cX5_feed 5 = .ok (.iload_n 3, 1) := by decide +kernel
theorem dX5_feed_6 : decode cX5_feed 6 = .ok (.bipush 8, 2) := by decide +kernel
theorem dX5_feed_8 : decode cX5_feed 8 = .ok (.if_icmp .le 13, 3) := by decide +kernel
theorem dX5_feed_11 : decode cX5_feed 11 = .ok (.new 62, 3) := by decide +kernel
theorem dX5_feed_14 : decode cX5_feed 14 = .ok (.dup, 1) := by decide +kernel
theorem dX5_feed_15 : decode cX5_feed 15 = .ok (.ldc 64, 2) := by decide +kernel
theorem dX5_feed_17 : decode cX5_feed 17 = .ok (.invokespecial 66, 3) := by decide +kernel
theorem dX5_feed_20 : decode cX5_feed 20 = .ok (.athrow, 1) := by decide +kernel
theorem dX5_feed_21 : decode cX5_feed 21 = .ok (.aload_n 0, 1) := by decide +kernel
theorem dX5_feed_22 : decode cX5_feed 22 = .ok (.getfield 19, 3) := by decide +kernel
theorem dX5_feed_25 : decode cX5_feed 25 = .ok (.getfield 67, 3) := by decide +kernel
theorem dX5_feed_28 : decode cX5_feed 28 = .ok (.iload_n 3, 1) := by decide +kernel
theorem dX5_feed_29 : decode cX5_feed 29 = .ok (.iadd, 1) := by decide +kernel
theorem dX5_feed_30 : decode cX5_feed 30 = .ok (.sipush 600, 3) := by decide +kernel
theorem dX5_feed_33 : decode cX5_feed 33 = .ok (.if_icmp .le 13, 3) := by decide +kernel
theorem dX5_feed_36 : decode cX5_feed 36 = .ok (.new 71, 3) := by decide +kernel
theorem dX5_feed_39 : decode cX5_feed 39 = .ok (.dup, 1) := by decide +kernel
theorem dX5_feed_40 : decode cX5_feed 40 = .ok (.ldc 73, 2) := by decide +kernel
theorem dX5_feed_42 : decode cX5_feed 42 = .ok (.invokespecial 75, 3) := by decide +kernel
theorem dX5_feed_45 : decode cX5_feed 45 = .ok (.athrow, 1) := by decide +kernel
theorem dX5_feed_46 : decode cX5_feed 46 = .ok (.iload_n 3, 1) := by decide +kernel
theorem dX5_feed_47 : decode cX5_feed 47 = .ok (.iconst 1, 1) := by decide +kernel
theorem dX5_feed_48 : decode cX5_feed 48 = .ok (.isub, 1) := by decide +kernel
theorem dX5_feed_49 : decode cX5_feed 49 = .ok (.istore 4, 2) := by decide +kernel
theorem dX5_feed_51 : decode cX5_feed 51 = .ok (.iload 4, 2) := by decide +kernel
theorem dX5_feed_53 : decode cX5_feed 53 = .ok (.ifCond .lt 28, 3) := by decide +kernel
theorem dX5_feed_56 : decode cX5_feed 56 = .ok (.aload_n 0, 1) := by decide +kernel
theorem dX5_feed_57 : decode cX5_feed 57 = .ok (.getfield 19, 3) := by decide +kernel
theorem dX5_feed_60 : decode cX5_feed 60 = .ok (.lload_n 1, 1) := by decide +kernel
theorem dX5_feed_61 : decode cX5_feed 61 = .ok (.bipush 8, 2) := by decide +kernel
theorem dX5_feed_63 : decode cX5_feed 63 = .ok (.iload 4, 2) := by decide +kernel
theorem dX5_feed_65 : decode cX5_feed 65 = .ok (.imul, 1) := by decide +kernel
theorem dX5_feed_66 : decode cX5_feed 66 = .ok (.lushr, 1) := by decide +kernel
theorem dX5_feed_67 : decode cX5_feed 67 = .ok (.l2i, 1) := by decide +kernel
theorem dX5_feed_68 : decode cX5_feed 68 = .ok (.sipush 255, 3) := by decide +kernel
theorem dX5_feed_71 : decode cX5_feed 71 = .ok (.iand, 1) := by decide +kernel
theorem dX5_feed_72 : decode cX5_feed 72 = .ok (.invokevirtual 76, 3) := by decide +kernel
theorem dX5_feed_75 : decode cX5_feed 75 = .ok (.iinc 4 (-1), 3) := by decide +kernel
theorem dX5_feed_78 : decode cX5_feed 78 = .ok (.goto (-27), 3) := by decide +kernel
theorem dX5_feed_81 : decode cX5_feed 81 = .ok (.aload_n 0, 1) := by decide +kernel
theorem dX5_feed_82 : decode cX5_feed 82 = .ok (.getfield 19, 3) := by decide +kernel
theorem dX5_feed_85 : decode cX5_feed 85 = .ok (.getfield 67, 3) := by decide +kernel
theorem dX5_feed_88 : decode cX5_feed 88 = .ok (.ireturn, 1) := by decide +kernel
theorem dX5_read_0 : decode cX5_read 0 = .ok (.aload_n 0, 1) := by decide +kernel
theorem dX5_read_1 : decode cX5_read 1 = .ok (.getfield 19, 3) := by decide +kernel
theorem dX5_read_4 : decode cX5_read 4 = .ok (.invokevirtual 80, 3) := by decide +kernel
theorem dX5_read_7 : decode cX5_read 7 = .ok (.ifCond .ne 13, 3) := by decide +kernel
theorem dX5_read_10 : decode cX5_read 10 = .ok (.iconst (-1), 1) := by decide +kernel
theorem dX5_read_11 : decode cX5_read 11 = .ok (.aload_n 0, 1) := by decide +kernel
theorem dX5_read_12 : decode cX5_read 12 = .ok (.getfield 19, 3) := by decide +kernel
theorem dX5_read_15 : decode cX5_read 15 = .ok (.getfield 84, 3) := by decide +kernel
theorem dX5_read_18 : decode cX5_read 18 = .ok (.isub, 1) := by decide +kernel
theorem dX5_read_19 : decode cX5_read 19 = .ok (.ireturn, 1) := by decide +kernel
theorem dX5_read_20 : decode cX5_read 20 = .ok (.aload_n 0, 1) := by decide +kernel
theorem dX5_read_21 : decode cX5_read 21 = .ok (.aload_n 0, 1) := by decide +kernel
theorem dX5_read_22 : decode cX5_read 22 = .ok (.getfield 19, 3) := by decide +kernel
theorem dX5_read_25 : decode cX5_read 25 = .ok (.aload_n 0, 1) := by decide +kernel
theorem dX5_read_26 : decode cX5_read 26 = .ok (.getfield 26, 3) := by decide +kernel
theorem dX5_read_29 : decode cX5_read 29 = .ok (.invokevirtual 87, 3) := by decide +kernel
theorem dX5_read_32 : decode cX5_read 32 = .ok (.putfield 26, 3) := by decide +kernel
theorem dX5_read_35 : decode cX5_read 35 = .ok (.aload_n 0, 1) := by decide +kernel
theorem dX5_read_36 : decode cX5_read 36 = .ok (.iconst 0, 1) := by decide +kernel
theorem dX5_read_37 : decode cX5_read 37 = .ok (.putfield 42, 3) := by decide +kernel
theorem dX5_read_40 : decode cX5_read 40 = .ok (.aload_n 0, 1) := by decide +kernel
theorem dX5_read_41 : decode cX5_read 41 = .ok (.getfield 26, 3) := by decide +kernel
theorem dX5_read_44 : decode cX5_read 44 = .ok (.getfield 91, 3) := by decide +kernel
theorem dX5_read_47 : decode cX5_read 47 = .ok (.ireturn, 1) := by decide +kernel
theorem dX5_fault_0 : decode cX5_fault 0 = .ok (.aload_n 0, 1) := by decide +kernel
theorem dX5_fault_1 : decode cX5_fault 1 = .ok (.getfield 19, 3) := by decide +kernel
theorem dX5_fault_4 : decode cX5_fault 4 = .ok (.getfield 94, 3) := by decide +kernel
theorem dX5_fault_7 : decode cX5_fault 7 = .ok (.ireturn, 1) := by decide +kernel
theorem dX5_statement_0 : decode cX5_statement 0 = .ok (.iload_n 1, 1) := by decide +kernel
theorem dX5_statement_1 : decode cX5_statement 1 = .ok (.ifCond .lt 14, 3) := by decide +kernel
theorem dX5_statement_4 : decode cX5_statement 4 = .ok (.iload_n 1, 1) := by decide +kernel
theorem dX5_statement_5 : decode cX5_statement 5 = .ok (.aload_n 0, 1) := by decide +kernel
theorem dX5_statement_6 : decode cX5_statement 6 = .ok (.getfield 26, 3) := by decide +kernel
theorem dX5_statement_9 : decode cX5_statement 9 = .ok (.getfield 91, 3) := by decide +kernel
theorem dX5_statement_12 : decode cX5_statement 12 = .ok (.if_icmp .lt 13, 3) := by decide +kernel
theorem dX5_statement_15 : decode cX5_statement 15 = .ok (.new 53, 3) := by decide +kernel
theorem dX5_statement_18 : decode cX5_statement 18 = .ok (.dup, 1) := by decide +kernel
theorem dX5_statement_19 : decode cX5_statement 19 = .ok (.ldc 97, 2) := by decide +kernel
theorem dX5_statement_21 : decode cX5_statement 21 = .ok (.invokespecial 57, 3) := by decide +kernel
theorem dX5_statement_24 : decode cX5_statement 24 = .ok (.athrow, 1) := by decide +kernel
theorem dX5_statement_25 : decode cX5_statement 25 = .ok (.iload_n 2, 1) := by decide +kernel
theorem dX5_statement_26 : decode cX5_statement 26 = .ok (.tableswitch 95 0 3 #[30, 40, 50, 75], 30) := by decide +kernel
theorem dX5_statement_56 : decode cX5_statement 56 = .ok (.aload_n 0, 1) := by decide +kernel
theorem dX5_statement_57 : decode cX5_statement 57 = .ok (.getfield 26, 3) := by decide +kernel
theorem dX5_statement_60 : decode cX5_statement 60 = .ok (.getfield 99, 3) := by decide +kernel
theorem dX5_statement_63 : decode cX5_statement 63 = .ok (.iload_n 1, 1) := by decide +kernel
theorem dX5_statement_64 : decode cX5_statement 64 = .ok (.iaload, 1) := by decide +kernel
theorem dX5_statement_65 : decode cX5_statement 65 = .ok (.ireturn, 1) := by decide +kernel
theorem dX5_statement_66 : decode cX5_statement 66 = .ok (.aload_n 0, 1) := by decide +kernel
theorem dX5_statement_67 : decode cX5_statement 67 = .ok (.getfield 26, 3) := by decide +kernel
theorem dX5_statement_70 : decode cX5_statement 70 = .ok (.getfield 102, 3) := by decide +kernel
theorem dX5_statement_73 : decode cX5_statement 73 = .ok (.iload_n 1, 1) := by decide +kernel
theorem dX5_statement_74 : decode cX5_statement 74 = .ok (.iaload, 1) := by decide +kernel
theorem dX5_statement_75 : decode cX5_statement 75 = .ok (.ireturn, 1) := by decide +kernel
theorem dX5_statement_76 : decode cX5_statement 76 = .ok (.aload_n 0, 1) := by decide +kernel
theorem dX5_statement_77 : decode cX5_statement 77 = .ok (.getfield 42, 3) := by decide +kernel
theorem dX5_statement_80 : decode cX5_statement 80 = .ok (.ifCond .eq 19, 3) := by decide +kernel
theorem dX5_statement_83 : decode cX5_statement 83 = .ok (.aload_n 0, 1) := by decide +kernel
theorem dX5_statement_84 : decode cX5_statement 84 = .ok (.getfield 33, 3) := by decide +kernel
theorem dX5_statement_87 : decode cX5_statement 87 = .ok (.getfield 105, 3) := by decide +kernel
theorem dX5_statement_90 : decode cX5_statement 90 = .ok (.iload_n 1, 1) := by decide +kernel
theorem dX5_statement_91 : decode cX5_statement 91 = .ok (.baload, 1) := by decide +kernel
theorem dX5_statement_92 : decode cX5_statement 92 = .ok (.ifCond .eq 7, 3) := by decide +kernel
theorem dX5_statement_95 : decode cX5_statement 95 = .ok (.iconst 1, 1) := by decide +kernel
theorem dX5_statement_96 : decode cX5_statement 96 = .ok (.goto 4, 3) := by decide +kernel
theorem dX5_statement_99 : decode cX5_statement 99 = .ok (.iconst 0, 1) := by decide +kernel
theorem dX5_statement_100 : decode cX5_statement 100 = .ok (.ireturn, 1) := by decide +kernel
theorem dX5_statement_101 : decode cX5_statement 101 = .ok (.aload_n 0, 1) := by decide +kernel
theorem dX5_statement_102 : decode cX5_statement 102 = .ok (.getfield 42, 3) := by decide +kernel
theorem dX5_statement_105 : decode cX5_statement 105 = .ok (.ifCond .eq 14, 3) := by decide +kernel
theorem dX5_statement_108 : decode cX5_statement 108 = .ok (.aload_n 0, 1) := by decide +kernel
theorem dX5_statement_109 : decode cX5_statement 109 = .ok (.getfield 41, 3) := by decide +kernel
theorem dX5_statement_112 : decode cX5_statement 112 = .ok (.iload_n 1, 1) := by decide +kernel
theorem dX5_statement_113 : decode cX5_statement 113 = .ok (.invokevirtual 109, 3) := by decide +kernel
theorem dX5_statement_116 : decode cX5_statement 116 = .ok (.goto 4, 3) := by decide +kernel
theorem dX5_statement_119 : decode cX5_statement 119 = .ok (.iconst 0, 1) := by decide +kernel
theorem dX5_statement_120 : decode cX5_statement 120 = .ok (.ireturn, 1) := by decide +kernel
theorem dX5_statement_121 : decode cX5_statement 121 = .ok (.new 62, 3) := by decide +kernel
theorem dX5_statement_124 : decode cX5_statement 124 = .ok (.dup, 1) := by decide +kernel
theorem dX5_statement_125 : decode cX5_statement 125 = .ok (.ldc 115, 2) := by decide +kernel
theorem dX5_statement_127 : decode cX5_statement 127 = .ok (.invokespecial 66, 3) := by decide +kernel
theorem dX5_statement_130 : decode cX5_statement 130 = .ok (.athrow, 1) := by decide +kernel
theorem dX5_lower_0 : decode cX5_lower 0 = .ok (.iload_n 1, 1) := by decide +kernel
theorem dX5_lower_1 : decode cX5_lower 1 = .ok (.ifCond .lt 10, 3) := by decide +kernel
theorem dX5_lower_4 : decode cX5_lower 4 = .ok (.iload_n 1, 1) := by decide +kernel
theorem dX5_lower_5 : decode cX5_lower 5 = .ok (.sipush 400, 3) := by decide +kernel
theorem dX5_lower_8 : decode cX5_lower 8 = .ok (.if_icmp .le 13, 3) := by decide +kernel
theorem dX5_lower_11 : decode cX5_lower 11 = .ok (.new 62, 3) := by decide +kernel
theorem dX5_lower_14 : decode cX5_lower 14 = .ok (.dup, 1) := by decide +kernel
theorem dX5_lower_15 : decode cX5_lower 15 = .ok (.ldc 117, 2) := by decide +kernel
theorem dX5_lower_17 : decode cX5_lower 17 = .ok (.invokespecial 66, 3) := by decide +kernel
theorem dX5_lower_20 : decode cX5_lower 20 = .ok (.athrow, 1) := by decide +kernel
theorem dX5_lower_21 : decode cX5_lower 21 = .ok (.aload_n 0, 1) := by decide +kernel
theorem dX5_lower_22 : decode cX5_lower 22 = .ok (.getfield 33, 3) := by decide +kernel
theorem dX5_lower_25 : decode cX5_lower 25 = .ok (.aload_n 0, 1) := by decide +kernel
theorem dX5_lower_26 : decode cX5_lower 26 = .ok (.getfield 26, 3) := by decide +kernel
theorem dX5_lower_29 : decode cX5_lower 29 = .ok (.iload_n 1, 1) := by decide +kernel
theorem dX5_lower_30 : decode cX5_lower 30 = .ok (.invokevirtual 119, 3) := by decide +kernel
theorem dX5_lower_33 : decode cX5_lower 33 = .ok (.aload_n 0, 1) := by decide +kernel
theorem dX5_lower_34 : decode cX5_lower 34 = .ok (.iconst 1, 1) := by decide +kernel
theorem dX5_lower_35 : decode cX5_lower 35 = .ok (.putfield 42, 3) := by decide +kernel
theorem dX5_lower_38 : decode cX5_lower 38 = .ok (.aload_n 0, 1) := by decide +kernel
theorem dX5_lower_39 : decode cX5_lower 39 = .ok (.getfield 41, 3) := by decide +kernel
theorem dX5_lower_42 : decode cX5_lower 42 = .ok (.getfield 123, 3) := by decide +kernel
theorem dX5_lower_45 : decode cX5_lower 45 = .ok (.ireturn, 1) := by decide +kernel
theorem dX5_trim_0 : decode cX5_trim 0 = .ok (.aload_n 0, 1) := by decide +kernel
theorem dX5_trim_1 : decode cX5_trim 1 = .ok (.getfield 42, 3) := by decide +kernel
theorem dX5_trim_4 : decode cX5_trim 4 = .ok (.ifCond .eq 13, 3) := by decide +kernel
theorem dX5_trim_7 : decode cX5_trim 7 = .ok (.aload_n 0, 1) := by decide +kernel
theorem dX5_trim_8 : decode cX5_trim 8 = .ok (.getfield 41, 3) := by decide +kernel
theorem dX5_trim_11 : decode cX5_trim 11 = .ok (.invokevirtual 126, 3) := by decide +kernel
theorem dX5_trim_14 : decode cX5_trim 14 = .ok (.goto 4, 3) := by decide +kernel
theorem dX5_trim_17 : decode cX5_trim 17 = .ok (.iconst 0, 1) := by decide +kernel
theorem dX5_trim_18 : decode cX5_trim 18 = .ok (.ireturn, 1) := by decide +kernel
theorem dX5_step_0 : decode cX5_step 0 = .ok (.aload_n 0, 1) := by decide +kernel
theorem dX5_step_1 : decode cX5_step 1 = .ok (.getfield 42, 3) := by decide +kernel
theorem dX5_step_4 : decode cX5_step 4 = .ok (.ifCond .eq 18, 3) := by decide +kernel
theorem dX5_step_7 : decode cX5_step 7 = .ok (.iload_n 1, 1) := by decide +kernel
theorem dX5_step_8 : decode cX5_step 8 = .ok (.ifCond .lt 14, 3) := by decide +kernel
theorem dX5_step_11 : decode cX5_step 11 = .ok (.iload_n 1, 1) := by decide +kernel
theorem dX5_step_12 : decode cX5_step 12 = .ok (.aload_n 0, 1) := by decide +kernel
theorem dX5_step_13 : decode cX5_step 13 = .ok (.getfield 41, 3) := by decide +kernel
theorem dX5_step_16 : decode cX5_step 16 = .ok (.getfield 123, 3) := by decide +kernel
theorem dX5_step_19 : decode cX5_step 19 = .ok (.if_icmp .lt 13, 3) := by decide +kernel
theorem dX5_step_22 : decode cX5_step 22 = .ok (.new 53, 3) := by decide +kernel
theorem dX5_step_25 : decode cX5_step 25 = .ok (.dup, 1) := by decide +kernel
theorem dX5_step_26 : decode cX5_step 26 = .ok (.ldc 130, 2) := by decide +kernel
theorem dX5_step_28 : decode cX5_step 28 = .ok (.invokespecial 57, 3) := by decide +kernel
theorem dX5_step_31 : decode cX5_step 31 = .ok (.athrow, 1) := by decide +kernel
theorem dX5_step_32 : decode cX5_step 32 = .ok (.iload_n 2, 1) := by decide +kernel
theorem dX5_step_33 : decode cX5_step 33 = .ok (.ifCond .lt 9, 3) := by decide +kernel
theorem dX5_step_36 : decode cX5_step 36 = .ok (.iload_n 2, 1) := by decide +kernel
theorem dX5_step_37 : decode cX5_step 37 = .ok (.bipush 6, 2) := by decide +kernel
theorem dX5_step_39 : decode cX5_step 39 = .ok (.if_icmp .lt 13, 3) := by decide +kernel
theorem dX5_step_42 : decode cX5_step 42 = .ok (.new 62, 3) := by decide +kernel
theorem dX5_step_45 : decode cX5_step 45 = .ok (.dup, 1) := by decide +kernel
theorem dX5_step_46 : decode cX5_step 46 = .ok (.ldc 132, 2) := by decide +kernel
theorem dX5_step_48 : decode cX5_step 48 = .ok (.invokespecial 66, 3) := by decide +kernel
theorem dX5_step_51 : decode cX5_step 51 = .ok (.athrow, 1) := by decide +kernel
theorem dX5_step_52 : decode cX5_step 52 = .ok (.aload_n 0, 1) := by decide +kernel
theorem dX5_step_53 : decode cX5_step 53 = .ok (.getfield 41, 3) := by decide +kernel
theorem dX5_step_56 : decode cX5_step 56 = .ok (.getfield 134, 3) := by decide +kernel
theorem dX5_step_59 : decode cX5_step 59 = .ok (.iload_n 2, 1) := by decide +kernel
theorem dX5_step_60 : decode cX5_step 60 = .ok (.aaload, 1) := by decide +kernel
theorem dX5_step_61 : decode cX5_step 61 = .ok (.iload_n 1, 1) := by decide +kernel
theorem dX5_step_62 : decode cX5_step 62 = .ok (.iaload, 1) := by decide +kernel
theorem dX5_step_63 : decode cX5_step 63 = .ok (.ireturn, 1) := by decide +kernel
theorem dX5_tell_0 : decode cX5_tell 0 = .ok (.aload_n 0, 1) := by decide +kernel
theorem dX5_tell_1 : decode cX5_tell 1 = .ok (.getfield 49, 3) := by decide +kernel
theorem dX5_tell_4 : decode cX5_tell 4 = .ok (.aload_n 0, 1) := by decide +kernel
theorem dX5_tell_5 : decode cX5_tell 5 = .ok (.getfield 9, 3) := by decide +kernel
theorem dX5_tell_8 : decode cX5_tell 8 = .ok (.aload_n 0, 1) := by decide +kernel
theorem dX5_tell_9 : decode cX5_tell 9 = .ok (.getfield 13, 3) := by decide +kernel
theorem dX5_tell_12 : decode cX5_tell 12 = .ok (.invokevirtual 138, 3) := by decide +kernel
theorem dX5_tell_15 : decode cX5_tell 15 = .ok (.aload_n 0, 1) := by decide +kernel
theorem dX5_tell_16 : decode cX5_tell 16 = .ok (.getfield 49, 3) := by decide +kernel
theorem dX5_tell_19 : decode cX5_tell 19 = .ok (.aload_n 0, 1) := by decide +kernel
theorem dX5_tell_20 : decode cX5_tell 20 = .ok (.getfield 26, 3) := by decide +kernel
theorem dX5_tell_23 : decode cX5_tell 23 = .ok (.invokevirtual 142, 3) := by decide +kernel
theorem dX5_tell_26 : decode cX5_tell 26 = .ok (.aload_n 0, 1) := by decide +kernel
theorem dX5_tell_27 : decode cX5_tell 27 = .ok (.getfield 49, 3) := by decide +kernel
theorem dX5_tell_30 : decode cX5_tell 30 = .ok (.getfield 146, 3) := by decide +kernel
theorem dX5_tell_33 : decode cX5_tell 33 = .ok (.ireturn, 1) := by decide +kernel
theorem dX5_run_0 : decode cX5_run 0 = .ok (.aload_n 0, 1) := by decide +kernel
theorem dX5_run_1 : decode cX5_run 1 = .ok (.getfield 42, 3) := by decide +kernel
theorem dX5_run_4 : decode cX5_run 4 = .ok (.ifCond .ne 13, 3) := by decide +kernel
theorem dX5_run_7 : decode cX5_run 7 = .ok (.new 71, 3) := by decide +kernel
theorem dX5_run_10 : decode cX5_run 10 = .ok (.dup, 1) := by decide +kernel
theorem dX5_run_11 : decode cX5_run 11 = .ok (.ldc 149, 2) := by decide +kernel
theorem dX5_run_13 : decode cX5_run 13 = .ok (.invokespecial 75, 3) := by decide +kernel
theorem dX5_run_16 : decode cX5_run 16 = .ok (.athrow, 1) := by decide +kernel
theorem dX5_run_17 : decode cX5_run 17 = .ok (.aload_n 0, 1) := by decide +kernel
theorem dX5_run_18 : decode cX5_run 18 = .ok (.getfield 49, 3) := by decide +kernel
theorem dX5_run_21 : decode cX5_run 21 = .ok (.aload_n 0, 1) := by decide +kernel
theorem dX5_run_22 : decode cX5_run 22 = .ok (.getfield 9, 3) := by decide +kernel
theorem dX5_run_25 : decode cX5_run 25 = .ok (.aload_n 0, 1) := by decide +kernel
theorem dX5_run_26 : decode cX5_run 26 = .ok (.getfield 13, 3) := by decide +kernel
theorem dX5_run_29 : decode cX5_run 29 = .ok (.invokevirtual 138, 3) := by decide +kernel
theorem dX5_run_32 : decode cX5_run 32 = .ok (.aload_n 0, 1) := by decide +kernel
theorem dX5_run_33 : decode cX5_run 33 = .ok (.getfield 49, 3) := by decide +kernel
theorem dX5_run_36 : decode cX5_run 36 = .ok (.aload_n 0, 1) := by decide +kernel
theorem dX5_run_37 : decode cX5_run 37 = .ok (.getfield 41, 3) := by decide +kernel
theorem dX5_run_40 : decode cX5_run 40 = .ok (.invokevirtual 151, 3) := by decide +kernel
theorem dX5_run_43 : decode cX5_run 43 = .ok (.aload_n 0, 1) := by decide +kernel
theorem dX5_run_44 : decode cX5_run 44 = .ok (.getfield 49, 3) := by decide +kernel
theorem dX5_run_47 : decode cX5_run 47 = .ok (.getfield 146, 3) := by decide +kernel
theorem dX5_run_50 : decode cX5_run 50 = .ok (.ireturn, 1) := by decide +kernel
theorem dX5_left_0 : decode cX5_left 0 = .ok (.iload_n 1, 1) := by decide +kernel
theorem dX5_left_1 : decode cX5_left 1 = .ok (.ifCond .lt 9, 3) := by decide +kernel
theorem dX5_left_4 : decode cX5_left 4 = .ok (.iload_n 1, 1) := by decide +kernel
theorem dX5_left_5 : decode cX5_left 5 = .ok (.bipush 16, 2) := by decide +kernel
theorem dX5_left_7 : decode cX5_left 7 = .ok (.if_icmp .lt 13, 3) := by decide +kernel
theorem dX5_left_10 : decode cX5_left 10 = .ok (.new 53, 3) := by decide +kernel
theorem dX5_left_13 : decode cX5_left 13 = .ok (.dup, 1) := by decide +kernel
theorem dX5_left_14 : decode cX5_left 14 = .ok (.ldc 55, 2) := by decide +kernel
theorem dX5_left_16 : decode cX5_left 16 = .ok (.invokespecial 57, 3) := by decide +kernel
theorem dX5_left_19 : decode cX5_left 19 = .ok (.athrow, 1) := by decide +kernel
theorem dX5_left_20 : decode cX5_left 20 = .ok (.aload_n 0, 1) := by decide +kernel
theorem dX5_left_21 : decode cX5_left 21 = .ok (.getfield 49, 3) := by decide +kernel
theorem dX5_left_24 : decode cX5_left 24 = .ok (.getfield 155, 3) := by decide +kernel
theorem dX5_left_27 : decode cX5_left 27 = .ok (.iload_n 1, 1) := by decide +kernel
theorem dX5_left_28 : decode cX5_left 28 = .ok (.iaload, 1) := by decide +kernel
theorem dX5_left_29 : decode cX5_left 29 = .ok (.ireturn, 1) := by decide +kernel
theorem dX5_kept_0 : decode cX5_kept 0 = .ok (.iload_n 1, 1) := by decide +kernel
theorem dX5_kept_1 : decode cX5_kept 1 = .ok (.ifCond .lt 9, 3) := by decide +kernel
theorem dX5_kept_4 : decode cX5_kept 4 = .ok (.iload_n 1, 1) := by decide +kernel
theorem dX5_kept_5 : decode cX5_kept 5 = .ok (.bipush 32, 2) := by decide +kernel
theorem dX5_kept_7 : decode cX5_kept 7 = .ok (.if_icmp .lt 13, 3) := by decide +kernel
theorem dX5_kept_10 : decode cX5_kept 10 = .ok (.new 53, 3) := by decide +kernel
theorem dX5_kept_13 : decode cX5_kept 13 = .ok (.dup, 1) := by decide +kernel
theorem dX5_kept_14 : decode cX5_kept 14 = .ok (.ldc 60, 2) := by decide +kernel
theorem dX5_kept_16 : decode cX5_kept 16 = .ok (.invokespecial 57, 3) := by decide +kernel
theorem dX5_kept_19 : decode cX5_kept 19 = .ok (.athrow, 1) := by decide +kernel
theorem dX5_kept_20 : decode cX5_kept 20 = .ok (.aload_n 0, 1) := by decide +kernel
theorem dX5_kept_21 : decode cX5_kept 21 = .ok (.getfield 49, 3) := by decide +kernel
theorem dX5_kept_24 : decode cX5_kept 24 = .ok (.getfield 158, 3) := by decide +kernel
theorem dX5_kept_27 : decode cX5_kept 27 = .ok (.iload_n 1, 1) := by decide +kernel
theorem dX5_kept_28 : decode cX5_kept 28 = .ok (.iaload, 1) := by decide +kernel
theorem dX5_kept_29 : decode cX5_kept 29 = .ok (.ireturn, 1) := by decide +kernel
theorem dX5_output_0 : decode cX5_output 0 = .ok (.iload_n 1, 1) := by decide +kernel
theorem dX5_output_1 : decode cX5_output 1 = .ok (.ifCond .lt 14, 3) := by decide +kernel
theorem dX5_output_4 : decode cX5_output 4 = .ok (.iload_n 1, 1) := by decide +kernel
theorem dX5_output_5 : decode cX5_output 5 = .ok (.aload_n 0, 1) := by decide +kernel
theorem dX5_output_6 : decode cX5_output 6 = .ok (.getfield 49, 3) := by decide +kernel
theorem dX5_output_9 : decode cX5_output 9 = .ok (.getfield 161, 3) := by decide +kernel
theorem dX5_output_12 : decode cX5_output 12 = .ok (.if_icmp .lt 13, 3) := by decide +kernel
theorem dX5_output_15 : decode cX5_output 15 = .ok (.new 53, 3) := by decide +kernel
theorem dX5_output_18 : decode cX5_output 18 = .ok (.dup, 1) := by decide +kernel
theorem dX5_output_19 : decode cX5_output 19 = .ok (.ldc 164, 2) := by decide +kernel
theorem dX5_output_21 : decode cX5_output 21 = .ok (.invokespecial 57, 3) := by decide +kernel
theorem dX5_output_24 : decode cX5_output 24 = .ok (.athrow, 1) := by decide +kernel
theorem dX5_output_25 : decode cX5_output 25 = .ok (.aload_n 0, 1) := by decide +kernel
theorem dX5_output_26 : decode cX5_output 26 = .ok (.getfield 49, 3) := by decide +kernel
theorem dX5_output_29 : decode cX5_output 29 = .ok (.getfield 166, 3) := by decide +kernel
theorem dX5_output_32 : decode cX5_output 32 = .ok (.iload_n 1, 1) := by decide +kernel
theorem dX5_output_33 : decode cX5_output 33 = .ok (.iaload, 1) := by decide +kernel
theorem dX5_output_34 : decode cX5_output 34 = .ok (.ireturn, 1) := by decide +kernel
theorem dX5_count_0 : decode cX5_count 0 = .ok (.iload_n 1, 1) := by decide +kernel
theorem dX5_count_1 : decode cX5_count 1 = .ok (.tableswitch 168 0 8 #[51, 59, 78, 98, 117, 136, 144, 152, 160], 51) := by decide +kernel
theorem dX5_count_52 : decode cX5_count 52 = .ok (.aload_n 0, 1) := by decide +kernel
theorem dX5_count_53 : decode cX5_count 53 = .ok (.getfield 26, 3) := by decide +kernel
theorem dX5_count_56 : decode cX5_count 56 = .ok (.getfield 91, 3) := by decide +kernel
theorem dX5_count_59 : decode cX5_count 59 = .ok (.ireturn, 1) := by decide +kernel
theorem dX5_count_60 : decode cX5_count 60 = .ok (.aload_n 0, 1) := by decide +kernel
theorem dX5_count_61 : decode cX5_count 61 = .ok (.getfield 42, 3) := by decide +kernel
theorem dX5_count_64 : decode cX5_count 64 = .ok (.ifCond .eq 13, 3) := by decide +kernel
theorem dX5_count_67 : decode cX5_count 67 = .ok (.aload_n 0, 1) := by decide +kernel
theorem dX5_count_68 : decode cX5_count 68 = .ok (.getfield 41, 3) := by decide +kernel
theorem dX5_count_71 : decode cX5_count 71 = .ok (.getfield 123, 3) := by decide +kernel
theorem dX5_count_74 : decode cX5_count 74 = .ok (.goto 4, 3) := by decide +kernel
theorem dX5_count_77 : decode cX5_count 77 = .ok (.iconst 0, 1) := by decide +kernel
theorem dX5_count_78 : decode cX5_count 78 = .ok (.ireturn, 1) := by decide +kernel
theorem dX5_count_79 : decode cX5_count 79 = .ok (.aload_n 0, 1) := by decide +kernel
theorem dX5_count_80 : decode cX5_count 80 = .ok (.getfield 42, 3) := by decide +kernel
theorem dX5_count_83 : decode cX5_count 83 = .ok (.ifCond .eq 13, 3) := by decide +kernel
theorem dX5_count_86 : decode cX5_count 86 = .ok (.aload_n 0, 1) := by decide +kernel
theorem dX5_count_87 : decode cX5_count 87 = .ok (.getfield 41, 3) := by decide +kernel
theorem dX5_count_90 : decode cX5_count 90 = .ok (.getfield 169, 3) := by decide +kernel
theorem dX5_count_93 : decode cX5_count 93 = .ok (.goto 5, 3) := by decide +kernel
theorem dX5_count_96 : decode cX5_count 96 = .ok (.bipush 16, 2) := by decide +kernel
theorem dX5_count_98 : decode cX5_count 98 = .ok (.ireturn, 1) := by decide +kernel
theorem dX5_count_99 : decode cX5_count 99 = .ok (.aload_n 0, 1) := by decide +kernel
theorem dX5_count_100 : decode cX5_count 100 = .ok (.getfield 42, 3) := by decide +kernel
theorem dX5_count_103 : decode cX5_count 103 = .ok (.ifCond .eq 13, 3) := by decide +kernel
theorem dX5_count_106 : decode cX5_count 106 = .ok (.aload_n 0, 1) := by decide +kernel
theorem dX5_count_107 : decode cX5_count 107 = .ok (.getfield 41, 3) := by decide +kernel
theorem dX5_count_110 : decode cX5_count 110 = .ok (.invokevirtual 172, 3) := by decide +kernel
theorem dX5_count_113 : decode cX5_count 113 = .ok (.goto 4, 3) := by decide +kernel
theorem dX5_count_116 : decode cX5_count 116 = .ok (.iconst 0, 1) := by decide +kernel
theorem dX5_count_117 : decode cX5_count 117 = .ok (.ireturn, 1) := by decide +kernel
theorem dX5_count_118 : decode cX5_count 118 = .ok (.aload_n 0, 1) := by decide +kernel
theorem dX5_count_119 : decode cX5_count 119 = .ok (.getfield 42, 3) := by decide +kernel
theorem dX5_count_122 : decode cX5_count 122 = .ok (.ifCond .eq 13, 3) := by decide +kernel
theorem dX5_count_125 : decode cX5_count 125 = .ok (.aload_n 0, 1) := by decide +kernel
theorem dX5_count_126 : decode cX5_count 126 = .ok (.getfield 33, 3) := by decide +kernel
theorem dX5_count_129 : decode cX5_count 129 = .ok (.invokevirtual 175, 3) := by decide +kernel
theorem dX5_count_132 : decode cX5_count 132 = .ok (.goto 4, 3) := by decide +kernel
theorem dX5_count_135 : decode cX5_count 135 = .ok (.iconst 0, 1) := by decide +kernel
theorem dX5_count_136 : decode cX5_count 136 = .ok (.ireturn, 1) := by decide +kernel
theorem dX5_count_137 : decode cX5_count 137 = .ok (.aload_n 0, 1) := by decide +kernel
theorem dX5_count_138 : decode cX5_count 138 = .ok (.getfield 49, 3) := by decide +kernel
theorem dX5_count_141 : decode cX5_count 141 = .ok (.getfield 161, 3) := by decide +kernel
theorem dX5_count_144 : decode cX5_count 144 = .ok (.ireturn, 1) := by decide +kernel
theorem dX5_count_145 : decode cX5_count 145 = .ok (.aload_n 0, 1) := by decide +kernel
theorem dX5_count_146 : decode cX5_count 146 = .ok (.getfield 19, 3) := by decide +kernel
theorem dX5_count_149 : decode cX5_count 149 = .ok (.getfield 67, 3) := by decide +kernel
theorem dX5_count_152 : decode cX5_count 152 = .ok (.ireturn, 1) := by decide +kernel
theorem dX5_count_153 : decode cX5_count 153 = .ok (.aload_n 0, 1) := by decide +kernel
theorem dX5_count_154 : decode cX5_count 154 = .ok (.getfield 49, 3) := by decide +kernel
theorem dX5_count_157 : decode cX5_count 157 = .ok (.getfield 178, 3) := by decide +kernel
theorem dX5_count_160 : decode cX5_count 160 = .ok (.ireturn, 1) := by decide +kernel
theorem dX5_count_161 : decode cX5_count 161 = .ok (.aload_n 0, 1) := by decide +kernel
theorem dX5_count_162 : decode cX5_count 162 = .ok (.getfield 49, 3) := by decide +kernel
theorem dX5_count_165 : decode cX5_count 165 = .ok (.getfield 181, 3) := by decide +kernel
theorem dX5_count_168 : decode cX5_count 168 = .ok (.ireturn, 1) := by decide +kernel
theorem dX5_count_169 : decode cX5_count 169 = .ok (.new 62, 3) := by decide +kernel
theorem dX5_count_172 : decode cX5_count 172 = .ok (.dup, 1) := by decide +kernel
theorem dX5_count_173 : decode cX5_count 173 = .ok (.ldc 184, 2) := by decide +kernel
theorem dX5_count_175 : decode cX5_count 175 = .ok (.invokespecial 66, 3) := by decide +kernel
theorem dX5_count_178 : decode cX5_count 178 = .ok (.athrow, 1) := by decide +kernel
theorem dX5_isWord_0 : decode cX5_isWord 0 = .ok (.iload_n 0, 1) := by decide +kernel
theorem dX5_isWord_1 : decode cX5_isWord 1 = .ok (.ifCond .lt 13, 3) := by decide +kernel
theorem dX5_isWord_4 : decode cX5_isWord 4 = .ok (.iload_n 0, 1) := by decide +kernel
theorem dX5_isWord_5 : decode cX5_isWord 5 = .ok (.bipush 32, 2) := by decide +kernel
theorem dX5_isWord_7 : decode cX5_isWord 7 = .ok (.if_icmp .ge 7, 3) := by decide +kernel
theorem dX5_isWord_10 : decode cX5_isWord 10 = .ok (.iconst 1, 1) := by decide +kernel
theorem dX5_isWord_11 : decode cX5_isWord 11 = .ok (.goto 4, 3) := by decide +kernel
theorem dX5_isWord_14 : decode cX5_isWord 14 = .ok (.iconst 0, 1) := by decide +kernel
theorem dX5_isWord_15 : decode cX5_isWord 15 = .ok (.ireturn, 1) := by decide +kernel
theorem dX5_divides_0 : decode cX5_divides 0 = .ok (.iload_n 0, 1) := by decide +kernel
theorem dX5_divides_1 : decode cX5_divides 1 = .ok (.iconst 5, 1) := by decide +kernel
theorem dX5_divides_2 : decode cX5_divides 2 = .ok (.if_icmp .eq 9, 3) := by decide +kernel
theorem dX5_divides_5 : decode cX5_divides 5 = .ok (.iload_n 0, 1) := by decide +kernel
theorem dX5_divides_6 : decode cX5_divides 6 = .ok (.bipush 6, 2) := by decide +kernel
theorem dX5_divides_8 : decode cX5_divides 8 = .ok (.if_icmp .ne 7, 3) := by decide +kernel
theorem dX5_divides_11 : decode cX5_divides 11 = .ok (.iconst 1, 1) := by decide +kernel
theorem dX5_divides_12 : decode cX5_divides 12 = .ok (.goto 4, 3) := by decide +kernel
theorem dX5_divides_15 : decode cX5_divides 15 = .ok (.iconst 0, 1) := by decide +kernel
theorem dX5_divides_16 : decode cX5_divides 16 = .ok (.ireturn, 1) := by decide +kernel
theorem dX5_resultOf_0 : decode cX5_resultOf 0 = .ok (.iload_n 0, 1) := by decide +kernel
theorem dX5_resultOf_1 : decode cX5_resultOf 1 = .ok (.tableswitch 140 2 12 #[59, 63, 67, 71, 83, 95, 99, 103, 107, 118, 129], 59) := by decide +kernel
theorem dX5_resultOf_60 : decode cX5_resultOf 60 = .ok (.iload_n 1, 1) := by decide +kernel
theorem dX5_resultOf_61 : decode cX5_resultOf 61 = .ok (.iload_n 2, 1) := by decide +kernel
theorem dX5_resultOf_62 : decode cX5_resultOf 62 = .ok (.iadd, 1) := by decide +kernel
theorem dX5_resultOf_63 : decode cX5_resultOf 63 = .ok (.ireturn, 1) := by decide +kernel
theorem dX5_resultOf_64 : decode cX5_resultOf 64 = .ok (.iload_n 1, 1) := by decide +kernel
theorem dX5_resultOf_65 : decode cX5_resultOf 65 = .ok (.iload_n 2, 1) := by decide +kernel
theorem dX5_resultOf_66 : decode cX5_resultOf 66 = .ok (.isub, 1) := by decide +kernel
theorem dX5_resultOf_67 : decode cX5_resultOf 67 = .ok (.ireturn, 1) := by decide +kernel
theorem dX5_resultOf_68 : decode cX5_resultOf 68 = .ok (.iload_n 1, 1) := by decide +kernel
theorem dX5_resultOf_69 : decode cX5_resultOf 69 = .ok (.iload_n 2, 1) := by decide +kernel
theorem dX5_resultOf_70 : decode cX5_resultOf 70 = .ok (.imul, 1) := by decide +kernel
theorem dX5_resultOf_71 : decode cX5_resultOf 71 = .ok (.ireturn, 1) := by decide +kernel
theorem dX5_resultOf_72 : decode cX5_resultOf 72 = .ok (.iload_n 2, 1) := by decide +kernel
theorem dX5_resultOf_73 : decode cX5_resultOf 73 = .ok (.ifCond .ne 7, 3) := by decide +kernel
theorem dX5_resultOf_76 : decode cX5_resultOf 76 = .ok (.iconst 0, 1) := by decide +kernel
theorem dX5_resultOf_77 : decode cX5_resultOf 77 = .ok (.goto 6, 3) := by decide +kernel
theorem dX5_resultOf_80 : decode cX5_resultOf 80 = .ok (.iload_n 1, 1) := by decide +kernel
theorem dX5_resultOf_81 : decode cX5_resultOf 81 = .ok (.iload_n 2, 1) := by decide +kernel
theorem dX5_resultOf_82 : decode cX5_resultOf 82 = .ok (.idiv, 1) := by decide +kernel
theorem dX5_resultOf_83 : decode cX5_resultOf 83 = .ok (.ireturn, 1) := by decide +kernel
theorem dX5_resultOf_84 : decode cX5_resultOf 84 = .ok (.iload_n 2, 1) := by decide +kernel
theorem dX5_resultOf_85 : decode cX5_resultOf 85 = .ok (.ifCond .ne 7, 3) := by decide +kernel
theorem dX5_resultOf_88 : decode cX5_resultOf 88 = .ok (.iconst 0, 1) := by decide +kernel
theorem dX5_resultOf_89 : decode cX5_resultOf 89 = .ok (.goto 6, 3) := by decide +kernel
theorem dX5_resultOf_92 : decode cX5_resultOf 92 = .ok (.iload_n 1, 1) := by decide +kernel
theorem dX5_resultOf_93 : decode cX5_resultOf 93 = .ok (.iload_n 2, 1) := by decide +kernel
theorem dX5_resultOf_94 : decode cX5_resultOf 94 = .ok (.irem, 1) := by decide +kernel
theorem dX5_resultOf_95 : decode cX5_resultOf 95 = .ok (.ireturn, 1) := by decide +kernel
theorem dX5_resultOf_96 : decode cX5_resultOf 96 = .ok (.iload_n 1, 1) := by decide +kernel
theorem dX5_resultOf_97 : decode cX5_resultOf 97 = .ok (.iload_n 2, 1) := by decide +kernel
theorem dX5_resultOf_98 : decode cX5_resultOf 98 = .ok (.iand, 1) := by decide +kernel
theorem dX5_resultOf_99 : decode cX5_resultOf 99 = .ok (.ireturn, 1) := by decide +kernel
theorem dX5_resultOf_100 : decode cX5_resultOf 100 = .ok (.iload_n 1, 1) := by decide +kernel
theorem dX5_resultOf_101 : decode cX5_resultOf 101 = .ok (.iload_n 2, 1) := by decide +kernel
theorem dX5_resultOf_102 : decode cX5_resultOf 102 = .ok (.ior, 1) := by decide +kernel
theorem dX5_resultOf_103 : decode cX5_resultOf 103 = .ok (.ireturn, 1) := by decide +kernel
theorem dX5_resultOf_104 : decode cX5_resultOf 104 = .ok (.iload_n 1, 1) := by decide +kernel
theorem dX5_resultOf_105 : decode cX5_resultOf 105 = .ok (.iload_n 2, 1) := by decide +kernel
theorem dX5_resultOf_106 : decode cX5_resultOf 106 = .ok (.ixor, 1) := by decide +kernel
theorem dX5_resultOf_107 : decode cX5_resultOf 107 = .ok (.ireturn, 1) := by decide +kernel
theorem dX5_resultOf_108 : decode cX5_resultOf 108 = .ok (.iload_n 1, 1) := by decide +kernel
theorem dX5_resultOf_109 : decode cX5_resultOf 109 = .ok (.iload_n 2, 1) := by decide +kernel
theorem dX5_resultOf_110 : decode cX5_resultOf 110 = .ok (.if_icmp .ne 7, 3) := by decide +kernel
theorem dX5_resultOf_113 : decode cX5_resultOf 113 = .ok (.iconst 1, 1) := by decide +kernel
theorem dX5_resultOf_114 : decode cX5_resultOf 114 = .ok (.goto 4, 3) := by decide +kernel
theorem dX5_resultOf_117 : decode cX5_resultOf 117 = .ok (.iconst 0, 1) := by decide +kernel
theorem dX5_resultOf_118 : decode cX5_resultOf 118 = .ok (.ireturn, 1) := by decide +kernel
theorem dX5_resultOf_119 : decode cX5_resultOf 119 = .ok (.iload_n 1, 1) := by decide +kernel
theorem dX5_resultOf_120 : decode cX5_resultOf 120 = .ok (.iload_n 2, 1) := by decide +kernel
theorem dX5_resultOf_121 : decode cX5_resultOf 121 = .ok (.if_icmp .eq 7, 3) := by decide +kernel
theorem dX5_resultOf_124 : decode cX5_resultOf 124 = .ok (.iconst 1, 1) := by decide +kernel
theorem dX5_resultOf_125 : decode cX5_resultOf 125 = .ok (.goto 4, 3) := by decide +kernel
theorem dX5_resultOf_128 : decode cX5_resultOf 128 = .ok (.iconst 0, 1) := by decide +kernel
theorem dX5_resultOf_129 : decode cX5_resultOf 129 = .ok (.ireturn, 1) := by decide +kernel
theorem dX5_resultOf_130 : decode cX5_resultOf 130 = .ok (.iload_n 1, 1) := by decide +kernel
theorem dX5_resultOf_131 : decode cX5_resultOf 131 = .ok (.iload_n 2, 1) := by decide +kernel
theorem dX5_resultOf_132 : decode cX5_resultOf 132 = .ok (.if_icmp .ge 7, 3) := by decide +kernel
theorem dX5_resultOf_135 : decode cX5_resultOf 135 = .ok (.iconst 1, 1) := by decide +kernel
theorem dX5_resultOf_136 : decode cX5_resultOf 136 = .ok (.goto 4, 3) := by decide +kernel
theorem dX5_resultOf_139 : decode cX5_resultOf 139 = .ok (.iconst 0, 1) := by decide +kernel
theorem dX5_resultOf_140 : decode cX5_resultOf 140 = .ok (.ireturn, 1) := by decide +kernel
theorem dX5_resultOf_141 : decode cX5_resultOf 141 = .ok (.iconst 0, 1) := by decide +kernel
theorem dX5_resultOf_142 : decode cX5_resultOf 142 = .ok (.ireturn, 1) := by decide +kernel
theorem dX6_init_0 : decode cX6_init 0 = .ok (.aload_n 0, 1) := by decide +kernel
theorem dX6_init_1 : decode cX6_init 1 = .ok (.invokespecial 1, 3) := by decide +kernel
theorem dX6_init_4 : decode cX6_init 4 = .ok (.aload_n 0, 1) := by decide +kernel
theorem dX6_init_5 : decode cX6_init 5 = .ok (.bipush 16, 2) := by decide +kernel
theorem dX6_init_7 : decode cX6_init 7 = .ok (.newarray .int, 2) := by decide +kernel
theorem dX6_init_9 : decode cX6_init 9 = .ok (.putfield 7, 3) := by decide +kernel
theorem dX6_init_12 : decode cX6_init 12 = .ok (.aload_n 0, 1) := by decide +kernel
theorem dX6_init_13 : decode cX6_init 13 = .ok (.bipush 32, 2) := by decide +kernel
theorem dX6_init_15 : decode cX6_init 15 = .ok (.newarray .int, 2) := by decide +kernel
theorem dX6_init_17 : decode cX6_init 17 = .ok (.putfield 13, 3) := by decide +kernel
theorem dX6_init_20 : decode cX6_init 20 = .ok (.aload_n 0, 1) := by decide +kernel
theorem dX6_init_21 : decode cX6_init 21 = .ok (.sipush 600, 3) := by decide +kernel
theorem dX6_init_24 : decode cX6_init 24 = .ok (.newarray .int, 2) := by decide +kernel
theorem dX6_init_26 : decode cX6_init 26 = .ok (.putfield 16, 3) := by decide +kernel
theorem dX6_init_29 : decode cX6_init 29 = .ok (.aload_n 0, 1) := by decide +kernel
theorem dX6_init_30 : decode cX6_init 30 = .ok (.sipush 540, 3) := by decide +kernel
theorem dX6_init_33 : decode cX6_init 33 = .ok (.newarray .int, 2) := by decide +kernel
theorem dX6_init_35 : decode cX6_init 35 = .ok (.putfield 19, 3) := by decide +kernel
theorem dX6_init_38 : decode cX6_init 38 = .ok (.aload_n 0, 1) := by decide +kernel
theorem dX6_init_39 : decode cX6_init 39 = .ok (.sipush 540, 3) := by decide +kernel
theorem dX6_init_42 : decode cX6_init 42 = .ok (.newarray .int, 2) := by decide +kernel
theorem dX6_init_44 : decode cX6_init 44 = .ok (.putfield 22, 3) := by decide +kernel
theorem dX6_init_47 : decode cX6_init 47 = .ok (.aload_n 0, 1) := by decide +kernel
theorem dX6_init_48 : decode cX6_init 48 = .ok (.bipush 60, 2) := by decide +kernel
theorem dX6_init_50 : decode cX6_init 50 = .ok (.newarray .int, 2) := by decide +kernel
theorem dX6_init_52 : decode cX6_init 52 = .ok (.putfield 25, 3) := by decide +kernel
theorem dX6_init_55 : decode cX6_init 55 = .ok (.aload_n 0, 1) := by decide +kernel
theorem dX6_init_56 : decode cX6_init 56 = .ok (.bipush 60, 2) := by decide +kernel
theorem dX6_init_58 : decode cX6_init 58 = .ok (.newarray .int, 2) := by decide +kernel
theorem dX6_init_60 : decode cX6_init 60 = .ok (.putfield 28, 3) := by decide +kernel
theorem dX6_init_63 : decode cX6_init 63 = .ok (.aload_n 0, 1) := by decide +kernel
theorem dX6_init_64 : decode cX6_init 64 = .ok (.bipush 60, 2) := by decide +kernel
theorem dX6_init_66 : decode cX6_init 66 = .ok (.newarray .int, 2) := by decide +kernel
theorem dX6_init_68 : decode cX6_init 68 = .ok (.putfield 31, 3) := by decide +kernel
theorem dX6_init_71 : decode cX6_init 71 = .ok (.aload_n 0, 1) := by decide +kernel
theorem dX6_init_72 : decode cX6_init 72 = .ok (.bipush 60, 2) := by decide +kernel
theorem dX6_init_74 : decode cX6_init 74 = .ok (.newarray .int, 2) := by decide +kernel
theorem dX6_init_76 : decode cX6_init 76 = .ok (.putfield 34, 3) := by decide +kernel
theorem dX6_init_79 : decode cX6_init 79 = .ok (.aload_n 0, 1) := by decide +kernel
theorem dX6_init_80 : decode cX6_init 80 = .ok (.bipush 7, 2) := by decide +kernel
theorem dX6_init_82 : decode cX6_init 82 = .ok (.newarray .int, 2) := by decide +kernel
theorem dX6_init_84 : decode cX6_init 84 = .ok (.putfield 37, 3) := by decide +kernel
theorem dX6_init_87 : decode cX6_init 87 = .ok (.aload_n 0, 1) := by decide +kernel
theorem dX6_init_88 : decode cX6_init 88 = .ok (.bipush 7, 2) := by decide +kernel
theorem dX6_init_90 : decode cX6_init 90 = .ok (.newarray .boolean, 2) := by decide +kernel
theorem dX6_init_92 : decode cX6_init 92 = .ok (.putfield 40, 3) := by decide +kernel
theorem dX6_init_95 : decode cX6_init 95 = .ok (.aload_n 0, 1) := by decide +kernel
theorem dX6_init_96 : decode cX6_init 96 = .ok (.sipush 24000, 3) := by decide +kernel
theorem dX6_init_99 : decode cX6_init 99 = .ok (.newarray .int, 2) := by decide +kernel
theorem dX6_init_101 : decode cX6_init 101 = .ok (.putfield 44, 3) := by decide +kernel
theorem dX6_init_104 : decode cX6_init 104 = .ok (.aload_n 0, 1) := by decide +kernel
theorem dX6_init_105 : decode cX6_init 105 = .ok (.bipush 16, 2) := by decide +kernel
theorem dX6_init_107 : decode cX6_init 107 = .ok (.putfield 47, 3) := by decide +kernel
theorem dX6_init_110 : decode cX6_init 110 = .ok (.aload_n 0, 1) := by decide +kernel
theorem dX6_init_111 : decode cX6_init 111 = .ok (.bipush 60, 2) := by decide +kernel
theorem dX6_init_113 : decode cX6_init 113 = .ok (.newarray .boolean, 2) := by decide +kernel
theorem dX6_init_115 : decode cX6_init 115 = .ok (.putfield 51, 3) := by decide +kernel
theorem dX6_init_118 : decode cX6_init 118 = .ok (.aload_n 0, 1) := by decide +kernel
theorem dX6_init_119 : decode cX6_init 119 = .ok (.bipush 16, 2) := by decide +kernel
theorem dX6_init_121 : decode cX6_init 121 = .ok (.newarray .int, 2) := by decide +kernel
theorem dX6_init_123 : decode cX6_init 123 = .ok (.putfield 54, 3) := by decide +kernel
theorem dX6_init_126 : decode cX6_init 126 = .ok (.aload_n 0, 1) := by decide +kernel
theorem dX6_init_127 : decode cX6_init 127 = .ok (.bipush 8, 2) := by decide +kernel
theorem dX6_init_129 : decode cX6_init 129 = .ok (.newarray .int, 2) := by decide +kernel
theorem dX6_init_131 : decode cX6_init 131 = .ok (.putfield 57, 3) := by decide +kernel
theorem dX6_init_134 : decode cX6_init 134 = .ok (.aload_n 0, 1) := by decide +kernel
theorem dX6_init_135 : decode cX6_init 135 = .ok (.bipush 8, 2) := by decide +kernel
theorem dX6_init_137 : decode cX6_init 137 = .ok (.newarray .boolean, 2) := by decide +kernel
theorem dX6_init_139 : decode cX6_init 139 = .ok (.putfield 60, 3) := by decide +kernel
theorem dX6_init_142 : decode cX6_init 142 = .ok (.aload_n 0, 1) := by decide +kernel
theorem dX6_init_143 : decode cX6_init 143 = .ok (.bipush 8, 2) := by decide +kernel
theorem dX6_init_145 : decode cX6_init 145 = .ok (.newarray .boolean, 2) := by decide +kernel
theorem dX6_init_147 : decode cX6_init 147 = .ok (.putfield 63, 3) := by decide +kernel
theorem dX6_init_150 : decode cX6_init 150 = .ok (.aload_n 0, 1) := by decide +kernel
theorem dX6_init_151 : decode cX6_init 151 = .ok (.bipush 8, 2) := by decide +kernel
theorem dX6_init_153 : decode cX6_init 153 = .ok (.newarray .int, 2) := by decide +kernel
theorem dX6_init_155 : decode cX6_init 155 = .ok (.putfield 66, 3) := by decide +kernel
theorem dX6_init_158 : decode cX6_init 158 = .ok (.aload_n 0, 1) := by decide +kernel
theorem dX6_init_159 : decode cX6_init 159 = .ok (.bipush 8, 2) := by decide +kernel
theorem dX6_init_161 : decode cX6_init 161 = .ok (.newarray .int, 2) := by decide +kernel
theorem dX6_init_163 : decode cX6_init 163 = .ok (.putfield 69, 3) := by decide +kernel
theorem dX6_init_166 : decode cX6_init 166 = .ok (.aload_n 0, 1) := by decide +kernel
theorem dX6_init_167 : decode cX6_init 167 = .ok (.bipush 8, 2) := by decide +kernel
theorem dX6_init_169 : decode cX6_init 169 = .ok (.newarray .int, 2) := by decide +kernel
theorem dX6_init_171 : decode cX6_init 171 = .ok (.putfield 72, 3) := by decide +kernel
theorem dX6_init_174 : decode cX6_init 174 = .ok (.aload_n 0, 1) := by decide +kernel
theorem dX6_init_175 : decode cX6_init 175 = .ok (.sipush 128, 3) := by decide +kernel
theorem dX6_init_178 : decode cX6_init 178 = .ok (.newarray .int, 2) := by decide +kernel
theorem dX6_init_180 : decode cX6_init 180 = .ok (.putfield 75, 3) := by decide +kernel
theorem dX6_init_183 : decode cX6_init 183 = .ok (.aload_n 0, 1) := by decide +kernel
theorem dX6_init_184 : decode cX6_init 184 = .ok (.sipush 128, 3) := by decide +kernel
theorem dX6_init_187 : decode cX6_init 187 = .ok (.newarray .int, 2) := by decide +kernel
theorem dX6_init_189 : decode cX6_init 189 = .ok (.putfield 78, 3) := by decide +kernel
theorem dX6_init_192 : decode cX6_init 192 = .ok (.aload_n 0, 1) := by decide +kernel
theorem dX6_init_193 : decode cX6_init 193 = .ok (.sipush 4000, 3) := by decide +kernel
theorem dX6_init_196 : decode cX6_init 196 = .ok (.newarray .boolean, 2) := by decide +kernel
theorem dX6_init_198 : decode cX6_init 198 = .ok (.putfield 81, 3) := by decide +kernel
theorem dX6_init_201 : decode cX6_init 201 = .ok (.aload_n 0, 1) := by decide +kernel
theorem dX6_init_202 : decode cX6_init 202 = .ok (.bipush 16, 2) := by decide +kernel
theorem dX6_init_204 : decode cX6_init 204 = .ok (.newarray .int, 2) := by decide +kernel
theorem dX6_init_206 : decode cX6_init 206 = .ok (.putfield 84, 3) := by decide +kernel
theorem dX6_init_209 : decode cX6_init 209 = .ok (.aload_n 0, 1) := by decide +kernel
theorem dX6_init_210 : decode cX6_init 210 = .ok (.bipush 32, 2) := by decide +kernel
theorem dX6_init_212 : decode cX6_init 212 = .ok (.newarray .int, 2) := by decide +kernel
theorem dX6_init_214 : decode cX6_init 214 = .ok (.putfield 87, 3) := by decide +kernel
theorem dX6_init_217 : decode cX6_init 217 = .ok (.aload_n 0, 1) := by decide +kernel
theorem dX6_init_218 : decode cX6_init 218 = .ok (.bipush 60, 2) := by decide +kernel
theorem dX6_init_220 : decode cX6_init 220 = .ok (.newarray .int, 2) := by decide +kernel
theorem dX6_init_222 : decode cX6_init 222 = .ok (.putfield 90, 3) := by decide +kernel
theorem dX6_init_225 : decode cX6_init 225 = .ok (.aload_n 0, 1) := by decide +kernel
theorem dX6_init_226 : decode cX6_init 226 = .ok (.iconst (-1), 1) := by decide +kernel
theorem dX6_init_227 : decode cX6_init 227 = .ok (.putfield 93, 3) := by decide +kernel
theorem dX6_init_230 : decode cX6_init 230 = .ok (.aload_n 0, 1) := by decide +kernel
theorem dX6_init_231 : decode cX6_init 231 = .ok (.sipush 4100, 3) := by decide +kernel
theorem dX6_init_234 : decode cX6_init 234 = .ok (.newarray .int, 2) := by decide +kernel
theorem dX6_init_236 : decode cX6_init 236 = .ok (.putfield 96, 3) := by decide +kernel
theorem dX6_init_239 : decode cX6_init 239 = .ok (.aload_n 0, 1) := by decide +kernel
theorem dX6_init_240 : decode cX6_init 240 = .ok (.bipush 60, 2) := by decide +kernel
theorem dX6_init_242 : decode cX6_init 242 = .ok (.newarray .boolean, 2) := by decide +kernel
theorem dX6_init_244 : decode cX6_init 244 = .ok (.putfield 99, 3) := by decide +kernel
theorem dX6_init_247 : decode cX6_init 247 = .ok (.return_, 1) := by decide +kernel
theorem dX6_thrown_0 : decode cX6_thrown 0 = .ok (.aload_n 0, 1) := by decide +kernel
theorem dX6_thrown_1 : decode cX6_thrown 1 = .ok (.getfield 102, 3) := by decide +kernel
theorem dX6_thrown_4 : decode cX6_thrown 4 = .ok (.ireturn, 1) := by decide +kernel
theorem dX6_isIn_0 : decode cX6_isIn 0 = .ok (.lload_n 0, 1) := by decide +kernel
theorem dX6_isIn_1 : decode cX6_isIn 1 = .ok (.lload_n 2, 1) := by decide +kernel
theorem dX6_isIn_2 : decode cX6_isIn 2 = .ok (.lcmp, 1) := by decide +kernel
theorem dX6_isIn_3 : decode cX6_isIn 3 = .ok (.ifCond .lt 14, 3) := by decide +kernel
theorem dX6_isIn_6 : decode cX6_isIn 6 = .ok (.lload_n 0, 1) := by decide +kernel
theorem dX6_isIn_7 : decode cX6_isIn 7 = .ok (.lload 4, 2) := by decide +kernel
theorem dX6_isIn_9 : decode cX6_isIn 9 = .ok (.lcmp, 1) := by decide +kernel
theorem dX6_isIn_10 : decode cX6_isIn 10 = .ok (.ifCond .gt 7, 3) := by decide +kernel
theorem dX6_isIn_13 : decode cX6_isIn 13 = .ok (.iconst 1, 1) := by decide +kernel
theorem dX6_isIn_14 : decode cX6_isIn 14 = .ok (.goto 4, 3) := by decide +kernel
theorem dX6_isIn_17 : decode cX6_isIn 17 = .ok (.iconst 0, 1) := by decide +kernel
theorem dX6_isIn_18 : decode cX6_isIn 18 = .ok (.ireturn, 1) := by decide +kernel
theorem dX6_may_0 : decode cX6_may 0 = .ok (.aload_n 0, 1) := by decide +kernel
theorem dX6_may_1 : decode cX6_may 1 = .ok (.iload_n 1, 1) := by decide +kernel
theorem dX6_may_2 : decode cX6_may 2 = .ok (.ifCond .ne 7, 3) := by decide +kernel
theorem dX6_may_5 : decode cX6_may 5 = .ok (.iconst 1, 1) := by decide +kernel
theorem dX6_may_6 : decode cX6_may 6 = .ok (.goto 12, 3) := by decide +kernel
theorem dX6_may_9 : decode cX6_may 9 = .ok (.iload_n 2, 1) := by decide +kernel
theorem dX6_may_10 : decode cX6_may 10 = .ok (.ifCond .ne 7, 3) := by decide +kernel
theorem dX6_may_13 : decode cX6_may 13 = .ok (.iconst 2, 1) := by decide +kernel
theorem dX6_may_14 : decode cX6_may 14 = .ok (.goto 4, 3) := by decide +kernel
theorem dX6_may_17 : decode cX6_may 17 = .ok (.iconst 0, 1) := by decide +kernel
theorem dX6_may_18 : decode cX6_may 18 = .ok (.putfield 102, 3) := by decide +kernel
theorem dX6_may_21 : decode cX6_may 21 = .ok (.aload_n 0, 1) := by decide +kernel
theorem dX6_may_22 : decode cX6_may 22 = .ok (.getfield 102, 3) := by decide +kernel
theorem dX6_may_25 : decode cX6_may 25 = .ok (.ifCond .ne 7, 3) := by decide +kernel
theorem dX6_may_28 : decode cX6_may 28 = .ok (.iconst 1, 1) := by decide +kernel
theorem dX6_may_29 : decode cX6_may 29 = .ok (.goto 4, 3) := by decide +kernel
theorem dX6_may_32 : decode cX6_may 32 = .ok (.iconst 0, 1) := by decide +kernel
theorem dX6_may_33 : decode cX6_may 33 = .ok (.ireturn, 1) := by decide +kernel
theorem dX6_variable_0 : decode cX6_variable 0 = .ok (.aload_n 0, 1) := by decide +kernel
theorem dX6_variable_1 : decode cX6_variable 1 = .ok (.iload_n 1, 1) := by decide +kernel
theorem dX6_variable_2 : decode cX6_variable 2 = .ok (.i2l, 1) := by decide +kernel
theorem dX6_variable_3 : decode cX6_variable 3 = .ok (.lconst 0, 1) := by decide +kernel
theorem dX6_variable_4 : decode cX6_variable 4 = .ok (.ldc2_w 105, 3) := by decide +kernel
theorem dX6_variable_7 : decode cX6_variable 7 = .ok (.invokestatic 107, 3) := by decide +kernel
theorem dX6_variable_10 : decode cX6_variable 10 = .ok (.iconst 1, 1) := by decide +kernel
theorem dX6_variable_11 : decode cX6_variable 11 = .ok (.invokevirtual 111, 3) := by decide +kernel
theorem dX6_variable_14 : decode cX6_variable 14 = .ok (.ifCond .eq 10, 3) := by decide +kernel
theorem dX6_variable_17 : decode cX6_variable 17 = .ok (.aload_n 0, 1) := by decide +kernel
theorem dX6_variable_18 : decode cX6_variable 18 = .ok (.getfield 7, 3) := by decide +kernel
theorem dX6_variable_21 : decode cX6_variable 21 = .ok (.iload_n 1, 1) := by decide +kernel
theorem dX6_variable_22 : decode cX6_variable 22 = .ok (.iload_n 2, 1) := by decide +kernel
theorem dX6_variable_23 : decode cX6_variable 23 = .ok (.iastore, 1) := by decide +kernel
theorem dX6_variable_24 : decode cX6_variable 24 = .ok (.return_, 1) := by decide +kernel
theorem dX6_word_0 : decode cX6_word 0 = .ok (.aload_n 0, 1) := by decide +kernel
theorem dX6_word_1 : decode cX6_word 1 = .ok (.iload_n 1, 1) := by decide +kernel
theorem dX6_word_2 : decode cX6_word 2 = .ok (.i2l, 1) := by decide +kernel
theorem dX6_word_3 : decode cX6_word 3 = .ok (.lconst 0, 1) := by decide +kernel
theorem dX6_word_4 : decode cX6_word 4 = .ok (.ldc2_w 115, 3) := by decide +kernel
theorem dX6_word_7 : decode cX6_word 7 = .ok (.invokestatic 107, 3) := by decide +kernel
theorem dX6_word_10 : decode cX6_word 10 = .ok (.iconst 1, 1) := by decide +kernel
theorem dX6_word_11 : decode cX6_word 11 = .ok (.invokevirtual 111, 3) := by decide +kernel
theorem dX6_word_14 : decode cX6_word 14 = .ok (.ifCond .eq 10, 3) := by decide +kernel
theorem dX6_word_17 : decode cX6_word 17 = .ok (.aload_n 0, 1) := by decide +kernel
theorem dX6_word_18 : decode cX6_word 18 = .ok (.getfield 13, 3) := by decide +kernel
theorem dX6_word_21 : decode cX6_word 21 = .ok (.iload_n 1, 1) := by decide +kernel
theorem dX6_word_22 : decode cX6_word 22 = .ok (.iload_n 2, 1) := by decide +kernel
theorem dX6_word_23 : decode cX6_word 23 = .ok (.iastore, 1) := by decide +kernel
theorem dX6_word_24 : decode cX6_word 24 = .ok (.return_, 1) := by decide +kernel
theorem dX6_feed_0 : decode cX6_feed 0 = .ok (.aload_n 0, 1) := by decide +kernel
theorem dX6_feed_1 : decode cX6_feed 1 = .ok (.iload_n 3, 1) := by decide +kernel
theorem dX6_feed_2 : decode cX6_feed 2 = .ok (.i2l, 1) := by decide +kernel
theorem dX6_feed_3 : decode cX6_feed 3 = .ok (.lconst 1, 1) := by decide +kernel
theorem dX6_feed_4 : decode cX6_feed 4 = .ok (.ldc2_w 117, 3) := by decide +kernel
theorem dX6_feed_7 : decode cX6_feed 7 = .ok (.invokestatic 107, 3) := by decide +kernel
theorem dX6_feed_10 : decode cX6_feed 10 = .ok (.aload_n 0, 1) := by decide +kernel
theorem dX6_feed_11 : decode cX6_feed 11 = .ok (.getfield 119, 3) := by decide +kernel
theorem dX6_feed_14 : decode cX6_feed 14 = .ok (.iload_n 3, 1) := by decide +kernel
theorem dX6_feed_15 : decode cX6_feed 15 = .ok (.iadd, 1) := by decide +kernel
theorem dX6_feed_16 : decode cX6_feed 16 = .ok (.sipush 600, 3) := by decide +kernel
theorem dX6_feed_19 : decode cX6_feed 19 = .ok (.if_icmp .gt 7, 3) := by decide +kernel
theorem dX6_feed_22 : decode cX6_feed 22 = .ok (.iconst 1, 1) := by decide +kernel
theorem dX6_feed_23 : decode cX6_feed 23 = .ok (.goto 4, 3) := by decide +kernel
theorem dX6_feed_26 : decode cX6_feed 26 = .ok (.iconst 0, 1) := by decide +kernel
theorem dX6_feed_27 : decode cX6_feed 27 = .ok (.invokevirtual 111, 3) := by decide +kernel
theorem dX6_feed_30 : decode cX6_feed 30 = .ok (.ifCond .ne 5, 3) := by decide +kernel
theorem dX6_feed_33 : decode cX6_feed 33 = .ok (.iconst 0, 1) := by decide +kernel
theorem dX6_feed_34 : decode cX6_feed 34 = .ok (.ireturn, 1) := by decide +kernel
theorem dX6_feed_35 : decode cX6_feed 35 = .ok (.iload_n 3, 1) := by decide +kernel
theorem dX6_feed_36 : decode cX6_feed 36 = .ok (.iconst 1, 1) := by decide +kernel
theorem dX6_feed_37 : decode cX6_feed 37 = .ok (.isub, 1) := by decide +kernel
theorem dX6_feed_38 : decode cX6_feed 38 = .ok (.istore 4, 2) := by decide +kernel
theorem dX6_feed_40 : decode cX6_feed 40 = .ok (.iload 4, 2) := by decide +kernel
theorem dX6_feed_42 : decode cX6_feed 42 = .ok (.ifCond .lt 40, 3) := by decide +kernel
theorem dX6_feed_45 : decode cX6_feed 45 = .ok (.aload_n 0, 1) := by decide +kernel
theorem dX6_feed_46 : decode cX6_feed 46 = .ok (.getfield 16, 3) := by decide +kernel
theorem dX6_feed_49 : decode cX6_feed 49 = .ok (.aload_n 0, 1) := by decide +kernel
theorem dX6_feed_50 : decode cX6_feed 50 = .ok (.getfield 119, 3) := by decide +kernel
theorem dX6_feed_53 : decode cX6_feed 53 = .ok (.lload_n 1, 1) := by decide +kernel
theorem dX6_feed_54 : decode cX6_feed 54 = .ok (.bipush 8, 2) := by decide +kernel
theorem dX6_feed_56 : decode cX6_feed 56 = .ok (.iload 4, 2) := by decide +kernel
theorem dX6_feed_58 : decode cX6_feed 58 = .ok (.imul, 1) := by decide +kernel
theorem dX6_feed_59 : decode cX6_feed 59 = .ok (.lshr, 1) := by decide +kernel
theorem dX6_feed_60 : decode cX6_feed 60 = .ok (.ldc2_w 122, 3) := by decide +kernel
theorem dX6_feed_63 : decode cX6_feed 63 = .ok (.land, 1) := by decide +kernel
theorem dX6_feed_64 : decode cX6_feed 64 = .ok (.l2i, 1) := by decide +kernel
theorem dX6_feed_65 : decode cX6_feed 65 = .ok (.iastore, 1) := by decide +kernel
theorem dX6_feed_66 : decode cX6_feed 66 = .ok (.aload_n 0, 1) := by decide +kernel
theorem dX6_feed_67 : decode cX6_feed 67 = .ok (.dup, 1) := by decide +kernel
theorem dX6_feed_68 : decode cX6_feed 68 = .ok (.getfield 119, 3) := by decide +kernel
theorem dX6_feed_71 : decode cX6_feed 71 = .ok (.iconst 1, 1) := by decide +kernel
theorem dX6_feed_72 : decode cX6_feed 72 = .ok (.iadd, 1) := by decide +kernel
theorem dX6_feed_73 : decode cX6_feed 73 = .ok (.putfield 119, 3) := by decide +kernel
theorem dX6_feed_76 : decode cX6_feed 76 = .ok (.iinc 4 (-1), 3) := by decide +kernel
theorem dX6_feed_79 : decode cX6_feed 79 = .ok (.goto (-39), 3) := by decide +kernel
theorem dX6_feed_82 : decode cX6_feed 82 = .ok (.aload_n 0, 1) := by decide +kernel
theorem dX6_feed_83 : decode cX6_feed 83 = .ok (.getfield 119, 3) := by decide +kernel
theorem dX6_feed_86 : decode cX6_feed 86 = .ok (.ireturn, 1) := by decide +kernel
theorem dX6_fail_0 : decode cX6_fail 0 = .ok (.aload_n 0, 1) := by decide +kernel
theorem dX6_fail_1 : decode cX6_fail 1 = .ok (.getfield 124, 3) := by decide +kernel
theorem dX6_fail_4 : decode cX6_fail 4 = .ok (.ifCond .ne 13, 3) := by decide +kernel
theorem dX6_fail_7 : decode cX6_fail 7 = .ok (.aload_n 0, 1) := by decide +kernel
theorem dX6_fail_8 : decode cX6_fail 8 = .ok (.iload_n 1, 1) := by decide +kernel
theorem dX6_fail_9 : decode cX6_fail 9 = .ok (.putfield 124, 3) := by decide +kernel
theorem dX6_fail_12 : decode cX6_fail 12 = .ok (.aload_n 0, 1) := by decide +kernel
theorem dX6_fail_13 : decode cX6_fail 13 = .ok (.iload_n 2, 1) := by decide +kernel
theorem dX6_fail_14 : decode cX6_fail 14 = .ok (.putfield 127, 3) := by decide +kernel
theorem dX6_fail_17 : decode cX6_fail 17 = .ok (.return_, 1) := by decide +kernel
theorem dX6_next_0 : decode cX6_next 0 = .ok (.aload_n 0, 1) := by decide +kernel
theorem dX6_next_1 : decode cX6_next 1 = .ok (.getfield 130, 3) := by decide +kernel
theorem dX6_next_4 : decode cX6_next 4 = .ok (.aload_n 0, 1) := by decide +kernel
theorem dX6_next_5 : decode cX6_next 5 = .ok (.getfield 119, 3) := by decide +kernel
theorem dX6_next_8 : decode cX6_next 8 = .ok (.if_icmp .ge 44, 3) := by decide +kernel
theorem dX6_next_11 : decode cX6_next 11 = .ok (.aload_n 0, 1) := by decide +kernel
theorem dX6_next_12 : decode cX6_next 12 = .ok (.getfield 16, 3) := by decide +kernel
theorem dX6_next_15 : decode cX6_next 15 = .ok (.aload_n 0, 1) := by decide +kernel
theorem dX6_next_16 : decode cX6_next 16 = .ok (.getfield 130, 3) := by decide +kernel
theorem dX6_next_19 : decode cX6_next 19 = .ok (.iaload, 1) := by decide +kernel
theorem dX6_next_20 : decode cX6_next 20 = .ok (.bipush 32, 2) := by decide +kernel
theorem dX6_next_22 : decode cX6_next 22 = .ok (.if_icmp .eq 17, 3) := by decide +kernel
theorem dX6_next_25 : decode cX6_next 25 = .ok (.aload_n 0, 1) := by decide +kernel
theorem dX6_next_26 : decode cX6_next 26 = .ok (.getfield 16, 3) := by decide +kernel
theorem dX6_next_29 : decode cX6_next 29 = .ok (.aload_n 0, 1) := by decide +kernel
theorem dX6_next_30 : decode cX6_next 30 = .ok (.getfield 130, 3) := by decide +kernel
theorem dX6_next_33 : decode cX6_next 33 = .ok (.iaload, 1) := by decide +kernel
theorem dX6_next_34 : decode cX6_next 34 = .ok (.bipush 10, 2) := by decide +kernel
theorem dX6_next_36 : decode cX6_next 36 = .ok (.if_icmp .ne 16, 3) := by decide +kernel
theorem dX6_next_39 : decode cX6_next 39 = .ok (.aload_n 0, 1) := by decide +kernel
theorem dX6_next_40 : decode cX6_next 40 = .ok (.dup, 1) := by decide +kernel
theorem dX6_next_41 : decode cX6_next 41 = .ok (.getfield 130, 3) := by decide +kernel
theorem dX6_next_44 : decode cX6_next 44 = .ok (.iconst 1, 1) := by decide +kernel
theorem dX6_next_45 : decode cX6_next 45 = .ok (.iadd, 1) := by decide +kernel
theorem dX6_next_46 : decode cX6_next 46 = .ok (.putfield 130, 3) := by decide +kernel
theorem dX6_next_49 : decode cX6_next 49 = .ok (.goto (-49), 3) := by decide +kernel
theorem dX6_next_52 : decode cX6_next 52 = .ok (.aload_n 0, 1) := by decide +kernel
theorem dX6_next_53 : decode cX6_next 53 = .ok (.getfield 130, 3) := by decide +kernel
theorem dX6_next_56 : decode cX6_next 56 = .ok (.aload_n 0, 1) := by decide +kernel
theorem dX6_next_57 : decode cX6_next 57 = .ok (.getfield 119, 3) := by decide +kernel
theorem dX6_next_60 : decode cX6_next 60 = .ok (.if_icmp .ge 15, 3) := by decide +kernel
theorem dX6_next_63 : decode cX6_next 63 = .ok (.aload_n 0, 1) := by decide +kernel
theorem dX6_next_64 : decode cX6_next 64 = .ok (.getfield 16, 3) := by decide +kernel
theorem dX6_next_67 : decode cX6_next 67 = .ok (.aload_n 0, 1) := by decide +kernel
theorem dX6_next_68 : decode cX6_next 68 = .ok (.getfield 130, 3) := by decide +kernel
theorem dX6_next_71 : decode cX6_next 71 = .ok (.iaload, 1) := by decide +kernel
theorem dX6_next_72 : decode cX6_next 72 = .ok (.goto 4, 3) := by decide +kernel
theorem dX6_next_75 : decode cX6_next 75 = .ok (.iconst (-1), 1) := by decide +kernel
theorem dX6_next_76 : decode cX6_next 76 = .ok (.ireturn, 1) := by decide +kernel
theorem dX6_take_0 : decode cX6_take 0 = .ok (.aload_n 0, 1) := by decide +kernel
theorem dX6_take_1 : decode cX6_take 1 = .ok (.getfield 124, 3) := by decide +kernel
theorem dX6_take_4 : decode cX6_take 4 = .ok (.ifCond .le 4, 3) := by decide +kernel
theorem dX6_take_7 : decode cX6_take 7 = .ok (.return_, 1) := by decide +kernel
theorem dX6_take_8 : decode cX6_take 8 = .ok (.aload_n 0, 1) := by decide +kernel
theorem dX6_take_9 : decode cX6_take 9 = .ok (.invokevirtual 133, 3) := by decide +kernel
theorem dX6_take_12 : decode cX6_take 12 = .ok (.iload_n 1, 1) := by decide +kernel
theorem dX6_take_13 : decode cX6_take 13 = .ok (.if_icmp .eq 13, 3) := by decide +kernel
theorem dX6_take_16 : decode cX6_take 16 = .ok (.aload_n 0, 1) := by decide +kernel
theorem dX6_take_17 : decode cX6_take 17 = .ok (.iconst 1, 1) := by decide +kernel
theorem dX6_take_18 : decode cX6_take 18 = .ok (.aload_n 0, 1) := by decide +kernel
theorem dX6_take_19 : decode cX6_take 19 = .ok (.getfield 130, 3) := by decide +kernel
theorem dX6_take_22 : decode cX6_take 22 = .ok (.invokevirtual 137, 3) := by decide +kernel
theorem dX6_take_25 : decode cX6_take 25 = .ok (.return_, 1) := by decide +kernel
theorem dX6_take_26 : decode cX6_take 26 = .ok (.aload_n 0, 1) := by decide +kernel
theorem dX6_take_27 : decode cX6_take 27 = .ok (.dup, 1) := by decide +kernel
theorem dX6_take_28 : decode cX6_take 28 = .ok (.getfield 130, 3) := by decide +kernel
theorem dX6_take_31 : decode cX6_take 31 = .ok (.iconst 1, 1) := by decide +kernel
theorem dX6_take_32 : decode cX6_take 32 = .ok (.iadd, 1) := by decide +kernel
theorem dX6_take_33 : decode cX6_take 33 = .ok (.putfield 130, 3) := by decide +kernel
theorem dX6_take_36 : decode cX6_take 36 = .ok (.return_, 1) := by decide +kernel
theorem dX6_isVariable_0 : decode cX6_isVariable 0 = .ok (.iload_n 0, 1) := by decide +kernel
theorem dX6_isVariable_1 : decode cX6_isVariable 1 = .ok (.bipush 97, 2) := by decide +kernel
theorem dX6_isVariable_3 : decode cX6_isVariable 3 = .ok (.if_icmp .lt 13, 3) := by decide +kernel
theorem dX6_isVariable_6 : decode cX6_isVariable 6 = .ok (.iload_n 0, 1) := by decide +kernel
theorem dX6_isVariable_7 : decode cX6_isVariable 7 = .ok (.bipush 112, 2) := by decide +kernel
theorem dX6_isVariable_9 : decode cX6_isVariable 9 = .ok (.if_icmp .gt 7, 3) := by decide +kernel
theorem dX6_isVariable_12 : decode cX6_isVariable 12 = .ok (.iconst 1, 1) := by decide +kernel
theorem dX6_isVariable_13 : decode cX6_isVariable 13 = .ok (.goto 4, 3) := by decide +kernel
theorem dX6_isVariable_16 : decode cX6_isVariable 16 = .ok (.iconst 0, 1) := by decide +kernel
theorem dX6_isVariable_17 : decode cX6_isVariable 17 = .ok (.ireturn, 1) := by decide +kernel
theorem dX6_isFigure_0 : decode cX6_isFigure 0 = .ok (.iload_n 0, 1) := by decide +kernel
theorem dX6_isFigure_1 : decode cX6_isFigure 1 = .ok (.bipush 48, 2) := by decide +kernel
theorem dX6_isFigure_3 : decode cX6_isFigure 3 = .ok (.if_icmp .lt 13, 3) := by decide +kernel
theorem dX6_isFigure_6 : decode cX6_isFigure 6 = .ok (.iload_n 0, 1) := by decide +kernel
theorem dX6_isFigure_7 : decode cX6_isFigure 7 = .ok (.bipush 57, 2) := by decide +kernel
theorem dX6_isFigure_9 : decode cX6_isFigure 9 = .ok (.if_icmp .gt 7, 3) := by decide +kernel
theorem dX6_isFigure_12 : decode cX6_isFigure 12 = .ok (.iconst 1, 1) := by decide +kernel
theorem dX6_isFigure_13 : decode cX6_isFigure 13 = .ok (.goto 4, 3) := by decide +kernel
theorem dX6_isFigure_16 : decode cX6_isFigure 16 = .ok (.iconst 0, 1) := by decide +kernel
theorem dX6_isFigure_17 : decode cX6_isFigure 17 = .ok (.ireturn, 1) := by decide +kernel
theorem dX6_readNumber_0 : decode cX6_readNumber 0 = .ok (.aload_n 0, 1) := by decide +kernel
theorem dX6_readNumber_1 : decode cX6_readNumber 1 = .ok (.getfield 130, 3) := by decide +kernel
theorem dX6_readNumber_4 : decode cX6_readNumber 4 = .ok (.istore 4, 2) := by decide +kernel
theorem dX6_readNumber_6 : decode cX6_readNumber 6 = .ok (.lconst 0, 1) := by decide +kernel
theorem dX6_readNumber_7 : decode cX6_readNumber 7 = .ok (.lstore 5, 2) := by decide +kernel
theorem dX6_readNumber_9 : decode cX6_readNumber 9 = .ok (.aload_n 0, 1) := by decide +kernel
theorem dX6_readNumber_10 : decode cX6_readNumber 10 = .ok (.getfield 130, 3) := by decide +kernel
theorem dX6_readNumber_13 : decode cX6_readNumber 13 = .ok (.aload_n 0, 1) := by decide +kernel
theorem dX6_readNumber_14 : decode cX6_readNumber 14 = .ok (.getfield 119, 3) := by decide +kernel
theorem dX6_readNumber_17 : decode cX6_readNumber 17 = .ok (.if_icmp .ge 68, 3) := by decide +kernel
theorem dX6_readNumber_20 : decode cX6_readNumber 20 = .ok (.aload_n 0, 1) := by decide +kernel
theorem dX6_readNumber_21 : decode cX6_readNumber 21 = .ok (.getfield 16, 3) := by decide +kernel
theorem dX6_readNumber_24 : decode cX6_readNumber 24 = .ok (.aload_n 0, 1) := by decide +kernel
theorem dX6_readNumber_25 : decode cX6_readNumber 25 = .ok (.getfield 130, 3) := by decide +kernel
theorem dX6_readNumber_28 : decode cX6_readNumber 28 = .ok (.iaload, 1) := by decide +kernel
theorem dX6_readNumber_29 : decode cX6_readNumber 29 = .ok (.invokestatic 141, 3) := by decide +kernel
theorem dX6_readNumber_32 : decode cX6_readNumber 32 = .ok (.ifCond .eq 53, 3) := by decide +kernel
theorem dX6_readNumber_35 : decode cX6_readNumber 35 = .ok (.lload 5, 2) := by decide +kernel
theorem dX6_readNumber_37 : decode cX6_readNumber 37 = .ok (.ldc2_w 145, 3) := by decide +kernel
theorem dX6_readNumber_40 : decode cX6_readNumber 40 = .ok (.lcmp, 1) := by decide +kernel
theorem dX6_readNumber_41 : decode cX6_readNumber 41 = .ok (.ifCond .le 8, 3) := by decide +kernel
theorem dX6_readNumber_44 : decode cX6_readNumber 44 = .ok (.lload 5, 2) := by decide +kernel
theorem dX6_readNumber_46 : decode cX6_readNumber 46 = .ok (.goto 24, 3) := by decide +kernel
theorem dX6_readNumber_49 : decode cX6_readNumber 49 = .ok (.ldc2_w 147, 3) := by decide +kernel
theorem dX6_readNumber_52 : decode cX6_readNumber 52 = .ok (.lload 5, 2) := by decide +kernel
theorem dX6_readNumber_54 : decode cX6_readNumber 54 = .ok (.lmul, 1) := by decide +kernel
theorem dX6_readNumber_55 : decode cX6_readNumber 55 = .ok (.aload_n 0, 1) := by decide +kernel
theorem dX6_readNumber_56 : decode cX6_readNumber 56 = .ok (.getfield 16, 3) := by decide +kernel
theorem dX6_readNumber_59 : decode cX6_readNumber 59 = .ok (.aload_n 0, 1) := by decide +kernel
theorem dX6_readNumber_60 : decode cX6_readNumber 60 = .ok (.getfield 130, 3) := by decide +kernel
theorem dX6_readNumber_63 : decode cX6_readNumber 63 = .ok (.iaload, 1) := by decide +kernel
theorem dX6_readNumber_64 : decode cX6_readNumber 64 = .ok (.i2l, 1) := by decide +kernel
theorem dX6_readNumber_65 : decode cX6_readNumber 65 = .ok (.ladd, 1) := by decide +kernel
theorem dX6_readNumber_66 : decode cX6_readNumber 66 = .ok (.ldc2_w 149, 3) := by decide +kernel
theorem dX6_readNumber_69 : decode cX6_readNumber 69 = .ok (.lsub, 1) := by decide +kernel
theorem dX6_readNumber_70 : decode cX6_readNumber 70 = .ok (.lstore 5, 2) := by decide +kernel
theorem dX6_readNumber_72 : decode cX6_readNumber 72 = .ok (.aload_n 0, 1) := by decide +kernel
theorem dX6_readNumber_73 : decode cX6_readNumber 73 = .ok (.dup, 1) := by decide +kernel
theorem dX6_readNumber_74 : decode cX6_readNumber 74 = .ok (.getfield 130, 3) := by decide +kernel
theorem dX6_readNumber_77 : decode cX6_readNumber 77 = .ok (.iconst 1, 1) := by decide +kernel
theorem dX6_readNumber_78 : decode cX6_readNumber 78 = .ok (.iadd, 1) := by decide +kernel
theorem dX6_readNumber_79 : decode cX6_readNumber 79 = .ok (.putfield 130, 3) := by decide +kernel
theorem dX6_readNumber_82 : decode cX6_readNumber 82 = .ok (.goto (-73), 3) := by decide +kernel
theorem dX6_readNumber_85 : decode cX6_readNumber 85 = .ok (.aload_n 0, 1) := by decide +kernel
theorem dX6_readNumber_86 : decode cX6_readNumber 86 = .ok (.getfield 130, 3) := by decide +kernel
theorem dX6_readNumber_89 : decode cX6_readNumber 89 = .ok (.iload 4, 2) := by decide +kernel
theorem dX6_readNumber_91 : decode cX6_readNumber 91 = .ok (.if_icmp .ne 15, 3) := by decide +kernel
theorem dX6_readNumber_94 : decode cX6_readNumber 94 = .ok (.aload_n 0, 1) := by decide +kernel
theorem dX6_readNumber_95 : decode cX6_readNumber 95 = .ok (.iconst 1, 1) := by decide +kernel
theorem dX6_readNumber_96 : decode cX6_readNumber 96 = .ok (.aload_n 0, 1) := by decide +kernel
theorem dX6_readNumber_97 : decode cX6_readNumber 97 = .ok (.getfield 130, 3) := by decide +kernel
theorem dX6_readNumber_100 : decode cX6_readNumber 100 = .ok (.invokevirtual 137, 3) := by decide +kernel
theorem dX6_readNumber_103 : decode cX6_readNumber 103 = .ok (.goto 19, 3) := by decide +kernel
theorem dX6_readNumber_106 : decode cX6_readNumber 106 = .ok (.lload 5, 2) := by decide +kernel
theorem dX6_readNumber_108 : decode cX6_readNumber 108 = .ok (.ldc2_w 151, 3) := by decide +kernel
theorem dX6_readNumber_111 : decode cX6_readNumber 111 = .ok (.lcmp, 1) := by decide +kernel
theorem dX6_readNumber_112 : decode cX6_readNumber 112 = .ok (.ifCond .le 10, 3) := by decide +kernel
theorem dX6_readNumber_115 : decode cX6_readNumber 115 = .ok (.aload_n 0, 1) := by decide +kernel
theorem dX6_readNumber_116 : decode cX6_readNumber 116 = .ok (.iconst 2, 1) := by decide +kernel
theorem dX6_readNumber_117 : decode cX6_readNumber 117 = .ok (.iload 4, 2) := by decide +kernel
theorem dX6_readNumber_119 : decode cX6_readNumber 119 = .ok (.invokevirtual 137, 3) := by decide +kernel
theorem dX6_readNumber_122 : decode cX6_readNumber 122 = .ok (.aload_n 0, 1) := by decide +kernel
theorem dX6_readNumber_123 : decode cX6_readNumber 123 = .ok (.getfield 19, 3) := by decide +kernel
theorem dX6_readNumber_126 : decode cX6_readNumber 126 = .ok (.bipush 9, 2) := by decide +kernel
theorem dX6_readNumber_128 : decode cX6_readNumber 128 = .ok (.iload_n 1, 1) := by decide +kernel
theorem dX6_readNumber_129 : decode cX6_readNumber 129 = .ok (.imul, 1) := by decide +kernel
theorem dX6_readNumber_130 : decode cX6_readNumber 130 = .ok (.iload_n 2, 1) := by decide +kernel
theorem dX6_readNumber_131 : decode cX6_readNumber 131 = .ok (.iadd, 1) := by decide +kernel
theorem dX6_readNumber_132 : decode cX6_readNumber 132 = .ok (.iconst 0, 1) := by decide +kernel
theorem dX6_readNumber_133 : decode cX6_readNumber 133 = .ok (.iastore, 1) := by decide +kernel
theorem dX6_readNumber_134 : decode cX6_readNumber 134 = .ok (.aload_n 0, 1) := by decide +kernel
theorem dX6_readNumber_135 : decode cX6_readNumber 135 = .ok (.getfield 19, 3) := by decide +kernel
theorem dX6_readNumber_138 : decode cX6_readNumber 138 = .ok (.bipush 9, 2) := by decide +kernel
theorem dX6_readNumber_140 : decode cX6_readNumber 140 = .ok (.iload_n 1, 1) := by decide +kernel
theorem dX6_readNumber_141 : decode cX6_readNumber 141 = .ok (.imul, 1) := by decide +kernel
theorem dX6_readNumber_142 : decode cX6_readNumber 142 = .ok (.iload_n 2, 1) := by decide +kernel
theorem dX6_readNumber_143 : decode cX6_readNumber 143 = .ok (.iadd, 1) := by decide +kernel
theorem dX6_readNumber_144 : decode cX6_readNumber 144 = .ok (.iconst 1, 1) := by decide +kernel
theorem dX6_readNumber_145 : decode cX6_readNumber 145 = .ok (.iadd, 1) := by decide +kernel
theorem dX6_readNumber_146 : decode cX6_readNumber 146 = .ok (.iload_n 3, 1) := by decide +kernel
theorem dX6_readNumber_147 : decode cX6_readNumber 147 = .ok (.ifCond .eq 9, 3) := by decide +kernel
theorem dX6_readNumber_150 : decode cX6_readNumber 150 = .ok (.lload 5, 2) := by decide +kernel
theorem dX6_readNumber_152 : decode cX6_readNumber 152 = .ok (.lneg, 1) := by decide +kernel
theorem dX6_readNumber_153 : decode cX6_readNumber 153 = .ok (.goto 5, 3) := by decide +kernel
theorem dX6_readNumber_156 : decode cX6_readNumber 156 = .ok (.lload 5, 2) := by decide +kernel
theorem dX6_readNumber_158 : decode cX6_readNumber 158 = .ok (.l2i, 1) := by decide +kernel
theorem dX6_readNumber_159 : decode cX6_readNumber 159 = .ok (.iastore, 1) := by decide +kernel
theorem dX6_readNumber_160 : decode cX6_readNumber 160 = .ok (.return_, 1) := by decide +kernel
theorem dX6_readValue_0 : decode cX6_readValue 0 = .ok (.aload_n 0, 1) := by decide +kernel
theorem dX6_readValue_1 : decode cX6_readValue 1 = .ok (.getfield 124, 3) := by decide +kernel
theorem dX6_readValue_4 : decode cX6_readValue 4 = .ok (.ifCond .le 4, 3) := by decide +kernel
theorem dX6_readValue_7 : decode cX6_readValue 7 = .ok (.return_, 1) := by decide +kernel
theorem dX6_readValue_8 : decode cX6_readValue 8 = .ok (.aload_n 0, 1) := by decide +kernel
end
section
theorem dX6_readValue_9 : decode cX6_readValue 9 = .ok (.invokevirtual 133, 3) := by decide +kernel
theorem dX6_readValue_12 : decode cX6_readValue 12 = .ok (.istore_n 3, 1) := by decide +kernel
theorem dX6_readValue_13 : decode cX6_readValue 13 = .ok (.iload_n 3, 1) := by decide +kernel
theorem dX6_readValue_14 : decode cX6_readValue 14 = .ok (.invokestatic 153, 3) := by decide +kernel
theorem dX6_readValue_17 : decode cX6_readValue 17 = .ok (.ifCond .eq 43, 3) := by decide +kernel
theorem dX6_readValue_20 : decode cX6_readValue 20 = .ok (.aload_n 0, 1) := by decide +kernel
theorem dX6_readValue_21 : decode cX6_readValue 21 = .ok (.getfield 19, 3) := by decide +kernel
theorem dX6_readValue_24 : decode cX6_readValue 24 = .ok (.bipush 9, 2) := by decide +kernel
theorem dX6_readValue_26 : decode cX6_readValue 26 = .ok (.iload_n 1, 1) := by decide +kernel
theorem dX6_readValue_27 : decode cX6_readValue 27 = .ok (.imul, 1) := by decide +kernel
theorem dX6_readValue_28 : decode cX6_readValue 28 = .ok (.iload_n 2, 1) := by decide +kernel
theorem dX6_readValue_29 : decode cX6_readValue 29 = .ok (.iadd, 1) := by decide +kernel
theorem dX6_readValue_30 : decode cX6_readValue 30 = .ok (.iconst 1, 1) := by decide +kernel
theorem dX6_readValue_31 : decode cX6_readValue 31 = .ok (.iastore, 1) := by decide +kernel
theorem dX6_readValue_32 : decode cX6_readValue 32 = .ok (.aload_n 0, 1) := by decide +kernel
theorem dX6_readValue_33 : decode cX6_readValue 33 = .ok (.getfield 19, 3) := by decide +kernel
theorem dX6_readValue_36 : decode cX6_readValue 36 = .ok (.bipush 9, 2) := by decide +kernel
theorem dX6_readValue_38 : decode cX6_readValue 38 = .ok (.iload_n 1, 1) := by decide +kernel
theorem dX6_readValue_39 : decode cX6_readValue 39 = .ok (.imul, 1) := by decide +kernel
theorem dX6_readValue_40 : decode cX6_readValue 40 = .ok (.iload_n 2, 1) := by decide +kernel
theorem dX6_readValue_41 : decode cX6_readValue 41 = .ok (.iadd, 1) := by decide +kernel
theorem dX6_readValue_42 : decode cX6_readValue 42 = .ok (.iconst 1, 1) := by decide +kernel
theorem dX6_readValue_43 : decode cX6_readValue 43 = .ok (.iadd, 1) := by decide +kernel
theorem dX6_readValue_44 : decode cX6_readValue 44 = .ok (.iload_n 3, 1) := by decide +kernel
theorem dX6_readValue_45 : decode cX6_readValue 45 = .ok (.bipush 97, 2) := by decide +kernel
theorem dX6_readValue_47 : decode cX6_readValue 47 = .ok (.isub, 1) := by decide +kernel
theorem dX6_readValue_48 : decode cX6_readValue 48 = .ok (.iastore, 1) := by decide +kernel
theorem dX6_readValue_49 : decode cX6_readValue 49 = .ok (.aload_n 0, 1) := by decide +kernel
theorem dX6_readValue_50 : decode cX6_readValue 50 = .ok (.dup, 1) := by decide +kernel
theorem dX6_readValue_51 : decode cX6_readValue 51 = .ok (.getfield 130, 3) := by decide +kernel
theorem dX6_readValue_54 : decode cX6_readValue 54 = .ok (.iconst 1, 1) := by decide +kernel
theorem dX6_readValue_55 : decode cX6_readValue 55 = .ok (.iadd, 1) := by decide +kernel
theorem dX6_readValue_56 : decode cX6_readValue 56 = .ok (.putfield 130, 3) := by decide +kernel
theorem dX6_readValue_59 : decode cX6_readValue 59 = .ok (.return_, 1) := by decide +kernel
theorem dX6_readValue_60 : decode cX6_readValue 60 = .ok (.iload_n 3, 1) := by decide +kernel
theorem dX6_readValue_61 : decode cX6_readValue 61 = .ok (.bipush 45, 2) := by decide +kernel
theorem dX6_readValue_63 : decode cX6_readValue 63 = .ok (.if_icmp .ne 7, 3) := by decide +kernel
theorem dX6_readValue_66 : decode cX6_readValue 66 = .ok (.iconst 1, 1) := by decide +kernel
theorem dX6_readValue_67 : decode cX6_readValue 67 = .ok (.goto 4, 3) := by decide +kernel
theorem dX6_readValue_70 : decode cX6_readValue 70 = .ok (.iconst 0, 1) := by decide +kernel
theorem dX6_readValue_71 : decode cX6_readValue 71 = .ok (.istore 4, 2) := by decide +kernel
theorem dX6_readValue_73 : decode cX6_readValue 73 = .ok (.iload 4, 2) := by decide +kernel
theorem dX6_readValue_75 : decode cX6_readValue 75 = .ok (.ifCond .eq 18, 3) := by decide +kernel
theorem dX6_readValue_78 : decode cX6_readValue 78 = .ok (.aload_n 0, 1) := by decide +kernel
theorem dX6_readValue_79 : decode cX6_readValue 79 = .ok (.dup, 1) := by decide +kernel
theorem dX6_readValue_80 : decode cX6_readValue 80 = .ok (.getfield 130, 3) := by decide +kernel
theorem dX6_readValue_83 : decode cX6_readValue 83 = .ok (.iconst 1, 1) := by decide +kernel
theorem dX6_readValue_84 : decode cX6_readValue 84 = .ok (.iadd, 1) := by decide +kernel
theorem dX6_readValue_85 : decode cX6_readValue 85 = .ok (.putfield 130, 3) := by decide +kernel
theorem dX6_readValue_88 : decode cX6_readValue 88 = .ok (.aload_n 0, 1) := by decide +kernel
theorem dX6_readValue_89 : decode cX6_readValue 89 = .ok (.invokevirtual 133, 3) := by decide +kernel
theorem dX6_readValue_92 : decode cX6_readValue 92 = .ok (.pop, 1) := by decide +kernel
theorem dX6_readValue_93 : decode cX6_readValue 93 = .ok (.aload_n 0, 1) := by decide +kernel
theorem dX6_readValue_94 : decode cX6_readValue 94 = .ok (.iload_n 1, 1) := by decide +kernel
theorem dX6_readValue_95 : decode cX6_readValue 95 = .ok (.iload_n 2, 1) := by decide +kernel
theorem dX6_readValue_96 : decode cX6_readValue 96 = .ok (.iload 4, 2) := by decide +kernel
theorem dX6_readValue_98 : decode cX6_readValue 98 = .ok (.invokevirtual 156, 3) := by decide +kernel
theorem dX6_readValue_101 : decode cX6_readValue 101 = .ok (.return_, 1) := by decide +kernel
theorem dX6_opOf_0 : decode cX6_opOf 0 = .ok (.iload_n 0, 1) := by decide +kernel
theorem dX6_opOf_1 : decode cX6_opOf 1 = .ok (.bipush 43, 2) := by decide +kernel
theorem dX6_opOf_3 : decode cX6_opOf 3 = .ok (.if_icmp .ne 7, 3) := by decide +kernel
theorem dX6_opOf_6 : decode cX6_opOf 6 = .ok (.iconst 2, 1) := by decide +kernel
theorem dX6_opOf_7 : decode cX6_opOf 7 = .ok (.goto 78, 3) := by decide +kernel
theorem dX6_opOf_10 : decode cX6_opOf 10 = .ok (.iload_n 0, 1) := by decide +kernel
theorem dX6_opOf_11 : decode cX6_opOf 11 = .ok (.bipush 45, 2) := by decide +kernel
theorem dX6_opOf_13 : decode cX6_opOf 13 = .ok (.if_icmp .ne 7, 3) := by decide +kernel
theorem dX6_opOf_16 : decode cX6_opOf 16 = .ok (.iconst 3, 1) := by decide +kernel
theorem dX6_opOf_17 : decode cX6_opOf 17 = .ok (.goto 68, 3) := by decide +kernel
theorem dX6_opOf_20 : decode cX6_opOf 20 = .ok (.iload_n 0, 1) := by decide +kernel
theorem dX6_opOf_21 : decode cX6_opOf 21 = .ok (.bipush 42, 2) := by decide +kernel
theorem dX6_opOf_23 : decode cX6_opOf 23 = .ok (.if_icmp .ne 7, 3) := by decide +kernel
theorem dX6_opOf_26 : decode cX6_opOf 26 = .ok (.iconst 4, 1) := by decide +kernel
theorem dX6_opOf_27 : decode cX6_opOf 27 = .ok (.goto 58, 3) := by decide +kernel
theorem dX6_opOf_30 : decode cX6_opOf 30 = .ok (.iload_n 0, 1) := by decide +kernel
theorem dX6_opOf_31 : decode cX6_opOf 31 = .ok (.bipush 47, 2) := by decide +kernel
theorem dX6_opOf_33 : decode cX6_opOf 33 = .ok (.if_icmp .ne 7, 3) := by decide +kernel
theorem dX6_opOf_36 : decode cX6_opOf 36 = .ok (.iconst 5, 1) := by decide +kernel
theorem dX6_opOf_37 : decode cX6_opOf 37 = .ok (.goto 48, 3) := by decide +kernel
theorem dX6_opOf_40 : decode cX6_opOf 40 = .ok (.iload_n 0, 1) := by decide +kernel
theorem dX6_opOf_41 : decode cX6_opOf 41 = .ok (.bipush 37, 2) := by decide +kernel
theorem dX6_opOf_43 : decode cX6_opOf 43 = .ok (.if_icmp .ne 8, 3) := by decide +kernel
theorem dX6_opOf_46 : decode cX6_opOf 46 = .ok (.bipush 6, 2) := by decide +kernel
theorem dX6_opOf_48 : decode cX6_opOf 48 = .ok (.goto 37, 3) := by decide +kernel
theorem dX6_opOf_51 : decode cX6_opOf 51 = .ok (.iload_n 0, 1) := by decide +kernel
theorem dX6_opOf_52 : decode cX6_opOf 52 = .ok (.bipush 38, 2) := by decide +kernel
theorem dX6_opOf_54 : decode cX6_opOf 54 = .ok (.if_icmp .ne 8, 3) := by decide +kernel
theorem dX6_opOf_57 : decode cX6_opOf 57 = .ok (.bipush 7, 2) := by decide +kernel
theorem dX6_opOf_59 : decode cX6_opOf 59 = .ok (.goto 26, 3) := by decide +kernel
theorem dX6_opOf_62 : decode cX6_opOf 62 = .ok (.iload_n 0, 1) := by decide +kernel
theorem dX6_opOf_63 : decode cX6_opOf 63 = .ok (.bipush 124, 2) := by decide +kernel
theorem dX6_opOf_65 : decode cX6_opOf 65 = .ok (.if_icmp .ne 8, 3) := by decide +kernel
theorem dX6_opOf_68 : decode cX6_opOf 68 = .ok (.bipush 8, 2) := by decide +kernel
theorem dX6_opOf_70 : decode cX6_opOf 70 = .ok (.goto 15, 3) := by decide +kernel
theorem dX6_opOf_73 : decode cX6_opOf 73 = .ok (.iload_n 0, 1) := by decide +kernel
theorem dX6_opOf_74 : decode cX6_opOf 74 = .ok (.bipush 94, 2) := by decide +kernel
theorem dX6_opOf_76 : decode cX6_opOf 76 = .ok (.if_icmp .ne 8, 3) := by decide +kernel
theorem dX6_opOf_79 : decode cX6_opOf 79 = .ok (.bipush 9, 2) := by decide +kernel
theorem dX6_opOf_81 : decode cX6_opOf 81 = .ok (.goto 4, 3) := by decide +kernel
theorem dX6_opOf_84 : decode cX6_opOf 84 = .ok (.iconst (-1), 1) := by decide +kernel
theorem dX6_opOf_85 : decode cX6_opOf 85 = .ok (.ireturn, 1) := by decide +kernel
theorem dX6_relOf_0 : decode cX6_relOf 0 = .ok (.iload_n 0, 1) := by decide +kernel
theorem dX6_relOf_1 : decode cX6_relOf 1 = .ok (.bipush 61, 2) := by decide +kernel
theorem dX6_relOf_3 : decode cX6_relOf 3 = .ok (.if_icmp .ne 8, 3) := by decide +kernel
theorem dX6_relOf_6 : decode cX6_relOf 6 = .ok (.bipush 10, 2) := by decide +kernel
theorem dX6_relOf_8 : decode cX6_relOf 8 = .ok (.goto 26, 3) := by decide +kernel
theorem dX6_relOf_11 : decode cX6_relOf 11 = .ok (.iload_n 0, 1) := by decide +kernel
theorem dX6_relOf_12 : decode cX6_relOf 12 = .ok (.bipush 35, 2) := by decide +kernel
theorem dX6_relOf_14 : decode cX6_relOf 14 = .ok (.if_icmp .ne 8, 3) := by decide +kernel
theorem dX6_relOf_17 : decode cX6_relOf 17 = .ok (.bipush 11, 2) := by decide +kernel
theorem dX6_relOf_19 : decode cX6_relOf 19 = .ok (.goto 15, 3) := by decide +kernel
theorem dX6_relOf_22 : decode cX6_relOf 22 = .ok (.iload_n 0, 1) := by decide +kernel
theorem dX6_relOf_23 : decode cX6_relOf 23 = .ok (.bipush 60, 2) := by decide +kernel
theorem dX6_relOf_25 : decode cX6_relOf 25 = .ok (.if_icmp .ne 8, 3) := by decide +kernel
theorem dX6_relOf_28 : decode cX6_relOf 28 = .ok (.bipush 12, 2) := by decide +kernel
theorem dX6_relOf_30 : decode cX6_relOf 30 = .ok (.goto 4, 3) := by decide +kernel
theorem dX6_relOf_33 : decode cX6_relOf 33 = .ok (.iconst (-1), 1) := by decide +kernel
theorem dX6_relOf_34 : decode cX6_relOf 34 = .ok (.ireturn, 1) := by decide +kernel
theorem dX6_readSet_0 : decode cX6_readSet 0 = .ok (.aload_n 0, 1) := by decide +kernel
theorem dX6_readSet_1 : decode cX6_readSet 1 = .ok (.getfield 19, 3) := by decide +kernel
theorem dX6_readSet_4 : decode cX6_readSet 4 = .ok (.bipush 9, 2) := by decide +kernel
theorem dX6_readSet_6 : decode cX6_readSet 6 = .ok (.iload_n 1, 1) := by decide +kernel
theorem dX6_readSet_7 : decode cX6_readSet 7 = .ok (.imul, 1) := by decide +kernel
theorem dX6_readSet_8 : decode cX6_readSet 8 = .ok (.iconst 1, 1) := by decide +kernel
theorem dX6_readSet_9 : decode cX6_readSet 9 = .ok (.iadd, 1) := by decide +kernel
theorem dX6_readSet_10 : decode cX6_readSet 10 = .ok (.aload_n 0, 1) := by decide +kernel
theorem dX6_readSet_11 : decode cX6_readSet 11 = .ok (.getfield 16, 3) := by decide +kernel
theorem dX6_readSet_14 : decode cX6_readSet 14 = .ok (.aload_n 0, 1) := by decide +kernel
theorem dX6_readSet_15 : decode cX6_readSet 15 = .ok (.getfield 130, 3) := by decide +kernel
theorem dX6_readSet_18 : decode cX6_readSet 18 = .ok (.iaload, 1) := by decide +kernel
theorem dX6_readSet_19 : decode cX6_readSet 19 = .ok (.bipush 97, 2) := by decide +kernel
theorem dX6_readSet_21 : decode cX6_readSet 21 = .ok (.isub, 1) := by decide +kernel
theorem dX6_readSet_22 : decode cX6_readSet 22 = .ok (.iastore, 1) := by decide +kernel
theorem dX6_readSet_23 : decode cX6_readSet 23 = .ok (.aload_n 0, 1) := by decide +kernel
theorem dX6_readSet_24 : decode cX6_readSet 24 = .ok (.dup, 1) := by decide +kernel
theorem dX6_readSet_25 : decode cX6_readSet 25 = .ok (.getfield 130, 3) := by decide +kernel
theorem dX6_readSet_28 : decode cX6_readSet 28 = .ok (.iconst 1, 1) := by decide +kernel
theorem dX6_readSet_29 : decode cX6_readSet 29 = .ok (.iadd, 1) := by decide +kernel
theorem dX6_readSet_30 : decode cX6_readSet 30 = .ok (.putfield 130, 3) := by decide +kernel
theorem dX6_readSet_33 : decode cX6_readSet 33 = .ok (.aload_n 0, 1) := by decide +kernel
theorem dX6_readSet_34 : decode cX6_readSet 34 = .ok (.bipush 61, 2) := by decide +kernel
theorem dX6_readSet_36 : decode cX6_readSet 36 = .ok (.invokevirtual 160, 3) := by decide +kernel
theorem dX6_readSet_39 : decode cX6_readSet 39 = .ok (.aload_n 0, 1) := by decide +kernel
theorem dX6_readSet_40 : decode cX6_readSet 40 = .ok (.getfield 124, 3) := by decide +kernel
theorem dX6_readSet_43 : decode cX6_readSet 43 = .ok (.ifCond .ne 47, 3) := by decide +kernel
theorem dX6_readSet_46 : decode cX6_readSet 46 = .ok (.aload_n 0, 1) := by decide +kernel
theorem dX6_readSet_47 : decode cX6_readSet 47 = .ok (.invokevirtual 133, 3) := by decide +kernel
theorem dX6_readSet_50 : decode cX6_readSet 50 = .ok (.bipush 64, 2) := by decide +kernel
theorem dX6_readSet_52 : decode cX6_readSet 52 = .ok (.if_icmp .ne 38, 3) := by decide +kernel
theorem dX6_readSet_55 : decode cX6_readSet 55 = .ok (.aload_n 0, 1) := by decide +kernel
theorem dX6_readSet_56 : decode cX6_readSet 56 = .ok (.dup, 1) := by decide +kernel
theorem dX6_readSet_57 : decode cX6_readSet 57 = .ok (.getfield 130, 3) := by decide +kernel
theorem dX6_readSet_60 : decode cX6_readSet 60 = .ok (.iconst 1, 1) := by decide +kernel
theorem dX6_readSet_61 : decode cX6_readSet 61 = .ok (.iadd, 1) := by decide +kernel
theorem dX6_readSet_62 : decode cX6_readSet 62 = .ok (.putfield 130, 3) := by decide +kernel
theorem dX6_readSet_65 : decode cX6_readSet 65 = .ok (.aload_n 0, 1) := by decide +kernel
theorem dX6_readSet_66 : decode cX6_readSet 66 = .ok (.getfield 19, 3) := by decide +kernel
theorem dX6_readSet_69 : decode cX6_readSet 69 = .ok (.bipush 9, 2) := by decide +kernel
theorem dX6_readSet_71 : decode cX6_readSet 71 = .ok (.iload_n 1, 1) := by decide +kernel
theorem dX6_readSet_72 : decode cX6_readSet 72 = .ok (.imul, 1) := by decide +kernel
theorem dX6_readSet_73 : decode cX6_readSet 73 = .ok (.iconst 0, 1) := by decide +kernel
theorem dX6_readSet_74 : decode cX6_readSet 74 = .ok (.iadd, 1) := by decide +kernel
theorem dX6_readSet_75 : decode cX6_readSet 75 = .ok (.iconst 2, 1) := by decide +kernel
theorem dX6_readSet_76 : decode cX6_readSet 76 = .ok (.iastore, 1) := by decide +kernel
theorem dX6_readSet_77 : decode cX6_readSet 77 = .ok (.aload_n 0, 1) := by decide +kernel
theorem dX6_readSet_78 : decode cX6_readSet 78 = .ok (.iload_n 1, 1) := by decide +kernel
theorem dX6_readSet_79 : decode cX6_readSet 79 = .ok (.iconst 3, 1) := by decide +kernel
theorem dX6_readSet_80 : decode cX6_readSet 80 = .ok (.invokevirtual 164, 3) := by decide +kernel
theorem dX6_readSet_83 : decode cX6_readSet 83 = .ok (.aload_n 0, 1) := by decide +kernel
theorem dX6_readSet_84 : decode cX6_readSet 84 = .ok (.bipush 59, 2) := by decide +kernel
theorem dX6_readSet_86 : decode cX6_readSet 86 = .ok (.invokevirtual 160, 3) := by decide +kernel
theorem dX6_readSet_89 : decode cX6_readSet 89 = .ok (.return_, 1) := by decide +kernel
theorem dX6_readSet_90 : decode cX6_readSet 90 = .ok (.aload_n 0, 1) := by decide +kernel
theorem dX6_readSet_91 : decode cX6_readSet 91 = .ok (.getfield 19, 3) := by decide +kernel
theorem dX6_readSet_94 : decode cX6_readSet 94 = .ok (.bipush 9, 2) := by decide +kernel
theorem dX6_readSet_96 : decode cX6_readSet 96 = .ok (.iload_n 1, 1) := by decide +kernel
theorem dX6_readSet_97 : decode cX6_readSet 97 = .ok (.imul, 1) := by decide +kernel
theorem dX6_readSet_98 : decode cX6_readSet 98 = .ok (.iconst 0, 1) := by decide +kernel
theorem dX6_readSet_99 : decode cX6_readSet 99 = .ok (.iadd, 1) := by decide +kernel
theorem dX6_readSet_100 : decode cX6_readSet 100 = .ok (.iconst 0, 1) := by decide +kernel
theorem dX6_readSet_101 : decode cX6_readSet 101 = .ok (.iastore, 1) := by decide +kernel
theorem dX6_readSet_102 : decode cX6_readSet 102 = .ok (.aload_n 0, 1) := by decide +kernel
theorem dX6_readSet_103 : decode cX6_readSet 103 = .ok (.iload_n 1, 1) := by decide +kernel
theorem dX6_readSet_104 : decode cX6_readSet 104 = .ok (.iconst 3, 1) := by decide +kernel
theorem dX6_readSet_105 : decode cX6_readSet 105 = .ok (.invokevirtual 164, 3) := by decide +kernel
theorem dX6_readSet_108 : decode cX6_readSet 108 = .ok (.aload_n 0, 1) := by decide +kernel
theorem dX6_readSet_109 : decode cX6_readSet 109 = .ok (.getfield 124, 3) := by decide +kernel
theorem dX6_readSet_112 : decode cX6_readSet 112 = .ok (.ifCond .le 7, 3) := by decide +kernel
theorem dX6_readSet_115 : decode cX6_readSet 115 = .ok (.iconst (-1), 1) := by decide +kernel
theorem dX6_readSet_116 : decode cX6_readSet 116 = .ok (.goto 10, 3) := by decide +kernel
theorem dX6_readSet_119 : decode cX6_readSet 119 = .ok (.aload_n 0, 1) := by decide +kernel
theorem dX6_readSet_120 : decode cX6_readSet 120 = .ok (.invokevirtual 133, 3) := by decide +kernel
theorem dX6_readSet_123 : decode cX6_readSet 123 = .ok (.invokestatic 167, 3) := by decide +kernel
theorem dX6_readSet_126 : decode cX6_readSet 126 = .ok (.istore_n 2, 1) := by decide +kernel
theorem dX6_readSet_127 : decode cX6_readSet 127 = .ok (.iload_n 2, 1) := by decide +kernel
theorem dX6_readSet_128 : decode cX6_readSet 128 = .ok (.iconst (-1), 1) := by decide +kernel
theorem dX6_readSet_129 : decode cX6_readSet 129 = .ok (.if_icmp .eq 43, 3) := by decide +kernel
theorem dX6_readSet_132 : decode cX6_readSet 132 = .ok (.aload_n 0, 1) := by decide +kernel
theorem dX6_readSet_133 : decode cX6_readSet 133 = .ok (.dup, 1) := by decide +kernel
theorem dX6_readSet_134 : decode cX6_readSet 134 = .ok (.getfield 130, 3) := by decide +kernel
theorem dX6_readSet_137 : decode cX6_readSet 137 = .ok (.iconst 1, 1) := by decide +kernel
theorem dX6_readSet_138 : decode cX6_readSet 138 = .ok (.iadd, 1) := by decide +kernel
theorem dX6_readSet_139 : decode cX6_readSet 139 = .ok (.putfield 130, 3) := by decide +kernel
theorem dX6_readSet_142 : decode cX6_readSet 142 = .ok (.aload_n 0, 1) := by decide +kernel
theorem dX6_readSet_143 : decode cX6_readSet 143 = .ok (.getfield 19, 3) := by decide +kernel
theorem dX6_readSet_146 : decode cX6_readSet 146 = .ok (.bipush 9, 2) := by decide +kernel
theorem dX6_readSet_148 : decode cX6_readSet 148 = .ok (.iload_n 1, 1) := by decide +kernel
theorem dX6_readSet_149 : decode cX6_readSet 149 = .ok (.imul, 1) := by decide +kernel
theorem dX6_readSet_150 : decode cX6_readSet 150 = .ok (.iconst 0, 1) := by decide +kernel
theorem dX6_readSet_151 : decode cX6_readSet 151 = .ok (.iadd, 1) := by decide +kernel
theorem dX6_readSet_152 : decode cX6_readSet 152 = .ok (.iconst 1, 1) := by decide +kernel
theorem dX6_readSet_153 : decode cX6_readSet 153 = .ok (.iastore, 1) := by decide +kernel
theorem dX6_readSet_154 : decode cX6_readSet 154 = .ok (.aload_n 0, 1) := by decide +kernel
theorem dX6_readSet_155 : decode cX6_readSet 155 = .ok (.getfield 19, 3) := by decide +kernel
theorem dX6_readSet_158 : decode cX6_readSet 158 = .ok (.bipush 9, 2) := by decide +kernel
theorem dX6_readSet_160 : decode cX6_readSet 160 = .ok (.iload_n 1, 1) := by decide +kernel
theorem dX6_readSet_161 : decode cX6_readSet 161 = .ok (.imul, 1) := by decide +kernel
theorem dX6_readSet_162 : decode cX6_readSet 162 = .ok (.iconst 2, 1) := by decide +kernel
theorem dX6_readSet_163 : decode cX6_readSet 163 = .ok (.iadd, 1) := by decide +kernel
theorem dX6_readSet_164 : decode cX6_readSet 164 = .ok (.iload_n 2, 1) := by decide +kernel
theorem dX6_readSet_165 : decode cX6_readSet 165 = .ok (.iastore, 1) := by decide +kernel
theorem dX6_readSet_166 : decode cX6_readSet 166 = .ok (.aload_n 0, 1) := by decide +kernel
theorem dX6_readSet_167 : decode cX6_readSet 167 = .ok (.iload_n 1, 1) := by decide +kernel
theorem dX6_readSet_168 : decode cX6_readSet 168 = .ok (.iconst 5, 1) := by decide +kernel
theorem dX6_readSet_169 : decode cX6_readSet 169 = .ok (.invokevirtual 164, 3) := by decide +kernel
theorem dX6_readSet_172 : decode cX6_readSet 172 = .ok (.aload_n 0, 1) := by decide +kernel
theorem dX6_readSet_173 : decode cX6_readSet 173 = .ok (.bipush 59, 2) := by decide +kernel
theorem dX6_readSet_175 : decode cX6_readSet 175 = .ok (.invokevirtual 160, 3) := by decide +kernel
theorem dX6_readSet_178 : decode cX6_readSet 178 = .ok (.return_, 1) := by decide +kernel
theorem dX6_readTest_0 : decode cX6_readTest 0 = .ok (.aload_n 0, 1) := by decide +kernel
theorem dX6_readTest_1 : decode cX6_readTest 1 = .ok (.dup, 1) := by decide +kernel
theorem dX6_readTest_2 : decode cX6_readTest 2 = .ok (.getfield 130, 3) := by decide +kernel
theorem dX6_readTest_5 : decode cX6_readTest 5 = .ok (.iconst 1, 1) := by decide +kernel
theorem dX6_readTest_6 : decode cX6_readTest 6 = .ok (.iadd, 1) := by decide +kernel
theorem dX6_readTest_7 : decode cX6_readTest 7 = .ok (.putfield 130, 3) := by decide +kernel
theorem dX6_readTest_10 : decode cX6_readTest 10 = .ok (.aload_n 0, 1) := by decide +kernel
theorem dX6_readTest_11 : decode cX6_readTest 11 = .ok (.getfield 19, 3) := by decide +kernel
theorem dX6_readTest_14 : decode cX6_readTest 14 = .ok (.bipush 9, 2) := by decide +kernel
theorem dX6_readTest_16 : decode cX6_readTest 16 = .ok (.iload_n 1, 1) := by decide +kernel
theorem dX6_readTest_17 : decode cX6_readTest 17 = .ok (.imul, 1) := by decide +kernel
theorem dX6_readTest_18 : decode cX6_readTest 18 = .ok (.iconst 0, 1) := by decide +kernel
theorem dX6_readTest_19 : decode cX6_readTest 19 = .ok (.iadd, 1) := by decide +kernel
theorem dX6_readTest_20 : decode cX6_readTest 20 = .ok (.iconst 5, 1) := by decide +kernel
theorem dX6_readTest_21 : decode cX6_readTest 21 = .ok (.iastore, 1) := by decide +kernel
theorem dX6_readTest_22 : decode cX6_readTest 22 = .ok (.aload_n 0, 1) := by decide +kernel
theorem dX6_readTest_23 : decode cX6_readTest 23 = .ok (.iload_n 1, 1) := by decide +kernel
theorem dX6_readTest_24 : decode cX6_readTest 24 = .ok (.iconst 3, 1) := by decide +kernel
theorem dX6_readTest_25 : decode cX6_readTest 25 = .ok (.invokevirtual 164, 3) := by decide +kernel
theorem dX6_readTest_28 : decode cX6_readTest 28 = .ok (.aload_n 0, 1) := by decide +kernel
theorem dX6_readTest_29 : decode cX6_readTest 29 = .ok (.getfield 124, 3) := by decide +kernel
theorem dX6_readTest_32 : decode cX6_readTest 32 = .ok (.ifCond .le 4, 3) := by decide +kernel
theorem dX6_readTest_35 : decode cX6_readTest 35 = .ok (.return_, 1) := by decide +kernel
theorem dX6_readTest_36 : decode cX6_readTest 36 = .ok (.aload_n 0, 1) := by decide +kernel
theorem dX6_readTest_37 : decode cX6_readTest 37 = .ok (.invokevirtual 133, 3) := by decide +kernel
theorem dX6_readTest_40 : decode cX6_readTest 40 = .ok (.invokestatic 171, 3) := by decide +kernel
theorem dX6_readTest_43 : decode cX6_readTest 43 = .ok (.istore_n 2, 1) := by decide +kernel
theorem dX6_readTest_44 : decode cX6_readTest 44 = .ok (.iload_n 2, 1) := by decide +kernel
theorem dX6_readTest_45 : decode cX6_readTest 45 = .ok (.iconst (-1), 1) := by decide +kernel
theorem dX6_readTest_46 : decode cX6_readTest 46 = .ok (.if_icmp .ne 13, 3) := by decide +kernel
theorem dX6_readTest_49 : decode cX6_readTest 49 = .ok (.aload_n 0, 1) := by decide +kernel
theorem dX6_readTest_50 : decode cX6_readTest 50 = .ok (.iconst 1, 1) := by decide +kernel
theorem dX6_readTest_51 : decode cX6_readTest 51 = .ok (.aload_n 0, 1) := by decide +kernel
theorem dX6_readTest_52 : decode cX6_readTest 52 = .ok (.getfield 130, 3) := by decide +kernel
theorem dX6_readTest_55 : decode cX6_readTest 55 = .ok (.invokevirtual 137, 3) := by decide +kernel
theorem dX6_readTest_58 : decode cX6_readTest 58 = .ok (.return_, 1) := by decide +kernel
theorem dX6_readTest_59 : decode cX6_readTest 59 = .ok (.aload_n 0, 1) := by decide +kernel
theorem dX6_readTest_60 : decode cX6_readTest 60 = .ok (.dup, 1) := by decide +kernel
theorem dX6_readTest_61 : decode cX6_readTest 61 = .ok (.getfield 130, 3) := by decide +kernel
theorem dX6_readTest_64 : decode cX6_readTest 64 = .ok (.iconst 1, 1) := by decide +kernel
theorem dX6_readTest_65 : decode cX6_readTest 65 = .ok (.iadd, 1) := by decide +kernel
theorem dX6_readTest_66 : decode cX6_readTest 66 = .ok (.putfield 130, 3) := by decide +kernel
theorem dX6_readTest_69 : decode cX6_readTest 69 = .ok (.aload_n 0, 1) := by decide +kernel
theorem dX6_readTest_70 : decode cX6_readTest 70 = .ok (.getfield 19, 3) := by decide +kernel
theorem dX6_readTest_73 : decode cX6_readTest 73 = .ok (.bipush 9, 2) := by decide +kernel
theorem dX6_readTest_75 : decode cX6_readTest 75 = .ok (.iload_n 1, 1) := by decide +kernel
theorem dX6_readTest_76 : decode cX6_readTest 76 = .ok (.imul, 1) := by decide +kernel
theorem dX6_readTest_77 : decode cX6_readTest 77 = .ok (.iconst 2, 1) := by decide +kernel
theorem dX6_readTest_78 : decode cX6_readTest 78 = .ok (.iadd, 1) := by decide +kernel
theorem dX6_readTest_79 : decode cX6_readTest 79 = .ok (.iload_n 2, 1) := by decide +kernel
theorem dX6_readTest_80 : decode cX6_readTest 80 = .ok (.iastore, 1) := by decide +kernel
theorem dX6_readTest_81 : decode cX6_readTest 81 = .ok (.aload_n 0, 1) := by decide +kernel
theorem dX6_readTest_82 : decode cX6_readTest 82 = .ok (.iload_n 1, 1) := by decide +kernel
theorem dX6_readTest_83 : decode cX6_readTest 83 = .ok (.iconst 5, 1) := by decide +kernel
theorem dX6_readTest_84 : decode cX6_readTest 84 = .ok (.invokevirtual 164, 3) := by decide +kernel
theorem dX6_readTest_87 : decode cX6_readTest 87 = .ok (.aload_n 0, 1) := by decide +kernel
theorem dX6_readTest_88 : decode cX6_readTest 88 = .ok (.bipush 123, 2) := by decide +kernel
theorem dX6_readTest_90 : decode cX6_readTest 90 = .ok (.invokevirtual 160, 3) := by decide +kernel
theorem dX6_readTest_93 : decode cX6_readTest 93 = .ok (.return_, 1) := by decide +kernel
theorem dX6_readStatement_0 : decode cX6_readStatement 0 = .ok (.iload_n 1, 1) := by decide +kernel
theorem dX6_readStatement_1 : decode cX6_readStatement 1 = .ok (.invokestatic 153, 3) := by decide +kernel
theorem dX6_readStatement_4 : decode cX6_readStatement 4 = .ok (.ifCond .ne 21, 3) := by decide +kernel
theorem dX6_readStatement_7 : decode cX6_readStatement 7 = .ok (.iload_n 1, 1) := by decide +kernel
theorem dX6_readStatement_8 : decode cX6_readStatement 8 = .ok (.bipush 64, 2) := by decide +kernel
theorem dX6_readStatement_10 : decode cX6_readStatement 10 = .ok (.if_icmp .eq 15, 3) := by decide +kernel
theorem dX6_readStatement_13 : decode cX6_readStatement 13 = .ok (.iload_n 1, 1) := by decide +kernel
theorem dX6_readStatement_14 : decode cX6_readStatement 14 = .ok (.bipush 33, 2) := by decide +kernel
theorem dX6_readStatement_16 : decode cX6_readStatement 16 = .ok (.if_icmp .eq 9, 3) := by decide +kernel
theorem dX6_readStatement_19 : decode cX6_readStatement 19 = .ok (.iload_n 1, 1) := by decide +kernel
theorem dX6_readStatement_20 : decode cX6_readStatement 20 = .ok (.bipush 63, 2) := by decide +kernel
theorem dX6_readStatement_22 : decode cX6_readStatement 22 = .ok (.if_icmp .ne 7, 3) := by decide +kernel
theorem dX6_readStatement_25 : decode cX6_readStatement 25 = .ok (.iconst 1, 1) := by decide +kernel
theorem dX6_readStatement_26 : decode cX6_readStatement 26 = .ok (.goto 4, 3) := by decide +kernel
theorem dX6_readStatement_29 : decode cX6_readStatement 29 = .ok (.iconst 0, 1) := by decide +kernel
theorem dX6_readStatement_30 : decode cX6_readStatement 30 = .ok (.istore_n 2, 1) := by decide +kernel
theorem dX6_readStatement_31 : decode cX6_readStatement 31 = .ok (.iload_n 2, 1) := by decide +kernel
theorem dX6_readStatement_32 : decode cX6_readStatement 32 = .ok (.ifCond .ne 15, 3) := by decide +kernel
theorem dX6_readStatement_35 : decode cX6_readStatement 35 = .ok (.aload_n 0, 1) := by decide +kernel
theorem dX6_readStatement_36 : decode cX6_readStatement 36 = .ok (.iconst 1, 1) := by decide +kernel
theorem dX6_readStatement_37 : decode cX6_readStatement 37 = .ok (.aload_n 0, 1) := by decide +kernel
theorem dX6_readStatement_38 : decode cX6_readStatement 38 = .ok (.getfield 130, 3) := by decide +kernel
theorem dX6_readStatement_41 : decode cX6_readStatement 41 = .ok (.invokevirtual 137, 3) := by decide +kernel
theorem dX6_readStatement_44 : decode cX6_readStatement 44 = .ok (.goto 48, 3) := by decide +kernel
theorem dX6_readStatement_47 : decode cX6_readStatement 47 = .ok (.aload_n 0, 1) := by decide +kernel
theorem dX6_readStatement_48 : decode cX6_readStatement 48 = .ok (.getfield 174, 3) := by decide +kernel
theorem dX6_readStatement_51 : decode cX6_readStatement 51 = .ok (.bipush 60, 2) := by decide +kernel
theorem dX6_readStatement_53 : decode cX6_readStatement 53 = .ok (.if_icmp .ne 15, 3) := by decide +kernel
theorem dX6_readStatement_56 : decode cX6_readStatement 56 = .ok (.aload_n 0, 1) := by decide +kernel
theorem dX6_readStatement_57 : decode cX6_readStatement 57 = .ok (.iconst 3, 1) := by decide +kernel
theorem dX6_readStatement_58 : decode cX6_readStatement 58 = .ok (.aload_n 0, 1) := by decide +kernel
theorem dX6_readStatement_59 : decode cX6_readStatement 59 = .ok (.getfield 130, 3) := by decide +kernel
theorem dX6_readStatement_62 : decode cX6_readStatement 62 = .ok (.invokevirtual 137, 3) := by decide +kernel
theorem dX6_readStatement_65 : decode cX6_readStatement 65 = .ok (.goto 27, 3) := by decide +kernel
theorem dX6_readStatement_68 : decode cX6_readStatement 68 = .ok (.iload_n 1, 1) := by decide +kernel
theorem dX6_readStatement_69 : decode cX6_readStatement 69 = .ok (.bipush 63, 2) := by decide +kernel
theorem dX6_readStatement_71 : decode cX6_readStatement 71 = .ok (.if_icmp .ne 21, 3) := by decide +kernel
theorem dX6_readStatement_74 : decode cX6_readStatement 74 = .ok (.aload_n 0, 1) := by decide +kernel
theorem dX6_readStatement_75 : decode cX6_readStatement 75 = .ok (.getfield 177, 3) := by decide +kernel
theorem dX6_readStatement_78 : decode cX6_readStatement 78 = .ok (.bipush 6, 2) := by decide +kernel
theorem dX6_readStatement_80 : decode cX6_readStatement 80 = .ok (.if_icmp .ne 12, 3) := by decide +kernel
theorem dX6_readStatement_83 : decode cX6_readStatement 83 = .ok (.aload_n 0, 1) := by decide +kernel
theorem dX6_readStatement_84 : decode cX6_readStatement 84 = .ok (.iconst 4, 1) := by decide +kernel
theorem dX6_readStatement_85 : decode cX6_readStatement 85 = .ok (.aload_n 0, 1) := by decide +kernel
theorem dX6_readStatement_86 : decode cX6_readStatement 86 = .ok (.getfield 130, 3) := by decide +kernel
theorem dX6_readStatement_89 : decode cX6_readStatement 89 = .ok (.invokevirtual 137, 3) := by decide +kernel
theorem dX6_readStatement_92 : decode cX6_readStatement 92 = .ok (.aload_n 0, 1) := by decide +kernel
theorem dX6_readStatement_93 : decode cX6_readStatement 93 = .ok (.getfield 124, 3) := by decide +kernel
theorem dX6_readStatement_96 : decode cX6_readStatement 96 = .ok (.ifCond .le 4, 3) := by decide +kernel
theorem dX6_readStatement_99 : decode cX6_readStatement 99 = .ok (.return_, 1) := by decide +kernel
theorem dX6_readStatement_100 : decode cX6_readStatement 100 = .ok (.aload_n 0, 1) := by decide +kernel
theorem dX6_readStatement_101 : decode cX6_readStatement 101 = .ok (.getfield 174, 3) := by decide +kernel
theorem dX6_readStatement_104 : decode cX6_readStatement 104 = .ok (.istore_n 3, 1) := by decide +kernel
theorem dX6_readStatement_105 : decode cX6_readStatement 105 = .ok (.aload_n 0, 1) := by decide +kernel
theorem dX6_readStatement_106 : decode cX6_readStatement 106 = .ok (.dup, 1) := by decide +kernel
theorem dX6_readStatement_107 : decode cX6_readStatement 107 = .ok (.getfield 174, 3) := by decide +kernel
theorem dX6_readStatement_110 : decode cX6_readStatement 110 = .ok (.iconst 1, 1) := by decide +kernel
theorem dX6_readStatement_111 : decode cX6_readStatement 111 = .ok (.iadd, 1) := by decide +kernel
theorem dX6_readStatement_112 : decode cX6_readStatement 112 = .ok (.putfield 174, 3) := by decide +kernel
theorem dX6_readStatement_115 : decode cX6_readStatement 115 = .ok (.iconst 0, 1) := by decide +kernel
theorem dX6_readStatement_116 : decode cX6_readStatement 116 = .ok (.istore 4, 2) := by decide +kernel
theorem dX6_readStatement_118 : decode cX6_readStatement 118 = .ok (.iload 4, 2) := by decide +kernel
theorem dX6_readStatement_120 : decode cX6_readStatement 120 = .ok (.bipush 9, 2) := by decide +kernel
theorem dX6_readStatement_122 : decode cX6_readStatement 122 = .ok (.if_icmp .ge 22, 3) := by decide +kernel
theorem dX6_readStatement_125 : decode cX6_readStatement 125 = .ok (.aload_n 0, 1) := by decide +kernel
theorem dX6_readStatement_126 : decode cX6_readStatement 126 = .ok (.getfield 19, 3) := by decide +kernel
theorem dX6_readStatement_129 : decode cX6_readStatement 129 = .ok (.bipush 9, 2) := by decide +kernel
theorem dX6_readStatement_131 : decode cX6_readStatement 131 = .ok (.iload_n 3, 1) := by decide +kernel
theorem dX6_readStatement_132 : decode cX6_readStatement 132 = .ok (.imul, 1) := by decide +kernel
theorem dX6_readStatement_133 : decode cX6_readStatement 133 = .ok (.iload 4, 2) := by decide +kernel
theorem dX6_readStatement_135 : decode cX6_readStatement 135 = .ok (.iadd, 1) := by decide +kernel
theorem dX6_readStatement_136 : decode cX6_readStatement 136 = .ok (.iconst 0, 1) := by decide +kernel
theorem dX6_readStatement_137 : decode cX6_readStatement 137 = .ok (.iastore, 1) := by decide +kernel
theorem dX6_readStatement_138 : decode cX6_readStatement 138 = .ok (.iinc 4 1, 3) := by decide +kernel
theorem dX6_readStatement_141 : decode cX6_readStatement 141 = .ok (.goto (-23), 3) := by decide +kernel
theorem dX6_readStatement_144 : decode cX6_readStatement 144 = .ok (.aload_n 0, 1) := by decide +kernel
theorem dX6_readStatement_145 : decode cX6_readStatement 145 = .ok (.getfield 19, 3) := by decide +kernel
theorem dX6_readStatement_148 : decode cX6_readStatement 148 = .ok (.bipush 9, 2) := by decide +kernel
theorem dX6_readStatement_150 : decode cX6_readStatement 150 = .ok (.iload_n 3, 1) := by decide +kernel
theorem dX6_readStatement_151 : decode cX6_readStatement 151 = .ok (.imul, 1) := by decide +kernel
theorem dX6_readStatement_152 : decode cX6_readStatement 152 = .ok (.bipush 7, 2) := by decide +kernel
theorem dX6_readStatement_154 : decode cX6_readStatement 154 = .ok (.iadd, 1) := by decide +kernel
theorem dX6_readStatement_155 : decode cX6_readStatement 155 = .ok (.aload_n 0, 1) := by decide +kernel
theorem dX6_readStatement_156 : decode cX6_readStatement 156 = .ok (.getfield 177, 3) := by decide +kernel
theorem dX6_readStatement_159 : decode cX6_readStatement 159 = .ok (.iastore, 1) := by decide +kernel
theorem dX6_readStatement_160 : decode cX6_readStatement 160 = .ok (.aload_n 0, 1) := by decide +kernel
theorem dX6_readStatement_161 : decode cX6_readStatement 161 = .ok (.getfield 25, 3) := by decide +kernel
theorem dX6_readStatement_164 : decode cX6_readStatement 164 = .ok (.iload_n 3, 1) := by decide +kernel
theorem dX6_readStatement_165 : decode cX6_readStatement 165 = .ok (.iload_n 3, 1) := by decide +kernel
theorem dX6_readStatement_166 : decode cX6_readStatement 166 = .ok (.iconst 1, 1) := by decide +kernel
theorem dX6_readStatement_167 : decode cX6_readStatement 167 = .ok (.iadd, 1) := by decide +kernel
theorem dX6_readStatement_168 : decode cX6_readStatement 168 = .ok (.iastore, 1) := by decide +kernel
theorem dX6_readStatement_169 : decode cX6_readStatement 169 = .ok (.aload_n 0, 1) := by decide +kernel
theorem dX6_readStatement_170 : decode cX6_readStatement 170 = .ok (.getfield 28, 3) := by decide +kernel
theorem dX6_readStatement_173 : decode cX6_readStatement 173 = .ok (.iload_n 3, 1) := by decide +kernel
theorem dX6_readStatement_174 : decode cX6_readStatement 174 = .ok (.iload_n 3, 1) := by decide +kernel
theorem dX6_readStatement_175 : decode cX6_readStatement 175 = .ok (.iconst 1, 1) := by decide +kernel
theorem dX6_readStatement_176 : decode cX6_readStatement 176 = .ok (.iadd, 1) := by decide +kernel
theorem dX6_readStatement_177 : decode cX6_readStatement 177 = .ok (.iastore, 1) := by decide +kernel
theorem dX6_readStatement_178 : decode cX6_readStatement 178 = .ok (.iload_n 1, 1) := by decide +kernel
theorem dX6_readStatement_179 : decode cX6_readStatement 179 = .ok (.invokestatic 153, 3) := by decide +kernel
theorem dX6_readStatement_182 : decode cX6_readStatement 182 = .ok (.ifCond .eq 11, 3) := by decide +kernel
theorem dX6_readStatement_185 : decode cX6_readStatement 185 = .ok (.aload_n 0, 1) := by decide +kernel
theorem dX6_readStatement_186 : decode cX6_readStatement 186 = .ok (.iload_n 3, 1) := by decide +kernel
theorem dX6_readStatement_187 : decode cX6_readStatement 187 = .ok (.invokevirtual 180, 3) := by decide +kernel
theorem dX6_readStatement_190 : decode cX6_readStatement 190 = .ok (.goto 136, 3) := by decide +kernel
theorem dX6_readStatement_193 : decode cX6_readStatement 193 = .ok (.iload_n 1, 1) := by decide +kernel
theorem dX6_readStatement_194 : decode cX6_readStatement 194 = .ok (.bipush 64, 2) := by decide +kernel
theorem dX6_readStatement_196 : decode cX6_readStatement 196 = .ok (.if_icmp .ne 52, 3) := by decide +kernel
theorem dX6_readStatement_199 : decode cX6_readStatement 199 = .ok (.aload_n 0, 1) := by decide +kernel
theorem dX6_readStatement_200 : decode cX6_readStatement 200 = .ok (.dup, 1) := by decide +kernel
theorem dX6_readStatement_201 : decode cX6_readStatement 201 = .ok (.getfield 130, 3) := by decide +kernel
theorem dX6_readStatement_204 : decode cX6_readStatement 204 = .ok (.iconst 1, 1) := by decide +kernel
theorem dX6_readStatement_205 : decode cX6_readStatement 205 = .ok (.iadd, 1) := by decide +kernel
theorem dX6_readStatement_206 : decode cX6_readStatement 206 = .ok (.putfield 130, 3) := by decide +kernel
theorem dX6_readStatement_209 : decode cX6_readStatement 209 = .ok (.aload_n 0, 1) := by decide +kernel
theorem dX6_readStatement_210 : decode cX6_readStatement 210 = .ok (.getfield 19, 3) := by decide +kernel
theorem dX6_readStatement_213 : decode cX6_readStatement 213 = .ok (.bipush 9, 2) := by decide +kernel
theorem dX6_readStatement_215 : decode cX6_readStatement 215 = .ok (.iload_n 3, 1) := by decide +kernel
theorem dX6_readStatement_216 : decode cX6_readStatement 216 = .ok (.imul, 1) := by decide +kernel
theorem dX6_readStatement_217 : decode cX6_readStatement 217 = .ok (.iconst 0, 1) := by decide +kernel
theorem dX6_readStatement_218 : decode cX6_readStatement 218 = .ok (.iadd, 1) := by decide +kernel
theorem dX6_readStatement_219 : decode cX6_readStatement 219 = .ok (.iconst 3, 1) := by decide +kernel
theorem dX6_readStatement_220 : decode cX6_readStatement 220 = .ok (.iastore, 1) := by decide +kernel
theorem dX6_readStatement_221 : decode cX6_readStatement 221 = .ok (.aload_n 0, 1) := by decide +kernel
theorem dX6_readStatement_222 : decode cX6_readStatement 222 = .ok (.iload_n 3, 1) := by decide +kernel
theorem dX6_readStatement_223 : decode cX6_readStatement 223 = .ok (.iconst 3, 1) := by decide +kernel
theorem dX6_readStatement_224 : decode cX6_readStatement 224 = .ok (.invokevirtual 164, 3) := by decide +kernel
theorem dX6_readStatement_227 : decode cX6_readStatement 227 = .ok (.aload_n 0, 1) := by decide +kernel
theorem dX6_readStatement_228 : decode cX6_readStatement 228 = .ok (.bipush 61, 2) := by decide +kernel
theorem dX6_readStatement_230 : decode cX6_readStatement 230 = .ok (.invokevirtual 160, 3) := by decide +kernel
theorem dX6_readStatement_233 : decode cX6_readStatement 233 = .ok (.aload_n 0, 1) := by decide +kernel
theorem dX6_readStatement_234 : decode cX6_readStatement 234 = .ok (.iload_n 3, 1) := by decide +kernel
theorem dX6_readStatement_235 : decode cX6_readStatement 235 = .ok (.iconst 5, 1) := by decide +kernel
theorem dX6_readStatement_236 : decode cX6_readStatement 236 = .ok (.invokevirtual 164, 3) := by decide +kernel
theorem dX6_readStatement_239 : decode cX6_readStatement 239 = .ok (.aload_n 0, 1) := by decide +kernel
theorem dX6_readStatement_240 : decode cX6_readStatement 240 = .ok (.bipush 59, 2) := by decide +kernel
theorem dX6_readStatement_242 : decode cX6_readStatement 242 = .ok (.invokevirtual 160, 3) := by decide +kernel
theorem dX6_readStatement_245 : decode cX6_readStatement 245 = .ok (.goto 81, 3) := by decide +kernel
theorem dX6_readStatement_248 : decode cX6_readStatement 248 = .ok (.iload_n 1, 1) := by decide +kernel
theorem dX6_readStatement_249 : decode cX6_readStatement 249 = .ok (.bipush 33, 2) := by decide +kernel
theorem dX6_readStatement_251 : decode cX6_readStatement 251 = .ok (.if_icmp .ne 40, 3) := by decide +kernel
theorem dX6_readStatement_254 : decode cX6_readStatement 254 = .ok (.aload_n 0, 1) := by decide +kernel
theorem dX6_readStatement_255 : decode cX6_readStatement 255 = .ok (.dup, 1) := by decide +kernel
theorem dX6_readStatement_256 : decode cX6_readStatement 256 = .ok (.getfield 130, 3) := by decide +kernel
theorem dX6_readStatement_259 : decode cX6_readStatement 259 = .ok (.iconst 1, 1) := by decide +kernel
theorem dX6_readStatement_260 : decode cX6_readStatement 260 = .ok (.iadd, 1) := by decide +kernel
theorem dX6_readStatement_261 : decode cX6_readStatement 261 = .ok (.putfield 130, 3) := by decide +kernel
theorem dX6_readStatement_264 : decode cX6_readStatement 264 = .ok (.aload_n 0, 1) := by decide +kernel
theorem dX6_readStatement_265 : decode cX6_readStatement 265 = .ok (.getfield 19, 3) := by decide +kernel
theorem dX6_readStatement_268 : decode cX6_readStatement 268 = .ok (.bipush 9, 2) := by decide +kernel
theorem dX6_readStatement_270 : decode cX6_readStatement 270 = .ok (.iload_n 3, 1) := by decide +kernel
theorem dX6_readStatement_271 : decode cX6_readStatement 271 = .ok (.imul, 1) := by decide +kernel
theorem dX6_readStatement_272 : decode cX6_readStatement 272 = .ok (.iconst 0, 1) := by decide +kernel
theorem dX6_readStatement_273 : decode cX6_readStatement 273 = .ok (.iadd, 1) := by decide +kernel
theorem dX6_readStatement_274 : decode cX6_readStatement 274 = .ok (.iconst 4, 1) := by decide +kernel
theorem dX6_readStatement_275 : decode cX6_readStatement 275 = .ok (.iastore, 1) := by decide +kernel
theorem dX6_readStatement_276 : decode cX6_readStatement 276 = .ok (.aload_n 0, 1) := by decide +kernel
theorem dX6_readStatement_277 : decode cX6_readStatement 277 = .ok (.iload_n 3, 1) := by decide +kernel
theorem dX6_readStatement_278 : decode cX6_readStatement 278 = .ok (.iconst 3, 1) := by decide +kernel
theorem dX6_readStatement_279 : decode cX6_readStatement 279 = .ok (.invokevirtual 164, 3) := by decide +kernel
theorem dX6_readStatement_282 : decode cX6_readStatement 282 = .ok (.aload_n 0, 1) := by decide +kernel
theorem dX6_readStatement_283 : decode cX6_readStatement 283 = .ok (.bipush 59, 2) := by decide +kernel
theorem dX6_readStatement_285 : decode cX6_readStatement 285 = .ok (.invokevirtual 160, 3) := by decide +kernel
theorem dX6_readStatement_288 : decode cX6_readStatement 288 = .ok (.goto 38, 3) := by decide +kernel
theorem dX6_readStatement_291 : decode cX6_readStatement 291 = .ok (.aload_n 0, 1) := by decide +kernel
theorem dX6_readStatement_292 : decode cX6_readStatement 292 = .ok (.iload_n 3, 1) := by decide +kernel
theorem dX6_readStatement_293 : decode cX6_readStatement 293 = .ok (.invokevirtual 183, 3) := by decide +kernel
theorem dX6_readStatement_296 : decode cX6_readStatement 296 = .ok (.aload_n 0, 1) := by decide +kernel
theorem dX6_readStatement_297 : decode cX6_readStatement 297 = .ok (.getfield 37, 3) := by decide +kernel
theorem dX6_readStatement_300 : decode cX6_readStatement 300 = .ok (.aload_n 0, 1) := by decide +kernel
theorem dX6_readStatement_301 : decode cX6_readStatement 301 = .ok (.getfield 177, 3) := by decide +kernel
theorem dX6_readStatement_304 : decode cX6_readStatement 304 = .ok (.iload_n 3, 1) := by decide +kernel
theorem dX6_readStatement_305 : decode cX6_readStatement 305 = .ok (.iastore, 1) := by decide +kernel
theorem dX6_readStatement_306 : decode cX6_readStatement 306 = .ok (.aload_n 0, 1) := by decide +kernel
theorem dX6_readStatement_307 : decode cX6_readStatement 307 = .ok (.getfield 40, 3) := by decide +kernel
theorem dX6_readStatement_310 : decode cX6_readStatement 310 = .ok (.aload_n 0, 1) := by decide +kernel
theorem dX6_readStatement_311 : decode cX6_readStatement 311 = .ok (.getfield 177, 3) := by decide +kernel
theorem dX6_readStatement_314 : decode cX6_readStatement 314 = .ok (.iconst 0, 1) := by decide +kernel
theorem dX6_readStatement_315 : decode cX6_readStatement 315 = .ok (.bastore, 1) := by decide +kernel
theorem dX6_readStatement_316 : decode cX6_readStatement 316 = .ok (.aload_n 0, 1) := by decide +kernel
theorem dX6_readStatement_317 : decode cX6_readStatement 317 = .ok (.dup, 1) := by decide +kernel
theorem dX6_readStatement_318 : decode cX6_readStatement 318 = .ok (.getfield 177, 3) := by decide +kernel
theorem dX6_readStatement_321 : decode cX6_readStatement 321 = .ok (.iconst 1, 1) := by decide +kernel
theorem dX6_readStatement_322 : decode cX6_readStatement 322 = .ok (.iadd, 1) := by decide +kernel
theorem dX6_readStatement_323 : decode cX6_readStatement 323 = .ok (.putfield 177, 3) := by decide +kernel
theorem dX6_readStatement_326 : decode cX6_readStatement 326 = .ok (.return_, 1) := by decide +kernel
theorem dX6_closeSide_0 : decode cX6_closeSide 0 = .ok (.aload_n 0, 1) := by decide +kernel
theorem dX6_closeSide_1 : decode cX6_closeSide 1 = .ok (.getfield 37, 3) := by decide +kernel
theorem dX6_closeSide_4 : decode cX6_closeSide 4 = .ok (.aload_n 0, 1) := by decide +kernel
theorem dX6_closeSide_5 : decode cX6_closeSide 5 = .ok (.getfield 177, 3) := by decide +kernel
theorem dX6_closeSide_8 : decode cX6_closeSide 8 = .ok (.iconst 1, 1) := by decide +kernel
theorem dX6_closeSide_9 : decode cX6_closeSide 9 = .ok (.isub, 1) := by decide +kernel
theorem dX6_closeSide_10 : decode cX6_closeSide 10 = .ok (.iaload, 1) := by decide +kernel
theorem dX6_closeSide_11 : decode cX6_closeSide 11 = .ok (.istore_n 1, 1) := by decide +kernel
theorem dX6_closeSide_12 : decode cX6_closeSide 12 = .ok (.aload_n 0, 1) := by decide +kernel
theorem dX6_closeSide_13 : decode cX6_closeSide 13 = .ok (.dup, 1) := by decide +kernel
theorem dX6_closeSide_14 : decode cX6_closeSide 14 = .ok (.getfield 130, 3) := by decide +kernel
theorem dX6_closeSide_17 : decode cX6_closeSide 17 = .ok (.iconst 1, 1) := by decide +kernel
theorem dX6_closeSide_18 : decode cX6_closeSide 18 = .ok (.iadd, 1) := by decide +kernel
theorem dX6_closeSide_19 : decode cX6_closeSide 19 = .ok (.putfield 130, 3) := by decide +kernel
theorem dX6_closeSide_22 : decode cX6_closeSide 22 = .ok (.aload_n 0, 1) := by decide +kernel
theorem dX6_closeSide_23 : decode cX6_closeSide 23 = .ok (.getfield 28, 3) := by decide +kernel
theorem dX6_closeSide_26 : decode cX6_closeSide 26 = .ok (.iload_n 1, 1) := by decide +kernel
theorem dX6_closeSide_27 : decode cX6_closeSide 27 = .ok (.aload_n 0, 1) := by decide +kernel
theorem dX6_closeSide_28 : decode cX6_closeSide 28 = .ok (.getfield 174, 3) := by decide +kernel
theorem dX6_closeSide_31 : decode cX6_closeSide 31 = .ok (.iastore, 1) := by decide +kernel
theorem dX6_closeSide_32 : decode cX6_closeSide 32 = .ok (.aload_n 0, 1) := by decide +kernel
theorem dX6_closeSide_33 : decode cX6_closeSide 33 = .ok (.getfield 40, 3) := by decide +kernel
theorem dX6_closeSide_36 : decode cX6_closeSide 36 = .ok (.aload_n 0, 1) := by decide +kernel
theorem dX6_closeSide_37 : decode cX6_closeSide 37 = .ok (.getfield 177, 3) := by decide +kernel
theorem dX6_closeSide_40 : decode cX6_closeSide 40 = .ok (.iconst 1, 1) := by decide +kernel
theorem dX6_closeSide_41 : decode cX6_closeSide 41 = .ok (.isub, 1) := by decide +kernel
theorem dX6_closeSide_42 : decode cX6_closeSide 42 = .ok (.baload, 1) := by decide +kernel
theorem dX6_closeSide_43 : decode cX6_closeSide 43 = .ok (.ifCond .ne 45, 3) := by decide +kernel
theorem dX6_closeSide_46 : decode cX6_closeSide 46 = .ok (.aload_n 0, 1) := by decide +kernel
theorem dX6_closeSide_47 : decode cX6_closeSide 47 = .ok (.getfield 25, 3) := by decide +kernel
theorem dX6_closeSide_50 : decode cX6_closeSide 50 = .ok (.iload_n 1, 1) := by decide +kernel
theorem dX6_closeSide_51 : decode cX6_closeSide 51 = .ok (.aload_n 0, 1) := by decide +kernel
theorem dX6_closeSide_52 : decode cX6_closeSide 52 = .ok (.getfield 174, 3) := by decide +kernel
theorem dX6_closeSide_55 : decode cX6_closeSide 55 = .ok (.iastore, 1) := by decide +kernel
theorem dX6_closeSide_56 : decode cX6_closeSide 56 = .ok (.aload_n 0, 1) := by decide +kernel
theorem dX6_closeSide_57 : decode cX6_closeSide 57 = .ok (.invokevirtual 133, 3) := by decide +kernel
theorem dX6_closeSide_60 : decode cX6_closeSide 60 = .ok (.bipush 123, 2) := by decide +kernel
theorem dX6_closeSide_62 : decode cX6_closeSide 62 = .ok (.if_icmp .ne 26, 3) := by decide +kernel
theorem dX6_closeSide_65 : decode cX6_closeSide 65 = .ok (.aload_n 0, 1) := by decide +kernel
theorem dX6_closeSide_66 : decode cX6_closeSide 66 = .ok (.dup, 1) := by decide +kernel
theorem dX6_closeSide_67 : decode cX6_closeSide 67 = .ok (.getfield 130, 3) := by decide +kernel
theorem dX6_closeSide_70 : decode cX6_closeSide 70 = .ok (.iconst 1, 1) := by decide +kernel
theorem dX6_closeSide_71 : decode cX6_closeSide 71 = .ok (.iadd, 1) := by decide +kernel
theorem dX6_closeSide_72 : decode cX6_closeSide 72 = .ok (.putfield 130, 3) := by decide +kernel
theorem dX6_closeSide_75 : decode cX6_closeSide 75 = .ok (.aload_n 0, 1) := by decide +kernel
theorem dX6_closeSide_76 : decode cX6_closeSide 76 = .ok (.getfield 40, 3) := by decide +kernel
theorem dX6_closeSide_79 : decode cX6_closeSide 79 = .ok (.aload_n 0, 1) := by decide +kernel
theorem dX6_closeSide_80 : decode cX6_closeSide 80 = .ok (.getfield 177, 3) := by decide +kernel
theorem dX6_closeSide_83 : decode cX6_closeSide 83 = .ok (.iconst 1, 1) := by decide +kernel
theorem dX6_closeSide_84 : decode cX6_closeSide 84 = .ok (.isub, 1) := by decide +kernel
theorem dX6_closeSide_85 : decode cX6_closeSide 85 = .ok (.iconst 1, 1) := by decide +kernel
theorem dX6_closeSide_86 : decode cX6_closeSide 86 = .ok (.bastore, 1) := by decide +kernel
theorem dX6_closeSide_87 : decode cX6_closeSide 87 = .ok (.return_, 1) := by decide +kernel
theorem dX6_closeSide_88 : decode cX6_closeSide 88 = .ok (.aload_n 0, 1) := by decide +kernel
theorem dX6_closeSide_89 : decode cX6_closeSide 89 = .ok (.dup, 1) := by decide +kernel
theorem dX6_closeSide_90 : decode cX6_closeSide 90 = .ok (.getfield 177, 3) := by decide +kernel
theorem dX6_closeSide_93 : decode cX6_closeSide 93 = .ok (.iconst 1, 1) := by decide +kernel
theorem dX6_closeSide_94 : decode cX6_closeSide 94 = .ok (.isub, 1) := by decide +kernel
theorem dX6_closeSide_95 : decode cX6_closeSide 95 = .ok (.putfield 177, 3) := by decide +kernel
theorem dX6_closeSide_98 : decode cX6_closeSide 98 = .ok (.return_, 1) := by decide +kernel
theorem dX6_read_0 : decode cX6_read 0 = .ok (.aload_n 0, 1) := by decide +kernel
theorem dX6_read_1 : decode cX6_read 1 = .ok (.iconst 0, 1) := by decide +kernel
theorem dX6_read_2 : decode cX6_read 2 = .ok (.putfield 102, 3) := by decide +kernel
theorem dX6_read_5 : decode cX6_read 5 = .ok (.aload_n 0, 1) := by decide +kernel
theorem dX6_read_6 : decode cX6_read 6 = .ok (.iconst 0, 1) := by decide +kernel
theorem dX6_read_7 : decode cX6_read 7 = .ok (.putfield 124, 3) := by decide +kernel
theorem dX6_read_10 : decode cX6_read 10 = .ok (.aload_n 0, 1) := by decide +kernel
theorem dX6_read_11 : decode cX6_read 11 = .ok (.iconst 0, 1) := by decide +kernel
theorem dX6_read_12 : decode cX6_read 12 = .ok (.putfield 130, 3) := by decide +kernel
theorem dX6_read_15 : decode cX6_read 15 = .ok (.aload_n 0, 1) := by decide +kernel
theorem dX6_read_16 : decode cX6_read 16 = .ok (.iconst 0, 1) := by decide +kernel
theorem dX6_read_17 : decode cX6_read 17 = .ok (.putfield 174, 3) := by decide +kernel
theorem dX6_read_20 : decode cX6_read 20 = .ok (.aload_n 0, 1) := by decide +kernel
theorem dX6_read_21 : decode cX6_read 21 = .ok (.iconst 0, 1) := by decide +kernel
theorem dX6_read_22 : decode cX6_read 22 = .ok (.putfield 177, 3) := by decide +kernel
theorem dX6_read_25 : decode cX6_read 25 = .ok (.aload_n 0, 1) := by decide +kernel
theorem dX6_read_26 : decode cX6_read 26 = .ok (.invokevirtual 133, 3) := by decide +kernel
theorem dX6_read_29 : decode cX6_read 29 = .ok (.istore_n 1, 1) := by decide +kernel
theorem dX6_read_30 : decode cX6_read 30 = .ok (.aload_n 0, 1) := by decide +kernel
theorem dX6_read_31 : decode cX6_read 31 = .ok (.getfield 124, 3) := by decide +kernel
theorem dX6_read_34 : decode cX6_read 34 = .ok (.ifCond .ne 59, 3) := by decide +kernel
theorem dX6_read_37 : decode cX6_read 37 = .ok (.iload_n 1, 1) := by decide +kernel
theorem dX6_read_38 : decode cX6_read 38 = .ok (.iconst (-1), 1) := by decide +kernel
theorem dX6_read_39 : decode cX6_read 39 = .ok (.if_icmp .ne 10, 3) := by decide +kernel
theorem dX6_read_42 : decode cX6_read 42 = .ok (.aload_n 0, 1) := by decide +kernel
theorem dX6_read_43 : decode cX6_read 43 = .ok (.getfield 177, 3) := by decide +kernel
theorem dX6_read_46 : decode cX6_read 46 = .ok (.ifCond .le 47, 3) := by decide +kernel
theorem dX6_read_49 : decode cX6_read 49 = .ok (.iload_n 1, 1) := by decide +kernel
theorem dX6_read_50 : decode cX6_read 50 = .ok (.bipush 125, 2) := by decide +kernel
theorem dX6_read_52 : decode cX6_read 52 = .ok (.if_icmp .ne 17, 3) := by decide +kernel
theorem dX6_read_55 : decode cX6_read 55 = .ok (.aload_n 0, 1) := by decide +kernel
theorem dX6_read_56 : decode cX6_read 56 = .ok (.getfield 177, 3) := by decide +kernel
theorem dX6_read_59 : decode cX6_read 59 = .ok (.ifCond .le 10, 3) := by decide +kernel
theorem dX6_read_62 : decode cX6_read 62 = .ok (.aload_n 0, 1) := by decide +kernel
theorem dX6_read_63 : decode cX6_read 63 = .ok (.invokevirtual 186, 3) := by decide +kernel
theorem dX6_read_66 : decode cX6_read 66 = .ok (.goto 8, 3) := by decide +kernel
theorem dX6_read_69 : decode cX6_read 69 = .ok (.aload_n 0, 1) := by decide +kernel
theorem dX6_read_70 : decode cX6_read 70 = .ok (.iload_n 1, 1) := by decide +kernel
theorem dX6_read_71 : decode cX6_read 71 = .ok (.invokevirtual 189, 3) := by decide +kernel
theorem dX6_read_74 : decode cX6_read 74 = .ok (.aload_n 0, 1) := by decide +kernel
theorem dX6_read_75 : decode cX6_read 75 = .ok (.getfield 124, 3) := by decide +kernel
theorem dX6_read_78 : decode cX6_read 78 = .ok (.ifCond .le 7, 3) := by decide +kernel
theorem dX6_read_81 : decode cX6_read 81 = .ok (.iconst (-1), 1) := by decide +kernel
theorem dX6_read_82 : decode cX6_read 82 = .ok (.goto 7, 3) := by decide +kernel
theorem dX6_read_85 : decode cX6_read 85 = .ok (.aload_n 0, 1) := by decide +kernel
theorem dX6_read_86 : decode cX6_read 86 = .ok (.invokevirtual 133, 3) := by decide +kernel
theorem dX6_read_89 : decode cX6_read 89 = .ok (.istore_n 1, 1) := by decide +kernel
theorem dX6_read_90 : decode cX6_read 90 = .ok (.goto (-60), 3) := by decide +kernel
theorem dX6_read_93 : decode cX6_read 93 = .ok (.aload_n 0, 1) := by decide +kernel
theorem dX6_read_94 : decode cX6_read 94 = .ok (.iconst 0, 1) := by decide +kernel
theorem dX6_read_95 : decode cX6_read 95 = .ok (.putfield 119, 3) := by decide +kernel
theorem dX6_read_98 : decode cX6_read 98 = .ok (.aload_n 0, 1) := by decide +kernel
theorem dX6_read_99 : decode cX6_read 99 = .ok (.getfield 124, 3) := by decide +kernel
theorem dX6_read_102 : decode cX6_read 102 = .ok (.ifCond .le 10, 3) := by decide +kernel
theorem dX6_read_105 : decode cX6_read 105 = .ok (.iconst (-1), 1) := by decide +kernel
theorem dX6_read_106 : decode cX6_read 106 = .ok (.aload_n 0, 1) := by decide +kernel
theorem dX6_read_107 : decode cX6_read 107 = .ok (.getfield 127, 3) := by decide +kernel
theorem dX6_read_110 : decode cX6_read 110 = .ok (.isub, 1) := by decide +kernel
theorem dX6_read_111 : decode cX6_read 111 = .ok (.ireturn, 1) := by decide +kernel
theorem dX6_read_112 : decode cX6_read 112 = .ok (.aload_n 0, 1) := by decide +kernel
theorem dX6_read_113 : decode cX6_read 113 = .ok (.aload_n 0, 1) := by decide +kernel
theorem dX6_read_114 : decode cX6_read 114 = .ok (.getfield 174, 3) := by decide +kernel
theorem dX6_read_117 : decode cX6_read 117 = .ok (.putfield 192, 3) := by decide +kernel
theorem dX6_read_120 : decode cX6_read 120 = .ok (.iconst 0, 1) := by decide +kernel
theorem dX6_read_121 : decode cX6_read 121 = .ok (.istore_n 2, 1) := by decide +kernel
theorem dX6_read_122 : decode cX6_read 122 = .ok (.iload_n 2, 1) := by decide +kernel
theorem dX6_read_123 : decode cX6_read 123 = .ok (.sipush 540, 3) := by decide +kernel
theorem dX6_read_126 : decode cX6_read 126 = .ok (.if_icmp .ge 21, 3) := by decide +kernel
theorem dX6_read_129 : decode cX6_read 129 = .ok (.aload_n 0, 1) := by decide +kernel
theorem dX6_read_130 : decode cX6_read 130 = .ok (.getfield 22, 3) := by decide +kernel
theorem dX6_read_133 : decode cX6_read 133 = .ok (.iload_n 2, 1) := by decide +kernel
theorem dX6_read_134 : decode cX6_read 134 = .ok (.aload_n 0, 1) := by decide +kernel
theorem dX6_read_135 : decode cX6_read 135 = .ok (.getfield 19, 3) := by decide +kernel
theorem dX6_read_138 : decode cX6_read 138 = .ok (.iload_n 2, 1) := by decide +kernel
theorem dX6_read_139 : decode cX6_read 139 = .ok (.iaload, 1) := by decide +kernel
theorem dX6_read_140 : decode cX6_read 140 = .ok (.iastore, 1) := by decide +kernel
theorem dX6_read_141 : decode cX6_read 141 = .ok (.iinc 2 1, 3) := by decide +kernel
theorem dX6_read_144 : decode cX6_read 144 = .ok (.goto (-22), 3) := by decide +kernel
theorem dX6_read_147 : decode cX6_read 147 = .ok (.iconst 0, 1) := by decide +kernel
theorem dX6_read_148 : decode cX6_read 148 = .ok (.istore_n 2, 1) := by decide +kernel
theorem dX6_read_149 : decode cX6_read 149 = .ok (.iload_n 2, 1) := by decide +kernel
theorem dX6_read_150 : decode cX6_read 150 = .ok (.bipush 60, 2) := by decide +kernel
theorem dX6_read_152 : decode cX6_read 152 = .ok (.if_icmp .ge 40, 3) := by decide +kernel
theorem dX6_read_155 : decode cX6_read 155 = .ok (.aload_n 0, 1) := by decide +kernel
theorem dX6_read_156 : decode cX6_read 156 = .ok (.getfield 31, 3) := by decide +kernel
theorem dX6_read_159 : decode cX6_read 159 = .ok (.iload_n 2, 1) := by decide +kernel
theorem dX6_read_160 : decode cX6_read 160 = .ok (.aload_n 0, 1) := by decide +kernel
theorem dX6_read_161 : decode cX6_read 161 = .ok (.getfield 25, 3) := by decide +kernel
theorem dX6_read_164 : decode cX6_read 164 = .ok (.iload_n 2, 1) := by decide +kernel
theorem dX6_read_165 : decode cX6_read 165 = .ok (.iaload, 1) := by decide +kernel
theorem dX6_read_166 : decode cX6_read 166 = .ok (.iastore, 1) := by decide +kernel
theorem dX6_read_167 : decode cX6_read 167 = .ok (.aload_n 0, 1) := by decide +kernel
theorem dX6_read_168 : decode cX6_read 168 = .ok (.getfield 34, 3) := by decide +kernel
theorem dX6_read_171 : decode cX6_read 171 = .ok (.iload_n 2, 1) := by decide +kernel
theorem dX6_read_172 : decode cX6_read 172 = .ok (.aload_n 0, 1) := by decide +kernel
theorem dX6_read_173 : decode cX6_read 173 = .ok (.getfield 28, 3) := by decide +kernel
theorem dX6_read_176 : decode cX6_read 176 = .ok (.iload_n 2, 1) := by decide +kernel
theorem dX6_read_177 : decode cX6_read 177 = .ok (.iaload, 1) := by decide +kernel
theorem dX6_read_178 : decode cX6_read 178 = .ok (.iastore, 1) := by decide +kernel
theorem dX6_read_179 : decode cX6_read 179 = .ok (.aload_n 0, 1) := by decide +kernel
theorem dX6_read_180 : decode cX6_read 180 = .ok (.getfield 51, 3) := by decide +kernel
theorem dX6_read_183 : decode cX6_read 183 = .ok (.iload_n 2, 1) := by decide +kernel
theorem dX6_read_184 : decode cX6_read 184 = .ok (.iconst 0, 1) := by decide +kernel
theorem dX6_read_185 : decode cX6_read 185 = .ok (.bastore, 1) := by decide +kernel
theorem dX6_read_186 : decode cX6_read 186 = .ok (.iinc 2 1, 3) := by decide +kernel
theorem dX6_read_189 : decode cX6_read 189 = .ok (.goto (-40), 3) := by decide +kernel
theorem dX6_read_192 : decode cX6_read 192 = .ok (.aload_n 0, 1) := by decide +kernel
theorem dX6_read_193 : decode cX6_read 193 = .ok (.iconst 0, 1) := by decide +kernel
theorem dX6_read_194 : decode cX6_read 194 = .ok (.putfield 195, 3) := by decide +kernel
theorem dX6_read_197 : decode cX6_read 197 = .ok (.aload_n 0, 1) := by decide +kernel
theorem dX6_read_198 : decode cX6_read 198 = .ok (.iconst 0, 1) := by decide +kernel
theorem dX6_read_199 : decode cX6_read 199 = .ok (.putfield 199, 3) := by decide +kernel
theorem dX6_read_202 : decode cX6_read 202 = .ok (.aload_n 0, 1) := by decide +kernel
theorem dX6_read_203 : decode cX6_read 203 = .ok (.bipush 16, 2) := by decide +kernel
theorem dX6_read_205 : decode cX6_read 205 = .ok (.putfield 47, 3) := by decide +kernel
theorem dX6_read_208 : decode cX6_read 208 = .ok (.aload_n 0, 1) := by decide +kernel
theorem dX6_read_209 : decode cX6_read 209 = .ok (.getfield 192, 3) := by decide +kernel
theorem dX6_read_212 : decode cX6_read 212 = .ok (.ireturn, 1) := by decide +kernel
theorem dX6_fault_0 : decode cX6_fault 0 = .ok (.aload_n 0, 1) := by decide +kernel
theorem dX6_fault_1 : decode cX6_fault 1 = .ok (.iconst 0, 1) := by decide +kernel
theorem dX6_fault_2 : decode cX6_fault 2 = .ok (.putfield 102, 3) := by decide +kernel
theorem dX6_fault_5 : decode cX6_fault 5 = .ok (.aload_n 0, 1) := by decide +kernel
theorem dX6_fault_6 : decode cX6_fault 6 = .ok (.getfield 124, 3) := by decide +kernel
theorem dX6_fault_9 : decode cX6_fault 9 = .ok (.ireturn, 1) := by decide +kernel
theorem dX6_of_0 : decode cX6_of 0 = .ok (.aload_n 0, 1) := by decide +kernel
theorem dX6_of_1 : decode cX6_of 1 = .ok (.getfield 22, 3) := by decide +kernel
theorem dX6_of_4 : decode cX6_of 4 = .ok (.bipush 9, 2) := by decide +kernel
theorem dX6_of_6 : decode cX6_of 6 = .ok (.iload_n 1, 1) := by decide +kernel
theorem dX6_of_7 : decode cX6_of 7 = .ok (.imul, 1) := by decide +kernel
theorem dX6_of_8 : decode cX6_of 8 = .ok (.iload_n 2, 1) := by decide +kernel
theorem dX6_of_9 : decode cX6_of 9 = .ok (.iadd, 1) := by decide +kernel
theorem dX6_of_10 : decode cX6_of 10 = .ok (.iaload, 1) := by decide +kernel
theorem dX6_of_11 : decode cX6_of 11 = .ok (.ireturn, 1) := by decide +kernel
theorem dX6_emit_0 : decode cX6_emit 0 = .ok (.bipush 6, 2) := by decide +kernel
theorem dX6_emit_2 : decode cX6_emit 2 = .ok (.aload_n 0, 1) := by decide +kernel
theorem dX6_emit_3 : decode cX6_emit 3 = .ok (.getfield 199, 3) := by decide +kernel
theorem dX6_emit_6 : decode cX6_emit 6 = .ok (.imul, 1) := by decide +kernel
theorem dX6_emit_7 : decode cX6_emit 7 = .ok (.istore 6, 2) := by decide +kernel
theorem dX6_emit_9 : decode cX6_emit 9 = .ok (.aload_n 0, 1) := by decide +kernel
theorem dX6_emit_10 : decode cX6_emit 10 = .ok (.getfield 44, 3) := by decide +kernel
theorem dX6_emit_13 : decode cX6_emit 13 = .ok (.iload 6, 2) := by decide +kernel
theorem dX6_emit_15 : decode cX6_emit 15 = .ok (.iload_n 1, 1) := by decide +kernel
theorem dX6_emit_16 : decode cX6_emit 16 = .ok (.iastore, 1) := by decide +kernel
theorem dX6_emit_17 : decode cX6_emit 17 = .ok (.aload_n 0, 1) := by decide +kernel
theorem dX6_emit_18 : decode cX6_emit 18 = .ok (.getfield 44, 3) := by decide +kernel
theorem dX6_emit_21 : decode cX6_emit 21 = .ok (.iload 6, 2) := by decide +kernel
theorem dX6_emit_23 : decode cX6_emit 23 = .ok (.iconst 1, 1) := by decide +kernel
theorem dX6_emit_24 : decode cX6_emit 24 = .ok (.iadd, 1) := by decide +kernel
theorem dX6_emit_25 : decode cX6_emit 25 = .ok (.iload_n 2, 1) := by decide +kernel
theorem dX6_emit_26 : decode cX6_emit 26 = .ok (.iastore, 1) := by decide +kernel
theorem dX6_emit_27 : decode cX6_emit 27 = .ok (.aload_n 0, 1) := by decide +kernel
theorem dX6_emit_28 : decode cX6_emit 28 = .ok (.getfield 44, 3) := by decide +kernel
theorem dX6_emit_31 : decode cX6_emit 31 = .ok (.iload 6, 2) := by decide +kernel
theorem dX6_emit_33 : decode cX6_emit 33 = .ok (.iconst 2, 1) := by decide +kernel
theorem dX6_emit_34 : decode cX6_emit 34 = .ok (.iadd, 1) := by decide +kernel
theorem dX6_emit_35 : decode cX6_emit 35 = .ok (.iload_n 3, 1) := by decide +kernel
theorem dX6_emit_36 : decode cX6_emit 36 = .ok (.iastore, 1) := by decide +kernel
theorem dX6_emit_37 : decode cX6_emit 37 = .ok (.aload_n 0, 1) := by decide +kernel
theorem dX6_emit_38 : decode cX6_emit 38 = .ok (.getfield 44, 3) := by decide +kernel
theorem dX6_emit_41 : decode cX6_emit 41 = .ok (.iload 6, 2) := by decide +kernel
theorem dX6_emit_43 : decode cX6_emit 43 = .ok (.iconst 3, 1) := by decide +kernel
theorem dX6_emit_44 : decode cX6_emit 44 = .ok (.iadd, 1) := by decide +kernel
theorem dX6_emit_45 : decode cX6_emit 45 = .ok (.iload 4, 2) := by decide +kernel
theorem dX6_emit_47 : decode cX6_emit 47 = .ok (.iastore, 1) := by decide +kernel
theorem dX6_emit_48 : decode cX6_emit 48 = .ok (.aload_n 0, 1) := by decide +kernel
theorem dX6_emit_49 : decode cX6_emit 49 = .ok (.getfield 44, 3) := by decide +kernel
theorem dX6_emit_52 : decode cX6_emit 52 = .ok (.iload 6, 2) := by decide +kernel
theorem dX6_emit_54 : decode cX6_emit 54 = .ok (.iconst 4, 1) := by decide +kernel
theorem dX6_emit_55 : decode cX6_emit 55 = .ok (.iadd, 1) := by decide +kernel
theorem dX6_emit_56 : decode cX6_emit 56 = .ok (.iload 5, 2) := by decide +kernel
theorem dX6_emit_58 : decode cX6_emit 58 = .ok (.iastore, 1) := by decide +kernel
theorem dX6_emit_59 : decode cX6_emit 59 = .ok (.aload_n 0, 1) := by decide +kernel
theorem dX6_emit_60 : decode cX6_emit 60 = .ok (.getfield 44, 3) := by decide +kernel
theorem dX6_emit_63 : decode cX6_emit 63 = .ok (.iload 6, 2) := by decide +kernel
theorem dX6_emit_65 : decode cX6_emit 65 = .ok (.iconst 5, 1) := by decide +kernel
theorem dX6_emit_66 : decode cX6_emit 66 = .ok (.iadd, 1) := by decide +kernel
theorem dX6_emit_67 : decode cX6_emit 67 = .ok (.aload_n 0, 1) := by decide +kernel
theorem dX6_emit_68 : decode cX6_emit 68 = .ok (.getfield 202, 3) := by decide +kernel
theorem dX6_emit_71 : decode cX6_emit 71 = .ok (.iastore, 1) := by decide +kernel
theorem dX6_emit_72 : decode cX6_emit 72 = .ok (.aload_n 0, 1) := by decide +kernel
theorem dX6_emit_73 : decode cX6_emit 73 = .ok (.dup, 1) := by decide +kernel
theorem dX6_emit_74 : decode cX6_emit 74 = .ok (.getfield 199, 3) := by decide +kernel
theorem dX6_emit_77 : decode cX6_emit 77 = .ok (.iconst 1, 1) := by decide +kernel
theorem dX6_emit_78 : decode cX6_emit 78 = .ok (.iadd, 1) := by decide +kernel
theorem dX6_emit_79 : decode cX6_emit 79 = .ok (.putfield 199, 3) := by decide +kernel
theorem dX6_emit_82 : decode cX6_emit 82 = .ok (.aload_n 0, 1) := by decide +kernel
theorem dX6_emit_83 : decode cX6_emit 83 = .ok (.getfield 199, 3) := by decide +kernel
theorem dX6_emit_86 : decode cX6_emit 86 = .ok (.iconst 1, 1) := by decide +kernel
theorem dX6_emit_87 : decode cX6_emit 87 = .ok (.isub, 1) := by decide +kernel
theorem dX6_emit_88 : decode cX6_emit 88 = .ok (.ireturn, 1) := by decide +kernel
theorem dX6_fresh1_0 : decode cX6_fresh1 0 = .ok (.aload_n 0, 1) := by decide +kernel
theorem dX6_fresh1_1 : decode cX6_fresh1 1 = .ok (.dup, 1) := by decide +kernel
theorem dX6_fresh1_2 : decode cX6_fresh1 2 = .ok (.getfield 47, 3) := by decide +kernel
theorem dX6_fresh1_5 : decode cX6_fresh1 5 = .ok (.iconst 1, 1) := by decide +kernel
theorem dX6_fresh1_6 : decode cX6_fresh1 6 = .ok (.iadd, 1) := by decide +kernel
theorem dX6_fresh1_7 : decode cX6_fresh1 7 = .ok (.putfield 47, 3) := by decide +kernel
theorem dX6_fresh1_10 : decode cX6_fresh1 10 = .ok (.aload_n 0, 1) := by decide +kernel
theorem dX6_fresh1_11 : decode cX6_fresh1 11 = .ok (.getfield 47, 3) := by decide +kernel
theorem dX6_fresh1_14 : decode cX6_fresh1 14 = .ok (.iconst 1, 1) := by decide +kernel
theorem dX6_fresh1_15 : decode cX6_fresh1 15 = .ok (.isub, 1) := by decide +kernel
theorem dX6_fresh1_16 : decode cX6_fresh1 16 = .ok (.ireturn, 1) := by decide +kernel
theorem dX6_setNew_0 : decode cX6_setNew 0 = .ok (.aload_n 0, 1) := by decide +kernel
theorem dX6_setNew_1 : decode cX6_setNew 1 = .ok (.invokevirtual 205, 3) := by decide +kernel
theorem dX6_setNew_4 : decode cX6_setNew 4 = .ok (.istore_n 2, 1) := by decide +kernel
theorem dX6_setNew_5 : decode cX6_setNew 5 = .ok (.aload_n 0, 1) := by decide +kernel
theorem dX6_setNew_6 : decode cX6_setNew 6 = .ok (.iconst 0, 1) := by decide +kernel
theorem dX6_setNew_7 : decode cX6_setNew 7 = .ok (.iload_n 2, 1) := by decide +kernel
theorem dX6_setNew_8 : decode cX6_setNew 8 = .ok (.iload_n 1, 1) := by decide +kernel
theorem dX6_setNew_9 : decode cX6_setNew 9 = .ok (.iconst 0, 1) := by decide +kernel
theorem dX6_setNew_10 : decode cX6_setNew 10 = .ok (.iconst 0, 1) := by decide +kernel
theorem dX6_setNew_11 : decode cX6_setNew 11 = .ok (.invokevirtual 208, 3) := by decide +kernel
theorem dX6_setNew_14 : decode cX6_setNew 14 = .ok (.istore_n 3, 1) := by decide +kernel
theorem dX6_setNew_15 : decode cX6_setNew 15 = .ok (.iload_n 2, 1) := by decide +kernel
theorem dX6_setNew_16 : decode cX6_setNew 16 = .ok (.ireturn, 1) := by decide +kernel
theorem dX6_value_0 : decode cX6_value 0 = .ok (.aload_n 0, 1) := by decide +kernel
theorem dX6_value_1 : decode cX6_value 1 = .ok (.iload_n 1, 1) := by decide +kernel
theorem dX6_value_2 : decode cX6_value 2 = .ok (.iload_n 2, 1) := by decide +kernel
theorem dX6_value_3 : decode cX6_value 3 = .ok (.invokevirtual 212, 3) := by decide +kernel
theorem dX6_value_6 : decode cX6_value 6 = .ok (.iconst 1, 1) := by decide +kernel
theorem dX6_value_7 : decode cX6_value 7 = .ok (.if_icmp .ne 19, 3) := by decide +kernel
theorem dX6_value_10 : decode cX6_value 10 = .ok (.aload_n 0, 1) := by decide +kernel
theorem dX6_value_11 : decode cX6_value 11 = .ok (.getfield 54, 3) := by decide +kernel
theorem dX6_value_14 : decode cX6_value 14 = .ok (.aload_n 0, 1) := by decide +kernel
theorem dX6_value_15 : decode cX6_value 15 = .ok (.iload_n 1, 1) := by decide +kernel
theorem dX6_value_16 : decode cX6_value 16 = .ok (.iload_n 2, 1) := by decide +kernel
theorem dX6_value_17 : decode cX6_value 17 = .ok (.iconst 1, 1) := by decide +kernel
theorem dX6_value_18 : decode cX6_value 18 = .ok (.iadd, 1) := by decide +kernel
theorem dX6_value_19 : decode cX6_value 19 = .ok (.invokevirtual 212, 3) := by decide +kernel
theorem dX6_value_22 : decode cX6_value 22 = .ok (.iaload, 1) := by decide +kernel
theorem dX6_value_23 : decode cX6_value 23 = .ok (.goto 15, 3) := by decide +kernel
theorem dX6_value_26 : decode cX6_value 26 = .ok (.aload_n 0, 1) := by decide +kernel
theorem dX6_value_27 : decode cX6_value 27 = .ok (.aload_n 0, 1) := by decide +kernel
theorem dX6_value_28 : decode cX6_value 28 = .ok (.iload_n 1, 1) := by decide +kernel
theorem dX6_value_29 : decode cX6_value 29 = .ok (.iload_n 2, 1) := by decide +kernel
theorem dX6_value_30 : decode cX6_value 30 = .ok (.iconst 1, 1) := by decide +kernel
theorem dX6_value_31 : decode cX6_value 31 = .ok (.iadd, 1) := by decide +kernel
theorem dX6_value_32 : decode cX6_value 32 = .ok (.invokevirtual 212, 3) := by decide +kernel
theorem dX6_value_35 : decode cX6_value 35 = .ok (.invokevirtual 216, 3) := by decide +kernel
theorem dX6_value_38 : decode cX6_value 38 = .ok (.ireturn, 1) := by decide +kernel
theorem dX6_isOnSide_0 : decode cX6_isOnSide 0 = .ok (.aload_n 0, 1) := by decide +kernel
theorem dX6_isOnSide_1 : decode cX6_isOnSide 1 = .ok (.getfield 219, 3) := by decide +kernel
theorem dX6_isOnSide_4 : decode cX6_isOnSide 4 = .ok (.ifCond .le 21, 3) := by decide +kernel
theorem dX6_isOnSide_7 : decode cX6_isOnSide 7 = .ok (.aload_n 0, 1) := by decide +kernel
theorem dX6_isOnSide_8 : decode cX6_isOnSide 8 = .ok (.getfield 63, 3) := by decide +kernel
theorem dX6_isOnSide_11 : decode cX6_isOnSide 11 = .ok (.aload_n 0, 1) := by decide +kernel
theorem dX6_isOnSide_12 : decode cX6_isOnSide 12 = .ok (.getfield 219, 3) := by decide +kernel
theorem dX6_isOnSide_15 : decode cX6_isOnSide 15 = .ok (.iconst 1, 1) := by decide +kernel
theorem dX6_isOnSide_16 : decode cX6_isOnSide 16 = .ok (.isub, 1) := by decide +kernel
theorem dX6_isOnSide_17 : decode cX6_isOnSide 17 = .ok (.baload, 1) := by decide +kernel
theorem dX6_isOnSide_18 : decode cX6_isOnSide 18 = .ok (.ifCond .eq 7, 3) := by decide +kernel
theorem dX6_isOnSide_21 : decode cX6_isOnSide 21 = .ok (.iconst 1, 1) := by decide +kernel
theorem dX6_isOnSide_22 : decode cX6_isOnSide 22 = .ok (.goto 4, 3) := by decide +kernel
theorem dX6_isOnSide_25 : decode cX6_isOnSide 25 = .ok (.iconst 0, 1) := by decide +kernel
theorem dX6_isOnSide_26 : decode cX6_isOnSide 26 = .ok (.ireturn, 1) := by decide +kernel
theorem dX6_guarded_0 : decode cX6_guarded 0 = .ok (.iload_n 1, 1) := by decide +kernel
theorem dX6_guarded_1 : decode cX6_guarded 1 = .ok (.ifCond .eq 14, 3) := by decide +kernel
theorem dX6_guarded_4 : decode cX6_guarded 4 = .ok (.aload_n 0, 1) := by decide +kernel
theorem dX6_guarded_5 : decode cX6_guarded 5 = .ok (.getfield 63, 3) := by decide +kernel
theorem dX6_guarded_8 : decode cX6_guarded 8 = .ok (.iload_n 1, 1) := by decide +kernel
theorem dX6_guarded_9 : decode cX6_guarded 9 = .ok (.iconst 1, 1) := by decide +kernel
theorem dX6_guarded_10 : decode cX6_guarded 10 = .ok (.isub, 1) := by decide +kernel
theorem dX6_guarded_11 : decode cX6_guarded 11 = .ok (.baload, 1) := by decide +kernel
theorem dX6_guarded_12 : decode cX6_guarded 12 = .ok (.ifCond .ne 5, 3) := by decide +kernel
theorem dX6_guarded_15 : decode cX6_guarded 15 = .ok (.iload_n 2, 1) := by decide +kernel
theorem dX6_guarded_16 : decode cX6_guarded 16 = .ok (.ireturn, 1) := by decide +kernel
theorem dX6_guarded_17 : decode cX6_guarded 17 = .ok (.aload_n 0, 1) := by decide +kernel
theorem dX6_guarded_18 : decode cX6_guarded 18 = .ok (.invokevirtual 205, 3) := by decide +kernel
theorem dX6_guarded_21 : decode cX6_guarded 21 = .ok (.istore_n 3, 1) := by decide +kernel
theorem dX6_guarded_22 : decode cX6_guarded 22 = .ok (.aload_n 0, 1) := by decide +kernel
theorem dX6_guarded_23 : decode cX6_guarded 23 = .ok (.bipush 7, 2) := by decide +kernel
theorem dX6_guarded_25 : decode cX6_guarded 25 = .ok (.iload_n 3, 1) := by decide +kernel
theorem dX6_guarded_26 : decode cX6_guarded 26 = .ok (.aload_n 0, 1) := by decide +kernel
theorem dX6_guarded_27 : decode cX6_guarded 27 = .ok (.getfield 69, 3) := by decide +kernel
theorem dX6_guarded_30 : decode cX6_guarded 30 = .ok (.iload_n 1, 1) := by decide +kernel
theorem dX6_guarded_31 : decode cX6_guarded 31 = .ok (.iconst 1, 1) := by decide +kernel
theorem dX6_guarded_32 : decode cX6_guarded 32 = .ok (.isub, 1) := by decide +kernel
theorem dX6_guarded_33 : decode cX6_guarded 33 = .ok (.iaload, 1) := by decide +kernel
theorem dX6_guarded_34 : decode cX6_guarded 34 = .ok (.iload_n 2, 1) := by decide +kernel
theorem dX6_guarded_35 : decode cX6_guarded 35 = .ok (.iconst 0, 1) := by decide +kernel
theorem dX6_guarded_36 : decode cX6_guarded 36 = .ok (.invokevirtual 208, 3) := by decide +kernel
theorem dX6_guarded_39 : decode cX6_guarded 39 = .ok (.istore 4, 2) := by decide +kernel
theorem dX6_guarded_41 : decode cX6_guarded 41 = .ok (.iload_n 3, 1) := by decide +kernel
theorem dX6_guarded_42 : decode cX6_guarded 42 = .ok (.ireturn, 1) := by decide +kernel
theorem dX6_beginTest_0 : decode cX6_beginTest 0 = .ok (.aload_n 0, 1) := by decide +kernel
theorem dX6_beginTest_1 : decode cX6_beginTest 1 = .ok (.iload_n 1, 1) := by decide +kernel
theorem dX6_beginTest_2 : decode cX6_beginTest 2 = .ok (.iconst 3, 1) := by decide +kernel
theorem dX6_beginTest_3 : decode cX6_beginTest 3 = .ok (.invokevirtual 222, 3) := by decide +kernel
theorem dX6_beginTest_6 : decode cX6_beginTest 6 = .ok (.istore_n 2, 1) := by decide +kernel
theorem dX6_beginTest_7 : decode cX6_beginTest 7 = .ok (.aload_n 0, 1) := by decide +kernel
theorem dX6_beginTest_8 : decode cX6_beginTest 8 = .ok (.iload_n 1, 1) := by decide +kernel
theorem dX6_beginTest_9 : decode cX6_beginTest 9 = .ok (.iconst 5, 1) := by decide +kernel
theorem dX6_beginTest_10 : decode cX6_beginTest 10 = .ok (.invokevirtual 222, 3) := by decide +kernel
theorem dX6_beginTest_13 : decode cX6_beginTest 13 = .ok (.istore_n 3, 1) := by decide +kernel
theorem dX6_beginTest_14 : decode cX6_beginTest 14 = .ok (.aload_n 0, 1) := by decide +kernel
theorem dX6_beginTest_15 : decode cX6_beginTest 15 = .ok (.invokevirtual 205, 3) := by decide +kernel
theorem dX6_beginTest_18 : decode cX6_beginTest 18 = .ok (.istore 4, 2) := by decide +kernel
theorem dX6_beginTest_20 : decode cX6_beginTest 20 = .ok (.aload_n 0, 1) := by decide +kernel
theorem dX6_beginTest_21 : decode cX6_beginTest 21 = .ok (.aload_n 0, 1) := by decide +kernel
theorem dX6_beginTest_22 : decode cX6_beginTest 22 = .ok (.iload_n 1, 1) := by decide +kernel
theorem dX6_beginTest_23 : decode cX6_beginTest 23 = .ok (.iconst 2, 1) := by decide +kernel
theorem dX6_beginTest_24 : decode cX6_beginTest 24 = .ok (.invokevirtual 212, 3) := by decide +kernel
theorem dX6_beginTest_27 : decode cX6_beginTest 27 = .ok (.iload 4, 2) := by decide +kernel
theorem dX6_beginTest_29 : decode cX6_beginTest 29 = .ok (.iload_n 2, 1) := by decide +kernel
theorem dX6_beginTest_30 : decode cX6_beginTest 30 = .ok (.iload_n 3, 1) := by decide +kernel
theorem dX6_beginTest_31 : decode cX6_beginTest 31 = .ok (.iconst 0, 1) := by decide +kernel
theorem dX6_beginTest_32 : decode cX6_beginTest 32 = .ok (.invokevirtual 208, 3) := by decide +kernel
theorem dX6_beginTest_35 : decode cX6_beginTest 35 = .ok (.istore 5, 2) := by decide +kernel
theorem dX6_beginTest_37 : decode cX6_beginTest 37 = .ok (.aload_n 0, 1) := by decide +kernel
theorem dX6_beginTest_38 : decode cX6_beginTest 38 = .ok (.getfield 219, 3) := by decide +kernel
theorem dX6_beginTest_41 : decode cX6_beginTest 41 = .ok (.istore 6, 2) := by decide +kernel
theorem dX6_beginTest_43 : decode cX6_beginTest 43 = .ok (.aload_n 0, 1) := by decide +kernel
theorem dX6_beginTest_44 : decode cX6_beginTest 44 = .ok (.getfield 57, 3) := by decide +kernel
theorem dX6_beginTest_47 : decode cX6_beginTest 47 = .ok (.iload 6, 2) := by decide +kernel
theorem dX6_beginTest_49 : decode cX6_beginTest 49 = .ok (.iload_n 1, 1) := by decide +kernel
theorem dX6_beginTest_50 : decode cX6_beginTest 50 = .ok (.iastore, 1) := by decide +kernel
theorem dX6_beginTest_51 : decode cX6_beginTest 51 = .ok (.aload_n 0, 1) := by decide +kernel
theorem dX6_beginTest_52 : decode cX6_beginTest 52 = .ok (.getfield 60, 3) := by decide +kernel
theorem dX6_beginTest_55 : decode cX6_beginTest 55 = .ok (.iload 6, 2) := by decide +kernel
theorem dX6_beginTest_57 : decode cX6_beginTest 57 = .ok (.iconst 0, 1) := by decide +kernel
theorem dX6_beginTest_58 : decode cX6_beginTest 58 = .ok (.bastore, 1) := by decide +kernel
theorem dX6_beginTest_59 : decode cX6_beginTest 59 = .ok (.aload_n 0, 1) := by decide +kernel
theorem dX6_beginTest_60 : decode cX6_beginTest 60 = .ok (.getfield 63, 3) := by decide +kernel
theorem dX6_beginTest_63 : decode cX6_beginTest 63 = .ok (.iload 6, 2) := by decide +kernel
theorem dX6_beginTest_65 : decode cX6_beginTest 65 = .ok (.aload_n 0, 1) := by decide +kernel
theorem dX6_beginTest_66 : decode cX6_beginTest 66 = .ok (.getfield 51, 3) := by decide +kernel
theorem dX6_beginTest_69 : decode cX6_beginTest 69 = .ok (.iload_n 1, 1) := by decide +kernel
theorem dX6_beginTest_70 : decode cX6_beginTest 70 = .ok (.baload, 1) := by decide +kernel
theorem dX6_beginTest_71 : decode cX6_beginTest 71 = .ok (.bastore, 1) := by decide +kernel
theorem dX6_beginTest_72 : decode cX6_beginTest 72 = .ok (.aload_n 0, 1) := by decide +kernel
theorem dX6_beginTest_73 : decode cX6_beginTest 73 = .ok (.getfield 66, 3) := by decide +kernel
theorem dX6_beginTest_76 : decode cX6_beginTest 76 = .ok (.iload 6, 2) := by decide +kernel
theorem dX6_beginTest_78 : decode cX6_beginTest 78 = .ok (.iload 4, 2) := by decide +kernel
theorem dX6_beginTest_80 : decode cX6_beginTest 80 = .ok (.iastore, 1) := by decide +kernel
theorem dX6_beginTest_81 : decode cX6_beginTest 81 = .ok (.aload_n 0, 1) := by decide +kernel
theorem dX6_beginTest_82 : decode cX6_beginTest 82 = .ok (.getfield 51, 3) := by decide +kernel
theorem dX6_beginTest_85 : decode cX6_beginTest 85 = .ok (.iload_n 1, 1) := by decide +kernel
theorem dX6_beginTest_86 : decode cX6_beginTest 86 = .ok (.baload, 1) := by decide +kernel
theorem dX6_beginTest_87 : decode cX6_beginTest 87 = .ok (.ifCond .eq 69, 3) := by decide +kernel
theorem dX6_beginTest_90 : decode cX6_beginTest 90 = .ok (.iconst 0, 1) := by decide +kernel
theorem dX6_beginTest_91 : decode cX6_beginTest 91 = .ok (.istore 7, 2) := by decide +kernel
theorem dX6_beginTest_93 : decode cX6_beginTest 93 = .ok (.iload 7, 2) := by decide +kernel
theorem dX6_beginTest_95 : decode cX6_beginTest 95 = .ok (.bipush 16, 2) := by decide +kernel
theorem dX6_beginTest_97 : decode cX6_beginTest 97 = .ok (.if_icmp .ge 29, 3) := by decide +kernel
theorem dX6_beginTest_100 : decode cX6_beginTest 100 = .ok (.aload_n 0, 1) := by decide +kernel
theorem dX6_beginTest_101 : decode cX6_beginTest 101 = .ok (.getfield 75, 3) := by decide +kernel
theorem dX6_beginTest_104 : decode cX6_beginTest 104 = .ok (.bipush 16, 2) := by decide +kernel
theorem dX6_beginTest_106 : decode cX6_beginTest 106 = .ok (.iload 6, 2) := by decide +kernel
theorem dX6_beginTest_108 : decode cX6_beginTest 108 = .ok (.imul, 1) := by decide +kernel
theorem dX6_beginTest_109 : decode cX6_beginTest 109 = .ok (.iload 7, 2) := by decide +kernel
theorem dX6_beginTest_111 : decode cX6_beginTest 111 = .ok (.iadd, 1) := by decide +kernel
theorem dX6_beginTest_112 : decode cX6_beginTest 112 = .ok (.aload_n 0, 1) := by decide +kernel
theorem dX6_beginTest_113 : decode cX6_beginTest 113 = .ok (.getfield 54, 3) := by decide +kernel
theorem dX6_beginTest_116 : decode cX6_beginTest 116 = .ok (.iload 7, 2) := by decide +kernel
theorem dX6_beginTest_118 : decode cX6_beginTest 118 = .ok (.iaload, 1) := by decide +kernel
theorem dX6_beginTest_119 : decode cX6_beginTest 119 = .ok (.iastore, 1) := by decide +kernel
theorem dX6_beginTest_120 : decode cX6_beginTest 120 = .ok (.iinc 7 1, 3) := by decide +kernel
theorem dX6_beginTest_123 : decode cX6_beginTest 123 = .ok (.goto (-30), 3) := by decide +kernel
theorem dX6_beginTest_126 : decode cX6_beginTest 126 = .ok (.aload_n 0, 1) := by decide +kernel
theorem dX6_beginTest_127 : decode cX6_beginTest 127 = .ok (.getfield 31, 3) := by decide +kernel
theorem dX6_beginTest_130 : decode cX6_beginTest 130 = .ok (.iload_n 1, 1) := by decide +kernel
theorem dX6_beginTest_131 : decode cX6_beginTest 131 = .ok (.iaload, 1) := by decide +kernel
theorem dX6_beginTest_132 : decode cX6_beginTest 132 = .ok (.iload_n 1, 1) := by decide +kernel
theorem dX6_beginTest_133 : decode cX6_beginTest 133 = .ok (.iconst 1, 1) := by decide +kernel
theorem dX6_beginTest_134 : decode cX6_beginTest 134 = .ok (.iadd, 1) := by decide +kernel
theorem dX6_beginTest_135 : decode cX6_beginTest 135 = .ok (.if_icmp .le 39, 3) := by decide +kernel
theorem dX6_beginTest_138 : decode cX6_beginTest 138 = .ok (.aload_n 0, 1) := by decide +kernel
theorem dX6_beginTest_139 : decode cX6_beginTest 139 = .ok (.getfield 69, 3) := by decide +kernel
theorem dX6_beginTest_142 : decode cX6_beginTest 142 = .ok (.iload 6, 2) := by decide +kernel
theorem dX6_beginTest_144 : decode cX6_beginTest 144 = .ok (.aload_n 0, 1) := by decide +kernel
theorem dX6_beginTest_145 : decode cX6_beginTest 145 = .ok (.iload 6, 2) := by decide +kernel
theorem dX6_beginTest_147 : decode cX6_beginTest 147 = .ok (.iload 4, 2) := by decide +kernel
theorem dX6_beginTest_149 : decode cX6_beginTest 149 = .ok (.invokevirtual 225, 3) := by decide +kernel
theorem dX6_beginTest_152 : decode cX6_beginTest 152 = .ok (.iastore, 1) := by decide +kernel
theorem dX6_beginTest_153 : decode cX6_beginTest 153 = .ok (.goto 21, 3) := by decide +kernel
theorem dX6_beginTest_156 : decode cX6_beginTest 156 = .ok (.aload_n 0, 1) := by decide +kernel
theorem dX6_beginTest_157 : decode cX6_beginTest 157 = .ok (.getfield 72, 3) := by decide +kernel
theorem dX6_beginTest_160 : decode cX6_beginTest 160 = .ok (.iload 6, 2) := by decide +kernel
theorem dX6_beginTest_162 : decode cX6_beginTest 162 = .ok (.aload_n 0, 1) := by decide +kernel
theorem dX6_beginTest_163 : decode cX6_beginTest 163 = .ok (.bipush 17, 2) := by decide +kernel
theorem dX6_beginTest_165 : decode cX6_beginTest 165 = .ok (.iload 4, 2) := by decide +kernel
theorem dX6_beginTest_167 : decode cX6_beginTest 167 = .ok (.iconst 0, 1) := by decide +kernel
theorem dX6_beginTest_168 : decode cX6_beginTest 168 = .ok (.iconst 0, 1) := by decide +kernel
theorem dX6_beginTest_169 : decode cX6_beginTest 169 = .ok (.iconst 0, 1) := by decide +kernel
theorem dX6_beginTest_170 : decode cX6_beginTest 170 = .ok (.invokevirtual 208, 3) := by decide +kernel
theorem dX6_beginTest_173 : decode cX6_beginTest 173 = .ok (.iastore, 1) := by decide +kernel
theorem dX6_beginTest_174 : decode cX6_beginTest 174 = .ok (.aload_n 0, 1) := by decide +kernel
theorem dX6_beginTest_175 : decode cX6_beginTest 175 = .ok (.dup, 1) := by decide +kernel
theorem dX6_beginTest_176 : decode cX6_beginTest 176 = .ok (.getfield 219, 3) := by decide +kernel
theorem dX6_beginTest_179 : decode cX6_beginTest 179 = .ok (.iconst 1, 1) := by decide +kernel
theorem dX6_beginTest_180 : decode cX6_beginTest 180 = .ok (.iadd, 1) := by decide +kernel
theorem dX6_beginTest_181 : decode cX6_beginTest 181 = .ok (.putfield 219, 3) := by decide +kernel
theorem dX6_beginTest_184 : decode cX6_beginTest 184 = .ok (.return_, 1) := by decide +kernel
theorem dX6_endFirst_0 : decode cX6_endFirst 0 = .ok (.aload_n 0, 1) := by decide +kernel
theorem dX6_endFirst_1 : decode cX6_endFirst 1 = .ok (.getfield 57, 3) := by decide +kernel
theorem dX6_endFirst_4 : decode cX6_endFirst 4 = .ok (.iload_n 1, 1) := by decide +kernel
theorem dX6_endFirst_5 : decode cX6_endFirst 5 = .ok (.iaload, 1) := by decide +kernel
theorem dX6_endFirst_6 : decode cX6_endFirst 6 = .ok (.istore_n 2, 1) := by decide +kernel
theorem dX6_endFirst_7 : decode cX6_endFirst 7 = .ok (.aload_n 0, 1) := by decide +kernel
theorem dX6_endFirst_8 : decode cX6_endFirst 8 = .ok (.getfield 34, 3) := by decide +kernel
theorem dX6_endFirst_11 : decode cX6_endFirst 11 = .ok (.iload_n 2, 1) := by decide +kernel
theorem dX6_endFirst_12 : decode cX6_endFirst 12 = .ok (.iaload, 1) := by decide +kernel
theorem dX6_endFirst_13 : decode cX6_endFirst 13 = .ok (.aload_n 0, 1) := by decide +kernel
theorem dX6_endFirst_14 : decode cX6_endFirst 14 = .ok (.getfield 31, 3) := by decide +kernel
theorem dX6_endFirst_17 : decode cX6_endFirst 17 = .ok (.iload_n 2, 1) := by decide +kernel
theorem dX6_endFirst_18 : decode cX6_endFirst 18 = .ok (.iaload, 1) := by decide +kernel
theorem dX6_endFirst_19 : decode cX6_endFirst 19 = .ok (.if_icmp .le 7, 3) := by decide +kernel
theorem dX6_endFirst_22 : decode cX6_endFirst 22 = .ok (.iconst 1, 1) := by decide +kernel
theorem dX6_endFirst_23 : decode cX6_endFirst 23 = .ok (.goto 4, 3) := by decide +kernel
theorem dX6_endFirst_26 : decode cX6_endFirst 26 = .ok (.iconst 0, 1) := by decide +kernel
theorem dX6_endFirst_27 : decode cX6_endFirst 27 = .ok (.istore_n 3, 1) := by decide +kernel
theorem dX6_endFirst_28 : decode cX6_endFirst 28 = .ok (.aload_n 0, 1) := by decide +kernel
theorem dX6_endFirst_29 : decode cX6_endFirst 29 = .ok (.getfield 60, 3) := by decide +kernel
theorem dX6_endFirst_32 : decode cX6_endFirst 32 = .ok (.iload_n 1, 1) := by decide +kernel
theorem dX6_endFirst_33 : decode cX6_endFirst 33 = .ok (.iconst 1, 1) := by decide +kernel
theorem dX6_endFirst_34 : decode cX6_endFirst 34 = .ok (.bastore, 1) := by decide +kernel
theorem dX6_endFirst_35 : decode cX6_endFirst 35 = .ok (.aload_n 0, 1) := by decide +kernel
theorem dX6_endFirst_36 : decode cX6_endFirst 36 = .ok (.iload_n 2, 1) := by decide +kernel
theorem dX6_endFirst_37 : decode cX6_endFirst 37 = .ok (.putfield 202, 3) := by decide +kernel
theorem dX6_endFirst_40 : decode cX6_endFirst 40 = .ok (.aload_n 0, 1) := by decide +kernel
theorem dX6_endFirst_41 : decode cX6_endFirst 41 = .ok (.getfield 63, 3) := by decide +kernel
theorem dX6_endFirst_44 : decode cX6_endFirst 44 = .ok (.iload_n 1, 1) := by decide +kernel
theorem dX6_endFirst_45 : decode cX6_endFirst 45 = .ok (.baload, 1) := by decide +kernel
theorem dX6_endFirst_46 : decode cX6_endFirst 46 = .ok (.ifCond .eq 107, 3) := by decide +kernel
theorem dX6_endFirst_49 : decode cX6_endFirst 49 = .ok (.iconst 0, 1) := by decide +kernel
theorem dX6_endFirst_50 : decode cX6_endFirst 50 = .ok (.istore 4, 2) := by decide +kernel
theorem dX6_endFirst_52 : decode cX6_endFirst 52 = .ok (.iload 4, 2) := by decide +kernel
theorem dX6_endFirst_54 : decode cX6_endFirst 54 = .ok (.bipush 16, 2) := by decide +kernel
theorem dX6_endFirst_56 : decode cX6_endFirst 56 = .ok (.if_icmp .ge 47, 3) := by decide +kernel
theorem dX6_endFirst_59 : decode cX6_endFirst 59 = .ok (.aload_n 0, 1) := by decide +kernel
theorem dX6_endFirst_60 : decode cX6_endFirst 60 = .ok (.getfield 78, 3) := by decide +kernel
theorem dX6_endFirst_63 : decode cX6_endFirst 63 = .ok (.bipush 16, 2) := by decide +kernel
theorem dX6_endFirst_65 : decode cX6_endFirst 65 = .ok (.iload_n 1, 1) := by decide +kernel
theorem dX6_endFirst_66 : decode cX6_endFirst 66 = .ok (.imul, 1) := by decide +kernel
theorem dX6_endFirst_67 : decode cX6_endFirst 67 = .ok (.iload 4, 2) := by decide +kernel
theorem dX6_endFirst_69 : decode cX6_endFirst 69 = .ok (.iadd, 1) := by decide +kernel
theorem dX6_endFirst_70 : decode cX6_endFirst 70 = .ok (.aload_n 0, 1) := by decide +kernel
theorem dX6_endFirst_71 : decode cX6_endFirst 71 = .ok (.getfield 54, 3) := by decide +kernel
theorem dX6_endFirst_74 : decode cX6_endFirst 74 = .ok (.iload 4, 2) := by decide +kernel
theorem dX6_endFirst_76 : decode cX6_endFirst 76 = .ok (.iaload, 1) := by decide +kernel
theorem dX6_endFirst_77 : decode cX6_endFirst 77 = .ok (.iastore, 1) := by decide +kernel
theorem dX6_endFirst_78 : decode cX6_endFirst 78 = .ok (.aload_n 0, 1) := by decide +kernel
theorem dX6_endFirst_79 : decode cX6_endFirst 79 = .ok (.getfield 54, 3) := by decide +kernel
theorem dX6_endFirst_82 : decode cX6_endFirst 82 = .ok (.iload 4, 2) := by decide +kernel
theorem dX6_endFirst_84 : decode cX6_endFirst 84 = .ok (.aload_n 0, 1) := by decide +kernel
theorem dX6_endFirst_85 : decode cX6_endFirst 85 = .ok (.getfield 75, 3) := by decide +kernel
theorem dX6_endFirst_88 : decode cX6_endFirst 88 = .ok (.bipush 16, 2) := by decide +kernel
theorem dX6_endFirst_90 : decode cX6_endFirst 90 = .ok (.iload_n 1, 1) := by decide +kernel
theorem dX6_endFirst_91 : decode cX6_endFirst 91 = .ok (.imul, 1) := by decide +kernel
theorem dX6_endFirst_92 : decode cX6_endFirst 92 = .ok (.iload 4, 2) := by decide +kernel
theorem dX6_endFirst_94 : decode cX6_endFirst 94 = .ok (.iadd, 1) := by decide +kernel
theorem dX6_endFirst_95 : decode cX6_endFirst 95 = .ok (.iaload, 1) := by decide +kernel
theorem dX6_endFirst_96 : decode cX6_endFirst 96 = .ok (.iastore, 1) := by decide +kernel
theorem dX6_endFirst_97 : decode cX6_endFirst 97 = .ok (.iinc 4 1, 3) := by decide +kernel
theorem dX6_endFirst_100 : decode cX6_endFirst 100 = .ok (.goto (-48), 3) := by decide +kernel
theorem dX6_endFirst_103 : decode cX6_endFirst 103 = .ok (.iload_n 3, 1) := by decide +kernel
theorem dX6_endFirst_104 : decode cX6_endFirst 104 = .ok (.ifCond .eq 48, 3) := by decide +kernel
theorem dX6_endFirst_107 : decode cX6_endFirst 107 = .ok (.aload_n 0, 1) := by decide +kernel
theorem dX6_endFirst_108 : decode cX6_endFirst 108 = .ok (.iconst 0, 1) := by decide +kernel
theorem dX6_endFirst_109 : decode cX6_endFirst 109 = .ok (.invokevirtual 216, 3) := by decide +kernel
theorem dX6_endFirst_112 : decode cX6_endFirst 112 = .ok (.istore 4, 2) := by decide +kernel
theorem dX6_endFirst_114 : decode cX6_endFirst 114 = .ok (.aload_n 0, 1) := by decide +kernel
theorem dX6_endFirst_115 : decode cX6_endFirst 115 = .ok (.invokevirtual 205, 3) := by decide +kernel
theorem dX6_endFirst_118 : decode cX6_endFirst 118 = .ok (.istore 5, 2) := by decide +kernel
theorem dX6_endFirst_120 : decode cX6_endFirst 120 = .ok (.aload_n 0, 1) := by decide +kernel
theorem dX6_endFirst_121 : decode cX6_endFirst 121 = .ok (.bipush 10, 2) := by decide +kernel
theorem dX6_endFirst_123 : decode cX6_endFirst 123 = .ok (.iload 5, 2) := by decide +kernel
theorem dX6_endFirst_125 : decode cX6_endFirst 125 = .ok (.aload_n 0, 1) := by decide +kernel
theorem dX6_endFirst_126 : decode cX6_endFirst 126 = .ok (.getfield 66, 3) := by decide +kernel
theorem dX6_endFirst_129 : decode cX6_endFirst 129 = .ok (.iload_n 1, 1) := by decide +kernel
theorem dX6_endFirst_130 : decode cX6_endFirst 130 = .ok (.iaload, 1) := by decide +kernel
theorem dX6_endFirst_131 : decode cX6_endFirst 131 = .ok (.iload 4, 2) := by decide +kernel
theorem dX6_endFirst_133 : decode cX6_endFirst 133 = .ok (.iconst 0, 1) := by decide +kernel
theorem dX6_endFirst_134 : decode cX6_endFirst 134 = .ok (.invokevirtual 208, 3) := by decide +kernel
theorem dX6_endFirst_137 : decode cX6_endFirst 137 = .ok (.istore 6, 2) := by decide +kernel
theorem dX6_endFirst_139 : decode cX6_endFirst 139 = .ok (.aload_n 0, 1) := by decide +kernel
theorem dX6_endFirst_140 : decode cX6_endFirst 140 = .ok (.getfield 69, 3) := by decide +kernel
theorem dX6_endFirst_143 : decode cX6_endFirst 143 = .ok (.iload_n 1, 1) := by decide +kernel
theorem dX6_endFirst_144 : decode cX6_endFirst 144 = .ok (.aload_n 0, 1) := by decide +kernel
theorem dX6_endFirst_145 : decode cX6_endFirst 145 = .ok (.iload_n 1, 1) := by decide +kernel
theorem dX6_endFirst_146 : decode cX6_endFirst 146 = .ok (.iload 5, 2) := by decide +kernel
theorem dX6_endFirst_148 : decode cX6_endFirst 148 = .ok (.invokevirtual 225, 3) := by decide +kernel
theorem dX6_endFirst_151 : decode cX6_endFirst 151 = .ok (.iastore, 1) := by decide +kernel
theorem dX6_endFirst_152 : decode cX6_endFirst 152 = .ok (.return_, 1) := by decide +kernel
theorem dX6_endFirst_153 : decode cX6_endFirst 153 = .ok (.iload_n 3, 1) := by decide +kernel
theorem dX6_endFirst_154 : decode cX6_endFirst 154 = .ok (.ifCond .eq 16, 3) := by decide +kernel
theorem dX6_endFirst_157 : decode cX6_endFirst 157 = .ok (.aload_n 0, 1) := by decide +kernel
theorem dX6_endFirst_158 : decode cX6_endFirst 158 = .ok (.bipush 16, 2) := by decide +kernel
theorem dX6_endFirst_160 : decode cX6_endFirst 160 = .ok (.iconst 0, 1) := by decide +kernel
theorem dX6_endFirst_161 : decode cX6_endFirst 161 = .ok (.iconst 0, 1) := by decide +kernel
theorem dX6_endFirst_162 : decode cX6_endFirst 162 = .ok (.iconst 0, 1) := by decide +kernel
theorem dX6_endFirst_163 : decode cX6_endFirst 163 = .ok (.iconst 0, 1) := by decide +kernel
theorem dX6_endFirst_164 : decode cX6_endFirst 164 = .ok (.invokevirtual 208, 3) := by decide +kernel
theorem dX6_endFirst_167 : decode cX6_endFirst 167 = .ok (.goto 4, 3) := by decide +kernel
theorem dX6_endFirst_170 : decode cX6_endFirst 170 = .ok (.iconst (-1), 1) := by decide +kernel
theorem dX6_endFirst_171 : decode cX6_endFirst 171 = .ok (.istore 4, 2) := by decide +kernel
theorem dX6_endFirst_173 : decode cX6_endFirst 173 = .ok (.aload_n 0, 1) := by decide +kernel
theorem dX6_endFirst_174 : decode cX6_endFirst 174 = .ok (.getfield 44, 3) := by decide +kernel
theorem dX6_endFirst_177 : decode cX6_endFirst 177 = .ok (.bipush 6, 2) := by decide +kernel
theorem dX6_endFirst_179 : decode cX6_endFirst 179 = .ok (.aload_n 0, 1) := by decide +kernel
theorem dX6_endFirst_180 : decode cX6_endFirst 180 = .ok (.getfield 72, 3) := by decide +kernel
theorem dX6_endFirst_183 : decode cX6_endFirst 183 = .ok (.iload_n 1, 1) := by decide +kernel
theorem dX6_endFirst_184 : decode cX6_endFirst 184 = .ok (.iaload, 1) := by decide +kernel
theorem dX6_endFirst_185 : decode cX6_endFirst 185 = .ok (.imul, 1) := by decide +kernel
theorem dX6_endFirst_186 : decode cX6_endFirst 186 = .ok (.iconst 2, 1) := by decide +kernel
theorem dX6_endFirst_187 : decode cX6_endFirst 187 = .ok (.iadd, 1) := by decide +kernel
theorem dX6_endFirst_188 : decode cX6_endFirst 188 = .ok (.aload_n 0, 1) := by decide +kernel
theorem dX6_endFirst_189 : decode cX6_endFirst 189 = .ok (.getfield 199, 3) := by decide +kernel
theorem dX6_endFirst_192 : decode cX6_endFirst 192 = .ok (.iastore, 1) := by decide +kernel
theorem dX6_endFirst_193 : decode cX6_endFirst 193 = .ok (.aload_n 0, 1) := by decide +kernel
theorem dX6_endFirst_194 : decode cX6_endFirst 194 = .ok (.getfield 72, 3) := by decide +kernel
theorem dX6_endFirst_197 : decode cX6_endFirst 197 = .ok (.iload_n 1, 1) := by decide +kernel
theorem dX6_endFirst_198 : decode cX6_endFirst 198 = .ok (.iload 4, 2) := by decide +kernel
theorem dX6_endFirst_200 : decode cX6_endFirst 200 = .ok (.iastore, 1) := by decide +kernel
theorem dX6_endFirst_201 : decode cX6_endFirst 201 = .ok (.return_, 1) := by decide +kernel
theorem dX6_endSecond_0 : decode cX6_endSecond 0 = .ok (.aload_n 0, 1) := by decide +kernel
theorem dX6_endSecond_1 : decode cX6_endSecond 1 = .ok (.aload_n 0, 1) := by decide +kernel
theorem dX6_endSecond_2 : decode cX6_endSecond 2 = .ok (.getfield 57, 3) := by decide +kernel
theorem dX6_endSecond_5 : decode cX6_endSecond 5 = .ok (.iload_n 1, 1) := by decide +kernel
theorem dX6_endSecond_6 : decode cX6_endSecond 6 = .ok (.iaload, 1) := by decide +kernel
theorem dX6_endSecond_7 : decode cX6_endSecond 7 = .ok (.putfield 202, 3) := by decide +kernel
theorem dX6_endSecond_10 : decode cX6_endSecond 10 = .ok (.aload_n 0, 1) := by decide +kernel
theorem dX6_endSecond_11 : decode cX6_endSecond 11 = .ok (.dup, 1) := by decide +kernel
theorem dX6_endSecond_12 : decode cX6_endSecond 12 = .ok (.getfield 219, 3) := by decide +kernel
theorem dX6_endSecond_15 : decode cX6_endSecond 15 = .ok (.iconst 1, 1) := by decide +kernel
theorem dX6_endSecond_16 : decode cX6_endSecond 16 = .ok (.isub, 1) := by decide +kernel
theorem dX6_endSecond_17 : decode cX6_endSecond 17 = .ok (.putfield 219, 3) := by decide +kernel
theorem dX6_endSecond_20 : decode cX6_endSecond 20 = .ok (.aload_n 0, 1) := by decide +kernel
theorem dX6_endSecond_21 : decode cX6_endSecond 21 = .ok (.getfield 63, 3) := by decide +kernel
theorem dX6_endSecond_24 : decode cX6_endSecond 24 = .ok (.iload_n 1, 1) := by decide +kernel
theorem dX6_endSecond_25 : decode cX6_endSecond 25 = .ok (.baload, 1) := by decide +kernel
theorem dX6_endSecond_26 : decode cX6_endSecond 26 = .ok (.ifCond .ne 34, 3) := by decide +kernel
theorem dX6_endSecond_29 : decode cX6_endSecond 29 = .ok (.aload_n 0, 1) := by decide +kernel
theorem dX6_endSecond_30 : decode cX6_endSecond 30 = .ok (.getfield 72, 3) := by decide +kernel
theorem dX6_endSecond_33 : decode cX6_endSecond 33 = .ok (.iload_n 1, 1) := by decide +kernel
theorem dX6_endSecond_34 : decode cX6_endSecond 34 = .ok (.iaload, 1) := by decide +kernel
theorem dX6_endSecond_35 : decode cX6_endSecond 35 = .ok (.iconst (-1), 1) := by decide +kernel
theorem dX6_endSecond_36 : decode cX6_endSecond 36 = .ok (.if_icmp .eq 23, 3) := by decide +kernel
theorem dX6_endSecond_39 : decode cX6_endSecond 39 = .ok (.aload_n 0, 1) := by decide +kernel
theorem dX6_endSecond_40 : decode cX6_endSecond 40 = .ok (.getfield 44, 3) := by decide +kernel
theorem dX6_endSecond_43 : decode cX6_endSecond 43 = .ok (.bipush 6, 2) := by decide +kernel
theorem dX6_endSecond_45 : decode cX6_endSecond 45 = .ok (.aload_n 0, 1) := by decide +kernel
theorem dX6_endSecond_46 : decode cX6_endSecond 46 = .ok (.getfield 72, 3) := by decide +kernel
theorem dX6_endSecond_49 : decode cX6_endSecond 49 = .ok (.iload_n 1, 1) := by decide +kernel
theorem dX6_endSecond_50 : decode cX6_endSecond 50 = .ok (.iaload, 1) := by decide +kernel
theorem dX6_endSecond_51 : decode cX6_endSecond 51 = .ok (.imul, 1) := by decide +kernel
theorem dX6_endSecond_52 : decode cX6_endSecond 52 = .ok (.iconst 1, 1) := by decide +kernel
theorem dX6_endSecond_53 : decode cX6_endSecond 53 = .ok (.iadd, 1) := by decide +kernel
theorem dX6_endSecond_54 : decode cX6_endSecond 54 = .ok (.aload_n 0, 1) := by decide +kernel
theorem dX6_endSecond_55 : decode cX6_endSecond 55 = .ok (.getfield 199, 3) := by decide +kernel
theorem dX6_endSecond_58 : decode cX6_endSecond 58 = .ok (.iastore, 1) := by decide +kernel
theorem dX6_endSecond_59 : decode cX6_endSecond 59 = .ok (.return_, 1) := by decide +kernel
theorem dX6_endSecond_60 : decode cX6_endSecond 60 = .ok (.iconst 0, 1) := by decide +kernel
theorem dX6_endSecond_61 : decode cX6_endSecond 61 = .ok (.istore_n 2, 1) := by decide +kernel
theorem dX6_endSecond_62 : decode cX6_endSecond 62 = .ok (.iload_n 2, 1) := by decide +kernel
theorem dX6_endSecond_63 : decode cX6_endSecond 63 = .ok (.bipush 16, 2) := by decide +kernel
theorem dX6_endSecond_65 : decode cX6_endSecond 65 = .ok (.if_icmp .ge 88, 3) := by decide +kernel
theorem dX6_endSecond_68 : decode cX6_endSecond 68 = .ok (.aload_n 0, 1) := by decide +kernel
theorem dX6_endSecond_69 : decode cX6_endSecond 69 = .ok (.getfield 78, 3) := by decide +kernel
theorem dX6_endSecond_72 : decode cX6_endSecond 72 = .ok (.bipush 16, 2) := by decide +kernel
theorem dX6_endSecond_74 : decode cX6_endSecond 74 = .ok (.iload_n 1, 1) := by decide +kernel
theorem dX6_endSecond_75 : decode cX6_endSecond 75 = .ok (.imul, 1) := by decide +kernel
theorem dX6_endSecond_76 : decode cX6_endSecond 76 = .ok (.iload_n 2, 1) := by decide +kernel
theorem dX6_endSecond_77 : decode cX6_endSecond 77 = .ok (.iadd, 1) := by decide +kernel
theorem dX6_endSecond_78 : decode cX6_endSecond 78 = .ok (.iaload, 1) := by decide +kernel
theorem dX6_endSecond_79 : decode cX6_endSecond 79 = .ok (.istore_n 3, 1) := by decide +kernel
theorem dX6_endSecond_80 : decode cX6_endSecond 80 = .ok (.aload_n 0, 1) := by decide +kernel
theorem dX6_endSecond_81 : decode cX6_endSecond 81 = .ok (.getfield 75, 3) := by decide +kernel
theorem dX6_endSecond_84 : decode cX6_endSecond 84 = .ok (.bipush 16, 2) := by decide +kernel
theorem dX6_endSecond_86 : decode cX6_endSecond 86 = .ok (.iload_n 1, 1) := by decide +kernel
theorem dX6_endSecond_87 : decode cX6_endSecond 87 = .ok (.imul, 1) := by decide +kernel
theorem dX6_endSecond_88 : decode cX6_endSecond 88 = .ok (.iload_n 2, 1) := by decide +kernel
theorem dX6_endSecond_89 : decode cX6_endSecond 89 = .ok (.iadd, 1) := by decide +kernel
theorem dX6_endSecond_90 : decode cX6_endSecond 90 = .ok (.iaload, 1) := by decide +kernel
theorem dX6_endSecond_91 : decode cX6_endSecond 91 = .ok (.istore 4, 2) := by decide +kernel
theorem dX6_endSecond_93 : decode cX6_endSecond 93 = .ok (.iload_n 3, 1) := by decide +kernel
theorem dX6_endSecond_94 : decode cX6_endSecond 94 = .ok (.iload 4, 2) := by decide +kernel
theorem dX6_endSecond_96 : decode cX6_endSecond 96 = .ok (.if_icmp .ne 14, 3) := by decide +kernel
theorem dX6_endSecond_99 : decode cX6_endSecond 99 = .ok (.aload_n 0, 1) := by decide +kernel
theorem dX6_endSecond_100 : decode cX6_endSecond 100 = .ok (.getfield 54, 3) := by decide +kernel
theorem dX6_endSecond_103 : decode cX6_endSecond 103 = .ok (.iload_n 2, 1) := by decide +kernel
theorem dX6_endSecond_104 : decode cX6_endSecond 104 = .ok (.iaload, 1) := by decide +kernel
theorem dX6_endSecond_105 : decode cX6_endSecond 105 = .ok (.iload 4, 2) := by decide +kernel
theorem dX6_endSecond_107 : decode cX6_endSecond 107 = .ok (.if_icmp .eq 40, 3) := by decide +kernel
theorem dX6_endSecond_110 : decode cX6_endSecond 110 = .ok (.aload_n 0, 1) := by decide +kernel
theorem dX6_endSecond_111 : decode cX6_endSecond 111 = .ok (.invokevirtual 205, 3) := by decide +kernel
theorem dX6_endSecond_114 : decode cX6_endSecond 114 = .ok (.istore 5, 2) := by decide +kernel
theorem dX6_endSecond_116 : decode cX6_endSecond 116 = .ok (.aload_n 0, 1) := by decide +kernel
theorem dX6_endSecond_117 : decode cX6_endSecond 117 = .ok (.bipush 13, 2) := by decide +kernel
theorem dX6_endSecond_119 : decode cX6_endSecond 119 = .ok (.iload 5, 2) := by decide +kernel
theorem dX6_endSecond_121 : decode cX6_endSecond 121 = .ok (.aload_n 0, 1) := by decide +kernel
theorem dX6_endSecond_122 : decode cX6_endSecond 122 = .ok (.getfield 66, 3) := by decide +kernel
theorem dX6_endSecond_125 : decode cX6_endSecond 125 = .ok (.iload_n 1, 1) := by decide +kernel
theorem dX6_endSecond_126 : decode cX6_endSecond 126 = .ok (.iaload, 1) := by decide +kernel
theorem dX6_endSecond_127 : decode cX6_endSecond 127 = .ok (.iload_n 3, 1) := by decide +kernel
theorem dX6_endSecond_128 : decode cX6_endSecond 128 = .ok (.aload_n 0, 1) := by decide +kernel
theorem dX6_endSecond_129 : decode cX6_endSecond 129 = .ok (.getfield 54, 3) := by decide +kernel
theorem dX6_endSecond_132 : decode cX6_endSecond 132 = .ok (.iload_n 2, 1) := by decide +kernel
theorem dX6_endSecond_133 : decode cX6_endSecond 133 = .ok (.iaload, 1) := by decide +kernel
theorem dX6_endSecond_134 : decode cX6_endSecond 134 = .ok (.invokevirtual 208, 3) := by decide +kernel
theorem dX6_endSecond_137 : decode cX6_endSecond 137 = .ok (.istore 6, 2) := by decide +kernel
theorem dX6_endSecond_139 : decode cX6_endSecond 139 = .ok (.aload_n 0, 1) := by decide +kernel
theorem dX6_endSecond_140 : decode cX6_endSecond 140 = .ok (.getfield 54, 3) := by decide +kernel
theorem dX6_endSecond_143 : decode cX6_endSecond 143 = .ok (.iload_n 2, 1) := by decide +kernel
theorem dX6_endSecond_144 : decode cX6_endSecond 144 = .ok (.iload 5, 2) := by decide +kernel
theorem dX6_endSecond_146 : decode cX6_endSecond 146 = .ok (.iastore, 1) := by decide +kernel
theorem dX6_endSecond_147 : decode cX6_endSecond 147 = .ok (.iinc 2 1, 3) := by decide +kernel
theorem dX6_endSecond_150 : decode cX6_endSecond 150 = .ok (.goto (-88), 3) := by decide +kernel
theorem dX6_endSecond_153 : decode cX6_endSecond 153 = .ok (.aload_n 0, 1) := by decide +kernel
theorem dX6_endSecond_154 : decode cX6_endSecond 154 = .ok (.invokevirtual 228, 3) := by decide +kernel
theorem dX6_endSecond_157 : decode cX6_endSecond 157 = .ok (.ifCond .ne 49, 3) := by decide +kernel
theorem dX6_endSecond_160 : decode cX6_endSecond 160 = .ok (.iconst 0, 1) := by decide +kernel
theorem dX6_endSecond_161 : decode cX6_endSecond 161 = .ok (.istore_n 2, 1) := by decide +kernel
theorem dX6_endSecond_162 : decode cX6_endSecond 162 = .ok (.iload_n 2, 1) := by decide +kernel
theorem dX6_endSecond_163 : decode cX6_endSecond 163 = .ok (.bipush 16, 2) := by decide +kernel
theorem dX6_endSecond_165 : decode cX6_endSecond 165 = .ok (.if_icmp .ge 41, 3) := by decide +kernel
theorem dX6_endSecond_168 : decode cX6_endSecond 168 = .ok (.aload_n 0, 1) := by decide +kernel
theorem dX6_endSecond_169 : decode cX6_endSecond 169 = .ok (.getfield 54, 3) := by decide +kernel
theorem dX6_endSecond_172 : decode cX6_endSecond 172 = .ok (.iload_n 2, 1) := by decide +kernel
theorem dX6_endSecond_173 : decode cX6_endSecond 173 = .ok (.iaload, 1) := by decide +kernel
theorem dX6_endSecond_174 : decode cX6_endSecond 174 = .ok (.iload_n 2, 1) := by decide +kernel
theorem dX6_endSecond_175 : decode cX6_endSecond 175 = .ok (.if_icmp .eq 25, 3) := by decide +kernel
theorem dX6_endSecond_178 : decode cX6_endSecond 178 = .ok (.aload_n 0, 1) := by decide +kernel
theorem dX6_endSecond_179 : decode cX6_endSecond 179 = .ok (.iconst 1, 1) := by decide +kernel
theorem dX6_endSecond_180 : decode cX6_endSecond 180 = .ok (.iload_n 2, 1) := by decide +kernel
theorem dX6_endSecond_181 : decode cX6_endSecond 181 = .ok (.aload_n 0, 1) := by decide +kernel
theorem dX6_endSecond_182 : decode cX6_endSecond 182 = .ok (.getfield 54, 3) := by decide +kernel
theorem dX6_endSecond_185 : decode cX6_endSecond 185 = .ok (.iload_n 2, 1) := by decide +kernel
theorem dX6_endSecond_186 : decode cX6_endSecond 186 = .ok (.iaload, 1) := by decide +kernel
theorem dX6_endSecond_187 : decode cX6_endSecond 187 = .ok (.iconst 0, 1) := by decide +kernel
theorem dX6_endSecond_188 : decode cX6_endSecond 188 = .ok (.iconst 0, 1) := by decide +kernel
theorem dX6_endSecond_189 : decode cX6_endSecond 189 = .ok (.invokevirtual 208, 3) := by decide +kernel
theorem dX6_endSecond_192 : decode cX6_endSecond 192 = .ok (.istore_n 3, 1) := by decide +kernel
theorem dX6_endSecond_193 : decode cX6_endSecond 193 = .ok (.aload_n 0, 1) := by decide +kernel
theorem dX6_endSecond_194 : decode cX6_endSecond 194 = .ok (.getfield 54, 3) := by decide +kernel
theorem dX6_endSecond_197 : decode cX6_endSecond 197 = .ok (.iload_n 2, 1) := by decide +kernel
theorem dX6_endSecond_198 : decode cX6_endSecond 198 = .ok (.iload_n 2, 1) := by decide +kernel
theorem dX6_endSecond_199 : decode cX6_endSecond 199 = .ok (.iastore, 1) := by decide +kernel
theorem dX6_endSecond_200 : decode cX6_endSecond 200 = .ok (.iinc 2 1, 3) := by decide +kernel
theorem dX6_endSecond_203 : decode cX6_endSecond 203 = .ok (.goto (-41), 3) := by decide +kernel
theorem dX6_endSecond_206 : decode cX6_endSecond 206 = .ok (.return_, 1) := by decide +kernel
theorem dX6_harmless_0 : decode cX6_harmless 0 = .ok (.aload_n 0, 1) := by decide +kernel
theorem dX6_harmless_1 : decode cX6_harmless 1 = .ok (.iload_n 2, 1) := by decide +kernel
theorem dX6_harmless_2 : decode cX6_harmless 2 = .ok (.invokevirtual 216, 3) := by decide +kernel
theorem dX6_harmless_5 : decode cX6_harmless 5 = .ok (.istore_n 3, 1) := by decide +kernel
theorem dX6_harmless_6 : decode cX6_harmless 6 = .ok (.aload_n 0, 1) := by decide +kernel
theorem dX6_harmless_7 : decode cX6_harmless 7 = .ok (.invokevirtual 205, 3) := by decide +kernel
theorem dX6_harmless_10 : decode cX6_harmless 10 = .ok (.istore 4, 2) := by decide +kernel
theorem dX6_harmless_12 : decode cX6_harmless 12 = .ok (.aload_n 0, 1) := by decide +kernel
theorem dX6_harmless_13 : decode cX6_harmless 13 = .ok (.bipush 13, 2) := by decide +kernel
theorem dX6_harmless_15 : decode cX6_harmless 15 = .ok (.iload 4, 2) := by decide +kernel
theorem dX6_harmless_17 : decode cX6_harmless 17 = .ok (.aload_n 0, 1) := by decide +kernel
theorem dX6_harmless_18 : decode cX6_harmless 18 = .ok (.getfield 69, 3) := by decide +kernel
theorem dX6_harmless_21 : decode cX6_harmless 21 = .ok (.aload_n 0, 1) := by decide +kernel
theorem dX6_harmless_22 : decode cX6_harmless 22 = .ok (.getfield 219, 3) := by decide +kernel
theorem dX6_harmless_25 : decode cX6_harmless 25 = .ok (.iconst 1, 1) := by decide +kernel
theorem dX6_harmless_26 : decode cX6_harmless 26 = .ok (.isub, 1) := by decide +kernel
theorem dX6_harmless_27 : decode cX6_harmless 27 = .ok (.iaload, 1) := by decide +kernel
theorem dX6_harmless_28 : decode cX6_harmless 28 = .ok (.iload_n 1, 1) := by decide +kernel
theorem dX6_harmless_29 : decode cX6_harmless 29 = .ok (.iload_n 3, 1) := by decide +kernel
theorem dX6_harmless_30 : decode cX6_harmless 30 = .ok (.invokevirtual 208, 3) := by decide +kernel
theorem dX6_harmless_33 : decode cX6_harmless 33 = .ok (.istore 5, 2) := by decide +kernel
theorem dX6_harmless_35 : decode cX6_harmless 35 = .ok (.iload 4, 2) := by decide +kernel
theorem dX6_harmless_37 : decode cX6_harmless 37 = .ok (.ireturn, 1) := by decide +kernel
theorem dX6_isPlainIndex_0 : decode cX6_isPlainIndex 0 = .ok (.aload_n 0, 1) := by decide +kernel
theorem dX6_isPlainIndex_1 : decode cX6_isPlainIndex 1 = .ok (.iload_n 1, 1) := by decide +kernel
theorem dX6_isPlainIndex_2 : decode cX6_isPlainIndex 2 = .ok (.iconst 3, 1) := by decide +kernel
theorem dX6_isPlainIndex_3 : decode cX6_isPlainIndex 3 = .ok (.invokevirtual 212, 3) := by decide +kernel
theorem dX6_isPlainIndex_6 : decode cX6_isPlainIndex 6 = .ok (.ifCond .ne 24, 3) := by decide +kernel
theorem dX6_isPlainIndex_9 : decode cX6_isPlainIndex 9 = .ok (.aload_n 0, 1) := by decide +kernel
theorem dX6_isPlainIndex_10 : decode cX6_isPlainIndex 10 = .ok (.iload_n 1, 1) := by decide +kernel
theorem dX6_isPlainIndex_11 : decode cX6_isPlainIndex 11 = .ok (.iconst 4, 1) := by decide +kernel
theorem dX6_isPlainIndex_12 : decode cX6_isPlainIndex 12 = .ok (.invokevirtual 212, 3) := by decide +kernel
theorem dX6_isPlainIndex_15 : decode cX6_isPlainIndex 15 = .ok (.i2l, 1) := by decide +kernel
theorem dX6_isPlainIndex_16 : decode cX6_isPlainIndex 16 = .ok (.lconst 0, 1) := by decide +kernel
theorem dX6_isPlainIndex_17 : decode cX6_isPlainIndex 17 = .ok (.ldc2_w 115, 3) := by decide +kernel
theorem dX6_isPlainIndex_20 : decode cX6_isPlainIndex 20 = .ok (.invokestatic 107, 3) := by decide +kernel
theorem dX6_isPlainIndex_23 : decode cX6_isPlainIndex 23 = .ok (.ifCond .eq 7, 3) := by decide +kernel
theorem dX6_isPlainIndex_26 : decode cX6_isPlainIndex 26 = .ok (.iconst 1, 1) := by decide +kernel
theorem dX6_isPlainIndex_27 : decode cX6_isPlainIndex 27 = .ok (.goto 4, 3) := by decide +kernel
theorem dX6_isPlainIndex_30 : decode cX6_isPlainIndex 30 = .ok (.iconst 0, 1) := by decide +kernel
theorem dX6_isPlainIndex_31 : decode cX6_isPlainIndex 31 = .ok (.ireturn, 1) := by decide +kernel
theorem dX6_target_0 : decode cX6_target 0 = .ok (.aload_n 0, 1) := by decide +kernel
theorem dX6_target_1 : decode cX6_target 1 = .ok (.iload_n 1, 1) := by decide +kernel
theorem dX6_target_2 : decode cX6_target 2 = .ok (.iconst 1, 1) := by decide +kernel
theorem dX6_target_3 : decode cX6_target 3 = .ok (.invokevirtual 212, 3) := by decide +kernel
theorem dX6_target_6 : decode cX6_target 6 = .ok (.istore_n 2, 1) := by decide +kernel
theorem dX6_target_7 : decode cX6_target 7 = .ok (.aload_n 0, 1) := by decide +kernel
theorem dX6_target_8 : decode cX6_target 8 = .ok (.invokevirtual 228, 3) := by decide +kernel
theorem dX6_target_11 : decode cX6_target 11 = .ok (.ifCond .ne 5, 3) := by decide +kernel
theorem dX6_target_14 : decode cX6_target 14 = .ok (.iload_n 2, 1) := by decide +kernel
theorem dX6_target_15 : decode cX6_target 15 = .ok (.ireturn, 1) := by decide +kernel
theorem dX6_target_16 : decode cX6_target 16 = .ok (.aload_n 0, 1) := by decide +kernel
theorem dX6_target_17 : decode cX6_target 17 = .ok (.getfield 54, 3) := by decide +kernel
theorem dX6_target_20 : decode cX6_target 20 = .ok (.iload_n 2, 1) := by decide +kernel
theorem dX6_target_21 : decode cX6_target 21 = .ok (.aload_n 0, 1) := by decide +kernel
theorem dX6_target_22 : decode cX6_target 22 = .ok (.invokevirtual 205, 3) := by decide +kernel
theorem dX6_target_25 : decode cX6_target 25 = .ok (.iastore, 1) := by decide +kernel
theorem dX6_target_26 : decode cX6_target 26 = .ok (.aload_n 0, 1) := by decide +kernel
theorem dX6_target_27 : decode cX6_target 27 = .ok (.getfield 54, 3) := by decide +kernel
theorem dX6_target_30 : decode cX6_target 30 = .ok (.iload_n 2, 1) := by decide +kernel
theorem dX6_target_31 : decode cX6_target 31 = .ok (.iaload, 1) := by decide +kernel
theorem dX6_target_32 : decode cX6_target 32 = .ok (.ireturn, 1) := by decide +kernel
theorem dX6_lowerSet_0 : decode cX6_lowerSet 0 = .ok (.aload_n 0, 1) := by decide +kernel
theorem dX6_lowerSet_1 : decode cX6_lowerSet 1 = .ok (.iload_n 1, 1) := by decide +kernel
theorem dX6_lowerSet_2 : decode cX6_lowerSet 2 = .ok (.iconst 3, 1) := by decide +kernel
theorem dX6_lowerSet_3 : decode cX6_lowerSet 3 = .ok (.invokevirtual 212, 3) := by decide +kernel
theorem dX6_lowerSet_6 : decode cX6_lowerSet 6 = .ok (.iconst 1, 1) := by decide +kernel
theorem dX6_lowerSet_7 : decode cX6_lowerSet 7 = .ok (.if_icmp .ne 7, 3) := by decide +kernel
theorem dX6_lowerSet_10 : decode cX6_lowerSet 10 = .ok (.iconst 1, 1) := by decide +kernel
theorem dX6_lowerSet_11 : decode cX6_lowerSet 11 = .ok (.goto 4, 3) := by decide +kernel
theorem dX6_lowerSet_14 : decode cX6_lowerSet 14 = .ok (.iconst 0, 1) := by decide +kernel
theorem dX6_lowerSet_15 : decode cX6_lowerSet 15 = .ok (.istore_n 2, 1) := by decide +kernel
theorem dX6_lowerSet_16 : decode cX6_lowerSet 16 = .ok (.iload_n 2, 1) := by decide +kernel
theorem dX6_lowerSet_17 : decode cX6_lowerSet 17 = .ok (.ifCond .eq 35, 3) := by decide +kernel
theorem dX6_lowerSet_20 : decode cX6_lowerSet 20 = .ok (.aload_n 0, 1) := by decide +kernel
theorem dX6_lowerSet_21 : decode cX6_lowerSet 21 = .ok (.invokevirtual 228, 3) := by decide +kernel
theorem dX6_lowerSet_24 : decode cX6_lowerSet 24 = .ok (.ifCond .eq 28, 3) := by decide +kernel
theorem dX6_lowerSet_27 : decode cX6_lowerSet 27 = .ok (.aload_n 0, 1) := by decide +kernel
theorem dX6_lowerSet_28 : decode cX6_lowerSet 28 = .ok (.getfield 54, 3) := by decide +kernel
theorem dX6_lowerSet_31 : decode cX6_lowerSet 31 = .ok (.aload_n 0, 1) := by decide +kernel
theorem dX6_lowerSet_32 : decode cX6_lowerSet 32 = .ok (.iload_n 1, 1) := by decide +kernel
theorem dX6_lowerSet_33 : decode cX6_lowerSet 33 = .ok (.iconst 1, 1) := by decide +kernel
theorem dX6_lowerSet_34 : decode cX6_lowerSet 34 = .ok (.invokevirtual 212, 3) := by decide +kernel
theorem dX6_lowerSet_37 : decode cX6_lowerSet 37 = .ok (.aload_n 0, 1) := by decide +kernel
theorem dX6_lowerSet_38 : decode cX6_lowerSet 38 = .ok (.getfield 54, 3) := by decide +kernel
theorem dX6_lowerSet_41 : decode cX6_lowerSet 41 = .ok (.aload_n 0, 1) := by decide +kernel
theorem dX6_lowerSet_42 : decode cX6_lowerSet 42 = .ok (.iload_n 1, 1) := by decide +kernel
theorem dX6_lowerSet_43 : decode cX6_lowerSet 43 = .ok (.iconst 4, 1) := by decide +kernel
theorem dX6_lowerSet_44 : decode cX6_lowerSet 44 = .ok (.invokevirtual 212, 3) := by decide +kernel
theorem dX6_lowerSet_47 : decode cX6_lowerSet 47 = .ok (.iaload, 1) := by decide +kernel
theorem dX6_lowerSet_48 : decode cX6_lowerSet 48 = .ok (.iastore, 1) := by decide +kernel
theorem dX6_lowerSet_49 : decode cX6_lowerSet 49 = .ok (.goto 57, 3) := by decide +kernel
theorem dX6_lowerSet_52 : decode cX6_lowerSet 52 = .ok (.iload_n 2, 1) := by decide +kernel
theorem dX6_lowerSet_53 : decode cX6_lowerSet 53 = .ok (.ifCond .eq 31, 3) := by decide +kernel
theorem dX6_lowerSet_56 : decode cX6_lowerSet 56 = .ok (.aload_n 0, 1) := by decide +kernel
theorem dX6_lowerSet_57 : decode cX6_lowerSet 57 = .ok (.iconst 1, 1) := by decide +kernel
theorem dX6_lowerSet_58 : decode cX6_lowerSet 58 = .ok (.aload_n 0, 1) := by decide +kernel
theorem dX6_lowerSet_59 : decode cX6_lowerSet 59 = .ok (.iload_n 1, 1) := by decide +kernel
theorem dX6_lowerSet_60 : decode cX6_lowerSet 60 = .ok (.iconst 1, 1) := by decide +kernel
theorem dX6_lowerSet_61 : decode cX6_lowerSet 61 = .ok (.invokevirtual 212, 3) := by decide +kernel
theorem dX6_lowerSet_64 : decode cX6_lowerSet 64 = .ok (.aload_n 0, 1) := by decide +kernel
theorem dX6_lowerSet_65 : decode cX6_lowerSet 65 = .ok (.getfield 54, 3) := by decide +kernel
theorem dX6_lowerSet_68 : decode cX6_lowerSet 68 = .ok (.aload_n 0, 1) := by decide +kernel
theorem dX6_lowerSet_69 : decode cX6_lowerSet 69 = .ok (.iload_n 1, 1) := by decide +kernel
theorem dX6_lowerSet_70 : decode cX6_lowerSet 70 = .ok (.iconst 4, 1) := by decide +kernel
theorem dX6_lowerSet_71 : decode cX6_lowerSet 71 = .ok (.invokevirtual 212, 3) := by decide +kernel
theorem dX6_lowerSet_74 : decode cX6_lowerSet 74 = .ok (.iaload, 1) := by decide +kernel
theorem dX6_lowerSet_75 : decode cX6_lowerSet 75 = .ok (.iconst 0, 1) := by decide +kernel
theorem dX6_lowerSet_76 : decode cX6_lowerSet 76 = .ok (.iconst 0, 1) := by decide +kernel
theorem dX6_lowerSet_77 : decode cX6_lowerSet 77 = .ok (.invokevirtual 208, 3) := by decide +kernel
theorem dX6_lowerSet_80 : decode cX6_lowerSet 80 = .ok (.istore_n 3, 1) := by decide +kernel
theorem dX6_lowerSet_81 : decode cX6_lowerSet 81 = .ok (.goto 25, 3) := by decide +kernel
theorem dX6_lowerSet_84 : decode cX6_lowerSet 84 = .ok (.aload_n 0, 1) := by decide +kernel
theorem dX6_lowerSet_85 : decode cX6_lowerSet 85 = .ok (.iload_n 1, 1) := by decide +kernel
theorem dX6_lowerSet_86 : decode cX6_lowerSet 86 = .ok (.invokevirtual 232, 3) := by decide +kernel
theorem dX6_lowerSet_89 : decode cX6_lowerSet 89 = .ok (.istore_n 3, 1) := by decide +kernel
theorem dX6_lowerSet_90 : decode cX6_lowerSet 90 = .ok (.aload_n 0, 1) := by decide +kernel
theorem dX6_lowerSet_91 : decode cX6_lowerSet 91 = .ok (.iconst 0, 1) := by decide +kernel
theorem dX6_lowerSet_92 : decode cX6_lowerSet 92 = .ok (.iload_n 3, 1) := by decide +kernel
theorem dX6_lowerSet_93 : decode cX6_lowerSet 93 = .ok (.aload_n 0, 1) := by decide +kernel
theorem dX6_lowerSet_94 : decode cX6_lowerSet 94 = .ok (.iload_n 1, 1) := by decide +kernel
theorem dX6_lowerSet_95 : decode cX6_lowerSet 95 = .ok (.iconst 4, 1) := by decide +kernel
theorem dX6_lowerSet_96 : decode cX6_lowerSet 96 = .ok (.invokevirtual 212, 3) := by decide +kernel
theorem dX6_lowerSet_99 : decode cX6_lowerSet 99 = .ok (.iconst 0, 1) := by decide +kernel
theorem dX6_lowerSet_100 : decode cX6_lowerSet 100 = .ok (.iconst 0, 1) := by decide +kernel
theorem dX6_lowerSet_101 : decode cX6_lowerSet 101 = .ok (.invokevirtual 208, 3) := by decide +kernel
theorem dX6_lowerSet_104 : decode cX6_lowerSet 104 = .ok (.istore 4, 2) := by decide +kernel
theorem dX6_lowerSet_106 : decode cX6_lowerSet 106 = .ok (.return_, 1) := by decide +kernel
theorem dX6_lowerOne_0 : decode cX6_lowerOne 0 = .ok (.aload_n 0, 1) := by decide +kernel
theorem dX6_lowerOne_1 : decode cX6_lowerOne 1 = .ok (.iload_n 1, 1) := by decide +kernel
theorem dX6_lowerOne_2 : decode cX6_lowerOne 2 = .ok (.putfield 202, 3) := by decide +kernel
theorem dX6_lowerOne_5 : decode cX6_lowerOne 5 = .ok (.aload_n 0, 1) := by decide +kernel
theorem dX6_lowerOne_6 : decode cX6_lowerOne 6 = .ok (.iload_n 1, 1) := by decide +kernel
theorem dX6_lowerOne_7 : decode cX6_lowerOne 7 = .ok (.iconst 0, 1) := by decide +kernel
theorem dX6_lowerOne_8 : decode cX6_lowerOne 8 = .ok (.invokevirtual 212, 3) := by decide +kernel
theorem dX6_lowerOne_11 : decode cX6_lowerOne 11 = .ok (.tableswitch 255 0 4 #[33, 41, 153, 209, 233], 33) := by decide +kernel
theorem dX6_lowerOne_44 : decode cX6_lowerOne 44 = .ok (.aload_n 0, 1) := by decide +kernel
theorem dX6_lowerOne_45 : decode cX6_lowerOne 45 = .ok (.iload_n 1, 1) := by decide +kernel
theorem dX6_lowerOne_46 : decode cX6_lowerOne 46 = .ok (.invokevirtual 235, 3) := by decide +kernel
theorem dX6_lowerOne_49 : decode cX6_lowerOne 49 = .ok (.goto 222, 3) := by decide +kernel
theorem dX6_lowerOne_52 : decode cX6_lowerOne 52 = .ok (.aload_n 0, 1) := by decide +kernel
theorem dX6_lowerOne_53 : decode cX6_lowerOne 53 = .ok (.iload_n 1, 1) := by decide +kernel
theorem dX6_lowerOne_54 : decode cX6_lowerOne 54 = .ok (.iconst 3, 1) := by decide +kernel
theorem dX6_lowerOne_55 : decode cX6_lowerOne 55 = .ok (.invokevirtual 222, 3) := by decide +kernel
theorem dX6_lowerOne_58 : decode cX6_lowerOne 58 = .ok (.istore_n 2, 1) := by decide +kernel
theorem dX6_lowerOne_59 : decode cX6_lowerOne 59 = .ok (.aload_n 0, 1) := by decide +kernel
theorem dX6_lowerOne_60 : decode cX6_lowerOne 60 = .ok (.iload_n 1, 1) := by decide +kernel
theorem dX6_lowerOne_61 : decode cX6_lowerOne 61 = .ok (.iconst 5, 1) := by decide +kernel
theorem dX6_lowerOne_62 : decode cX6_lowerOne 62 = .ok (.invokevirtual 222, 3) := by decide +kernel
theorem dX6_lowerOne_65 : decode cX6_lowerOne 65 = .ok (.istore_n 3, 1) := by decide +kernel
theorem dX6_lowerOne_66 : decode cX6_lowerOne 66 = .ok (.aload_n 0, 1) := by decide +kernel
theorem dX6_lowerOne_67 : decode cX6_lowerOne 67 = .ok (.iload_n 1, 1) := by decide +kernel
theorem dX6_lowerOne_68 : decode cX6_lowerOne 68 = .ok (.iconst 2, 1) := by decide +kernel
theorem dX6_lowerOne_69 : decode cX6_lowerOne 69 = .ok (.invokevirtual 212, 3) := by decide +kernel
theorem dX6_lowerOne_72 : decode cX6_lowerOne 72 = .ok (.iconst 5, 1) := by decide +kernel
theorem dX6_lowerOne_73 : decode cX6_lowerOne 73 = .ok (.if_icmp .eq 14, 3) := by decide +kernel
theorem dX6_lowerOne_76 : decode cX6_lowerOne 76 = .ok (.aload_n 0, 1) := by decide +kernel
theorem dX6_lowerOne_77 : decode cX6_lowerOne 77 = .ok (.iload_n 1, 1) := by decide +kernel
theorem dX6_lowerOne_78 : decode cX6_lowerOne 78 = .ok (.iconst 2, 1) := by decide +kernel
theorem dX6_lowerOne_79 : decode cX6_lowerOne 79 = .ok (.invokevirtual 212, 3) := by decide +kernel
theorem dX6_lowerOne_82 : decode cX6_lowerOne 82 = .ok (.bipush 6, 2) := by decide +kernel
theorem dX6_lowerOne_84 : decode cX6_lowerOne 84 = .ok (.if_icmp .ne 27, 3) := by decide +kernel
theorem dX6_lowerOne_87 : decode cX6_lowerOne 87 = .ok (.aload_n 0, 1) := by decide +kernel
theorem dX6_lowerOne_88 : decode cX6_lowerOne 88 = .ok (.iload_n 1, 1) := by decide +kernel
theorem dX6_lowerOne_89 : decode cX6_lowerOne 89 = .ok (.iconst 5, 1) := by decide +kernel
theorem dX6_lowerOne_90 : decode cX6_lowerOne 90 = .ok (.invokevirtual 212, 3) := by decide +kernel
theorem dX6_lowerOne_93 : decode cX6_lowerOne 93 = .ok (.iconst 1, 1) := by decide +kernel
theorem dX6_lowerOne_94 : decode cX6_lowerOne 94 = .ok (.if_icmp .eq 13, 3) := by decide +kernel
theorem dX6_lowerOne_97 : decode cX6_lowerOne 97 = .ok (.aload_n 0, 1) := by decide +kernel
theorem dX6_lowerOne_98 : decode cX6_lowerOne 98 = .ok (.iload_n 1, 1) := by decide +kernel
theorem dX6_lowerOne_99 : decode cX6_lowerOne 99 = .ok (.bipush 6, 2) := by decide +kernel
theorem dX6_lowerOne_101 : decode cX6_lowerOne 101 = .ok (.invokevirtual 212, 3) := by decide +kernel
theorem dX6_lowerOne_104 : decode cX6_lowerOne 104 = .ok (.ifCond .ne 7, 3) := by decide +kernel
theorem dX6_lowerOne_107 : decode cX6_lowerOne 107 = .ok (.iconst 1, 1) := by decide +kernel
theorem dX6_lowerOne_108 : decode cX6_lowerOne 108 = .ok (.goto 4, 3) := by decide +kernel
theorem dX6_lowerOne_111 : decode cX6_lowerOne 111 = .ok (.iconst 0, 1) := by decide +kernel
theorem dX6_lowerOne_112 : decode cX6_lowerOne 112 = .ok (.istore 5, 2) := by decide +kernel
theorem dX6_lowerOne_114 : decode cX6_lowerOne 114 = .ok (.aload_n 0, 1) := by decide +kernel
theorem dX6_lowerOne_115 : decode cX6_lowerOne 115 = .ok (.invokevirtual 228, 3) := by decide +kernel
theorem dX6_lowerOne_118 : decode cX6_lowerOne 118 = .ok (.ifCond .eq 17, 3) := by decide +kernel
theorem dX6_lowerOne_121 : decode cX6_lowerOne 121 = .ok (.iload 5, 2) := by decide +kernel
theorem dX6_lowerOne_123 : decode cX6_lowerOne 123 = .ok (.ifCond .eq 12, 3) := by decide +kernel
theorem dX6_lowerOne_126 : decode cX6_lowerOne 126 = .ok (.aload_n 0, 1) := by decide +kernel
theorem dX6_lowerOne_127 : decode cX6_lowerOne 127 = .ok (.iload_n 3, 1) := by decide +kernel
theorem dX6_lowerOne_128 : decode cX6_lowerOne 128 = .ok (.iconst 1, 1) := by decide +kernel
theorem dX6_lowerOne_129 : decode cX6_lowerOne 129 = .ok (.invokevirtual 238, 3) := by decide +kernel
theorem dX6_lowerOne_132 : decode cX6_lowerOne 132 = .ok (.goto 4, 3) := by decide +kernel
theorem dX6_lowerOne_135 : decode cX6_lowerOne 135 = .ok (.iload_n 3, 1) := by decide +kernel
theorem dX6_lowerOne_136 : decode cX6_lowerOne 136 = .ok (.istore_n 3, 1) := by decide +kernel
theorem dX6_lowerOne_137 : decode cX6_lowerOne 137 = .ok (.aload_n 0, 1) := by decide +kernel
theorem dX6_lowerOne_138 : decode cX6_lowerOne 138 = .ok (.iload_n 1, 1) := by decide +kernel
theorem dX6_lowerOne_139 : decode cX6_lowerOne 139 = .ok (.invokevirtual 232, 3) := by decide +kernel
theorem dX6_lowerOne_142 : decode cX6_lowerOne 142 = .ok (.istore 6, 2) := by decide +kernel
theorem dX6_lowerOne_144 : decode cX6_lowerOne 144 = .ok (.aload_n 0, 1) := by decide +kernel
theorem dX6_lowerOne_145 : decode cX6_lowerOne 145 = .ok (.aload_n 0, 1) := by decide +kernel
theorem dX6_lowerOne_146 : decode cX6_lowerOne 146 = .ok (.iload_n 1, 1) := by decide +kernel
theorem dX6_lowerOne_147 : decode cX6_lowerOne 147 = .ok (.iconst 2, 1) := by decide +kernel
theorem dX6_lowerOne_148 : decode cX6_lowerOne 148 = .ok (.invokevirtual 212, 3) := by decide +kernel
theorem dX6_lowerOne_151 : decode cX6_lowerOne 151 = .ok (.iload 6, 2) := by decide +kernel
theorem dX6_lowerOne_153 : decode cX6_lowerOne 153 = .ok (.iload_n 2, 1) := by decide +kernel
theorem dX6_lowerOne_154 : decode cX6_lowerOne 154 = .ok (.iload_n 3, 1) := by decide +kernel
theorem dX6_lowerOne_155 : decode cX6_lowerOne 155 = .ok (.iconst 0, 1) := by decide +kernel
theorem dX6_lowerOne_156 : decode cX6_lowerOne 156 = .ok (.invokevirtual 208, 3) := by decide +kernel
theorem dX6_lowerOne_159 : decode cX6_lowerOne 159 = .ok (.istore 4, 2) := by decide +kernel
theorem dX6_lowerOne_161 : decode cX6_lowerOne 161 = .ok (.goto 110, 3) := by decide +kernel
theorem dX6_lowerOne_164 : decode cX6_lowerOne 164 = .ok (.aload_n 0, 1) := by decide +kernel
theorem dX6_lowerOne_165 : decode cX6_lowerOne 165 = .ok (.iload_n 1, 1) := by decide +kernel
theorem dX6_lowerOne_166 : decode cX6_lowerOne 166 = .ok (.iconst 3, 1) := by decide +kernel
theorem dX6_lowerOne_167 : decode cX6_lowerOne 167 = .ok (.invokevirtual 222, 3) := by decide +kernel
theorem dX6_lowerOne_170 : decode cX6_lowerOne 170 = .ok (.istore_n 2, 1) := by decide +kernel
theorem dX6_lowerOne_171 : decode cX6_lowerOne 171 = .ok (.aload_n 0, 1) := by decide +kernel
theorem dX6_lowerOne_172 : decode cX6_lowerOne 172 = .ok (.invokevirtual 228, 3) := by decide +kernel
theorem dX6_lowerOne_175 : decode cX6_lowerOne 175 = .ok (.ifCond .eq 20, 3) := by decide +kernel
theorem dX6_lowerOne_178 : decode cX6_lowerOne 178 = .ok (.aload_n 0, 1) := by decide +kernel
theorem dX6_lowerOne_179 : decode cX6_lowerOne 179 = .ok (.iload_n 1, 1) := by decide +kernel
theorem dX6_lowerOne_180 : decode cX6_lowerOne 180 = .ok (.invokevirtual 241, 3) := by decide +kernel
theorem dX6_lowerOne_183 : decode cX6_lowerOne 183 = .ok (.ifCond .ne 12, 3) := by decide +kernel
theorem dX6_lowerOne_186 : decode cX6_lowerOne 186 = .ok (.aload_n 0, 1) := by decide +kernel
theorem dX6_lowerOne_187 : decode cX6_lowerOne 187 = .ok (.iload_n 2, 1) := by decide +kernel
theorem dX6_lowerOne_188 : decode cX6_lowerOne 188 = .ok (.iconst 0, 1) := by decide +kernel
theorem dX6_lowerOne_189 : decode cX6_lowerOne 189 = .ok (.invokevirtual 238, 3) := by decide +kernel
theorem dX6_lowerOne_192 : decode cX6_lowerOne 192 = .ok (.goto 4, 3) := by decide +kernel
theorem dX6_lowerOne_195 : decode cX6_lowerOne 195 = .ok (.iload_n 2, 1) := by decide +kernel
theorem dX6_lowerOne_196 : decode cX6_lowerOne 196 = .ok (.istore_n 2, 1) := by decide +kernel
theorem dX6_lowerOne_197 : decode cX6_lowerOne 197 = .ok (.aload_n 0, 1) := by decide +kernel
theorem dX6_lowerOne_198 : decode cX6_lowerOne 198 = .ok (.iload_n 1, 1) := by decide +kernel
theorem dX6_lowerOne_199 : decode cX6_lowerOne 199 = .ok (.invokevirtual 232, 3) := by decide +kernel
theorem dX6_lowerOne_202 : decode cX6_lowerOne 202 = .ok (.istore 7, 2) := by decide +kernel
theorem dX6_lowerOne_204 : decode cX6_lowerOne 204 = .ok (.aload_n 0, 1) := by decide +kernel
theorem dX6_lowerOne_205 : decode cX6_lowerOne 205 = .ok (.bipush 14, 2) := by decide +kernel
theorem dX6_lowerOne_207 : decode cX6_lowerOne 207 = .ok (.iload 7, 2) := by decide +kernel
theorem dX6_lowerOne_209 : decode cX6_lowerOne 209 = .ok (.iload_n 2, 1) := by decide +kernel
theorem dX6_lowerOne_210 : decode cX6_lowerOne 210 = .ok (.iconst 0, 1) := by decide +kernel
theorem dX6_lowerOne_211 : decode cX6_lowerOne 211 = .ok (.iconst 0, 1) := by decide +kernel
theorem dX6_lowerOne_212 : decode cX6_lowerOne 212 = .ok (.invokevirtual 208, 3) := by decide +kernel
theorem dX6_lowerOne_215 : decode cX6_lowerOne 215 = .ok (.istore 4, 2) := by decide +kernel
theorem dX6_lowerOne_217 : decode cX6_lowerOne 217 = .ok (.goto 54, 3) := by decide +kernel
theorem dX6_lowerOne_220 : decode cX6_lowerOne 220 = .ok (.aload_n 0, 1) := by decide +kernel
theorem dX6_lowerOne_221 : decode cX6_lowerOne 221 = .ok (.iload_n 1, 1) := by decide +kernel
theorem dX6_lowerOne_222 : decode cX6_lowerOne 222 = .ok (.iconst 3, 1) := by decide +kernel
theorem dX6_lowerOne_223 : decode cX6_lowerOne 223 = .ok (.invokevirtual 222, 3) := by decide +kernel
theorem dX6_lowerOne_226 : decode cX6_lowerOne 226 = .ok (.istore_n 2, 1) := by decide +kernel
theorem dX6_lowerOne_227 : decode cX6_lowerOne 227 = .ok (.aload_n 0, 1) := by decide +kernel
theorem dX6_lowerOne_228 : decode cX6_lowerOne 228 = .ok (.iload_n 1, 1) := by decide +kernel
theorem dX6_lowerOne_229 : decode cX6_lowerOne 229 = .ok (.iconst 5, 1) := by decide +kernel
theorem dX6_lowerOne_230 : decode cX6_lowerOne 230 = .ok (.invokevirtual 222, 3) := by decide +kernel
theorem dX6_lowerOne_233 : decode cX6_lowerOne 233 = .ok (.istore_n 3, 1) := by decide +kernel
theorem dX6_lowerOne_234 : decode cX6_lowerOne 234 = .ok (.aload_n 0, 1) := by decide +kernel
theorem dX6_lowerOne_235 : decode cX6_lowerOne 235 = .ok (.iload_n 1, 1) := by decide +kernel
theorem dX6_lowerOne_236 : decode cX6_lowerOne 236 = .ok (.iload_n 2, 1) := by decide +kernel
theorem dX6_lowerOne_237 : decode cX6_lowerOne 237 = .ok (.iload_n 3, 1) := by decide +kernel
theorem dX6_lowerOne_238 : decode cX6_lowerOne 238 = .ok (.invokevirtual 244, 3) := by decide +kernel
theorem dX6_lowerOne_241 : decode cX6_lowerOne 241 = .ok (.goto 30, 3) := by decide +kernel
theorem dX6_lowerOne_244 : decode cX6_lowerOne 244 = .ok (.aload_n 0, 1) := by decide +kernel
theorem dX6_lowerOne_245 : decode cX6_lowerOne 245 = .ok (.iload_n 1, 1) := by decide +kernel
theorem dX6_lowerOne_246 : decode cX6_lowerOne 246 = .ok (.iconst 3, 1) := by decide +kernel
theorem dX6_lowerOne_247 : decode cX6_lowerOne 247 = .ok (.invokevirtual 222, 3) := by decide +kernel
theorem dX6_lowerOne_250 : decode cX6_lowerOne 250 = .ok (.istore_n 2, 1) := by decide +kernel
theorem dX6_lowerOne_251 : decode cX6_lowerOne 251 = .ok (.aload_n 0, 1) := by decide +kernel
theorem dX6_lowerOne_252 : decode cX6_lowerOne 252 = .ok (.bipush 18, 2) := by decide +kernel
theorem dX6_lowerOne_254 : decode cX6_lowerOne 254 = .ok (.iload_n 2, 1) := by decide +kernel
theorem dX6_lowerOne_255 : decode cX6_lowerOne 255 = .ok (.iconst 0, 1) := by decide +kernel
theorem dX6_lowerOne_256 : decode cX6_lowerOne 256 = .ok (.iconst 0, 1) := by decide +kernel
theorem dX6_lowerOne_257 : decode cX6_lowerOne 257 = .ok (.iconst 0, 1) := by decide +kernel
theorem dX6_lowerOne_258 : decode cX6_lowerOne 258 = .ok (.invokevirtual 208, 3) := by decide +kernel
theorem dX6_lowerOne_261 : decode cX6_lowerOne 261 = .ok (.istore 4, 2) := by decide +kernel
theorem dX6_lowerOne_263 : decode cX6_lowerOne 263 = .ok (.goto 8, 3) := by decide +kernel
theorem dX6_lowerOne_266 : decode cX6_lowerOne 266 = .ok (.aload_n 0, 1) := by decide +kernel
theorem dX6_lowerOne_267 : decode cX6_lowerOne 267 = .ok (.iload_n 1, 1) := by decide +kernel
theorem dX6_lowerOne_268 : decode cX6_lowerOne 268 = .ok (.invokevirtual 248, 3) := by decide +kernel
theorem dX6_lowerOne_271 : decode cX6_lowerOne 271 = .ok (.return_, 1) := by decide +kernel
theorem dX6_lowerStore_0 : decode cX6_lowerStore 0 = .ok (.iload_n 2, 1) := by decide +kernel
theorem dX6_lowerStore_1 : decode cX6_lowerStore 1 = .ok (.istore 4, 2) := by decide +kernel
theorem dX6_lowerStore_3 : decode cX6_lowerStore 3 = .ok (.iload_n 3, 1) := by decide +kernel
theorem dX6_lowerStore_4 : decode cX6_lowerStore 4 = .ok (.istore 5, 2) := by decide +kernel
theorem dX6_lowerStore_6 : decode cX6_lowerStore 6 = .ok (.aload_n 0, 1) := by decide +kernel
theorem dX6_lowerStore_7 : decode cX6_lowerStore 7 = .ok (.invokevirtual 228, 3) := by decide +kernel
theorem dX6_lowerStore_10 : decode cX6_lowerStore 10 = .ok (.ifCond .eq 80, 3) := by decide +kernel
theorem dX6_lowerStore_13 : decode cX6_lowerStore 13 = .ok (.aload_n 0, 1) := by decide +kernel
theorem dX6_lowerStore_14 : decode cX6_lowerStore 14 = .ok (.iload_n 1, 1) := by decide +kernel
theorem dX6_lowerStore_15 : decode cX6_lowerStore 15 = .ok (.invokevirtual 241, 3) := by decide +kernel
theorem dX6_lowerStore_18 : decode cX6_lowerStore 18 = .ok (.ifCond .eq 8, 3) := by decide +kernel
theorem dX6_lowerStore_21 : decode cX6_lowerStore 21 = .ok (.iload 4, 2) := by decide +kernel
theorem dX6_lowerStore_23 : decode cX6_lowerStore 23 = .ok (.goto 10, 3) := by decide +kernel
theorem dX6_lowerStore_26 : decode cX6_lowerStore 26 = .ok (.aload_n 0, 1) := by decide +kernel
theorem dX6_lowerStore_27 : decode cX6_lowerStore 27 = .ok (.iload 4, 2) := by decide +kernel
theorem dX6_lowerStore_29 : decode cX6_lowerStore 29 = .ok (.iconst 0, 1) := by decide +kernel
theorem dX6_lowerStore_30 : decode cX6_lowerStore 30 = .ok (.invokevirtual 238, 3) := by decide +kernel
theorem dX6_lowerStore_33 : decode cX6_lowerStore 33 = .ok (.istore 4, 2) := by decide +kernel
theorem dX6_lowerStore_35 : decode cX6_lowerStore 35 = .ok (.aload_n 0, 1) := by decide +kernel
theorem dX6_lowerStore_36 : decode cX6_lowerStore 36 = .ok (.invokevirtual 205, 3) := by decide +kernel
theorem dX6_lowerStore_39 : decode cX6_lowerStore 39 = .ok (.istore 7, 2) := by decide +kernel
theorem dX6_lowerStore_41 : decode cX6_lowerStore 41 = .ok (.aload_n 0, 1) := by decide +kernel
theorem dX6_lowerStore_42 : decode cX6_lowerStore 42 = .ok (.bipush 14, 2) := by decide +kernel
theorem dX6_lowerStore_44 : decode cX6_lowerStore 44 = .ok (.iload 7, 2) := by decide +kernel
theorem dX6_lowerStore_46 : decode cX6_lowerStore 46 = .ok (.iload 4, 2) := by decide +kernel
theorem dX6_lowerStore_48 : decode cX6_lowerStore 48 = .ok (.iconst 0, 1) := by decide +kernel
theorem dX6_lowerStore_49 : decode cX6_lowerStore 49 = .ok (.iconst 0, 1) := by decide +kernel
theorem dX6_lowerStore_50 : decode cX6_lowerStore 50 = .ok (.invokevirtual 208, 3) := by decide +kernel
theorem dX6_lowerStore_53 : decode cX6_lowerStore 53 = .ok (.istore 6, 2) := by decide +kernel
theorem dX6_lowerStore_55 : decode cX6_lowerStore 55 = .ok (.aload_n 0, 1) := by decide +kernel
theorem dX6_lowerStore_56 : decode cX6_lowerStore 56 = .ok (.invokevirtual 205, 3) := by decide +kernel
theorem dX6_lowerStore_59 : decode cX6_lowerStore 59 = .ok (.istore 8, 2) := by decide +kernel
theorem dX6_lowerStore_61 : decode cX6_lowerStore 61 = .ok (.aload_n 0, 1) := by decide +kernel
theorem dX6_lowerStore_62 : decode cX6_lowerStore 62 = .ok (.bipush 13, 2) := by decide +kernel
theorem dX6_lowerStore_64 : decode cX6_lowerStore 64 = .ok (.iload 8, 2) := by decide +kernel
theorem dX6_lowerStore_66 : decode cX6_lowerStore 66 = .ok (.aload_n 0, 1) := by decide +kernel
theorem dX6_lowerStore_67 : decode cX6_lowerStore 67 = .ok (.getfield 69, 3) := by decide +kernel
theorem dX6_lowerStore_70 : decode cX6_lowerStore 70 = .ok (.aload_n 0, 1) := by decide +kernel
theorem dX6_lowerStore_71 : decode cX6_lowerStore 71 = .ok (.getfield 219, 3) := by decide +kernel
theorem dX6_lowerStore_74 : decode cX6_lowerStore 74 = .ok (.iconst 1, 1) := by decide +kernel
theorem dX6_lowerStore_75 : decode cX6_lowerStore 75 = .ok (.isub, 1) := by decide +kernel
theorem dX6_lowerStore_76 : decode cX6_lowerStore 76 = .ok (.iaload, 1) := by decide +kernel
theorem dX6_lowerStore_77 : decode cX6_lowerStore 77 = .ok (.iload 5, 2) := by decide +kernel
theorem dX6_lowerStore_79 : decode cX6_lowerStore 79 = .ok (.iload 7, 2) := by decide +kernel
theorem dX6_lowerStore_81 : decode cX6_lowerStore 81 = .ok (.invokevirtual 208, 3) := by decide +kernel
theorem dX6_lowerStore_84 : decode cX6_lowerStore 84 = .ok (.istore 6, 2) := by decide +kernel
theorem dX6_lowerStore_86 : decode cX6_lowerStore 86 = .ok (.iload 8, 2) := by decide +kernel
theorem dX6_lowerStore_88 : decode cX6_lowerStore 88 = .ok (.istore 5, 2) := by decide +kernel
theorem dX6_lowerStore_90 : decode cX6_lowerStore 90 = .ok (.aload_n 0, 1) := by decide +kernel
theorem dX6_lowerStore_91 : decode cX6_lowerStore 91 = .ok (.bipush 15, 2) := by decide +kernel
theorem dX6_lowerStore_93 : decode cX6_lowerStore 93 = .ok (.iload 4, 2) := by decide +kernel
theorem dX6_lowerStore_95 : decode cX6_lowerStore 95 = .ok (.iload 5, 2) := by decide +kernel
theorem dX6_lowerStore_97 : decode cX6_lowerStore 97 = .ok (.iconst 0, 1) := by decide +kernel
theorem dX6_lowerStore_98 : decode cX6_lowerStore 98 = .ok (.iconst 0, 1) := by decide +kernel
theorem dX6_lowerStore_99 : decode cX6_lowerStore 99 = .ok (.invokevirtual 208, 3) := by decide +kernel
theorem dX6_lowerStore_102 : decode cX6_lowerStore 102 = .ok (.istore 6, 2) := by decide +kernel
theorem dX6_lowerStore_104 : decode cX6_lowerStore 104 = .ok (.return_, 1) := by decide +kernel
theorem dX6_lowerAll_0 : decode cX6_lowerAll 0 = .ok (.aload_n 0, 1) := by decide +kernel
theorem dX6_lowerAll_1 : decode cX6_lowerAll 1 = .ok (.iconst 0, 1) := by decide +kernel
theorem dX6_lowerAll_2 : decode cX6_lowerAll 2 = .ok (.putfield 199, 3) := by decide +kernel
theorem dX6_lowerAll_5 : decode cX6_lowerAll 5 = .ok (.aload_n 0, 1) := by decide +kernel
theorem dX6_lowerAll_6 : decode cX6_lowerAll 6 = .ok (.bipush 16, 2) := by decide +kernel
theorem dX6_lowerAll_8 : decode cX6_lowerAll 8 = .ok (.putfield 47, 3) := by decide +kernel
theorem dX6_lowerAll_11 : decode cX6_lowerAll 11 = .ok (.aload_n 0, 1) := by decide +kernel
theorem dX6_lowerAll_12 : decode cX6_lowerAll 12 = .ok (.iconst 0, 1) := by decide +kernel
theorem dX6_lowerAll_13 : decode cX6_lowerAll 13 = .ok (.putfield 219, 3) := by decide +kernel
theorem dX6_lowerAll_16 : decode cX6_lowerAll 16 = .ok (.iconst 0, 1) := by decide +kernel
theorem dX6_lowerAll_17 : decode cX6_lowerAll 17 = .ok (.istore_n 3, 1) := by decide +kernel
theorem dX6_lowerAll_18 : decode cX6_lowerAll 18 = .ok (.iload_n 3, 1) := by decide +kernel
theorem dX6_lowerAll_19 : decode cX6_lowerAll 19 = .ok (.bipush 16, 2) := by decide +kernel
theorem dX6_lowerAll_21 : decode cX6_lowerAll 21 = .ok (.if_icmp .ge 16, 3) := by decide +kernel
theorem dX6_lowerAll_24 : decode cX6_lowerAll 24 = .ok (.aload_n 0, 1) := by decide +kernel
theorem dX6_lowerAll_25 : decode cX6_lowerAll 25 = .ok (.getfield 54, 3) := by decide +kernel
theorem dX6_lowerAll_28 : decode cX6_lowerAll 28 = .ok (.iload_n 3, 1) := by decide +kernel
theorem dX6_lowerAll_29 : decode cX6_lowerAll 29 = .ok (.iload_n 3, 1) := by decide +kernel
theorem dX6_lowerAll_30 : decode cX6_lowerAll 30 = .ok (.iastore, 1) := by decide +kernel
theorem dX6_lowerAll_31 : decode cX6_lowerAll 31 = .ok (.iinc 3 1, 3) := by decide +kernel
theorem dX6_lowerAll_34 : decode cX6_lowerAll 34 = .ok (.goto (-16), 3) := by decide +kernel
theorem dX6_lowerAll_37 : decode cX6_lowerAll 37 = .ok (.iload_n 1, 1) := by decide +kernel
theorem dX6_lowerAll_38 : decode cX6_lowerAll 38 = .ok (.istore_n 3, 1) := by decide +kernel
theorem dX6_lowerAll_39 : decode cX6_lowerAll 39 = .ok (.iconst 1, 1) := by decide +kernel
theorem dX6_lowerAll_40 : decode cX6_lowerAll 40 = .ok (.istore 4, 2) := by decide +kernel
theorem dX6_lowerAll_42 : decode cX6_lowerAll 42 = .ok (.iload 4, 2) := by decide +kernel
theorem dX6_lowerAll_44 : decode cX6_lowerAll 44 = .ok (.ifCond .eq 139, 3) := by decide +kernel
theorem dX6_lowerAll_47 : decode cX6_lowerAll 47 = .ok (.iconst 1, 1) := by decide +kernel
theorem dX6_lowerAll_48 : decode cX6_lowerAll 48 = .ok (.istore 5, 2) := by decide +kernel
theorem dX6_lowerAll_50 : decode cX6_lowerAll 50 = .ok (.iload 5, 2) := by decide +kernel
theorem dX6_lowerAll_52 : decode cX6_lowerAll 52 = .ok (.ifCond .eq 103, 3) := by decide +kernel
theorem dX6_lowerAll_55 : decode cX6_lowerAll 55 = .ok (.aload_n 0, 1) := by decide +kernel
theorem dX6_lowerAll_56 : decode cX6_lowerAll 56 = .ok (.getfield 219, 3) := by decide +kernel
theorem dX6_lowerAll_59 : decode cX6_lowerAll 59 = .ok (.ifCond .le 96, 3) := by decide +kernel
theorem dX6_lowerAll_62 : decode cX6_lowerAll 62 = .ok (.aload_n 0, 1) := by decide +kernel
theorem dX6_lowerAll_63 : decode cX6_lowerAll 63 = .ok (.getfield 219, 3) := by decide +kernel
theorem dX6_lowerAll_66 : decode cX6_lowerAll 66 = .ok (.iconst 1, 1) := by decide +kernel
theorem dX6_lowerAll_67 : decode cX6_lowerAll 67 = .ok (.isub, 1) := by decide +kernel
theorem dX6_lowerAll_68 : decode cX6_lowerAll 68 = .ok (.istore 6, 2) := by decide +kernel
theorem dX6_lowerAll_70 : decode cX6_lowerAll 70 = .ok (.aload_n 0, 1) := by decide +kernel
theorem dX6_lowerAll_71 : decode cX6_lowerAll 71 = .ok (.getfield 57, 3) := by decide +kernel
theorem dX6_lowerAll_74 : decode cX6_lowerAll 74 = .ok (.iload 6, 2) := by decide +kernel
theorem dX6_lowerAll_76 : decode cX6_lowerAll 76 = .ok (.iaload, 1) := by decide +kernel
theorem dX6_lowerAll_77 : decode cX6_lowerAll 77 = .ok (.istore 7, 2) := by decide +kernel
theorem dX6_lowerAll_79 : decode cX6_lowerAll 79 = .ok (.iload_n 3, 1) := by decide +kernel
theorem dX6_lowerAll_80 : decode cX6_lowerAll 80 = .ok (.aload_n 0, 1) := by decide +kernel
theorem dX6_lowerAll_81 : decode cX6_lowerAll 81 = .ok (.getfield 60, 3) := by decide +kernel
theorem dX6_lowerAll_84 : decode cX6_lowerAll 84 = .ok (.iload 6, 2) := by decide +kernel
theorem dX6_lowerAll_86 : decode cX6_lowerAll 86 = .ok (.baload, 1) := by decide +kernel
theorem dX6_lowerAll_87 : decode cX6_lowerAll 87 = .ok (.ifCond .eq 13, 3) := by decide +kernel
theorem dX6_lowerAll_90 : decode cX6_lowerAll 90 = .ok (.aload_n 0, 1) := by decide +kernel
theorem dX6_lowerAll_91 : decode cX6_lowerAll 91 = .ok (.getfield 34, 3) := by decide +kernel
theorem dX6_lowerAll_94 : decode cX6_lowerAll 94 = .ok (.iload 7, 2) := by decide +kernel
theorem dX6_lowerAll_96 : decode cX6_lowerAll 96 = .ok (.iaload, 1) := by decide +kernel
theorem dX6_lowerAll_97 : decode cX6_lowerAll 97 = .ok (.goto 10, 3) := by decide +kernel
theorem dX6_lowerAll_100 : decode cX6_lowerAll 100 = .ok (.aload_n 0, 1) := by decide +kernel
theorem dX6_lowerAll_101 : decode cX6_lowerAll 101 = .ok (.getfield 31, 3) := by decide +kernel
theorem dX6_lowerAll_104 : decode cX6_lowerAll 104 = .ok (.iload 7, 2) := by decide +kernel
theorem dX6_lowerAll_106 : decode cX6_lowerAll 106 = .ok (.iaload, 1) := by decide +kernel
theorem dX6_lowerAll_107 : decode cX6_lowerAll 107 = .ok (.if_icmp .ne 7, 3) := by decide +kernel
theorem dX6_lowerAll_110 : decode cX6_lowerAll 110 = .ok (.iconst 1, 1) := by decide +kernel
theorem dX6_lowerAll_111 : decode cX6_lowerAll 111 = .ok (.goto 4, 3) := by decide +kernel
theorem dX6_lowerAll_114 : decode cX6_lowerAll 114 = .ok (.iconst 0, 1) := by decide +kernel
theorem dX6_lowerAll_115 : decode cX6_lowerAll 115 = .ok (.istore 5, 2) := by decide +kernel
theorem dX6_lowerAll_117 : decode cX6_lowerAll 117 = .ok (.iload 5, 2) := by decide +kernel
theorem dX6_lowerAll_119 : decode cX6_lowerAll 119 = .ok (.ifCond .eq 22, 3) := by decide +kernel
theorem dX6_lowerAll_122 : decode cX6_lowerAll 122 = .ok (.aload_n 0, 1) := by decide +kernel
theorem dX6_lowerAll_123 : decode cX6_lowerAll 123 = .ok (.getfield 60, 3) := by decide +kernel
theorem dX6_lowerAll_126 : decode cX6_lowerAll 126 = .ok (.iload 6, 2) := by decide +kernel
theorem dX6_lowerAll_128 : decode cX6_lowerAll 128 = .ok (.baload, 1) := by decide +kernel
theorem dX6_lowerAll_129 : decode cX6_lowerAll 129 = .ok (.ifCond .eq 12, 3) := by decide +kernel
theorem dX6_lowerAll_132 : decode cX6_lowerAll 132 = .ok (.aload_n 0, 1) := by decide +kernel
theorem dX6_lowerAll_133 : decode cX6_lowerAll 133 = .ok (.iload 6, 2) := by decide +kernel
theorem dX6_lowerAll_135 : decode cX6_lowerAll 135 = .ok (.invokevirtual 251, 3) := by decide +kernel
theorem dX6_lowerAll_138 : decode cX6_lowerAll 138 = .ok (.goto 14, 3) := by decide +kernel
theorem dX6_lowerAll_141 : decode cX6_lowerAll 141 = .ok (.iload 5, 2) := by decide +kernel
theorem dX6_lowerAll_143 : decode cX6_lowerAll 143 = .ok (.ifCond .eq 9, 3) := by decide +kernel
theorem dX6_lowerAll_146 : decode cX6_lowerAll 146 = .ok (.aload_n 0, 1) := by decide +kernel
theorem dX6_lowerAll_147 : decode cX6_lowerAll 147 = .ok (.iload 6, 2) := by decide +kernel
theorem dX6_lowerAll_149 : decode cX6_lowerAll 149 = .ok (.invokevirtual 254, 3) := by decide +kernel
theorem dX6_lowerAll_152 : decode cX6_lowerAll 152 = .ok (.goto (-102), 3) := by decide +kernel
theorem dX6_lowerAll_155 : decode cX6_lowerAll 155 = .ok (.iload_n 3, 1) := by decide +kernel
theorem dX6_lowerAll_156 : decode cX6_lowerAll 156 = .ok (.iload_n 2, 1) := by decide +kernel
theorem dX6_lowerAll_157 : decode cX6_lowerAll 157 = .ok (.if_icmp .ge 7, 3) := by decide +kernel
theorem dX6_lowerAll_160 : decode cX6_lowerAll 160 = .ok (.iconst 1, 1) := by decide +kernel
theorem dX6_lowerAll_161 : decode cX6_lowerAll 161 = .ok (.goto 4, 3) := by decide +kernel
theorem dX6_lowerAll_164 : decode cX6_lowerAll 164 = .ok (.iconst 0, 1) := by decide +kernel
theorem dX6_lowerAll_165 : decode cX6_lowerAll 165 = .ok (.istore 4, 2) := by decide +kernel
theorem dX6_lowerAll_167 : decode cX6_lowerAll 167 = .ok (.iload 4, 2) := by decide +kernel
theorem dX6_lowerAll_169 : decode cX6_lowerAll 169 = .ok (.ifCond .eq 11, 3) := by decide +kernel
theorem dX6_lowerAll_172 : decode cX6_lowerAll 172 = .ok (.aload_n 0, 1) := by decide +kernel
theorem dX6_lowerAll_173 : decode cX6_lowerAll 173 = .ok (.iload_n 3, 1) := by decide +kernel
theorem dX6_lowerAll_174 : decode cX6_lowerAll 174 = .ok (.invokevirtual 257, 3) := by decide +kernel
theorem dX6_lowerAll_177 : decode cX6_lowerAll 177 = .ok (.iinc 3 1, 3) := by decide +kernel
theorem dX6_lowerAll_180 : decode cX6_lowerAll 180 = .ok (.goto (-138), 3) := by decide +kernel
theorem dX6_lowerAll_183 : decode cX6_lowerAll 183 = .ok (.return_, 1) := by decide +kernel
theorem dX6_mayConvert_0 : decode cX6_mayConvert 0 = .ok (.iconst 1, 1) := by decide +kernel
theorem dX6_mayConvert_1 : decode cX6_mayConvert 1 = .ok (.istore_n 3, 1) := by decide +kernel
theorem dX6_mayConvert_2 : decode cX6_mayConvert 2 = .ok (.iload_n 1, 1) := by decide +kernel
theorem dX6_mayConvert_3 : decode cX6_mayConvert 3 = .ok (.iconst 1, 1) := by decide +kernel
theorem dX6_mayConvert_4 : decode cX6_mayConvert 4 = .ok (.iadd, 1) := by decide +kernel
theorem dX6_mayConvert_5 : decode cX6_mayConvert 5 = .ok (.istore 4, 2) := by decide +kernel
theorem dX6_mayConvert_7 : decode cX6_mayConvert 7 = .ok (.iload 4, 2) := by decide +kernel
theorem dX6_mayConvert_9 : decode cX6_mayConvert 9 = .ok (.aload_n 0, 1) := by decide +kernel
theorem dX6_mayConvert_10 : decode cX6_mayConvert 10 = .ok (.getfield 34, 3) := by decide +kernel
theorem dX6_mayConvert_13 : decode cX6_mayConvert 13 = .ok (.iload_n 1, 1) := by decide +kernel
theorem dX6_mayConvert_14 : decode cX6_mayConvert 14 = .ok (.iaload, 1) := by decide +kernel
theorem dX6_mayConvert_15 : decode cX6_mayConvert 15 = .ok (.if_icmp .ge 51, 3) := by decide +kernel
theorem dX6_mayConvert_18 : decode cX6_mayConvert 18 = .ok (.iload_n 3, 1) := by decide +kernel
theorem dX6_mayConvert_19 : decode cX6_mayConvert 19 = .ok (.ifCond .eq 39, 3) := by decide +kernel
theorem dX6_mayConvert_22 : decode cX6_mayConvert 22 = .ok (.aload_n 0, 1) := by decide +kernel
theorem dX6_mayConvert_23 : decode cX6_mayConvert 23 = .ok (.iload 4, 2) := by decide +kernel
theorem dX6_mayConvert_25 : decode cX6_mayConvert 25 = .ok (.iconst 0, 1) := by decide +kernel
theorem dX6_mayConvert_26 : decode cX6_mayConvert 26 = .ok (.invokevirtual 212, 3) := by decide +kernel
theorem dX6_mayConvert_29 : decode cX6_mayConvert 29 = .ok (.iconst 4, 1) := by decide +kernel
theorem dX6_mayConvert_30 : decode cX6_mayConvert 30 = .ok (.if_icmp .eq 28, 3) := by decide +kernel
theorem dX6_mayConvert_33 : decode cX6_mayConvert 33 = .ok (.aload_n 0, 1) := by decide +kernel
theorem dX6_mayConvert_34 : decode cX6_mayConvert 34 = .ok (.iload 4, 2) := by decide +kernel
theorem dX6_mayConvert_36 : decode cX6_mayConvert 36 = .ok (.iconst 0, 1) := by decide +kernel
theorem dX6_mayConvert_37 : decode cX6_mayConvert 37 = .ok (.invokevirtual 212, 3) := by decide +kernel
theorem dX6_mayConvert_40 : decode cX6_mayConvert 40 = .ok (.iconst 5, 1) := by decide +kernel
theorem dX6_mayConvert_41 : decode cX6_mayConvert 41 = .ok (.if_icmp .ne 13, 3) := by decide +kernel
theorem dX6_mayConvert_44 : decode cX6_mayConvert 44 = .ok (.aload_n 0, 1) := by decide +kernel
theorem dX6_mayConvert_45 : decode cX6_mayConvert 45 = .ok (.getfield 51, 3) := by decide +kernel
theorem dX6_mayConvert_48 : decode cX6_mayConvert 48 = .ok (.iload 4, 2) := by decide +kernel
theorem dX6_mayConvert_50 : decode cX6_mayConvert 50 = .ok (.baload, 1) := by decide +kernel
theorem dX6_mayConvert_51 : decode cX6_mayConvert 51 = .ok (.ifCond .eq 7, 3) := by decide +kernel
theorem dX6_mayConvert_54 : decode cX6_mayConvert 54 = .ok (.iconst 1, 1) := by decide +kernel
theorem dX6_mayConvert_55 : decode cX6_mayConvert 55 = .ok (.goto 4, 3) := by decide +kernel
theorem dX6_mayConvert_58 : decode cX6_mayConvert 58 = .ok (.iconst 0, 1) := by decide +kernel
theorem dX6_mayConvert_59 : decode cX6_mayConvert 59 = .ok (.istore_n 3, 1) := by decide +kernel
theorem dX6_mayConvert_60 : decode cX6_mayConvert 60 = .ok (.iinc 4 1, 3) := by decide +kernel
theorem dX6_mayConvert_63 : decode cX6_mayConvert 63 = .ok (.goto (-56), 3) := by decide +kernel
theorem dX6_mayConvert_66 : decode cX6_mayConvert 66 = .ok (.iload_n 3, 1) := by decide +kernel
theorem dX6_mayConvert_67 : decode cX6_mayConvert 67 = .ok (.ifCond .ne 5, 3) := by decide +kernel
theorem dX6_mayConvert_70 : decode cX6_mayConvert 70 = .ok (.iconst 0, 1) := by decide +kernel
theorem dX6_mayConvert_71 : decode cX6_mayConvert 71 = .ok (.ireturn, 1) := by decide +kernel
theorem dX6_mayConvert_72 : decode cX6_mayConvert 72 = .ok (.aload_n 0, 1) := by decide +kernel
theorem dX6_mayConvert_73 : decode cX6_mayConvert 73 = .ok (.getfield 51, 3) := by decide +kernel
theorem dX6_mayConvert_76 : decode cX6_mayConvert 76 = .ok (.iload_n 1, 1) := by decide +kernel
theorem dX6_mayConvert_77 : decode cX6_mayConvert 77 = .ok (.iconst 1, 1) := by decide +kernel
theorem dX6_mayConvert_78 : decode cX6_mayConvert 78 = .ok (.bastore, 1) := by decide +kernel
theorem dX6_mayConvert_79 : decode cX6_mayConvert 79 = .ok (.aload_n 0, 1) := by decide +kernel
theorem dX6_mayConvert_80 : decode cX6_mayConvert 80 = .ok (.iload_n 1, 1) := by decide +kernel
theorem dX6_mayConvert_81 : decode cX6_mayConvert 81 = .ok (.aload_n 0, 1) := by decide +kernel
theorem dX6_mayConvert_82 : decode cX6_mayConvert 82 = .ok (.getfield 34, 3) := by decide +kernel
theorem dX6_mayConvert_85 : decode cX6_mayConvert 85 = .ok (.iload_n 1, 1) := by decide +kernel
theorem dX6_mayConvert_86 : decode cX6_mayConvert 86 = .ok (.iaload, 1) := by decide +kernel
theorem dX6_mayConvert_87 : decode cX6_mayConvert 87 = .ok (.invokevirtual 260, 3) := by decide +kernel
theorem dX6_mayConvert_90 : decode cX6_mayConvert 90 = .ok (.aload_n 0, 1) := by decide +kernel
theorem dX6_mayConvert_91 : decode cX6_mayConvert 91 = .ok (.getfield 199, 3) := by decide +kernel
theorem dX6_mayConvert_94 : decode cX6_mayConvert 94 = .ok (.iload_n 2, 1) := by decide +kernel
theorem dX6_mayConvert_95 : decode cX6_mayConvert 95 = .ok (.if_icmp .gt 7, 3) := by decide +kernel
theorem dX6_mayConvert_98 : decode cX6_mayConvert 98 = .ok (.iconst 1, 1) := by decide +kernel
theorem dX6_mayConvert_99 : decode cX6_mayConvert 99 = .ok (.goto 4, 3) := by decide +kernel
theorem dX6_mayConvert_102 : decode cX6_mayConvert 102 = .ok (.iconst 0, 1) := by decide +kernel
theorem dX6_mayConvert_103 : decode cX6_mayConvert 103 = .ok (.ireturn, 1) := by decide +kernel
theorem dX6_lower_0 : decode cX6_lower 0 = .ok (.aload_n 0, 1) := by decide +kernel
theorem dX6_lower_1 : decode cX6_lower 1 = .ok (.iload_n 1, 1) := by decide +kernel
theorem dX6_lower_2 : decode cX6_lower 2 = .ok (.i2l, 1) := by decide +kernel
theorem dX6_lower_3 : decode cX6_lower 3 = .ok (.lconst 0, 1) := by decide +kernel
theorem dX6_lower_4 : decode cX6_lower 4 = .ok (.ldc2_w 263, 3) := by decide +kernel
theorem dX6_lower_7 : decode cX6_lower 7 = .ok (.invokestatic 107, 3) := by decide +kernel
theorem dX6_lower_10 : decode cX6_lower 10 = .ok (.iconst 1, 1) := by decide +kernel
theorem dX6_lower_11 : decode cX6_lower 11 = .ok (.invokevirtual 111, 3) := by decide +kernel
theorem dX6_lower_14 : decode cX6_lower 14 = .ok (.ifCond .ne 5, 3) := by decide +kernel
theorem dX6_lower_17 : decode cX6_lower 17 = .ok (.iconst 0, 1) := by decide +kernel
theorem dX6_lower_18 : decode cX6_lower 18 = .ok (.ireturn, 1) := by decide +kernel
theorem dX6_lower_19 : decode cX6_lower 19 = .ok (.aload_n 0, 1) := by decide +kernel
theorem dX6_lower_20 : decode cX6_lower 20 = .ok (.getfield 192, 3) := by decide +kernel
theorem dX6_lower_23 : decode cX6_lower 23 = .ok (.iconst 1, 1) := by decide +kernel
theorem dX6_lower_24 : decode cX6_lower 24 = .ok (.isub, 1) := by decide +kernel
theorem dX6_lower_25 : decode cX6_lower 25 = .ok (.istore_n 2, 1) := by decide +kernel
theorem dX6_lower_26 : decode cX6_lower 26 = .ok (.iload_n 2, 1) := by decide +kernel
theorem dX6_lower_27 : decode cX6_lower 27 = .ok (.ifCond .lt 39, 3) := by decide +kernel
theorem dX6_lower_30 : decode cX6_lower 30 = .ok (.aload_n 0, 1) := by decide +kernel
theorem dX6_lower_31 : decode cX6_lower 31 = .ok (.getfield 51, 3) := by decide +kernel
theorem dX6_lower_34 : decode cX6_lower 34 = .ok (.iload_n 2, 1) := by decide +kernel
theorem dX6_lower_35 : decode cX6_lower 35 = .ok (.aload_n 0, 1) := by decide +kernel
theorem dX6_lower_36 : decode cX6_lower 36 = .ok (.iload_n 2, 1) := by decide +kernel
theorem dX6_lower_37 : decode cX6_lower 37 = .ok (.iconst 0, 1) := by decide +kernel
theorem dX6_lower_38 : decode cX6_lower 38 = .ok (.invokevirtual 212, 3) := by decide +kernel
theorem dX6_lower_41 : decode cX6_lower 41 = .ok (.iconst 5, 1) := by decide +kernel
theorem dX6_lower_42 : decode cX6_lower 42 = .ok (.if_icmp .ne 16, 3) := by decide +kernel
theorem dX6_lower_45 : decode cX6_lower 45 = .ok (.aload_n 0, 1) := by decide +kernel
theorem dX6_lower_46 : decode cX6_lower 46 = .ok (.iload_n 2, 1) := by decide +kernel
theorem dX6_lower_47 : decode cX6_lower 47 = .ok (.iload_n 1, 1) := by decide +kernel
theorem dX6_lower_48 : decode cX6_lower 48 = .ok (.invokevirtual 265, 3) := by decide +kernel
theorem dX6_lower_51 : decode cX6_lower 51 = .ok (.ifCond .eq 7, 3) := by decide +kernel
theorem dX6_lower_54 : decode cX6_lower 54 = .ok (.iconst 1, 1) := by decide +kernel
theorem dX6_lower_55 : decode cX6_lower 55 = .ok (.goto 4, 3) := by decide +kernel
theorem dX6_lower_58 : decode cX6_lower 58 = .ok (.iconst 0, 1) := by decide +kernel
theorem dX6_lower_59 : decode cX6_lower 59 = .ok (.bastore, 1) := by decide +kernel
theorem dX6_lower_60 : decode cX6_lower 60 = .ok (.iinc 2 (-1), 3) := by decide +kernel
theorem dX6_lower_63 : decode cX6_lower 63 = .ok (.goto (-37), 3) := by decide +kernel
theorem dX6_lower_66 : decode cX6_lower 66 = .ok (.aload_n 0, 1) := by decide +kernel
theorem dX6_lower_67 : decode cX6_lower 67 = .ok (.iconst 0, 1) := by decide +kernel
theorem dX6_lower_68 : decode cX6_lower 68 = .ok (.aload_n 0, 1) := by decide +kernel
theorem dX6_lower_69 : decode cX6_lower 69 = .ok (.getfield 192, 3) := by decide +kernel
theorem dX6_lower_72 : decode cX6_lower 72 = .ok (.invokevirtual 260, 3) := by decide +kernel
theorem dX6_lower_75 : decode cX6_lower 75 = .ok (.aload_n 0, 1) := by decide +kernel
theorem dX6_lower_76 : decode cX6_lower 76 = .ok (.iconst 1, 1) := by decide +kernel
theorem dX6_lower_77 : decode cX6_lower 77 = .ok (.putfield 195, 3) := by decide +kernel
theorem dX6_lower_80 : decode cX6_lower 80 = .ok (.aload_n 0, 1) := by decide +kernel
theorem dX6_lower_81 : decode cX6_lower 81 = .ok (.getfield 199, 3) := by decide +kernel
theorem dX6_lower_84 : decode cX6_lower 84 = .ok (.ireturn, 1) := by decide +kernel
theorem dX6_names_0 : decode cX6_names 0 = .ok (.bipush 6, 2) := by decide +kernel
theorem dX6_names_2 : decode cX6_names 2 = .ok (.iload_n 1, 1) := by decide +kernel
theorem dX6_names_3 : decode cX6_names 3 = .ok (.imul, 1) := by decide +kernel
theorem dX6_names_4 : decode cX6_names 4 = .ok (.istore_n 3, 1) := by decide +kernel
theorem dX6_names_5 : decode cX6_names 5 = .ok (.aload_n 0, 1) := by decide +kernel
theorem dX6_names_6 : decode cX6_names 6 = .ok (.getfield 44, 3) := by decide +kernel
theorem dX6_names_9 : decode cX6_names 9 = .ok (.iload_n 3, 1) := by decide +kernel
theorem dX6_names_10 : decode cX6_names 10 = .ok (.iaload, 1) := by decide +kernel
theorem dX6_names_11 : decode cX6_names 11 = .ok (.istore 4, 2) := by decide +kernel
theorem dX6_names_13 : decode cX6_names 13 = .ok (.iload 4, 2) := by decide +kernel
theorem dX6_names_15 : decode cX6_names 15 = .ok (.tableswitch 199 0 18 #[89, 139, 199, 199, 199, 199, 199, 199, 199, 199, 199, 199, 199, 157, 139, 109, 89, 91, 91], 89) := by decide +kernel
theorem dX6_names_104 : decode cX6_names 104 = .ok (.iconst 0, 1) := by decide +kernel
theorem dX6_names_105 : decode cX6_names 105 = .ok (.ireturn, 1) := by decide +kernel
theorem dX6_names_106 : decode cX6_names 106 = .ok (.aload_n 0, 1) := by decide +kernel
theorem dX6_names_107 : decode cX6_names 107 = .ok (.getfield 44, 3) := by decide +kernel
theorem dX6_names_110 : decode cX6_names 110 = .ok (.iload_n 3, 1) := by decide +kernel
theorem dX6_names_111 : decode cX6_names 111 = .ok (.iconst 1, 1) := by decide +kernel
theorem dX6_names_112 : decode cX6_names 112 = .ok (.iadd, 1) := by decide +kernel
theorem dX6_names_113 : decode cX6_names 113 = .ok (.iaload, 1) := by decide +kernel
theorem dX6_names_114 : decode cX6_names 114 = .ok (.iload_n 2, 1) := by decide +kernel
theorem dX6_names_115 : decode cX6_names 115 = .ok (.if_icmp .ne 7, 3) := by decide +kernel
theorem dX6_names_118 : decode cX6_names 118 = .ok (.iconst 1, 1) := by decide +kernel
theorem dX6_names_119 : decode cX6_names 119 = .ok (.goto 4, 3) := by decide +kernel
theorem dX6_names_122 : decode cX6_names 122 = .ok (.iconst 0, 1) := by decide +kernel
theorem dX6_names_123 : decode cX6_names 123 = .ok (.ireturn, 1) := by decide +kernel
theorem dX6_names_124 : decode cX6_names 124 = .ok (.aload_n 0, 1) := by decide +kernel
theorem dX6_names_125 : decode cX6_names 125 = .ok (.getfield 44, 3) := by decide +kernel
theorem dX6_names_128 : decode cX6_names 128 = .ok (.iload_n 3, 1) := by decide +kernel
theorem dX6_names_129 : decode cX6_names 129 = .ok (.iconst 1, 1) := by decide +kernel
theorem dX6_names_130 : decode cX6_names 130 = .ok (.iadd, 1) := by decide +kernel
theorem dX6_names_131 : decode cX6_names 131 = .ok (.iaload, 1) := by decide +kernel
theorem dX6_names_132 : decode cX6_names 132 = .ok (.iload_n 2, 1) := by decide +kernel
theorem dX6_names_133 : decode cX6_names 133 = .ok (.if_icmp .eq 15, 3) := by decide +kernel
theorem dX6_names_136 : decode cX6_names 136 = .ok (.aload_n 0, 1) := by decide +kernel
theorem dX6_names_137 : decode cX6_names 137 = .ok (.getfield 44, 3) := by decide +kernel
theorem dX6_names_140 : decode cX6_names 140 = .ok (.iload_n 3, 1) := by decide +kernel
theorem dX6_names_141 : decode cX6_names 141 = .ok (.iconst 2, 1) := by decide +kernel
theorem dX6_names_142 : decode cX6_names 142 = .ok (.iadd, 1) := by decide +kernel
theorem dX6_names_143 : decode cX6_names 143 = .ok (.iaload, 1) := by decide +kernel
theorem dX6_names_144 : decode cX6_names 144 = .ok (.iload_n 2, 1) := by decide +kernel
theorem dX6_names_145 : decode cX6_names 145 = .ok (.if_icmp .ne 7, 3) := by decide +kernel
theorem dX6_names_148 : decode cX6_names 148 = .ok (.iconst 1, 1) := by decide +kernel
theorem dX6_names_149 : decode cX6_names 149 = .ok (.goto 4, 3) := by decide +kernel
theorem dX6_names_152 : decode cX6_names 152 = .ok (.iconst 0, 1) := by decide +kernel
theorem dX6_names_153 : decode cX6_names 153 = .ok (.ireturn, 1) := by decide +kernel
theorem dX6_names_154 : decode cX6_names 154 = .ok (.aload_n 0, 1) := by decide +kernel
theorem dX6_names_155 : decode cX6_names 155 = .ok (.getfield 44, 3) := by decide +kernel
theorem dX6_names_158 : decode cX6_names 158 = .ok (.iload_n 3, 1) := by decide +kernel
theorem dX6_names_159 : decode cX6_names 159 = .ok (.iconst 2, 1) := by decide +kernel
theorem dX6_names_160 : decode cX6_names 160 = .ok (.iadd, 1) := by decide +kernel
theorem dX6_names_161 : decode cX6_names 161 = .ok (.iaload, 1) := by decide +kernel
theorem dX6_names_162 : decode cX6_names 162 = .ok (.iload_n 2, 1) := by decide +kernel
theorem dX6_names_163 : decode cX6_names 163 = .ok (.if_icmp .ne 7, 3) := by decide +kernel
theorem dX6_names_166 : decode cX6_names 166 = .ok (.iconst 1, 1) := by decide +kernel
theorem dX6_names_167 : decode cX6_names 167 = .ok (.goto 4, 3) := by decide +kernel
theorem dX6_names_170 : decode cX6_names 170 = .ok (.iconst 0, 1) := by decide +kernel
theorem dX6_names_171 : decode cX6_names 171 = .ok (.ireturn, 1) := by decide +kernel
theorem dX6_names_172 : decode cX6_names 172 = .ok (.aload_n 0, 1) := by decide +kernel
theorem dX6_names_173 : decode cX6_names 173 = .ok (.getfield 44, 3) := by decide +kernel
theorem dX6_names_176 : decode cX6_names 176 = .ok (.iload_n 3, 1) := by decide +kernel
theorem dX6_names_177 : decode cX6_names 177 = .ok (.iconst 2, 1) := by decide +kernel
theorem dX6_names_178 : decode cX6_names 178 = .ok (.iadd, 1) := by decide +kernel
theorem dX6_names_179 : decode cX6_names 179 = .ok (.iaload, 1) := by decide +kernel
theorem dX6_names_180 : decode cX6_names 180 = .ok (.iload_n 2, 1) := by decide +kernel
theorem dX6_names_181 : decode cX6_names 181 = .ok (.if_icmp .eq 27, 3) := by decide +kernel
theorem dX6_names_184 : decode cX6_names 184 = .ok (.aload_n 0, 1) := by decide +kernel
theorem dX6_names_185 : decode cX6_names 185 = .ok (.getfield 44, 3) := by decide +kernel
theorem dX6_names_188 : decode cX6_names 188 = .ok (.iload_n 3, 1) := by decide +kernel
theorem dX6_names_189 : decode cX6_names 189 = .ok (.iconst 3, 1) := by decide +kernel
theorem dX6_names_190 : decode cX6_names 190 = .ok (.iadd, 1) := by decide +kernel
theorem dX6_names_191 : decode cX6_names 191 = .ok (.iaload, 1) := by decide +kernel
end
section
theorem dX6_names_192 : decode cX6_names 192 = .ok (.iload_n 2, 1) := by decide +kernel
theorem dX6_names_193 : decode cX6_names 193 = .ok (.if_icmp .eq 15, 3) := by decide +kernel
theorem dX6_names_196 : decode cX6_names 196 = .ok (.aload_n 0, 1) := by decide +kernel
theorem dX6_names_197 : decode cX6_names 197 = .ok (.getfield 44, 3) := by decide +kernel
theorem dX6_names_200 : decode cX6_names 200 = .ok (.iload_n 3, 1) := by decide +kernel
theorem dX6_names_201 : decode cX6_names 201 = .ok (.iconst 4, 1) := by decide +kernel
theorem dX6_names_202 : decode cX6_names 202 = .ok (.iadd, 1) := by decide +kernel
theorem dX6_names_203 : decode cX6_names 203 = .ok (.iaload, 1) := by decide +kernel
theorem dX6_names_204 : decode cX6_names 204 = .ok (.iload_n 2, 1) := by decide +kernel
theorem dX6_names_205 : decode cX6_names 205 = .ok (.if_icmp .ne 7, 3) := by decide +kernel
theorem dX6_names_208 : decode cX6_names 208 = .ok (.iconst 1, 1) := by decide +kernel
theorem dX6_names_209 : decode cX6_names 209 = .ok (.goto 4, 3) := by decide +kernel
theorem dX6_names_212 : decode cX6_names 212 = .ok (.iconst 0, 1) := by decide +kernel
theorem dX6_names_213 : decode cX6_names 213 = .ok (.ireturn, 1) := by decide +kernel
theorem dX6_names_214 : decode cX6_names 214 = .ok (.aload_n 0, 1) := by decide +kernel
theorem dX6_names_215 : decode cX6_names 215 = .ok (.getfield 44, 3) := by decide +kernel
theorem dX6_names_218 : decode cX6_names 218 = .ok (.iload_n 3, 1) := by decide +kernel
theorem dX6_names_219 : decode cX6_names 219 = .ok (.iconst 2, 1) := by decide +kernel
theorem dX6_names_220 : decode cX6_names 220 = .ok (.iadd, 1) := by decide +kernel
theorem dX6_names_221 : decode cX6_names 221 = .ok (.iaload, 1) := by decide +kernel
theorem dX6_names_222 : decode cX6_names 222 = .ok (.iload_n 2, 1) := by decide +kernel
theorem dX6_names_223 : decode cX6_names 223 = .ok (.if_icmp .eq 15, 3) := by decide +kernel
theorem dX6_names_226 : decode cX6_names 226 = .ok (.aload_n 0, 1) := by decide +kernel
theorem dX6_names_227 : decode cX6_names 227 = .ok (.getfield 44, 3) := by decide +kernel
theorem dX6_names_230 : decode cX6_names 230 = .ok (.iload_n 3, 1) := by decide +kernel
theorem dX6_names_231 : decode cX6_names 231 = .ok (.iconst 3, 1) := by decide +kernel
theorem dX6_names_232 : decode cX6_names 232 = .ok (.iadd, 1) := by decide +kernel
theorem dX6_names_233 : decode cX6_names 233 = .ok (.iaload, 1) := by decide +kernel
theorem dX6_names_234 : decode cX6_names 234 = .ok (.iload_n 2, 1) := by decide +kernel
theorem dX6_names_235 : decode cX6_names 235 = .ok (.if_icmp .ne 7, 3) := by decide +kernel
theorem dX6_names_238 : decode cX6_names 238 = .ok (.iconst 1, 1) := by decide +kernel
theorem dX6_names_239 : decode cX6_names 239 = .ok (.goto 4, 3) := by decide +kernel
theorem dX6_names_242 : decode cX6_names 242 = .ok (.iconst 0, 1) := by decide +kernel
theorem dX6_names_243 : decode cX6_names 243 = .ok (.ireturn, 1) := by decide +kernel
theorem dX6_isUseless_0 : decode cX6_isUseless 0 = .ok (.aload_n 0, 1) := by decide +kernel
theorem dX6_isUseless_1 : decode cX6_isUseless 1 = .ok (.getfield 44, 3) := by decide +kernel
theorem dX6_isUseless_4 : decode cX6_isUseless 4 = .ok (.bipush 6, 2) := by decide +kernel
theorem dX6_isUseless_6 : decode cX6_isUseless 6 = .ok (.iload_n 1, 1) := by decide +kernel
theorem dX6_isUseless_7 : decode cX6_isUseless 7 = .ok (.imul, 1) := by decide +kernel
theorem dX6_isUseless_8 : decode cX6_isUseless 8 = .ok (.iaload, 1) := by decide +kernel
theorem dX6_isUseless_9 : decode cX6_isUseless 9 = .ok (.istore_n 2, 1) := by decide +kernel
theorem dX6_isUseless_10 : decode cX6_isUseless 10 = .ok (.aload_n 0, 1) := by decide +kernel
theorem dX6_isUseless_11 : decode cX6_isUseless 11 = .ok (.getfield 44, 3) := by decide +kernel
theorem dX6_isUseless_14 : decode cX6_isUseless 14 = .ok (.bipush 6, 2) := by decide +kernel
theorem dX6_isUseless_16 : decode cX6_isUseless 16 = .ok (.iload_n 1, 1) := by decide +kernel
theorem dX6_isUseless_17 : decode cX6_isUseless 17 = .ok (.imul, 1) := by decide +kernel
theorem dX6_isUseless_18 : decode cX6_isUseless 18 = .ok (.iconst 1, 1) := by decide +kernel
theorem dX6_isUseless_19 : decode cX6_isUseless 19 = .ok (.iadd, 1) := by decide +kernel
theorem dX6_isUseless_20 : decode cX6_isUseless 20 = .ok (.iaload, 1) := by decide +kernel
theorem dX6_isUseless_21 : decode cX6_isUseless 21 = .ok (.istore_n 3, 1) := by decide +kernel
theorem dX6_isUseless_22 : decode cX6_isUseless 22 = .ok (.iload_n 2, 1) := by decide +kernel
theorem dX6_isUseless_23 : decode cX6_isUseless 23 = .ok (.bipush 15, 2) := by decide +kernel
theorem dX6_isUseless_25 : decode cX6_isUseless 25 = .ok (.if_icmp .eq 38, 3) := by decide +kernel
theorem dX6_isUseless_28 : decode cX6_isUseless 28 = .ok (.iload_n 2, 1) := by decide +kernel
theorem dX6_isUseless_29 : decode cX6_isUseless 29 = .ok (.bipush 16, 2) := by decide +kernel
theorem dX6_isUseless_31 : decode cX6_isUseless 31 = .ok (.if_icmp .eq 32, 3) := by decide +kernel
theorem dX6_isUseless_34 : decode cX6_isUseless 34 = .ok (.iload_n 2, 1) := by decide +kernel
theorem dX6_isUseless_35 : decode cX6_isUseless 35 = .ok (.bipush 17, 2) := by decide +kernel
theorem dX6_isUseless_37 : decode cX6_isUseless 37 = .ok (.if_icmp .eq 26, 3) := by decide +kernel
theorem dX6_isUseless_40 : decode cX6_isUseless 40 = .ok (.iload_n 2, 1) := by decide +kernel
theorem dX6_isUseless_41 : decode cX6_isUseless 41 = .ok (.bipush 18, 2) := by decide +kernel
theorem dX6_isUseless_43 : decode cX6_isUseless 43 = .ok (.if_icmp .eq 20, 3) := by decide +kernel
theorem dX6_isUseless_46 : decode cX6_isUseless 46 = .ok (.iload_n 2, 1) := by decide +kernel
theorem dX6_isUseless_47 : decode cX6_isUseless 47 = .ok (.iconst 5, 1) := by decide +kernel
theorem dX6_isUseless_48 : decode cX6_isUseless 48 = .ok (.if_icmp .eq 15, 3) := by decide +kernel
theorem dX6_isUseless_51 : decode cX6_isUseless 51 = .ok (.iload_n 2, 1) := by decide +kernel
theorem dX6_isUseless_52 : decode cX6_isUseless 52 = .ok (.bipush 6, 2) := by decide +kernel
theorem dX6_isUseless_54 : decode cX6_isUseless 54 = .ok (.if_icmp .eq 9, 3) := by decide +kernel
theorem dX6_isUseless_57 : decode cX6_isUseless 57 = .ok (.iload_n 2, 1) := by decide +kernel
theorem dX6_isUseless_58 : decode cX6_isUseless 58 = .ok (.bipush 14, 2) := by decide +kernel
theorem dX6_isUseless_60 : decode cX6_isUseless 60 = .ok (.if_icmp .ne 7, 3) := by decide +kernel
theorem dX6_isUseless_63 : decode cX6_isUseless 63 = .ok (.iconst 1, 1) := by decide +kernel
theorem dX6_isUseless_64 : decode cX6_isUseless 64 = .ok (.goto 4, 3) := by decide +kernel
theorem dX6_isUseless_67 : decode cX6_isUseless 67 = .ok (.iconst 0, 1) := by decide +kernel
theorem dX6_isUseless_68 : decode cX6_isUseless 68 = .ok (.istore 4, 2) := by decide +kernel
theorem dX6_isUseless_70 : decode cX6_isUseless 70 = .ok (.aload_n 0, 1) := by decide +kernel
theorem dX6_isUseless_71 : decode cX6_isUseless 71 = .ok (.getfield 81, 3) := by decide +kernel
theorem dX6_isUseless_74 : decode cX6_isUseless 74 = .ok (.iload_n 1, 1) := by decide +kernel
theorem dX6_isUseless_75 : decode cX6_isUseless 75 = .ok (.baload, 1) := by decide +kernel
theorem dX6_isUseless_76 : decode cX6_isUseless 76 = .ok (.ifCond .ne 14, 3) := by decide +kernel
theorem dX6_isUseless_79 : decode cX6_isUseless 79 = .ok (.iload 4, 2) := by decide +kernel
theorem dX6_isUseless_81 : decode cX6_isUseless 81 = .ok (.ifCond .ne 9, 3) := by decide +kernel
theorem dX6_isUseless_84 : decode cX6_isUseless 84 = .ok (.iload_n 3, 1) := by decide +kernel
theorem dX6_isUseless_85 : decode cX6_isUseless 85 = .ok (.bipush 16, 2) := by decide +kernel
theorem dX6_isUseless_87 : decode cX6_isUseless 87 = .ok (.if_icmp .ge 5, 3) := by decide +kernel
theorem dX6_isUseless_90 : decode cX6_isUseless 90 = .ok (.iconst 0, 1) := by decide +kernel
theorem dX6_isUseless_91 : decode cX6_isUseless 91 = .ok (.ireturn, 1) := by decide +kernel
theorem dX6_isUseless_92 : decode cX6_isUseless 92 = .ok (.iconst 0, 1) := by decide +kernel
theorem dX6_isUseless_93 : decode cX6_isUseless 93 = .ok (.istore 5, 2) := by decide +kernel
theorem dX6_isUseless_95 : decode cX6_isUseless 95 = .ok (.iload 5, 2) := by decide +kernel
theorem dX6_isUseless_97 : decode cX6_isUseless 97 = .ok (.aload_n 0, 1) := by decide +kernel
theorem dX6_isUseless_98 : decode cX6_isUseless 98 = .ok (.getfield 199, 3) := by decide +kernel
theorem dX6_isUseless_101 : decode cX6_isUseless 101 = .ok (.if_icmp .ge 37, 3) := by decide +kernel
theorem dX6_isUseless_104 : decode cX6_isUseless 104 = .ok (.iload 5, 2) := by decide +kernel
theorem dX6_isUseless_106 : decode cX6_isUseless 106 = .ok (.iload_n 1, 1) := by decide +kernel
theorem dX6_isUseless_107 : decode cX6_isUseless 107 = .ok (.if_icmp .eq 25, 3) := by decide +kernel
theorem dX6_isUseless_110 : decode cX6_isUseless 110 = .ok (.aload_n 0, 1) := by decide +kernel
theorem dX6_isUseless_111 : decode cX6_isUseless 111 = .ok (.getfield 81, 3) := by decide +kernel
theorem dX6_isUseless_114 : decode cX6_isUseless 114 = .ok (.iload 5, 2) := by decide +kernel
theorem dX6_isUseless_116 : decode cX6_isUseless 116 = .ok (.baload, 1) := by decide +kernel
theorem dX6_isUseless_117 : decode cX6_isUseless 117 = .ok (.ifCond .ne 15, 3) := by decide +kernel
theorem dX6_isUseless_120 : decode cX6_isUseless 120 = .ok (.aload_n 0, 1) := by decide +kernel
theorem dX6_isUseless_121 : decode cX6_isUseless 121 = .ok (.iload 5, 2) := by decide +kernel
theorem dX6_isUseless_123 : decode cX6_isUseless 123 = .ok (.iload_n 3, 1) := by decide +kernel
theorem dX6_isUseless_124 : decode cX6_isUseless 124 = .ok (.invokevirtual 269, 3) := by decide +kernel
theorem dX6_isUseless_127 : decode cX6_isUseless 127 = .ok (.ifCond .eq 5, 3) := by decide +kernel
theorem dX6_isUseless_130 : decode cX6_isUseless 130 = .ok (.iconst 0, 1) := by decide +kernel
theorem dX6_isUseless_131 : decode cX6_isUseless 131 = .ok (.ireturn, 1) := by decide +kernel
theorem dX6_isUseless_132 : decode cX6_isUseless 132 = .ok (.iinc 5 1, 3) := by decide +kernel
theorem dX6_isUseless_135 : decode cX6_isUseless 135 = .ok (.goto (-40), 3) := by decide +kernel
theorem dX6_isUseless_138 : decode cX6_isUseless 138 = .ok (.iconst 1, 1) := by decide +kernel
theorem dX6_isUseless_139 : decode cX6_isUseless 139 = .ok (.ireturn, 1) := by decide +kernel
theorem dX6_trim_0 : decode cX6_trim 0 = .ok (.aload_n 0, 1) := by decide +kernel
theorem dX6_trim_1 : decode cX6_trim 1 = .ok (.iconst 0, 1) := by decide +kernel
theorem dX6_trim_2 : decode cX6_trim 2 = .ok (.putfield 102, 3) := by decide +kernel
theorem dX6_trim_5 : decode cX6_trim 5 = .ok (.iconst 0, 1) := by decide +kernel
theorem dX6_trim_6 : decode cX6_trim 6 = .ok (.istore_n 1, 1) := by decide +kernel
theorem dX6_trim_7 : decode cX6_trim 7 = .ok (.iload_n 1, 1) := by decide +kernel
theorem dX6_trim_8 : decode cX6_trim 8 = .ok (.aload_n 0, 1) := by decide +kernel
theorem dX6_trim_9 : decode cX6_trim 9 = .ok (.getfield 199, 3) := by decide +kernel
theorem dX6_trim_12 : decode cX6_trim 12 = .ok (.if_icmp .ge 16, 3) := by decide +kernel
theorem dX6_trim_15 : decode cX6_trim 15 = .ok (.aload_n 0, 1) := by decide +kernel
theorem dX6_trim_16 : decode cX6_trim 16 = .ok (.getfield 81, 3) := by decide +kernel
theorem dX6_trim_19 : decode cX6_trim 19 = .ok (.iload_n 1, 1) := by decide +kernel
theorem dX6_trim_20 : decode cX6_trim 20 = .ok (.iconst 0, 1) := by decide +kernel
theorem dX6_trim_21 : decode cX6_trim 21 = .ok (.bastore, 1) := by decide +kernel
theorem dX6_trim_22 : decode cX6_trim 22 = .ok (.iinc 1 1, 3) := by decide +kernel
theorem dX6_trim_25 : decode cX6_trim 25 = .ok (.goto (-18), 3) := by decide +kernel
theorem dX6_trim_28 : decode cX6_trim 28 = .ok (.iconst 0, 1) := by decide +kernel
theorem dX6_trim_29 : decode cX6_trim 29 = .ok (.istore_n 1, 1) := by decide +kernel
theorem dX6_trim_30 : decode cX6_trim 30 = .ok (.iconst 1, 1) := by decide +kernel
theorem dX6_trim_31 : decode cX6_trim 31 = .ok (.istore_n 2, 1) := by decide +kernel
theorem dX6_trim_32 : decode cX6_trim 32 = .ok (.iload_n 2, 1) := by decide +kernel
theorem dX6_trim_33 : decode cX6_trim 33 = .ok (.ifCond .eq 44, 3) := by decide +kernel
theorem dX6_trim_36 : decode cX6_trim 36 = .ok (.iconst 0, 1) := by decide +kernel
theorem dX6_trim_37 : decode cX6_trim 37 = .ok (.istore_n 2, 1) := by decide +kernel
theorem dX6_trim_38 : decode cX6_trim 38 = .ok (.iconst 0, 1) := by decide +kernel
theorem dX6_trim_39 : decode cX6_trim 39 = .ok (.istore_n 3, 1) := by decide +kernel
theorem dX6_trim_40 : decode cX6_trim 40 = .ok (.iload_n 3, 1) := by decide +kernel
theorem dX6_trim_41 : decode cX6_trim 41 = .ok (.aload_n 0, 1) := by decide +kernel
theorem dX6_trim_42 : decode cX6_trim 42 = .ok (.getfield 199, 3) := by decide +kernel
theorem dX6_trim_45 : decode cX6_trim 45 = .ok (.if_icmp .ge 29, 3) := by decide +kernel
theorem dX6_trim_48 : decode cX6_trim 48 = .ok (.aload_n 0, 1) := by decide +kernel
theorem dX6_trim_49 : decode cX6_trim 49 = .ok (.iload_n 3, 1) := by decide +kernel
theorem dX6_trim_50 : decode cX6_trim 50 = .ok (.invokevirtual 272, 3) := by decide +kernel
theorem dX6_trim_53 : decode cX6_trim 53 = .ok (.ifCond .eq 15, 3) := by decide +kernel
theorem dX6_trim_56 : decode cX6_trim 56 = .ok (.aload_n 0, 1) := by decide +kernel
theorem dX6_trim_57 : decode cX6_trim 57 = .ok (.getfield 81, 3) := by decide +kernel
theorem dX6_trim_60 : decode cX6_trim 60 = .ok (.iload_n 3, 1) := by decide +kernel
theorem dX6_trim_61 : decode cX6_trim 61 = .ok (.iconst 1, 1) := by decide +kernel
theorem dX6_trim_62 : decode cX6_trim 62 = .ok (.bastore, 1) := by decide +kernel
theorem dX6_trim_63 : decode cX6_trim 63 = .ok (.iinc 1 1, 3) := by decide +kernel
theorem dX6_trim_66 : decode cX6_trim 66 = .ok (.iconst 1, 1) := by decide +kernel
theorem dX6_trim_67 : decode cX6_trim 67 = .ok (.istore_n 2, 1) := by decide +kernel
theorem dX6_trim_68 : decode cX6_trim 68 = .ok (.iinc 3 1, 3) := by decide +kernel
theorem dX6_trim_71 : decode cX6_trim 71 = .ok (.goto (-31), 3) := by decide +kernel
theorem dX6_trim_74 : decode cX6_trim 74 = .ok (.goto (-42), 3) := by decide +kernel
theorem dX6_trim_77 : decode cX6_trim 77 = .ok (.iconst 0, 1) := by decide +kernel
theorem dX6_trim_78 : decode cX6_trim 78 = .ok (.istore_n 3, 1) := by decide +kernel
theorem dX6_trim_79 : decode cX6_trim 79 = .ok (.iload_n 3, 1) := by decide +kernel
theorem dX6_trim_80 : decode cX6_trim 80 = .ok (.aload_n 0, 1) := by decide +kernel
theorem dX6_trim_81 : decode cX6_trim 81 = .ok (.getfield 199, 3) := by decide +kernel
theorem dX6_trim_84 : decode cX6_trim 84 = .ok (.if_icmp .ge 84, 3) := by decide +kernel
theorem dX6_trim_87 : decode cX6_trim 87 = .ok (.aload_n 0, 1) := by decide +kernel
theorem dX6_trim_88 : decode cX6_trim 88 = .ok (.getfield 44, 3) := by decide +kernel
theorem dX6_trim_91 : decode cX6_trim 91 = .ok (.bipush 6, 2) := by decide +kernel
theorem dX6_trim_93 : decode cX6_trim 93 = .ok (.iload_n 3, 1) := by decide +kernel
theorem dX6_trim_94 : decode cX6_trim 94 = .ok (.imul, 1) := by decide +kernel
theorem dX6_trim_95 : decode cX6_trim 95 = .ok (.iaload, 1) := by decide +kernel
theorem dX6_trim_96 : decode cX6_trim 96 = .ok (.bipush 16, 2) := by decide +kernel
theorem dX6_trim_98 : decode cX6_trim 98 = .ok (.if_icmp .ne 7, 3) := by decide +kernel
theorem dX6_trim_101 : decode cX6_trim 101 = .ok (.iconst 1, 1) := by decide +kernel
theorem dX6_trim_102 : decode cX6_trim 102 = .ok (.goto 22, 3) := by decide +kernel
theorem dX6_trim_105 : decode cX6_trim 105 = .ok (.aload_n 0, 1) := by decide +kernel
theorem dX6_trim_106 : decode cX6_trim 106 = .ok (.getfield 44, 3) := by decide +kernel
theorem dX6_trim_109 : decode cX6_trim 109 = .ok (.bipush 6, 2) := by decide +kernel
theorem dX6_trim_111 : decode cX6_trim 111 = .ok (.iload_n 3, 1) := by decide +kernel
theorem dX6_trim_112 : decode cX6_trim 112 = .ok (.imul, 1) := by decide +kernel
theorem dX6_trim_113 : decode cX6_trim 113 = .ok (.iaload, 1) := by decide +kernel
theorem dX6_trim_114 : decode cX6_trim 114 = .ok (.bipush 17, 2) := by decide +kernel
theorem dX6_trim_116 : decode cX6_trim 116 = .ok (.if_icmp .ne 7, 3) := by decide +kernel
theorem dX6_trim_119 : decode cX6_trim 119 = .ok (.iconst 2, 1) := by decide +kernel
theorem dX6_trim_120 : decode cX6_trim 120 = .ok (.goto 4, 3) := by decide +kernel
theorem dX6_trim_123 : decode cX6_trim 123 = .ok (.iconst 0, 1) := by decide +kernel
theorem dX6_trim_124 : decode cX6_trim 124 = .ok (.istore 4, 2) := by decide +kernel
theorem dX6_trim_126 : decode cX6_trim 126 = .ok (.iload 4, 2) := by decide +kernel
theorem dX6_trim_128 : decode cX6_trim 128 = .ok (.ifCond .le 34, 3) := by decide +kernel
theorem dX6_trim_131 : decode cX6_trim 131 = .ok (.aload_n 0, 1) := by decide +kernel
theorem dX6_trim_132 : decode cX6_trim 132 = .ok (.getfield 44, 3) := by decide +kernel
theorem dX6_trim_135 : decode cX6_trim 135 = .ok (.bipush 6, 2) := by decide +kernel
theorem dX6_trim_137 : decode cX6_trim 137 = .ok (.iload_n 3, 1) := by decide +kernel
theorem dX6_trim_138 : decode cX6_trim 138 = .ok (.imul, 1) := by decide +kernel
theorem dX6_trim_139 : decode cX6_trim 139 = .ok (.iload 4, 2) := by decide +kernel
theorem dX6_trim_141 : decode cX6_trim 141 = .ok (.iadd, 1) := by decide +kernel
theorem dX6_trim_142 : decode cX6_trim 142 = .ok (.dup2, 1) := by decide +kernel
theorem dX6_trim_143 : decode cX6_trim 143 = .ok (.iaload, 1) := by decide +kernel
theorem dX6_trim_144 : decode cX6_trim 144 = .ok (.aload_n 0, 1) := by decide +kernel
theorem dX6_trim_145 : decode cX6_trim 145 = .ok (.aload_n 0, 1) := by decide +kernel
theorem dX6_trim_146 : decode cX6_trim 146 = .ok (.getfield 44, 3) := by decide +kernel
theorem dX6_trim_149 : decode cX6_trim 149 = .ok (.bipush 6, 2) := by decide +kernel
theorem dX6_trim_151 : decode cX6_trim 151 = .ok (.iload_n 3, 1) := by decide +kernel
theorem dX6_trim_152 : decode cX6_trim 152 = .ok (.imul, 1) := by decide +kernel
theorem dX6_trim_153 : decode cX6_trim 153 = .ok (.iload 4, 2) := by decide +kernel
theorem dX6_trim_155 : decode cX6_trim 155 = .ok (.iadd, 1) := by decide +kernel
theorem dX6_trim_156 : decode cX6_trim 156 = .ok (.iaload, 1) := by decide +kernel
theorem dX6_trim_157 : decode cX6_trim 157 = .ok (.invokevirtual 275, 3) := by decide +kernel
theorem dX6_trim_160 : decode cX6_trim 160 = .ok (.isub, 1) := by decide +kernel
theorem dX6_trim_161 : decode cX6_trim 161 = .ok (.iastore, 1) := by decide +kernel
theorem dX6_trim_162 : decode cX6_trim 162 = .ok (.iinc 3 1, 3) := by decide +kernel
theorem dX6_trim_165 : decode cX6_trim 165 = .ok (.goto (-86), 3) := by decide +kernel
theorem dX6_trim_168 : decode cX6_trim 168 = .ok (.iconst 0, 1) := by decide +kernel
theorem dX6_trim_169 : decode cX6_trim 169 = .ok (.istore_n 3, 1) := by decide +kernel
theorem dX6_trim_170 : decode cX6_trim 170 = .ok (.iconst 0, 1) := by decide +kernel
theorem dX6_trim_171 : decode cX6_trim 171 = .ok (.istore 4, 2) := by decide +kernel
theorem dX6_trim_173 : decode cX6_trim 173 = .ok (.iload 4, 2) := by decide +kernel
theorem dX6_trim_175 : decode cX6_trim 175 = .ok (.aload_n 0, 1) := by decide +kernel
theorem dX6_trim_176 : decode cX6_trim 176 = .ok (.getfield 199, 3) := by decide +kernel
theorem dX6_trim_179 : decode cX6_trim 179 = .ok (.if_icmp .ge 63, 3) := by decide +kernel
theorem dX6_trim_182 : decode cX6_trim 182 = .ok (.aload_n 0, 1) := by decide +kernel
theorem dX6_trim_183 : decode cX6_trim 183 = .ok (.getfield 81, 3) := by decide +kernel
theorem dX6_trim_186 : decode cX6_trim 186 = .ok (.iload 4, 2) := by decide +kernel
theorem dX6_trim_188 : decode cX6_trim 188 = .ok (.baload, 1) := by decide +kernel
theorem dX6_trim_189 : decode cX6_trim 189 = .ok (.ifCond .ne 47, 3) := by decide +kernel
theorem dX6_trim_192 : decode cX6_trim 192 = .ok (.iconst 0, 1) := by decide +kernel
theorem dX6_trim_193 : decode cX6_trim 193 = .ok (.istore 5, 2) := by decide +kernel
theorem dX6_trim_195 : decode cX6_trim 195 = .ok (.iload 5, 2) := by decide +kernel
theorem dX6_trim_197 : decode cX6_trim 197 = .ok (.bipush 6, 2) := by decide +kernel
theorem dX6_trim_199 : decode cX6_trim 199 = .ok (.if_icmp .ge 34, 3) := by decide +kernel
theorem dX6_trim_202 : decode cX6_trim 202 = .ok (.aload_n 0, 1) := by decide +kernel
theorem dX6_trim_203 : decode cX6_trim 203 = .ok (.getfield 44, 3) := by decide +kernel
theorem dX6_trim_206 : decode cX6_trim 206 = .ok (.bipush 6, 2) := by decide +kernel
theorem dX6_trim_208 : decode cX6_trim 208 = .ok (.iload_n 3, 1) := by decide +kernel
theorem dX6_trim_209 : decode cX6_trim 209 = .ok (.imul, 1) := by decide +kernel
theorem dX6_trim_210 : decode cX6_trim 210 = .ok (.iload 5, 2) := by decide +kernel
theorem dX6_trim_212 : decode cX6_trim 212 = .ok (.iadd, 1) := by decide +kernel
theorem dX6_trim_213 : decode cX6_trim 213 = .ok (.aload_n 0, 1) := by decide +kernel
theorem dX6_trim_214 : decode cX6_trim 214 = .ok (.getfield 44, 3) := by decide +kernel
theorem dX6_trim_217 : decode cX6_trim 217 = .ok (.bipush 6, 2) := by decide +kernel
theorem dX6_trim_219 : decode cX6_trim 219 = .ok (.iload 4, 2) := by decide +kernel
theorem dX6_trim_221 : decode cX6_trim 221 = .ok (.imul, 1) := by decide +kernel
theorem dX6_trim_222 : decode cX6_trim 222 = .ok (.iload 5, 2) := by decide +kernel
theorem dX6_trim_224 : decode cX6_trim 224 = .ok (.iadd, 1) := by decide +kernel
theorem dX6_trim_225 : decode cX6_trim 225 = .ok (.iaload, 1) := by decide +kernel
theorem dX6_trim_226 : decode cX6_trim 226 = .ok (.iastore, 1) := by decide +kernel
theorem dX6_trim_227 : decode cX6_trim 227 = .ok (.iinc 5 1, 3) := by decide +kernel
theorem dX6_trim_230 : decode cX6_trim 230 = .ok (.goto (-35), 3) := by decide +kernel
theorem dX6_trim_233 : decode cX6_trim 233 = .ok (.iinc 3 1, 3) := by decide +kernel
theorem dX6_trim_236 : decode cX6_trim 236 = .ok (.iinc 4 1, 3) := by decide +kernel
theorem dX6_trim_239 : decode cX6_trim 239 = .ok (.goto (-66), 3) := by decide +kernel
theorem dX6_trim_242 : decode cX6_trim 242 = .ok (.aload_n 0, 1) := by decide +kernel
theorem dX6_trim_243 : decode cX6_trim 243 = .ok (.iload_n 3, 1) := by decide +kernel
theorem dX6_trim_244 : decode cX6_trim 244 = .ok (.putfield 199, 3) := by decide +kernel
theorem dX6_trim_247 : decode cX6_trim 247 = .ok (.iload_n 1, 1) := by decide +kernel
theorem dX6_trim_248 : decode cX6_trim 248 = .ok (.ireturn, 1) := by decide +kernel
theorem dX6_goneBefore_0 : decode cX6_goneBefore 0 = .ok (.iconst 0, 1) := by decide +kernel
theorem dX6_goneBefore_1 : decode cX6_goneBefore 1 = .ok (.istore_n 2, 1) := by decide +kernel
theorem dX6_goneBefore_2 : decode cX6_goneBefore 2 = .ok (.iconst 0, 1) := by decide +kernel
theorem dX6_goneBefore_3 : decode cX6_goneBefore 3 = .ok (.istore_n 3, 1) := by decide +kernel
theorem dX6_goneBefore_4 : decode cX6_goneBefore 4 = .ok (.iload_n 3, 1) := by decide +kernel
theorem dX6_goneBefore_5 : decode cX6_goneBefore 5 = .ok (.iload_n 1, 1) := by decide +kernel
theorem dX6_goneBefore_6 : decode cX6_goneBefore 6 = .ok (.if_icmp .ge 26, 3) := by decide +kernel
theorem dX6_goneBefore_9 : decode cX6_goneBefore 9 = .ok (.iload_n 2, 1) := by decide +kernel
theorem dX6_goneBefore_10 : decode cX6_goneBefore 10 = .ok (.aload_n 0, 1) := by decide +kernel
theorem dX6_goneBefore_11 : decode cX6_goneBefore 11 = .ok (.getfield 81, 3) := by decide +kernel
theorem dX6_goneBefore_14 : decode cX6_goneBefore 14 = .ok (.iload_n 3, 1) := by decide +kernel
theorem dX6_goneBefore_15 : decode cX6_goneBefore 15 = .ok (.baload, 1) := by decide +kernel
theorem dX6_goneBefore_16 : decode cX6_goneBefore 16 = .ok (.ifCond .eq 7, 3) := by decide +kernel
theorem dX6_goneBefore_19 : decode cX6_goneBefore 19 = .ok (.iconst 1, 1) := by decide +kernel
theorem dX6_goneBefore_20 : decode cX6_goneBefore 20 = .ok (.goto 4, 3) := by decide +kernel
theorem dX6_goneBefore_23 : decode cX6_goneBefore 23 = .ok (.iconst 0, 1) := by decide +kernel
theorem dX6_goneBefore_24 : decode cX6_goneBefore 24 = .ok (.iadd, 1) := by decide +kernel
theorem dX6_goneBefore_25 : decode cX6_goneBefore 25 = .ok (.istore_n 2, 1) := by decide +kernel
theorem dX6_goneBefore_26 : decode cX6_goneBefore 26 = .ok (.iinc 3 1, 3) := by decide +kernel
theorem dX6_goneBefore_29 : decode cX6_goneBefore 29 = .ok (.goto (-25), 3) := by decide +kernel
theorem dX6_goneBefore_32 : decode cX6_goneBefore 32 = .ok (.iload_n 2, 1) := by decide +kernel
theorem dX6_goneBefore_33 : decode cX6_goneBefore 33 = .ok (.ireturn, 1) := by decide +kernel
theorem dX6_step_0 : decode cX6_step 0 = .ok (.aload_n 0, 1) := by decide +kernel
theorem dX6_step_1 : decode cX6_step 1 = .ok (.iload_n 1, 1) := by decide +kernel
theorem dX6_step_2 : decode cX6_step 2 = .ok (.i2l, 1) := by decide +kernel
theorem dX6_step_3 : decode cX6_step 3 = .ok (.lconst 0, 1) := by decide +kernel
theorem dX6_step_4 : decode cX6_step 4 = .ok (.aload_n 0, 1) := by decide +kernel
theorem dX6_step_5 : decode cX6_step 5 = .ok (.getfield 199, 3) := by decide +kernel
theorem dX6_step_8 : decode cX6_step 8 = .ok (.iconst 1, 1) := by decide +kernel
theorem dX6_step_9 : decode cX6_step 9 = .ok (.isub, 1) := by decide +kernel
theorem dX6_step_10 : decode cX6_step 10 = .ok (.i2l, 1) := by decide +kernel
theorem dX6_step_11 : decode cX6_step 11 = .ok (.invokestatic 107, 3) := by decide +kernel
theorem dX6_step_14 : decode cX6_step 14 = .ok (.iload_n 2, 1) := by decide +kernel
theorem dX6_step_15 : decode cX6_step 15 = .ok (.i2l, 1) := by decide +kernel
theorem dX6_step_16 : decode cX6_step 16 = .ok (.lconst 0, 1) := by decide +kernel
theorem dX6_step_17 : decode cX6_step 17 = .ok (.ldc2_w 278, 3) := by decide +kernel
theorem dX6_step_20 : decode cX6_step 20 = .ok (.invokestatic 107, 3) := by decide +kernel
theorem dX6_step_23 : decode cX6_step 23 = .ok (.invokevirtual 111, 3) := by decide +kernel
theorem dX6_step_26 : decode cX6_step 26 = .ok (.ifCond .ne 5, 3) := by decide +kernel
theorem dX6_step_29 : decode cX6_step 29 = .ok (.iconst 0, 1) := by decide +kernel
theorem dX6_step_30 : decode cX6_step 30 = .ok (.ireturn, 1) := by decide +kernel
theorem dX6_step_31 : decode cX6_step 31 = .ok (.aload_n 0, 1) := by decide +kernel
theorem dX6_step_32 : decode cX6_step 32 = .ok (.getfield 44, 3) := by decide +kernel
theorem dX6_step_35 : decode cX6_step 35 = .ok (.bipush 6, 2) := by decide +kernel
theorem dX6_step_37 : decode cX6_step 37 = .ok (.iload_n 1, 1) := by decide +kernel
theorem dX6_step_38 : decode cX6_step 38 = .ok (.imul, 1) := by decide +kernel
theorem dX6_step_39 : decode cX6_step 39 = .ok (.iload_n 2, 1) := by decide +kernel
theorem dX6_step_40 : decode cX6_step 40 = .ok (.iadd, 1) := by decide +kernel
theorem dX6_step_41 : decode cX6_step 41 = .ok (.iaload, 1) := by decide +kernel
theorem dX6_step_42 : decode cX6_step 42 = .ok (.ireturn, 1) := by decide +kernel
theorem dX6_statement_0 : decode cX6_statement 0 = .ok (.aload_n 0, 1) := by decide +kernel
theorem dX6_statement_1 : decode cX6_statement 1 = .ok (.iload_n 1, 1) := by decide +kernel
theorem dX6_statement_2 : decode cX6_statement 2 = .ok (.i2l, 1) := by decide +kernel
theorem dX6_statement_3 : decode cX6_statement 3 = .ok (.lconst 0, 1) := by decide +kernel
theorem dX6_statement_4 : decode cX6_statement 4 = .ok (.aload_n 0, 1) := by decide +kernel
theorem dX6_statement_5 : decode cX6_statement 5 = .ok (.getfield 192, 3) := by decide +kernel
theorem dX6_statement_8 : decode cX6_statement 8 = .ok (.iconst 1, 1) := by decide +kernel
theorem dX6_statement_9 : decode cX6_statement 9 = .ok (.isub, 1) := by decide +kernel
theorem dX6_statement_10 : decode cX6_statement 10 = .ok (.i2l, 1) := by decide +kernel
theorem dX6_statement_11 : decode cX6_statement 11 = .ok (.invokestatic 107, 3) := by decide +kernel
theorem dX6_statement_14 : decode cX6_statement 14 = .ok (.iload_n 2, 1) := by decide +kernel
theorem dX6_statement_15 : decode cX6_statement 15 = .ok (.i2l, 1) := by decide +kernel
theorem dX6_statement_16 : decode cX6_statement 16 = .ok (.lconst 0, 1) := by decide +kernel
theorem dX6_statement_17 : decode cX6_statement 17 = .ok (.ldc2_w 280, 3) := by decide +kernel
theorem dX6_statement_20 : decode cX6_statement 20 = .ok (.invokestatic 107, 3) := by decide +kernel
theorem dX6_statement_23 : decode cX6_statement 23 = .ok (.invokevirtual 111, 3) := by decide +kernel
theorem dX6_statement_26 : decode cX6_statement 26 = .ok (.ifCond .ne 5, 3) := by decide +kernel
theorem dX6_statement_29 : decode cX6_statement 29 = .ok (.iconst 0, 1) := by decide +kernel
theorem dX6_statement_30 : decode cX6_statement 30 = .ok (.ireturn, 1) := by decide +kernel
theorem dX6_statement_31 : decode cX6_statement 31 = .ok (.iload_n 2, 1) := by decide +kernel
theorem dX6_statement_32 : decode cX6_statement 32 = .ok (.ifCond .ne 10, 3) := by decide +kernel
theorem dX6_statement_35 : decode cX6_statement 35 = .ok (.aload_n 0, 1) := by decide +kernel
theorem dX6_statement_36 : decode cX6_statement 36 = .ok (.iload_n 1, 1) := by decide +kernel
theorem dX6_statement_37 : decode cX6_statement 37 = .ok (.iconst 0, 1) := by decide +kernel
theorem dX6_statement_38 : decode cX6_statement 38 = .ok (.invokevirtual 212, 3) := by decide +kernel
theorem dX6_statement_41 : decode cX6_statement 41 = .ok (.ireturn, 1) := by decide +kernel
theorem dX6_statement_42 : decode cX6_statement 42 = .ok (.iload_n 2, 1) := by decide +kernel
theorem dX6_statement_43 : decode cX6_statement 43 = .ok (.iconst 1, 1) := by decide +kernel
theorem dX6_statement_44 : decode cX6_statement 44 = .ok (.if_icmp .ne 11, 3) := by decide +kernel
theorem dX6_statement_47 : decode cX6_statement 47 = .ok (.aload_n 0, 1) := by decide +kernel
theorem dX6_statement_48 : decode cX6_statement 48 = .ok (.iload_n 1, 1) := by decide +kernel
theorem dX6_statement_49 : decode cX6_statement 49 = .ok (.bipush 7, 2) := by decide +kernel
theorem dX6_statement_51 : decode cX6_statement 51 = .ok (.invokevirtual 212, 3) := by decide +kernel
theorem dX6_statement_54 : decode cX6_statement 54 = .ok (.ireturn, 1) := by decide +kernel
theorem dX6_statement_55 : decode cX6_statement 55 = .ok (.iload_n 2, 1) := by decide +kernel
theorem dX6_statement_56 : decode cX6_statement 56 = .ok (.iconst 2, 1) := by decide +kernel
theorem dX6_statement_57 : decode cX6_statement 57 = .ok (.if_icmp .ne 18, 3) := by decide +kernel
theorem dX6_statement_60 : decode cX6_statement 60 = .ok (.aload_n 0, 1) := by decide +kernel
theorem dX6_statement_61 : decode cX6_statement 61 = .ok (.getfield 51, 3) := by decide +kernel
theorem dX6_statement_64 : decode cX6_statement 64 = .ok (.iload_n 1, 1) := by decide +kernel
theorem dX6_statement_65 : decode cX6_statement 65 = .ok (.baload, 1) := by decide +kernel
theorem dX6_statement_66 : decode cX6_statement 66 = .ok (.ifCond .eq 7, 3) := by decide +kernel
theorem dX6_statement_69 : decode cX6_statement 69 = .ok (.iconst 1, 1) := by decide +kernel
theorem dX6_statement_70 : decode cX6_statement 70 = .ok (.goto 4, 3) := by decide +kernel
theorem dX6_statement_73 : decode cX6_statement 73 = .ok (.iconst 0, 1) := by decide +kernel
theorem dX6_statement_74 : decode cX6_statement 74 = .ok (.ireturn, 1) := by decide +kernel
theorem dX6_statement_75 : decode cX6_statement 75 = .ok (.iconst 0, 1) := by decide +kernel
theorem dX6_statement_76 : decode cX6_statement 76 = .ok (.istore_n 3, 1) := by decide +kernel
theorem dX6_statement_77 : decode cX6_statement 77 = .ok (.iconst 0, 1) := by decide +kernel
theorem dX6_statement_78 : decode cX6_statement 78 = .ok (.istore 4, 2) := by decide +kernel
theorem dX6_statement_80 : decode cX6_statement 80 = .ok (.iload 4, 2) := by decide +kernel
theorem dX6_statement_82 : decode cX6_statement 82 = .ok (.aload_n 0, 1) := by decide +kernel
theorem dX6_statement_83 : decode cX6_statement 83 = .ok (.getfield 199, 3) := by decide +kernel
theorem dX6_statement_86 : decode cX6_statement 86 = .ok (.if_icmp .ge 33, 3) := by decide +kernel
theorem dX6_statement_89 : decode cX6_statement 89 = .ok (.iload_n 3, 1) := by decide +kernel
theorem dX6_statement_90 : decode cX6_statement 90 = .ok (.aload_n 0, 1) := by decide +kernel
theorem dX6_statement_91 : decode cX6_statement 91 = .ok (.getfield 44, 3) := by decide +kernel
theorem dX6_statement_94 : decode cX6_statement 94 = .ok (.bipush 6, 2) := by decide +kernel
theorem dX6_statement_96 : decode cX6_statement 96 = .ok (.iload 4, 2) := by decide +kernel
theorem dX6_statement_98 : decode cX6_statement 98 = .ok (.imul, 1) := by decide +kernel
theorem dX6_statement_99 : decode cX6_statement 99 = .ok (.iconst 5, 1) := by decide +kernel
theorem dX6_statement_100 : decode cX6_statement 100 = .ok (.iadd, 1) := by decide +kernel
theorem dX6_statement_101 : decode cX6_statement 101 = .ok (.iaload, 1) := by decide +kernel
theorem dX6_statement_102 : decode cX6_statement 102 = .ok (.iload_n 1, 1) := by decide +kernel
theorem dX6_statement_103 : decode cX6_statement 103 = .ok (.if_icmp .ne 7, 3) := by decide +kernel
theorem dX6_statement_106 : decode cX6_statement 106 = .ok (.iconst 1, 1) := by decide +kernel
theorem dX6_statement_107 : decode cX6_statement 107 = .ok (.goto 4, 3) := by decide +kernel
theorem dX6_statement_110 : decode cX6_statement 110 = .ok (.iconst 0, 1) := by decide +kernel
theorem dX6_statement_111 : decode cX6_statement 111 = .ok (.iadd, 1) := by decide +kernel
theorem dX6_statement_112 : decode cX6_statement 112 = .ok (.istore_n 3, 1) := by decide +kernel
theorem dX6_statement_113 : decode cX6_statement 113 = .ok (.iinc 4 1, 3) := by decide +kernel
theorem dX6_statement_116 : decode cX6_statement 116 = .ok (.goto (-36), 3) := by decide +kernel
theorem dX6_statement_119 : decode cX6_statement 119 = .ok (.iload_n 3, 1) := by decide +kernel
theorem dX6_statement_120 : decode cX6_statement 120 = .ok (.ireturn, 1) := by decide +kernel
theorem dX6_begin_0 : decode cX6_begin 0 = .ok (.iconst 0, 1) := by decide +kernel
theorem dX6_begin_1 : decode cX6_begin 1 = .ok (.istore_n 1, 1) := by decide +kernel
theorem dX6_begin_2 : decode cX6_begin 2 = .ok (.iload_n 1, 1) := by decide +kernel
theorem dX6_begin_3 : decode cX6_begin 3 = .ok (.bipush 16, 2) := by decide +kernel
theorem dX6_begin_5 : decode cX6_begin 5 = .ok (.if_icmp .ge 21, 3) := by decide +kernel
theorem dX6_begin_8 : decode cX6_begin 8 = .ok (.aload_n 0, 1) := by decide +kernel
theorem dX6_begin_9 : decode cX6_begin 9 = .ok (.getfield 96, 3) := by decide +kernel
theorem dX6_begin_12 : decode cX6_begin 12 = .ok (.iload_n 1, 1) := by decide +kernel
theorem dX6_begin_13 : decode cX6_begin 13 = .ok (.aload_n 0, 1) := by decide +kernel
theorem dX6_begin_14 : decode cX6_begin 14 = .ok (.getfield 7, 3) := by decide +kernel
theorem dX6_begin_17 : decode cX6_begin 17 = .ok (.iload_n 1, 1) := by decide +kernel
theorem dX6_begin_18 : decode cX6_begin 18 = .ok (.iaload, 1) := by decide +kernel
theorem dX6_begin_19 : decode cX6_begin 19 = .ok (.iastore, 1) := by decide +kernel
theorem dX6_begin_20 : decode cX6_begin 20 = .ok (.iinc 1 1, 3) := by decide +kernel
theorem dX6_begin_23 : decode cX6_begin 23 = .ok (.goto (-21), 3) := by decide +kernel
theorem dX6_begin_26 : decode cX6_begin 26 = .ok (.iconst 0, 1) := by decide +kernel
theorem dX6_begin_27 : decode cX6_begin 27 = .ok (.istore_n 1, 1) := by decide +kernel
theorem dX6_begin_28 : decode cX6_begin 28 = .ok (.iload_n 1, 1) := by decide +kernel
theorem dX6_begin_29 : decode cX6_begin 29 = .ok (.bipush 32, 2) := by decide +kernel
theorem dX6_begin_31 : decode cX6_begin 31 = .ok (.if_icmp .ge 21, 3) := by decide +kernel
theorem dX6_begin_34 : decode cX6_begin 34 = .ok (.aload_n 0, 1) := by decide +kernel
theorem dX6_begin_35 : decode cX6_begin 35 = .ok (.getfield 87, 3) := by decide +kernel
theorem dX6_begin_38 : decode cX6_begin 38 = .ok (.iload_n 1, 1) := by decide +kernel
theorem dX6_begin_39 : decode cX6_begin 39 = .ok (.aload_n 0, 1) := by decide +kernel
theorem dX6_begin_40 : decode cX6_begin 40 = .ok (.getfield 13, 3) := by decide +kernel
theorem dX6_begin_43 : decode cX6_begin 43 = .ok (.iload_n 1, 1) := by decide +kernel
theorem dX6_begin_44 : decode cX6_begin 44 = .ok (.iaload, 1) := by decide +kernel
theorem dX6_begin_45 : decode cX6_begin 45 = .ok (.iastore, 1) := by decide +kernel
theorem dX6_begin_46 : decode cX6_begin 46 = .ok (.iinc 1 1, 3) := by decide +kernel
theorem dX6_begin_49 : decode cX6_begin 49 = .ok (.goto (-21), 3) := by decide +kernel
theorem dX6_begin_52 : decode cX6_begin 52 = .ok (.aload_n 0, 1) := by decide +kernel
theorem dX6_begin_53 : decode cX6_begin 53 = .ok (.iconst 0, 1) := by decide +kernel
theorem dX6_begin_54 : decode cX6_begin 54 = .ok (.putfield 282, 3) := by decide +kernel
theorem dX6_begin_57 : decode cX6_begin 57 = .ok (.aload_n 0, 1) := by decide +kernel
theorem dX6_begin_58 : decode cX6_begin 58 = .ok (.iconst (-1), 1) := by decide +kernel
theorem dX6_begin_59 : decode cX6_begin 59 = .ok (.putfield 93, 3) := by decide +kernel
theorem dX6_begin_62 : decode cX6_begin 62 = .ok (.aload_n 0, 1) := by decide +kernel
theorem dX6_begin_63 : decode cX6_begin 63 = .ok (.iconst 0, 1) := by decide +kernel
theorem dX6_begin_64 : decode cX6_begin 64 = .ok (.putfield 285, 3) := by decide +kernel
theorem dX6_begin_67 : decode cX6_begin 67 = .ok (.aload_n 0, 1) := by decide +kernel
theorem dX6_begin_68 : decode cX6_begin 68 = .ok (.iconst 0, 1) := by decide +kernel
theorem dX6_begin_69 : decode cX6_begin 69 = .ok (.putfield 288, 3) := by decide +kernel
theorem dX6_begin_72 : decode cX6_begin 72 = .ok (.return_, 1) := by decide +kernel
theorem dX6_leave_0 : decode cX6_leave 0 = .ok (.iconst 0, 1) := by decide +kernel
theorem dX6_leave_1 : decode cX6_leave 1 = .ok (.istore_n 1, 1) := by decide +kernel
theorem dX6_leave_2 : decode cX6_leave 2 = .ok (.iload_n 1, 1) := by decide +kernel
theorem dX6_leave_3 : decode cX6_leave 3 = .ok (.bipush 16, 2) := by decide +kernel
theorem dX6_leave_5 : decode cX6_leave 5 = .ok (.if_icmp .ge 21, 3) := by decide +kernel
theorem dX6_leave_8 : decode cX6_leave 8 = .ok (.aload_n 0, 1) := by decide +kernel
theorem dX6_leave_9 : decode cX6_leave 9 = .ok (.getfield 84, 3) := by decide +kernel
theorem dX6_leave_12 : decode cX6_leave 12 = .ok (.iload_n 1, 1) := by decide +kernel
theorem dX6_leave_13 : decode cX6_leave 13 = .ok (.aload_n 0, 1) := by decide +kernel
theorem dX6_leave_14 : decode cX6_leave 14 = .ok (.getfield 96, 3) := by decide +kernel
theorem dX6_leave_17 : decode cX6_leave 17 = .ok (.iload_n 1, 1) := by decide +kernel
theorem dX6_leave_18 : decode cX6_leave 18 = .ok (.iaload, 1) := by decide +kernel
theorem dX6_leave_19 : decode cX6_leave 19 = .ok (.iastore, 1) := by decide +kernel
theorem dX6_leave_20 : decode cX6_leave 20 = .ok (.iinc 1 1, 3) := by decide +kernel
theorem dX6_leave_23 : decode cX6_leave 23 = .ok (.goto (-21), 3) := by decide +kernel
theorem dX6_leave_26 : decode cX6_leave 26 = .ok (.return_, 1) := by decide +kernel
theorem dX6_stop_0 : decode cX6_stop 0 = .ok (.aload_n 0, 1) := by decide +kernel
theorem dX6_stop_1 : decode cX6_stop 1 = .ok (.iload_n 1, 1) := by decide +kernel
theorem dX6_stop_2 : decode cX6_stop 2 = .ok (.putfield 288, 3) := by decide +kernel
theorem dX6_stop_5 : decode cX6_stop 5 = .ok (.aload_n 0, 1) := by decide +kernel
theorem dX6_stop_6 : decode cX6_stop 6 = .ok (.iload_n 2, 1) := by decide +kernel
theorem dX6_stop_7 : decode cX6_stop 7 = .ok (.putfield 93, 3) := by decide +kernel
theorem dX6_stop_10 : decode cX6_stop 10 = .ok (.return_, 1) := by decide +kernel
theorem dX6_reach_0 : decode cX6_reach 0 = .ok (.iload_n 1, 1) := by decide +kernel
theorem dX6_reach_1 : decode cX6_reach 1 = .ok (.tableswitch 141 2 11 #[55, 59, 63, 67, 67, 107, 111, 115, 119, 130], 55) := by decide +kernel
theorem dX6_reach_56 : decode cX6_reach 56 = .ok (.iload_n 2, 1) := by decide +kernel
theorem dX6_reach_57 : decode cX6_reach 57 = .ok (.iload_n 3, 1) := by decide +kernel
theorem dX6_reach_58 : decode cX6_reach 58 = .ok (.iadd, 1) := by decide +kernel
theorem dX6_reach_59 : decode cX6_reach 59 = .ok (.ireturn, 1) := by decide +kernel
theorem dX6_reach_60 : decode cX6_reach 60 = .ok (.iload_n 2, 1) := by decide +kernel
theorem dX6_reach_61 : decode cX6_reach 61 = .ok (.iload_n 3, 1) := by decide +kernel
theorem dX6_reach_62 : decode cX6_reach 62 = .ok (.isub, 1) := by decide +kernel
theorem dX6_reach_63 : decode cX6_reach 63 = .ok (.ireturn, 1) := by decide +kernel
theorem dX6_reach_64 : decode cX6_reach 64 = .ok (.iload_n 2, 1) := by decide +kernel
theorem dX6_reach_65 : decode cX6_reach 65 = .ok (.iload_n 3, 1) := by decide +kernel
theorem dX6_reach_66 : decode cX6_reach 66 = .ok (.imul, 1) := by decide +kernel
theorem dX6_reach_67 : decode cX6_reach 67 = .ok (.ireturn, 1) := by decide +kernel
theorem dX6_reach_68 : decode cX6_reach 68 = .ok (.iload_n 3, 1) := by decide +kernel
theorem dX6_reach_69 : decode cX6_reach 69 = .ok (.ifCond .ne 12, 3) := by decide +kernel
theorem dX6_reach_72 : decode cX6_reach 72 = .ok (.aload_n 0, 1) := by decide +kernel
theorem dX6_reach_73 : decode cX6_reach 73 = .ok (.iconst 1, 1) := by decide +kernel
theorem dX6_reach_74 : decode cX6_reach 74 = .ok (.iload 4, 2) := by decide +kernel
theorem dX6_reach_76 : decode cX6_reach 76 = .ok (.invokevirtual 291, 3) := by decide +kernel
theorem dX6_reach_79 : decode cX6_reach 79 = .ok (.iconst 0, 1) := by decide +kernel
theorem dX6_reach_80 : decode cX6_reach 80 = .ok (.ireturn, 1) := by decide +kernel
theorem dX6_reach_81 : decode cX6_reach 81 = .ok (.iload_n 2, 1) := by decide +kernel
theorem dX6_reach_82 : decode cX6_reach 82 = .ok (.i2l, 1) := by decide +kernel
theorem dX6_reach_83 : decode cX6_reach 83 = .ok (.iload_n 3, 1) := by decide +kernel
theorem dX6_reach_84 : decode cX6_reach 84 = .ok (.i2l, 1) := by decide +kernel
theorem dX6_reach_85 : decode cX6_reach 85 = .ok (.ldiv, 1) := by decide +kernel
theorem dX6_reach_86 : decode cX6_reach 86 = .ok (.lstore 5, 2) := by decide +kernel
theorem dX6_reach_88 : decode cX6_reach 88 = .ok (.iload_n 1, 1) := by decide +kernel
theorem dX6_reach_89 : decode cX6_reach 89 = .ok (.iconst 5, 1) := by decide +kernel
theorem dX6_reach_90 : decode cX6_reach 90 = .ok (.if_icmp .ne 8, 3) := by decide +kernel
theorem dX6_reach_93 : decode cX6_reach 93 = .ok (.lload 5, 2) := by decide +kernel
theorem dX6_reach_95 : decode cX6_reach 95 = .ok (.goto 11, 3) := by decide +kernel
theorem dX6_reach_98 : decode cX6_reach 98 = .ok (.iload_n 2, 1) := by decide +kernel
theorem dX6_reach_99 : decode cX6_reach 99 = .ok (.i2l, 1) := by decide +kernel
theorem dX6_reach_100 : decode cX6_reach 100 = .ok (.lload 5, 2) := by decide +kernel
theorem dX6_reach_102 : decode cX6_reach 102 = .ok (.iload_n 3, 1) := by decide +kernel
theorem dX6_reach_103 : decode cX6_reach 103 = .ok (.i2l, 1) := by decide +kernel
theorem dX6_reach_104 : decode cX6_reach 104 = .ok (.lmul, 1) := by decide +kernel
theorem dX6_reach_105 : decode cX6_reach 105 = .ok (.lsub, 1) := by decide +kernel
theorem dX6_reach_106 : decode cX6_reach 106 = .ok (.l2i, 1) := by decide +kernel
theorem dX6_reach_107 : decode cX6_reach 107 = .ok (.ireturn, 1) := by decide +kernel
theorem dX6_reach_108 : decode cX6_reach 108 = .ok (.iload_n 2, 1) := by decide +kernel
theorem dX6_reach_109 : decode cX6_reach 109 = .ok (.iload_n 3, 1) := by decide +kernel
theorem dX6_reach_110 : decode cX6_reach 110 = .ok (.iand, 1) := by decide +kernel
theorem dX6_reach_111 : decode cX6_reach 111 = .ok (.ireturn, 1) := by decide +kernel
theorem dX6_reach_112 : decode cX6_reach 112 = .ok (.iload_n 2, 1) := by decide +kernel
theorem dX6_reach_113 : decode cX6_reach 113 = .ok (.iload_n 3, 1) := by decide +kernel
theorem dX6_reach_114 : decode cX6_reach 114 = .ok (.ior, 1) := by decide +kernel
theorem dX6_reach_115 : decode cX6_reach 115 = .ok (.ireturn, 1) := by decide +kernel
theorem dX6_reach_116 : decode cX6_reach 116 = .ok (.iload_n 2, 1) := by decide +kernel
theorem dX6_reach_117 : decode cX6_reach 117 = .ok (.iload_n 3, 1) := by decide +kernel
theorem dX6_reach_118 : decode cX6_reach 118 = .ok (.ixor, 1) := by decide +kernel
theorem dX6_reach_119 : decode cX6_reach 119 = .ok (.ireturn, 1) := by decide +kernel
theorem dX6_reach_120 : decode cX6_reach 120 = .ok (.iload_n 2, 1) := by decide +kernel
theorem dX6_reach_121 : decode cX6_reach 121 = .ok (.iload_n 3, 1) := by decide +kernel
theorem dX6_reach_122 : decode cX6_reach 122 = .ok (.if_icmp .ne 7, 3) := by decide +kernel
theorem dX6_reach_125 : decode cX6_reach 125 = .ok (.iconst 1, 1) := by decide +kernel
theorem dX6_reach_126 : decode cX6_reach 126 = .ok (.goto 4, 3) := by decide +kernel
theorem dX6_reach_129 : decode cX6_reach 129 = .ok (.iconst 0, 1) := by decide +kernel
theorem dX6_reach_130 : decode cX6_reach 130 = .ok (.ireturn, 1) := by decide +kernel
theorem dX6_reach_131 : decode cX6_reach 131 = .ok (.iload_n 2, 1) := by decide +kernel
theorem dX6_reach_132 : decode cX6_reach 132 = .ok (.iload_n 3, 1) := by decide +kernel
theorem dX6_reach_133 : decode cX6_reach 133 = .ok (.if_icmp .eq 7, 3) := by decide +kernel
theorem dX6_reach_136 : decode cX6_reach 136 = .ok (.iconst 1, 1) := by decide +kernel
theorem dX6_reach_137 : decode cX6_reach 137 = .ok (.goto 4, 3) := by decide +kernel
theorem dX6_reach_140 : decode cX6_reach 140 = .ok (.iconst 0, 1) := by decide +kernel
theorem dX6_reach_141 : decode cX6_reach 141 = .ok (.ireturn, 1) := by decide +kernel
theorem dX6_reach_142 : decode cX6_reach 142 = .ok (.iload_n 2, 1) := by decide +kernel
theorem dX6_reach_143 : decode cX6_reach 143 = .ok (.iload_n 3, 1) := by decide +kernel
theorem dX6_reach_144 : decode cX6_reach 144 = .ok (.if_icmp .ge 7, 3) := by decide +kernel
theorem dX6_reach_147 : decode cX6_reach 147 = .ok (.iconst 1, 1) := by decide +kernel
theorem dX6_reach_148 : decode cX6_reach 148 = .ok (.goto 4, 3) := by decide +kernel
theorem dX6_reach_151 : decode cX6_reach 151 = .ok (.iconst 0, 1) := by decide +kernel
theorem dX6_reach_152 : decode cX6_reach 152 = .ok (.ireturn, 1) := by decide +kernel
theorem dX6_isWord_0 : decode cX6_isWord 0 = .ok (.iload_n 1, 1) := by decide +kernel
theorem dX6_isWord_1 : decode cX6_isWord 1 = .ok (.i2l, 1) := by decide +kernel
theorem dX6_isWord_2 : decode cX6_isWord 2 = .ok (.lconst 0, 1) := by decide +kernel
theorem dX6_isWord_3 : decode cX6_isWord 3 = .ok (.ldc2_w 115, 3) := by decide +kernel
theorem dX6_isWord_6 : decode cX6_isWord 6 = .ok (.invokestatic 107, 3) := by decide +kernel
theorem dX6_isWord_9 : decode cX6_isWord 9 = .ok (.istore_n 3, 1) := by decide +kernel
theorem dX6_isWord_10 : decode cX6_isWord 10 = .ok (.iload_n 3, 1) := by decide +kernel
theorem dX6_isWord_11 : decode cX6_isWord 11 = .ok (.ifCond .ne 9, 3) := by decide +kernel
theorem dX6_isWord_14 : decode cX6_isWord 14 = .ok (.aload_n 0, 1) := by decide +kernel
theorem dX6_isWord_15 : decode cX6_isWord 15 = .ok (.iconst 2, 1) := by decide +kernel
theorem dX6_isWord_16 : decode cX6_isWord 16 = .ok (.iload_n 2, 1) := by decide +kernel
theorem dX6_isWord_17 : decode cX6_isWord 17 = .ok (.invokevirtual 291, 3) := by decide +kernel
theorem dX6_isWord_20 : decode cX6_isWord 20 = .ok (.iload_n 3, 1) := by decide +kernel
theorem dX6_isWord_21 : decode cX6_isWord 21 = .ok (.ireturn, 1) := by decide +kernel
theorem dX6_toldValue_0 : decode cX6_toldValue 0 = .ok (.aload_n 0, 1) := by decide +kernel
theorem dX6_toldValue_1 : decode cX6_toldValue 1 = .ok (.iload_n 1, 1) := by decide +kernel
theorem dX6_toldValue_2 : decode cX6_toldValue 2 = .ok (.iload_n 2, 1) := by decide +kernel
theorem dX6_toldValue_3 : decode cX6_toldValue 3 = .ok (.invokevirtual 212, 3) := by decide +kernel
theorem dX6_toldValue_6 : decode cX6_toldValue 6 = .ok (.iconst 1, 1) := by decide +kernel
theorem dX6_toldValue_7 : decode cX6_toldValue 7 = .ok (.if_icmp .ne 19, 3) := by decide +kernel
theorem dX6_toldValue_10 : decode cX6_toldValue 10 = .ok (.aload_n 0, 1) := by decide +kernel
theorem dX6_toldValue_11 : decode cX6_toldValue 11 = .ok (.getfield 96, 3) := by decide +kernel
theorem dX6_toldValue_14 : decode cX6_toldValue 14 = .ok (.aload_n 0, 1) := by decide +kernel
theorem dX6_toldValue_15 : decode cX6_toldValue 15 = .ok (.iload_n 1, 1) := by decide +kernel
theorem dX6_toldValue_16 : decode cX6_toldValue 16 = .ok (.iload_n 2, 1) := by decide +kernel
theorem dX6_toldValue_17 : decode cX6_toldValue 17 = .ok (.iconst 1, 1) := by decide +kernel
theorem dX6_toldValue_18 : decode cX6_toldValue 18 = .ok (.iadd, 1) := by decide +kernel
theorem dX6_toldValue_19 : decode cX6_toldValue 19 = .ok (.invokevirtual 212, 3) := by decide +kernel
theorem dX6_toldValue_22 : decode cX6_toldValue 22 = .ok (.iaload, 1) := by decide +kernel
theorem dX6_toldValue_23 : decode cX6_toldValue 23 = .ok (.goto 11, 3) := by decide +kernel
theorem dX6_toldValue_26 : decode cX6_toldValue 26 = .ok (.aload_n 0, 1) := by decide +kernel
theorem dX6_toldValue_27 : decode cX6_toldValue 27 = .ok (.iload_n 1, 1) := by decide +kernel
theorem dX6_toldValue_28 : decode cX6_toldValue 28 = .ok (.iload_n 2, 1) := by decide +kernel
theorem dX6_toldValue_29 : decode cX6_toldValue 29 = .ok (.iconst 1, 1) := by decide +kernel
theorem dX6_toldValue_30 : decode cX6_toldValue 30 = .ok (.iadd, 1) := by decide +kernel
theorem dX6_toldValue_31 : decode cX6_toldValue 31 = .ok (.invokevirtual 212, 3) := by decide +kernel
theorem dX6_toldValue_34 : decode cX6_toldValue 34 = .ok (.ireturn, 1) := by decide +kernel
theorem dX6_doStatement_0 : decode cX6_doStatement 0 = .ok (.aload_n 0, 1) := by decide +kernel
theorem dX6_doStatement_1 : decode cX6_doStatement 1 = .ok (.iload_n 1, 1) := by decide +kernel
theorem dX6_doStatement_2 : decode cX6_doStatement 2 = .ok (.iconst 3, 1) := by decide +kernel
theorem dX6_doStatement_3 : decode cX6_doStatement 3 = .ok (.invokevirtual 294, 3) := by decide +kernel
theorem dX6_doStatement_6 : decode cX6_doStatement 6 = .ok (.istore_n 2, 1) := by decide +kernel
theorem dX6_doStatement_7 : decode cX6_doStatement 7 = .ok (.aload_n 0, 1) := by decide +kernel
theorem dX6_doStatement_8 : decode cX6_doStatement 8 = .ok (.iload_n 1, 1) := by decide +kernel
theorem dX6_doStatement_9 : decode cX6_doStatement 9 = .ok (.iconst 5, 1) := by decide +kernel
theorem dX6_doStatement_10 : decode cX6_doStatement 10 = .ok (.invokevirtual 294, 3) := by decide +kernel
theorem dX6_doStatement_13 : decode cX6_doStatement 13 = .ok (.istore_n 3, 1) := by decide +kernel
theorem dX6_doStatement_14 : decode cX6_doStatement 14 = .ok (.aload_n 0, 1) := by decide +kernel
theorem dX6_doStatement_15 : decode cX6_doStatement 15 = .ok (.iload_n 1, 1) := by decide +kernel
theorem dX6_doStatement_16 : decode cX6_doStatement 16 = .ok (.iconst 1, 1) := by decide +kernel
theorem dX6_doStatement_17 : decode cX6_doStatement 17 = .ok (.invokevirtual 212, 3) := by decide +kernel
theorem dX6_doStatement_20 : decode cX6_doStatement 20 = .ok (.istore 4, 2) := by decide +kernel
theorem dX6_doStatement_22 : decode cX6_doStatement 22 = .ok (.aload_n 0, 1) := by decide +kernel
theorem dX6_doStatement_23 : decode cX6_doStatement 23 = .ok (.iload_n 1, 1) := by decide +kernel
theorem dX6_doStatement_24 : decode cX6_doStatement 24 = .ok (.iconst 0, 1) := by decide +kernel
theorem dX6_doStatement_25 : decode cX6_doStatement 25 = .ok (.invokevirtual 212, 3) := by decide +kernel
theorem dX6_doStatement_28 : decode cX6_doStatement 28 = .ok (.tableswitch 158 0 4 #[36, 47, 91, 116, 135], 36) := by decide +kernel
theorem dX6_doStatement_64 : decode cX6_doStatement 64 = .ok (.aload_n 0, 1) := by decide +kernel
theorem dX6_doStatement_65 : decode cX6_doStatement 65 = .ok (.getfield 96, 3) := by decide +kernel
theorem dX6_doStatement_68 : decode cX6_doStatement 68 = .ok (.iload 4, 2) := by decide +kernel
theorem dX6_doStatement_70 : decode cX6_doStatement 70 = .ok (.iload_n 2, 1) := by decide +kernel
theorem dX6_doStatement_71 : decode cX6_doStatement 71 = .ok (.iastore, 1) := by decide +kernel
theorem dX6_doStatement_72 : decode cX6_doStatement 72 = .ok (.goto 164, 3) := by decide +kernel
theorem dX6_doStatement_75 : decode cX6_doStatement 75 = .ok (.aload_n 0, 1) := by decide +kernel
theorem dX6_doStatement_76 : decode cX6_doStatement 76 = .ok (.aload_n 0, 1) := by decide +kernel
theorem dX6_doStatement_77 : decode cX6_doStatement 77 = .ok (.iload_n 1, 1) := by decide +kernel
theorem dX6_doStatement_78 : decode cX6_doStatement 78 = .ok (.iconst 2, 1) := by decide +kernel
theorem dX6_doStatement_79 : decode cX6_doStatement 79 = .ok (.invokevirtual 212, 3) := by decide +kernel
theorem dX6_doStatement_82 : decode cX6_doStatement 82 = .ok (.iload_n 2, 1) := by decide +kernel
theorem dX6_doStatement_83 : decode cX6_doStatement 83 = .ok (.iload_n 3, 1) := by decide +kernel
theorem dX6_doStatement_84 : decode cX6_doStatement 84 = .ok (.iload_n 1, 1) := by decide +kernel
theorem dX6_doStatement_85 : decode cX6_doStatement 85 = .ok (.invokevirtual 297, 3) := by decide +kernel
theorem dX6_doStatement_88 : decode cX6_doStatement 88 = .ok (.istore 5, 2) := by decide +kernel
theorem dX6_doStatement_90 : decode cX6_doStatement 90 = .ok (.aload_n 0, 1) := by decide +kernel
theorem dX6_doStatement_91 : decode cX6_doStatement 91 = .ok (.getfield 96, 3) := by decide +kernel
theorem dX6_doStatement_94 : decode cX6_doStatement 94 = .ok (.iload 4, 2) := by decide +kernel
theorem dX6_doStatement_96 : decode cX6_doStatement 96 = .ok (.aload_n 0, 1) := by decide +kernel
theorem dX6_doStatement_97 : decode cX6_doStatement 97 = .ok (.getfield 288, 3) := by decide +kernel
theorem dX6_doStatement_100 : decode cX6_doStatement 100 = .ok (.ifCond .ne 8, 3) := by decide +kernel
theorem dX6_doStatement_103 : decode cX6_doStatement 103 = .ok (.iload 5, 2) := by decide +kernel
theorem dX6_doStatement_105 : decode cX6_doStatement 105 = .ok (.goto 10, 3) := by decide +kernel
theorem dX6_doStatement_108 : decode cX6_doStatement 108 = .ok (.aload_n 0, 1) := by decide +kernel
theorem dX6_doStatement_109 : decode cX6_doStatement 109 = .ok (.getfield 96, 3) := by decide +kernel
theorem dX6_doStatement_112 : decode cX6_doStatement 112 = .ok (.iload 4, 2) := by decide +kernel
theorem dX6_doStatement_114 : decode cX6_doStatement 114 = .ok (.iaload, 1) := by decide +kernel
theorem dX6_doStatement_115 : decode cX6_doStatement 115 = .ok (.iastore, 1) := by decide +kernel
theorem dX6_doStatement_116 : decode cX6_doStatement 116 = .ok (.goto 120, 3) := by decide +kernel
theorem dX6_doStatement_119 : decode cX6_doStatement 119 = .ok (.aload_n 0, 1) := by decide +kernel
theorem dX6_doStatement_120 : decode cX6_doStatement 120 = .ok (.iload_n 2, 1) := by decide +kernel
theorem dX6_doStatement_121 : decode cX6_doStatement 121 = .ok (.iload_n 1, 1) := by decide +kernel
theorem dX6_doStatement_122 : decode cX6_doStatement 122 = .ok (.invokevirtual 301, 3) := by decide +kernel
theorem dX6_doStatement_125 : decode cX6_doStatement 125 = .ok (.ifCond .eq 111, 3) := by decide +kernel
theorem dX6_doStatement_128 : decode cX6_doStatement 128 = .ok (.aload_n 0, 1) := by decide +kernel
theorem dX6_doStatement_129 : decode cX6_doStatement 129 = .ok (.getfield 96, 3) := by decide +kernel
theorem dX6_doStatement_132 : decode cX6_doStatement 132 = .ok (.iload 4, 2) := by decide +kernel
theorem dX6_doStatement_134 : decode cX6_doStatement 134 = .ok (.aload_n 0, 1) := by decide +kernel
theorem dX6_doStatement_135 : decode cX6_doStatement 135 = .ok (.getfield 87, 3) := by decide +kernel
theorem dX6_doStatement_138 : decode cX6_doStatement 138 = .ok (.iload_n 2, 1) := by decide +kernel
theorem dX6_doStatement_139 : decode cX6_doStatement 139 = .ok (.iaload, 1) := by decide +kernel
theorem dX6_doStatement_140 : decode cX6_doStatement 140 = .ok (.iastore, 1) := by decide +kernel
theorem dX6_doStatement_141 : decode cX6_doStatement 141 = .ok (.goto 95, 3) := by decide +kernel
theorem dX6_doStatement_144 : decode cX6_doStatement 144 = .ok (.aload_n 0, 1) := by decide +kernel
theorem dX6_doStatement_145 : decode cX6_doStatement 145 = .ok (.iload_n 2, 1) := by decide +kernel
theorem dX6_doStatement_146 : decode cX6_doStatement 146 = .ok (.iload_n 1, 1) := by decide +kernel
theorem dX6_doStatement_147 : decode cX6_doStatement 147 = .ok (.invokevirtual 301, 3) := by decide +kernel
theorem dX6_doStatement_150 : decode cX6_doStatement 150 = .ok (.ifCond .eq 86, 3) := by decide +kernel
theorem dX6_doStatement_153 : decode cX6_doStatement 153 = .ok (.aload_n 0, 1) := by decide +kernel
theorem dX6_doStatement_154 : decode cX6_doStatement 154 = .ok (.getfield 87, 3) := by decide +kernel
theorem dX6_doStatement_157 : decode cX6_doStatement 157 = .ok (.iload_n 2, 1) := by decide +kernel
theorem dX6_doStatement_158 : decode cX6_doStatement 158 = .ok (.iload_n 3, 1) := by decide +kernel
theorem dX6_doStatement_159 : decode cX6_doStatement 159 = .ok (.iastore, 1) := by decide +kernel
theorem dX6_doStatement_160 : decode cX6_doStatement 160 = .ok (.goto 76, 3) := by decide +kernel
theorem dX6_doStatement_163 : decode cX6_doStatement 163 = .ok (.aload_n 0, 1) := by decide +kernel
theorem dX6_doStatement_164 : decode cX6_doStatement 164 = .ok (.getfield 90, 3) := by decide +kernel
theorem dX6_doStatement_167 : decode cX6_doStatement 167 = .ok (.aload_n 0, 1) := by decide +kernel
theorem dX6_doStatement_168 : decode cX6_doStatement 168 = .ok (.getfield 282, 3) := by decide +kernel
theorem dX6_doStatement_171 : decode cX6_doStatement 171 = .ok (.iload_n 2, 1) := by decide +kernel
theorem dX6_doStatement_172 : decode cX6_doStatement 172 = .ok (.iastore, 1) := by decide +kernel
theorem dX6_doStatement_173 : decode cX6_doStatement 173 = .ok (.aload_n 0, 1) := by decide +kernel
theorem dX6_doStatement_174 : decode cX6_doStatement 174 = .ok (.dup, 1) := by decide +kernel
theorem dX6_doStatement_175 : decode cX6_doStatement 175 = .ok (.getfield 282, 3) := by decide +kernel
theorem dX6_doStatement_178 : decode cX6_doStatement 178 = .ok (.iconst 1, 1) := by decide +kernel
theorem dX6_doStatement_179 : decode cX6_doStatement 179 = .ok (.iadd, 1) := by decide +kernel
theorem dX6_doStatement_180 : decode cX6_doStatement 180 = .ok (.putfield 282, 3) := by decide +kernel
theorem dX6_doStatement_183 : decode cX6_doStatement 183 = .ok (.goto 53, 3) := by decide +kernel
theorem dX6_doStatement_186 : decode cX6_doStatement 186 = .ok (.aload_n 0, 1) := by decide +kernel
theorem dX6_doStatement_187 : decode cX6_doStatement 187 = .ok (.getfield 99, 3) := by decide +kernel
theorem dX6_doStatement_190 : decode cX6_doStatement 190 = .ok (.iload_n 1, 1) := by decide +kernel
theorem dX6_doStatement_191 : decode cX6_doStatement 191 = .ok (.aload_n 0, 1) := by decide +kernel
theorem dX6_doStatement_192 : decode cX6_doStatement 192 = .ok (.aload_n 0, 1) := by decide +kernel
theorem dX6_doStatement_193 : decode cX6_doStatement 193 = .ok (.iload_n 1, 1) := by decide +kernel
theorem dX6_doStatement_194 : decode cX6_doStatement 194 = .ok (.iconst 2, 1) := by decide +kernel
theorem dX6_doStatement_195 : decode cX6_doStatement 195 = .ok (.invokevirtual 212, 3) := by decide +kernel
theorem dX6_doStatement_198 : decode cX6_doStatement 198 = .ok (.iload_n 2, 1) := by decide +kernel
theorem dX6_doStatement_199 : decode cX6_doStatement 199 = .ok (.iload_n 3, 1) := by decide +kernel
theorem dX6_doStatement_200 : decode cX6_doStatement 200 = .ok (.iload_n 1, 1) := by decide +kernel
theorem dX6_doStatement_201 : decode cX6_doStatement 201 = .ok (.invokevirtual 297, 3) := by decide +kernel
theorem dX6_doStatement_204 : decode cX6_doStatement 204 = .ok (.iconst 1, 1) := by decide +kernel
theorem dX6_doStatement_205 : decode cX6_doStatement 205 = .ok (.if_icmp .ne 7, 3) := by decide +kernel
theorem dX6_doStatement_208 : decode cX6_doStatement 208 = .ok (.iconst 1, 1) := by decide +kernel
theorem dX6_doStatement_209 : decode cX6_doStatement 209 = .ok (.goto 4, 3) := by decide +kernel
theorem dX6_doStatement_212 : decode cX6_doStatement 212 = .ok (.iconst 0, 1) := by decide +kernel
theorem dX6_doStatement_213 : decode cX6_doStatement 213 = .ok (.bastore, 1) := by decide +kernel
theorem dX6_doStatement_214 : decode cX6_doStatement 214 = .ok (.aload_n 0, 1) := by decide +kernel
theorem dX6_doStatement_215 : decode cX6_doStatement 215 = .ok (.getfield 99, 3) := by decide +kernel
theorem dX6_doStatement_218 : decode cX6_doStatement 218 = .ok (.iload_n 1, 1) := by decide +kernel
theorem dX6_doStatement_219 : decode cX6_doStatement 219 = .ok (.baload, 1) := by decide +kernel
theorem dX6_doStatement_220 : decode cX6_doStatement 220 = .ok (.ifCond .eq 9, 3) := by decide +kernel
theorem dX6_doStatement_223 : decode cX6_doStatement 223 = .ok (.iload_n 1, 1) := by decide +kernel
theorem dX6_doStatement_224 : decode cX6_doStatement 224 = .ok (.iconst 1, 1) := by decide +kernel
theorem dX6_doStatement_225 : decode cX6_doStatement 225 = .ok (.iadd, 1) := by decide +kernel
theorem dX6_doStatement_226 : decode cX6_doStatement 226 = .ok (.goto 9, 3) := by decide +kernel
theorem dX6_doStatement_229 : decode cX6_doStatement 229 = .ok (.aload_n 0, 1) := by decide +kernel
theorem dX6_doStatement_230 : decode cX6_doStatement 230 = .ok (.getfield 31, 3) := by decide +kernel
theorem dX6_doStatement_233 : decode cX6_doStatement 233 = .ok (.iload_n 1, 1) := by decide +kernel
theorem dX6_doStatement_234 : decode cX6_doStatement 234 = .ok (.iaload, 1) := by decide +kernel
theorem dX6_doStatement_235 : decode cX6_doStatement 235 = .ok (.ireturn, 1) := by decide +kernel
theorem dX6_doStatement_236 : decode cX6_doStatement 236 = .ok (.iload_n 1, 1) := by decide +kernel
theorem dX6_doStatement_237 : decode cX6_doStatement 237 = .ok (.iconst 1, 1) := by decide +kernel
theorem dX6_doStatement_238 : decode cX6_doStatement 238 = .ok (.iadd, 1) := by decide +kernel
theorem dX6_doStatement_239 : decode cX6_doStatement 239 = .ok (.ireturn, 1) := by decide +kernel
theorem dX6_tell_0 : decode cX6_tell 0 = .ok (.aload_n 0, 1) := by decide +kernel
theorem dX6_tell_1 : decode cX6_tell 1 = .ok (.iconst 0, 1) := by decide +kernel
theorem dX6_tell_2 : decode cX6_tell 2 = .ok (.putfield 102, 3) := by decide +kernel
theorem dX6_tell_5 : decode cX6_tell 5 = .ok (.aload_n 0, 1) := by decide +kernel
theorem dX6_tell_6 : decode cX6_tell 6 = .ok (.invokevirtual 304, 3) := by decide +kernel
theorem dX6_tell_9 : decode cX6_tell 9 = .ok (.iconst 0, 1) := by decide +kernel
theorem dX6_tell_10 : decode cX6_tell 10 = .ok (.istore_n 1, 1) := by decide +kernel
theorem dX6_tell_11 : decode cX6_tell 11 = .ok (.iload_n 1, 1) := by decide +kernel
theorem dX6_tell_12 : decode cX6_tell 12 = .ok (.aload_n 0, 1) := by decide +kernel
theorem dX6_tell_13 : decode cX6_tell 13 = .ok (.getfield 192, 3) := by decide +kernel
theorem dX6_tell_16 : decode cX6_tell 16 = .ok (.if_icmp .ge 33, 3) := by decide +kernel
theorem dX6_tell_19 : decode cX6_tell 19 = .ok (.aload_n 0, 1) := by decide +kernel
theorem dX6_tell_20 : decode cX6_tell 20 = .ok (.getfield 288, 3) := by decide +kernel
theorem dX6_tell_23 : decode cX6_tell 23 = .ok (.ifCond .ne 26, 3) := by decide +kernel
theorem dX6_tell_26 : decode cX6_tell 26 = .ok (.aload_n 0, 1) := by decide +kernel
theorem dX6_tell_27 : decode cX6_tell 27 = .ok (.dup, 1) := by decide +kernel
theorem dX6_tell_28 : decode cX6_tell 28 = .ok (.getfield 285, 3) := by decide +kernel
theorem dX6_tell_31 : decode cX6_tell 31 = .ok (.iconst 1, 1) := by decide +kernel
theorem dX6_tell_32 : decode cX6_tell 32 = .ok (.iadd, 1) := by decide +kernel
theorem dX6_tell_33 : decode cX6_tell 33 = .ok (.putfield 285, 3) := by decide +kernel
theorem dX6_tell_36 : decode cX6_tell 36 = .ok (.aload_n 0, 1) := by decide +kernel
theorem dX6_tell_37 : decode cX6_tell 37 = .ok (.aload_n 0, 1) := by decide +kernel
theorem dX6_tell_38 : decode cX6_tell 38 = .ok (.iload_n 1, 1) := by decide +kernel
theorem dX6_tell_39 : decode cX6_tell 39 = .ok (.invokevirtual 307, 3) := by decide +kernel
theorem dX6_tell_42 : decode cX6_tell 42 = .ok (.invokevirtual 310, 3) := by decide +kernel
theorem dX6_tell_45 : decode cX6_tell 45 = .ok (.istore_n 1, 1) := by decide +kernel
theorem dX6_tell_46 : decode cX6_tell 46 = .ok (.goto (-35), 3) := by decide +kernel
theorem dX6_tell_49 : decode cX6_tell 49 = .ok (.aload_n 0, 1) := by decide +kernel
theorem dX6_tell_50 : decode cX6_tell 50 = .ok (.invokevirtual 313, 3) := by decide +kernel
theorem dX6_tell_53 : decode cX6_tell 53 = .ok (.aload_n 0, 1) := by decide +kernel
theorem dX6_tell_54 : decode cX6_tell 54 = .ok (.getfield 288, 3) := by decide +kernel
theorem dX6_tell_57 : decode cX6_tell 57 = .ok (.ireturn, 1) := by decide +kernel
theorem dX6_behind_0 : decode cX6_behind 0 = .ok (.iload_n 1, 1) := by decide +kernel
theorem dX6_behind_1 : decode cX6_behind 1 = .ok (.istore_n 2, 1) := by decide +kernel
theorem dX6_behind_2 : decode cX6_behind 2 = .ok (.iconst 1, 1) := by decide +kernel
theorem dX6_behind_3 : decode cX6_behind 3 = .ok (.istore_n 3, 1) := by decide +kernel
theorem dX6_behind_4 : decode cX6_behind 4 = .ok (.iload_n 3, 1) := by decide +kernel
theorem dX6_behind_5 : decode cX6_behind 5 = .ok (.ifCond .eq 83, 3) := by decide +kernel
theorem dX6_behind_8 : decode cX6_behind 8 = .ok (.iconst 0, 1) := by decide +kernel
theorem dX6_behind_9 : decode cX6_behind 9 = .ok (.istore_n 3, 1) := by decide +kernel
theorem dX6_behind_10 : decode cX6_behind 10 = .ok (.iconst 0, 1) := by decide +kernel
theorem dX6_behind_11 : decode cX6_behind 11 = .ok (.istore 4, 2) := by decide +kernel
theorem dX6_behind_13 : decode cX6_behind 13 = .ok (.iload 4, 2) := by decide +kernel
theorem dX6_behind_15 : decode cX6_behind 15 = .ok (.aload_n 0, 1) := by decide +kernel
theorem dX6_behind_16 : decode cX6_behind 16 = .ok (.getfield 192, 3) := by decide +kernel
theorem dX6_behind_19 : decode cX6_behind 19 = .ok (.if_icmp .ge 66, 3) := by decide +kernel
theorem dX6_behind_22 : decode cX6_behind 22 = .ok (.iload_n 3, 1) := by decide +kernel
theorem dX6_behind_23 : decode cX6_behind 23 = .ok (.ifCond .ne 62, 3) := by decide +kernel
theorem dX6_behind_26 : decode cX6_behind 26 = .ok (.aload_n 0, 1) := by decide +kernel
theorem dX6_behind_27 : decode cX6_behind 27 = .ok (.iload 4, 2) := by decide +kernel
theorem dX6_behind_29 : decode cX6_behind 29 = .ok (.iconst 0, 1) := by decide +kernel
theorem dX6_behind_30 : decode cX6_behind 30 = .ok (.invokevirtual 212, 3) := by decide +kernel
theorem dX6_behind_33 : decode cX6_behind 33 = .ok (.iconst 5, 1) := by decide +kernel
theorem dX6_behind_34 : decode cX6_behind 34 = .ok (.if_icmp .ne 45, 3) := by decide +kernel
theorem dX6_behind_37 : decode cX6_behind 37 = .ok (.aload_n 0, 1) := by decide +kernel
theorem dX6_behind_38 : decode cX6_behind 38 = .ok (.getfield 31, 3) := by decide +kernel
theorem dX6_behind_41 : decode cX6_behind 41 = .ok (.iload 4, 2) := by decide +kernel
theorem dX6_behind_43 : decode cX6_behind 43 = .ok (.iaload, 1) := by decide +kernel
theorem dX6_behind_44 : decode cX6_behind 44 = .ok (.iload_n 2, 1) := by decide +kernel
theorem dX6_behind_45 : decode cX6_behind 45 = .ok (.if_icmp .ne 34, 3) := by decide +kernel
theorem dX6_behind_48 : decode cX6_behind 48 = .ok (.aload_n 0, 1) := by decide +kernel
theorem dX6_behind_49 : decode cX6_behind 49 = .ok (.getfield 34, 3) := by decide +kernel
theorem dX6_behind_52 : decode cX6_behind 52 = .ok (.iload 4, 2) := by decide +kernel
theorem dX6_behind_54 : decode cX6_behind 54 = .ok (.iaload, 1) := by decide +kernel
theorem dX6_behind_55 : decode cX6_behind 55 = .ok (.iload_n 2, 1) := by decide +kernel
theorem dX6_behind_56 : decode cX6_behind 56 = .ok (.if_icmp .le 23, 3) := by decide +kernel
theorem dX6_behind_59 : decode cX6_behind 59 = .ok (.aload_n 0, 1) := by decide +kernel
theorem dX6_behind_60 : decode cX6_behind 60 = .ok (.getfield 99, 3) := by decide +kernel
theorem dX6_behind_63 : decode cX6_behind 63 = .ok (.iload 4, 2) := by decide +kernel
theorem dX6_behind_65 : decode cX6_behind 65 = .ok (.baload, 1) := by decide +kernel
theorem dX6_behind_66 : decode cX6_behind 66 = .ok (.ifCond .eq 13, 3) := by decide +kernel
theorem dX6_behind_69 : decode cX6_behind 69 = .ok (.aload_n 0, 1) := by decide +kernel
theorem dX6_behind_70 : decode cX6_behind 70 = .ok (.getfield 34, 3) := by decide +kernel
theorem dX6_behind_73 : decode cX6_behind 73 = .ok (.iload 4, 2) := by decide +kernel
theorem dX6_behind_75 : decode cX6_behind 75 = .ok (.iaload, 1) := by decide +kernel
theorem dX6_behind_76 : decode cX6_behind 76 = .ok (.istore_n 2, 1) := by decide +kernel
theorem dX6_behind_77 : decode cX6_behind 77 = .ok (.iconst 1, 1) := by decide +kernel
theorem dX6_behind_78 : decode cX6_behind 78 = .ok (.istore_n 3, 1) := by decide +kernel
theorem dX6_behind_79 : decode cX6_behind 79 = .ok (.iinc 4 1, 3) := by decide +kernel
theorem dX6_behind_82 : decode cX6_behind 82 = .ok (.goto (-69), 3) := by decide +kernel
theorem dX6_behind_85 : decode cX6_behind 85 = .ok (.goto (-81), 3) := by decide +kernel
theorem dX6_behind_88 : decode cX6_behind 88 = .ok (.iload_n 2, 1) := by decide +kernel
theorem dX6_behind_89 : decode cX6_behind 89 = .ok (.ireturn, 1) := by decide +kernel
theorem dX6_run_0 : decode cX6_run 0 = .ok (.aload_n 0, 1) := by decide +kernel
theorem dX6_run_1 : decode cX6_run 1 = .ok (.aload_n 0, 1) := by decide +kernel
theorem dX6_run_2 : decode cX6_run 2 = .ok (.getfield 195, 3) := by decide +kernel
theorem dX6_run_5 : decode cX6_run 5 = .ok (.iconst 1, 1) := by decide +kernel
theorem dX6_run_6 : decode cX6_run 6 = .ok (.invokevirtual 111, 3) := by decide +kernel
theorem dX6_run_9 : decode cX6_run 9 = .ok (.ifCond .ne 5, 3) := by decide +kernel
theorem dX6_run_12 : decode cX6_run 12 = .ok (.iconst 0, 1) := by decide +kernel
theorem dX6_run_13 : decode cX6_run 13 = .ok (.ireturn, 1) := by decide +kernel
theorem dX6_run_14 : decode cX6_run 14 = .ok (.aload_n 0, 1) := by decide +kernel
theorem dX6_run_15 : decode cX6_run 15 = .ok (.invokevirtual 304, 3) := by decide +kernel
theorem dX6_run_18 : decode cX6_run 18 = .ok (.iconst 0, 1) := by decide +kernel
theorem dX6_run_19 : decode cX6_run 19 = .ok (.istore_n 1, 1) := by decide +kernel
theorem dX6_run_20 : decode cX6_run 20 = .ok (.iload_n 1, 1) := by decide +kernel
theorem dX6_run_21 : decode cX6_run 21 = .ok (.aload_n 0, 1) := by decide +kernel
theorem dX6_run_22 : decode cX6_run 22 = .ok (.getfield 199, 3) := by decide +kernel
theorem dX6_run_25 : decode cX6_run 25 = .ok (.if_icmp .ge 29, 3) := by decide +kernel
theorem dX6_run_28 : decode cX6_run 28 = .ok (.aload_n 0, 1) := by decide +kernel
theorem dX6_run_29 : decode cX6_run 29 = .ok (.getfield 288, 3) := by decide +kernel
theorem dX6_run_32 : decode cX6_run 32 = .ok (.ifCond .ne 22, 3) := by decide +kernel
theorem dX6_run_35 : decode cX6_run 35 = .ok (.aload_n 0, 1) := by decide +kernel
theorem dX6_run_36 : decode cX6_run 36 = .ok (.dup, 1) := by decide +kernel
theorem dX6_run_37 : decode cX6_run 37 = .ok (.getfield 285, 3) := by decide +kernel
theorem dX6_run_40 : decode cX6_run 40 = .ok (.iconst 1, 1) := by decide +kernel
theorem dX6_run_41 : decode cX6_run 41 = .ok (.iadd, 1) := by decide +kernel
theorem dX6_run_42 : decode cX6_run 42 = .ok (.putfield 285, 3) := by decide +kernel
theorem dX6_run_45 : decode cX6_run 45 = .ok (.aload_n 0, 1) := by decide +kernel
theorem dX6_run_46 : decode cX6_run 46 = .ok (.iload_n 1, 1) := by decide +kernel
theorem dX6_run_47 : decode cX6_run 47 = .ok (.invokevirtual 316, 3) := by decide +kernel
theorem dX6_run_50 : decode cX6_run 50 = .ok (.istore_n 1, 1) := by decide +kernel
theorem dX6_run_51 : decode cX6_run 51 = .ok (.goto (-31), 3) := by decide +kernel
theorem dX6_run_54 : decode cX6_run 54 = .ok (.aload_n 0, 1) := by decide +kernel
theorem dX6_run_55 : decode cX6_run 55 = .ok (.invokevirtual 313, 3) := by decide +kernel
theorem dX6_run_58 : decode cX6_run 58 = .ok (.aload_n 0, 1) := by decide +kernel
theorem dX6_run_59 : decode cX6_run 59 = .ok (.getfield 288, 3) := by decide +kernel
theorem dX6_run_62 : decode cX6_run 62 = .ok (.ireturn, 1) := by decide +kernel
theorem dX6_doStep_0 : decode cX6_doStep 0 = .ok (.bipush 6, 2) := by decide +kernel
theorem dX6_doStep_2 : decode cX6_doStep 2 = .ok (.iload_n 1, 1) := by decide +kernel
theorem dX6_doStep_3 : decode cX6_doStep 3 = .ok (.imul, 1) := by decide +kernel
theorem dX6_doStep_4 : decode cX6_doStep 4 = .ok (.istore_n 2, 1) := by decide +kernel
theorem dX6_doStep_5 : decode cX6_doStep 5 = .ok (.aload_n 0, 1) := by decide +kernel
theorem dX6_doStep_6 : decode cX6_doStep 6 = .ok (.getfield 44, 3) := by decide +kernel
theorem dX6_doStep_9 : decode cX6_doStep 9 = .ok (.iload_n 2, 1) := by decide +kernel
theorem dX6_doStep_10 : decode cX6_doStep 10 = .ok (.iconst 1, 1) := by decide +kernel
theorem dX6_doStep_11 : decode cX6_doStep 11 = .ok (.iadd, 1) := by decide +kernel
theorem dX6_doStep_12 : decode cX6_doStep 12 = .ok (.iaload, 1) := by decide +kernel
theorem dX6_doStep_13 : decode cX6_doStep 13 = .ok (.istore_n 3, 1) := by decide +kernel
theorem dX6_doStep_14 : decode cX6_doStep 14 = .ok (.aload_n 0, 1) := by decide +kernel
theorem dX6_doStep_15 : decode cX6_doStep 15 = .ok (.getfield 44, 3) := by decide +kernel
theorem dX6_doStep_18 : decode cX6_doStep 18 = .ok (.iload_n 2, 1) := by decide +kernel
theorem dX6_doStep_19 : decode cX6_doStep 19 = .ok (.iconst 5, 1) := by decide +kernel
theorem dX6_doStep_20 : decode cX6_doStep 20 = .ok (.iadd, 1) := by decide +kernel
theorem dX6_doStep_21 : decode cX6_doStep 21 = .ok (.iaload, 1) := by decide +kernel
theorem dX6_doStep_22 : decode cX6_doStep 22 = .ok (.istore 4, 2) := by decide +kernel
theorem dX6_doStep_24 : decode cX6_doStep 24 = .ok (.aload_n 0, 1) := by decide +kernel
theorem dX6_doStep_25 : decode cX6_doStep 25 = .ok (.getfield 44, 3) := by decide +kernel
theorem dX6_doStep_28 : decode cX6_doStep 28 = .ok (.iload_n 2, 1) := by decide +kernel
theorem dX6_doStep_29 : decode cX6_doStep 29 = .ok (.iaload, 1) := by decide +kernel
theorem dX6_doStep_30 : decode cX6_doStep 30 = .ok (.tableswitch 328 0 18 #[90, 107, 328, 328, 328, 328, 328, 328, 328, 328, 328, 328, 328, 129, 183, 232, 274, 276, 300], 90) := by decide +kernel
theorem dX6_doStep_120 : decode cX6_doStep 120 = .ok (.aload_n 0, 1) := by decide +kernel
theorem dX6_doStep_121 : decode cX6_doStep 121 = .ok (.getfield 96, 3) := by decide +kernel
theorem dX6_doStep_124 : decode cX6_doStep 124 = .ok (.iload_n 3, 1) := by decide +kernel
theorem dX6_doStep_125 : decode cX6_doStep 125 = .ok (.aload_n 0, 1) := by decide +kernel
theorem dX6_doStep_126 : decode cX6_doStep 126 = .ok (.getfield 44, 3) := by decide +kernel
theorem dX6_doStep_129 : decode cX6_doStep 129 = .ok (.iload_n 2, 1) := by decide +kernel
theorem dX6_doStep_130 : decode cX6_doStep 130 = .ok (.iconst 2, 1) := by decide +kernel
theorem dX6_doStep_131 : decode cX6_doStep 131 = .ok (.iadd, 1) := by decide +kernel
theorem dX6_doStep_132 : decode cX6_doStep 132 = .ok (.iaload, 1) := by decide +kernel
theorem dX6_doStep_133 : decode cX6_doStep 133 = .ok (.iastore, 1) := by decide +kernel
theorem dX6_doStep_134 : decode cX6_doStep 134 = .ok (.goto 288, 3) := by decide +kernel
theorem dX6_doStep_137 : decode cX6_doStep 137 = .ok (.aload_n 0, 1) := by decide +kernel
theorem dX6_doStep_138 : decode cX6_doStep 138 = .ok (.getfield 96, 3) := by decide +kernel
theorem dX6_doStep_141 : decode cX6_doStep 141 = .ok (.iload_n 3, 1) := by decide +kernel
theorem dX6_doStep_142 : decode cX6_doStep 142 = .ok (.aload_n 0, 1) := by decide +kernel
theorem dX6_doStep_143 : decode cX6_doStep 143 = .ok (.getfield 96, 3) := by decide +kernel
theorem dX6_doStep_146 : decode cX6_doStep 146 = .ok (.aload_n 0, 1) := by decide +kernel
theorem dX6_doStep_147 : decode cX6_doStep 147 = .ok (.getfield 44, 3) := by decide +kernel
theorem dX6_doStep_150 : decode cX6_doStep 150 = .ok (.iload_n 2, 1) := by decide +kernel
theorem dX6_doStep_151 : decode cX6_doStep 151 = .ok (.iconst 2, 1) := by decide +kernel
theorem dX6_doStep_152 : decode cX6_doStep 152 = .ok (.iadd, 1) := by decide +kernel
theorem dX6_doStep_153 : decode cX6_doStep 153 = .ok (.iaload, 1) := by decide +kernel
theorem dX6_doStep_154 : decode cX6_doStep 154 = .ok (.iaload, 1) := by decide +kernel
theorem dX6_doStep_155 : decode cX6_doStep 155 = .ok (.iastore, 1) := by decide +kernel
theorem dX6_doStep_156 : decode cX6_doStep 156 = .ok (.goto 266, 3) := by decide +kernel
theorem dX6_doStep_159 : decode cX6_doStep 159 = .ok (.aload_n 0, 1) := by decide +kernel
theorem dX6_doStep_160 : decode cX6_doStep 160 = .ok (.getfield 96, 3) := by decide +kernel
theorem dX6_doStep_163 : decode cX6_doStep 163 = .ok (.iload_n 3, 1) := by decide +kernel
theorem dX6_doStep_164 : decode cX6_doStep 164 = .ok (.aload_n 0, 1) := by decide +kernel
theorem dX6_doStep_165 : decode cX6_doStep 165 = .ok (.getfield 96, 3) := by decide +kernel
theorem dX6_doStep_168 : decode cX6_doStep 168 = .ok (.aload_n 0, 1) := by decide +kernel
theorem dX6_doStep_169 : decode cX6_doStep 169 = .ok (.getfield 44, 3) := by decide +kernel
theorem dX6_doStep_172 : decode cX6_doStep 172 = .ok (.iload_n 2, 1) := by decide +kernel
theorem dX6_doStep_173 : decode cX6_doStep 173 = .ok (.iconst 2, 1) := by decide +kernel
theorem dX6_doStep_174 : decode cX6_doStep 174 = .ok (.iadd, 1) := by decide +kernel
theorem dX6_doStep_175 : decode cX6_doStep 175 = .ok (.iaload, 1) := by decide +kernel
theorem dX6_doStep_176 : decode cX6_doStep 176 = .ok (.iaload, 1) := by decide +kernel
theorem dX6_doStep_177 : decode cX6_doStep 177 = .ok (.ifCond .eq 19, 3) := by decide +kernel
theorem dX6_doStep_180 : decode cX6_doStep 180 = .ok (.aload_n 0, 1) := by decide +kernel
theorem dX6_doStep_181 : decode cX6_doStep 181 = .ok (.getfield 96, 3) := by decide +kernel
theorem dX6_doStep_184 : decode cX6_doStep 184 = .ok (.aload_n 0, 1) := by decide +kernel
theorem dX6_doStep_185 : decode cX6_doStep 185 = .ok (.getfield 44, 3) := by decide +kernel
theorem dX6_doStep_188 : decode cX6_doStep 188 = .ok (.iload_n 2, 1) := by decide +kernel
theorem dX6_doStep_189 : decode cX6_doStep 189 = .ok (.iconst 3, 1) := by decide +kernel
theorem dX6_doStep_190 : decode cX6_doStep 190 = .ok (.iadd, 1) := by decide +kernel
theorem dX6_doStep_191 : decode cX6_doStep 191 = .ok (.iaload, 1) := by decide +kernel
theorem dX6_doStep_192 : decode cX6_doStep 192 = .ok (.iaload, 1) := by decide +kernel
theorem dX6_doStep_193 : decode cX6_doStep 193 = .ok (.goto 16, 3) := by decide +kernel
theorem dX6_doStep_196 : decode cX6_doStep 196 = .ok (.aload_n 0, 1) := by decide +kernel
theorem dX6_doStep_197 : decode cX6_doStep 197 = .ok (.getfield 96, 3) := by decide +kernel
theorem dX6_doStep_200 : decode cX6_doStep 200 = .ok (.aload_n 0, 1) := by decide +kernel
theorem dX6_doStep_201 : decode cX6_doStep 201 = .ok (.getfield 44, 3) := by decide +kernel
theorem dX6_doStep_204 : decode cX6_doStep 204 = .ok (.iload_n 2, 1) := by decide +kernel
theorem dX6_doStep_205 : decode cX6_doStep 205 = .ok (.iconst 4, 1) := by decide +kernel
theorem dX6_doStep_206 : decode cX6_doStep 206 = .ok (.iadd, 1) := by decide +kernel
theorem dX6_doStep_207 : decode cX6_doStep 207 = .ok (.iaload, 1) := by decide +kernel
theorem dX6_doStep_208 : decode cX6_doStep 208 = .ok (.iaload, 1) := by decide +kernel
theorem dX6_doStep_209 : decode cX6_doStep 209 = .ok (.iastore, 1) := by decide +kernel
theorem dX6_doStep_210 : decode cX6_doStep 210 = .ok (.goto 212, 3) := by decide +kernel
theorem dX6_doStep_213 : decode cX6_doStep 213 = .ok (.aload_n 0, 1) := by decide +kernel
theorem dX6_doStep_214 : decode cX6_doStep 214 = .ok (.aload_n 0, 1) := by decide +kernel
theorem dX6_doStep_215 : decode cX6_doStep 215 = .ok (.getfield 96, 3) := by decide +kernel
theorem dX6_doStep_218 : decode cX6_doStep 218 = .ok (.aload_n 0, 1) := by decide +kernel
theorem dX6_doStep_219 : decode cX6_doStep 219 = .ok (.getfield 44, 3) := by decide +kernel
theorem dX6_doStep_222 : decode cX6_doStep 222 = .ok (.iload_n 2, 1) := by decide +kernel
theorem dX6_doStep_223 : decode cX6_doStep 223 = .ok (.iconst 2, 1) := by decide +kernel
theorem dX6_doStep_224 : decode cX6_doStep 224 = .ok (.iadd, 1) := by decide +kernel
theorem dX6_doStep_225 : decode cX6_doStep 225 = .ok (.iaload, 1) := by decide +kernel
theorem dX6_doStep_226 : decode cX6_doStep 226 = .ok (.iaload, 1) := by decide +kernel
theorem dX6_doStep_227 : decode cX6_doStep 227 = .ok (.iload 4, 2) := by decide +kernel
theorem dX6_doStep_229 : decode cX6_doStep 229 = .ok (.invokevirtual 301, 3) := by decide +kernel
theorem dX6_doStep_232 : decode cX6_doStep 232 = .ok (.ifCond .eq 190, 3) := by decide +kernel
theorem dX6_doStep_235 : decode cX6_doStep 235 = .ok (.aload_n 0, 1) := by decide +kernel
theorem dX6_doStep_236 : decode cX6_doStep 236 = .ok (.getfield 96, 3) := by decide +kernel
theorem dX6_doStep_239 : decode cX6_doStep 239 = .ok (.iload_n 3, 1) := by decide +kernel
theorem dX6_doStep_240 : decode cX6_doStep 240 = .ok (.aload_n 0, 1) := by decide +kernel
theorem dX6_doStep_241 : decode cX6_doStep 241 = .ok (.getfield 87, 3) := by decide +kernel
theorem dX6_doStep_244 : decode cX6_doStep 244 = .ok (.aload_n 0, 1) := by decide +kernel
theorem dX6_doStep_245 : decode cX6_doStep 245 = .ok (.getfield 96, 3) := by decide +kernel
theorem dX6_doStep_248 : decode cX6_doStep 248 = .ok (.aload_n 0, 1) := by decide +kernel
theorem dX6_doStep_249 : decode cX6_doStep 249 = .ok (.getfield 44, 3) := by decide +kernel
theorem dX6_doStep_252 : decode cX6_doStep 252 = .ok (.iload_n 2, 1) := by decide +kernel
theorem dX6_doStep_253 : decode cX6_doStep 253 = .ok (.iconst 2, 1) := by decide +kernel
theorem dX6_doStep_254 : decode cX6_doStep 254 = .ok (.iadd, 1) := by decide +kernel
theorem dX6_doStep_255 : decode cX6_doStep 255 = .ok (.iaload, 1) := by decide +kernel
theorem dX6_doStep_256 : decode cX6_doStep 256 = .ok (.iaload, 1) := by decide +kernel
theorem dX6_doStep_257 : decode cX6_doStep 257 = .ok (.iaload, 1) := by decide +kernel
theorem dX6_doStep_258 : decode cX6_doStep 258 = .ok (.iastore, 1) := by decide +kernel
theorem dX6_doStep_259 : decode cX6_doStep 259 = .ok (.goto 163, 3) := by decide +kernel
theorem dX6_doStep_262 : decode cX6_doStep 262 = .ok (.aload_n 0, 1) := by decide +kernel
theorem dX6_doStep_263 : decode cX6_doStep 263 = .ok (.aload_n 0, 1) := by decide +kernel
theorem dX6_doStep_264 : decode cX6_doStep 264 = .ok (.getfield 96, 3) := by decide +kernel
theorem dX6_doStep_267 : decode cX6_doStep 267 = .ok (.iload_n 3, 1) := by decide +kernel
theorem dX6_doStep_268 : decode cX6_doStep 268 = .ok (.iaload, 1) := by decide +kernel
theorem dX6_doStep_269 : decode cX6_doStep 269 = .ok (.iload 4, 2) := by decide +kernel
theorem dX6_doStep_271 : decode cX6_doStep 271 = .ok (.invokevirtual 301, 3) := by decide +kernel
theorem dX6_doStep_274 : decode cX6_doStep 274 = .ok (.ifCond .eq 148, 3) := by decide +kernel
theorem dX6_doStep_277 : decode cX6_doStep 277 = .ok (.aload_n 0, 1) := by decide +kernel
theorem dX6_doStep_278 : decode cX6_doStep 278 = .ok (.getfield 87, 3) := by decide +kernel
theorem dX6_doStep_281 : decode cX6_doStep 281 = .ok (.aload_n 0, 1) := by decide +kernel
theorem dX6_doStep_282 : decode cX6_doStep 282 = .ok (.getfield 96, 3) := by decide +kernel
theorem dX6_doStep_285 : decode cX6_doStep 285 = .ok (.iload_n 3, 1) := by decide +kernel
theorem dX6_doStep_286 : decode cX6_doStep 286 = .ok (.iaload, 1) := by decide +kernel
theorem dX6_doStep_287 : decode cX6_doStep 287 = .ok (.aload_n 0, 1) := by decide +kernel
theorem dX6_doStep_288 : decode cX6_doStep 288 = .ok (.getfield 96, 3) := by decide +kernel
theorem dX6_doStep_291 : decode cX6_doStep 291 = .ok (.aload_n 0, 1) := by decide +kernel
theorem dX6_doStep_292 : decode cX6_doStep 292 = .ok (.getfield 44, 3) := by decide +kernel
theorem dX6_doStep_295 : decode cX6_doStep 295 = .ok (.iload_n 2, 1) := by decide +kernel
theorem dX6_doStep_296 : decode cX6_doStep 296 = .ok (.iconst 2, 1) := by decide +kernel
theorem dX6_doStep_297 : decode cX6_doStep 297 = .ok (.iadd, 1) := by decide +kernel
theorem dX6_doStep_298 : decode cX6_doStep 298 = .ok (.iaload, 1) := by decide +kernel
theorem dX6_doStep_299 : decode cX6_doStep 299 = .ok (.iaload, 1) := by decide +kernel
theorem dX6_doStep_300 : decode cX6_doStep 300 = .ok (.iastore, 1) := by decide +kernel
theorem dX6_doStep_301 : decode cX6_doStep 301 = .ok (.goto 121, 3) := by decide +kernel
theorem dX6_doStep_304 : decode cX6_doStep 304 = .ok (.iload_n 3, 1) := by decide +kernel
theorem dX6_doStep_305 : decode cX6_doStep 305 = .ok (.ireturn, 1) := by decide +kernel
theorem dX6_doStep_306 : decode cX6_doStep 306 = .ok (.aload_n 0, 1) := by decide +kernel
theorem dX6_doStep_307 : decode cX6_doStep 307 = .ok (.getfield 96, 3) := by decide +kernel
theorem dX6_doStep_310 : decode cX6_doStep 310 = .ok (.iload_n 3, 1) := by decide +kernel
theorem dX6_doStep_311 : decode cX6_doStep 311 = .ok (.iaload, 1) := by decide +kernel
theorem dX6_doStep_312 : decode cX6_doStep 312 = .ok (.ifCond .ne 14, 3) := by decide +kernel
theorem dX6_doStep_315 : decode cX6_doStep 315 = .ok (.aload_n 0, 1) := by decide +kernel
theorem dX6_doStep_316 : decode cX6_doStep 316 = .ok (.getfield 44, 3) := by decide +kernel
theorem dX6_doStep_319 : decode cX6_doStep 319 = .ok (.iload_n 2, 1) := by decide +kernel
theorem dX6_doStep_320 : decode cX6_doStep 320 = .ok (.iconst 2, 1) := by decide +kernel
theorem dX6_doStep_321 : decode cX6_doStep 321 = .ok (.iadd, 1) := by decide +kernel
theorem dX6_doStep_322 : decode cX6_doStep 322 = .ok (.iaload, 1) := by decide +kernel
theorem dX6_doStep_323 : decode cX6_doStep 323 = .ok (.goto 6, 3) := by decide +kernel
theorem dX6_doStep_326 : decode cX6_doStep 326 = .ok (.iload_n 1, 1) := by decide +kernel
theorem dX6_doStep_327 : decode cX6_doStep 327 = .ok (.iconst 1, 1) := by decide +kernel
theorem dX6_doStep_328 : decode cX6_doStep 328 = .ok (.iadd, 1) := by decide +kernel
theorem dX6_doStep_329 : decode cX6_doStep 329 = .ok (.ireturn, 1) := by decide +kernel
theorem dX6_doStep_330 : decode cX6_doStep 330 = .ok (.aload_n 0, 1) := by decide +kernel
theorem dX6_doStep_331 : decode cX6_doStep 331 = .ok (.getfield 90, 3) := by decide +kernel
theorem dX6_doStep_334 : decode cX6_doStep 334 = .ok (.aload_n 0, 1) := by decide +kernel
theorem dX6_doStep_335 : decode cX6_doStep 335 = .ok (.getfield 282, 3) := by decide +kernel
theorem dX6_doStep_338 : decode cX6_doStep 338 = .ok (.aload_n 0, 1) := by decide +kernel
theorem dX6_doStep_339 : decode cX6_doStep 339 = .ok (.getfield 96, 3) := by decide +kernel
theorem dX6_doStep_342 : decode cX6_doStep 342 = .ok (.iload_n 3, 1) := by decide +kernel
theorem dX6_doStep_343 : decode cX6_doStep 343 = .ok (.iaload, 1) := by decide +kernel
theorem dX6_doStep_344 : decode cX6_doStep 344 = .ok (.iastore, 1) := by decide +kernel
theorem dX6_doStep_345 : decode cX6_doStep 345 = .ok (.aload_n 0, 1) := by decide +kernel
theorem dX6_doStep_346 : decode cX6_doStep 346 = .ok (.dup, 1) := by decide +kernel
theorem dX6_doStep_347 : decode cX6_doStep 347 = .ok (.getfield 282, 3) := by decide +kernel
theorem dX6_doStep_350 : decode cX6_doStep 350 = .ok (.iconst 1, 1) := by decide +kernel
theorem dX6_doStep_351 : decode cX6_doStep 351 = .ok (.iadd, 1) := by decide +kernel
theorem dX6_doStep_352 : decode cX6_doStep 352 = .ok (.putfield 282, 3) := by decide +kernel
theorem dX6_doStep_355 : decode cX6_doStep 355 = .ok (.goto 67, 3) := by decide +kernel
theorem dX6_doStep_358 : decode cX6_doStep 358 = .ok (.aload_n 0, 1) := by decide +kernel
theorem dX6_doStep_359 : decode cX6_doStep 359 = .ok (.aload_n 0, 1) := by decide +kernel
theorem dX6_doStep_360 : decode cX6_doStep 360 = .ok (.getfield 44, 3) := by decide +kernel
theorem dX6_doStep_363 : decode cX6_doStep 363 = .ok (.iload_n 2, 1) := by decide +kernel
theorem dX6_doStep_364 : decode cX6_doStep 364 = .ok (.iaload, 1) := by decide +kernel
theorem dX6_doStep_365 : decode cX6_doStep 365 = .ok (.aload_n 0, 1) := by decide +kernel
theorem dX6_doStep_366 : decode cX6_doStep 366 = .ok (.getfield 96, 3) := by decide +kernel
theorem dX6_doStep_369 : decode cX6_doStep 369 = .ok (.aload_n 0, 1) := by decide +kernel
theorem dX6_doStep_370 : decode cX6_doStep 370 = .ok (.getfield 44, 3) := by decide +kernel
theorem dX6_doStep_373 : decode cX6_doStep 373 = .ok (.iload_n 2, 1) := by decide +kernel
theorem dX6_doStep_374 : decode cX6_doStep 374 = .ok (.iconst 2, 1) := by decide +kernel
theorem dX6_doStep_375 : decode cX6_doStep 375 = .ok (.iadd, 1) := by decide +kernel
theorem dX6_doStep_376 : decode cX6_doStep 376 = .ok (.iaload, 1) := by decide +kernel
theorem dX6_doStep_377 : decode cX6_doStep 377 = .ok (.iaload, 1) := by decide +kernel
theorem dX6_doStep_378 : decode cX6_doStep 378 = .ok (.aload_n 0, 1) := by decide +kernel
theorem dX6_doStep_379 : decode cX6_doStep 379 = .ok (.getfield 96, 3) := by decide +kernel
theorem dX6_doStep_382 : decode cX6_doStep 382 = .ok (.aload_n 0, 1) := by decide +kernel
theorem dX6_doStep_383 : decode cX6_doStep 383 = .ok (.getfield 44, 3) := by decide +kernel
theorem dX6_doStep_386 : decode cX6_doStep 386 = .ok (.iload_n 2, 1) := by decide +kernel
theorem dX6_doStep_387 : decode cX6_doStep 387 = .ok (.iconst 3, 1) := by decide +kernel
theorem dX6_doStep_388 : decode cX6_doStep 388 = .ok (.iadd, 1) := by decide +kernel
theorem dX6_doStep_389 : decode cX6_doStep 389 = .ok (.iaload, 1) := by decide +kernel
theorem dX6_doStep_390 : decode cX6_doStep 390 = .ok (.iaload, 1) := by decide +kernel
theorem dX6_doStep_391 : decode cX6_doStep 391 = .ok (.iload 4, 2) := by decide +kernel
theorem dX6_doStep_393 : decode cX6_doStep 393 = .ok (.invokevirtual 297, 3) := by decide +kernel
theorem dX6_doStep_396 : decode cX6_doStep 396 = .ok (.istore 5, 2) := by decide +kernel
theorem dX6_doStep_398 : decode cX6_doStep 398 = .ok (.aload_n 0, 1) := by decide +kernel
theorem dX6_doStep_399 : decode cX6_doStep 399 = .ok (.getfield 96, 3) := by decide +kernel
theorem dX6_doStep_402 : decode cX6_doStep 402 = .ok (.iload_n 3, 1) := by decide +kernel
theorem dX6_doStep_403 : decode cX6_doStep 403 = .ok (.aload_n 0, 1) := by decide +kernel
theorem dX6_doStep_404 : decode cX6_doStep 404 = .ok (.getfield 288, 3) := by decide +kernel
theorem dX6_doStep_407 : decode cX6_doStep 407 = .ok (.ifCond .ne 8, 3) := by decide +kernel
theorem dX6_doStep_410 : decode cX6_doStep 410 = .ok (.iload 5, 2) := by decide +kernel
theorem dX6_doStep_412 : decode cX6_doStep 412 = .ok (.goto 9, 3) := by decide +kernel
theorem dX6_doStep_415 : decode cX6_doStep 415 = .ok (.aload_n 0, 1) := by decide +kernel
theorem dX6_doStep_416 : decode cX6_doStep 416 = .ok (.getfield 96, 3) := by decide +kernel
theorem dX6_doStep_419 : decode cX6_doStep 419 = .ok (.iload_n 3, 1) := by decide +kernel
theorem dX6_doStep_420 : decode cX6_doStep 420 = .ok (.iaload, 1) := by decide +kernel
theorem dX6_doStep_421 : decode cX6_doStep 421 = .ok (.iastore, 1) := by decide +kernel
theorem dX6_doStep_422 : decode cX6_doStep 422 = .ok (.iload_n 1, 1) := by decide +kernel
theorem dX6_doStep_423 : decode cX6_doStep 423 = .ok (.iconst 1, 1) := by decide +kernel
theorem dX6_doStep_424 : decode cX6_doStep 424 = .ok (.iadd, 1) := by decide +kernel
theorem dX6_doStep_425 : decode cX6_doStep 425 = .ok (.ireturn, 1) := by decide +kernel
theorem dX6_left_0 : decode cX6_left 0 = .ok (.aload_n 0, 1) := by decide +kernel
theorem dX6_left_1 : decode cX6_left 1 = .ok (.iload_n 1, 1) := by decide +kernel
theorem dX6_left_2 : decode cX6_left 2 = .ok (.i2l, 1) := by decide +kernel
theorem dX6_left_3 : decode cX6_left 3 = .ok (.lconst 0, 1) := by decide +kernel
theorem dX6_left_4 : decode cX6_left 4 = .ok (.ldc2_w 105, 3) := by decide +kernel
theorem dX6_left_7 : decode cX6_left 7 = .ok (.invokestatic 107, 3) := by decide +kernel
theorem dX6_left_10 : decode cX6_left 10 = .ok (.iconst 1, 1) := by decide +kernel
theorem dX6_left_11 : decode cX6_left 11 = .ok (.invokevirtual 111, 3) := by decide +kernel
theorem dX6_left_14 : decode cX6_left 14 = .ok (.ifCond .eq 12, 3) := by decide +kernel
theorem dX6_left_17 : decode cX6_left 17 = .ok (.aload_n 0, 1) := by decide +kernel
theorem dX6_left_18 : decode cX6_left 18 = .ok (.getfield 84, 3) := by decide +kernel
theorem dX6_left_21 : decode cX6_left 21 = .ok (.iload_n 1, 1) := by decide +kernel
theorem dX6_left_22 : decode cX6_left 22 = .ok (.iaload, 1) := by decide +kernel
theorem dX6_left_23 : decode cX6_left 23 = .ok (.goto 4, 3) := by decide +kernel
theorem dX6_left_26 : decode cX6_left 26 = .ok (.iconst 0, 1) := by decide +kernel
theorem dX6_left_27 : decode cX6_left 27 = .ok (.ireturn, 1) := by decide +kernel
theorem dX6_kept_0 : decode cX6_kept 0 = .ok (.aload_n 0, 1) := by decide +kernel
theorem dX6_kept_1 : decode cX6_kept 1 = .ok (.iload_n 1, 1) := by decide +kernel
theorem dX6_kept_2 : decode cX6_kept 2 = .ok (.i2l, 1) := by decide +kernel
theorem dX6_kept_3 : decode cX6_kept 3 = .ok (.lconst 0, 1) := by decide +kernel
theorem dX6_kept_4 : decode cX6_kept 4 = .ok (.ldc2_w 115, 3) := by decide +kernel
theorem dX6_kept_7 : decode cX6_kept 7 = .ok (.invokestatic 107, 3) := by decide +kernel
theorem dX6_kept_10 : decode cX6_kept 10 = .ok (.iconst 1, 1) := by decide +kernel
theorem dX6_kept_11 : decode cX6_kept 11 = .ok (.invokevirtual 111, 3) := by decide +kernel
theorem dX6_kept_14 : decode cX6_kept 14 = .ok (.ifCond .eq 12, 3) := by decide +kernel
theorem dX6_kept_17 : decode cX6_kept 17 = .ok (.aload_n 0, 1) := by decide +kernel
theorem dX6_kept_18 : decode cX6_kept 18 = .ok (.getfield 87, 3) := by decide +kernel
theorem dX6_kept_21 : decode cX6_kept 21 = .ok (.iload_n 1, 1) := by decide +kernel
theorem dX6_kept_22 : decode cX6_kept 22 = .ok (.iaload, 1) := by decide +kernel
theorem dX6_kept_23 : decode cX6_kept 23 = .ok (.goto 4, 3) := by decide +kernel
theorem dX6_kept_26 : decode cX6_kept 26 = .ok (.iconst 0, 1) := by decide +kernel
theorem dX6_kept_27 : decode cX6_kept 27 = .ok (.ireturn, 1) := by decide +kernel
theorem dX6_output_0 : decode cX6_output 0 = .ok (.aload_n 0, 1) := by decide +kernel
theorem dX6_output_1 : decode cX6_output 1 = .ok (.iload_n 1, 1) := by decide +kernel
theorem dX6_output_2 : decode cX6_output 2 = .ok (.i2l, 1) := by decide +kernel
theorem dX6_output_3 : decode cX6_output 3 = .ok (.lconst 0, 1) := by decide +kernel
theorem dX6_output_4 : decode cX6_output 4 = .ok (.aload_n 0, 1) := by decide +kernel
theorem dX6_output_5 : decode cX6_output 5 = .ok (.getfield 282, 3) := by decide +kernel
theorem dX6_output_8 : decode cX6_output 8 = .ok (.iconst 1, 1) := by decide +kernel
theorem dX6_output_9 : decode cX6_output 9 = .ok (.isub, 1) := by decide +kernel
theorem dX6_output_10 : decode cX6_output 10 = .ok (.i2l, 1) := by decide +kernel
theorem dX6_output_11 : decode cX6_output 11 = .ok (.invokestatic 107, 3) := by decide +kernel
theorem dX6_output_14 : decode cX6_output 14 = .ok (.iconst 1, 1) := by decide +kernel
theorem dX6_output_15 : decode cX6_output 15 = .ok (.invokevirtual 111, 3) := by decide +kernel
theorem dX6_output_18 : decode cX6_output 18 = .ok (.ifCond .eq 12, 3) := by decide +kernel
theorem dX6_output_21 : decode cX6_output 21 = .ok (.aload_n 0, 1) := by decide +kernel
theorem dX6_output_22 : decode cX6_output 22 = .ok (.getfield 90, 3) := by decide +kernel
theorem dX6_output_25 : decode cX6_output 25 = .ok (.iload_n 1, 1) := by decide +kernel
theorem dX6_output_26 : decode cX6_output 26 = .ok (.iaload, 1) := by decide +kernel
theorem dX6_output_27 : decode cX6_output 27 = .ok (.goto 4, 3) := by decide +kernel
theorem dX6_output_30 : decode cX6_output 30 = .ok (.iconst 0, 1) := by decide +kernel
theorem dX6_output_31 : decode cX6_output 31 = .ok (.ireturn, 1) := by decide +kernel
theorem dX6_countJumps_0 : decode cX6_countJumps 0 = .ok (.iconst 0, 1) := by decide +kernel
theorem dX6_countJumps_1 : decode cX6_countJumps 1 = .ok (.istore_n 1, 1) := by decide +kernel
theorem dX6_countJumps_2 : decode cX6_countJumps 2 = .ok (.iconst 0, 1) := by decide +kernel
theorem dX6_countJumps_3 : decode cX6_countJumps 3 = .ok (.istore_n 2, 1) := by decide +kernel
theorem dX6_countJumps_4 : decode cX6_countJumps 4 = .ok (.iload_n 2, 1) := by decide +kernel
theorem dX6_countJumps_5 : decode cX6_countJumps 5 = .ok (.aload_n 0, 1) := by decide +kernel
theorem dX6_countJumps_6 : decode cX6_countJumps 6 = .ok (.getfield 199, 3) := by decide +kernel
theorem dX6_countJumps_9 : decode cX6_countJumps 9 = .ok (.if_icmp .ge 45, 3) := by decide +kernel
theorem dX6_countJumps_12 : decode cX6_countJumps 12 = .ok (.iload_n 1, 1) := by decide +kernel
theorem dX6_countJumps_13 : decode cX6_countJumps 13 = .ok (.aload_n 0, 1) := by decide +kernel
theorem dX6_countJumps_14 : decode cX6_countJumps 14 = .ok (.getfield 44, 3) := by decide +kernel
theorem dX6_countJumps_17 : decode cX6_countJumps 17 = .ok (.bipush 6, 2) := by decide +kernel
theorem dX6_countJumps_19 : decode cX6_countJumps 19 = .ok (.iload_n 2, 1) := by decide +kernel
theorem dX6_countJumps_20 : decode cX6_countJumps 20 = .ok (.imul, 1) := by decide +kernel
theorem dX6_countJumps_21 : decode cX6_countJumps 21 = .ok (.iaload, 1) := by decide +kernel
theorem dX6_countJumps_22 : decode cX6_countJumps 22 = .ok (.bipush 16, 2) := by decide +kernel
theorem dX6_countJumps_24 : decode cX6_countJumps 24 = .ok (.if_icmp .eq 17, 3) := by decide +kernel
theorem dX6_countJumps_27 : decode cX6_countJumps 27 = .ok (.aload_n 0, 1) := by decide +kernel
theorem dX6_countJumps_28 : decode cX6_countJumps 28 = .ok (.getfield 44, 3) := by decide +kernel
theorem dX6_countJumps_31 : decode cX6_countJumps 31 = .ok (.bipush 6, 2) := by decide +kernel
theorem dX6_countJumps_33 : decode cX6_countJumps 33 = .ok (.iload_n 2, 1) := by decide +kernel
theorem dX6_countJumps_34 : decode cX6_countJumps 34 = .ok (.imul, 1) := by decide +kernel
theorem dX6_countJumps_35 : decode cX6_countJumps 35 = .ok (.iaload, 1) := by decide +kernel
theorem dX6_countJumps_36 : decode cX6_countJumps 36 = .ok (.bipush 17, 2) := by decide +kernel
theorem dX6_countJumps_38 : decode cX6_countJumps 38 = .ok (.if_icmp .ne 7, 3) := by decide +kernel
theorem dX6_countJumps_41 : decode cX6_countJumps 41 = .ok (.iconst 1, 1) := by decide +kernel
theorem dX6_countJumps_42 : decode cX6_countJumps 42 = .ok (.goto 4, 3) := by decide +kernel
theorem dX6_countJumps_45 : decode cX6_countJumps 45 = .ok (.iconst 0, 1) := by decide +kernel
theorem dX6_countJumps_46 : decode cX6_countJumps 46 = .ok (.iadd, 1) := by decide +kernel
theorem dX6_countJumps_47 : decode cX6_countJumps 47 = .ok (.istore_n 1, 1) := by decide +kernel
theorem dX6_countJumps_48 : decode cX6_countJumps 48 = .ok (.iinc 2 1, 3) := by decide +kernel
theorem dX6_countJumps_51 : decode cX6_countJumps 51 = .ok (.goto (-47), 3) := by decide +kernel
theorem dX6_countJumps_54 : decode cX6_countJumps 54 = .ok (.iload_n 1, 1) := by decide +kernel
theorem dX6_countJumps_55 : decode cX6_countJumps 55 = .ok (.ireturn, 1) := by decide +kernel
theorem dX6_countConverted_0 : decode cX6_countConverted 0 = .ok (.iconst 0, 1) := by decide +kernel
theorem dX6_countConverted_1 : decode cX6_countConverted 1 = .ok (.istore_n 1, 1) := by decide +kernel
theorem dX6_countConverted_2 : decode cX6_countConverted 2 = .ok (.iconst 0, 1) := by decide +kernel
theorem dX6_countConverted_3 : decode cX6_countConverted 3 = .ok (.istore_n 2, 1) := by decide +kernel
theorem dX6_countConverted_4 : decode cX6_countConverted 4 = .ok (.iload_n 2, 1) := by decide +kernel
theorem dX6_countConverted_5 : decode cX6_countConverted 5 = .ok (.aload_n 0, 1) := by decide +kernel
theorem dX6_countConverted_6 : decode cX6_countConverted 6 = .ok (.getfield 192, 3) := by decide +kernel
theorem dX6_countConverted_9 : decode cX6_countConverted 9 = .ok (.if_icmp .ge 26, 3) := by decide +kernel
theorem dX6_countConverted_12 : decode cX6_countConverted 12 = .ok (.iload_n 1, 1) := by decide +kernel
theorem dX6_countConverted_13 : decode cX6_countConverted 13 = .ok (.aload_n 0, 1) := by decide +kernel
theorem dX6_countConverted_14 : decode cX6_countConverted 14 = .ok (.getfield 51, 3) := by decide +kernel
theorem dX6_countConverted_17 : decode cX6_countConverted 17 = .ok (.iload_n 2, 1) := by decide +kernel
theorem dX6_countConverted_18 : decode cX6_countConverted 18 = .ok (.baload, 1) := by decide +kernel
theorem dX6_countConverted_19 : decode cX6_countConverted 19 = .ok (.ifCond .eq 7, 3) := by decide +kernel
theorem dX6_countConverted_22 : decode cX6_countConverted 22 = .ok (.iconst 1, 1) := by decide +kernel
theorem dX6_countConverted_23 : decode cX6_countConverted 23 = .ok (.goto 4, 3) := by decide +kernel
theorem dX6_countConverted_26 : decode cX6_countConverted 26 = .ok (.iconst 0, 1) := by decide +kernel
theorem dX6_countConverted_27 : decode cX6_countConverted 27 = .ok (.iadd, 1) := by decide +kernel
theorem dX6_countConverted_28 : decode cX6_countConverted 28 = .ok (.istore_n 1, 1) := by decide +kernel
theorem dX6_countConverted_29 : decode cX6_countConverted 29 = .ok (.iinc 2 1, 3) := by decide +kernel
theorem dX6_countConverted_32 : decode cX6_countConverted 32 = .ok (.goto (-28), 3) := by decide +kernel
theorem dX6_countConverted_35 : decode cX6_countConverted 35 = .ok (.iload_n 1, 1) := by decide +kernel
theorem dX6_countConverted_36 : decode cX6_countConverted 36 = .ok (.ireturn, 1) := by decide +kernel
theorem dX6_count_0 : decode cX6_count 0 = .ok (.aload_n 0, 1) := by decide +kernel
theorem dX6_count_1 : decode cX6_count 1 = .ok (.iload_n 1, 1) := by decide +kernel
theorem dX6_count_2 : decode cX6_count 2 = .ok (.i2l, 1) := by decide +kernel
theorem dX6_count_3 : decode cX6_count 3 = .ok (.lconst 0, 1) := by decide +kernel
theorem dX6_count_4 : decode cX6_count 4 = .ok (.ldc2_w 117, 3) := by decide +kernel
theorem dX6_count_7 : decode cX6_count 7 = .ok (.invokestatic 107, 3) := by decide +kernel
theorem dX6_count_10 : decode cX6_count 10 = .ok (.iconst 1, 1) := by decide +kernel
theorem dX6_count_11 : decode cX6_count 11 = .ok (.invokevirtual 111, 3) := by decide +kernel
theorem dX6_count_14 : decode cX6_count 14 = .ok (.ifCond .ne 5, 3) := by decide +kernel
theorem dX6_count_17 : decode cX6_count 17 = .ok (.iconst 0, 1) := by decide +kernel
theorem dX6_count_18 : decode cX6_count 18 = .ok (.ireturn, 1) := by decide +kernel
theorem dX6_count_19 : decode cX6_count 19 = .ok (.iload_n 1, 1) := by decide +kernel
theorem dX6_count_20 : decode cX6_count 20 = .ok (.tableswitch 88 0 7 #[48, 53, 58, 63, 68, 73, 78, 83], 48) := by decide +kernel
theorem dX6_count_68 : decode cX6_count 68 = .ok (.aload_n 0, 1) := by decide +kernel
theorem dX6_count_69 : decode cX6_count 69 = .ok (.getfield 192, 3) := by decide +kernel
theorem dX6_count_72 : decode cX6_count 72 = .ok (.ireturn, 1) := by decide +kernel
theorem dX6_count_73 : decode cX6_count 73 = .ok (.aload_n 0, 1) := by decide +kernel
theorem dX6_count_74 : decode cX6_count 74 = .ok (.getfield 199, 3) := by decide +kernel
theorem dX6_count_77 : decode cX6_count 77 = .ok (.ireturn, 1) := by decide +kernel
theorem dX6_count_78 : decode cX6_count 78 = .ok (.aload_n 0, 1) := by decide +kernel
theorem dX6_count_79 : decode cX6_count 79 = .ok (.getfield 47, 3) := by decide +kernel
theorem dX6_count_82 : decode cX6_count 82 = .ok (.ireturn, 1) := by decide +kernel
theorem dX6_count_83 : decode cX6_count 83 = .ok (.aload_n 0, 1) := by decide +kernel
theorem dX6_count_84 : decode cX6_count 84 = .ok (.invokevirtual 319, 3) := by decide +kernel
theorem dX6_count_87 : decode cX6_count 87 = .ok (.ireturn, 1) := by decide +kernel
theorem dX6_count_88 : decode cX6_count 88 = .ok (.aload_n 0, 1) := by decide +kernel
theorem dX6_count_89 : decode cX6_count 89 = .ok (.invokevirtual 322, 3) := by decide +kernel
theorem dX6_count_92 : decode cX6_count 92 = .ok (.ireturn, 1) := by decide +kernel
theorem dX6_count_93 : decode cX6_count 93 = .ok (.aload_n 0, 1) := by decide +kernel
theorem dX6_count_94 : decode cX6_count 94 = .ok (.getfield 282, 3) := by decide +kernel
theorem dX6_count_97 : decode cX6_count 97 = .ok (.ireturn, 1) := by decide +kernel
theorem dX6_count_98 : decode cX6_count 98 = .ok (.aload_n 0, 1) := by decide +kernel
theorem dX6_count_99 : decode cX6_count 99 = .ok (.getfield 119, 3) := by decide +kernel
theorem dX6_count_102 : decode cX6_count 102 = .ok (.ireturn, 1) := by decide +kernel
theorem dX6_count_103 : decode cX6_count 103 = .ok (.aload_n 0, 1) := by decide +kernel
theorem dX6_count_104 : decode cX6_count 104 = .ok (.getfield 93, 3) := by decide +kernel
theorem dX6_count_107 : decode cX6_count 107 = .ok (.ireturn, 1) := by decide +kernel
theorem dX6_count_108 : decode cX6_count 108 = .ok (.aload_n 0, 1) := by decide +kernel
theorem dX6_count_109 : decode cX6_count 109 = .ok (.getfield 285, 3) := by decide +kernel
theorem dX6_count_112 : decode cX6_count 112 = .ok (.ireturn, 1) := by decide +kernel
theorem dJ9_max_7cf53_0 : decode cJ9_max_7cf53 0 = .ok (.iload_n 0, 1) := by decide +kernel
theorem dJ9_max_7cf53_1 : decode cJ9_max_7cf53 1 = .ok (.iload_n 1, 1) := by decide +kernel
theorem dJ9_max_7cf53_2 : decode cJ9_max_7cf53 2 = .ok (.if_icmp .lt 7, 3) := by decide +kernel
theorem dJ9_max_7cf53_5 : decode cJ9_max_7cf53 5 = .ok (.iload_n 0, 1) := by decide +kernel
theorem dJ9_max_7cf53_6 : decode cJ9_max_7cf53 6 = .ok (.goto 4, 3) := by decide +kernel
theorem dJ9_max_7cf53_9 : decode cJ9_max_7cf53 9 = .ok (.iload_n 1, 1) := by decide +kernel
theorem dJ9_max_7cf53_10 : decode cJ9_max_7cf53 10 = .ok (.ireturn, 1) := by decide +kernel
theorem dJ9_min_f86c9_0 : decode cJ9_min_f86c9 0 = .ok (.lload_n 0, 1) := by decide +kernel
theorem dJ9_min_f86c9_1 : decode cJ9_min_f86c9 1 = .ok (.lload_n 2, 1) := by decide +kernel
theorem dJ9_min_f86c9_2 : decode cJ9_min_f86c9 2 = .ok (.lcmp, 1) := by decide +kernel
theorem dJ9_min_f86c9_3 : decode cJ9_min_f86c9 3 = .ok (.ifCond .gt 7, 3) := by decide +kernel
theorem dJ9_min_f86c9_6 : decode cJ9_min_f86c9 6 = .ok (.lload_n 0, 1) := by decide +kernel
theorem dJ9_min_f86c9_7 : decode cJ9_min_f86c9 7 = .ok (.goto 4, 3) := by decide +kernel
theorem dJ9_min_f86c9_10 : decode cJ9_min_f86c9 10 = .ok (.lload_n 2, 1) := by decide +kernel
theorem dJ9_min_f86c9_11 : decode cJ9_min_f86c9 11 = .ok (.lreturn, 1) := by decide +kernel
theorem dJ0_length_8abf5_0 : decode cJ0_length_8abf5 0 = .ok (.aload_n 0, 1) := by decide +kernel
theorem dJ0_length_8abf5_1 : decode cJ0_length_8abf5 1 = .ok (.getfield 9, 3) := by decide +kernel
theorem dJ0_length_8abf5_4 : decode cJ0_length_8abf5 4 = .ok (.arraylength, 1) := by decide +kernel
theorem dJ0_length_8abf5_5 : decode cJ0_length_8abf5 5 = .ok (.aload_n 0, 1) := by decide +kernel
theorem dJ0_length_8abf5_6 : decode cJ0_length_8abf5 6 = .ok (.invokevirtual 335, 3) := by decide +kernel
theorem dJ0_length_8abf5_9 : decode cJ0_length_8abf5 9 = .ok (.ishr, 1) := by decide +kernel
theorem dJ0_length_8abf5_10 : decode cJ0_length_8abf5 10 = .ok (.ireturn, 1) := by decide +kernel
theorem dJ0_charAt_5068e_0 : decode cJ0_charAt_5068e 0 = .ok (.aload_n 0, 1) := by decide +kernel
theorem dJ0_charAt_5068e_1 : decode cJ0_charAt_5068e 1 = .ok (.invokevirtual 492, 3) := by decide +kernel
theorem dJ0_charAt_5068e_4 : decode cJ0_charAt_5068e 4 = .ok (.ifCond .eq 12, 3) := by decide +kernel
theorem dJ0_charAt_5068e_7 : decode cJ0_charAt_5068e 7 = .ok (.aload_n 0, 1) := by decide +kernel
theorem dJ0_charAt_5068e_8 : decode cJ0_charAt_5068e 8 = .ok (.getfield 9, 3) := by decide +kernel
theorem dJ0_charAt_5068e_11 : decode cJ0_charAt_5068e 11 = .ok (.iload_n 1, 1) := by decide +kernel
theorem dJ0_charAt_5068e_12 : decode cJ0_charAt_5068e 12 = .ok (.invokestatic 495, 3) := by decide +kernel
theorem dJ0_charAt_5068e_15 : decode cJ0_charAt_5068e 15 = .ok (.ireturn, 1) := by decide +kernel
theorem dJ0_charAt_5068e_16 : decode cJ0_charAt_5068e 16 = .ok (.aload_n 0, 1) := by decide +kernel
theorem dJ0_charAt_5068e_17 : decode cJ0_charAt_5068e 17 = .ok (.getfield 9, 3) := by decide +kernel
theorem dJ0_charAt_5068e_20 : decode cJ0_charAt_5068e 20 = .ok (.iload_n 1, 1) := by decide +kernel
theorem dJ0_charAt_5068e_21 : decode cJ0_charAt_5068e 21 = .ok (.invokestatic 498, 3) := by decide +kernel
theorem dJ0_charAt_5068e_24 : decode cJ0_charAt_5068e 24 = .ok (.ireturn, 1) := by decide +kernel
theorem dJ0_coder_7d493_0 : decode cJ0_coder_7d493 0 = .ok (.getstatic 38, 3) := by decide +kernel
theorem dJ0_coder_7d493_3 : decode cJ0_coder_7d493 3 = .ok (.ifCond .eq 10, 3) := by decide +kernel
theorem dJ0_coder_7d493_6 : decode cJ0_coder_7d493 6 = .ok (.aload_n 0, 1) := by decide +kernel
theorem dJ0_coder_7d493_7 : decode cJ0_coder_7d493 7 = .ok (.getfield 15, 3) := by decide +kernel
theorem dJ0_coder_7d493_10 : decode cJ0_coder_7d493 10 = .ok (.goto 4, 3) := by decide +kernel
theorem dJ0_coder_7d493_13 : decode cJ0_coder_7d493 13 = .ok (.iconst 1, 1) := by decide +kernel
theorem dJ0_coder_7d493_14 : decode cJ0_coder_7d493 14 = .ok (.ireturn, 1) := by decide +kernel
theorem dJ0_isLatin1_aae02_0 : decode cJ0_isLatin1_aae02 0 = .ok (.getstatic 38, 3) := by decide +kernel
theorem dJ0_isLatin1_aae02_3 : decode cJ0_isLatin1_aae02 3 = .ok (.ifCond .eq 14, 3) := by decide +kernel
theorem dJ0_isLatin1_aae02_6 : decode cJ0_isLatin1_aae02 6 = .ok (.aload_n 0, 1) := by decide +kernel
theorem dJ0_isLatin1_aae02_7 : decode cJ0_isLatin1_aae02 7 = .ok (.getfield 15, 3) := by decide +kernel
theorem dJ0_isLatin1_aae02_10 : decode cJ0_isLatin1_aae02 10 = .ok (.ifCond .ne 7, 3) := by decide +kernel
theorem dJ0_isLatin1_aae02_13 : decode cJ0_isLatin1_aae02 13 = .ok (.iconst 1, 1) := by decide +kernel
theorem dJ0_isLatin1_aae02_14 : decode cJ0_isLatin1_aae02 14 = .ok (.goto 4, 3) := by decide +kernel
theorem dJ0_isLatin1_aae02_17 : decode cJ0_isLatin1_aae02 17 = .ok (.iconst 0, 1) := by decide +kernel
theorem dJ0_isLatin1_aae02_18 : decode cJ0_isLatin1_aae02 18 = .ok (.ireturn, 1) := by decide +kernel
theorem dJ0_checkIndex_df160_0 : decode cJ0_checkIndex_df160 0 = .ok (.iload_n 0, 1) := by decide +kernel
theorem dJ0_checkIndex_df160_1 : decode cJ0_checkIndex_df160 1 = .ok (.iload_n 1, 1) := by decide +kernel
theorem dJ0_checkIndex_df160_2 : decode cJ0_checkIndex_df160 2 = .ok (.getstatic 1053, 3) := by decide +kernel
theorem dJ0_checkIndex_df160_5 : decode cJ0_checkIndex_df160 5 = .ok (.invokestatic 1059, 3) := by decide +kernel
theorem dJ0_checkIndex_df160_8 : decode cJ0_checkIndex_df160 8 = .ok (.pop, 1) := by decide +kernel
theorem dJ0_checkIndex_df160_9 : decode cJ0_checkIndex_df160 9 = .ok (.return_, 1) := by decide +kernel
theorem dJ1_charAt_3b067_0 : decode cJ1_charAt_3b067 0 = .ok (.iload_n 1, 1) := by decide +kernel
theorem dJ1_charAt_3b067_1 : decode cJ1_charAt_3b067 1 = .ok (.aload_n 0, 1) := by decide +kernel
theorem dJ1_charAt_3b067_2 : decode cJ1_charAt_3b067 2 = .ok (.arraylength, 1) := by decide +kernel
theorem dJ1_charAt_3b067_3 : decode cJ1_charAt_3b067 3 = .ok (.invokestatic 9, 3) := by decide +kernel
theorem dJ1_charAt_3b067_6 : decode cJ1_charAt_3b067 6 = .ok (.aload_n 0, 1) := by decide +kernel
theorem dJ1_charAt_3b067_7 : decode cJ1_charAt_3b067 7 = .ok (.iload_n 1, 1) := by decide +kernel
theorem dJ1_charAt_3b067_8 : decode cJ1_charAt_3b067 8 = .ok (.baload, 1) := by decide +kernel
theorem dJ1_charAt_3b067_9 : decode cJ1_charAt_3b067 9 = .ok (.sipush 255, 3) := by decide +kernel
theorem dJ1_charAt_3b067_12 : decode cJ1_charAt_3b067 12 = .ok (.iand, 1) := by decide +kernel
theorem dJ1_charAt_3b067_13 : decode cJ1_charAt_3b067 13 = .ok (.i2c, 1) := by decide +kernel
theorem dJ1_charAt_3b067_14 : decode cJ1_charAt_3b067 14 = .ok (.ireturn, 1) := by decide +kernel
theorem dJ2_getChar_3b067_0 : decode cJ2_getChar_3b067 0 = .ok (.getstatic 44, 3) := by decide +kernel
theorem dJ2_getChar_3b067_3 : decode cJ2_getChar_3b067 3 = .ok (.ifCond .ne 25, 3) := by decide +kernel
theorem dJ2_getChar_3b067_6 : decode cJ2_getChar_3b067 6 = .ok (.iload_n 1, 1) := by decide +kernel
theorem dJ2_getChar_3b067_7 : decode cJ2_getChar_3b067 7 = .ok (.ifCond .lt 11, 3) := by decide +kernel
theorem dJ2_getChar_3b067_10 : decode cJ2_getChar_3b067 10 = .ok (.iload_n 1, 1) := by decide +kernel
theorem dJ2_getChar_3b067_11 : decode cJ2_getChar_3b067 11 = .ok (.aload_n 0, 1) := by decide +kernel
theorem dJ2_getChar_3b067_12 : decode cJ2_getChar_3b067 12 = .ok (.invokestatic 48, 3) := by decide +kernel
theorem dJ2_getChar_3b067_15 : decode cJ2_getChar_3b067 15 = .ok (.if_icmp .lt 13, 3) := by decide +kernel
theorem dJ2_getChar_3b067_18 : decode cJ2_getChar_3b067 18 = .ok (.new 52, 3) := by decide +kernel
theorem dJ2_getChar_3b067_21 : decode cJ2_getChar_3b067 21 = .ok (.dup, 1) := by decide +kernel
theorem dJ2_getChar_3b067_22 : decode cJ2_getChar_3b067 22 = .ok (.ldc 54, 2) := by decide +kernel
theorem dJ2_getChar_3b067_24 : decode cJ2_getChar_3b067 24 = .ok (.invokespecial 56, 3) := by decide +kernel
theorem dJ2_getChar_3b067_27 : decode cJ2_getChar_3b067 27 = .ok (.athrow, 1) := by decide +kernel
theorem dJ2_getChar_3b067_28 : decode cJ2_getChar_3b067 28 = .ok (.iload_n 1, 1) := by decide +kernel
theorem dJ2_getChar_3b067_29 : decode cJ2_getChar_3b067 29 = .ok (.iconst 1, 1) := by decide +kernel
theorem dJ2_getChar_3b067_30 : decode cJ2_getChar_3b067 30 = .ok (.ishl, 1) := by decide +kernel
theorem dJ2_getChar_3b067_31 : decode cJ2_getChar_3b067 31 = .ok (.istore_n 1, 1) := by decide +kernel
theorem dJ2_getChar_3b067_32 : decode cJ2_getChar_3b067 32 = .ok (.aload_n 0, 1) := by decide +kernel
theorem dJ2_getChar_3b067_33 : decode cJ2_getChar_3b067 33 = .ok (.iload_n 1, 1) := by decide +kernel
theorem dJ2_getChar_3b067_34 : decode cJ2_getChar_3b067 34 = .ok (.iinc 1 1, 3) := by decide +kernel
theorem dJ2_getChar_3b067_37 : decode cJ2_getChar_3b067 37 = .ok (.baload, 1) := by decide +kernel
theorem dJ2_getChar_3b067_38 : decode cJ2_getChar_3b067 38 = .ok (.sipush 255, 3) := by decide +kernel
theorem dJ2_getChar_3b067_41 : decode cJ2_getChar_3b067 41 = .ok (.iand, 1) := by decide +kernel
theorem dJ2_getChar_3b067_42 : decode cJ2_getChar_3b067 42 = .ok (.getstatic 59, 3) := by decide +kernel
theorem dJ2_getChar_3b067_45 : decode cJ2_getChar_3b067 45 = .ok (.ishl, 1) := by decide +kernel
theorem dJ2_getChar_3b067_46 : decode cJ2_getChar_3b067 46 = .ok (.aload_n 0, 1) := by decide +kernel
theorem dJ2_getChar_3b067_47 : decode cJ2_getChar_3b067 47 = .ok (.iload_n 1, 1) := by decide +kernel
theorem dJ2_getChar_3b067_48 : decode cJ2_getChar_3b067 48 = .ok (.baload, 1) := by decide +kernel
theorem dJ2_getChar_3b067_49 : decode cJ2_getChar_3b067 49 = .ok (.sipush 255, 3) := by decide +kernel
theorem dJ2_getChar_3b067_52 : decode cJ2_getChar_3b067 52 = .ok (.iand, 1) := by decide +kernel
theorem dJ2_getChar_3b067_53 : decode cJ2_getChar_3b067 53 = .ok (.getstatic 63, 3) := by decide +kernel
theorem dJ2_getChar_3b067_56 : decode cJ2_getChar_3b067 56 = .ok (.ishl, 1) := by decide +kernel
theorem dJ2_getChar_3b067_57 : decode cJ2_getChar_3b067 57 = .ok (.ior, 1) := by decide +kernel
theorem dJ2_getChar_3b067_58 : decode cJ2_getChar_3b067 58 = .ok (.i2c, 1) := by decide +kernel
theorem dJ2_getChar_3b067_59 : decode cJ2_getChar_3b067 59 = .ok (.ireturn, 1) := by decide +kernel
theorem dJ2_length_9d52b_0 : decode cJ2_length_9d52b 0 = .ok (.aload_n 0, 1) := by decide +kernel
theorem dJ2_length_9d52b_1 : decode cJ2_length_9d52b 1 = .ok (.arraylength, 1) := by decide +kernel
theorem dJ2_length_9d52b_2 : decode cJ2_length_9d52b 2 = .ok (.iconst 1, 1) := by decide +kernel
theorem dJ2_length_9d52b_3 : decode cJ2_length_9d52b 3 = .ok (.ishr, 1) := by decide +kernel
theorem dJ2_length_9d52b_4 : decode cJ2_length_9d52b 4 = .ok (.ireturn, 1) := by decide +kernel
theorem dJ2_charAt_3b067_0 : decode cJ2_charAt_3b067 0 = .ok (.iload_n 1, 1) := by decide +kernel
theorem dJ2_charAt_3b067_1 : decode cJ2_charAt_3b067 1 = .ok (.aload_n 0, 1) := by decide +kernel
theorem dJ2_charAt_3b067_2 : decode cJ2_charAt_3b067 2 = .ok (.invokestatic 67, 3) := by decide +kernel
theorem dJ2_charAt_3b067_5 : decode cJ2_charAt_3b067 5 = .ok (.aload_n 0, 1) := by decide +kernel
theorem dJ2_charAt_3b067_6 : decode cJ2_charAt_3b067 6 = .ok (.iload_n 1, 1) := by decide +kernel
theorem dJ2_charAt_3b067_7 : decode cJ2_charAt_3b067 7 = .ok (.invokestatic 71, 3) := by decide +kernel
theorem dJ2_charAt_3b067_10 : decode cJ2_charAt_3b067 10 = .ok (.ireturn, 1) := by decide +kernel
theorem dJ2_checkIndex_2214a_0 : decode cJ2_checkIndex_2214a 0 = .ok (.iload_n 0, 1) := by decide +kernel
theorem dJ2_checkIndex_2214a_1 : decode cJ2_checkIndex_2214a 1 = .ok (.aload_n 1, 1) := by decide +kernel
theorem dJ2_checkIndex_2214a_2 : decode cJ2_checkIndex_2214a 2 = .ok (.invokestatic 48, 3) := by decide +kernel
theorem dJ2_checkIndex_2214a_5 : decode cJ2_checkIndex_2214a 5 = .ok (.invokestatic 414, 3) := by decide +kernel
theorem dJ2_checkIndex_2214a_8 : decode cJ2_checkIndex_2214a 8 = .ok (.return_, 1) := by decide +kernel
theorem dJ7_fill_53178_0 : decode cJ7_fill_53178 0 = .ok (.iconst 0, 1) := by decide +kernel
theorem dJ7_fill_53178_1 : decode cJ7_fill_53178 1 = .ok (.istore_n 2, 1) := by decide +kernel
theorem dJ7_fill_53178_2 : decode cJ7_fill_53178 2 = .ok (.aload_n 0, 1) := by decide +kernel
theorem dJ7_fill_53178_3 : decode cJ7_fill_53178 3 = .ok (.arraylength, 1) := by decide +kernel
theorem dJ7_fill_53178_4 : decode cJ7_fill_53178 4 = .ok (.istore_n 3, 1) := by decide +kernel
theorem dJ7_fill_53178_5 : decode cJ7_fill_53178 5 = .ok (.iload_n 2, 1) := by decide +kernel
theorem dJ7_fill_53178_6 : decode cJ7_fill_53178 6 = .ok (.iload_n 3, 1) := by decide +kernel
theorem dJ7_fill_53178_7 : decode cJ7_fill_53178 7 = .ok (.if_icmp .ge 13, 3) := by decide +kernel
theorem dJ7_fill_53178_10 : decode cJ7_fill_53178 10 = .ok (.aload_n 0, 1) := by decide +kernel
theorem dJ7_fill_53178_11 : decode cJ7_fill_53178 11 = .ok (.iload_n 2, 1) := by decide +kernel
theorem dJ7_fill_53178_12 : decode cJ7_fill_53178 12 = .ok (.iload_n 1, 1) := by decide +kernel
theorem dJ7_fill_53178_13 : decode cJ7_fill_53178 13 = .ok (.iastore, 1) := by decide +kernel
theorem dJ7_fill_53178_14 : decode cJ7_fill_53178 14 = .ok (.iinc 2 1, 3) := by decide +kernel
theorem dJ7_fill_53178_17 : decode cJ7_fill_53178 17 = .ok (.goto (-12), 3) := by decide +kernel
theorem dJ7_fill_53178_20 : decode cJ7_fill_53178 20 = .ok (.return_, 1) := by decide +kernel
theorem dJ3_checkIndex_8e157_0 : decode cJ3_checkIndex_8e157 0 = .ok (.iload_n 0, 1) := by decide +kernel
theorem dJ3_checkIndex_8e157_1 : decode cJ3_checkIndex_8e157 1 = .ok (.ifCond .lt 8, 3) := by decide +kernel
theorem dJ3_checkIndex_8e157_4 : decode cJ3_checkIndex_8e157 4 = .ok (.iload_n 0, 1) := by decide +kernel
theorem dJ3_checkIndex_8e157_5 : decode cJ3_checkIndex_8e157 5 = .ok (.iload_n 1, 1) := by decide +kernel
theorem dJ3_checkIndex_8e157_6 : decode cJ3_checkIndex_8e157 6 = .ok (.if_icmp .lt 10, 3) := by decide +kernel
theorem dJ3_checkIndex_8e157_9 : decode cJ3_checkIndex_8e157 9 = .ok (.aload_n 2, 1) := by decide +kernel
theorem dJ3_checkIndex_8e157_10 : decode cJ3_checkIndex_8e157 10 = .ok (.iload_n 0, 1) := by decide +kernel
theorem dJ3_checkIndex_8e157_11 : decode cJ3_checkIndex_8e157 11 = .ok (.iload_n 1, 1) := by decide +kernel
theorem dJ3_checkIndex_8e157_12 : decode cJ3_checkIndex_8e157 12 = .ok (.invokestatic 95, 3) := by decide +kernel
theorem dJ3_checkIndex_8e157_15 : decode cJ3_checkIndex_8e157 15 = .ok (.athrow, 1) := by decide +kernel
theorem dJ3_checkIndex_8e157_16 : decode cJ3_checkIndex_8e157 16 = .ok (.iload_n 0, 1) := by decide +kernel
theorem dJ3_checkIndex_8e157_17 : decode cJ3_checkIndex_8e157 17 = .ok (.ireturn, 1) := by decide +kernel
theorem dL_variable_0 : decode cL_variable 0 = .ok (.aload_n 0, 1) := by decide +kernel
theorem dL_variable_1 : decode cL_variable 1 = .ok (.iload_n 1, 1) := by decide +kernel
theorem dL_variable_2 : decode cL_variable 2 = .ok (.iload_n 2, 1) := by decide +kernel
theorem dL_variable_3 : decode cL_variable 3 = .ok (.invokevirtual 7, 3) := by decide +kernel
theorem dL_variable_6 : decode cL_variable 6 = .ok (.goto 6, 3) := by decide +kernel
theorem dL_variable_9 : decode cL_variable 9 = .ok (.astore_n 3, 1) := by decide +kernel
theorem dL_variable_10 : decode cL_variable 10 = .ok (.iconst 1, 1) := by decide +kernel
theorem dL_variable_11 : decode cL_variable 11 = .ok (.ireturn, 1) := by decide +kernel
theorem dL_variable_12 : decode cL_variable 12 = .ok (.iconst 0, 1) := by decide +kernel
theorem dL_variable_13 : decode cL_variable 13 = .ok (.ireturn, 1) := by decide +kernel
theorem dL_word_0 : decode cL_word 0 = .ok (.aload_n 0, 1) := by decide +kernel
theorem dL_word_1 : decode cL_word 1 = .ok (.iload_n 1, 1) := by decide +kernel
theorem dL_word_2 : decode cL_word 2 = .ok (.iload_n 2, 1) := by decide +kernel
theorem dL_word_3 : decode cL_word 3 = .ok (.invokevirtual 15, 3) := by decide +kernel
theorem dL_word_6 : decode cL_word 6 = .ok (.goto 6, 3) := by decide +kernel
theorem dL_word_9 : decode cL_word 9 = .ok (.astore_n 3, 1) := by decide +kernel
theorem dL_word_10 : decode cL_word 10 = .ok (.iconst 1, 1) := by decide +kernel
theorem dL_word_11 : decode cL_word 11 = .ok (.ireturn, 1) := by decide +kernel
theorem dL_word_12 : decode cL_word 12 = .ok (.iconst 0, 1) := by decide +kernel
theorem dL_word_13 : decode cL_word 13 = .ok (.ireturn, 1) := by decide +kernel
theorem dL_feed_0 : decode cL_feed 0 = .ok (.aload 4, 2) := by decide +kernel
theorem dL_feed_2 : decode cL_feed 2 = .ok (.iconst 0, 1) := by decide +kernel
theorem dL_feed_3 : decode cL_feed 3 = .ok (.aload_n 0, 1) := by decide +kernel
theorem dL_feed_4 : decode cL_feed 4 = .ok (.lload_n 1, 1) := by decide +kernel
theorem dL_feed_5 : decode cL_feed 5 = .ok (.iload_n 3, 1) := by decide +kernel
theorem dL_feed_6 : decode cL_feed 6 = .ok (.invokevirtual 18, 3) := by decide +kernel
theorem dL_feed_9 : decode cL_feed 9 = .ok (.i2l, 1) := by decide +kernel
theorem dL_feed_10 : decode cL_feed 10 = .ok (.lastore, 1) := by decide +kernel
theorem dL_feed_11 : decode cL_feed 11 = .ok (.goto 11, 3) := by decide +kernel
theorem dL_feed_14 : decode cL_feed 14 = .ok (.astore 5, 2) := by decide +kernel
theorem dL_feed_16 : decode cL_feed 16 = .ok (.iconst 1, 1) := by decide +kernel
theorem dL_feed_17 : decode cL_feed 17 = .ok (.ireturn, 1) := by decide +kernel
theorem dL_feed_18 : decode cL_feed 18 = .ok (.astore 5, 2) := by decide +kernel
theorem dL_feed_20 : decode cL_feed 20 = .ok (.iconst 2, 1) := by decide +kernel
theorem dL_feed_21 : decode cL_feed 21 = .ok (.ireturn, 1) := by decide +kernel
theorem dL_feed_22 : decode cL_feed 22 = .ok (.iconst 0, 1) := by decide +kernel
theorem dL_feed_23 : decode cL_feed 23 = .ok (.ireturn, 1) := by decide +kernel
theorem dL_statement_0 : decode cL_statement 0 = .ok (.aload_n 3, 1) := by decide +kernel
theorem dL_statement_1 : decode cL_statement 1 = .ok (.iconst 0, 1) := by decide +kernel
theorem dL_statement_2 : decode cL_statement 2 = .ok (.aload_n 0, 1) := by decide +kernel
theorem dL_statement_3 : decode cL_statement 3 = .ok (.iload_n 1, 1) := by decide +kernel
theorem dL_statement_4 : decode cL_statement 4 = .ok (.iload_n 2, 1) := by decide +kernel
theorem dL_statement_5 : decode cL_statement 5 = .ok (.invokevirtual 26, 3) := by decide +kernel
theorem dL_statement_8 : decode cL_statement 8 = .ok (.i2l, 1) := by decide +kernel
theorem dL_statement_9 : decode cL_statement 9 = .ok (.lastore, 1) := by decide +kernel
theorem dL_statement_10 : decode cL_statement 10 = .ok (.goto 11, 3) := by decide +kernel
theorem dL_statement_13 : decode cL_statement 13 = .ok (.astore 4, 2) := by decide +kernel
theorem dL_statement_15 : decode cL_statement 15 = .ok (.iconst 1, 1) := by decide +kernel
theorem dL_statement_16 : decode cL_statement 16 = .ok (.ireturn, 1) := by decide +kernel
theorem dL_statement_17 : decode cL_statement 17 = .ok (.astore 4, 2) := by decide +kernel
theorem dL_statement_19 : decode cL_statement 19 = .ok (.iconst 2, 1) := by decide +kernel
theorem dL_statement_20 : decode cL_statement 20 = .ok (.ireturn, 1) := by decide +kernel
theorem dL_statement_21 : decode cL_statement 21 = .ok (.iconst 0, 1) := by decide +kernel
theorem dL_statement_22 : decode cL_statement 22 = .ok (.ireturn, 1) := by decide +kernel
theorem dL_lower_0 : decode cL_lower 0 = .ok (.aload_n 2, 1) := by decide +kernel
theorem dL_lower_1 : decode cL_lower 1 = .ok (.iconst 0, 1) := by decide +kernel
theorem dL_lower_2 : decode cL_lower 2 = .ok (.aload_n 0, 1) := by decide +kernel
theorem dL_lower_3 : decode cL_lower 3 = .ok (.iload_n 1, 1) := by decide +kernel
theorem dL_lower_4 : decode cL_lower 4 = .ok (.invokevirtual 30, 3) := by decide +kernel
theorem dL_lower_7 : decode cL_lower 7 = .ok (.i2l, 1) := by decide +kernel
theorem dL_lower_8 : decode cL_lower 8 = .ok (.lastore, 1) := by decide +kernel
theorem dL_lower_9 : decode cL_lower 9 = .ok (.goto 6, 3) := by decide +kernel
theorem dL_lower_12 : decode cL_lower 12 = .ok (.astore_n 3, 1) := by decide +kernel
theorem dL_lower_13 : decode cL_lower 13 = .ok (.iconst 1, 1) := by decide +kernel
theorem dL_lower_14 : decode cL_lower 14 = .ok (.ireturn, 1) := by decide +kernel
theorem dL_lower_15 : decode cL_lower 15 = .ok (.iconst 0, 1) := by decide +kernel
theorem dL_lower_16 : decode cL_lower 16 = .ok (.ireturn, 1) := by decide +kernel
theorem dL_step_0 : decode cL_step 0 = .ok (.aload_n 3, 1) := by decide +kernel
theorem dL_step_1 : decode cL_step 1 = .ok (.iconst 0, 1) := by decide +kernel
theorem dL_step_2 : decode cL_step 2 = .ok (.aload_n 0, 1) := by decide +kernel
theorem dL_step_3 : decode cL_step 3 = .ok (.iload_n 1, 1) := by decide +kernel
theorem dL_step_4 : decode cL_step 4 = .ok (.iload_n 2, 1) := by decide +kernel
theorem dL_step_5 : decode cL_step 5 = .ok (.invokevirtual 34, 3) := by decide +kernel
theorem dL_step_8 : decode cL_step 8 = .ok (.i2l, 1) := by decide +kernel
theorem dL_step_9 : decode cL_step 9 = .ok (.lastore, 1) := by decide +kernel
theorem dL_step_10 : decode cL_step 10 = .ok (.goto 11, 3) := by decide +kernel
theorem dL_step_13 : decode cL_step 13 = .ok (.astore 4, 2) := by decide +kernel
theorem dL_step_15 : decode cL_step 15 = .ok (.iconst 1, 1) := by decide +kernel
theorem dL_step_16 : decode cL_step 16 = .ok (.ireturn, 1) := by decide +kernel
theorem dL_step_17 : decode cL_step 17 = .ok (.astore 4, 2) := by decide +kernel
theorem dL_step_19 : decode cL_step 19 = .ok (.iconst 2, 1) := by decide +kernel
theorem dL_step_20 : decode cL_step 20 = .ok (.ireturn, 1) := by decide +kernel
theorem dL_step_21 : decode cL_step 21 = .ok (.iconst 0, 1) := by decide +kernel
theorem dL_step_22 : decode cL_step 22 = .ok (.ireturn, 1) := by decide +kernel
theorem dL_run_0 : decode cL_run 0 = .ok (.aload_n 1, 1) := by decide +kernel
theorem dL_run_1 : decode cL_run 1 = .ok (.iconst 0, 1) := by decide +kernel
theorem dL_run_2 : decode cL_run 2 = .ok (.aload_n 0, 1) := by decide +kernel
theorem dL_run_3 : decode cL_run 3 = .ok (.invokevirtual 37, 3) := by decide +kernel
theorem dL_run_6 : decode cL_run 6 = .ok (.i2l, 1) := by decide +kernel
theorem dL_run_7 : decode cL_run 7 = .ok (.lastore, 1) := by decide +kernel
theorem dL_run_8 : decode cL_run 8 = .ok (.goto 6, 3) := by decide +kernel
theorem dL_run_11 : decode cL_run 11 = .ok (.astore_n 2, 1) := by decide +kernel
theorem dL_run_12 : decode cL_run 12 = .ok (.iconst 1, 1) := by decide +kernel
theorem dL_run_13 : decode cL_run 13 = .ok (.ireturn, 1) := by decide +kernel
theorem dL_run_14 : decode cL_run 14 = .ok (.iconst 0, 1) := by decide +kernel
theorem dL_run_15 : decode cL_run 15 = .ok (.ireturn, 1) := by decide +kernel
theorem dL_left_0 : decode cL_left 0 = .ok (.aload_n 2, 1) := by decide +kernel
theorem dL_left_1 : decode cL_left 1 = .ok (.iconst 0, 1) := by decide +kernel
theorem dL_left_2 : decode cL_left 2 = .ok (.aload_n 0, 1) := by decide +kernel
theorem dL_left_3 : decode cL_left 3 = .ok (.iload_n 1, 1) := by decide +kernel
theorem dL_left_4 : decode cL_left 4 = .ok (.invokevirtual 41, 3) := by decide +kernel
theorem dL_left_7 : decode cL_left 7 = .ok (.i2l, 1) := by decide +kernel
theorem dL_left_8 : decode cL_left 8 = .ok (.lastore, 1) := by decide +kernel
theorem dL_left_9 : decode cL_left 9 = .ok (.goto 6, 3) := by decide +kernel
theorem dL_left_12 : decode cL_left 12 = .ok (.astore_n 3, 1) := by decide +kernel
theorem dL_left_13 : decode cL_left 13 = .ok (.iconst 1, 1) := by decide +kernel
theorem dL_left_14 : decode cL_left 14 = .ok (.ireturn, 1) := by decide +kernel
theorem dL_left_15 : decode cL_left 15 = .ok (.iconst 0, 1) := by decide +kernel
theorem dL_left_16 : decode cL_left 16 = .ok (.ireturn, 1) := by decide +kernel
theorem dL_kept_0 : decode cL_kept 0 = .ok (.aload_n 2, 1) := by decide +kernel
theorem dL_kept_1 : decode cL_kept 1 = .ok (.iconst 0, 1) := by decide +kernel
theorem dL_kept_2 : decode cL_kept 2 = .ok (.aload_n 0, 1) := by decide +kernel
theorem dL_kept_3 : decode cL_kept 3 = .ok (.iload_n 1, 1) := by decide +kernel
theorem dL_kept_4 : decode cL_kept 4 = .ok (.invokevirtual 44, 3) := by decide +kernel
theorem dL_kept_7 : decode cL_kept 7 = .ok (.i2l, 1) := by decide +kernel
theorem dL_kept_8 : decode cL_kept 8 = .ok (.lastore, 1) := by decide +kernel
theorem dL_kept_9 : decode cL_kept 9 = .ok (.goto 6, 3) := by decide +kernel
theorem dL_kept_12 : decode cL_kept 12 = .ok (.astore_n 3, 1) := by decide +kernel
theorem dL_kept_13 : decode cL_kept 13 = .ok (.iconst 1, 1) := by decide +kernel
theorem dL_kept_14 : decode cL_kept 14 = .ok (.ireturn, 1) := by decide +kernel
theorem dL_kept_15 : decode cL_kept 15 = .ok (.iconst 0, 1) := by decide +kernel
theorem dL_kept_16 : decode cL_kept 16 = .ok (.ireturn, 1) := by decide +kernel
theorem dL_output_0 : decode cL_output 0 = .ok (.aload_n 2, 1) := by decide +kernel
theorem dL_output_1 : decode cL_output 1 = .ok (.iconst 0, 1) := by decide +kernel
theorem dL_output_2 : decode cL_output 2 = .ok (.aload_n 0, 1) := by decide +kernel
theorem dL_output_3 : decode cL_output 3 = .ok (.iload_n 1, 1) := by decide +kernel
theorem dL_output_4 : decode cL_output 4 = .ok (.invokevirtual 47, 3) := by decide +kernel
theorem dL_output_7 : decode cL_output 7 = .ok (.i2l, 1) := by decide +kernel
theorem dL_output_8 : decode cL_output 8 = .ok (.lastore, 1) := by decide +kernel
theorem dL_output_9 : decode cL_output 9 = .ok (.goto 6, 3) := by decide +kernel
theorem dL_output_12 : decode cL_output 12 = .ok (.astore_n 3, 1) := by decide +kernel
theorem dL_output_13 : decode cL_output 13 = .ok (.iconst 1, 1) := by decide +kernel
theorem dL_output_14 : decode cL_output 14 = .ok (.ireturn, 1) := by decide +kernel
theorem dL_output_15 : decode cL_output 15 = .ok (.iconst 0, 1) := by decide +kernel
theorem dL_output_16 : decode cL_output 16 = .ok (.ireturn, 1) := by decide +kernel
theorem dL_count_0 : decode cL_count 0 = .ok (.aload_n 2, 1) := by decide +kernel
theorem dL_count_1 : decode cL_count 1 = .ok (.iconst 0, 1) := by decide +kernel
theorem dL_count_2 : decode cL_count 2 = .ok (.aload_n 0, 1) := by decide +kernel
theorem dL_count_3 : decode cL_count 3 = .ok (.iload_n 1, 1) := by decide +kernel
theorem dL_count_4 : decode cL_count 4 = .ok (.invokevirtual 50, 3) := by decide +kernel
theorem dL_count_7 : decode cL_count 7 = .ok (.i2l, 1) := by decide +kernel
theorem dL_count_8 : decode cL_count 8 = .ok (.lastore, 1) := by decide +kernel
theorem dL_count_9 : decode cL_count 9 = .ok (.goto 6, 3) := by decide +kernel
theorem dL_count_12 : decode cL_count 12 = .ok (.astore_n 3, 1) := by decide +kernel
theorem dL_count_13 : decode cL_count 13 = .ok (.iconst 1, 1) := by decide +kernel
theorem dL_count_14 : decode cL_count 14 = .ok (.ireturn, 1) := by decide +kernel
theorem dL_count_15 : decode cL_count 15 = .ok (.iconst 0, 1) := by decide +kernel
theorem dL_count_16 : decode cL_count 16 = .ok (.ireturn, 1) := by decide +kernel
theorem dL_law_0 : decode cL_law 0 = .ok (.new 8, 3) := by decide +kernel
theorem dL_law_3 : decode cL_law 3 = .ok (.dup, 1) := by decide +kernel
theorem dL_law_4 : decode cL_law 4 = .ok (.invokespecial 53, 3) := by decide +kernel
theorem dL_law_7 : decode cL_law 7 = .ok (.astore_n 1, 1) := by decide +kernel
theorem dL_law_8 : decode cL_law 8 = .ok (.new 54, 3) := by decide +kernel
theorem dL_law_11 : decode cL_law 11 = .ok (.dup, 1) := by decide +kernel
theorem dL_law_12 : decode cL_law 12 = .ok (.invokespecial 56, 3) := by decide +kernel
theorem dL_law_15 : decode cL_law 15 = .ok (.astore_n 2, 1) := by decide +kernel
theorem dL_law_16 : decode cL_law 16 = .ok (.iconst 1, 1) := by decide +kernel
theorem dL_law_17 : decode cL_law 17 = .ok (.newarray .long, 2) := by decide +kernel
theorem dL_law_19 : decode cL_law 19 = .ok (.astore_n 3, 1) := by decide +kernel
theorem dL_law_20 : decode cL_law 20 = .ok (.iconst 0, 1) := by decide +kernel
theorem dL_law_21 : decode cL_law 21 = .ok (.istore 4, 2) := by decide +kernel
theorem dL_law_23 : decode cL_law 23 = .ok (.iload 4, 2) := by decide +kernel
theorem dL_law_25 : decode cL_law 25 = .ok (.aload_n 0, 1) := by decide +kernel
theorem dL_law_26 : decode cL_law 26 = .ok (.arraylength, 1) := by decide +kernel
theorem dL_law_27 : decode cL_law 27 = .ok (.iconst 4, 1) := by decide +kernel
theorem dL_law_28 : decode cL_law 28 = .ok (.isub, 1) := by decide +kernel
theorem dL_law_29 : decode cL_law 29 = .ok (.if_icmp .gt 534, 3) := by decide +kernel
theorem dL_law_32 : decode cL_law 32 = .ok (.aload_n 0, 1) := by decide +kernel
theorem dL_law_33 : decode cL_law 33 = .ok (.iload 4, 2) := by decide +kernel
theorem dL_law_35 : decode cL_law 35 = .ok (.iaload, 1) := by decide +kernel
theorem dL_law_36 : decode cL_law 36 = .ok (.bipush 15, 2) := by decide +kernel
theorem dL_law_38 : decode cL_law 38 = .ok (.iand, 1) := by decide +kernel
theorem dL_law_39 : decode cL_law 39 = .ok (.tableswitch 518 0 14 #[73, 121, 158, 230, 243, 256, 296, 324, 337, 377, 390, 406, 434, 462, 490], 73) := by decide +kernel
theorem dL_law_112 : decode cL_law 112 = .ok (.aload_n 1, 1) := by decide +kernel
theorem dL_law_113 : decode cL_law 113 = .ok (.aload_n 0, 1) := by decide +kernel
theorem dL_law_114 : decode cL_law 114 = .ok (.iload 4, 2) := by decide +kernel
theorem dL_law_116 : decode cL_law 116 = .ok (.iconst 1, 1) := by decide +kernel
theorem dL_law_117 : decode cL_law 117 = .ok (.iadd, 1) := by decide +kernel
theorem dL_law_118 : decode cL_law 118 = .ok (.iaload, 1) := by decide +kernel
theorem dL_law_119 : decode cL_law 119 = .ok (.aload_n 0, 1) := by decide +kernel
theorem dL_law_120 : decode cL_law 120 = .ok (.iload 4, 2) := by decide +kernel
theorem dL_law_122 : decode cL_law 122 = .ok (.iconst 2, 1) := by decide +kernel
theorem dL_law_123 : decode cL_law 123 = .ok (.iadd, 1) := by decide +kernel
theorem dL_law_124 : decode cL_law 124 = .ok (.iaload, 1) := by decide +kernel
theorem dL_law_125 : decode cL_law 125 = .ok (.invokestatic 57, 3) := by decide +kernel
theorem dL_law_128 : decode cL_law 128 = .ok (.istore 5, 2) := by decide +kernel
theorem dL_law_130 : decode cL_law 130 = .ok (.aload_n 2, 1) := by decide +kernel
theorem dL_law_131 : decode cL_law 131 = .ok (.aload_n 0, 1) := by decide +kernel
theorem dL_law_132 : decode cL_law 132 = .ok (.iload 4, 2) := by decide +kernel
theorem dL_law_134 : decode cL_law 134 = .ok (.iconst 1, 1) := by decide +kernel
theorem dL_law_135 : decode cL_law 135 = .ok (.iadd, 1) := by decide +kernel
theorem dL_law_136 : decode cL_law 136 = .ok (.iaload, 1) := by decide +kernel
theorem dL_law_137 : decode cL_law 137 = .ok (.aload_n 0, 1) := by decide +kernel
theorem dL_law_138 : decode cL_law 138 = .ok (.iload 4, 2) := by decide +kernel
theorem dL_law_140 : decode cL_law 140 = .ok (.iconst 2, 1) := by decide +kernel
theorem dL_law_141 : decode cL_law 141 = .ok (.iadd, 1) := by decide +kernel
theorem dL_law_142 : decode cL_law 142 = .ok (.iaload, 1) := by decide +kernel
theorem dL_law_143 : decode cL_law 143 = .ok (.invokevirtual 62, 3) := by decide +kernel
theorem dL_law_146 : decode cL_law 146 = .ok (.aload_n 2, 1) := by decide +kernel
theorem dL_law_147 : decode cL_law 147 = .ok (.invokevirtual 63, 3) := by decide +kernel
theorem dL_law_150 : decode cL_law 150 = .ok (.iload 5, 2) := by decide +kernel
theorem dL_law_152 : decode cL_law 152 = .ok (.if_icmp .eq 5, 3) := by decide +kernel
theorem dL_law_155 : decode cL_law 155 = .ok (.iconst 0, 1) := by decide +kernel
theorem dL_law_156 : decode cL_law 156 = .ok (.ireturn, 1) := by decide +kernel
theorem dL_law_157 : decode cL_law 157 = .ok (.goto 400, 3) := by decide +kernel
theorem dL_law_160 : decode cL_law 160 = .ok (.aload_n 1, 1) := by decide +kernel
theorem dL_law_161 : decode cL_law 161 = .ok (.aload_n 0, 1) := by decide +kernel
theorem dL_law_162 : decode cL_law 162 = .ok (.iload 4, 2) := by decide +kernel
theorem dL_law_164 : decode cL_law 164 = .ok (.iconst 1, 1) := by decide +kernel
theorem dL_law_165 : decode cL_law 165 = .ok (.iadd, 1) := by decide +kernel
theorem dL_law_166 : decode cL_law 166 = .ok (.iaload, 1) := by decide +kernel
theorem dL_law_167 : decode cL_law 167 = .ok (.aload_n 0, 1) := by decide +kernel
theorem dL_law_168 : decode cL_law 168 = .ok (.iload 4, 2) := by decide +kernel
theorem dL_law_170 : decode cL_law 170 = .ok (.iconst 2, 1) := by decide +kernel
theorem dL_law_171 : decode cL_law 171 = .ok (.iadd, 1) := by decide +kernel
theorem dL_law_172 : decode cL_law 172 = .ok (.iaload, 1) := by decide +kernel
theorem dL_law_173 : decode cL_law 173 = .ok (.invokestatic 66, 3) := by decide +kernel
theorem dL_law_176 : decode cL_law 176 = .ok (.istore 5, 2) := by decide +kernel
theorem dL_law_178 : decode cL_law 178 = .ok (.aload_n 2, 1) := by decide +kernel
theorem dL_law_179 : decode cL_law 179 = .ok (.aload_n 0, 1) := by decide +kernel
theorem dL_law_180 : decode cL_law 180 = .ok (.iload 4, 2) := by decide +kernel
theorem dL_law_182 : decode cL_law 182 = .ok (.iconst 1, 1) := by decide +kernel
theorem dL_law_183 : decode cL_law 183 = .ok (.iadd, 1) := by decide +kernel
theorem dL_law_184 : decode cL_law 184 = .ok (.iaload, 1) := by decide +kernel
theorem dL_law_185 : decode cL_law 185 = .ok (.aload_n 0, 1) := by decide +kernel
theorem dL_law_186 : decode cL_law 186 = .ok (.iload 4, 2) := by decide +kernel
theorem dL_law_188 : decode cL_law 188 = .ok (.iconst 2, 1) := by decide +kernel
theorem dL_law_189 : decode cL_law 189 = .ok (.iadd, 1) := by decide +kernel
theorem dL_law_190 : decode cL_law 190 = .ok (.iaload, 1) := by decide +kernel
theorem dL_law_191 : decode cL_law 191 = .ok (.invokevirtual 68, 3) := by decide +kernel
theorem dL_law_194 : decode cL_law 194 = .ok (.goto 363, 3) := by decide +kernel
theorem dL_law_197 : decode cL_law 197 = .ok (.aload_n 1, 1) := by decide +kernel
theorem dL_law_198 : decode cL_law 198 = .ok (.aload_n 0, 1) := by decide +kernel
theorem dL_law_199 : decode cL_law 199 = .ok (.iload 4, 2) := by decide +kernel
theorem dL_law_201 : decode cL_law 201 = .ok (.iconst 1, 1) := by decide +kernel
theorem dL_law_202 : decode cL_law 202 = .ok (.iadd, 1) := by decide +kernel
theorem dL_law_203 : decode cL_law 203 = .ok (.iaload, 1) := by decide +kernel
theorem dL_law_204 : decode cL_law 204 = .ok (.i2l, 1) := by decide +kernel
theorem dL_law_205 : decode cL_law 205 = .ok (.bipush 32, 2) := by decide +kernel
theorem dL_law_207 : decode cL_law 207 = .ok (.lshl, 1) := by decide +kernel
theorem dL_law_208 : decode cL_law 208 = .ok (.aload_n 0, 1) := by decide +kernel
theorem dL_law_209 : decode cL_law 209 = .ok (.iload 4, 2) := by decide +kernel
theorem dL_law_211 : decode cL_law 211 = .ok (.iconst 2, 1) := by decide +kernel
theorem dL_law_212 : decode cL_law 212 = .ok (.iadd, 1) := by decide +kernel
theorem dL_law_213 : decode cL_law 213 = .ok (.iaload, 1) := by decide +kernel
theorem dL_law_214 : decode cL_law 214 = .ok (.i2l, 1) := by decide +kernel
theorem dL_law_215 : decode cL_law 215 = .ok (.ldc2_w 69, 3) := by decide +kernel
theorem dL_law_218 : decode cL_law 218 = .ok (.land, 1) := by decide +kernel
theorem dL_law_219 : decode cL_law 219 = .ok (.lor, 1) := by decide +kernel
theorem dL_law_220 : decode cL_law 220 = .ok (.aload_n 0, 1) := by decide +kernel
theorem dL_law_221 : decode cL_law 221 = .ok (.iload 4, 2) := by decide +kernel
theorem dL_law_223 : decode cL_law 223 = .ok (.iconst 3, 1) := by decide +kernel
theorem dL_law_224 : decode cL_law 224 = .ok (.iadd, 1) := by decide +kernel
theorem dL_law_225 : decode cL_law 225 = .ok (.iaload, 1) := by decide +kernel
theorem dL_law_226 : decode cL_law 226 = .ok (.aload_n 3, 1) := by decide +kernel
theorem dL_law_227 : decode cL_law 227 = .ok (.invokestatic 71, 3) := by decide +kernel
theorem dL_law_230 : decode cL_law 230 = .ok (.istore 5, 2) := by decide +kernel
theorem dL_law_232 : decode cL_law 232 = .ok (.aload_n 2, 1) := by decide +kernel
theorem dL_law_233 : decode cL_law 233 = .ok (.aload_n 0, 1) := by decide +kernel
theorem dL_law_234 : decode cL_law 234 = .ok (.iload 4, 2) := by decide +kernel
theorem dL_law_236 : decode cL_law 236 = .ok (.iconst 1, 1) := by decide +kernel
theorem dL_law_237 : decode cL_law 237 = .ok (.iadd, 1) := by decide +kernel
theorem dL_law_238 : decode cL_law 238 = .ok (.iaload, 1) := by decide +kernel
theorem dL_law_239 : decode cL_law 239 = .ok (.i2l, 1) := by decide +kernel
theorem dL_law_240 : decode cL_law 240 = .ok (.bipush 32, 2) := by decide +kernel
theorem dL_law_242 : decode cL_law 242 = .ok (.lshl, 1) := by decide +kernel
theorem dL_law_243 : decode cL_law 243 = .ok (.aload_n 0, 1) := by decide +kernel
theorem dL_law_244 : decode cL_law 244 = .ok (.iload 4, 2) := by decide +kernel
theorem dL_law_246 : decode cL_law 246 = .ok (.iconst 2, 1) := by decide +kernel
theorem dL_law_247 : decode cL_law 247 = .ok (.iadd, 1) := by decide +kernel
theorem dL_law_248 : decode cL_law 248 = .ok (.iaload, 1) := by decide +kernel
theorem dL_law_249 : decode cL_law 249 = .ok (.i2l, 1) := by decide +kernel
theorem dL_law_250 : decode cL_law 250 = .ok (.ldc2_w 69, 3) := by decide +kernel
theorem dL_law_253 : decode cL_law 253 = .ok (.land, 1) := by decide +kernel
theorem dL_law_254 : decode cL_law 254 = .ok (.lor, 1) := by decide +kernel
theorem dL_law_255 : decode cL_law 255 = .ok (.aload_n 0, 1) := by decide +kernel
theorem dL_law_256 : decode cL_law 256 = .ok (.iload 4, 2) := by decide +kernel
theorem dL_law_258 : decode cL_law 258 = .ok (.iconst 3, 1) := by decide +kernel
theorem dL_law_259 : decode cL_law 259 = .ok (.iadd, 1) := by decide +kernel
theorem dL_law_260 : decode cL_law 260 = .ok (.iaload, 1) := by decide +kernel
theorem dL_law_261 : decode cL_law 261 = .ok (.invokevirtual 74, 3) := by decide +kernel
theorem dL_law_264 : decode cL_law 264 = .ok (.istore 6, 2) := by decide +kernel
theorem dL_law_266 : decode cL_law 266 = .ok (.goto 291, 3) := by decide +kernel
theorem dL_law_269 : decode cL_law 269 = .ok (.aload_n 1, 1) := by decide +kernel
theorem dL_law_270 : decode cL_law 270 = .ok (.invokevirtual 75, 3) := by decide +kernel
theorem dL_law_273 : decode cL_law 273 = .ok (.pop, 1) := by decide +kernel
theorem dL_law_274 : decode cL_law 274 = .ok (.aload_n 2, 1) := by decide +kernel
theorem dL_law_275 : decode cL_law 275 = .ok (.invokevirtual 78, 3) := by decide +kernel
theorem dL_law_278 : decode cL_law 278 = .ok (.pop, 1) := by decide +kernel
theorem dL_law_279 : decode cL_law 279 = .ok (.goto 278, 3) := by decide +kernel
theorem dL_law_282 : decode cL_law 282 = .ok (.aload_n 1, 1) := by decide +kernel
theorem dL_law_283 : decode cL_law 283 = .ok (.invokevirtual 79, 3) := by decide +kernel
theorem dL_law_286 : decode cL_law 286 = .ok (.pop, 1) := by decide +kernel
theorem dL_law_287 : decode cL_law 287 = .ok (.aload_n 2, 1) := by decide +kernel
theorem dL_law_288 : decode cL_law 288 = .ok (.invokevirtual 82, 3) := by decide +kernel
theorem dL_law_291 : decode cL_law 291 = .ok (.pop, 1) := by decide +kernel
theorem dL_law_292 : decode cL_law 292 = .ok (.goto 265, 3) := by decide +kernel
theorem dL_law_295 : decode cL_law 295 = .ok (.aload_n 1, 1) := by decide +kernel
theorem dL_law_296 : decode cL_law 296 = .ok (.aload_n 0, 1) := by decide +kernel
theorem dL_law_297 : decode cL_law 297 = .ok (.iload 4, 2) := by decide +kernel
theorem dL_law_299 : decode cL_law 299 = .ok (.iconst 1, 1) := by decide +kernel
theorem dL_law_300 : decode cL_law 300 = .ok (.iadd, 1) := by decide +kernel
theorem dL_law_301 : decode cL_law 301 = .ok (.iaload, 1) := by decide +kernel
theorem dL_law_302 : decode cL_law 302 = .ok (.aload_n 0, 1) := by decide +kernel
theorem dL_law_303 : decode cL_law 303 = .ok (.iload 4, 2) := by decide +kernel
theorem dL_law_305 : decode cL_law 305 = .ok (.iconst 2, 1) := by decide +kernel
theorem dL_law_306 : decode cL_law 306 = .ok (.iadd, 1) := by decide +kernel
theorem dL_law_307 : decode cL_law 307 = .ok (.iaload, 1) := by decide +kernel
theorem dL_law_308 : decode cL_law 308 = .ok (.aload_n 3, 1) := by decide +kernel
theorem dL_law_309 : decode cL_law 309 = .ok (.invokestatic 83, 3) := by decide +kernel
theorem dL_law_312 : decode cL_law 312 = .ok (.istore 5, 2) := by decide +kernel
theorem dL_law_314 : decode cL_law 314 = .ok (.aload_n 2, 1) := by decide +kernel
theorem dL_law_315 : decode cL_law 315 = .ok (.aload_n 0, 1) := by decide +kernel
theorem dL_law_316 : decode cL_law 316 = .ok (.iload 4, 2) := by decide +kernel
theorem dL_law_318 : decode cL_law 318 = .ok (.iconst 1, 1) := by decide +kernel
theorem dL_law_319 : decode cL_law 319 = .ok (.iadd, 1) := by decide +kernel
theorem dL_law_320 : decode cL_law 320 = .ok (.iaload, 1) := by decide +kernel
theorem dL_law_321 : decode cL_law 321 = .ok (.aload_n 0, 1) := by decide +kernel
theorem dL_law_322 : decode cL_law 322 = .ok (.iload 4, 2) := by decide +kernel
theorem dL_law_324 : decode cL_law 324 = .ok (.iconst 2, 1) := by decide +kernel
theorem dL_law_325 : decode cL_law 325 = .ok (.iadd, 1) := by decide +kernel
theorem dL_law_326 : decode cL_law 326 = .ok (.iaload, 1) := by decide +kernel
theorem dL_law_327 : decode cL_law 327 = .ok (.invokevirtual 86, 3) := by decide +kernel
theorem dL_law_330 : decode cL_law 330 = .ok (.istore 6, 2) := by decide +kernel
theorem dL_law_332 : decode cL_law 332 = .ok (.goto 225, 3) := by decide +kernel
theorem dL_law_335 : decode cL_law 335 = .ok (.aload_n 1, 1) := by decide +kernel
theorem dL_law_336 : decode cL_law 336 = .ok (.aload_n 0, 1) := by decide +kernel
theorem dL_law_337 : decode cL_law 337 = .ok (.iload 4, 2) := by decide +kernel
theorem dL_law_339 : decode cL_law 339 = .ok (.iconst 1, 1) := by decide +kernel
theorem dL_law_340 : decode cL_law 340 = .ok (.iadd, 1) := by decide +kernel
theorem dL_law_341 : decode cL_law 341 = .ok (.iaload, 1) := by decide +kernel
theorem dL_law_342 : decode cL_law 342 = .ok (.aload_n 3, 1) := by decide +kernel
theorem dL_law_343 : decode cL_law 343 = .ok (.invokestatic 87, 3) := by decide +kernel
theorem dL_law_346 : decode cL_law 346 = .ok (.istore 5, 2) := by decide +kernel
theorem dL_law_348 : decode cL_law 348 = .ok (.aload_n 2, 1) := by decide +kernel
theorem dL_law_349 : decode cL_law 349 = .ok (.aload_n 0, 1) := by decide +kernel
theorem dL_law_350 : decode cL_law 350 = .ok (.iload 4, 2) := by decide +kernel
theorem dL_law_352 : decode cL_law 352 = .ok (.iconst 1, 1) := by decide +kernel
theorem dL_law_353 : decode cL_law 353 = .ok (.iadd, 1) := by decide +kernel
theorem dL_law_354 : decode cL_law 354 = .ok (.iaload, 1) := by decide +kernel
theorem dL_law_355 : decode cL_law 355 = .ok (.invokevirtual 90, 3) := by decide +kernel
theorem dL_law_358 : decode cL_law 358 = .ok (.istore 6, 2) := by decide +kernel
theorem dL_law_360 : decode cL_law 360 = .ok (.goto 197, 3) := by decide +kernel
theorem dL_law_363 : decode cL_law 363 = .ok (.aload_n 1, 1) := by decide +kernel
theorem dL_law_364 : decode cL_law 364 = .ok (.invokevirtual 91, 3) := by decide +kernel
theorem dL_law_367 : decode cL_law 367 = .ok (.pop, 1) := by decide +kernel
theorem dL_law_368 : decode cL_law 368 = .ok (.aload_n 2, 1) := by decide +kernel
theorem dL_law_369 : decode cL_law 369 = .ok (.invokevirtual 94, 3) := by decide +kernel
theorem dL_law_372 : decode cL_law 372 = .ok (.pop, 1) := by decide +kernel
theorem dL_law_373 : decode cL_law 373 = .ok (.goto 184, 3) := by decide +kernel
theorem dL_law_376 : decode cL_law 376 = .ok (.aload_n 1, 1) := by decide +kernel
theorem dL_law_377 : decode cL_law 377 = .ok (.aload_n 0, 1) := by decide +kernel
theorem dL_law_378 : decode cL_law 378 = .ok (.iload 4, 2) := by decide +kernel
theorem dL_law_380 : decode cL_law 380 = .ok (.iconst 1, 1) := by decide +kernel
theorem dL_law_381 : decode cL_law 381 = .ok (.iadd, 1) := by decide +kernel
theorem dL_law_382 : decode cL_law 382 = .ok (.iaload, 1) := by decide +kernel
theorem dL_law_383 : decode cL_law 383 = .ok (.aload_n 0, 1) := by decide +kernel
theorem dL_law_384 : decode cL_law 384 = .ok (.iload 4, 2) := by decide +kernel
theorem dL_law_386 : decode cL_law 386 = .ok (.iconst 2, 1) := by decide +kernel
theorem dL_law_387 : decode cL_law 387 = .ok (.iadd, 1) := by decide +kernel
theorem dL_law_388 : decode cL_law 388 = .ok (.iaload, 1) := by decide +kernel
theorem dL_law_389 : decode cL_law 389 = .ok (.aload_n 3, 1) := by decide +kernel
theorem dL_law_390 : decode cL_law 390 = .ok (.invokestatic 95, 3) := by decide +kernel
theorem dL_law_393 : decode cL_law 393 = .ok (.istore 5, 2) := by decide +kernel
theorem dL_law_395 : decode cL_law 395 = .ok (.aload_n 2, 1) := by decide +kernel
theorem dL_law_396 : decode cL_law 396 = .ok (.aload_n 0, 1) := by decide +kernel
theorem dL_law_397 : decode cL_law 397 = .ok (.iload 4, 2) := by decide +kernel
theorem dL_law_399 : decode cL_law 399 = .ok (.iconst 1, 1) := by decide +kernel
theorem dL_law_400 : decode cL_law 400 = .ok (.iadd, 1) := by decide +kernel
theorem dL_law_401 : decode cL_law 401 = .ok (.iaload, 1) := by decide +kernel
theorem dL_law_402 : decode cL_law 402 = .ok (.aload_n 0, 1) := by decide +kernel
theorem dL_law_403 : decode cL_law 403 = .ok (.iload 4, 2) := by decide +kernel
theorem dL_law_405 : decode cL_law 405 = .ok (.iconst 2, 1) := by decide +kernel
theorem dL_law_406 : decode cL_law 406 = .ok (.iadd, 1) := by decide +kernel
theorem dL_law_407 : decode cL_law 407 = .ok (.iaload, 1) := by decide +kernel
theorem dL_law_408 : decode cL_law 408 = .ok (.invokevirtual 97, 3) := by decide +kernel
theorem dL_law_411 : decode cL_law 411 = .ok (.istore 6, 2) := by decide +kernel
theorem dL_law_413 : decode cL_law 413 = .ok (.goto 144, 3) := by decide +kernel
theorem dL_law_416 : decode cL_law 416 = .ok (.aload_n 1, 1) := by decide +kernel
theorem dL_law_417 : decode cL_law 417 = .ok (.invokevirtual 98, 3) := by decide +kernel
theorem dL_law_420 : decode cL_law 420 = .ok (.pop, 1) := by decide +kernel
theorem dL_law_421 : decode cL_law 421 = .ok (.aload_n 2, 1) := by decide +kernel
theorem dL_law_422 : decode cL_law 422 = .ok (.invokevirtual 101, 3) := by decide +kernel
theorem dL_law_425 : decode cL_law 425 = .ok (.pop, 1) := by decide +kernel
theorem dL_law_426 : decode cL_law 426 = .ok (.goto 131, 3) := by decide +kernel
theorem dL_law_429 : decode cL_law 429 = .ok (.aload_n 1, 1) := by decide +kernel
theorem dL_law_430 : decode cL_law 430 = .ok (.aload_n 3, 1) := by decide +kernel
theorem dL_law_431 : decode cL_law 431 = .ok (.invokestatic 102, 3) := by decide +kernel
theorem dL_law_434 : decode cL_law 434 = .ok (.istore 5, 2) := by decide +kernel
theorem dL_law_436 : decode cL_law 436 = .ok (.aload_n 2, 1) := by decide +kernel
theorem dL_law_437 : decode cL_law 437 = .ok (.invokevirtual 105, 3) := by decide +kernel
theorem dL_law_440 : decode cL_law 440 = .ok (.istore 6, 2) := by decide +kernel
theorem dL_law_442 : decode cL_law 442 = .ok (.goto 115, 3) := by decide +kernel
theorem dL_law_445 : decode cL_law 445 = .ok (.aload_n 1, 1) := by decide +kernel
theorem dL_law_446 : decode cL_law 446 = .ok (.aload_n 0, 1) := by decide +kernel
theorem dL_law_447 : decode cL_law 447 = .ok (.iload 4, 2) := by decide +kernel
theorem dL_law_449 : decode cL_law 449 = .ok (.iconst 1, 1) := by decide +kernel
theorem dL_law_450 : decode cL_law 450 = .ok (.iadd, 1) := by decide +kernel
theorem dL_law_451 : decode cL_law 451 = .ok (.iaload, 1) := by decide +kernel
theorem dL_law_452 : decode cL_law 452 = .ok (.aload_n 3, 1) := by decide +kernel
theorem dL_law_453 : decode cL_law 453 = .ok (.invokestatic 106, 3) := by decide +kernel
theorem dL_law_456 : decode cL_law 456 = .ok (.istore 5, 2) := by decide +kernel
theorem dL_law_458 : decode cL_law 458 = .ok (.aload_n 2, 1) := by decide +kernel
theorem dL_law_459 : decode cL_law 459 = .ok (.aload_n 0, 1) := by decide +kernel
theorem dL_law_460 : decode cL_law 460 = .ok (.iload 4, 2) := by decide +kernel
theorem dL_law_462 : decode cL_law 462 = .ok (.iconst 1, 1) := by decide +kernel
theorem dL_law_463 : decode cL_law 463 = .ok (.iadd, 1) := by decide +kernel
theorem dL_law_464 : decode cL_law 464 = .ok (.iaload, 1) := by decide +kernel
theorem dL_law_465 : decode cL_law 465 = .ok (.invokevirtual 108, 3) := by decide +kernel
theorem dL_law_468 : decode cL_law 468 = .ok (.istore 6, 2) := by decide +kernel
theorem dL_law_470 : decode cL_law 470 = .ok (.goto 87, 3) := by decide +kernel
theorem dL_law_473 : decode cL_law 473 = .ok (.aload_n 1, 1) := by decide +kernel
theorem dL_law_474 : decode cL_law 474 = .ok (.aload_n 0, 1) := by decide +kernel
theorem dL_law_475 : decode cL_law 475 = .ok (.iload 4, 2) := by decide +kernel
theorem dL_law_477 : decode cL_law 477 = .ok (.iconst 1, 1) := by decide +kernel
theorem dL_law_478 : decode cL_law 478 = .ok (.iadd, 1) := by decide +kernel
theorem dL_law_479 : decode cL_law 479 = .ok (.iaload, 1) := by decide +kernel
theorem dL_law_480 : decode cL_law 480 = .ok (.aload_n 3, 1) := by decide +kernel
theorem dL_law_481 : decode cL_law 481 = .ok (.invokestatic 109, 3) := by decide +kernel
theorem dL_law_484 : decode cL_law 484 = .ok (.istore 5, 2) := by decide +kernel
theorem dL_law_486 : decode cL_law 486 = .ok (.aload_n 2, 1) := by decide +kernel
theorem dL_law_487 : decode cL_law 487 = .ok (.aload_n 0, 1) := by decide +kernel
theorem dL_law_488 : decode cL_law 488 = .ok (.iload 4, 2) := by decide +kernel
theorem dL_law_490 : decode cL_law 490 = .ok (.iconst 1, 1) := by decide +kernel
theorem dL_law_491 : decode cL_law 491 = .ok (.iadd, 1) := by decide +kernel
theorem dL_law_492 : decode cL_law 492 = .ok (.iaload, 1) := by decide +kernel
theorem dL_law_493 : decode cL_law 493 = .ok (.invokevirtual 111, 3) := by decide +kernel
theorem dL_law_496 : decode cL_law 496 = .ok (.istore 6, 2) := by decide +kernel
theorem dL_law_498 : decode cL_law 498 = .ok (.goto 59, 3) := by decide +kernel
theorem dL_law_501 : decode cL_law 501 = .ok (.aload_n 1, 1) := by decide +kernel
theorem dL_law_502 : decode cL_law 502 = .ok (.aload_n 0, 1) := by decide +kernel
theorem dL_law_503 : decode cL_law 503 = .ok (.iload 4, 2) := by decide +kernel
theorem dL_law_505 : decode cL_law 505 = .ok (.iconst 1, 1) := by decide +kernel
theorem dL_law_506 : decode cL_law 506 = .ok (.iadd, 1) := by decide +kernel
theorem dL_law_507 : decode cL_law 507 = .ok (.iaload, 1) := by decide +kernel
theorem dL_law_508 : decode cL_law 508 = .ok (.aload_n 3, 1) := by decide +kernel
theorem dL_law_509 : decode cL_law 509 = .ok (.invokestatic 112, 3) := by decide +kernel
theorem dL_law_512 : decode cL_law 512 = .ok (.istore 5, 2) := by decide +kernel
theorem dL_law_514 : decode cL_law 514 = .ok (.aload_n 2, 1) := by decide +kernel
theorem dL_law_515 : decode cL_law 515 = .ok (.aload_n 0, 1) := by decide +kernel
theorem dL_law_516 : decode cL_law 516 = .ok (.iload 4, 2) := by decide +kernel
theorem dL_law_518 : decode cL_law 518 = .ok (.iconst 1, 1) := by decide +kernel
theorem dL_law_519 : decode cL_law 519 = .ok (.iadd, 1) := by decide +kernel
theorem dL_law_520 : decode cL_law 520 = .ok (.iaload, 1) := by decide +kernel
theorem dL_law_521 : decode cL_law 521 = .ok (.invokevirtual 114, 3) := by decide +kernel
theorem dL_law_524 : decode cL_law 524 = .ok (.istore 6, 2) := by decide +kernel
theorem dL_law_526 : decode cL_law 526 = .ok (.goto 31, 3) := by decide +kernel
theorem dL_law_529 : decode cL_law 529 = .ok (.aload_n 1, 1) := by decide +kernel
theorem dL_law_530 : decode cL_law 530 = .ok (.aload_n 0, 1) := by decide +kernel
theorem dL_law_531 : decode cL_law 531 = .ok (.iload 4, 2) := by decide +kernel
theorem dL_law_533 : decode cL_law 533 = .ok (.iconst 1, 1) := by decide +kernel
theorem dL_law_534 : decode cL_law 534 = .ok (.iadd, 1) := by decide +kernel
theorem dL_law_535 : decode cL_law 535 = .ok (.iaload, 1) := by decide +kernel
theorem dL_law_536 : decode cL_law 536 = .ok (.aload_n 3, 1) := by decide +kernel
theorem dL_law_537 : decode cL_law 537 = .ok (.invokestatic 115, 3) := by decide +kernel
theorem dL_law_540 : decode cL_law 540 = .ok (.istore 5, 2) := by decide +kernel
theorem dL_law_542 : decode cL_law 542 = .ok (.aload_n 2, 1) := by decide +kernel
theorem dL_law_543 : decode cL_law 543 = .ok (.aload_n 0, 1) := by decide +kernel
theorem dL_law_544 : decode cL_law 544 = .ok (.iload 4, 2) := by decide +kernel
theorem dL_law_546 : decode cL_law 546 = .ok (.iconst 1, 1) := by decide +kernel
theorem dL_law_547 : decode cL_law 547 = .ok (.iadd, 1) := by decide +kernel
theorem dL_law_548 : decode cL_law 548 = .ok (.iaload, 1) := by decide +kernel
theorem dL_law_549 : decode cL_law 549 = .ok (.invokevirtual 117, 3) := by decide +kernel
theorem dL_law_552 : decode cL_law 552 = .ok (.istore 6, 2) := by decide +kernel
theorem dL_law_554 : decode cL_law 554 = .ok (.goto 3, 3) := by decide +kernel
theorem dL_law_557 : decode cL_law 557 = .ok (.iinc 4 4, 3) := by decide +kernel
theorem dL_law_560 : decode cL_law 560 = .ok (.goto (-537), 3) := by decide +kernel
theorem dL_law_563 : decode cL_law 563 = .ok (.iconst 1, 1) := by decide +kernel
theorem dL_law_564 : decode cL_law 564 = .ok (.ireturn, 1) := by decide +kernel
end
section
/-! THE FLAT MEMORY: numbers by cell and place; references by cell and place; a judgement that hides heap and frame. -/
abbrev hg_M : Type := Nat → Nat → Int32
abbrev hg_R : Type := Nat → Nat → Nat
/-- a family of cells: how many; the kind of each (0 ints, 1 booleans, 2 rows, k + 3 an object of class k) with its length; which fields are references -/
abbrev hg_F : Type := Nat × (Nat → Nat × Nat) × (Nat → Nat → Bool)
abbrev hg_T : Type := ClassId × ClassId × ClassId
def hg_set (σ : hg_M) (q i : Nat) (v : Int32) : hg_M := fun a b => if a = q ∧ b = i then v else σ a b
def hg_rset (ρ : hg_R) (q i : Nat) (v : Nat) : hg_R := fun a b => if a = q ∧ b = i then v else ρ a b
def hg_fv (F : hg_F) (ad : Nat → Nat) (σ : hg_M) (ρ : hg_R) (q k i : Nat) : Value := if F.2.2 k i = true then .ref (ad (ρ q i)) else .int (σ q i)
def hg_cell (F : hg_F) (t : hg_T) (ad : Nat → Nat) (σ : hg_M) (ρ : hg_R) (q : Nat) : va_E := match (F.2.1 q).1 with
  | 0 => .inl (t.1, (F.2.1 q).2, .inl (σ q))
  | 1 => .inl (t.2.1, (F.2.1 q).2, .inl (σ q))
  | 2 => .inl (t.2.2, (F.2.1 q).2, .inr (.inr (.inr (.inr (fun i => some (ad (ρ q i)))))))
  | k + 3 => .inr (k, (List.range (F.2.1 q).2).map (hg_fv F ad σ ρ q k))
def hg_ws (F : hg_F) (t : hg_T) (ad : Nat → Nat) (σ : hg_M) (ρ : hg_R) : va_W := (List.range F.1).map (fun q => (ad q, hg_cell F t ad σ ρ q))
theorem hg_at {F : hg_F} {t : hg_T} {ad : Nat → Nat} {σ : hg_M} {ρ : hg_R} {q : Nat} (h : q < F.1) : (hg_ws F t ad σ ρ)[q]? = some (ad q, hg_cell F t ad σ ρ q) := by
  simp [hg_ws, h]
theorem hg_no {F : hg_F} {t : hg_T} {ad : Nat → Nat} {σ : hg_M} {ρ : hg_R} {q : Nat} (h : ¬ q < F.1) : (hg_ws F t ad σ ρ)[q]? = none := by
  simp [hg_ws]; omega
theorem hg_put {F : hg_F} {t : hg_T} {ad : Nat → Nat} {σ σ' : hg_M} {ρ ρ' : hg_R} {q : Nat} (hq : q < F.1) {e : va_E} (he : hg_cell F t ad σ' ρ' q = e)
    (h : ∀ r, r ≠ q → hg_cell F t ad σ' ρ' r = hg_cell F t ad σ ρ r) : (hg_ws F t ad σ ρ).set q (ad q, e) = hg_ws F t ad σ' ρ' := by
  subst he
  apply List.ext_getElem?
  intro i
  rw [List.getElem?_set]
  by_cases hi : q = i
  · subst hi
    rw [if_pos rfl, hg_at hq]
    have : q < (hg_ws F t ad σ ρ).length := by simp [hg_ws, hq]
    rw [if_pos this]
  · rw [if_neg hi]
    by_cases hl : i < F.1
    · rw [hg_at hl, hg_at hl, h i (fun z => hi z.symm)]
    · rw [hg_no hl, hg_no hl]
theorem hg_set_ne {σ : hg_M} {q i r : Nat} {v : Int32} (h : r ≠ q) : hg_set σ q i v r = σ r := by
  funext b; simp [hg_set, h]
theorem hg_set_eq {σ : hg_M} {q i : Nat} {v : Int32} : hg_set σ q i v q = upd (σ q) i v := by
  funext b; simp [hg_set, upd]
theorem hg_rset_ne {ρ : hg_R} {q i r : Nat} {v : Nat} (h : r ≠ q) : hg_rset ρ q i v r = ρ r := by
  funext b; simp [hg_rset, h]
theorem hg_cell_ne {F : hg_F} {t : hg_T} {ad : Nat → Nat} {σ σ' : hg_M} {ρ ρ' : hg_R} {r : Nat} (h1 : σ' r = σ r) (h2 : ρ' r = ρ r) : hg_cell F t ad σ' ρ' r = hg_cell F t ad σ ρ r := by
  unfold hg_cell
  have e : hg_fv F ad σ' ρ' r = hg_fv F ad σ ρ r := by funext k i; simp [hg_fv, h1, h2]
  rw [h1, h2, e]
theorem hg_cell0 {F : hg_F} {t : hg_T} {ad : Nat → Nat} {σ : hg_M} {ρ : hg_R} {q n : Nat} (h : F.2.1 q = (0, n)) : hg_cell F t ad σ ρ q = .inl (t.1, n, .inl (σ q)) := by
  unfold hg_cell; rw [h]
theorem hg_cell1 {F : hg_F} {t : hg_T} {ad : Nat → Nat} {σ : hg_M} {ρ : hg_R} {q n : Nat} (h : F.2.1 q = (1, n)) : hg_cell F t ad σ ρ q = .inl (t.2.1, n, .inl (σ q)) := by
  unfold hg_cell; rw [h]
theorem hg_cell2 {F : hg_F} {t : hg_T} {ad : Nat → Nat} {σ : hg_M} {ρ : hg_R} {q n : Nat} (h : F.2.1 q = (2, n)) : hg_cell F t ad σ ρ q = .inl (t.2.2, n, .inr (.inr (.inr (.inr (fun i => some (ad (ρ q i))))))) := by
  unfold hg_cell; rw [h]
theorem hg_cell3 {F : hg_F} {t : hg_T} {ad : Nat → Nat} {σ : hg_M} {ρ : hg_R} {q n k : Nat} (h : F.2.1 q = (k + 3, n)) : hg_cell F t ad σ ρ q = .inr (k, (List.range n).map (hg_fv F ad σ ρ q k)) := by
  unfold hg_cell; rw [h]
theorem hg_put0 {F : hg_F} {t : hg_T} {ad : Nat → Nat} {σ : hg_M} {ρ : hg_R} {q n i : Nat} {v : Int32} (hq : q < F.1) (h : F.2.1 q = (0, n)) :
    (hg_ws F t ad σ ρ).set q (ad q, .inl (t.1, n, .inl (upd (σ q) i v))) = hg_ws F t ad (hg_set σ q i v) ρ :=
  hg_put hq (by rw [hg_cell0 h, hg_set_eq]) (fun r hr => hg_cell_ne (hg_set_ne hr) rfl)
theorem hg_put1 {F : hg_F} {t : hg_T} {ad : Nat → Nat} {σ : hg_M} {ρ : hg_R} {q n i : Nat} {v : Int32} (hq : q < F.1) (h : F.2.1 q = (1, n)) :
    (hg_ws F t ad σ ρ).set q (ad q, .inl (t.2.1, n, .inl (upd (σ q) i v))) = hg_ws F t ad (hg_set σ q i v) ρ :=
  hg_put hq (by rw [hg_cell1 h, hg_set_eq]) (fun r hr => hg_cell_ne (hg_set_ne hr) rfl)
theorem hg_put3 {F : hg_F} {t : hg_T} {ad : Nat → Nat} {σ : hg_M} {ρ : hg_R} {q n i k : Nat} {v : Int32} (hq : q < F.1) (h : F.2.1 q = (k + 3, n)) (hi : i < n) (hf : F.2.2 k i = false) :
    (hg_ws F t ad σ ρ).set q (ad q, .inr (k, ((List.range n).map (hg_fv F ad σ ρ q k)).set i (.int v))) = hg_ws F t ad (hg_set σ q i v) ρ := by
  refine hg_put hq ?_ (fun r hr => hg_cell_ne (hg_set_ne hr) rfl)
  rw [hg_cell3 h]
  congr 2
  apply List.ext_getElem?
  intro j
  rw [List.getElem?_set]
  by_cases hj : i = j
  · subst hj; simp [hi, hg_fv, hf, hg_set]
  · rw [if_neg hj]
    by_cases hl : j < n
    · have : ¬ j = i := fun z => hj z.symm
      simp [hl, hg_fv, hg_set, this]
    · simp [hl]
theorem hg_put3r {F : hg_F} {t : hg_T} {ad : Nat → Nat} {σ : hg_M} {ρ : hg_R} {q n i k : Nat} {v : Nat} (hq : q < F.1) (h : F.2.1 q = (k + 3, n)) (hi : i < n) (hf : F.2.2 k i = true) :
    (hg_ws F t ad σ ρ).set q (ad q, .inr (k, ((List.range n).map (hg_fv F ad σ ρ q k)).set i (.ref (ad v)))) = hg_ws F t ad σ (hg_rset ρ q i v) := by
  refine hg_put hq ?_ (fun r hr => hg_cell_ne rfl (hg_rset_ne hr))
  rw [hg_cell3 h]
  congr 2
  apply List.ext_getElem?
  intro j
  rw [List.getElem?_set]
  by_cases hj : i = j
  · subst hj; simp [hi, hg_fv, hf, hg_rset]
  · rw [if_neg hj]
    by_cases hl : j < n
    · have : ¬ j = i := fun z => hj z.symm
      simp [hl, hg_fv, hg_rset, this]
    · simp [hl]
/-- the addresses of the family, and all that come from sz on -/
def hg_A (F : hg_F) (ad : Nat → Nat) (sz : Nat) : Nat → Prop := fun q => (∃ k, k < F.1 ∧ q = ad k) ∨ sz ≤ q
def hg_Dd (F : hg_F) (ad : Nat → Nat) (A : Nat → Prop) : Prop := (∀ i j, i < F.1 → j < F.1 → ad i = ad j → i = j) ∧ ∀ i, i < F.1 → A (ad i)
theorem hg_Dd.va {F : hg_F} {ad : Nat → Nat} {A : Nat → Prop} (h : hg_Dd F ad A) (t : hg_T) (σ : hg_M) (ρ : hg_R) : va_D A (hg_ws F t ad σ ρ) := by
  have key : ∀ (i : Nat) (p : Nat × va_E), (hg_ws F t ad σ ρ)[i]? = some p → i < F.1 ∧ p.1 = ad i := by
    intro i p hp
    by_cases hi : i < F.1
    · rw [hg_at hi] at hp; cases hp; exact ⟨hi, rfl⟩
    · rw [hg_no hi] at hp; cases hp
  refine ⟨fun i j p q hp hq e => ?_, fun k q hq => ?_⟩
  · obtain ⟨a1, a2⟩ := key i p hp
    obtain ⟨b1, b2⟩ := key j q hq
    exact h.1 i j a1 b1 (by rw [← a2, ← b2]; exact e)
  · obtain ⟨a1, a2⟩ := key k q hq
    rw [a2]; exact h.2 k a1
theorem hg_Dd.of {F : hg_F} {ad : Nat → Nat} {A : Nat → Prop} {t : hg_T} {σ : hg_M} {ρ : hg_R} (h : va_D A (hg_ws F t ad σ ρ)) : hg_Dd F ad A :=
  ⟨fun i j hi hj e => h.1 i j _ _ (hg_at hi) (hg_at hj) e, fun i hi => h.2 i _ (hg_at hi)⟩
abbrev hg_tys (t : hg_T) : List (ClassId × FieldType) := [(t.1, .int), (t.2.1, .boolean), (t.2.2, .array .int)]
end
section
/-! what stands of the start: the class's own static rows, its two strings (class-specific words) -/
def hg_t1 (j : Nat) : Int32 := [2, 2, 2, 2, 2, 2, 2, 2, 2, 2, 2, 2, 2, 2, 2, 1, 1, 1, 1].getD j 0
def hg_t2 (j : Nat) : Int32 := [1, 2, 3, 3, 3, 3, 3, 3, 3, 3, 3, 3, 3, 4, 2, 2, 0, 1, 1].getD j 0
def hg_len (i : Nat) : Nat := [8, 3].getD i 0
def hg_chr (i j : Nat) : Int32 := ([[43, 45, 42, 47, 37, 38, 124, 94], [61, 35, 60]].getD i []).getD j 0
abbrev hg_Zt : Type := Nat × Nat × (Nat → Nat) × (Nat → Nat)
def hg_str (i a v : Nat) (A : Nat → Prop) (U : State) (H : Heap) : Prop := va_O "java/lang/String" a A U H ∧ va_OF "java/lang/String" "coder" "B" (.int 0) a A U H ∧ va_OF "java/lang/String" "value" "[B" (.ref v) a A U H ∧ va_T .byte v (hg_len i) (fun j => .int (hg_chr i j)) A U H ∧ va_Z "java/lang/String" "COMPACT_STRINGS" "Z" (.int 1) A U H ∧ va_Zq "jdk/internal/util/Preconditions" "SIOOBE_FORMATTER" "Ljava/util/function/BiFunction;" A U H
def hg_St (z : hg_Zt) (A : Nat → Prop) (U : State) (H : Heap) : Prop := va_Z RX0 "FIRST_TAKEN" "[I" (.ref z.1) A U H ∧ va_T .int z.1 19 (fun j => .int (hg_t1 j)) A U H ∧ va_Z RX0 "LAST_TAKEN" "[I" (.ref z.2.1) A U H ∧ va_T .int z.2.1 19 (fun j => .int (hg_t2 j)) A U H ∧ (∀ i, i < 2 → hg_str i (z.2.2.1 i) (z.2.2.2 i) A U H) ∧ vk_R RX4 109 "+-*/%&|^" (z.2.2.1 0) U ∧ vk_R RX4 100 "=#<" (z.2.2.1 1) U
end
section
/-! THE JUDGEMENT that hides heap and frame, and a row for each instruction (written by mkhg.py) -/
abbrev hg_X : Type := Program × Launch × Env × Room × State × MethodId × Array Value × List Frame × Method × Code × va_G × (Nat → Prop) × Nat × Nat × (State → Prop) × (Nat → Nat) × hg_T
def hg_ad (X : hg_X) : Nat → Nat := X.2.2.2.2.2.2.2.2.2.2.2.2.2.2.2.1
def hg_s (X : hg_X) : State := X.2.2.2.2.1
def hg_Af (X : hg_X) : Nat → Prop := X.2.2.2.2.2.2.2.2.2.2.2.1
def hg_tbl : List Cond := lw_tbl.filter goodWord
def hg_G (F : hg_F) (nL : Nat) (X : hg_X) (pc : Nat) (L : List (Nat × Value)) (st : List Value) (σ : hg_M) (ρ : hg_R) : Prop := match X with
  | (p, l, e, R, s, m, args, below, meth, c, D, A, cells, slots, Q, ad, t) => ∀ (H : Heap) (locs : List Loc) (ls : Array Slot), lv_has ls nL L → va_P D vwCl (hg_ws F t ad σ ρ) H → va_S A s.heap H locs → W p l e R s m args below meth c H locs cells slots Q (F0 m pc ls st)
def hg_rm (d : Nat) : Room := { frames := d, cells := 0, slots := 0, locals := 64 * d }
def hg_isN : Cond → Bool
  | .methodLinkNest _ _ _ _ => true
  | _ => false
def hg_nws : List Cond := lw_tbl.filter hg_isN
abbrev hg_Et : Type := (Nat → Prop) → State → Heap → Prop
/-- facts of the start that nobody writes (statics, constants): they stay -/
def hg_Eok (E : hg_Et) : Prop := (∀ A (u U : State) H, u.vm.Alike U.vm → E A u H → E A U H) ∧ (∀ A U (H H1 : Heap), E A U H → (∀ a : Nat, a < H.size → ¬ A a → H1[a]? = H[a]?) → E A U H1) ∧ (∀ (A B : Nat → Prop) U H, E A U H → (∀ q, B q → A q) → E B U H) ∧ (∀ A U H, E A U H → ∀ w ∈ hg_nws, va_Nw w U) ∧ ∃ z, ∀ A U H, E A U H → hg_St z A U H
def hg_C (F : hg_F) (nL d : Nat) (E : hg_Et) (cc : ByteArray) (own : String) (X : hg_X) : Prop := match X with
  | (p, l, e, R, s, m, args, below, meth, c, D, A, cells, slots, Q, ad, t) => (p.tables.exec = Jvm.exec ∧ c.code = cc) ∧ c.maxLocals = nL ∧ s.vm.findClass own = some m.cls ∧ (∀ w ∈ hg_tbl, w.before args s = true) ∧ va_K D vwCl (hg_tys t) s ∧ hg_Dd F ad A ∧ (∀ q, s.heap.size ≤ q → A q) ∧ meth.locks = false ∧ (R.frames = d ∧ R.locals = 64 * d) ∧ (cells = 0 ∧ slots = 0) ∧ E A s s.heap ∧ hg_Eok E
section HG
variable {F : hg_F} {nL : Nat} {d : Nat} {E : hg_Et} {cc : ByteArray} {own : String} {X : hg_X} {pc : Nat} {L : List (Nat × Value)} {st : List Value} {σ : hg_M} {ρ : hg_R}
theorem hg_iconst (hC : hg_C F nL d E cc own X) {z : Int} {v : Int32} (hd : decode cc pc = .ok (.iconst z, 1)) (hv : Int32.ofInt z = v) {n : Nat} (hn : pc + 1 = n) (k : hg_G F nL X n L (.int v :: st) σ ρ) : hg_G F nL X pc L (st) σ ρ := by
  obtain ⟨p, l, e, R, s, m, args, below, meth, c, D, A, cells, slots, Q, ad, t⟩ := X
  obtain ⟨⟨hx, hb⟩, hml, hown, hts, hK, hDd, hA, hlk, ⟨hR1, hR2⟩, ⟨hz1, hz2⟩, hE, hEok⟩ := hC
  intro H locs ls hl hP hS
  subst hn
  exact lv_iconst hx hb hd hv (k H locs ls hl hP hS)
theorem hg_bipush (hC : hg_C F nL d E cc own X) {z : Int} {v : Int32} (hd : decode cc pc = .ok (.bipush z, 2)) (hv : (Int8.ofInt z).toInt32 = v) {n : Nat} (hn : pc + 2 = n) (k : hg_G F nL X n L (.int v :: st) σ ρ) : hg_G F nL X pc L (st) σ ρ := by
  obtain ⟨p, l, e, R, s, m, args, below, meth, c, D, A, cells, slots, Q, ad, t⟩ := X
  obtain ⟨⟨hx, hb⟩, hml, hown, hts, hK, hDd, hA, hlk, ⟨hR1, hR2⟩, ⟨hz1, hz2⟩, hE, hEok⟩ := hC
  intro H locs ls hl hP hS
  subst hn
  exact lv_bipush hx hb hd hv (k H locs ls hl hP hS)
theorem hg_sipush (hC : hg_C F nL d E cc own X) {z : Int} {v : Int32} (hd : decode cc pc = .ok (.sipush z, 3)) (hv : (Int16.ofInt z).toInt32 = v) {n : Nat} (hn : pc + 3 = n) (k : hg_G F nL X n L (.int v :: st) σ ρ) : hg_G F nL X pc L (st) σ ρ := by
  obtain ⟨p, l, e, R, s, m, args, below, meth, c, D, A, cells, slots, Q, ad, t⟩ := X
  obtain ⟨⟨hx, hb⟩, hml, hown, hts, hK, hDd, hA, hlk, ⟨hR1, hR2⟩, ⟨hz1, hz2⟩, hE, hEok⟩ := hC
  intro H locs ls hl hP hS
  subst hn
  exact lv_sipush hx hb hd hv (k H locs ls hl hP hS)
theorem hg_lconst (hC : hg_C F nL d E cc own X) {z : Fin 2} {v : Int64} (hd : decode cc pc = .ok (.lconst z, 1)) (hv : Int64.ofNat (z : Nat) = v) {n : Nat} (hn : pc + 1 = n) (k : hg_G F nL X n L (.long v :: st) σ ρ) : hg_G F nL X pc L (st) σ ρ := by
  obtain ⟨p, l, e, R, s, m, args, below, meth, c, D, A, cells, slots, Q, ad, t⟩ := X
  obtain ⟨⟨hx, hb⟩, hml, hown, hts, hK, hDd, hA, hlk, ⟨hR1, hR2⟩, ⟨hz1, hz2⟩, hE, hEok⟩ := hC
  intro H locs ls hl hP hS
  subst hn
  exact lv_lconst hx hb hd hv (k H locs ls hl hP hS)
theorem hg_iload_n (hC : hg_C F nL d E cc own X) {j : Fin 4} {i : Nat} {x : Int32} (hd : decode cc pc = .ok (.iload_n j, 1)) (hi : (j : Nat) = i) (a : Nat) (ha : L[a]? = some (i, .int x)) {n : Nat} (hn : pc + 1 = n) (k : hg_G F nL X n L (.int x :: st) σ ρ) : hg_G F nL X pc L (st) σ ρ := by
  obtain ⟨p, l, e, R, s, m, args, below, meth, c, D, A, cells, slots, Q, ad, t⟩ := X
  obtain ⟨⟨hx, hb⟩, hml, hown, hts, hK, hDd, hA, hlk, ⟨hR1, hR2⟩, ⟨hz1, hz2⟩, hE, hEok⟩ := hC
  intro H locs ls hl hP hS
  subst hn
  exact lv_iload_n hx hb hd hi (lv_at hl a ha) (k H locs ls hl hP hS)
theorem hg_iload (hC : hg_C F nL d E cc own X) {i : Nat} {x : Int32} (hd : decode cc pc = .ok (.iload i, 2)) (a : Nat) (ha : L[a]? = some (i, .int x)) {n : Nat} (hn : pc + 2 = n) (k : hg_G F nL X n L (.int x :: st) σ ρ) : hg_G F nL X pc L (st) σ ρ := by
  obtain ⟨p, l, e, R, s, m, args, below, meth, c, D, A, cells, slots, Q, ad, t⟩ := X
  obtain ⟨⟨hx, hb⟩, hml, hown, hts, hK, hDd, hA, hlk, ⟨hR1, hR2⟩, ⟨hz1, hz2⟩, hE, hEok⟩ := hC
  intro H locs ls hl hP hS
  subst hn
  exact lv_iload hx hb hd (lv_at hl a ha) (k H locs ls hl hP hS)
theorem hg_lload_n (hC : hg_C F nL d E cc own X) {j : Fin 4} {i : Nat} {x : Int64} (hd : decode cc pc = .ok (.lload_n j, 1)) (hi : (j : Nat) = i) (a : Nat) (ha : L[a]? = some (i, .long x)) {n : Nat} (hn : pc + 1 = n) (k : hg_G F nL X n L (.long x :: st) σ ρ) : hg_G F nL X pc L (st) σ ρ := by
  obtain ⟨p, l, e, R, s, m, args, below, meth, c, D, A, cells, slots, Q, ad, t⟩ := X
  obtain ⟨⟨hx, hb⟩, hml, hown, hts, hK, hDd, hA, hlk, ⟨hR1, hR2⟩, ⟨hz1, hz2⟩, hE, hEok⟩ := hC
  intro H locs ls hl hP hS
  subst hn
  exact lv_lload_n hx hb hd hi (lv_at hl a ha) (k H locs ls hl hP hS)
theorem hg_lload (hC : hg_C F nL d E cc own X) {i : Nat} {x : Int64} (hd : decode cc pc = .ok (.lload i, 2)) (a : Nat) (ha : L[a]? = some (i, .long x)) {n : Nat} (hn : pc + 2 = n) (k : hg_G F nL X n L (.long x :: st) σ ρ) : hg_G F nL X pc L (st) σ ρ := by
  obtain ⟨p, l, e, R, s, m, args, below, meth, c, D, A, cells, slots, Q, ad, t⟩ := X
  obtain ⟨⟨hx, hb⟩, hml, hown, hts, hK, hDd, hA, hlk, ⟨hR1, hR2⟩, ⟨hz1, hz2⟩, hE, hEok⟩ := hC
  intro H locs ls hl hP hS
  subst hn
  exact lv_lload hx hb hd (lv_at hl a ha) (k H locs ls hl hP hS)
theorem hg_aload_n (hC : hg_C F nL d E cc own X) {j : Fin 4} {i : Nat} {x : Nat} (hd : decode cc pc = .ok (.aload_n j, 1)) (hi : (j : Nat) = i) (a : Nat) (ha : L[a]? = some (i, .ref x)) {n : Nat} (hn : pc + 1 = n) (k : hg_G F nL X n L (.ref x :: st) σ ρ) : hg_G F nL X pc L (st) σ ρ := by
  obtain ⟨p, l, e, R, s, m, args, below, meth, c, D, A, cells, slots, Q, ad, t⟩ := X
  obtain ⟨⟨hx, hb⟩, hml, hown, hts, hK, hDd, hA, hlk, ⟨hR1, hR2⟩, ⟨hz1, hz2⟩, hE, hEok⟩ := hC
  intro H locs ls hl hP hS
  subst hn
  exact lv_aload_n hx hb hd hi (lv_at hl a ha) (k H locs ls hl hP hS)
theorem hg_aload (hC : hg_C F nL d E cc own X) {i : Nat} {x : Nat} (hd : decode cc pc = .ok (.aload i, 2)) (a : Nat) (ha : L[a]? = some (i, .ref x)) {n : Nat} (hn : pc + 2 = n) (k : hg_G F nL X n L (.ref x :: st) σ ρ) : hg_G F nL X pc L (st) σ ρ := by
  obtain ⟨p, l, e, R, s, m, args, below, meth, c, D, A, cells, slots, Q, ad, t⟩ := X
  obtain ⟨⟨hx, hb⟩, hml, hown, hts, hK, hDd, hA, hlk, ⟨hR1, hR2⟩, ⟨hz1, hz2⟩, hE, hEok⟩ := hC
  intro H locs ls hl hP hS
  subst hn
  exact lv_aload hx hb hd (lv_at hl a ha) (k H locs ls hl hP hS)
theorem hg_istore_n (hC : hg_C F nL d E cc own X) {j : Fin 4} {i : Nat} {x : Int32} {L1 : List (Nat × Value)} (hd : decode cc pc = .ok (.istore_n j, 1)) (hi : (j : Nat) = i) (hb1 : i < nL) (hL : (i, Value.int x) :: L.filter (fun q => !(q.1 == i) && !(q.1 + 1 == i && q.2.category == 2)) = L1) {n : Nat} (hn : pc + 1 = n) (k : hg_G F nL X n L1 st σ ρ) : hg_G F nL X pc L (.int x :: st) σ ρ := by
  obtain ⟨p, l, e, R, s, m, args, below, meth, c, D, A, cells, slots, Q, ad, t⟩ := X
  obtain ⟨⟨hx, hb⟩, hml, hown, hts, hK, hDd, hA, hlk, ⟨hR1, hR2⟩, ⟨hz1, hz2⟩, hE, hEok⟩ := hC
  intro H locs ls hl hP hS
  subst hn
  exact lv_istore_n hx hb hd hi hl hb1 hL (fun ls1 hl1 => k H locs ls1 hl1 hP hS)
theorem hg_istore (hC : hg_C F nL d E cc own X) {i : Nat} {x : Int32} {L1 : List (Nat × Value)} (hd : decode cc pc = .ok (.istore i, 2)) (hb1 : i < nL) (hL : (i, Value.int x) :: L.filter (fun q => !(q.1 == i) && !(q.1 + 1 == i && q.2.category == 2)) = L1) {n : Nat} (hn : pc + 2 = n) (k : hg_G F nL X n L1 st σ ρ) : hg_G F nL X pc L (.int x :: st) σ ρ := by
  obtain ⟨p, l, e, R, s, m, args, below, meth, c, D, A, cells, slots, Q, ad, t⟩ := X
  obtain ⟨⟨hx, hb⟩, hml, hown, hts, hK, hDd, hA, hlk, ⟨hR1, hR2⟩, ⟨hz1, hz2⟩, hE, hEok⟩ := hC
  intro H locs ls hl hP hS
  subst hn
  exact lv_istore hx hb hd hl hb1 hL (fun ls1 hl1 => k H locs ls1 hl1 hP hS)
theorem hg_lstore_n (hC : hg_C F nL d E cc own X) {j : Fin 4} {i : Nat} {x : Int64} {L1 : List (Nat × Value)} (hd : decode cc pc = .ok (.lstore_n j, 1)) (hi : (j : Nat) = i) (hb1 : i + 1 < nL) (hL : (i, Value.long x) :: L.filter (fun q => !(q.1 == i) && (!(q.1 == i + 1) && !(q.1 + 1 == i && q.2.category == 2))) = L1) {n : Nat} (hn : pc + 1 = n) (k : hg_G F nL X n L1 st σ ρ) : hg_G F nL X pc L (.long x :: st) σ ρ := by
  obtain ⟨p, l, e, R, s, m, args, below, meth, c, D, A, cells, slots, Q, ad, t⟩ := X
  obtain ⟨⟨hx, hb⟩, hml, hown, hts, hK, hDd, hA, hlk, ⟨hR1, hR2⟩, ⟨hz1, hz2⟩, hE, hEok⟩ := hC
  intro H locs ls hl hP hS
  subst hn
  exact lv_lstore_n hx hb hd hi hl hb1 hL (fun ls1 hl1 => k H locs ls1 hl1 hP hS)
theorem hg_lstore (hC : hg_C F nL d E cc own X) {i : Nat} {x : Int64} {L1 : List (Nat × Value)} (hd : decode cc pc = .ok (.lstore i, 2)) (hb1 : i + 1 < nL) (hL : (i, Value.long x) :: L.filter (fun q => !(q.1 == i) && (!(q.1 == i + 1) && !(q.1 + 1 == i && q.2.category == 2))) = L1) {n : Nat} (hn : pc + 2 = n) (k : hg_G F nL X n L1 st σ ρ) : hg_G F nL X pc L (.long x :: st) σ ρ := by
  obtain ⟨p, l, e, R, s, m, args, below, meth, c, D, A, cells, slots, Q, ad, t⟩ := X
  obtain ⟨⟨hx, hb⟩, hml, hown, hts, hK, hDd, hA, hlk, ⟨hR1, hR2⟩, ⟨hz1, hz2⟩, hE, hEok⟩ := hC
  intro H locs ls hl hP hS
  subst hn
  exact lv_lstore hx hb hd hl hb1 hL (fun ls1 hl1 => k H locs ls1 hl1 hP hS)
theorem hg_astore_n (hC : hg_C F nL d E cc own X) {j : Fin 4} {i : Nat} {x : Nat} {L1 : List (Nat × Value)} (hd : decode cc pc = .ok (.astore_n j, 1)) (hi : (j : Nat) = i) (hb1 : i < nL) (hL : (i, Value.ref x) :: L.filter (fun q => !(q.1 == i) && !(q.1 + 1 == i && q.2.category == 2)) = L1) {n : Nat} (hn : pc + 1 = n) (k : hg_G F nL X n L1 st σ ρ) : hg_G F nL X pc L (.ref x :: st) σ ρ := by
  obtain ⟨p, l, e, R, s, m, args, below, meth, c, D, A, cells, slots, Q, ad, t⟩ := X
  obtain ⟨⟨hx, hb⟩, hml, hown, hts, hK, hDd, hA, hlk, ⟨hR1, hR2⟩, ⟨hz1, hz2⟩, hE, hEok⟩ := hC
  intro H locs ls hl hP hS
  subst hn
  exact lv_astore_n hx hb hd hi hl hb1 hL (fun ls1 hl1 => k H locs ls1 hl1 hP hS)
theorem hg_astore (hC : hg_C F nL d E cc own X) {i : Nat} {x : Nat} {L1 : List (Nat × Value)} (hd : decode cc pc = .ok (.astore i, 2)) (hb1 : i < nL) (hL : (i, Value.ref x) :: L.filter (fun q => !(q.1 == i) && !(q.1 + 1 == i && q.2.category == 2)) = L1) {n : Nat} (hn : pc + 2 = n) (k : hg_G F nL X n L1 st σ ρ) : hg_G F nL X pc L (.ref x :: st) σ ρ := by
  obtain ⟨p, l, e, R, s, m, args, below, meth, c, D, A, cells, slots, Q, ad, t⟩ := X
  obtain ⟨⟨hx, hb⟩, hml, hown, hts, hK, hDd, hA, hlk, ⟨hR1, hR2⟩, ⟨hz1, hz2⟩, hE, hEok⟩ := hC
  intro H locs ls hl hP hS
  subst hn
  exact lv_astore hx hb hd hl hb1 hL (fun ls1 hl1 => k H locs ls1 hl1 hP hS)
theorem hg_iinc (hC : hg_C F nL d E cc own X) {i : Nat} {z : Int} {x v : Int32} {L1 : List (Nat × Value)} (hd : decode cc pc = .ok (.iinc i z, 3)) (a : Nat) (ha : L[a]? = some (i, .int x)) (hv : x + Int32.ofInt z = v) (hb1 : i < nL) (hL : (i, Value.int v) :: L.filter (fun q => !(q.1 == i) && !(q.1 + 1 == i && q.2.category == 2)) = L1) {n : Nat} (hn : pc + 3 = n) (k : hg_G F nL X n L1 st σ ρ) : hg_G F nL X pc L st σ ρ := by
  obtain ⟨p, l, e, R, s, m, args, below, meth, c, D, A, cells, slots, Q, ad, t⟩ := X
  obtain ⟨⟨hx, hb⟩, hml, hown, hts, hK, hDd, hA, hlk, ⟨hR1, hR2⟩, ⟨hz1, hz2⟩, hE, hEok⟩ := hC
  intro H locs ls hl hP hS
  subst hn
  exact lv_iinc hx hb hd hl ha hv hb1 hL (fun ls1 hl1 => k H locs ls1 hl1 hP hS)
theorem hg_iadd (hC : hg_C F nL d E cc own X) {x y : Int32} (hd : decode cc pc = .ok (.iadd, 1)) {n : Nat} (hn : pc + 1 = n) (k : hg_G F nL X n L (.int (x + y) :: st) σ ρ) : hg_G F nL X pc L (.int y :: .int x :: st) σ ρ := by
  obtain ⟨p, l, e, R, s, m, args, below, meth, c, D, A, cells, slots, Q, ad, t⟩ := X
  obtain ⟨⟨hx, hb⟩, hml, hown, hts, hK, hDd, hA, hlk, ⟨hR1, hR2⟩, ⟨hz1, hz2⟩, hE, hEok⟩ := hC
  intro H locs ls hl hP hS
  subst hn
  exact lv_iadd hx hb hd (k H locs ls hl hP hS)
theorem hg_isub (hC : hg_C F nL d E cc own X) {x y : Int32} (hd : decode cc pc = .ok (.isub, 1)) {n : Nat} (hn : pc + 1 = n) (k : hg_G F nL X n L (.int (x - y) :: st) σ ρ) : hg_G F nL X pc L (.int y :: .int x :: st) σ ρ := by
  obtain ⟨p, l, e, R, s, m, args, below, meth, c, D, A, cells, slots, Q, ad, t⟩ := X
  obtain ⟨⟨hx, hb⟩, hml, hown, hts, hK, hDd, hA, hlk, ⟨hR1, hR2⟩, ⟨hz1, hz2⟩, hE, hEok⟩ := hC
  intro H locs ls hl hP hS
  subst hn
  exact lv_isub hx hb hd (k H locs ls hl hP hS)
theorem hg_imul (hC : hg_C F nL d E cc own X) {x y : Int32} (hd : decode cc pc = .ok (.imul, 1)) {n : Nat} (hn : pc + 1 = n) (k : hg_G F nL X n L (.int (x * y) :: st) σ ρ) : hg_G F nL X pc L (.int y :: .int x :: st) σ ρ := by
  obtain ⟨p, l, e, R, s, m, args, below, meth, c, D, A, cells, slots, Q, ad, t⟩ := X
  obtain ⟨⟨hx, hb⟩, hml, hown, hts, hK, hDd, hA, hlk, ⟨hR1, hR2⟩, ⟨hz1, hz2⟩, hE, hEok⟩ := hC
  intro H locs ls hl hP hS
  subst hn
  exact lv_imul hx hb hd (k H locs ls hl hP hS)
theorem hg_iand (hC : hg_C F nL d E cc own X) {x y : Int32} (hd : decode cc pc = .ok (.iand, 1)) {n : Nat} (hn : pc + 1 = n) (k : hg_G F nL X n L (.int (x &&& y) :: st) σ ρ) : hg_G F nL X pc L (.int y :: .int x :: st) σ ρ := by
  obtain ⟨p, l, e, R, s, m, args, below, meth, c, D, A, cells, slots, Q, ad, t⟩ := X
  obtain ⟨⟨hx, hb⟩, hml, hown, hts, hK, hDd, hA, hlk, ⟨hR1, hR2⟩, ⟨hz1, hz2⟩, hE, hEok⟩ := hC
  intro H locs ls hl hP hS
  subst hn
  exact lv_iand hx hb hd (k H locs ls hl hP hS)
theorem hg_ior (hC : hg_C F nL d E cc own X) {x y : Int32} (hd : decode cc pc = .ok (.ior, 1)) {n : Nat} (hn : pc + 1 = n) (k : hg_G F nL X n L (.int (x ||| y) :: st) σ ρ) : hg_G F nL X pc L (.int y :: .int x :: st) σ ρ := by
  obtain ⟨p, l, e, R, s, m, args, below, meth, c, D, A, cells, slots, Q, ad, t⟩ := X
  obtain ⟨⟨hx, hb⟩, hml, hown, hts, hK, hDd, hA, hlk, ⟨hR1, hR2⟩, ⟨hz1, hz2⟩, hE, hEok⟩ := hC
  intro H locs ls hl hP hS
  subst hn
  exact lv_ior hx hb hd (k H locs ls hl hP hS)
theorem hg_ixor (hC : hg_C F nL d E cc own X) {x y : Int32} (hd : decode cc pc = .ok (.ixor, 1)) {n : Nat} (hn : pc + 1 = n) (k : hg_G F nL X n L (.int (x ^^^ y) :: st) σ ρ) : hg_G F nL X pc L (.int y :: .int x :: st) σ ρ := by
  obtain ⟨p, l, e, R, s, m, args, below, meth, c, D, A, cells, slots, Q, ad, t⟩ := X
  obtain ⟨⟨hx, hb⟩, hml, hown, hts, hK, hDd, hA, hlk, ⟨hR1, hR2⟩, ⟨hz1, hz2⟩, hE, hEok⟩ := hC
  intro H locs ls hl hP hS
  subst hn
  exact lv_ixor hx hb hd (k H locs ls hl hP hS)
theorem hg_idiv (hC : hg_C F nL d E cc own X) {x y : Int32} (hd : decode cc pc = .ok (.idiv, 1)) (hne : ¬ y = 0) {n : Nat} (hn : pc + 1 = n) (k : hg_G F nL X n L (.int (x / y) :: st) σ ρ) : hg_G F nL X pc L (.int y :: .int x :: st) σ ρ := by
  obtain ⟨p, l, e, R, s, m, args, below, meth, c, D, A, cells, slots, Q, ad, t⟩ := X
  obtain ⟨⟨hx, hb⟩, hml, hown, hts, hK, hDd, hA, hlk, ⟨hR1, hR2⟩, ⟨hz1, hz2⟩, hE, hEok⟩ := hC
  intro H locs ls hl hP hS
  subst hn
  exact lv_idiv hx hb hd hne (k H locs ls hl hP hS)
theorem hg_irem (hC : hg_C F nL d E cc own X) {x y : Int32} (hd : decode cc pc = .ok (.irem, 1)) (hne : ¬ y = 0) {n : Nat} (hn : pc + 1 = n) (k : hg_G F nL X n L (.int (x - (x / y) * y) :: st) σ ρ) : hg_G F nL X pc L (.int y :: .int x :: st) σ ρ := by
  obtain ⟨p, l, e, R, s, m, args, below, meth, c, D, A, cells, slots, Q, ad, t⟩ := X
  obtain ⟨⟨hx, hb⟩, hml, hown, hts, hK, hDd, hA, hlk, ⟨hR1, hR2⟩, ⟨hz1, hz2⟩, hE, hEok⟩ := hC
  intro H locs ls hl hP hS
  subst hn
  exact lv_irem hx hb hd hne (k H locs ls hl hP hS)
theorem hg_dup (hC : hg_C F nL d E cc own X) {v : Value} (hd : decode cc pc = .ok (.dup, 1)) (hv : v.category = 1) {n : Nat} (hn : pc + 1 = n) (k : hg_G F nL X n L (v :: v :: st) σ ρ) : hg_G F nL X pc L (v :: st) σ ρ := by
  obtain ⟨p, l, e, R, s, m, args, below, meth, c, D, A, cells, slots, Q, ad, t⟩ := X
  obtain ⟨⟨hx, hb⟩, hml, hown, hts, hK, hDd, hA, hlk, ⟨hR1, hR2⟩, ⟨hz1, hz2⟩, hE, hEok⟩ := hC
  intro H locs ls hl hP hS
  subst hn
  exact lv_dup hx hb hd hv (k H locs ls hl hP hS)
theorem hg_pop (hC : hg_C F nL d E cc own X) {v : Value} (hd : decode cc pc = .ok (.pop, 1)) (hv : v.category = 1) {n : Nat} (hn : pc + 1 = n) (k : hg_G F nL X n L (st) σ ρ) : hg_G F nL X pc L (v :: st) σ ρ := by
  obtain ⟨p, l, e, R, s, m, args, below, meth, c, D, A, cells, slots, Q, ad, t⟩ := X
  obtain ⟨⟨hx, hb⟩, hml, hown, hts, hK, hDd, hA, hlk, ⟨hR1, hR2⟩, ⟨hz1, hz2⟩, hE, hEok⟩ := hC
  intro H locs ls hl hP hS
  subst hn
  exact lv_pop hx hb hd hv (k H locs ls hl hP hS)
theorem hg_i2l (hC : hg_C F nL d E cc own X) {x : Int32} {v : Int64} (hd : decode cc pc = .ok (.i2l, 1)) (hv : x.toInt64 = v) {n : Nat} (hn : pc + 1 = n) (k : hg_G F nL X n L (.long v :: st) σ ρ) : hg_G F nL X pc L (.int x :: st) σ ρ := by
  obtain ⟨p, l, e, R, s, m, args, below, meth, c, D, A, cells, slots, Q, ad, t⟩ := X
  obtain ⟨⟨hx, hb⟩, hml, hown, hts, hK, hDd, hA, hlk, ⟨hR1, hR2⟩, ⟨hz1, hz2⟩, hE, hEok⟩ := hC
  intro H locs ls hl hP hS
  subst hn
  exact lv_i2l hx hb hd hv (k H locs ls hl hP hS)
theorem hg_l2i (hC : hg_C F nL d E cc own X) {x : Int64} {v : Int32} (hd : decode cc pc = .ok (.l2i, 1)) (hv : x.toInt32 = v) {n : Nat} (hn : pc + 1 = n) (k : hg_G F nL X n L (.int v :: st) σ ρ) : hg_G F nL X pc L (.long x :: st) σ ρ := by
  obtain ⟨p, l, e, R, s, m, args, below, meth, c, D, A, cells, slots, Q, ad, t⟩ := X
  obtain ⟨⟨hx, hb⟩, hml, hown, hts, hK, hDd, hA, hlk, ⟨hR1, hR2⟩, ⟨hz1, hz2⟩, hE, hEok⟩ := hC
  intro H locs ls hl hP hS
  subst hn
  exact lv_l2i hx hb hd hv (k H locs ls hl hP hS)
theorem hg_ladd (hC : hg_C F nL d E cc own X) {x y : Int64} (hd : decode cc pc = .ok (.ladd, 1)) {n : Nat} (hn : pc + 1 = n) (k : hg_G F nL X n L (.long (x + y) :: st) σ ρ) : hg_G F nL X pc L (.long y :: .long x :: st) σ ρ := by
  obtain ⟨p, l, e, R, s, m, args, below, meth, c, D, A, cells, slots, Q, ad, t⟩ := X
  obtain ⟨⟨hx, hb⟩, hml, hown, hts, hK, hDd, hA, hlk, ⟨hR1, hR2⟩, ⟨hz1, hz2⟩, hE, hEok⟩ := hC
  intro H locs ls hl hP hS
  subst hn
  exact lv_ladd hx hb hd (k H locs ls hl hP hS)
theorem hg_lsub (hC : hg_C F nL d E cc own X) {x y : Int64} (hd : decode cc pc = .ok (.lsub, 1)) {n : Nat} (hn : pc + 1 = n) (k : hg_G F nL X n L (.long (x - y) :: st) σ ρ) : hg_G F nL X pc L (.long y :: .long x :: st) σ ρ := by
  obtain ⟨p, l, e, R, s, m, args, below, meth, c, D, A, cells, slots, Q, ad, t⟩ := X
  obtain ⟨⟨hx, hb⟩, hml, hown, hts, hK, hDd, hA, hlk, ⟨hR1, hR2⟩, ⟨hz1, hz2⟩, hE, hEok⟩ := hC
  intro H locs ls hl hP hS
  subst hn
  exact lv_lsub hx hb hd (k H locs ls hl hP hS)
theorem hg_lmul (hC : hg_C F nL d E cc own X) {x y : Int64} (hd : decode cc pc = .ok (.lmul, 1)) {n : Nat} (hn : pc + 1 = n) (k : hg_G F nL X n L (.long (x * y) :: st) σ ρ) : hg_G F nL X pc L (.long y :: .long x :: st) σ ρ := by
  obtain ⟨p, l, e, R, s, m, args, below, meth, c, D, A, cells, slots, Q, ad, t⟩ := X
  obtain ⟨⟨hx, hb⟩, hml, hown, hts, hK, hDd, hA, hlk, ⟨hR1, hR2⟩, ⟨hz1, hz2⟩, hE, hEok⟩ := hC
  intro H locs ls hl hP hS
  subst hn
  exact lv_lmul hx hb hd (k H locs ls hl hP hS)
theorem hg_land (hC : hg_C F nL d E cc own X) {x y : Int64} (hd : decode cc pc = .ok (.land, 1)) {n : Nat} (hn : pc + 1 = n) (k : hg_G F nL X n L (.long (x &&& y) :: st) σ ρ) : hg_G F nL X pc L (.long y :: .long x :: st) σ ρ := by
  obtain ⟨p, l, e, R, s, m, args, below, meth, c, D, A, cells, slots, Q, ad, t⟩ := X
  obtain ⟨⟨hx, hb⟩, hml, hown, hts, hK, hDd, hA, hlk, ⟨hR1, hR2⟩, ⟨hz1, hz2⟩, hE, hEok⟩ := hC
  intro H locs ls hl hP hS
  subst hn
  exact lv_land hx hb hd (k H locs ls hl hP hS)
theorem hg_lor (hC : hg_C F nL d E cc own X) {x y : Int64} (hd : decode cc pc = .ok (.lor, 1)) {n : Nat} (hn : pc + 1 = n) (k : hg_G F nL X n L (.long (x ||| y) :: st) σ ρ) : hg_G F nL X pc L (.long y :: .long x :: st) σ ρ := by
  obtain ⟨p, l, e, R, s, m, args, below, meth, c, D, A, cells, slots, Q, ad, t⟩ := X
  obtain ⟨⟨hx, hb⟩, hml, hown, hts, hK, hDd, hA, hlk, ⟨hR1, hR2⟩, ⟨hz1, hz2⟩, hE, hEok⟩ := hC
  intro H locs ls hl hP hS
  subst hn
  exact lv_lor hx hb hd (k H locs ls hl hP hS)
theorem hg_if_eq (hC : hg_C F nL d E cc own X) {x : Int32} {off : Int} {tg : Nat} (hd : decode cc pc = .ok (.ifCond .eq off, 3)) (ht : (pc : Int) + off = (tg : Int)) {n : Nat} (hn : pc + 3 = n) (kt : x = 0 → hg_G F nL X tg L st σ ρ) (kf : ¬ x = 0 → hg_G F nL X n L st σ ρ) : hg_G F nL X pc L (.int x :: st) σ ρ := by
  obtain ⟨p, l, e, R, s, m, args, below, meth, c, D, A, cells, slots, Q, ad, t⟩ := X
  obtain ⟨⟨hx, hb⟩, hml, hown, hts, hK, hDd, hA, hlk, ⟨hR1, hR2⟩, ⟨hz1, hz2⟩, hE, hEok⟩ := hC
  intro H locs ls hl hP hS
  subst hn
  exact lv_if_eq hx hb hd ht (fun h => kt h H locs ls hl hP hS) (fun h => kf h H locs ls hl hP hS)
theorem hg_if_ne (hC : hg_C F nL d E cc own X) {x : Int32} {off : Int} {tg : Nat} (hd : decode cc pc = .ok (.ifCond .ne off, 3)) (ht : (pc : Int) + off = (tg : Int)) {n : Nat} (hn : pc + 3 = n) (kt : x ≠ 0 → hg_G F nL X tg L st σ ρ) (kf : x = 0 → hg_G F nL X n L st σ ρ) : hg_G F nL X pc L (.int x :: st) σ ρ := by
  obtain ⟨p, l, e, R, s, m, args, below, meth, c, D, A, cells, slots, Q, ad, t⟩ := X
  obtain ⟨⟨hx, hb⟩, hml, hown, hts, hK, hDd, hA, hlk, ⟨hR1, hR2⟩, ⟨hz1, hz2⟩, hE, hEok⟩ := hC
  intro H locs ls hl hP hS
  subst hn
  exact lv_if_ne hx hb hd ht (fun h => kt h H locs ls hl hP hS) (fun h => kf h H locs ls hl hP hS)
theorem hg_if_lt (hC : hg_C F nL d E cc own X) {x : Int32} {off : Int} {tg : Nat} (hd : decode cc pc = .ok (.ifCond .lt off, 3)) (ht : (pc : Int) + off = (tg : Int)) {n : Nat} (hn : pc + 3 = n) (kt : x < 0 → hg_G F nL X tg L st σ ρ) (kf : ¬ x < 0 → hg_G F nL X n L st σ ρ) : hg_G F nL X pc L (.int x :: st) σ ρ := by
  obtain ⟨p, l, e, R, s, m, args, below, meth, c, D, A, cells, slots, Q, ad, t⟩ := X
  obtain ⟨⟨hx, hb⟩, hml, hown, hts, hK, hDd, hA, hlk, ⟨hR1, hR2⟩, ⟨hz1, hz2⟩, hE, hEok⟩ := hC
  intro H locs ls hl hP hS
  subst hn
  exact lv_if_lt hx hb hd ht (fun h => kt h H locs ls hl hP hS) (fun h => kf h H locs ls hl hP hS)
theorem hg_if_ge (hC : hg_C F nL d E cc own X) {x : Int32} {off : Int} {tg : Nat} (hd : decode cc pc = .ok (.ifCond .ge off, 3)) (ht : (pc : Int) + off = (tg : Int)) {n : Nat} (hn : pc + 3 = n) (kt : 0 ≤ x → hg_G F nL X tg L st σ ρ) (kf : ¬ 0 ≤ x → hg_G F nL X n L st σ ρ) : hg_G F nL X pc L (.int x :: st) σ ρ := by
  obtain ⟨p, l, e, R, s, m, args, below, meth, c, D, A, cells, slots, Q, ad, t⟩ := X
  obtain ⟨⟨hx, hb⟩, hml, hown, hts, hK, hDd, hA, hlk, ⟨hR1, hR2⟩, ⟨hz1, hz2⟩, hE, hEok⟩ := hC
  intro H locs ls hl hP hS
  subst hn
  exact lv_if_ge hx hb hd ht (fun h => kt h H locs ls hl hP hS) (fun h => kf h H locs ls hl hP hS)
theorem hg_if_gt (hC : hg_C F nL d E cc own X) {x : Int32} {off : Int} {tg : Nat} (hd : decode cc pc = .ok (.ifCond .gt off, 3)) (ht : (pc : Int) + off = (tg : Int)) {n : Nat} (hn : pc + 3 = n) (kt : 0 < x → hg_G F nL X tg L st σ ρ) (kf : ¬ 0 < x → hg_G F nL X n L st σ ρ) : hg_G F nL X pc L (.int x :: st) σ ρ := by
  obtain ⟨p, l, e, R, s, m, args, below, meth, c, D, A, cells, slots, Q, ad, t⟩ := X
  obtain ⟨⟨hx, hb⟩, hml, hown, hts, hK, hDd, hA, hlk, ⟨hR1, hR2⟩, ⟨hz1, hz2⟩, hE, hEok⟩ := hC
  intro H locs ls hl hP hS
  subst hn
  exact lv_if_gt hx hb hd ht (fun h => kt h H locs ls hl hP hS) (fun h => kf h H locs ls hl hP hS)
theorem hg_if_le (hC : hg_C F nL d E cc own X) {x : Int32} {off : Int} {tg : Nat} (hd : decode cc pc = .ok (.ifCond .le off, 3)) (ht : (pc : Int) + off = (tg : Int)) {n : Nat} (hn : pc + 3 = n) (kt : x ≤ 0 → hg_G F nL X tg L st σ ρ) (kf : ¬ x ≤ 0 → hg_G F nL X n L st σ ρ) : hg_G F nL X pc L (.int x :: st) σ ρ := by
  obtain ⟨p, l, e, R, s, m, args, below, meth, c, D, A, cells, slots, Q, ad, t⟩ := X
  obtain ⟨⟨hx, hb⟩, hml, hown, hts, hK, hDd, hA, hlk, ⟨hR1, hR2⟩, ⟨hz1, hz2⟩, hE, hEok⟩ := hC
  intro H locs ls hl hP hS
  subst hn
  exact lv_if_le hx hb hd ht (fun h => kt h H locs ls hl hP hS) (fun h => kf h H locs ls hl hP hS)
theorem hg_icmp_eq (hC : hg_C F nL d E cc own X) {x y : Int32} {off : Int} {tg : Nat} (hd : decode cc pc = .ok (.if_icmp .eq off, 3)) (ht : (pc : Int) + off = (tg : Int)) {n : Nat} (hn : pc + 3 = n) (kt : x = y → hg_G F nL X tg L st σ ρ) (kf : ¬ (x = y) → hg_G F nL X n L st σ ρ) : hg_G F nL X pc L (.int y :: .int x :: st) σ ρ := by
  obtain ⟨p, l, e, R, s, m, args, below, meth, c, D, A, cells, slots, Q, ad, t⟩ := X
  obtain ⟨⟨hx, hb⟩, hml, hown, hts, hK, hDd, hA, hlk, ⟨hR1, hR2⟩, ⟨hz1, hz2⟩, hE, hEok⟩ := hC
  intro H locs ls hl hP hS
  subst hn
  exact lv_icmp_eq hx hb hd ht (fun h => kt h H locs ls hl hP hS) (fun h => kf h H locs ls hl hP hS)
theorem hg_icmp_ne (hC : hg_C F nL d E cc own X) {x y : Int32} {off : Int} {tg : Nat} (hd : decode cc pc = .ok (.if_icmp .ne off, 3)) (ht : (pc : Int) + off = (tg : Int)) {n : Nat} (hn : pc + 3 = n) (kt : x ≠ y → hg_G F nL X tg L st σ ρ) (kf : x = y → hg_G F nL X n L st σ ρ) : hg_G F nL X pc L (.int y :: .int x :: st) σ ρ := by
  obtain ⟨p, l, e, R, s, m, args, below, meth, c, D, A, cells, slots, Q, ad, t⟩ := X
  obtain ⟨⟨hx, hb⟩, hml, hown, hts, hK, hDd, hA, hlk, ⟨hR1, hR2⟩, ⟨hz1, hz2⟩, hE, hEok⟩ := hC
  intro H locs ls hl hP hS
  subst hn
  exact lv_icmp_ne hx hb hd ht (fun h => kt h H locs ls hl hP hS) (fun h => kf h H locs ls hl hP hS)
theorem hg_icmp_lt (hC : hg_C F nL d E cc own X) {x y : Int32} {off : Int} {tg : Nat} (hd : decode cc pc = .ok (.if_icmp .lt off, 3)) (ht : (pc : Int) + off = (tg : Int)) {n : Nat} (hn : pc + 3 = n) (kt : x < y → hg_G F nL X tg L st σ ρ) (kf : ¬ (x < y) → hg_G F nL X n L st σ ρ) : hg_G F nL X pc L (.int y :: .int x :: st) σ ρ := by
  obtain ⟨p, l, e, R, s, m, args, below, meth, c, D, A, cells, slots, Q, ad, t⟩ := X
  obtain ⟨⟨hx, hb⟩, hml, hown, hts, hK, hDd, hA, hlk, ⟨hR1, hR2⟩, ⟨hz1, hz2⟩, hE, hEok⟩ := hC
  intro H locs ls hl hP hS
  subst hn
  exact lv_icmp_lt hx hb hd ht (fun h => kt h H locs ls hl hP hS) (fun h => kf h H locs ls hl hP hS)
theorem hg_icmp_ge (hC : hg_C F nL d E cc own X) {x y : Int32} {off : Int} {tg : Nat} (hd : decode cc pc = .ok (.if_icmp .ge off, 3)) (ht : (pc : Int) + off = (tg : Int)) {n : Nat} (hn : pc + 3 = n) (kt : y ≤ x → hg_G F nL X tg L st σ ρ) (kf : ¬ (y ≤ x) → hg_G F nL X n L st σ ρ) : hg_G F nL X pc L (.int y :: .int x :: st) σ ρ := by
  obtain ⟨p, l, e, R, s, m, args, below, meth, c, D, A, cells, slots, Q, ad, t⟩ := X
  obtain ⟨⟨hx, hb⟩, hml, hown, hts, hK, hDd, hA, hlk, ⟨hR1, hR2⟩, ⟨hz1, hz2⟩, hE, hEok⟩ := hC
  intro H locs ls hl hP hS
  subst hn
  exact lv_icmp_ge hx hb hd ht (fun h => kt h H locs ls hl hP hS) (fun h => kf h H locs ls hl hP hS)
theorem hg_icmp_gt (hC : hg_C F nL d E cc own X) {x y : Int32} {off : Int} {tg : Nat} (hd : decode cc pc = .ok (.if_icmp .gt off, 3)) (ht : (pc : Int) + off = (tg : Int)) {n : Nat} (hn : pc + 3 = n) (kt : y < x → hg_G F nL X tg L st σ ρ) (kf : ¬ (y < x) → hg_G F nL X n L st σ ρ) : hg_G F nL X pc L (.int y :: .int x :: st) σ ρ := by
  obtain ⟨p, l, e, R, s, m, args, below, meth, c, D, A, cells, slots, Q, ad, t⟩ := X
  obtain ⟨⟨hx, hb⟩, hml, hown, hts, hK, hDd, hA, hlk, ⟨hR1, hR2⟩, ⟨hz1, hz2⟩, hE, hEok⟩ := hC
  intro H locs ls hl hP hS
  subst hn
  exact lv_icmp_gt hx hb hd ht (fun h => kt h H locs ls hl hP hS) (fun h => kf h H locs ls hl hP hS)
theorem hg_icmp_le (hC : hg_C F nL d E cc own X) {x y : Int32} {off : Int} {tg : Nat} (hd : decode cc pc = .ok (.if_icmp .le off, 3)) (ht : (pc : Int) + off = (tg : Int)) {n : Nat} (hn : pc + 3 = n) (kt : x ≤ y → hg_G F nL X tg L st σ ρ) (kf : ¬ (x ≤ y) → hg_G F nL X n L st σ ρ) : hg_G F nL X pc L (.int y :: .int x :: st) σ ρ := by
  obtain ⟨p, l, e, R, s, m, args, below, meth, c, D, A, cells, slots, Q, ad, t⟩ := X
  obtain ⟨⟨hx, hb⟩, hml, hown, hts, hK, hDd, hA, hlk, ⟨hR1, hR2⟩, ⟨hz1, hz2⟩, hE, hEok⟩ := hC
  intro H locs ls hl hP hS
  subst hn
  exact lv_icmp_le hx hb hd ht (fun h => kt h H locs ls hl hP hS) (fun h => kf h H locs ls hl hP hS)
theorem hg_goto (hC : hg_C F nL d E cc own X) {off : Int} {tg : Nat} (hd : decode cc pc = .ok (.goto off, 3)) (ht : (pc : Int) + off = (tg : Int)) (k : hg_G F nL X tg L st σ ρ) : hg_G F nL X pc L st σ ρ := by
  obtain ⟨p, l, e, R, s, m, args, below, meth, c, D, A, cells, slots, Q, ad, t⟩ := X
  obtain ⟨⟨hx, hb⟩, hml, hown, hts, hK, hDd, hA, hlk, ⟨hR1, hR2⟩, ⟨hz1, hz2⟩, hE, hEok⟩ := hC
  intro H locs ls hl hP hS
  exact lv_goto hx hb hd ht (k H locs ls hl hP hS)
theorem hg_topi {x : Int32} (k : ∀ y : Int32, y = x → hg_G F nL X pc L (.int y :: st) σ ρ) : hg_G F nL X pc L (.int x :: st) σ ρ := k x rfl
theorem hg_topl {x : Int64} (k : ∀ y : Int64, y = x → hg_G F nL X pc L (.long y :: st) σ ρ) : hg_G F nL X pc L (.long x :: st) σ ρ := k x rfl
theorem hg_sub {L1 : List (Nat × Value)} (ks : List Nat) (h : lv_pick L ks = L1) (k : hg_G F nL X pc L1 st σ ρ) : hg_G F nL X pc L st σ ρ := by
  obtain ⟨p, l, e, R, s, m, args, below, meth, c, D, A, cells, slots, Q, ad, t⟩ := X
  intro H locs ls hl hP hS
  exact k H locs ls (lv_sub hl ks h) hP hS
theorem hg_iald (hC : hg_C F nL d E cc own X) {q z : Nat} {i : Int32} (hd : decode cc pc = .ok (.iaload, 1)) (hq : q < F.1) (hk : F.2.1 q = (0, z)) (hi : vp_in i z) {n : Nat} (hn : pc + 1 = n) (k : hg_G F nL X n L (.int (σ q i.toNatClampNeg) :: st) σ ρ) : hg_G F nL X pc L (.int i :: .ref (hg_ad X q) :: st) σ ρ := by
  obtain ⟨p, l, e, R, s, m, args, below, meth, c, D, A, cells, slots, Q, ad, t⟩ := X
  obtain ⟨⟨hx, hb⟩, hml, hown, hts, hK, hDd, hA, hlk, ⟨hR1, hR2⟩, ⟨hz1, hz2⟩, hE, hEok⟩ := hC
  intro H locs ls hl hP hS
  subst hn
  exact va_iald hx hb hK hP q 0 ((hg_at hq).trans (by rw [hg_cell0 hk]; rfl)) rfl hi hd (k H locs ls hl hP hS)
theorem hg_zald (hC : hg_C F nL d E cc own X) {q z : Nat} {i : Int32} (hd : decode cc pc = .ok (.baload, 1)) (hq : q < F.1) (hk : F.2.1 q = (1, z)) (hi : vp_in i z) {n : Nat} (hn : pc + 1 = n) (k : hg_G F nL X n L (.int (σ q i.toNatClampNeg) :: st) σ ρ) : hg_G F nL X pc L (.int i :: .ref (hg_ad X q) :: st) σ ρ := by
  obtain ⟨p, l, e, R, s, m, args, below, meth, c, D, A, cells, slots, Q, ad, t⟩ := X
  obtain ⟨⟨hx, hb⟩, hml, hown, hts, hK, hDd, hA, hlk, ⟨hR1, hR2⟩, ⟨hz1, hz2⟩, hE, hEok⟩ := hC
  intro H locs ls hl hP hS
  subst hn
  exact va_zald hx hb hK hP q 1 ((hg_at hq).trans (by rw [hg_cell1 hk]; rfl)) rfl hi hd (k H locs ls hl hP hS)
theorem hg_iast (hC : hg_C F nL d E cc own X) {q z : Nat} {i x : Int32} (hd : decode cc pc = .ok (.iastore, 1)) (hq : q < F.1) (hk : F.2.1 q = (0, z)) (hi : vp_in i z) {n : Nat} (hn : pc + 1 = n) (k : ∀ σ1, σ1 = hg_set σ q i.toNatClampNeg x → hg_G F nL X n L st σ1 ρ) : hg_G F nL X pc L (.int x :: .int i :: .ref (hg_ad X q) :: st) σ ρ := by
  obtain ⟨p, l, e, R, s, m, args, below, meth, c, D, A, cells, slots, Q, ad, t⟩ := X
  obtain ⟨⟨hx, hb⟩, hml, hown, hts, hK, hDd, hA, hlk, ⟨hR1, hR2⟩, ⟨hz1, hz2⟩, hE, hEok⟩ := hC
  intro H locs ls hl hP hS
  subst hn
  refine va_iast hx hb hK hP (hDd.va t σ ρ) hS q 0 ((hg_at hq).trans (by rw [hg_cell0 hk]; rfl)) rfl hi hd (fun H1 locs1 hP1 hD1 hS1 => k _ rfl H1 locs1 ls hl ?_ hS1)
  exact (hg_put0 hq hk) ▸ hP1
theorem hg_zast (hC : hg_C F nL d E cc own X) {q z : Nat} {i x : Int32} (hd : decode cc pc = .ok (.bastore, 1)) (hq : q < F.1) (hk : F.2.1 q = (1, z)) (hi : vp_in i z) {n : Nat} (hn : pc + 1 = n) (k : ∀ σ1, σ1 = hg_set σ q i.toNatClampNeg (vp_nar .boolean x) → hg_G F nL X n L st σ1 ρ) : hg_G F nL X pc L (.int x :: .int i :: .ref (hg_ad X q) :: st) σ ρ := by
  obtain ⟨p, l, e, R, s, m, args, below, meth, c, D, A, cells, slots, Q, ad, t⟩ := X
  obtain ⟨⟨hx, hb⟩, hml, hown, hts, hK, hDd, hA, hlk, ⟨hR1, hR2⟩, ⟨hz1, hz2⟩, hE, hEok⟩ := hC
  intro H locs ls hl hP hS
  subst hn
  refine va_zast hx hb hK hP (hDd.va t σ ρ) hS q 1 ((hg_at hq).trans (by rw [hg_cell1 hk]; rfl)) rfl hi hd (fun H1 locs1 hP1 hD1 hS1 => k _ rfl H1 locs1 ls hl ?_ hS1)
  exact (hg_put1 hq hk) ▸ hP1
theorem hg_aald (hC : hg_C F nL d E cc own X) {q z r : Nat} {i : Int32} (hd : decode cc pc = .ok (.aaload, 1)) (hq : q < F.1) (hk : F.2.1 q = (2, z)) (hi : vp_in i z) (hr : ρ q i.toNatClampNeg = r) {n : Nat} (hn : pc + 1 = n) (k : hg_G F nL X n L (.ref (hg_ad X r) :: st) σ ρ) : hg_G F nL X pc L (.int i :: .ref (hg_ad X q) :: st) σ ρ := by
  obtain ⟨p, l, e, R, s, m, args, below, meth, c, D, A, cells, slots, Q, ad, t⟩ := X
  obtain ⟨⟨hx, hb⟩, hml, hown, hts, hK, hDd, hA, hlk, ⟨hR1, hR2⟩, ⟨hz1, hz2⟩, hE, hEok⟩ := hC
  intro H locs ls hl hP hS
  subst hn
  subst hr
  have ha : (hg_ws F t ad σ ρ)[q]? = some (ad q, .inl (t.2.2, z, .inr (.inr (.inr (.inr (fun i => some (ad (ρ q i)))))))) := (hg_at hq).trans (by rw [hg_cell2 hk])
  have hlt : i.toNatClampNeg < z := Nat.not_le.mp fun q => hi (Or.inr q)
  exact W.aald (v := .ref (ad (ρ q i.toNatClampNeg))) (ty := .array .int) hx hb (hP q _ ha) ((hK.2 2 _ rfl).1 z (fun j => va_rf (some (ad (ρ q j))))) rfl (fun q => by cases q) (by show ¬ (i < 0 ∨ (arrV _ _ _).slots.size ≤ _); rw [arrV_size]; exact hi) (by show (arrV _ _ _).slots[_]? = _; rw [arrV_read _ _ hlt]; rfl) rfl rfl hd (k H locs ls hl hP hS)
theorem hg_alen (hC : hg_C F nL d E cc own X) {q z kd : Nat} {v : Int32} (hd : decode cc pc = .ok (.arraylength, 1)) (hq : q < F.1) (hk : F.2.1 q = (kd, z)) (h2 : kd < 3) (hv : Int32.ofNat z = v) {n : Nat} (hn : pc + 1 = n) (k : hg_G F nL X n L (.int v :: st) σ ρ) : hg_G F nL X pc L (.ref (hg_ad X q) :: st) σ ρ := by
  obtain ⟨p, l, e, R, s, m, args, below, meth, c, D, A, cells, slots, Q, ad, t⟩ := X
  obtain ⟨⟨hx, hb⟩, hml, hown, hts, hK, hDd, hA, hlk, ⟨hR1, hR2⟩, ⟨hz1, hz2⟩, hE, hEok⟩ := hC
  intro H locs ls hl hP hS
  subst hn
  have hc : kd = 0 ∨ kd = 1 ∨ kd = 2 := by omega
  rcases hc with rfl | rfl | rfl
  · exact va_alen hx hb hK hP q 0 ((hg_at hq).trans (by rw [hg_cell0 hk]; rfl)) rfl hv hd (k H locs ls hl hP hS)
  · exact va_alen hx hb hK hP q 1 ((hg_at hq).trans (by rw [hg_cell1 hk]; rfl)) rfl hv hd (k H locs ls hl hP hS)
  · exact va_alen hx hb hK hP q 2 ((hg_at hq).trans (by rw [hg_cell2 hk]; rfl)) rfl hv hd (k H locs ls hl hP hS)
/-- a field, as a class names it at a place of its pool: what the tables say of it -/
def hg_Fl (own : String) (index ci k N : Nat) : Prop := ∃ (C ref : String) (T : u_T), (∀ w ∈ u_ws C T N, w ∈ hg_tbl) ∧ Cond.fieldLink own index ref (T k).2.1 (T k).2.2.1 ∈ hg_tbl ∧ (T k).1 = ref ∧ vwCl[ci]? = some (C, T, N) ∧ k < N
def hg_Fp (own : String) (index ci k N : Nat) (ty : FieldType) : Prop := ∃ (C ref : String) (T : u_T) (ty0 : Nat → FieldType), (∀ w ∈ u_ws C T N, w ∈ hg_tbl) ∧ Cond.fieldLink own index ref (T k).2.1 (T k).2.2.1 ∈ hg_tbl ∧ (T k).1 = ref ∧ vwCl[ci]? = some (C, T, N) ∧ k < N ∧ (∀ k, k < N → parseFieldDescriptor (T k).2.2.1 = some (ty0 k)) ∧ (∀ a, a < N → ∀ b, b < N → a ≠ b → (T a).2.1 ≠ (T b).2.1) ∧ (T k).2.2.2 = false ∧ parseFieldDescriptor (T k).2.2.1 = some ty
theorem hg_get (hC : hg_C F nL d E cc own X) {index ci j N q : Nat} (fl : hg_Fl own index ci j N) (hd : decode cc pc = .ok (.getfield index, 3)) (hq : q < F.1) (hk : F.2.1 q = (ci + 3, N)) {n : Nat} (hn : pc + 3 = n) (k : hg_G F nL X n L (hg_fv F (hg_ad X) σ ρ q ci j :: st) σ ρ) : hg_G F nL X pc L (.ref (hg_ad X q) :: st) σ ρ := by
  obtain ⟨p, l, e, R, s, m, args, below, meth, c, D, A, cells, slots, Q, ad, t⟩ := X
  obtain ⟨⟨hx, hb⟩, hml, hown, hts, hK, hDd, hA, hlk, ⟨hR1, hR2⟩, ⟨hz1, hz2⟩, hE, hEok⟩ := hC
  intro H locs ls hl hP hS
  subst hn
  obtain ⟨C, ref, T, h1, h2, h3, h4, h5⟩ := fl
  subst h3
  exact va_get hx hb hts h1 hown hK hP q ((hg_at hq).trans (by rw [hg_cell3 hk]; rfl)) h4 j h5 (hts _ h2) (fun _ h9 => h9) (by simp [h5]; rfl) hd (k H locs ls hl hP hS)
theorem hg_geti (hC : hg_C F nL d E cc own X) {index ci j N q : Nat} (fl : hg_Fl own index ci j N) (hd : decode cc pc = .ok (.getfield index, 3)) (hq : q < F.1) (hk : F.2.1 q = (ci + 3, N)) (hf : F.2.2 ci j = false) {n : Nat} (hn : pc + 3 = n) (k : hg_G F nL X n L (.int (σ q j) :: st) σ ρ) : hg_G F nL X pc L (.ref (hg_ad X q) :: st) σ ρ := hg_get hC fl hd hq hk hn (by unfold hg_fv; rw [hf, if_neg (by decide)]; exact k)
theorem hg_getr (hC : hg_C F nL d E cc own X) {index ci j N q r : Nat} (fl : hg_Fl own index ci j N) (hd : decode cc pc = .ok (.getfield index, 3)) (hq : q < F.1) (hk : F.2.1 q = (ci + 3, N)) (hf : F.2.2 ci j = true) (hr : ρ q j = r) {n : Nat} (hn : pc + 3 = n) (k : hg_G F nL X n L (.ref (hg_ad X r) :: st) σ ρ) : hg_G F nL X pc L (.ref (hg_ad X q) :: st) σ ρ := hg_get hC fl hd hq hk hn (by unfold hg_fv; rw [hf, if_pos rfl, hr]; exact k)
theorem hg_puti (hC : hg_C F nL d E cc own X) {index ci j N q : Nat} {ty : FieldType} {x : Int32} (fl : hg_Fp own index ci j N ty) (hd : decode cc pc = .ok (.putfield index, 3)) (hq : q < F.1) (hk : F.2.1 q = (ci + 3, N)) (hf : F.2.2 ci j = false) (hna : narrow ty (.int x) = .int x) (hfi : fits ty (.int x) = true) {n : Nat} (hn : pc + 3 = n) (k : ∀ σ1, σ1 = hg_set σ q j x → hg_G F nL X n L st σ1 ρ) : hg_G F nL X pc L (.int x :: .ref (hg_ad X q) :: st) σ ρ := by
  obtain ⟨p, l, e, R, s, m, args, below, meth, c, D, A, cells, slots, Q, ad, t⟩ := X
  obtain ⟨⟨hx, hb⟩, hml, hown, hts, hK, hDd, hA, hlk, ⟨hR1, hR2⟩, ⟨hz1, hz2⟩, hE, hEok⟩ := hC
  intro H locs ls hl hP hS
  subst hn
  obtain ⟨C, ref, T, ty0, h1, h2, h3, h4, h5, h6, h7, h8, h9⟩ := fl
  subst h3
  refine va_put hx hb hts h1 ty0 h6 h7 hown hK hP (hDd.va t σ ρ) hS q ((hg_at hq).trans (by rw [hg_cell3 hk]; rfl)) h4 j h5 (hts _ h2) (fun _ h9 => h9) h8 h9 hna hfi (by simp [h5]) hd (fun H1 locs1 hP1 hD1 hS1 => k _ rfl H1 locs1 ls hl ?_ hS1)
  exact (hg_put3 hq hk h5 hf) ▸ hP1
theorem hg_putr (hC : hg_C F nL d E cc own X) {index ci j N q r : Nat} {ty : FieldType} (fl : hg_Fp own index ci j N ty) (hd : decode cc pc = .ok (.putfield index, 3)) (hq : q < F.1) (hk : F.2.1 q = (ci + 3, N)) (hf : F.2.2 ci j = true) (hna : narrow ty (.ref 0) = .ref 0) (hfi : ∀ a, fits ty (.ref a) = true) {n : Nat} (hn : pc + 3 = n) (k : ∀ ρ1, ρ1 = hg_rset ρ q j r → hg_G F nL X n L st σ ρ1) : hg_G F nL X pc L (.ref (hg_ad X r) :: .ref (hg_ad X q) :: st) σ ρ := by
  obtain ⟨p, l, e, R, s, m, args, below, meth, c, D, A, cells, slots, Q, ad, t⟩ := X
  obtain ⟨⟨hx, hb⟩, hml, hown, hts, hK, hDd, hA, hlk, ⟨hR1, hR2⟩, ⟨hz1, hz2⟩, hE, hEok⟩ := hC
  intro H locs ls hl hP hS
  subst hn
  obtain ⟨C, ref, T, ty0, h1, h2, h3, h4, h5, h6, h7, h8, h9⟩ := fl
  subst h3
  refine va_put hx hb hts h1 ty0 h6 h7 hown hK hP (hDd.va t σ ρ) hS q ((hg_at hq).trans (by rw [hg_cell3 hk]; rfl)) h4 j h5 (hts _ h2) (fun _ h9 => h9) h8 h9 (by cases ty <;> first | rfl | (simp [narrow] at hna)) (hfi _) (by simp [h5]) hd (fun H1 locs1 hP1 hD1 hS1 => k _ rfl H1 locs1 ls hl ?_ hS1)
  exact (hg_put3r hq hk h5 hf) ▸ hP1
theorem hg_ldc2 (hC : hg_C F nL d E cc own X) {index : Nat} {v : Int64} (hd : decode cc pc = .ok (.ldc2_w index, 3)) (hk : Cond.constantLong own index v ∈ hg_tbl) {n : Nat} (hn : pc + 3 = n) (k : hg_G F nL X n L (.long v :: st) σ ρ) : hg_G F nL X pc L (st) σ ρ := by
  obtain ⟨p, l, e, R, s, m, args, below, meth, c, D, A, cells, slots, Q, ad, t⟩ := X
  obtain ⟨⟨hx, hb⟩, hml, hown, hts, hK, hDd, hA, hlk, ⟨hR1, hR2⟩, ⟨hz1, hz2⟩, hE, hEok⟩ := hC
  intro H locs ls hl hP hS
  subst hn
  exact lv_ldc2 hx hb hown (hts _ hk) hd (k H locs ls hl hP hS)
theorem hg_lcmp (hC : hg_C F nL d E cc own X) {x y : Int64} (hd : decode cc pc = .ok (.lcmp, 1)) {n : Nat} (hn : pc + 1 = n) (k : hg_G F nL X n L (.int (lg_cmp x y) :: st) σ ρ) : hg_G F nL X pc L (.long y :: .long x :: st) σ ρ := by
  obtain ⟨p, l, e, R, s, m, args, below, meth, c, D, A, cells, slots, Q, ad, t⟩ := X
  obtain ⟨⟨hx, hb⟩, hml, hown, hts, hK, hDd, hA, hlk, ⟨hR1, hR2⟩, ⟨hz1, hz2⟩, hE, hEok⟩ := hC
  intro H locs ls hl hP hS
  subst hn
  exact W.lcmp hx hb hd (k H locs ls hl hP hS)
theorem hg_lushr (hC : hg_C F nL d E cc own X) {x v : Int64} {y : Int32} (hd : decode cc pc = .ok (.lushr, 1)) (hv : (x.toUInt64 >>> (y.toInt64.toUInt64 &&& Int64.toUInt64 63)).toInt64 = v) {n : Nat} (hn : pc + 1 = n) (k : hg_G F nL X n L (.long v :: st) σ ρ) : hg_G F nL X pc L (.int y :: .long x :: st) σ ρ := by
  obtain ⟨p, l, e, R, s, m, args, below, meth, c, D, A, cells, slots, Q, ad, t⟩ := X
  obtain ⟨⟨hx, hb⟩, hml, hown, hts, hK, hDd, hA, hlk, ⟨hR1, hR2⟩, ⟨hz1, hz2⟩, hE, hEok⟩ := hC
  intro H locs ls hl hP hS
  subst hn
  exact lv_lushr hx hb hd hv (k H locs ls hl hP hS)
theorem hg_lshl (hC : hg_C F nL d E cc own X) {x v : Int64} {y : Int32} (hd : decode cc pc = .ok (.lshl, 1)) (hv : x <<< (y.toInt64 &&& 63) = v) {n : Nat} (hn : pc + 1 = n) (k : hg_G F nL X n L (.long v :: st) σ ρ) : hg_G F nL X pc L (.int y :: .long x :: st) σ ρ := by
  obtain ⟨p, l, e, R, s, m, args, below, meth, c, D, A, cells, slots, Q, ad, t⟩ := X
  obtain ⟨⟨hx, hb⟩, hml, hown, hts, hK, hDd, hA, hlk, ⟨hR1, hR2⟩, ⟨hz1, hz2⟩, hE, hEok⟩ := hC
  intro H locs ls hl hP hS
  subst hn
  exact lv_lshl hx hb hd hv (k H locs ls hl hP hS)
theorem hg_lshr (hC : hg_C F nL d E cc own X) {x v : Int64} {y : Int32} (hd : decode cc pc = .ok (.lshr, 1)) (hv : x >>> (y.toInt64 &&& 63) = v) {n : Nat} (hn : pc + 1 = n) (k : hg_G F nL X n L (.long v :: st) σ ρ) : hg_G F nL X pc L (.int y :: .long x :: st) σ ρ := by
  obtain ⟨p, l, e, R, s, m, args, below, meth, c, D, A, cells, slots, Q, ad, t⟩ := X
  obtain ⟨⟨hx, hb⟩, hml, hown, hts, hK, hDd, hA, hlk, ⟨hR1, hR2⟩, ⟨hz1, hz2⟩, hE, hEok⟩ := hC
  intro H locs ls hl hP hS
  subst hn
  exact lv_lshr hx hb hd hv (k H locs ls hl hP hS)
theorem hg_lneg (hC : hg_C F nL d E cc own X) {x : Int64} (hd : decode cc pc = .ok (.lneg, 1)) {n : Nat} (hn : pc + 1 = n) (k : hg_G F nL X n L (.long (-x) :: st) σ ρ) : hg_G F nL X pc L (.long x :: st) σ ρ := by
  obtain ⟨p, l, e, R, s, m, args, below, meth, c, D, A, cells, slots, Q, ad, t⟩ := X
  obtain ⟨⟨hx, hb⟩, hml, hown, hts, hK, hDd, hA, hlk, ⟨hR1, hR2⟩, ⟨hz1, hz2⟩, hE, hEok⟩ := hC
  intro H locs ls hl hP hS
  subst hn
  exact lv_lneg hx hb hd (k H locs ls hl hP hS)
theorem hg_ldiv (hC : hg_C F nL d E cc own X) {x y : Int64} (hd : decode cc pc = .ok (.ldiv, 1)) (hne : ¬ y = 0) {n : Nat} (hn : pc + 1 = n) (k : hg_G F nL X n L (.long (x / y) :: st) σ ρ) : hg_G F nL X pc L (.long y :: .long x :: st) σ ρ := by
  obtain ⟨p, l, e, R, s, m, args, below, meth, c, D, A, cells, slots, Q, ad, t⟩ := X
  obtain ⟨⟨hx, hb⟩, hml, hown, hts, hK, hDd, hA, hlk, ⟨hR1, hR2⟩, ⟨hz1, hz2⟩, hE, hEok⟩ := hC
  intro H locs ls hl hP hS
  subst hn
  exact lv_ldiv hx hb hd hne (k H locs ls hl hP hS)
theorem hg_dup2 (hC : hg_C F nL d E cc own X) {u v : Value} (hd : decode cc pc = .ok (.dup2, 1)) (hu : u.category = 1) (hv : v.category = 1) {n : Nat} (hn : pc + 1 = n) (k : hg_G F nL X n L (u :: v :: u :: v :: st) σ ρ) : hg_G F nL X pc L (u :: v :: st) σ ρ := by
  obtain ⟨p, l, e, R, s, m, args, below, meth, c, D, A, cells, slots, Q, ad, t⟩ := X
  obtain ⟨⟨hx, hb⟩, hml, hown, hts, hK, hDd, hA, hlk, ⟨hR1, hR2⟩, ⟨hz1, hz2⟩, hE, hEok⟩ := hC
  intro H locs ls hl hP hS
  subst hn
  exact lv_dup2_11 hx hb hd hu hv (k H locs ls hl hP hS)
def hg_max (x y : Int32) : Int32 := if x < y then y else x
def hg_minl (x y : Int64) : Int64 := if y < x then y else x
def hg_cpy (σ : hg_M) (q0 q1 sp dp n : Nat) : hg_M := fun a b => if a = q1 then va_cpy (σ q0) (σ q1) sp dp n b else σ a b
theorem hg_mmax (hC : hg_C F nL (d + 1) E cc own X) {index : Nat} {x y : Int32} (h1 : Cond.methodLink own index Lib.Math.max.name ∈ hg_tbl) (h2 : Cond.static Lib.Math.max.name ∈ hg_tbl) (h3 : Cond.initialized "java/lang/Math" ∈ hg_tbl) (h4 : Cond.code Lib.Math.max.name Lib.Math.max.code 2 (some .int) ∈ hg_tbl) (hcat : (st.map fun v => v.category).sum ≤ 8) (hd : decode cc pc = .ok (.invokestatic index, 3)) {n : Nat} (hn : pc + 3 = n) (k : hg_G F nL X n L (.int (hg_max x y) :: st) σ ρ) : hg_G F nL X pc L (.int y :: .int x :: st) σ ρ := by
  obtain ⟨p, l, e, R, s, m, args, below, meth, c, D, A, cells, slots, Q, ad, t⟩ := X
  obtain ⟨⟨hx, hb⟩, hml, hown, hts, hK, hDd, hA, hlk, ⟨hR1, hR2⟩, ⟨hz1, hz2⟩, hE, hEok⟩ := hC
  intro H locs ls hl hP hS
  subst hn; subst hz1; subst hz2
  exact va_mmax hx hb (hml.trans hl.1.symm) hown (hts _ h1) (hts _ h2) (hts _ h3) (hts _ h4) (by rw [hR1]; exact Nat.le_add_left 1 d) (by rw [hR2]; omega) (Nat.zero_le _) (Nat.zero_le _) hd (k H locs ls hl hP hS)
theorem hg_mminl (hC : hg_C F nL (d + 1) E cc own X) {index : Nat} {x y : Int64} (h1 : Cond.methodLink own index Lib.MathLoose.min_long.x ∈ hg_tbl) (h2 : Cond.static Lib.MathLoose.min_long.x ∈ hg_tbl) (h3 : Cond.initialized "java/lang/Math" ∈ hg_tbl) (h4 : Cond.code Lib.MathLoose.min_long.x Lib.MathLoose.min_long.code 4 (some .long) ∈ hg_tbl) (hcat : (st.map fun v => v.category).sum ≤ 8) (hd : decode cc pc = .ok (.invokestatic index, 3)) {n : Nat} (hn : pc + 3 = n) (k : hg_G F nL X n L (.long (hg_minl x y) :: st) σ ρ) : hg_G F nL X pc L (.long y :: .long x :: st) σ ρ := by
  obtain ⟨p, l, e, R, s, m, args, below, meth, c, D, A, cells, slots, Q, ad, t⟩ := X
  obtain ⟨⟨hx, hb⟩, hml, hown, hts, hK, hDd, hA, hlk, ⟨hR1, hR2⟩, ⟨hz1, hz2⟩, hE, hEok⟩ := hC
  intro H locs ls hl hP hS
  subst hn; subst hz1; subst hz2
  exact va_mmin_long hx hb (hml.trans hl.1.symm) hown (hts _ h1) (hts _ h2) (hts _ h3) (hts _ h4) (by rw [hR1]; exact Nat.le_add_left 1 d) (by rw [hR2]; omega) (Nat.zero_le _) (Nat.zero_le _) hd (k H locs ls hl hP hS)
theorem hg_copy (hC : hg_C F nL (d + 1) E cc own X) {index q0 q1 n0 n1 : Nat} {sp dp c9 : Int32} (h1 : Cond.methodLink own index arraycopyName ∈ hg_tbl) (h2 : Cond.native arraycopyName ∈ hg_tbl) (h3 : Cond.static arraycopyName ∈ hg_tbl) (h4 : Cond.initialized "java/lang/System" ∈ hg_tbl) (hq0 : q0 < F.1) (hk0 : F.2.1 q0 = (0, n0)) (hq1 : q1 < F.1) (hk1 : F.2.1 q1 = (0, n1)) (hcp : (¬ sp < 0) ∧ (¬ dp < 0) ∧ (¬ c9 < 0) ∧ sp.toNatClampNeg + c9.toNatClampNeg ≤ n0 ∧ dp.toNatClampNeg + c9.toNatClampNeg ≤ n1) (hcat : (st.map fun v => v.category).sum ≤ 8) (hd : decode cc pc = .ok (.invokestatic index, 3)) {n : Nat} (hn : pc + 3 = n) (k : ∀ σ1, σ1 = hg_cpy σ q0 q1 sp.toNatClampNeg dp.toNatClampNeg c9.toNatClampNeg → hg_G F nL X n L st σ1 ρ) : hg_G F nL X pc L (.int c9 :: .int dp :: .ref (hg_ad X q1) :: .int sp :: .ref (hg_ad X q0) :: st) σ ρ := by
  obtain ⟨p, l, e, R, s, m, args, below, meth, c, D, A, cells, slots, Q, ad, t⟩ := X
  obtain ⟨⟨hx, hb⟩, hml, hown, hts, hK, hDd, hA, hlk, ⟨hR1, hR2⟩, ⟨hz1, hz2⟩, hE, hEok⟩ := hC
  intro H locs ls hl hP hS
  subst hn; subst hz1; subst hz2
  obtain ⟨g1, g2, g3, g4, g5⟩ := hcp
  have hnf : nativeFrameWords "java/lang/System" "arraycopy" 5 + 11 ≤ 56 := by decide +kernel
  have hlo : (st.map fun v => v.category).sum + (nativeFrameWords "java/lang/System" "arraycopy" 5 + 11) ≤ R.locals := by
    rw [hR2]
    omega
  have ha0 : (hg_ws F t ad σ ρ)[q0]? = some (ad q0, .inl (t.1, n0, .inl (σ q0))) := (hg_at hq0).trans (by rw [hg_cell0 hk0])
  have ha1 : (hg_ws F t ad σ ρ)[q1]? = some (ad q1, .inl (t.1, n1, .inl (σ q1))) := (hg_at hq1).trans (by rw [hg_cell0 hk1])
  refine va_copyi hx hb (hml.trans hl.1.symm) hown (hts _ h1) (hts _ h2) (hts _ h3) (hts _ h4) hK hP (hDd.va t σ ρ) hS q0 q1 0 0 ha0 ha1 rfl rfl rfl g1 g2 g3 g4 g5 (fun _ _ => rfl) (by rw [hR1]; exact Nat.le_add_left 1 d) hlo hd (fun H1 locs1 hP1 hD1 hS1 => k _ rfl H1 locs1 ls hl ?_ hS1)
  refine (hg_put (σ' := hg_cpy σ q0 q1 sp.toNatClampNeg dp.toNatClampNeg c9.toNatClampNeg) (ρ' := ρ) hq1 ?_ ?_) ▸ hP1
  · rw [hg_cell0 hk1]
    congr 3
    congr 1
    funext b
    simp [hg_cpy]
  · intro r hr
    refine hg_cell_ne ?_ rfl
    funext b
    simp [hg_cpy, hr]
theorem hg_gs (hC : hg_C F nL d E cc own X) {C n9 d9 : String} {v : Value} {index : Nat} (hz : ∀ A U H, E A U H → va_Z C n9 d9 v A U H) (hk : Cond.fieldLink own index C n9 d9 ∈ hg_tbl) (hd : decode cc pc = .ok (.getstatic index, 3)) {n : Nat} (hn : pc + 3 = n) (k : hg_G F nL X n L (v :: st) σ ρ) : hg_G F nL X pc L st σ ρ := by
  obtain ⟨p, l, e, R, s, m, args, below, meth, c, D, A, cells, slots, Q, ad, t⟩ := X
  obtain ⟨⟨hx, hb⟩, hml, hown, hts, hK, hDd, hA, hlk, ⟨hR1, hR2⟩, ⟨hz1, hz2⟩, hE, hEok⟩ := hC
  intro H locs ls hl hP hS
  subst hn
  exact va_gets hx hb (hz _ _ _ hE) hS hown (hts _ hk) (fun _ h => h) hd (k H locs ls hl hP hS)
theorem hg_ti (hC : hg_C F nL d E cc own X) {a z : Nat} {f : Nat → Int32} {i : Int32} (hz : ∀ A U H, E A U H → va_T .int a z (fun j => .int (f j)) A U H) (hd : decode cc pc = .ok (.iaload, 1)) (hi : vp_in i z) {n : Nat} (hn : pc + 1 = n) (k : hg_G F nL X n L (.int (f i.toNatClampNeg) :: st) σ ρ) : hg_G F nL X pc L (.int i :: .ref a :: st) σ ρ := by
  obtain ⟨p, l, e, R, s, m, args, below, meth, c, D, A, cells, slots, Q, ad, t⟩ := X
  obtain ⟨⟨hx, hb⟩, hml, hown, hts, hK, hDd, hA, hlk, ⟨hR1, hR2⟩, ⟨hz1, hz2⟩, hE, hEok⟩ := hC
  intro H locs ls hl hP hS
  subst hn
  exact va_ti hx hb (hz _ _ _ hE) hS hi rfl hd (k H locs ls hl hP hS)
theorem hg_tb (hC : hg_C F nL d E cc own X) {a z : Nat} {f : Nat → Int32} {i : Int32} (hz : ∀ A U H, E A U H → va_T .byte a z (fun j => .int (f j)) A U H) (hd : decode cc pc = .ok (.baload, 1)) (hi : vp_in i z) {n : Nat} (hn : pc + 1 = n) (k : hg_G F nL X n L (.int (f i.toNatClampNeg) :: st) σ ρ) : hg_G F nL X pc L (.int i :: .ref a :: st) σ ρ := by
  obtain ⟨p, l, e, R, s, m, args, below, meth, c, D, A, cells, slots, Q, ad, t⟩ := X
  obtain ⟨⟨hx, hb⟩, hml, hown, hts, hK, hDd, hA, hlk, ⟨hR1, hR2⟩, ⟨hz1, hz2⟩, hE, hEok⟩ := hC
  intro H locs ls hl hP hS
  subst hn
  exact va_tb hx hb (hz _ _ _ hE) hS hi rfl hd (k H locs ls hl hP hS)
theorem hg_tl (hC : hg_C F nL d E cc own X) {a z : Nat} {ty : FieldType} {f : Nat → Value} {v : Int32} (hz : ∀ A U H, E A U H → va_T ty a z f A U H) (hv : Int32.ofNat z = v) (hd : decode cc pc = .ok (.arraylength, 1)) {n : Nat} (hn : pc + 1 = n) (k : hg_G F nL X n L (.int v :: st) σ ρ) : hg_G F nL X pc L (.ref a :: st) σ ρ := by
  obtain ⟨p, l, e, R, s, m, args, below, meth, c, D, A, cells, slots, Q, ad, t⟩ := X
  obtain ⟨⟨hx, hb⟩, hml, hown, hts, hK, hDd, hA, hlk, ⟨hR1, hR2⟩, ⟨hz1, hz2⟩, hE, hEok⟩ := hC
  intro H locs ls hl hP hS
  subst hn
  exact va_tlen hx hb (hz _ _ _ hE) hS hv hd (k H locs ls hl hP hS)
theorem hg_of (hC : hg_C F nL d E cc own X) {C n9 d9 : String} {v : Value} {index a : Nat} (hz : ∀ A U H, E A U H → va_OF C n9 d9 v a A U H) (hk : Cond.fieldLink own index C n9 d9 ∈ hg_tbl) (hd : decode cc pc = .ok (.getfield index, 3)) {n : Nat} (hn : pc + 3 = n) (k : hg_G F nL X n L (v :: st) σ ρ) : hg_G F nL X pc L (.ref a :: st) σ ρ := by
  obtain ⟨p, l, e, R, s, m, args, below, meth, c, D, A, cells, slots, Q, ad, t⟩ := X
  obtain ⟨⟨hx, hb⟩, hml, hown, hts, hK, hDd, hA, hlk, ⟨hR1, hR2⟩, ⟨hz1, hz2⟩, hE, hEok⟩ := hC
  intro H locs ls hl hP hS
  subst hn
  exact vk_getf hx hb (hz _ _ _ hE) hS hown (hts _ hk) (fun _ h => h) hd (k H locs ls hl hP hS)
theorem hg_gsq (hC : hg_C F nL d E cc own X) {C n9 d9 : String} {index : Nat} (hz : ∀ A U H, E A U H → va_Zq C n9 d9 A U H) (hk : Cond.fieldLink own index C n9 d9 ∈ hg_tbl) (hd : decode cc pc = .ok (.getstatic index, 3)) {n : Nat} (hn : pc + 3 = n) (k0 : hg_G F nL X n L (.null :: st) σ ρ) (k1 : ∀ t, hg_G F nL X n L (.ref t :: st) σ ρ) : hg_G F nL X pc L st σ ρ := by
  obtain ⟨p, l, e, R, s, m, args, below, meth, c, D, A, cells, slots, Q, ad, t⟩ := X
  obtain ⟨⟨hx, hb⟩, hml, hown, hts, hK, hDd, hA, hlk, ⟨hR1, hR2⟩, ⟨hz1, hz2⟩, hE, hEok⟩ := hC
  intro H locs ls hl hP hS
  subst hn
  rcases hz _ _ _ hE with h | ⟨t, h⟩
  · exact va_gets hx hb h hS hown (hts _ hk) (fun _ h => h) hd (k0 H locs ls hl hP hS)
  · exact va_gets hx hb h hS hown (hts _ hk) (fun _ h => h) hd (k1 t H locs ls hl hP hS)
theorem hg_ldS (hC : hg_C F nL d E cc own X) {tx : String} {index a : Nat} (hz : ∀ A U H, E A U H → vk_R own index tx a U) (hd : decode cc pc = .ok (.ldc index, 2)) {n : Nat} (hn : pc + 2 = n) (k : hg_G F nL X n L (.ref a :: st) σ ρ) : hg_G F nL X pc L st σ ρ := by
  obtain ⟨p, l, e, R, s, m, args, below, meth, c, D, A, cells, slots, Q, ad, t⟩ := X
  obtain ⟨⟨hx, hb⟩, hml, hown, hts, hK, hDd, hA, hlk, ⟨hR1, hR2⟩, ⟨hz1, hz2⟩, hE, hEok⟩ := hC
  intro H locs ls hl hP hS
  subst hn
  exact va_ldcS hx hb hown (hz _ _ _ hE) hd (k H locs ls hl hP hS)
theorem hg_ishr (hC : hg_C F nL d E cc own X) {x y : Int32} (hd : decode cc pc = .ok (.ishr, 1)) {n : Nat} (hn : pc + 1 = n) (k : hg_G F nL X n L (.int (x >>> (y &&& 31)) :: st) σ ρ) : hg_G F nL X pc L (.int y :: .int x :: st) σ ρ := by
  obtain ⟨p, l, e, R, s, m, args, below, meth, c, D, A, cells, slots, Q, ad, t⟩ := X
  obtain ⟨⟨hx, hb⟩, hml, hown, hts, hK, hDd, hA, hlk, ⟨hR1, hR2⟩, ⟨hz1, hz2⟩, hE, hEok⟩ := hC
  intro H locs ls hl hP hS
  subst hn
  exact lv_ishr hx hb hd (k H locs ls hl hP hS)
theorem hg_i2c (hC : hg_C F nL d E cc own X) {x v : Int32} (hd : decode cc pc = .ok (.i2c, 1)) (hv : (x.toUInt32 % 65536).toInt32 = v) {n : Nat} (hn : pc + 1 = n) (k : hg_G F nL X n L (.int v :: st) σ ρ) : hg_G F nL X pc L (.int x :: st) σ ρ := by
  obtain ⟨p, l, e, R, s, m, args, below, meth, c, D, A, cells, slots, Q, ad, t⟩ := X
  obtain ⟨⟨hx, hb⟩, hml, hown, hts, hK, hDd, hA, hlk, ⟨hR1, hR2⟩, ⟨hz1, hz2⟩, hE, hEok⟩ := hC
  intro H locs ls hl hP hS
  subst hn
  exact lv_i2c hx hb hd hv (k H locs ls hl hP hS)
end HG
end
section
/-! Contracts over the flat memory: entry, returns, calls. -/
def hg_Pc (F : hg_F) (E : hg_Et) (D : va_G) (t : hg_T) (ad : Nat → Nat) (sz : Nat) (vs : List Value) (σ : hg_M) (ρ : hg_R) : Array Value → State → Prop :=
  va_Pc vs (fun U => U.heap.size = sz ∧ va_P D vwCl (hg_ws F t ad σ ρ) U.heap ∧ va_K D vwCl (hg_tys t) U ∧ hg_Dd F ad (fun _ => True) ∧ E (hg_A F ad sz) U U.heap)
abbrev hg_Bq (F : hg_F) (D : va_G) (t : hg_T) (ad : Nat → Nat) : hg_M × hg_R → State → Prop := fun u U => va_P D vwCl (hg_ws F t ad u.1 u.2) U.heap
abbrev hg_Qi (F : hg_F) (D : va_G) (t : hg_T) (ad : Nat → Nat) (sz : Nat) (post : Int32 → hg_M → hg_R → Prop) : Array Value → State → Outcome → State → Prop := va_Qi (S := hg_M × hg_R) (fun r u => post r u.1 u.2) (hg_Bq F D t ad) (hg_A F ad sz)
abbrev hg_Qv (F : hg_F) (D : va_G) (t : hg_T) (ad : Nat → Nat) (sz : Nat) (post : hg_M → hg_R → Prop) : Array Value → State → Outcome → State → Prop := va_Qv (S := hg_M × hg_R) (fun u => post u.1 u.2) (hg_Bq F D t ad) (hg_A F ad sz)
/-- a method that answers an int (or a boolean) -/
def hg_Mi (F : hg_F) (E : hg_Et) (l : Launch) (y : MethodName) (cc : ByteArray) (nL : Nat) (ret : Option FieldType) (d : Nat) (vs : (Nat → Nat) → List Value) (σ : hg_M) (ρ : hg_R) (post : Int32 → hg_M → hg_R → Prop) : Prop :=
  ∀ (D : va_G) (t : hg_T) (ad : Nat → Nat) (sz : Nat), Met l y (Cond.code y cc nL ret :: hg_tbl) (hg_rm d) (hg_Pc F E D t ad sz (vs ad) σ ρ) (hg_Qi F D t ad sz post) 0 0 (hg_A F ad sz)
def hg_Mv (F : hg_F) (E : hg_Et) (l : Launch) (y : MethodName) (cc : ByteArray) (nL : Nat) (d : Nat) (vs : (Nat → Nat) → List Value) (σ : hg_M) (ρ : hg_R) (post : hg_M → hg_R → Prop) : Prop :=
  ∀ (D : va_G) (t : hg_T) (ad : Nat → Nat) (sz : Nat), Met l y (Cond.code y cc nL none :: hg_tbl) (hg_rm d) (hg_Pc F E D t ad sz (vs ad) σ ρ) (hg_Qv F D t ad sz post) 0 0 (hg_A F ad sz)
/-- the end that a walk is to come to -/
def hg_Ri (F : hg_F) (ret : Option FieldType) (post : Int32 → hg_M → hg_R → Prop) (X : hg_X) : Prop := match X with
  | (p, l, e, R, s, m, args, below, meth, c, D, A, cells, slots, Q, ad, t) => A = hg_A F ad s.heap.size ∧ Q = MQ below (hg_Qi F D t ad s.heap.size post) args s 0 0 (hg_A F ad s.heap.size) ∧ meth.sig.returnType = ret
def hg_Rv (F : hg_F) (post : hg_M → hg_R → Prop) (X : hg_X) : Prop := match X with
  | (p, l, e, R, s, m, args, below, meth, c, D, A, cells, slots, Q, ad, t) => A = hg_A F ad s.heap.size ∧ Q = MQ below (hg_Qv F D t ad s.heap.size post) args s 0 0 (hg_A F ad s.heap.size) ∧ meth.sig.returnType = none
theorem hg_blind {F : hg_F} {E : hg_Et} (hE : hg_Eok E) {D : va_G} {t : hg_T} {ad : Nat → Nat} {sz : Nat} {vs : List Value} {σ : hg_M} {ρ : hg_R} : FrameBlind (hg_Pc F E D t ad sz vs σ ρ) := by
  intro a U g mk q
  obtain ⟨q0, q1, qP, qK, qD, qE⟩ := q
  exact ⟨q0, q1, qP, va_K.moved (u := U) (U := U.calling g mk a) (Vm.Alike.refl U.vm) qK, qD, hE.1 _ U (U.calling g mk a) _ (Vm.Alike.refl U.vm) qE⟩
theorem hg_Dd_self {F : hg_F} {ad : Nat → Nat} {A : Nat → Prop} {sz : Nat} (h : hg_Dd F ad A) : hg_Dd F ad (hg_A F ad sz) := ⟨h.1, fun i hi => Or.inl ⟨i, hi, rfl⟩⟩
section HGC
variable {F : hg_F} {nL d : Nat} {E : hg_Et} {cc : ByteArray} {own : String} {X : hg_X} {pc : Nat} {L : List (Nat × Value)} {st : List Value} {σ : hg_M} {ρ : hg_R}
theorem hg_enter_i {l : Launch} {y : MethodName} {ret : Option FieldType} {vs : (Nat → Nat) → List Value} {post : Int32 → hg_M → hg_R → Prop} (hE : hg_Eok E) (hy : plainName y.cls = true) (hlen : ∀ ad, (lg_sl (vs ad)).length ≤ nL)
    (body : ∀ X : hg_X, hg_C F nL d E cc y.cls X → hg_Ri F ret post X → X.2.1 = l → hg_G F nL X 0 (lv_args 0 (vs (hg_ad X))) [] σ ρ) : hg_Mi F E l y cc nL ret d vs σ ρ post := by
  intro D t ad sz
  refine Met.ofW (cc := cc) (maxL := nL) (ret := ret) hy rfl ?_
  intro p e s m args below meth c s₁ B hml hv
  obtain ⟨rfl, hsz, hP, hK, hD0, hE0⟩ := hv
  have hts := atoms_spec (ws := Cond.code y cc nL ret :: hg_tbl) B.pre
  subst hsz
  rw [lg_entry_eq]
  have hX := body (p, l, e, hg_rm d, s, m, (vs ad).toArray, below, meth, c, D, hg_A F ad s.heap.size, 0, 0, MQ below (hg_Qi F D t ad s.heap.size post) (vs ad).toArray s 0 0 (hg_A F ad s.heap.size), ad, t)
    ⟨⟨B.exec, B.bytes⟩, hml, findClass_of_methodNamed B.named, fun w h => hts w (List.mem_cons_of_mem _ h), hK, hg_Dd_self hD0, fun q h => Or.inr h, B.notSynchronized, ⟨rfl, rfl⟩, ⟨rfl, rfl⟩, hE0, hE⟩ ⟨rfl, rfl, B.returns⟩ rfl
  exact hX s.heap [] _ (lv_entry (vs ad) (hlen ad)) hP va_S.rf
theorem hg_enter_v {l : Launch} {y : MethodName} {vs : (Nat → Nat) → List Value} {post : hg_M → hg_R → Prop} (hE : hg_Eok E) (hy : plainName y.cls = true) (hlen : ∀ ad, (lg_sl (vs ad)).length ≤ nL)
    (body : ∀ X : hg_X, hg_C F nL d E cc y.cls X → hg_Rv F post X → X.2.1 = l → hg_G F nL X 0 (lv_args 0 (vs (hg_ad X))) [] σ ρ) : hg_Mv F E l y cc nL d vs σ ρ post := by
  intro D t ad sz
  refine Met.ofW (cc := cc) (maxL := nL) (ret := none) hy rfl ?_
  intro p e s m args below meth c s₁ B hml hv
  obtain ⟨rfl, hsz, hP, hK, hD0, hE0⟩ := hv
  have hts := atoms_spec (ws := Cond.code y cc nL none :: hg_tbl) B.pre
  subst hsz
  rw [lg_entry_eq]
  have hX := body (p, l, e, hg_rm d, s, m, (vs ad).toArray, below, meth, c, D, hg_A F ad s.heap.size, 0, 0, MQ below (hg_Qv F D t ad s.heap.size post) (vs ad).toArray s 0 0 (hg_A F ad s.heap.size), ad, t)
    ⟨⟨B.exec, B.bytes⟩, hml, findClass_of_methodNamed B.named, fun w h => hts w (List.mem_cons_of_mem _ h), hK, hg_Dd_self hD0, fun q h => Or.inr h, B.notSynchronized, ⟨rfl, rfl⟩, ⟨rfl, rfl⟩, hE0, hE⟩ ⟨rfl, rfl, B.returns⟩ rfl
  exact hX s.heap [] _ (lv_entry (vs ad) (hlen ad)) hP va_S.rf
theorem hg_iret (hC : hg_C F nL d E cc own X) {post : Int32 → hg_M → hg_R → Prop} (hR : hg_Ri F (some .int) post X) {v : Int32} (hd : decode cc pc = .ok (.ireturn, 1)) (h : post v σ ρ) : hg_G F nL X pc L [.int v] σ ρ := by
  obtain ⟨p, l, e, R, s, m, args, below, meth, c, D, A, cells, slots, Q, ad, t⟩ := X
  obtain ⟨⟨hx, hb⟩, hml, hown, hts, hK, hDd, hA, hlk, hRm, ⟨hz1, hz2⟩, hE, hEok⟩ := hC
  obtain ⟨hAe, hQ, hr⟩ := hR
  subst hAe; subst hQ; subst hz1; subst hz2
  intro H locs ls hl hP hS
  exact W.iret (v := v) hx hb hr (fun U hU hW => ⟨⟨v, (σ, ρ), rfl, h, by rw [hg_Bq, hU]; exact hP⟩, hS.F hU⟩) hS.2.2 hd
theorem hg_zret (hC : hg_C F nL d E cc own X) {post : Int32 → hg_M → hg_R → Prop} (hR : hg_Ri F (some .boolean) post X) {v : Int32} (hd : decode cc pc = .ok (.ireturn, 1)) (hv : v = 0 ∨ v = 1) (h : post v σ ρ) : hg_G F nL X pc L [.int v] σ ρ := by
  obtain ⟨p, l, e, R, s, m, args, below, meth, c, D, A, cells, slots, Q, ad, t⟩ := X
  obtain ⟨⟨hx, hb⟩, hml, hown, hts, hK, hDd, hA, hlk, hRm, ⟨hz1, hz2⟩, hE, hEok⟩ := hC
  obtain ⟨hAe, hQ, hr⟩ := hR
  subst hAe; subst hQ; subst hz1; subst hz2
  intro H locs ls hl hP hS
  exact W.zret (v := v) hx hb hr (by rcases hv with rfl | rfl <;> rfl) (fun U hU hW => ⟨⟨v, (σ, ρ), rfl, h, by rw [hg_Bq, hU]; exact hP⟩, hS.F hU⟩) hS.2.2 hd
theorem hg_vret (hC : hg_C F nL d E cc own X) {post : hg_M → hg_R → Prop} (hR : hg_Rv F post X) (hd : decode cc pc = .ok (.return_, 1)) (h : post σ ρ) : hg_G F nL X pc L [] σ ρ := by
  obtain ⟨p, l, e, R, s, m, args, below, meth, c, D, A, cells, slots, Q, ad, t⟩ := X
  obtain ⟨⟨hx, hb⟩, hml, hown, hts, hK, hDd, hA, hlk, hRm, ⟨hz1, hz2⟩, hE, hEok⟩ := hC
  obtain ⟨hAe, hQ, hr⟩ := hR
  subst hAe; subst hQ; subst hz1; subst hz2
  intro H locs ls hl hP hS
  exact W.vret hx hb hr (fun U hU hW => ⟨⟨(σ, ρ), rfl, h, by rw [hg_Bq, hU]; exact hP⟩, hS.F hU⟩) hS.2.2 hd
/-- what the tables say of a call's site -/
def hg_Sv (own : String) (index : Nat) (C : String) (y : MethodName) (bytes : ByteArray) (maxL : Nat) (ret : Option FieldType) (n : Nat) : Prop :=
  Cond.code y bytes maxL ret ∈ hg_tbl ∧ Cond.methodLink own index y ∈ hg_tbl ∧ Cond.instanceMethod y ∈ hg_tbl ∧ Cond.selects C y y ∈ hg_tbl ∧ Cond.initialized C ∈ hg_tbl ∧
  (y.cls = C ∧ y.cls ≠ "java/lang/invoke/MethodHandle" ∧ y.cls ≠ "java/lang/invoke/VarHandle" ∧ (parseMethodDescriptor y.desc).map (fun d => d.parameters.length) = some n) ∧ maxL ≤ 45
def hg_Ss (own : String) (index : Nat) (y : MethodName) (bytes : ByteArray) (maxL : Nat) (ret : Option FieldType) (n : Nat) : Prop :=
  Cond.code y bytes maxL ret ∈ hg_tbl ∧ Cond.methodLink own index y ∈ hg_tbl ∧ Cond.static y ∈ hg_tbl ∧ Cond.initialized y.cls ∈ hg_tbl ∧
  (y.cls ≠ "java/lang/invoke/MethodHandle" ∧ y.cls ≠ "java/lang/invoke/VarHandle" ∧ (parseMethodDescriptor y.desc).map (fun d => d.parameters.length) = some n) ∧ maxL ≤ 45
theorem hg_good {w : Cond} (h : w ∈ hg_tbl) : w ∈ hg_tbl ∧ ((w.onTables && w.keeps) = true ∨ ∃ ty, w = .arrayClass ty) := ⟨h, good_of_word (List.mem_filter.mp h).2⟩
theorem hg_goodW {own C : String} {index maxL n : Nat} {y : MethodName} {bytes : ByteArray} {ret : Option FieldType} (h : hg_Sv own index C y bytes maxL ret n) : GoodIn hg_tbl (wsV own index C y (Cond.code y bytes maxL ret :: hg_tbl)) := by
  obtain ⟨h1, h2, h3, h4, h5, -, -⟩ := h
  intro w hw
  simp only [wsV, List.mem_append, List.mem_cons, List.not_mem_nil, or_false] at hw
  rcases hw with (rfl | rfl | rfl | rfl) | rfl | hw
  · exact hg_good h2
  · exact hg_good h3
  · exact hg_good h4
  · exact hg_good h5
  · exact hg_good h1
  · exact hg_good hw
theorem hg_goodC {maxL : Nat} {y : MethodName} {bytes : ByteArray} {ret : Option FieldType} (h : Cond.code y bytes maxL ret ∈ hg_tbl) : GoodIn hg_tbl (Cond.code y bytes maxL ret :: hg_tbl) := by
  intro w hw
  rcases List.mem_cons.mp hw with rfl | hw
  · exact hg_good h
  · exact hg_good hw
theorem hg_free {ad : Nat → Nat} {A : Nat → Prop} {H0 H : Heap} {locs : List Loc} (hDd : hg_Dd F ad A) (hA : ∀ q, H0.size ≤ q → A q) (hS : va_S A H0 H locs) : ∀ q, hg_A F ad H.size q → A q := by
  rintro q (⟨k, hk, rfl⟩ | h)
  · exact hDd.2 k hk
  · exact hA q (Nat.le_trans hS.1 h)
theorem hg_roomc {R : Room} {d maxL : Nat} (hR : R.frames = d + 1 ∧ R.locals = 64 * (d + 1)) (h : maxL ≤ 45) : (hg_rm d).frames + 1 ≤ R.frames ∧ 8 + (maxL + 11) + (hg_rm d).locals ≤ R.locals := by
  constructor
  · rw [hR.1]; exact Nat.le_refl _
  · rw [hR.2]
    show 8 + (maxL + 11) + 64 * d ≤ 64 * (d + 1)
    omega
theorem hg_pre {s : State} {H : Heap} {D : va_G} {t : hg_T} {ad : Nat → Nat} {A : Nat → Prop} {locs : List Loc} {vs : List Value} (hEok : hg_Eok E) (hDd : hg_Dd F ad A) (hA : ∀ q, s.heap.size ≤ q → A q) (hS : va_S A s.heap H locs) (hK : va_K D vwCl (hg_tys t) s) (hP : va_P D vwCl (hg_ws F t ad σ ρ) H) (hE : E A s s.heap) :
    ∀ U : State, U.heap = H → s.WarmedH U.vm → hg_Pc F E D t ad H.size vs σ ρ vs.toArray U := fun U hU hW =>
  ⟨rfl, by rw [hU], by rw [hU]; exact hP, va_K.moved hW.alike hK, ⟨hDd.1, fun _ _ => trivial⟩, hEok.1 _ s U _ hW.alike (by
    rw [hU]
    exact hEok.2.2.1 A _ s H (hEok.2.1 A s s.heap H hE (fun a h1 h2 => hS.2.1 a h1 h2)) (hg_free hDd hA hS))⟩
theorem hg_callVi (hC : hg_C F nL (d + 1) E cc own X) {index N na q ci mL : Nat} {C : String} {T : u_T} {y : MethodName} {bytes : ByteArray} {ret : Option FieldType} {As : (Nat → Nat) → List Value} {post : Int32 → hg_M → hg_R → Prop}
    (hM : hg_Mi F E X.2.1 y bytes mL ret d (fun ad => .ref (ad q) :: As ad) σ ρ post) (hw : hg_Sv own index C y bytes mL ret na) (hd : decode cc pc = .ok (.invokevirtual index, 3)) (hq : q < F.1) (hk : F.2.1 q = (ci + 3, N)) (hc : vwCl[ci]? = some (C, T, N))
    (hna : (As (hg_ad X)).length = na) {rest : List Value} (hst : st = (As (hg_ad X)).reverse ++ .ref (hg_ad X q) :: rest) (hcat : (rest.map fun v => v.category).sum ≤ 8) {n : Nat} (hn : pc + 3 = n)
    (k : ∀ r σ1 ρ1, post r σ1 ρ1 → hg_G F nL X n L (.int r :: rest) σ1 ρ1) : hg_G F nL X pc L st σ ρ := by
  obtain ⟨p, l, e, R, s, m, args, below, meth, c, D, A, cells, slots, Q, ad, t⟩ := X
  obtain ⟨⟨hx, hb⟩, hml, hown, hts, hK, hDd, hA, hlk, hRm, ⟨hz1, hz2⟩, hE, hEok⟩ := hC
  subst hz1; subst hz2; subst hn
  intro H locs ls hl hP hS
  have hfr := hg_free hDd hA hS
  refine va_calli (va_runV (As := As ad) (rest := rest) (C := C) ⟨hx, hb, hml, hown, hts⟩ (hM D t ad H.size) (cwV na hts (hg_goodW hw) rfl rfl rfl hw.2.2.2.2.2.1 (hg_roomc hRm hw.2.2.2.2.2.2)) ⟨hg_blind hEok, va_recv hK hP hc ((hg_at hq).trans (by rw [hg_cell3 hk])), hg_pre hEok hDd hA hS hK hP hE⟩ rfl hna hl.1 hst (lv_room hcat) hd ⟨Nat.zero_le _, Nat.zero_le _⟩) hS (fun q _ h => hfr q h) hfr (fun r u U H1 locs1 hU hvm hw1 hB hz1 hk1 hS1 => ?_)
  exact k r u.1 u.2 hw1 H1 locs1 ls hl (by rw [← hU]; exact hB) hS1
theorem hg_callVv (hC : hg_C F nL (d + 1) E cc own X) {index N na q ci mL : Nat} {C : String} {T : u_T} {y : MethodName} {bytes : ByteArray} {As : (Nat → Nat) → List Value} {post : hg_M → hg_R → Prop}
    (hM : hg_Mv F E X.2.1 y bytes mL d (fun ad => .ref (ad q) :: As ad) σ ρ post) (hw : hg_Sv own index C y bytes mL none na) (hd : decode cc pc = .ok (.invokevirtual index, 3)) (hq : q < F.1) (hk : F.2.1 q = (ci + 3, N)) (hc : vwCl[ci]? = some (C, T, N))
    (hna : (As (hg_ad X)).length = na) {rest : List Value} (hst : st = (As (hg_ad X)).reverse ++ .ref (hg_ad X q) :: rest) (hcat : (rest.map fun v => v.category).sum ≤ 8) {n : Nat} (hn : pc + 3 = n)
    (k : ∀ σ1 ρ1, post σ1 ρ1 → hg_G F nL X n L rest σ1 ρ1) : hg_G F nL X pc L st σ ρ := by
  obtain ⟨p, l, e, R, s, m, args, below, meth, c, D, A, cells, slots, Q, ad, t⟩ := X
  obtain ⟨⟨hx, hb⟩, hml, hown, hts, hK, hDd, hA, hlk, hRm, ⟨hz1, hz2⟩, hE, hEok⟩ := hC
  subst hz1; subst hz2; subst hn
  intro H locs ls hl hP hS
  have hfr := hg_free hDd hA hS
  refine va_callv (va_runV (As := As ad) (rest := rest) (C := C) ⟨hx, hb, hml, hown, hts⟩ (hM D t ad H.size) (cwV na hts (hg_goodW hw) rfl rfl rfl hw.2.2.2.2.2.1 (hg_roomc hRm hw.2.2.2.2.2.2)) ⟨hg_blind hEok, va_recv hK hP hc ((hg_at hq).trans (by rw [hg_cell3 hk])), hg_pre hEok hDd hA hS hK hP hE⟩ rfl hna hl.1 hst (lv_room hcat) hd ⟨Nat.zero_le _, Nat.zero_le _⟩) hS (fun q _ h => hfr q h) hfr (fun u U H1 locs1 hU hvm hw1 hB hz1 hk1 hS1 => ?_)
  exact k u.1 u.2 hw1 H1 locs1 ls hl (by rw [← hU]; exact hB) hS1
theorem hg_callSi (hC : hg_C F nL (d + 1) E cc own X) {index na mL : Nat} {y : MethodName} {bytes : ByteArray} {ret : Option FieldType} {As : (Nat → Nat) → List Value} {post : Int32 → hg_M → hg_R → Prop}
    (hM : hg_Mi F E X.2.1 y bytes mL ret d As σ ρ post) (hw : hg_Ss own index y bytes mL ret na) (hd : decode cc pc = .ok (.invokestatic index, 3))
    (hna : (As (hg_ad X)).length = na) {rest : List Value} (hst : st = (As (hg_ad X)).reverse ++ rest) (hcat : (rest.map fun v => v.category).sum ≤ 8) {n : Nat} (hn : pc + 3 = n)
    (k : ∀ r σ1 ρ1, post r σ1 ρ1 → hg_G F nL X n L (.int r :: rest) σ1 ρ1) : hg_G F nL X pc L st σ ρ := by
  obtain ⟨p, l, e, R, s, m, args, below, meth, c, D, A, cells, slots, Q, ad, t⟩ := X
  obtain ⟨⟨hx, hb⟩, hml, hown, hts, hK, hDd, hA, hlk, hRm, ⟨hz1, hz2⟩, hE, hEok⟩ := hC
  subst hz1; subst hz2; subst hn
  intro H locs ls hl hP hS
  have hfr := hg_free hDd hA hS
  refine va_calli (va_runS (As := As ad) (rest := rest) ⟨hx, hb, hml, hown, hts⟩ (hM D t ad H.size) ⟨callB_of na hts (hg_goodC hw.1) rfl rfl rfl (hts _ hw.2.2.2.1) (hts _ hw.2.1) hw.2.2.2.2.1 (hg_roomc hRm hw.2.2.2.2.2), hts _ hw.2.2.1⟩ ⟨hg_blind hEok, hg_pre hEok hDd hA hS hK hP hE⟩ rfl hna hl.1 hst (lv_room hcat) hd ⟨Nat.zero_le _, Nat.zero_le _⟩) hS (fun q _ h => hfr q h) hfr (fun r u U H1 locs1 hU hvm hw1 hB hz1 hk1 hS1 => ?_)
  exact k r u.1 u.2 hw1 H1 locs1 ls hl (by rw [← hU]; exact hB) hS1
theorem hg_callSv (hC : hg_C F nL (d + 1) E cc own X) {index na mL : Nat} {y : MethodName} {bytes : ByteArray} {As : (Nat → Nat) → List Value} {post : hg_M → hg_R → Prop}
    (hM : hg_Mv F E X.2.1 y bytes mL d As σ ρ post) (hw : hg_Ss own index y bytes mL none na) (hd : decode cc pc = .ok (.invokestatic index, 3))
    (hna : (As (hg_ad X)).length = na) {rest : List Value} (hst : st = (As (hg_ad X)).reverse ++ rest) (hcat : (rest.map fun v => v.category).sum ≤ 8) {n : Nat} (hn : pc + 3 = n)
    (k : ∀ σ1 ρ1, post σ1 ρ1 → hg_G F nL X n L rest σ1 ρ1) : hg_G F nL X pc L st σ ρ := by
  obtain ⟨p, l, e, R, s, m, args, below, meth, c, D, A, cells, slots, Q, ad, t⟩ := X
  obtain ⟨⟨hx, hb⟩, hml, hown, hts, hK, hDd, hA, hlk, hRm, ⟨hz1, hz2⟩, hE, hEok⟩ := hC
  subst hz1; subst hz2; subst hn
  intro H locs ls hl hP hS
  have hfr := hg_free hDd hA hS
  refine va_callv (va_runS (As := As ad) (rest := rest) ⟨hx, hb, hml, hown, hts⟩ (hM D t ad H.size) ⟨callB_of na hts (hg_goodC hw.1) rfl rfl rfl (hts _ hw.2.2.2.1) (hts _ hw.2.1) hw.2.2.2.2.1 (hg_roomc hRm hw.2.2.2.2.2), hts _ hw.2.2.1⟩ ⟨hg_blind hEok, hg_pre hEok hDd hA hS hK hP hE⟩ rfl hna hl.1 hst (lv_room hcat) hd ⟨Nat.zero_le _, Nat.zero_le _⟩) hS (fun q _ h => hfr q h) hfr (fun u U H1 locs1 hU hvm hw1 hB hz1 hk1 hS1 => ?_)
  exact k u.1 u.2 hw1 H1 locs1 ls hl (by rw [← hU]; exact hB) hS1
end HGC
end
section
/-! Contracts whose references stay as they are; the rows that the program writes. -/
def hg_Ni (F : hg_F) (E : hg_Et) (l : Launch) (y : MethodName) (cc : ByteArray) (nL : Nat) (ret : Option FieldType) (d : Nat) (vs : (Nat → Nat) → List Value) (ρ : hg_R) (σ : hg_M) (P : Int32 → hg_M → Prop) : Prop := hg_Mi F E l y cc nL ret d vs σ ρ (fun r σ1 ρ1 => P r σ1 ∧ ρ1 = ρ)
def hg_Nv (F : hg_F) (E : hg_Et) (l : Launch) (y : MethodName) (cc : ByteArray) (nL : Nat) (d : Nat) (vs : (Nat → Nat) → List Value) (ρ : hg_R) (σ : hg_M) (P : hg_M → Prop) : Prop := hg_Mv F E l y cc nL d vs σ ρ (fun σ1 ρ1 => P σ1 ∧ ρ1 = ρ)
abbrev hg_Rni (F : hg_F) (ret : Option FieldType) (ρ : hg_R) (P : Int32 → hg_M → Prop) (X : hg_X) : Prop := hg_Ri F ret (fun r σ1 ρ1 => P r σ1 ∧ ρ1 = ρ) X
abbrev hg_Rnv (F : hg_F) (ρ : hg_R) (P : hg_M → Prop) (X : hg_X) : Prop := hg_Rv F (fun σ1 ρ1 => P σ1 ∧ ρ1 = ρ) X
theorem hg_nz {e : Int32} (h : e = 0 ∨ e = 1) : narrow .boolean (.int e) = .int e := by rcases h with rfl | rfl <;> rfl
theorem hg_fz {e : Int32} (h : e = 0 ∨ e = 1) : fits .boolean (.int e) = true := by rcases h with rfl | rfl <;> rfl
theorem hg_lt {e : Int32} {n : Nat} (h : vp_in e n) : e.toNatClampNeg < n := Nat.not_le.mp fun q => h (Or.inr q)
section HGN
variable {F : hg_F} {nL d : Nat} {E : hg_Et} {cc : ByteArray} {own : String} {X : hg_X} {pc : Nat} {L : List (Nat × Value)} {st : List Value} {σ : hg_M} {ρ : hg_R}
theorem hg_Eof (hC : hg_C F nL d E cc own X) : hg_Eok E := by
  obtain ⟨p, l, e, R, s, m, args, below, meth, c, D, A, cells, slots, Q, ad, t⟩ := X
  exact hC.2.2.2.2.2.2.2.2.2.2.2
theorem hg_ni {l : Launch} {y : MethodName} {ret : Option FieldType} {vs : (Nat → Nat) → List Value} {P : Int32 → hg_M → Prop} (hE : hg_Eok E) (hy : plainName y.cls = true) (hlen : ∀ ad, (lg_sl (vs ad)).length ≤ nL)
    (body : ∀ X : hg_X, hg_C F nL d E cc y.cls X → hg_Rni F ret ρ P X → X.2.1 = l → hg_G F nL X 0 (lv_args 0 (vs (hg_ad X))) [] σ ρ) : hg_Ni F E l y cc nL ret d vs ρ σ P := hg_enter_i hE hy hlen body
theorem hg_nv {l : Launch} {y : MethodName} {vs : (Nat → Nat) → List Value} {P : hg_M → Prop} (hE : hg_Eok E) (hy : plainName y.cls = true) (hlen : ∀ ad, (lg_sl (vs ad)).length ≤ nL)
    (body : ∀ X : hg_X, hg_C F nL d E cc y.cls X → hg_Rnv F ρ P X → X.2.1 = l → hg_G F nL X 0 (lv_args 0 (vs (hg_ad X))) [] σ ρ) : hg_Nv F E l y cc nL d vs ρ σ P := hg_enter_v hE hy hlen body
theorem hg_reti (hC : hg_C F nL d E cc own X) {P : Int32 → hg_M → Prop} (hR : hg_Rni F (some .int) ρ P X) {v : Int32} (hd : decode cc pc = .ok (.ireturn, 1)) (h : P v σ) : hg_G F nL X pc L [.int v] σ ρ := hg_iret hC hR hd ⟨h, rfl⟩
theorem hg_retz (hC : hg_C F nL d E cc own X) {P : Int32 → hg_M → Prop} (hR : hg_Rni F (some .boolean) ρ P X) {v : Int32} (hd : decode cc pc = .ok (.ireturn, 1)) (h : (v = 0 ∨ v = 1) ∧ P v σ) : hg_G F nL X pc L [.int v] σ ρ := hg_zret hC hR hd h.1 ⟨h.2, rfl⟩
theorem hg_retv (hC : hg_C F nL d E cc own X) {P : hg_M → Prop} (hR : hg_Rnv F ρ P X) (hd : decode cc pc = .ok (.return_, 1)) (h : P σ) : hg_G F nL X pc L [] σ ρ := hg_vret hC hR hd ⟨h, rfl⟩
theorem hg_cVi (hC : hg_C F nL (d + 1) E cc own X) {index N na q ci mL : Nat} {C : String} {T : u_T} {y : MethodName} {bytes : ByteArray} {ret : Option FieldType} {As : (Nat → Nat) → List Value} {P : Int32 → hg_M → Prop}
    (hM : hg_Ni F E X.2.1 y bytes mL ret d (fun ad => .ref (ad q) :: As ad) ρ σ P) (hw : hg_Sv own index C y bytes mL ret na) (hd : decode cc pc = .ok (.invokevirtual index, 3)) (hq : q < F.1) (hk : F.2.1 q = (ci + 3, N)) (hc : vwCl[ci]? = some (C, T, N))
    (hna : (As (hg_ad X)).length = na) {rest : List Value} (hst : st = (As (hg_ad X)).reverse ++ .ref (hg_ad X q) :: rest) (hcat : (rest.map fun v => v.category).sum ≤ 8) {n : Nat} (hn : pc + 3 = n)
    (k : ∀ r σ1, P r σ1 → hg_G F nL X n L (.int r :: rest) σ1 ρ) : hg_G F nL X pc L st σ ρ :=
  hg_callVi hC hM hw hd hq hk hc hna hst hcat hn (fun r σ1 ρ1 h => by rw [h.2]; exact k r σ1 h.1)
theorem hg_cVv (hC : hg_C F nL (d + 1) E cc own X) {index N na q ci mL : Nat} {C : String} {T : u_T} {y : MethodName} {bytes : ByteArray} {As : (Nat → Nat) → List Value} {P : hg_M → Prop}
    (hM : hg_Nv F E X.2.1 y bytes mL d (fun ad => .ref (ad q) :: As ad) ρ σ P) (hw : hg_Sv own index C y bytes mL none na) (hd : decode cc pc = .ok (.invokevirtual index, 3)) (hq : q < F.1) (hk : F.2.1 q = (ci + 3, N)) (hc : vwCl[ci]? = some (C, T, N))
    (hna : (As (hg_ad X)).length = na) {rest : List Value} (hst : st = (As (hg_ad X)).reverse ++ .ref (hg_ad X q) :: rest) (hcat : (rest.map fun v => v.category).sum ≤ 8) {n : Nat} (hn : pc + 3 = n)
    (k : ∀ σ1, P σ1 → hg_G F nL X n L rest σ1 ρ) : hg_G F nL X pc L st σ ρ :=
  hg_callVv hC hM hw hd hq hk hc hna hst hcat hn (fun σ1 ρ1 h => by rw [h.2]; exact k σ1 h.1)
theorem hg_cSi (hC : hg_C F nL (d + 1) E cc own X) {index na mL : Nat} {y : MethodName} {bytes : ByteArray} {ret : Option FieldType} {As : (Nat → Nat) → List Value} {P : Int32 → hg_M → Prop}
    (hM : hg_Ni F E X.2.1 y bytes mL ret d As ρ σ P) (hw : hg_Ss own index y bytes mL ret na) (hd : decode cc pc = .ok (.invokestatic index, 3))
    (hna : (As (hg_ad X)).length = na) {rest : List Value} (hst : st = (As (hg_ad X)).reverse ++ rest) (hcat : (rest.map fun v => v.category).sum ≤ 8) {n : Nat} (hn : pc + 3 = n)
    (k : ∀ r σ1, P r σ1 → hg_G F nL X n L (.int r :: rest) σ1 ρ) : hg_G F nL X pc L st σ ρ :=
  hg_callSi hC hM hw hd hna hst hcat hn (fun r σ1 ρ1 h => by rw [h.2]; exact k r σ1 h.1)
theorem hg_cSv (hC : hg_C F nL (d + 1) E cc own X) {index na mL : Nat} {y : MethodName} {bytes : ByteArray} {As : (Nat → Nat) → List Value} {P : hg_M → Prop}
    (hM : hg_Nv F E X.2.1 y bytes mL d As ρ σ P) (hw : hg_Ss own index y bytes mL none na) (hd : decode cc pc = .ok (.invokestatic index, 3))
    (hna : (As (hg_ad X)).length = na) {rest : List Value} (hst : st = (As (hg_ad X)).reverse ++ rest) (hcat : (rest.map fun v => v.category).sum ≤ 8) {n : Nat} (hn : pc + 3 = n)
    (k : ∀ σ1, P σ1 → hg_G F nL X n L rest σ1 ρ) : hg_G F nL X pc L st σ ρ :=
  hg_callSv hC hM hw hd hna hst hcat hn (fun σ1 ρ1 h => by rw [h.2]; exact k σ1 h.1)
/-- a static call of a nest mate's private method -/
def hg_Sn (own : String) (index : Nat) (host : String) (y : MethodName) (bytes : ByteArray) (maxL : Nat) (ret : Option FieldType) (n : Nat) : Prop :=
  Cond.code y bytes maxL ret ∈ hg_tbl ∧ Cond.methodLinkNest own index y host ∈ hg_nws ∧ Cond.static y ∈ hg_tbl ∧ Cond.initialized y.cls ∈ hg_tbl ∧
  (y.cls ≠ "java/lang/invoke/MethodHandle" ∧ y.cls ≠ "java/lang/invoke/VarHandle" ∧ (parseMethodDescriptor y.desc).map (fun d => d.parameters.length) = some n) ∧ maxL ≤ 45
theorem hg_cNi (hC : hg_C F nL (d + 1) E cc own X) {index na mL : Nat} {host : String} {y : MethodName} {bytes : ByteArray} {ret : Option FieldType} {As : (Nat → Nat) → List Value} {P : Int32 → hg_M → Prop}
    (hM : hg_Ni F E X.2.1 y bytes mL ret d As ρ σ P) (hw : hg_Sn own index host y bytes mL ret na) (hd : decode cc pc = .ok (.invokestatic index, 3))
    (hna : (As (hg_ad X)).length = na) {rest : List Value} (hst : st = (As (hg_ad X)).reverse ++ rest) (hcat : (rest.map fun v => v.category).sum ≤ 8) {n : Nat} (hn : pc + 3 = n)
    (k : ∀ r σ1, P r σ1 → hg_G F nL X n L (.int r :: rest) σ1 ρ) : hg_G F nL X pc L st σ ρ := by
  obtain ⟨p, l, e, R, s, m, args, below, meth, c, D, A, cells, slots, Q, ad, t⟩ := X
  obtain ⟨⟨hx, hb⟩, hml, hown, hts, hK, hDd, hA, hlk, hRm, ⟨hz1, hz2⟩, hE, hEok⟩ := hC
  subst hz1; subst hz2; subst hn
  intro H locs ls hl hP hS
  have hfr := hg_free hDd hA hS
  refine va_calli (va_runSN (As := As ad) (rest := rest) (host := host) ⟨hx, hb, hml, hown, hts⟩ (hM D t ad H.size) ⟨va_cnB na hts (hg_goodC hw.1) rfl rfl rfl (hEok.2.2.2.1 A s s.heap hE _ hw.2.1) (hts _ hw.2.2.2.1) hw.2.2.2.2.1 (hg_roomc hRm hw.2.2.2.2.2), hts _ hw.2.2.1, trivial⟩ ⟨hg_blind hEok, hg_pre hEok hDd hA hS hK hP hE⟩ rfl hna hl.1 hst (lv_room hcat) hd ⟨Nat.zero_le _, Nat.zero_le _⟩) hS (fun q _ h => hfr q h) hfr (fun r u U H1 locs1 hU hvm hw1 hB hz1 hk1 hS1 => ?_)
  exact k r u.1 hw1.1 H1 locs1 ls hl (by rw [← hw1.2, ← hU]; exact hB) hS1
theorem hg_tout (hC : hg_C F nL d E cc own X) {dflt lo hi : Int} {offs : Array Int} {len : Nat} {x : Int32} {tg : Nat} (hd : decode cc pc = .ok (.tableswitch dflt lo hi offs, len)) (h : x.toInt < lo ∨ hi < x.toInt) (ht : (pc : Int) + dflt = (tg : Int)) (k : hg_G F nL X tg L st σ ρ) : hg_G F nL X pc L (.int x :: st) σ ρ := by
  obtain ⟨p, l, e, R, s, m, args, below, meth, c, D, A, cells, slots, Q, ad, t⟩ := X
  intro H locs ls hl hP hS
  exact lv_tableOut hC.1.1 hC.1.2 hd h ht (k H locs ls hl hP hS)
theorem hg_tin (hC : hg_C F nL d E cc own X) {dflt lo hi : Int} {offs : Array Int} {len : Nat} {x : Int32} {off z : Int} {tg : Nat} (hd : decode cc pc = .ok (.tableswitch dflt lo hi offs, len)) (h : x.toInt = z) (h1 : ¬ z < lo) (h2 : ¬ hi < z) (ho : offs[(z - lo).toNat]? = some off) (ht : (pc : Int) + off = (tg : Int)) (k : hg_G F nL X tg L st σ ρ) : hg_G F nL X pc L (.int x :: st) σ ρ := by
  obtain ⟨p, l, e, R, s, m, args, below, meth, c, D, A, cells, slots, Q, ad, t⟩ := X
  intro H locs ls hl hP hS
  subst h
  exact lv_tableIn hC.1.1 hC.1.2 hd h1 h2 ho ht (k H locs ls hl hP hS)
theorem hg_lku (hC : hg_C F nL d E cc own X) {dflt : Int} {ps : Array (Int × Int)} {len : Nat} {x : Int32} {off : Int} {tg : Nat} (hd : decode cc pc = .ok (.lookupswitch dflt ps, len)) (hp : (ps.toList.zip (ps.toList.drop 1)).all (fun (a, next) => a.1 < next.1) = true) (ho : Op.lookupswitch.offset ps.toList dflt x.toInt = off) (ht : (pc : Int) + off = (tg : Int)) (k : hg_G F nL X tg L st σ ρ) : hg_G F nL X pc L (.int x :: st) σ ρ := by
  obtain ⟨p, l, e, R, s, m, args, below, meth, c, D, A, cells, slots, Q, ad, t⟩ := X
  intro H locs ls hl hP hS
  exact lv_lookup hC.1.1 hC.1.2 hd hp ho ht (k H locs ls hl hP hS)
/-- a call of a method of a JDK object that stands outside of the family -/
theorem hg_cTi (hC : hg_C F nL (d + 1) E cc own X) {index na mL a : Nat} {C : String} {y : MethodName} {bytes : ByteArray} {ret : Option FieldType} {As : (Nat → Nat) → List Value} {P : Int32 → hg_M → Prop}
    (hz : ∀ A U H, E A U H → va_O C a A U H)
    (hM : hg_Ni F E X.2.1 y bytes mL ret d (fun ad => .ref a :: As ad) ρ σ P) (hw : hg_Sv own index C y bytes mL ret na) (hd : decode cc pc = .ok (.invokevirtual index, 3))
    (hna : (As (hg_ad X)).length = na) {rest : List Value} (hst : st = (As (hg_ad X)).reverse ++ .ref a :: rest) (hcat : (rest.map fun v => v.category).sum ≤ 8) {n : Nat} (hn : pc + 3 = n)
    (k : ∀ r σ1, P r σ1 → hg_G F nL X n L (.int r :: rest) σ1 ρ) : hg_G F nL X pc L st σ ρ := by
  obtain ⟨p, l, e, R, s, m, args, below, meth, c, D, A, cells, slots, Q, ad, t⟩ := X
  obtain ⟨⟨hx, hb⟩, hml, hown, hts, hK, hDd, hA, hlk, hRm, ⟨hz1, hz2⟩, hE, hEok⟩ := hC
  subst hz1; subst hz2; subst hn
  intro H locs ls hl hP hS
  have hfr := hg_free hDd hA hS
  have hrc : ∃ cell : Cell, H[a]? = some cell ∧ cell.vm.isStatics = false ∧ s.vm.findClass C = some cell.cls := by
    obtain ⟨cell, h1, h2, h3, -⟩ := (hz _ _ _ hE).kept hS.2.1
    exact ⟨cell, h1, h2, h3⟩
  refine va_calli (va_runV (As := As ad) (rest := rest) (C := C) ⟨hx, hb, hml, hown, hts⟩ (hM D t ad H.size) (cwV na hts (hg_goodW hw) rfl rfl rfl hw.2.2.2.2.2.1 (hg_roomc hRm hw.2.2.2.2.2.2)) ⟨hg_blind hEok, hrc, hg_pre hEok hDd hA hS hK hP hE⟩ rfl hna hl.1 hst (lv_room hcat) hd ⟨Nat.zero_le _, Nat.zero_le _⟩) hS (fun q _ h => hfr q h) hfr (fun r u U H1 locs1 hU hvm hw1 hB hz1 hk1 hS1 => ?_)
  exact k r u.1 hw1.1 H1 locs1 ls hl (by rw [← hw1.2, ← hU]; exact hB) hS1
theorem hg_rett (hC : hg_C F nL d E cc own X) {ty : FieldType} {P : Int32 → hg_M → Prop} (hR : hg_Rni F (some ty) ρ P X) {v : Int32} (hnw : narrow ty (.int v) = .int v) (hd : decode cc pc = .ok (.ireturn, 1)) (h : P v σ) : hg_G F nL X pc L [.int v] σ ρ := by
  obtain ⟨p, l, e, R, s, m, args, below, meth, c, D, A, cells, slots, Q, ad, t⟩ := X
  obtain ⟨⟨hx, hb⟩, hml, hown, hts, hK, hDd, hA, hlk, hRm, ⟨hz1, hz2⟩, hE, hEok⟩ := hC
  obtain ⟨hAe, hQ, hr⟩ := hR
  subst hAe; subst hQ; subst hz1; subst hz2
  intro H locs ls hl hP hS
  exact W.zret (v := v) hx hb hr hnw (fun U hU hW => ⟨⟨v, (σ, ρ), rfl, ⟨h, rfl⟩, by rw [hg_Bq, hU]; exact hP⟩, hS.F hU⟩) hS.2.2 hd
end HGN
end
section
/-! the family C: 57 cells -/
-- 0: x obj 8
-- 1: x.putVariables int 16
-- 2: x.putWords int 32
-- 3: x.reader obj 9
-- 4: x.reader.tape int 600
-- 5: x.reader.openBranch int 6
-- 6: x.reader.inSecond bool 6
-- 7: x.reader.text obj 9
-- 8: x.reader.text.sort int 60
-- 9: x.reader.text.depth int 60
-- 10: x.reader.text.target int 60
-- 11: x.reader.text.operation int 60
-- 12: x.reader.text.second int 60
-- 13: x.reader.text.end int 60
-- 14: x.reader.text.named bool 120
-- 15: x.reader.text.number int 120
-- 16: x.text obj 9
-- 17: x.text.sort int 60
-- 18: x.text.depth int 60
-- 19: x.text.target int 60
-- 20: x.text.operation int 60
-- 21: x.text.second int 60
-- 22: x.text.end int 60
-- 23: x.text.named bool 120
-- 24: x.text.number int 120
-- 25: x.lowering obj 6
-- 26: x.lowering.converted bool 60
-- 27: x.lowering.standing int 16
-- 28: x.lowering.before rows 6
-- 29: x.lowering.before.0 int 16
-- 30: x.lowering.before.1 int 16
-- 31: x.lowering.before.2 int 16
-- 32: x.lowering.before.3 int 16
-- 33: x.lowering.before.4 int 16
-- 34: x.lowering.before.5 int 16
-- 35: x.lowering.behindFirst rows 6
-- 36: x.lowering.behindFirst.0 int 16
-- 37: x.lowering.behindFirst.1 int 16
-- 38: x.lowering.behindFirst.2 int 16
-- 39: x.lowering.behindFirst.3 int 16
-- 40: x.lowering.behindFirst.4 int 16
-- 41: x.lowering.behindFirst.5 int 16
-- 42: x.lowering.code obj 7
-- 43: x.lowering.code.rows rows 6
-- 44: x.lowering.code.rows.0 int 720
-- 45: x.lowering.code.rows.1 int 720
-- 46: x.lowering.code.rows.2 int 720
-- 47: x.lowering.code.rows.3 int 720
-- 48: x.lowering.code.rows.4 int 720
-- 49: x.lowering.code.rows.5 int 720
-- 50: x.lowering.code.taken bool 736
-- 51: x.lowering.code.stays bool 720
-- 52: x.lowering.code.placeThen int 721
-- 53: x.latest obj 7
-- 54: x.latest.register int 736
-- 55: x.latest.words int 32
-- 56: x.latest.output int 60
def hg_KC : Nat → Nat × Nat := fun q => match q with
  | 0 => (8, 8)
  | 1 => (0, 16)
  | 2 => (0, 32)
  | 3 => (7, 9)
  | 4 => (0, 600)
  | 5 => (0, 6)
  | 6 => (1, 6)
  | 7 => (6, 9)
  | 8 => (0, 60)
  | 9 => (0, 60)
  | 10 => (0, 60)
  | 11 => (0, 60)
  | 12 => (0, 60)
  | 13 => (0, 60)
  | 14 => (1, 120)
  | 15 => (0, 120)
  | 16 => (6, 9)
  | 17 => (0, 60)
  | 18 => (0, 60)
  | 19 => (0, 60)
  | 20 => (0, 60)
  | 21 => (0, 60)
  | 22 => (0, 60)
  | 23 => (1, 120)
  | 24 => (0, 120)
  | 25 => (5, 6)
  | 26 => (1, 60)
  | 27 => (0, 16)
  | 28 => (2, 6)
  | 29 => (0, 16)
  | 30 => (0, 16)
  | 31 => (0, 16)
  | 32 => (0, 16)
  | 33 => (0, 16)
  | 34 => (0, 16)
  | 35 => (2, 6)
  | 36 => (0, 16)
  | 37 => (0, 16)
  | 38 => (0, 16)
  | 39 => (0, 16)
  | 40 => (0, 16)
  | 41 => (0, 16)
  | 42 => (3, 7)
  | 43 => (2, 6)
  | 44 => (0, 720)
  | 45 => (0, 720)
  | 46 => (0, 720)
  | 47 => (0, 720)
  | 48 => (0, 720)
  | 49 => (0, 720)
  | 50 => (1, 736)
  | 51 => (1, 720)
  | 52 => (0, 721)
  | 53 => (4, 7)
  | 54 => (0, 736)
  | 55 => (0, 32)
  | 56 => (0, 60)
  | _ => (0, 0)
def hg_fC : Nat → Nat → Bool := fun c k => match c, k with
  | 0, 0 => true
  | 0, 4 => true
  | 0, 5 => true
  | 0, 6 => true
  | 1, 0 => true
  | 1, 1 => true
  | 1, 2 => true
  | 2, 0 => true
  | 2, 1 => true
  | 2, 2 => true
  | 2, 3 => true
  | 2, 4 => true
  | 3, 0 => true
  | 3, 1 => true
  | 3, 2 => true
  | 3, 3 => true
  | 3, 4 => true
  | 3, 5 => true
  | 3, 6 => true
  | 3, 7 => true
  | 4, 0 => true
  | 4, 2 => true
  | 4, 3 => true
  | 4, 4 => true
  | 5, 0 => true
  | 5, 1 => true
  | 5, 2 => true
  | 5, 3 => true
  | 5, 4 => true
  | 5, 5 => true
  | 5, 7 => true
  | _, _ => false
def hg_FC : hg_F := (57, hg_KC, hg_fC)
def hg_rC : hg_R := fun q i => match q with
  | 0 => match i with
    | 0 => 1
    | 1 => 2
    | 2 => 3
    | 3 => 16
    | 4 => 25
    | 5 => 42
    | 7 => 53
    | _ => 0
  | 3 => match i with
    | 0 => 4
    | 2 => 7
    | 3 => 5
    | 4 => 6
    | _ => 0
  | 7 => match i with
    | 0 => 8
    | 1 => 9
    | 2 => 10
    | 3 => 11
    | 4 => 12
    | 5 => 13
    | 6 => 14
    | 7 => 15
    | _ => 0
  | 16 => match i with
    | 0 => 17
    | 1 => 18
    | 2 => 19
    | 3 => 20
    | 4 => 21
    | 5 => 22
    | 6 => 23
    | 7 => 24
    | _ => 0
  | 25 => match i with
    | 0 => 42
    | 1 => 26
    | 2 => 27
    | 3 => 28
    | 4 => 35
    | _ => 0
  | 28 => 29 + i
  | 35 => 36 + i
  | 42 => match i with
    | 0 => 43
    | 4 => 50
    | 5 => 51
    | 6 => 52
    | _ => 0
  | 43 => 44 + i
  | 53 => match i with
    | 0 => 54
    | 1 => 55
    | 2 => 56
    | _ => 0
  | _ => 0
theorem qC_0 : 0 < hg_FC.1 := by decide
theorem kC_0 : hg_FC.2.1 0 = (5 + 3, 8) := rfl
theorem qC_1 : 1 < hg_FC.1 := by decide
theorem kC_1 : hg_FC.2.1 1 = (0, 16) := rfl
theorem qC_2 : 2 < hg_FC.1 := by decide
theorem kC_2 : hg_FC.2.1 2 = (0, 32) := rfl
theorem qC_3 : 3 < hg_FC.1 := by decide
theorem kC_3 : hg_FC.2.1 3 = (4 + 3, 9) := rfl
theorem qC_4 : 4 < hg_FC.1 := by decide
theorem kC_4 : hg_FC.2.1 4 = (0, 600) := rfl
theorem qC_5 : 5 < hg_FC.1 := by decide
theorem kC_5 : hg_FC.2.1 5 = (0, 6) := rfl
theorem qC_6 : 6 < hg_FC.1 := by decide
theorem kC_6 : hg_FC.2.1 6 = (1, 6) := rfl
theorem qC_7 : 7 < hg_FC.1 := by decide
theorem kC_7 : hg_FC.2.1 7 = (3 + 3, 9) := rfl
theorem qC_8 : 8 < hg_FC.1 := by decide
theorem kC_8 : hg_FC.2.1 8 = (0, 60) := rfl
theorem qC_9 : 9 < hg_FC.1 := by decide
theorem kC_9 : hg_FC.2.1 9 = (0, 60) := rfl
theorem qC_10 : 10 < hg_FC.1 := by decide
theorem kC_10 : hg_FC.2.1 10 = (0, 60) := rfl
theorem qC_11 : 11 < hg_FC.1 := by decide
theorem kC_11 : hg_FC.2.1 11 = (0, 60) := rfl
theorem qC_12 : 12 < hg_FC.1 := by decide
theorem kC_12 : hg_FC.2.1 12 = (0, 60) := rfl
theorem qC_13 : 13 < hg_FC.1 := by decide
theorem kC_13 : hg_FC.2.1 13 = (0, 60) := rfl
theorem qC_14 : 14 < hg_FC.1 := by decide
theorem kC_14 : hg_FC.2.1 14 = (1, 120) := rfl
theorem qC_15 : 15 < hg_FC.1 := by decide
theorem kC_15 : hg_FC.2.1 15 = (0, 120) := rfl
theorem qC_16 : 16 < hg_FC.1 := by decide
theorem kC_16 : hg_FC.2.1 16 = (3 + 3, 9) := rfl
theorem qC_17 : 17 < hg_FC.1 := by decide
theorem kC_17 : hg_FC.2.1 17 = (0, 60) := rfl
theorem qC_18 : 18 < hg_FC.1 := by decide
theorem kC_18 : hg_FC.2.1 18 = (0, 60) := rfl
theorem qC_19 : 19 < hg_FC.1 := by decide
theorem kC_19 : hg_FC.2.1 19 = (0, 60) := rfl
theorem qC_20 : 20 < hg_FC.1 := by decide
theorem kC_20 : hg_FC.2.1 20 = (0, 60) := rfl
theorem qC_21 : 21 < hg_FC.1 := by decide
theorem kC_21 : hg_FC.2.1 21 = (0, 60) := rfl
theorem qC_22 : 22 < hg_FC.1 := by decide
theorem kC_22 : hg_FC.2.1 22 = (0, 60) := rfl
theorem qC_23 : 23 < hg_FC.1 := by decide
theorem kC_23 : hg_FC.2.1 23 = (1, 120) := rfl
theorem qC_24 : 24 < hg_FC.1 := by decide
theorem kC_24 : hg_FC.2.1 24 = (0, 120) := rfl
theorem qC_25 : 25 < hg_FC.1 := by decide
theorem kC_25 : hg_FC.2.1 25 = (2 + 3, 6) := rfl
theorem qC_26 : 26 < hg_FC.1 := by decide
theorem kC_26 : hg_FC.2.1 26 = (1, 60) := rfl
theorem qC_27 : 27 < hg_FC.1 := by decide
theorem kC_27 : hg_FC.2.1 27 = (0, 16) := rfl
theorem qC_28 : 28 < hg_FC.1 := by decide
theorem kC_28 : hg_FC.2.1 28 = (2, 6) := rfl
theorem QC_29 {j : Nat} (h : j < 6) : 29 + j < hg_FC.1 := by show _ < 57; omega
theorem KC_29 {j : Nat} (h : j < 6) : hg_FC.2.1 (29 + j) = (0, 16) := by
  rcases (show j = 0 ∨ j = 1 ∨ j = 2 ∨ j = 3 ∨ j = 4 ∨ j = 5 by omega) with rfl | rfl | rfl | rfl | rfl | rfl <;> rfl
theorem qC_29 : 29 < hg_FC.1 := by decide
theorem kC_29 : hg_FC.2.1 29 = (0, 16) := rfl
theorem qC_30 : 30 < hg_FC.1 := by decide
theorem kC_30 : hg_FC.2.1 30 = (0, 16) := rfl
theorem qC_31 : 31 < hg_FC.1 := by decide
theorem kC_31 : hg_FC.2.1 31 = (0, 16) := rfl
theorem qC_32 : 32 < hg_FC.1 := by decide
theorem kC_32 : hg_FC.2.1 32 = (0, 16) := rfl
theorem qC_33 : 33 < hg_FC.1 := by decide
theorem kC_33 : hg_FC.2.1 33 = (0, 16) := rfl
theorem qC_34 : 34 < hg_FC.1 := by decide
theorem kC_34 : hg_FC.2.1 34 = (0, 16) := rfl
theorem qC_35 : 35 < hg_FC.1 := by decide
theorem kC_35 : hg_FC.2.1 35 = (2, 6) := rfl
theorem QC_36 {j : Nat} (h : j < 6) : 36 + j < hg_FC.1 := by show _ < 57; omega
theorem KC_36 {j : Nat} (h : j < 6) : hg_FC.2.1 (36 + j) = (0, 16) := by
  rcases (show j = 0 ∨ j = 1 ∨ j = 2 ∨ j = 3 ∨ j = 4 ∨ j = 5 by omega) with rfl | rfl | rfl | rfl | rfl | rfl <;> rfl
theorem qC_36 : 36 < hg_FC.1 := by decide
theorem kC_36 : hg_FC.2.1 36 = (0, 16) := rfl
theorem qC_37 : 37 < hg_FC.1 := by decide
theorem kC_37 : hg_FC.2.1 37 = (0, 16) := rfl
theorem qC_38 : 38 < hg_FC.1 := by decide
theorem kC_38 : hg_FC.2.1 38 = (0, 16) := rfl
theorem qC_39 : 39 < hg_FC.1 := by decide
theorem kC_39 : hg_FC.2.1 39 = (0, 16) := rfl
theorem qC_40 : 40 < hg_FC.1 := by decide
theorem kC_40 : hg_FC.2.1 40 = (0, 16) := rfl
theorem qC_41 : 41 < hg_FC.1 := by decide
theorem kC_41 : hg_FC.2.1 41 = (0, 16) := rfl
theorem qC_42 : 42 < hg_FC.1 := by decide
theorem kC_42 : hg_FC.2.1 42 = (0 + 3, 7) := rfl
theorem qC_43 : 43 < hg_FC.1 := by decide
theorem kC_43 : hg_FC.2.1 43 = (2, 6) := rfl
theorem QC_44 {j : Nat} (h : j < 6) : 44 + j < hg_FC.1 := by show _ < 57; omega
theorem KC_44 {j : Nat} (h : j < 6) : hg_FC.2.1 (44 + j) = (0, 720) := by
  rcases (show j = 0 ∨ j = 1 ∨ j = 2 ∨ j = 3 ∨ j = 4 ∨ j = 5 by omega) with rfl | rfl | rfl | rfl | rfl | rfl <;> rfl
theorem qC_44 : 44 < hg_FC.1 := by decide
theorem kC_44 : hg_FC.2.1 44 = (0, 720) := rfl
theorem qC_45 : 45 < hg_FC.1 := by decide
theorem kC_45 : hg_FC.2.1 45 = (0, 720) := rfl
theorem qC_46 : 46 < hg_FC.1 := by decide
theorem kC_46 : hg_FC.2.1 46 = (0, 720) := rfl
theorem qC_47 : 47 < hg_FC.1 := by decide
theorem kC_47 : hg_FC.2.1 47 = (0, 720) := rfl
theorem qC_48 : 48 < hg_FC.1 := by decide
theorem kC_48 : hg_FC.2.1 48 = (0, 720) := rfl
theorem qC_49 : 49 < hg_FC.1 := by decide
theorem kC_49 : hg_FC.2.1 49 = (0, 720) := rfl
theorem qC_50 : 50 < hg_FC.1 := by decide
theorem kC_50 : hg_FC.2.1 50 = (1, 736) := rfl
theorem qC_51 : 51 < hg_FC.1 := by decide
theorem kC_51 : hg_FC.2.1 51 = (1, 720) := rfl
theorem qC_52 : 52 < hg_FC.1 := by decide
theorem kC_52 : hg_FC.2.1 52 = (0, 721) := rfl
theorem qC_53 : 53 < hg_FC.1 := by decide
theorem kC_53 : hg_FC.2.1 53 = (1 + 3, 7) := rfl
theorem qC_54 : 54 < hg_FC.1 := by decide
theorem kC_54 : hg_FC.2.1 54 = (0, 736) := rfl
theorem qC_55 : 55 < hg_FC.1 := by decide
theorem kC_55 : hg_FC.2.1 55 = (0, 32) := rfl
theorem qC_56 : 56 < hg_FC.1 := by decide
theorem kC_56 : hg_FC.2.1 56 = (0, 60) := rfl
theorem fC_0_0 : hg_FC.2.2 0 0 = true := rfl
theorem fC_0_1 : hg_FC.2.2 0 1 = false := rfl
theorem fC_0_2 : hg_FC.2.2 0 2 = false := rfl
theorem fC_0_3 : hg_FC.2.2 0 3 = false := rfl
theorem fC_0_4 : hg_FC.2.2 0 4 = true := rfl
theorem fC_0_5 : hg_FC.2.2 0 5 = true := rfl
theorem fC_0_6 : hg_FC.2.2 0 6 = true := rfl
theorem c_0 : vwCl[0]? = some (RX0, TX0, 7) := rfl
theorem fC_1_0 : hg_FC.2.2 1 0 = true := rfl
theorem fC_1_1 : hg_FC.2.2 1 1 = true := rfl
theorem fC_1_2 : hg_FC.2.2 1 2 = true := rfl
theorem fC_1_3 : hg_FC.2.2 1 3 = false := rfl
theorem fC_1_4 : hg_FC.2.2 1 4 = false := rfl
theorem fC_1_5 : hg_FC.2.2 1 5 = false := rfl
theorem fC_1_6 : hg_FC.2.2 1 6 = false := rfl
theorem c_1 : vwCl[1]? = some (RX1, TX1, 7) := rfl
theorem fC_2_0 : hg_FC.2.2 2 0 = true := rfl
theorem fC_2_1 : hg_FC.2.2 2 1 = true := rfl
theorem fC_2_2 : hg_FC.2.2 2 2 = true := rfl
theorem fC_2_3 : hg_FC.2.2 2 3 = true := rfl
theorem fC_2_4 : hg_FC.2.2 2 4 = true := rfl
theorem fC_2_5 : hg_FC.2.2 2 5 = false := rfl
theorem c_2 : vwCl[2]? = some (RX2, TX2, 6) := rfl
theorem fC_3_0 : hg_FC.2.2 3 0 = true := rfl
theorem fC_3_1 : hg_FC.2.2 3 1 = true := rfl
theorem fC_3_2 : hg_FC.2.2 3 2 = true := rfl
theorem fC_3_3 : hg_FC.2.2 3 3 = true := rfl
theorem fC_3_4 : hg_FC.2.2 3 4 = true := rfl
theorem fC_3_5 : hg_FC.2.2 3 5 = true := rfl
theorem fC_3_6 : hg_FC.2.2 3 6 = true := rfl
theorem fC_3_7 : hg_FC.2.2 3 7 = true := rfl
theorem fC_3_8 : hg_FC.2.2 3 8 = false := rfl
theorem c_3 : vwCl[3]? = some (RX3, TX3, 9) := rfl
theorem fC_4_0 : hg_FC.2.2 4 0 = true := rfl
theorem fC_4_1 : hg_FC.2.2 4 1 = false := rfl
theorem fC_4_2 : hg_FC.2.2 4 2 = true := rfl
theorem fC_4_3 : hg_FC.2.2 4 3 = true := rfl
theorem fC_4_4 : hg_FC.2.2 4 4 = true := rfl
theorem fC_4_5 : hg_FC.2.2 4 5 = false := rfl
theorem fC_4_6 : hg_FC.2.2 4 6 = false := rfl
theorem fC_4_7 : hg_FC.2.2 4 7 = false := rfl
theorem fC_4_8 : hg_FC.2.2 4 8 = false := rfl
theorem c_4 : vwCl[4]? = some (RX4, TX4, 9) := rfl
theorem fC_5_0 : hg_FC.2.2 5 0 = true := rfl
theorem fC_5_1 : hg_FC.2.2 5 1 = true := rfl
theorem fC_5_2 : hg_FC.2.2 5 2 = true := rfl
theorem fC_5_3 : hg_FC.2.2 5 3 = true := rfl
theorem fC_5_4 : hg_FC.2.2 5 4 = true := rfl
theorem fC_5_5 : hg_FC.2.2 5 5 = true := rfl
theorem fC_5_6 : hg_FC.2.2 5 6 = false := rfl
theorem fC_5_7 : hg_FC.2.2 5 7 = true := rfl
theorem c_5 : vwCl[5]? = some (RX5, TX5, 8) := rfl
theorem rC_0_0 : hg_rC 0 0 = 1 := rfl
theorem rC_0_1 : hg_rC 0 1 = 2 := rfl
theorem rC_3_0 : hg_rC 3 0 = 4 := rfl
theorem rC_3_3 : hg_rC 3 3 = 5 := rfl
theorem rC_3_4 : hg_rC 3 4 = 6 := rfl
theorem rC_7_0 : hg_rC 7 0 = 8 := rfl
theorem rC_7_1 : hg_rC 7 1 = 9 := rfl
theorem rC_7_2 : hg_rC 7 2 = 10 := rfl
theorem rC_7_3 : hg_rC 7 3 = 11 := rfl
theorem rC_7_4 : hg_rC 7 4 = 12 := rfl
theorem rC_7_5 : hg_rC 7 5 = 13 := rfl
theorem rC_7_6 : hg_rC 7 6 = 14 := rfl
theorem rC_7_7 : hg_rC 7 7 = 15 := rfl
theorem rC_3_2 : hg_rC 3 2 = 7 := rfl
theorem rC_0_2 : hg_rC 0 2 = 3 := rfl
theorem rC_16_0 : hg_rC 16 0 = 17 := rfl
theorem rC_16_1 : hg_rC 16 1 = 18 := rfl
theorem rC_16_2 : hg_rC 16 2 = 19 := rfl
theorem rC_16_3 : hg_rC 16 3 = 20 := rfl
theorem rC_16_4 : hg_rC 16 4 = 21 := rfl
theorem rC_16_5 : hg_rC 16 5 = 22 := rfl
theorem rC_16_6 : hg_rC 16 6 = 23 := rfl
theorem rC_16_7 : hg_rC 16 7 = 24 := rfl
theorem rC_0_3 : hg_rC 0 3 = 16 := rfl
theorem rC_25_1 : hg_rC 25 1 = 26 := rfl
theorem rC_25_2 : hg_rC 25 2 = 27 := rfl
theorem rC_25_3 : hg_rC 25 3 = 28 := rfl
theorem rC_25_4 : hg_rC 25 4 = 35 := rfl
theorem rC_42_0 : hg_rC 42 0 = 43 := rfl
theorem rC_42_4 : hg_rC 42 4 = 50 := rfl
theorem rC_42_5 : hg_rC 42 5 = 51 := rfl
theorem rC_42_6 : hg_rC 42 6 = 52 := rfl
theorem rC_25_0 : hg_rC 25 0 = 42 := rfl
theorem rC_0_4 : hg_rC 0 4 = 25 := rfl
theorem rC_0_5 : hg_rC 0 5 = 42 := rfl
theorem rC_53_0 : hg_rC 53 0 = 54 := rfl
theorem rC_53_1 : hg_rC 53 1 = 55 := rfl
theorem rC_53_2 : hg_rC 53 2 = 56 := rfl
theorem rC_0_7 : hg_rC 0 7 = 53 := rfl
/-! the family M: 29 cells -/
-- 0: x obj 45
-- 1: x.putVariable int 16
-- 2: x.putWord int 32
-- 3: x.tape int 600
-- 4: x.freshAt int 540
-- 5: x.told int 540
-- 6: x.freshFirst int 60
-- 7: x.freshSecond int 60
-- 8: x.firstEnd int 60
-- 9: x.secondEnd int 60
-- 10: x.openAt int 7
-- 11: x.openSecond bool 7
-- 12: x.step int 24000
-- 13: x.isConverted bool 60
-- 14: x.map int 16
-- 15: x.sideOf int 8
-- 16: x.isSecond bool 8
-- 17: x.isMoved bool 8
-- 18: x.sideTest int 8
-- 19: x.sideGuard int 8
-- 20: x.sideJump int 8
-- 21: x.mapBefore int 128
-- 22: x.mapFirst int 128
-- 23: x.isGone bool 4000
-- 24: x.left int 16
-- 25: x.kept int 32
-- 26: x.output int 60
-- 27: x.register int 4100
-- 28: x.tookFirst bool 60
def hg_KM : Nat → Nat × Nat := fun q => match q with
  | 0 => (9, 45)
  | 1 => (0, 16)
  | 2 => (0, 32)
  | 3 => (0, 600)
  | 4 => (0, 540)
  | 5 => (0, 540)
  | 6 => (0, 60)
  | 7 => (0, 60)
  | 8 => (0, 60)
  | 9 => (0, 60)
  | 10 => (0, 7)
  | 11 => (1, 7)
  | 12 => (0, 24000)
  | 13 => (1, 60)
  | 14 => (0, 16)
  | 15 => (0, 8)
  | 16 => (1, 8)
  | 17 => (1, 8)
  | 18 => (0, 8)
  | 19 => (0, 8)
  | 20 => (0, 8)
  | 21 => (0, 128)
  | 22 => (0, 128)
  | 23 => (1, 4000)
  | 24 => (0, 16)
  | 25 => (0, 32)
  | 26 => (0, 60)
  | 27 => (0, 4100)
  | 28 => (1, 60)
  | _ => (0, 0)
def hg_fM : Nat → Nat → Bool := fun c k => match c, k with
  | 6, 1 => true
  | 6, 2 => true
  | 6, 3 => true
  | 6, 10 => true
  | 6, 11 => true
  | 6, 12 => true
  | 6, 13 => true
  | 6, 14 => true
  | 6, 15 => true
  | 6, 16 => true
  | 6, 17 => true
  | 6, 19 => true
  | 6, 23 => true
  | 6, 25 => true
  | 6, 27 => true
  | 6, 28 => true
  | 6, 29 => true
  | 6, 30 => true
  | 6, 31 => true
  | 6, 32 => true
  | 6, 33 => true
  | 6, 34 => true
  | 6, 35 => true
  | 6, 36 => true
  | 6, 37 => true
  | 6, 38 => true
  | 6, 43 => true
  | 6, 44 => true
  | _, _ => false
def hg_FM : hg_F := (29, hg_KM, hg_fM)
def hg_rM : hg_R := fun q i => match q with
  | 0 => match i with
    | 1 => 1
    | 2 => 2
    | 3 => 3
    | 10 => 4
    | 11 => 5
    | 12 => 6
    | 13 => 7
    | 14 => 8
    | 15 => 9
    | 16 => 10
    | 17 => 11
    | 19 => 12
    | 23 => 13
    | 25 => 14
    | 27 => 15
    | 28 => 16
    | 29 => 17
    | 30 => 18
    | 31 => 19
    | 32 => 20
    | 33 => 21
    | 34 => 22
    | 35 => 23
    | 36 => 24
    | 37 => 25
    | 38 => 26
    | 43 => 27
    | 44 => 28
    | _ => 0
  | _ => 0
theorem qM_0 : 0 < hg_FM.1 := by decide
theorem kM_0 : hg_FM.2.1 0 = (6 + 3, 45) := rfl
theorem qM_1 : 1 < hg_FM.1 := by decide
theorem kM_1 : hg_FM.2.1 1 = (0, 16) := rfl
theorem qM_2 : 2 < hg_FM.1 := by decide
theorem kM_2 : hg_FM.2.1 2 = (0, 32) := rfl
theorem qM_3 : 3 < hg_FM.1 := by decide
theorem kM_3 : hg_FM.2.1 3 = (0, 600) := rfl
theorem qM_4 : 4 < hg_FM.1 := by decide
theorem kM_4 : hg_FM.2.1 4 = (0, 540) := rfl
theorem qM_5 : 5 < hg_FM.1 := by decide
theorem kM_5 : hg_FM.2.1 5 = (0, 540) := rfl
theorem qM_6 : 6 < hg_FM.1 := by decide
theorem kM_6 : hg_FM.2.1 6 = (0, 60) := rfl
theorem qM_7 : 7 < hg_FM.1 := by decide
theorem kM_7 : hg_FM.2.1 7 = (0, 60) := rfl
theorem qM_8 : 8 < hg_FM.1 := by decide
theorem kM_8 : hg_FM.2.1 8 = (0, 60) := rfl
theorem qM_9 : 9 < hg_FM.1 := by decide
theorem kM_9 : hg_FM.2.1 9 = (0, 60) := rfl
theorem qM_10 : 10 < hg_FM.1 := by decide
theorem kM_10 : hg_FM.2.1 10 = (0, 7) := rfl
theorem qM_11 : 11 < hg_FM.1 := by decide
theorem kM_11 : hg_FM.2.1 11 = (1, 7) := rfl
theorem qM_12 : 12 < hg_FM.1 := by decide
theorem kM_12 : hg_FM.2.1 12 = (0, 24000) := rfl
theorem qM_13 : 13 < hg_FM.1 := by decide
theorem kM_13 : hg_FM.2.1 13 = (1, 60) := rfl
theorem qM_14 : 14 < hg_FM.1 := by decide
theorem kM_14 : hg_FM.2.1 14 = (0, 16) := rfl
theorem qM_15 : 15 < hg_FM.1 := by decide
theorem kM_15 : hg_FM.2.1 15 = (0, 8) := rfl
theorem qM_16 : 16 < hg_FM.1 := by decide
theorem kM_16 : hg_FM.2.1 16 = (1, 8) := rfl
theorem qM_17 : 17 < hg_FM.1 := by decide
theorem kM_17 : hg_FM.2.1 17 = (1, 8) := rfl
theorem qM_18 : 18 < hg_FM.1 := by decide
theorem kM_18 : hg_FM.2.1 18 = (0, 8) := rfl
theorem qM_19 : 19 < hg_FM.1 := by decide
theorem kM_19 : hg_FM.2.1 19 = (0, 8) := rfl
theorem qM_20 : 20 < hg_FM.1 := by decide
theorem kM_20 : hg_FM.2.1 20 = (0, 8) := rfl
theorem qM_21 : 21 < hg_FM.1 := by decide
theorem kM_21 : hg_FM.2.1 21 = (0, 128) := rfl
theorem qM_22 : 22 < hg_FM.1 := by decide
theorem kM_22 : hg_FM.2.1 22 = (0, 128) := rfl
theorem qM_23 : 23 < hg_FM.1 := by decide
theorem kM_23 : hg_FM.2.1 23 = (1, 4000) := rfl
theorem qM_24 : 24 < hg_FM.1 := by decide
theorem kM_24 : hg_FM.2.1 24 = (0, 16) := rfl
theorem qM_25 : 25 < hg_FM.1 := by decide
theorem kM_25 : hg_FM.2.1 25 = (0, 32) := rfl
theorem qM_26 : 26 < hg_FM.1 := by decide
theorem kM_26 : hg_FM.2.1 26 = (0, 60) := rfl
theorem qM_27 : 27 < hg_FM.1 := by decide
theorem kM_27 : hg_FM.2.1 27 = (0, 4100) := rfl
theorem qM_28 : 28 < hg_FM.1 := by decide
theorem kM_28 : hg_FM.2.1 28 = (1, 60) := rfl
theorem fM_6_0 : hg_FM.2.2 6 0 = false := rfl
theorem fM_6_1 : hg_FM.2.2 6 1 = true := rfl
theorem fM_6_2 : hg_FM.2.2 6 2 = true := rfl
theorem fM_6_3 : hg_FM.2.2 6 3 = true := rfl
theorem fM_6_4 : hg_FM.2.2 6 4 = false := rfl
theorem fM_6_5 : hg_FM.2.2 6 5 = false := rfl
theorem fM_6_6 : hg_FM.2.2 6 6 = false := rfl
theorem fM_6_7 : hg_FM.2.2 6 7 = false := rfl
theorem fM_6_8 : hg_FM.2.2 6 8 = false := rfl
theorem fM_6_9 : hg_FM.2.2 6 9 = false := rfl
theorem fM_6_10 : hg_FM.2.2 6 10 = true := rfl
theorem fM_6_11 : hg_FM.2.2 6 11 = true := rfl
theorem fM_6_12 : hg_FM.2.2 6 12 = true := rfl
theorem fM_6_13 : hg_FM.2.2 6 13 = true := rfl
theorem fM_6_14 : hg_FM.2.2 6 14 = true := rfl
theorem fM_6_15 : hg_FM.2.2 6 15 = true := rfl
theorem fM_6_16 : hg_FM.2.2 6 16 = true := rfl
theorem fM_6_17 : hg_FM.2.2 6 17 = true := rfl
theorem fM_6_18 : hg_FM.2.2 6 18 = false := rfl
theorem fM_6_19 : hg_FM.2.2 6 19 = true := rfl
theorem fM_6_20 : hg_FM.2.2 6 20 = false := rfl
theorem fM_6_21 : hg_FM.2.2 6 21 = false := rfl
theorem fM_6_22 : hg_FM.2.2 6 22 = false := rfl
theorem fM_6_23 : hg_FM.2.2 6 23 = true := rfl
theorem fM_6_24 : hg_FM.2.2 6 24 = false := rfl
theorem fM_6_25 : hg_FM.2.2 6 25 = true := rfl
theorem fM_6_26 : hg_FM.2.2 6 26 = false := rfl
theorem fM_6_27 : hg_FM.2.2 6 27 = true := rfl
theorem fM_6_28 : hg_FM.2.2 6 28 = true := rfl
theorem fM_6_29 : hg_FM.2.2 6 29 = true := rfl
theorem fM_6_30 : hg_FM.2.2 6 30 = true := rfl
theorem fM_6_31 : hg_FM.2.2 6 31 = true := rfl
theorem fM_6_32 : hg_FM.2.2 6 32 = true := rfl
theorem fM_6_33 : hg_FM.2.2 6 33 = true := rfl
theorem fM_6_34 : hg_FM.2.2 6 34 = true := rfl
theorem fM_6_35 : hg_FM.2.2 6 35 = true := rfl
theorem fM_6_36 : hg_FM.2.2 6 36 = true := rfl
theorem fM_6_37 : hg_FM.2.2 6 37 = true := rfl
theorem fM_6_38 : hg_FM.2.2 6 38 = true := rfl
theorem fM_6_39 : hg_FM.2.2 6 39 = false := rfl
theorem fM_6_40 : hg_FM.2.2 6 40 = false := rfl
theorem fM_6_41 : hg_FM.2.2 6 41 = false := rfl
theorem fM_6_42 : hg_FM.2.2 6 42 = false := rfl
theorem fM_6_43 : hg_FM.2.2 6 43 = true := rfl
theorem fM_6_44 : hg_FM.2.2 6 44 = true := rfl
theorem c_6 : vwCl[6]? = some (RX6, TX6, 45) := rfl
theorem rM_0_1 : hg_rM 0 1 = 1 := rfl
theorem rM_0_2 : hg_rM 0 2 = 2 := rfl
theorem rM_0_3 : hg_rM 0 3 = 3 := rfl
theorem rM_0_10 : hg_rM 0 10 = 4 := rfl
theorem rM_0_11 : hg_rM 0 11 = 5 := rfl
theorem rM_0_12 : hg_rM 0 12 = 6 := rfl
theorem rM_0_13 : hg_rM 0 13 = 7 := rfl
theorem rM_0_14 : hg_rM 0 14 = 8 := rfl
theorem rM_0_15 : hg_rM 0 15 = 9 := rfl
theorem rM_0_16 : hg_rM 0 16 = 10 := rfl
theorem rM_0_17 : hg_rM 0 17 = 11 := rfl
theorem rM_0_19 : hg_rM 0 19 = 12 := rfl
theorem rM_0_23 : hg_rM 0 23 = 13 := rfl
theorem rM_0_25 : hg_rM 0 25 = 14 := rfl
theorem rM_0_27 : hg_rM 0 27 = 15 := rfl
theorem rM_0_28 : hg_rM 0 28 = 16 := rfl
theorem rM_0_29 : hg_rM 0 29 = 17 := rfl
theorem rM_0_30 : hg_rM 0 30 = 18 := rfl
theorem rM_0_31 : hg_rM 0 31 = 19 := rfl
theorem rM_0_32 : hg_rM 0 32 = 20 := rfl
theorem rM_0_33 : hg_rM 0 33 = 21 := rfl
theorem rM_0_34 : hg_rM 0 34 = 22 := rfl
theorem rM_0_35 : hg_rM 0 35 = 23 := rfl
theorem rM_0_36 : hg_rM 0 36 = 24 := rfl
theorem rM_0_37 : hg_rM 0 37 = 25 := rfl
theorem rM_0_38 : hg_rM 0 38 = 26 := rfl
theorem rM_0_43 : hg_rM 0 43 = 27 := rfl
theorem rM_0_44 : hg_rM 0 44 = 28 := rfl
end
section
/-! literals, fields and calls by their sites -/
theorem hl_i0 : Int32.ofInt (0) = (0 : Int32) := by decide
theorem hl_b16 : (Int8.ofInt (16)).toInt32 = (16 : Int32) := by decide
theorem hl_s720 : (Int16.ofInt (720)).toInt32 = (720 : Int32) := by decide
theorem vi_0_6 : vp_in (0 : Int32) 6 := by unfold vp_in; decide
theorem riC_43_0 : hg_rC 43 ((0 : Int32)).toNatClampNeg = 44 := rfl
theorem hl_i1 : Int32.ofInt (1) = (1 : Int32) := by decide
theorem vi_1_6 : vp_in (1 : Int32) 6 := by unfold vp_in; decide
theorem riC_43_1 : hg_rC 43 ((1 : Int32)).toNatClampNeg = 45 := rfl
theorem hl_i2 : Int32.ofInt (2) = (2 : Int32) := by decide
theorem vi_2_6 : vp_in (2 : Int32) 6 := by unfold vp_in; decide
theorem riC_43_2 : hg_rC 43 ((2 : Int32)).toNatClampNeg = 46 := rfl
theorem hl_i3 : Int32.ofInt (3) = (3 : Int32) := by decide
theorem vi_3_6 : vp_in (3 : Int32) 6 := by unfold vp_in; decide
theorem riC_43_3 : hg_rC 43 ((3 : Int32)).toNatClampNeg = 47 := rfl
theorem hl_i4 : Int32.ofInt (4) = (4 : Int32) := by decide
theorem vi_4_6 : vp_in (4 : Int32) 6 := by unfold vp_in; decide
theorem riC_43_4 : hg_rC 43 ((4 : Int32)).toNatClampNeg = 48 := rfl
theorem hl_i5 : Int32.ofInt (5) = (5 : Int32) := by decide
theorem vi_5_6 : vp_in (5 : Int32) 6 := by unfold vp_in; decide
theorem riC_43_5 : hg_rC 43 ((5 : Int32)).toNatClampNeg = 49 := rfl
theorem hl_b17 : (Int8.ofInt (17)).toInt32 = (17 : Int32) := by decide
theorem hl_b6 : (Int8.ofInt (6)).toInt32 = (6 : Int32) := by decide
theorem hl_s600 : (Int16.ofInt (600)).toInt32 = (600 : Int32) := by decide
theorem hl_b32 : (Int8.ofInt (32)).toInt32 = (32 : Int32) := by decide
theorem hl_b10 : (Int8.ofInt (10)).toInt32 = (10 : Int32) := by decide
theorem hl_im1 : Int32.ofInt (-1) = (-1 : Int32) := by decide
theorem hl_b123 : (Int8.ofInt (123)).toInt32 = (123 : Int32) := by decide
theorem hl_b97 : (Int8.ofInt (97)).toInt32 = (97 : Int32) := by decide
theorem hl_b113 : (Int8.ofInt (113)).toInt32 = (113 : Int32) := by decide
theorem hl_b48 : (Int8.ofInt (48)).toInt32 = (48 : Int32) := by decide
theorem hl_b57 : (Int8.ofInt (57)).toInt32 = (57 : Int32) := by decide
theorem hl_b60 : (Int8.ofInt (60)).toInt32 = (60 : Int32) := by decide
theorem hl_b14 : (Int8.ofInt (14)).toInt32 = (14 : Int32) := by decide
theorem hl_b13 : (Int8.ofInt (13)).toInt32 = (13 : Int32) := by decide
theorem hl_b15 : (Int8.ofInt (15)).toInt32 = (15 : Int32) := by decide
theorem hl_b7 : (Int8.ofInt (7)).toInt32 = (7 : Int32) := by decide
theorem hl_l0 : Int64.ofNat ((0 : Fin 2) : Nat) = (0 : Int64) := by decide
theorem hl_b18 : (Int8.ofInt (18)).toInt32 = (18 : Int32) := by decide
theorem hl_b45 : (Int8.ofInt (45)).toInt32 = (45 : Int32) := by decide
theorem hl_b61 : (Int8.ofInt (61)).toInt32 = (61 : Int32) := by decide
theorem hl_b59 : (Int8.ofInt (59)).toInt32 = (59 : Int32) := by decide
theorem hl_l1 : Int64.ofNat ((1 : Fin 2) : Nat) = (1 : Int64) := by decide
theorem hl_b8 : (Int8.ofInt (8)).toInt32 = (8 : Int32) := by decide
theorem hl_b112 : (Int8.ofInt (112)).toInt32 = (112 : Int32) := by decide
theorem hl_b9 : (Int8.ofInt (9)).toInt32 = (9 : Int32) := by decide
theorem hl_b43 : (Int8.ofInt (43)).toInt32 = (43 : Int32) := by decide
theorem hl_b42 : (Int8.ofInt (42)).toInt32 = (42 : Int32) := by decide
theorem hl_b47 : (Int8.ofInt (47)).toInt32 = (47 : Int32) := by decide
theorem hl_b37 : (Int8.ofInt (37)).toInt32 = (37 : Int32) := by decide
theorem hl_b38 : (Int8.ofInt (38)).toInt32 = (38 : Int32) := by decide
theorem hl_b124 : (Int8.ofInt (124)).toInt32 = (124 : Int32) := by decide
theorem hl_b94 : (Int8.ofInt (94)).toInt32 = (94 : Int32) := by decide
theorem hl_b35 : (Int8.ofInt (35)).toInt32 = (35 : Int32) := by decide
theorem hl_b12 : (Int8.ofInt (12)).toInt32 = (12 : Int32) := by decide
theorem hl_b11 : (Int8.ofInt (11)).toInt32 = (11 : Int32) := by decide
theorem hl_b64 : (Int8.ofInt (64)).toInt32 = (64 : Int32) := by decide
theorem hl_b33 : (Int8.ofInt (33)).toInt32 = (33 : Int32) := by decide
theorem hl_b63 : (Int8.ofInt (63)).toInt32 = (63 : Int32) := by decide
theorem hl_b125 : (Int8.ofInt (125)).toInt32 = (125 : Int32) := by decide
theorem hl_s540 : (Int16.ofInt (540)).toInt32 = (540 : Int32) := by decide
theorem hg_m1 {w : Cond} (i : Nat) (hi : tables_1_1[i]? = some w) (g : goodWord w = true) : w ∈ hg_tbl := by
  have h : w ∈ tables_1_1 := List.mem_of_getElem? hi
  exact List.mem_filter.mpr ⟨List.mem_append_right _ (show w ∈ tables_1 from (List.mem_append_left _ h)), g⟩
theorem hg_w1 {w : Cond} (i : Nat) (hi : tables_1_1[i]? = some w) (g : hg_isN w = true) : w ∈ hg_nws := by
  have h : w ∈ tables_1_1 := List.mem_of_getElem? hi
  exact List.mem_filter.mpr ⟨List.mem_append_right _ (show w ∈ tables_1 from (List.mem_append_left _ h)), g⟩
theorem hg_m2 {w : Cond} (i : Nat) (hi : tables_1_2[i]? = some w) (g : goodWord w = true) : w ∈ hg_tbl := by
  have h : w ∈ tables_1_2 := List.mem_of_getElem? hi
  exact List.mem_filter.mpr ⟨List.mem_append_right _ (show w ∈ tables_1 from (List.mem_append_right _ (List.mem_append_left _ h))), g⟩
theorem hg_w2 {w : Cond} (i : Nat) (hi : tables_1_2[i]? = some w) (g : hg_isN w = true) : w ∈ hg_nws := by
  have h : w ∈ tables_1_2 := List.mem_of_getElem? hi
  exact List.mem_filter.mpr ⟨List.mem_append_right _ (show w ∈ tables_1 from (List.mem_append_right _ (List.mem_append_left _ h))), g⟩
theorem hg_m3 {w : Cond} (i : Nat) (hi : tables_1_3[i]? = some w) (g : goodWord w = true) : w ∈ hg_tbl := by
  have h : w ∈ tables_1_3 := List.mem_of_getElem? hi
  exact List.mem_filter.mpr ⟨List.mem_append_right _ (show w ∈ tables_1 from (List.mem_append_right _ (List.mem_append_right _ (List.mem_append_left _ h)))), g⟩
theorem hg_w3 {w : Cond} (i : Nat) (hi : tables_1_3[i]? = some w) (g : hg_isN w = true) : w ∈ hg_nws := by
  have h : w ∈ tables_1_3 := List.mem_of_getElem? hi
  exact List.mem_filter.mpr ⟨List.mem_append_right _ (show w ∈ tables_1 from (List.mem_append_right _ (List.mem_append_right _ (List.mem_append_left _ h)))), g⟩
theorem hg_m4 {w : Cond} (i : Nat) (hi : tables_1_4[i]? = some w) (g : goodWord w = true) : w ∈ hg_tbl := by
  have h : w ∈ tables_1_4 := List.mem_of_getElem? hi
  exact List.mem_filter.mpr ⟨List.mem_append_right _ (show w ∈ tables_1 from (List.mem_append_right _ (List.mem_append_right _ (List.mem_append_right _ (List.mem_append_left _ h))))), g⟩
theorem hg_w4 {w : Cond} (i : Nat) (hi : tables_1_4[i]? = some w) (g : hg_isN w = true) : w ∈ hg_nws := by
  have h : w ∈ tables_1_4 := List.mem_of_getElem? hi
  exact List.mem_filter.mpr ⟨List.mem_append_right _ (show w ∈ tables_1 from (List.mem_append_right _ (List.mem_append_right _ (List.mem_append_right _ (List.mem_append_left _ h))))), g⟩
theorem hg_m5 {w : Cond} (i : Nat) (hi : tables_1_5[i]? = some w) (g : goodWord w = true) : w ∈ hg_tbl := by
  have h : w ∈ tables_1_5 := List.mem_of_getElem? hi
  exact List.mem_filter.mpr ⟨List.mem_append_right _ (show w ∈ tables_1 from (List.mem_append_right _ (List.mem_append_right _ (List.mem_append_right _ (List.mem_append_right _ (List.mem_append_left _ h)))))), g⟩
theorem hg_w5 {w : Cond} (i : Nat) (hi : tables_1_5[i]? = some w) (g : hg_isN w = true) : w ∈ hg_nws := by
  have h : w ∈ tables_1_5 := List.mem_of_getElem? hi
  exact List.mem_filter.mpr ⟨List.mem_append_right _ (show w ∈ tables_1 from (List.mem_append_right _ (List.mem_append_right _ (List.mem_append_right _ (List.mem_append_right _ (List.mem_append_left _ h)))))), g⟩
theorem hg_m6 {w : Cond} (i : Nat) (hi : tables_1_6[i]? = some w) (g : goodWord w = true) : w ∈ hg_tbl := by
  have h : w ∈ tables_1_6 := List.mem_of_getElem? hi
  exact List.mem_filter.mpr ⟨List.mem_append_right _ (show w ∈ tables_1 from (List.mem_append_right _ (List.mem_append_right _ (List.mem_append_right _ (List.mem_append_right _ (List.mem_append_right _ h)))))), g⟩
theorem hg_w6 {w : Cond} (i : Nat) (hi : tables_1_6[i]? = some w) (g : hg_isN w = true) : w ∈ hg_nws := by
  have h : w ∈ tables_1_6 := List.mem_of_getElem? hi
  exact List.mem_filter.mpr ⟨List.mem_append_right _ (show w ∈ tables_1 from (List.mem_append_right _ (List.mem_append_right _ (List.mem_append_right _ (List.mem_append_right _ (List.mem_append_right _ h)))))), g⟩
theorem hg_p1 {y : MethodName} (i : Nat) (hi : (lw_privs_1[i]?).map (·.1) = some y) : Cond.selects y.cls y y ∈ hg_tbl := by
  obtain ⟨q, h, rfl⟩ := Option.map_eq_some_iff.mp hi
  have h : q ∈ lw_privs_1 := List.mem_of_getElem? h
  exact List.mem_filter.mpr ⟨List.mem_append_left _ (List.mem_map.mpr ⟨q, (show q ∈ lw_privs from (List.mem_append_left _ h)), rfl⟩), rfl⟩
theorem hg_p2 {y : MethodName} (i : Nat) (hi : (lw_privs_2[i]?).map (·.1) = some y) : Cond.selects y.cls y y ∈ hg_tbl := by
  obtain ⟨q, h, rfl⟩ := Option.map_eq_some_iff.mp hi
  have h : q ∈ lw_privs_2 := List.mem_of_getElem? h
  exact List.mem_filter.mpr ⟨List.mem_append_left _ (List.mem_map.mpr ⟨q, (show q ∈ lw_privs from (List.mem_append_right _ (List.mem_append_left _ h))), rfl⟩), rfl⟩
theorem hg_p3 {y : MethodName} (i : Nat) (hi : (lw_privs_3[i]?).map (·.1) = some y) : Cond.selects y.cls y y ∈ hg_tbl := by
  obtain ⟨q, h, rfl⟩ := Option.map_eq_some_iff.mp hi
  have h : q ∈ lw_privs_3 := List.mem_of_getElem? h
  exact List.mem_filter.mpr ⟨List.mem_append_left _ (List.mem_map.mpr ⟨q, (show q ∈ lw_privs from (List.mem_append_right _ (List.mem_append_right _ (List.mem_append_left _ h)))), rfl⟩), rfl⟩
theorem hg_p4 {y : MethodName} (i : Nat) (hi : (lw_privs_4[i]?).map (·.1) = some y) : Cond.selects y.cls y y ∈ hg_tbl := by
  obtain ⟨q, h, rfl⟩ := Option.map_eq_some_iff.mp hi
  have h : q ∈ lw_privs_4 := List.mem_of_getElem? h
  exact List.mem_filter.mpr ⟨List.mem_append_left _ (List.mem_map.mpr ⟨q, (show q ∈ lw_privs from (List.mem_append_right _ (List.mem_append_right _ (List.mem_append_right _ (List.mem_append_left _ h))))), rfl⟩), rfl⟩
theorem hg_p5 {y : MethodName} (i : Nat) (hi : (lw_privs_5[i]?).map (·.1) = some y) : Cond.selects y.cls y y ∈ hg_tbl := by
  obtain ⟨q, h, rfl⟩ := Option.map_eq_some_iff.mp hi
  have h : q ∈ lw_privs_5 := List.mem_of_getElem? h
  exact List.mem_filter.mpr ⟨List.mem_append_left _ (List.mem_map.mpr ⟨q, (show q ∈ lw_privs from (List.mem_append_right _ (List.mem_append_right _ (List.mem_append_right _ (List.mem_append_right _ (List.mem_append_left _ h)))))), rfl⟩), rfl⟩
theorem hg_p6 {y : MethodName} (i : Nat) (hi : (lw_privs_6[i]?).map (·.1) = some y) : Cond.selects y.cls y y ∈ hg_tbl := by
  obtain ⟨q, h, rfl⟩ := Option.map_eq_some_iff.mp hi
  have h : q ∈ lw_privs_6 := List.mem_of_getElem? h
  exact List.mem_filter.mpr ⟨List.mem_append_left _ (List.mem_map.mpr ⟨q, (show q ∈ lw_privs from (List.mem_append_right _ (List.mem_append_right _ (List.mem_append_right _ (List.mem_append_right _ (List.mem_append_right _ h)))))), rfl⟩), rfl⟩
theorem inT_0 : ∀ w ∈ u_ws RX0 TX0 7, w ∈ hg_tbl := List.forall_mem_cons.mpr ⟨(hg_m1 157 (by decide +kernel) rfl), List.forall_mem_cons.mpr ⟨(hg_m1 159 (by decide +kernel) rfl), List.forall_mem_cons.mpr ⟨(hg_m1 161 (by decide +kernel) rfl), List.forall_mem_cons.mpr ⟨(hg_m1 163 (by decide +kernel) rfl), List.forall_mem_cons.mpr ⟨(hg_m1 165 (by decide +kernel) rfl), List.forall_mem_cons.mpr ⟨(hg_m1 167 (by decide +kernel) rfl), List.forall_mem_cons.mpr ⟨(hg_m1 169 (by decide +kernel) rfl), fun _ h => absurd h List.not_mem_nil⟩⟩⟩⟩⟩⟩⟩
theorem inT_1 : ∀ w ∈ u_ws RX1 TX1 7, w ∈ hg_tbl := List.forall_mem_cons.mpr ⟨(hg_m1 214 (by decide +kernel) rfl), List.forall_mem_cons.mpr ⟨(hg_m1 216 (by decide +kernel) rfl), List.forall_mem_cons.mpr ⟨(hg_m1 218 (by decide +kernel) rfl), List.forall_mem_cons.mpr ⟨(hg_m1 220 (by decide +kernel) rfl), List.forall_mem_cons.mpr ⟨(hg_m1 222 (by decide +kernel) rfl), List.forall_mem_cons.mpr ⟨(hg_m1 224 (by decide +kernel) rfl), List.forall_mem_cons.mpr ⟨(hg_m1 226 (by decide +kernel) rfl), fun _ h => absurd h List.not_mem_nil⟩⟩⟩⟩⟩⟩⟩
theorem inT_2 : ∀ w ∈ u_ws RX2 TX2 6, w ∈ hg_tbl := List.forall_mem_cons.mpr ⟨(hg_m1 181 (by decide +kernel) rfl), List.forall_mem_cons.mpr ⟨(hg_m1 183 (by decide +kernel) rfl), List.forall_mem_cons.mpr ⟨(hg_m1 185 (by decide +kernel) rfl), List.forall_mem_cons.mpr ⟨(hg_m1 187 (by decide +kernel) rfl), List.forall_mem_cons.mpr ⟨(hg_m1 189 (by decide +kernel) rfl), List.forall_mem_cons.mpr ⟨(hg_m1 191 (by decide +kernel) rfl), fun _ h => absurd h List.not_mem_nil⟩⟩⟩⟩⟩⟩
theorem inT_3 : ∀ w ∈ u_ws RX3 TX3 9, w ∈ hg_tbl := List.forall_mem_cons.mpr ⟨(hg_m1 75 (by decide +kernel) rfl), List.forall_mem_cons.mpr ⟨(hg_m1 77 (by decide +kernel) rfl), List.forall_mem_cons.mpr ⟨(hg_m1 79 (by decide +kernel) rfl), List.forall_mem_cons.mpr ⟨(hg_m1 81 (by decide +kernel) rfl), List.forall_mem_cons.mpr ⟨(hg_m1 83 (by decide +kernel) rfl), List.forall_mem_cons.mpr ⟨(hg_m1 85 (by decide +kernel) rfl), List.forall_mem_cons.mpr ⟨(hg_m1 87 (by decide +kernel) rfl), List.forall_mem_cons.mpr ⟨(hg_m1 89 (by decide +kernel) rfl), List.forall_mem_cons.mpr ⟨(hg_m1 91 (by decide +kernel) rfl), fun _ h => absurd h List.not_mem_nil⟩⟩⟩⟩⟩⟩⟩⟩⟩
theorem inT_4 : ∀ w ∈ u_ws RX4 TX4 9, w ∈ hg_tbl := List.forall_mem_cons.mpr ⟨(hg_m1 108 (by decide +kernel) rfl), List.forall_mem_cons.mpr ⟨(hg_m1 110 (by decide +kernel) rfl), List.forall_mem_cons.mpr ⟨(hg_m1 112 (by decide +kernel) rfl), List.forall_mem_cons.mpr ⟨(hg_m1 114 (by decide +kernel) rfl), List.forall_mem_cons.mpr ⟨(hg_m1 116 (by decide +kernel) rfl), List.forall_mem_cons.mpr ⟨(hg_m1 118 (by decide +kernel) rfl), List.forall_mem_cons.mpr ⟨(hg_m1 120 (by decide +kernel) rfl), List.forall_mem_cons.mpr ⟨(hg_m1 122 (by decide +kernel) rfl), List.forall_mem_cons.mpr ⟨(hg_m1 124 (by decide +kernel) rfl), fun _ h => absurd h List.not_mem_nil⟩⟩⟩⟩⟩⟩⟩⟩⟩
theorem inT_5 : ∀ w ∈ u_ws RX5 TX5 8, w ∈ hg_tbl := List.forall_mem_cons.mpr ⟨(hg_m1 237 (by decide +kernel) rfl), List.forall_mem_cons.mpr ⟨(hg_m1 239 (by decide +kernel) rfl), List.forall_mem_cons.mpr ⟨(hg_m2 1 (by decide +kernel) rfl), List.forall_mem_cons.mpr ⟨(hg_m2 3 (by decide +kernel) rfl), List.forall_mem_cons.mpr ⟨(hg_m2 5 (by decide +kernel) rfl), List.forall_mem_cons.mpr ⟨(hg_m2 7 (by decide +kernel) rfl), List.forall_mem_cons.mpr ⟨(hg_m2 9 (by decide +kernel) rfl), List.forall_mem_cons.mpr ⟨(hg_m2 11 (by decide +kernel) rfl), fun _ h => absurd h List.not_mem_nil⟩⟩⟩⟩⟩⟩⟩⟩
theorem inT_6 : ∀ w ∈ u_ws RX6 TX6 45, w ∈ hg_tbl := List.forall_mem_cons.mpr ⟨(hg_m4 137 (by decide +kernel) rfl), List.forall_mem_cons.mpr ⟨(hg_m4 139 (by decide +kernel) rfl), List.forall_mem_cons.mpr ⟨(hg_m4 141 (by decide +kernel) rfl), List.forall_mem_cons.mpr ⟨(hg_m4 143 (by decide +kernel) rfl), List.forall_mem_cons.mpr ⟨(hg_m4 145 (by decide +kernel) rfl), List.forall_mem_cons.mpr ⟨(hg_m4 147 (by decide +kernel) rfl), List.forall_mem_cons.mpr ⟨(hg_m4 149 (by decide +kernel) rfl), List.forall_mem_cons.mpr ⟨(hg_m4 151 (by decide +kernel) rfl), List.forall_mem_cons.mpr ⟨(hg_m4 153 (by decide +kernel) rfl), List.forall_mem_cons.mpr ⟨(hg_m4 155 (by decide +kernel) rfl), List.forall_mem_cons.mpr ⟨(hg_m4 157 (by decide +kernel) rfl), List.forall_mem_cons.mpr ⟨(hg_m4 159 (by decide +kernel) rfl), List.forall_mem_cons.mpr ⟨(hg_m4 161 (by decide +kernel) rfl), List.forall_mem_cons.mpr ⟨(hg_m4 163 (by decide +kernel) rfl), List.forall_mem_cons.mpr ⟨(hg_m4 165 (by decide +kernel) rfl), List.forall_mem_cons.mpr ⟨(hg_m4 167 (by decide +kernel) rfl), List.forall_mem_cons.mpr ⟨(hg_m4 169 (by decide +kernel) rfl), List.forall_mem_cons.mpr ⟨(hg_m4 171 (by decide +kernel) rfl), List.forall_mem_cons.mpr ⟨(hg_m4 173 (by decide +kernel) rfl), List.forall_mem_cons.mpr ⟨(hg_m4 175 (by decide +kernel) rfl), List.forall_mem_cons.mpr ⟨(hg_m4 177 (by decide +kernel) rfl), List.forall_mem_cons.mpr ⟨(hg_m4 179 (by decide +kernel) rfl), List.forall_mem_cons.mpr ⟨(hg_m4 181 (by decide +kernel) rfl), List.forall_mem_cons.mpr ⟨(hg_m4 183 (by decide +kernel) rfl), List.forall_mem_cons.mpr ⟨(hg_m4 185 (by decide +kernel) rfl), List.forall_mem_cons.mpr ⟨(hg_m4 187 (by decide +kernel) rfl), List.forall_mem_cons.mpr ⟨(hg_m4 189 (by decide +kernel) rfl), List.forall_mem_cons.mpr ⟨(hg_m4 191 (by decide +kernel) rfl), List.forall_mem_cons.mpr ⟨(hg_m4 193 (by decide +kernel) rfl), List.forall_mem_cons.mpr ⟨(hg_m4 195 (by decide +kernel) rfl), List.forall_mem_cons.mpr ⟨(hg_m4 197 (by decide +kernel) rfl), List.forall_mem_cons.mpr ⟨(hg_m4 199 (by decide +kernel) rfl), List.forall_mem_cons.mpr ⟨(hg_m4 201 (by decide +kernel) rfl), List.forall_mem_cons.mpr ⟨(hg_m4 203 (by decide +kernel) rfl), List.forall_mem_cons.mpr ⟨(hg_m4 205 (by decide +kernel) rfl), List.forall_mem_cons.mpr ⟨(hg_m4 207 (by decide +kernel) rfl), List.forall_mem_cons.mpr ⟨(hg_m4 209 (by decide +kernel) rfl), List.forall_mem_cons.mpr ⟨(hg_m4 211 (by decide +kernel) rfl), List.forall_mem_cons.mpr ⟨(hg_m4 213 (by decide +kernel) rfl), List.forall_mem_cons.mpr ⟨(hg_m4 215 (by decide +kernel) rfl), List.forall_mem_cons.mpr ⟨(hg_m4 217 (by decide +kernel) rfl), List.forall_mem_cons.mpr ⟨(hg_m4 219 (by decide +kernel) rfl), List.forall_mem_cons.mpr ⟨(hg_m4 221 (by decide +kernel) rfl), List.forall_mem_cons.mpr ⟨(hg_m4 223 (by decide +kernel) rfl), List.forall_mem_cons.mpr ⟨(hg_m4 225 (by decide +kernel) rfl), fun _ h => absurd h List.not_mem_nil⟩⟩⟩⟩⟩⟩⟩⟩⟩⟩⟩⟩⟩⟩⟩⟩⟩⟩⟩⟩⟩⟩⟩⟩⟩⟩⟩⟩⟩⟩⟩⟩⟩⟩⟩⟩⟩⟩⟩⟩⟩⟩⟩⟩⟩
theorem mx_1 : Cond.static Lib.Math.max.name ∈ hg_tbl := (hg_m3 8 (by decide +kernel) rfl)
theorem mx_2 : Cond.initialized "java/lang/Math" ∈ hg_tbl := (hg_m1 14 (by decide +kernel) rfl)
theorem mx_3 : Cond.code Lib.Math.max.name Lib.Math.max.code 2 (some .int) ∈ hg_tbl := (hg_m3 9 (by decide +kernel) rfl)
theorem mn_1 : Cond.static Lib.MathLoose.min_long.x ∈ hg_tbl := (hg_m2 67 (by decide +kernel) rfl)
theorem mn_3 : Cond.code Lib.MathLoose.min_long.x Lib.MathLoose.min_long.code 4 (some .long) ∈ hg_tbl := (hg_m2 68 (by decide +kernel) rfl)
theorem ac_1 : Cond.native arraycopyName ∈ hg_tbl := (hg_m2 199 (by decide +kernel) rfl)
theorem ac_2 : Cond.static arraycopyName ∈ hg_tbl := (hg_m2 198 (by decide +kernel) rfl)
theorem ac_3 : Cond.initialized "java/lang/System" ∈ hg_tbl := (hg_m1 19 (by decide +kernel) rfl)
theorem fp_RX0_16 : hg_Fp RX0 16 0 1 7 .int := ⟨RX0, RX0, TX0, tyX0, inT_0, (hg_m1 146 (by decide +kernel) rfl), rfl, rfl, by decide, tyX0_ok, nmX0, rfl, by decide +kernel⟩
theorem fp_RX0_20 : hg_Fp RX0 20 0 2 7 .int := ⟨RX0, RX0, TX0, tyX0, inT_0, (hg_m1 150 (by decide +kernel) rfl), rfl, rfl, by decide, tyX0_ok, nmX0, rfl, by decide +kernel⟩
theorem fl_RX0_16 : hg_Fl RX0 16 0 1 7 := ⟨RX0, RX0, TX0, inT_0, (hg_m1 146 (by decide +kernel) rfl), rfl, rfl, by decide⟩
theorem fl_RX0_13 : hg_Fl RX0 13 0 0 7 := ⟨RX0, RX0, TX0, inT_0, (hg_m1 143 (by decide +kernel) rfl), rfl, rfl, by decide⟩
theorem fl_RX0_23 : hg_Fl RX0 23 0 3 7 := ⟨RX0, RX0, TX0, inT_0, (hg_m1 152 (by decide +kernel) rfl), rfl, rfl, by decide⟩
theorem fl_RX0_20 : hg_Fl RX0 20 0 2 7 := ⟨RX0, RX0, TX0, inT_0, (hg_m1 150 (by decide +kernel) rfl), rfl, rfl, by decide⟩
theorem sv_RX0_37 : hg_Sv RX0 37 RX0 yX0_add cX0_add 7 (some .int) 5 := ⟨(hg_m3 202 (by decide +kernel) rfl), (hg_m3 199 (by decide +kernel) rfl), (hg_m3 200 (by decide +kernel) rfl), (hg_m3 201 (by decide +kernel) rfl), (hg_m1 5 (by decide +kernel) rfl), by decide +kernel, by decide⟩
theorem sv_RX0_45 : hg_Sv RX0 45 RX0 yX0_isJump cX0_isJump 2 (some .boolean) 1 := ⟨(hg_m2 181 (by decide +kernel) rfl), (hg_m2 178 (by decide +kernel) rfl), (hg_m2 180 (by decide +kernel) rfl), (hg_p1 (y := yX0_isJump) 15 (by decide +kernel)), (hg_m1 5 (by decide +kernel) rfl), by decide +kernel, by decide⟩
theorem sv_RX0_41 : hg_Sv RX0 41 RX0 yX0_leadRow cX0_leadRow 2 (some .int) 1 := ⟨(hg_m2 185 (by decide +kernel) rfl), (hg_m2 182 (by decide +kernel) rfl), (hg_m2 184 (by decide +kernel) rfl), (hg_p2 (y := yX0_leadRow) 0 (by decide +kernel)), (hg_m1 5 (by decide +kernel) rfl), by decide +kernel, by decide⟩
theorem fl_RX0_33 : hg_Fl RX0 33 0 6 7 := ⟨RX0, RX0, TX0, inT_0, (hg_m1 156 (by decide +kernel) rfl), rfl, rfl, by decide⟩
theorem fl_RX3_37 : hg_Fl RX3 37 3 8 9 := ⟨RX3, RX3, TX3, inT_3, (hg_m1 70 (by decide +kernel) rfl), rfl, rfl, by decide⟩
theorem fl_RX3_9 : hg_Fl RX3 9 3 0 9 := ⟨RX3, RX3, TX3, inT_3, (hg_m1 41 (by decide +kernel) rfl), rfl, rfl, by decide⟩
theorem fl_RX3_15 : hg_Fl RX3 15 3 1 9 := ⟨RX3, RX3, TX3, inT_3, (hg_m1 46 (by decide +kernel) rfl), rfl, rfl, by decide⟩
theorem fl_RX3_18 : hg_Fl RX3 18 3 2 9 := ⟨RX3, RX3, TX3, inT_3, (hg_m1 48 (by decide +kernel) rfl), rfl, rfl, by decide⟩
theorem fl_RX3_21 : hg_Fl RX3 21 3 3 9 := ⟨RX3, RX3, TX3, inT_3, (hg_m1 52 (by decide +kernel) rfl), rfl, rfl, by decide⟩
theorem fl_RX3_24 : hg_Fl RX3 24 3 4 9 := ⟨RX3, RX3, TX3, inT_3, (hg_m1 56 (by decide +kernel) rfl), rfl, rfl, by decide⟩
theorem fl_RX3_27 : hg_Fl RX3 27 3 5 9 := ⟨RX3, RX3, TX3, inT_3, (hg_m1 60 (by decide +kernel) rfl), rfl, rfl, by decide⟩
theorem fp_RX3_37 : hg_Fp RX3 37 3 8 9 .int := ⟨RX3, RX3, TX3, tyX3, inT_3, (hg_m1 70 (by decide +kernel) rfl), rfl, rfl, by decide, tyX3_ok, nmX3, rfl, by decide +kernel⟩
theorem fl_RX3_30 : hg_Fl RX3 30 3 6 9 := ⟨RX3, RX3, TX3, inT_3, (hg_m1 64 (by decide +kernel) rfl), rfl, rfl, by decide⟩
theorem fl_RX3_34 : hg_Fl RX3 34 3 7 9 := ⟨RX3, RX3, TX3, inT_3, (hg_m1 67 (by decide +kernel) rfl), rfl, rfl, by decide⟩
theorem fl_RX4_15 : hg_Fl RX4 15 4 1 9 := ⟨RX4, RX4, TX4, inT_4, (hg_m1 97 (by decide +kernel) rfl), rfl, rfl, by decide⟩
theorem fl_RX4_9 : hg_Fl RX4 9 4 0 9 := ⟨RX4, RX4, TX4, inT_4, (hg_m1 96 (by decide +kernel) rfl), rfl, rfl, by decide⟩
theorem fp_RX4_15 : hg_Fp RX4 15 4 1 9 .int := ⟨RX4, RX4, TX4, tyX4, inT_4, (hg_m1 97 (by decide +kernel) rfl), rfl, rfl, by decide, tyX4_ok, nmX4, rfl, by decide +kernel⟩
theorem fp_RX4_39 : hg_Fp RX4 39 4 7 9 .int := ⟨RX4, RX4, TX4, tyX4, inT_4, (hg_m1 104 (by decide +kernel) rfl), rfl, rfl, by decide, tyX4_ok, nmX4, rfl, by decide +kernel⟩
theorem fl_RX4_36 : hg_Fl RX4 36 4 6 9 := ⟨RX4, RX4, TX4, inT_4, (hg_m1 103 (by decide +kernel) rfl), rfl, rfl, by decide⟩
theorem fp_RX4_42 : hg_Fp RX4 42 4 8 9 .int := ⟨RX4, RX4, TX4, tyX4, inT_4, (hg_m1 106 (by decide +kernel) rfl), rfl, rfl, by decide, tyX4_ok, nmX4, rfl, by decide +kernel⟩
theorem fp_RX4_36 : hg_Fp RX4 36 4 6 9 .int := ⟨RX4, RX4, TX4, tyX4, inT_4, (hg_m1 103 (by decide +kernel) rfl), rfl, rfl, by decide, tyX4_ok, nmX4, rfl, by decide +kernel⟩
theorem sv_RX4_48 : hg_Sv RX4 48 RX4 yX4_nextByte cX4_nextByte 1 (some .int) 0 := ⟨(hg_m2 25 (by decide +kernel) rfl), (hg_m2 22 (by decide +kernel) rfl), (hg_m2 24 (by decide +kernel) rfl), (hg_p1 (y := yX4_nextByte) 0 (by decide +kernel)), (hg_m1 2 (by decide +kernel) rfl), by decide +kernel, by decide⟩
theorem sv_RX4_52 : hg_Sv RX4 52 RX4 yX4_refuse cX4_refuse 2 (some .boolean) 1 := ⟨(hg_m2 29 (by decide +kernel) rfl), (hg_m2 26 (by decide +kernel) rfl), (hg_m2 28 (by decide +kernel) rfl), (hg_p1 (y := yX4_refuse) 1 (by decide +kernel)), (hg_m1 2 (by decide +kernel) rfl), by decide +kernel, by decide⟩
theorem fl_RX4_33 : hg_Fl RX4 33 4 5 9 := ⟨RX4, RX4, TX4, inT_4, (hg_m1 102 (by decide +kernel) rfl), rfl, rfl, by decide⟩
theorem fl_RX4_26 : hg_Fl RX4 26 4 3 9 := ⟨RX4, RX4, TX4, inT_4, (hg_m1 100 (by decide +kernel) rfl), rfl, rfl, by decide⟩
theorem fl_RX4_29 : hg_Fl RX4 29 4 4 9 := ⟨RX4, RX4, TX4, inT_4, (hg_m1 101 (by decide +kernel) rfl), rfl, rfl, by decide⟩
theorem fl_RX4_22 : hg_Fl RX4 22 4 2 9 := ⟨RX4, RX4, TX4, inT_4, (hg_m1 99 (by decide +kernel) rfl), rfl, rfl, by decide⟩
theorem fl_RX4_63 : hg_Fl RX4 63 3 4 9 := ⟨RX3, RX3, TX3, inT_3, (hg_m1 58 (by decide +kernel) rfl), rfl, rfl, by decide⟩
theorem fl_RX4_45 : hg_Fl RX4 45 3 8 9 := ⟨RX3, RX3, TX3, inT_3, (hg_m1 73 (by decide +kernel) rfl), rfl, rfl, by decide⟩
theorem fl_RX4_66 : hg_Fl RX4 66 3 5 9 := ⟨RX3, RX3, TX3, inT_3, (hg_m1 63 (by decide +kernel) rfl), rfl, rfl, by decide⟩
theorem fp_RX4_33 : hg_Fp RX4 33 4 5 9 .int := ⟨RX4, RX4, TX4, tyX4, inT_4, (hg_m1 102 (by decide +kernel) rfl), rfl, rfl, by decide, tyX4_ok, nmX4, rfl, by decide +kernel⟩
theorem fl_RX2_18 : hg_Fl RX2 18 2 1 6 := ⟨RX2, RX2, TX2, inT_2, (hg_m1 175 (by decide +kernel) rfl), rfl, rfl, by decide⟩
theorem fl_RX2_12 : hg_Fl RX2 12 2 0 6 := ⟨RX2, RX2, TX2, inT_2, (hg_m1 173 (by decide +kernel) rfl), rfl, rfl, by decide⟩
theorem sv_RX2_58 : hg_Sv RX2 58 RX0 yX0_clear cX0_clear 1 none 0 := ⟨(hg_m3 178 (by decide +kernel) rfl), (hg_m3 175 (by decide +kernel) rfl), (hg_m3 176 (by decide +kernel) rfl), (hg_m3 177 (by decide +kernel) rfl), (hg_m1 5 (by decide +kernel) rfl), by decide +kernel, by decide⟩
theorem fp_RX2_34 : hg_Fp RX2 34 2 5 6 .int := ⟨RX2, RX2, TX2, tyX2, inT_2, (hg_m1 180 (by decide +kernel) rfl), rfl, rfl, by decide, tyX2_ok, nmX2, rfl, by decide +kernel⟩
theorem fl_RX2_22 : hg_Fl RX2 22 2 2 6 := ⟨RX2, RX2, TX2, inT_2, (hg_m1 177 (by decide +kernel) rfl), rfl, rfl, by decide⟩
theorem fl_RX2_61 : hg_Fl RX2 61 3 5 9 := ⟨RX3, RX3, TX3, inT_3, (hg_m1 62 (by decide +kernel) rfl), rfl, rfl, by decide⟩
theorem fl_RX2_64 : hg_Fl RX2 64 3 0 9 := ⟨RX3, RX3, TX3, inT_3, (hg_m1 43 (by decide +kernel) rfl), rfl, rfl, by decide⟩
theorem sv_RX2_106 : hg_Sv RX2 106 RX0 yX0_addToNew cX0_addToNew 6 (some .int) 4 := ⟨(hg_m3 198 (by decide +kernel) rfl), (hg_m3 195 (by decide +kernel) rfl), (hg_m3 196 (by decide +kernel) rfl), (hg_m3 197 (by decide +kernel) rfl), (hg_m1 5 (by decide +kernel) rfl), by decide +kernel, by decide⟩
theorem fl_RX2_34 : hg_Fl RX2 34 2 5 6 := ⟨RX2, RX2, TX2, inT_2, (hg_m1 180 (by decide +kernel) rfl), rfl, rfl, by decide⟩
theorem sv_RX2_119 : hg_Sv RX2 119 RX0 yX0_add cX0_add 7 (some .int) 5 := ⟨(hg_m3 202 (by decide +kernel) rfl), (hg_m3 220 (by decide +kernel) rfl), (hg_m3 200 (by decide +kernel) rfl), (hg_m3 201 (by decide +kernel) rfl), (hg_m1 5 (by decide +kernel) rfl), by decide +kernel, by decide⟩
theorem sv_RX2_102 : hg_Sv RX2 102 RX2 yX2_setNew cX2_setNew 2 (some .int) 1 := ⟨(hg_m3 194 (by decide +kernel) rfl), (hg_m3 191 (by decide +kernel) rfl), (hg_m3 193 (by decide +kernel) rfl), (hg_p3 (y := yX2_setNew) 1 (by decide +kernel)), (hg_m1 4 (by decide +kernel) rfl), by decide +kernel, by decide⟩
theorem fl_RX2_31 : hg_Fl RX2 31 2 4 6 := ⟨RX2, RX2, TX2, inT_2, (hg_m1 179 (by decide +kernel) rfl), rfl, rfl, by decide⟩
theorem fl_RX2_28 : hg_Fl RX2 28 2 3 6 := ⟨RX2, RX2, TX2, inT_2, (hg_m1 178 (by decide +kernel) rfl), rfl, rfl, by decide⟩
theorem fl_RX1_9 : hg_Fl RX1 9 1 0 7 := ⟨RX1, RX1, TX1, inT_1, (hg_m1 200 (by decide +kernel) rfl), rfl, rfl, by decide⟩
theorem fl_RX1_89 : hg_Fl RX1 89 3 6 9 := ⟨RX3, RX3, TX3, inT_3, (hg_m1 65 (by decide +kernel) rfl), rfl, rfl, by decide⟩
theorem fl_RX1_93 : hg_Fl RX1 93 3 7 9 := ⟨RX3, RX3, TX3, inT_3, (hg_m1 68 (by decide +kernel) rfl), rfl, rfl, by decide⟩
theorem fl_RX1_127 : hg_Fl RX1 127 0 0 7 := ⟨RX0, RX0, TX0, inT_0, (hg_m1 144 (by decide +kernel) rfl), rfl, rfl, by decide⟩
theorem fl_RX1_21 : hg_Fl RX1 21 1 3 7 := ⟨RX1, RX1, TX1, inT_1, (hg_m1 206 (by decide +kernel) rfl), rfl, rfl, by decide⟩
theorem fl_RX1_18 : hg_Fl RX1 18 1 2 7 := ⟨RX1, RX1, TX1, inT_1, (hg_m1 204 (by decide +kernel) rfl), rfl, rfl, by decide⟩
theorem fp_RX1_21 : hg_Fp RX1 21 1 3 7 .int := ⟨RX1, RX1, TX1, tyX1, inT_1, (hg_m1 206 (by decide +kernel) rfl), rfl, rfl, by decide, tyX1_ok, nmX1, rfl, by decide +kernel⟩
theorem fp_RX1_25 : hg_Fp RX1 25 1 4 7 .int := ⟨RX1, RX1, TX1, tyX1, inT_1, (hg_m1 208 (by decide +kernel) rfl), rfl, rfl, by decide, tyX1_ok, nmX1, rfl, by decide +kernel⟩
theorem fp_RX1_28 : hg_Fp RX1 28 1 5 7 .int := ⟨RX1, RX1, TX1, tyX1, inT_1, (hg_m1 210 (by decide +kernel) rfl), rfl, rfl, by decide, tyX1_ok, nmX1, rfl, by decide +kernel⟩
theorem fl_RX5_19 : hg_Fl RX5 19 5 2 8 := ⟨RX5, RX5, TX5, inT_5, (hg_m1 231 (by decide +kernel) rfl), rfl, rfl, by decide⟩
theorem fl_RX5_94 : hg_Fl RX5 94 4 7 9 := ⟨RX4, RX4, TX4, inT_4, (hg_m1 105 (by decide +kernel) rfl), rfl, rfl, by decide⟩
theorem sn_RX0_63 : hg_Sn RX0 63 "GuardedMoves" yX5_divides cX5_divides 1 (some .boolean) 1 := ⟨(hg_m2 165 (by decide +kernel) rfl), (hg_w2 163 (by decide +kernel) rfl), (hg_m2 164 (by decide +kernel) rfl), (hg_m1 1 (by decide +kernel) rfl), by decide +kernel, by decide⟩
theorem ss_RX4_115 : hg_Ss RX4 115 yX4_isFigure cX4_isFigure 1 (some .boolean) 1 := ⟨(hg_m2 59 (by decide +kernel) rfl), (hg_m2 57 (by decide +kernel) rfl), (hg_m2 58 (by decide +kernel) rfl), (hg_m1 2 (by decide +kernel) rfl), by decide +kernel, by decide⟩
theorem kl_RX4_122 : Cond.constantLong RX4 122 (10 : Int64) ∈ hg_tbl := (hg_m2 64 (by decide +kernel) rfl)
theorem kl_RX4_124 : Cond.constantLong RX4 124 (2147483648 : Int64) ∈ hg_tbl := (hg_m2 65 (by decide +kernel) rfl)
theorem mn_RX4_126 : Cond.methodLink RX4 126 Lib.MathLoose.min_long.x ∈ hg_tbl := (hg_m2 66 (by decide +kernel) rfl)
theorem sv_RX4_111 : hg_Sv RX4 111 RX3 yX3_putValue cX3_putValue 4 none 3 := ⟨(hg_m2 56 (by decide +kernel) rfl), (hg_m2 53 (by decide +kernel) rfl), (hg_m2 54 (by decide +kernel) rfl), (hg_m2 55 (by decide +kernel) rfl), (hg_m1 3 (by decide +kernel) rfl), by decide +kernel, by decide⟩
theorem fl_RX2_96 : hg_Fl RX2 96 3 6 9 := ⟨RX3, RX3, TX3, inT_3, (hg_m1 66 (by decide +kernel) rfl), rfl, rfl, by decide⟩
theorem fl_RX2_99 : hg_Fl RX2 99 3 7 9 := ⟨RX3, RX3, TX3, inT_3, (hg_m1 69 (by decide +kernel) rfl), rfl, rfl, by decide⟩
theorem sv_RX2_110 : hg_Sv RX2 110 RX2 yX2_valueRegister cX2_valueRegister 3 (some .int) 2 := ⟨(hg_m3 190 (by decide +kernel) rfl), (hg_m3 187 (by decide +kernel) rfl), (hg_m3 189 (by decide +kernel) rfl), (hg_p3 (y := yX2_valueRegister) 0 (by decide +kernel)), (hg_m1 4 (by decide +kernel) rfl), by decide +kernel, by decide⟩
theorem fl_RX2_113 : hg_Fl RX2 113 3 3 9 := ⟨RX3, RX3, TX3, inT_3, (hg_m1 54 (by decide +kernel) rfl), rfl, rfl, by decide⟩
theorem fl_RX2_116 : hg_Fl RX2 116 3 2 9 := ⟨RX3, RX3, TX3, inT_3, (hg_m1 51 (by decide +kernel) rfl), rfl, rfl, by decide⟩
theorem sn_RX2_148 : hg_Sn RX2 148 "GuardedMoves" yX5_divides cX5_divides 1 (some .boolean) 1 := ⟨(hg_m2 165 (by decide +kernel) rfl), (hg_w3 237 (by decide +kernel) rfl), (hg_m2 164 (by decide +kernel) rfl), (hg_m1 1 (by decide +kernel) rfl), by decide +kernel, by decide⟩
theorem sv_RX2_140 : hg_Sv RX2 140 RX2 yX2_harmless cX2_harmless 5 (some .int) 3 := ⟨(hg_m4 1 (by decide +kernel) rfl), (hg_m3 238 (by decide +kernel) rfl), (hg_m4 0 (by decide +kernel) rfl), (hg_p3 (y := yX2_harmless) 9 (by decide +kernel)), (hg_m1 4 (by decide +kernel) rfl), by decide +kernel, by decide⟩
theorem sn_RX2_152 : hg_Sn RX2 152 "GuardedMoves" yX5_isWord cX5_isWord 1 (some .boolean) 1 := ⟨(hg_m2 238 (by decide +kernel) rfl), (hg_w4 5 (by decide +kernel) rfl), (hg_m2 237 (by decide +kernel) rfl), (hg_m1 1 (by decide +kernel) rfl), by decide +kernel, by decide⟩
theorem sn_RX1_131 : hg_Sn RX1 131 "GuardedMoves" yX5_divides cX5_divides 1 (some .boolean) 1 := ⟨(hg_m2 165 (by decide +kernel) rfl), (hg_w2 227 (by decide +kernel) rfl), (hg_m2 164 (by decide +kernel) rfl), (hg_m1 1 (by decide +kernel) rfl), by decide +kernel, by decide⟩
theorem sv_RX1_135 : hg_Sv RX1 135 RX1 yX1_end cX1_end 3 none 2 := ⟨(hg_m2 231 (by decide +kernel) rfl), (hg_m2 228 (by decide +kernel) rfl), (hg_m2 230 (by decide +kernel) rfl), (hg_p2 (y := yX1_end) 6 (by decide +kernel)), (hg_m1 6 (by decide +kernel) rfl), by decide +kernel, by decide⟩
theorem sn_RX1_82 : hg_Sn RX1 82 "GuardedMoves" yX5_resultOf cX5_resultOf 3 (some .int) 3 := ⟨(hg_m2 218 (by decide +kernel) rfl), (hg_w2 216 (by decide +kernel) rfl), (hg_m2 217 (by decide +kernel) rfl), (hg_m1 1 (by decide +kernel) rfl), by decide +kernel, by decide⟩
theorem sn_RX1_138 : hg_Sn RX1 138 "GuardedMoves" yX5_isWord cX5_isWord 1 (some .boolean) 1 := ⟨(hg_m2 238 (by decide +kernel) rfl), (hg_w2 236 (by decide +kernel) rfl), (hg_m2 237 (by decide +kernel) rfl), (hg_m1 1 (by decide +kernel) rfl), by decide +kernel, by decide⟩
theorem fl_RX1_15 : hg_Fl RX1 15 1 1 7 := ⟨RX1, RX1, TX1, inT_1, (hg_m1 202 (by decide +kernel) rfl), rfl, rfl, by decide⟩
theorem ss_RX4_69 : hg_Ss RX4 69 yX4_isVariable cX4_isVariable 1 (some .boolean) 1 := ⟨(hg_m2 40 (by decide +kernel) rfl), (hg_m2 38 (by decide +kernel) rfl), (hg_m2 39 (by decide +kernel) rfl), (hg_m1 2 (by decide +kernel) rfl), by decide +kernel, by decide⟩
theorem sv_RX4_118 : hg_Sv RX4 118 RX4 yX4_takeNumber cX4_takeNumber 6 (some .boolean) 2 := ⟨(hg_m2 63 (by decide +kernel) rfl), (hg_m2 60 (by decide +kernel) rfl), (hg_m2 62 (by decide +kernel) rfl), (hg_p1 (y := yX4_takeNumber) 6 (by decide +kernel)), (hg_m1 2 (by decide +kernel) rfl), by decide +kernel, by decide⟩
theorem ss_RX2_137 : hg_Ss RX2 137 yX2_isSurelyWord cX2_isSurelyWord 2 (some .boolean) 2 := ⟨(hg_m4 4 (by decide +kernel) rfl), (hg_m4 2 (by decide +kernel) rfl), (hg_m4 3 (by decide +kernel) rfl), (hg_m1 4 (by decide +kernel) rfl), by decide +kernel, by decide⟩
theorem sv_RX2_144 : hg_Sv RX2 144 RX2 yX2_guardedWrite cX2_guardedWrite 5 none 2 := ⟨(hg_m4 9 (by decide +kernel) rfl), (hg_m4 6 (by decide +kernel) rfl), (hg_m4 8 (by decide +kernel) rfl), (hg_p3 (y := yX2_guardedWrite) 10 (by decide +kernel)), (hg_m1 4 (by decide +kernel) rfl), by decide +kernel, by decide⟩
theorem sv_RX2_133 : hg_Sv RX2 133 RX2 yX2_guardedOperation cX2_guardedOperation 8 (some .int) 3 := ⟨(hg_m3 236 (by decide +kernel) rfl), (hg_m3 233 (by decide +kernel) rfl), (hg_m3 235 (by decide +kernel) rfl), (hg_p3 (y := yX2_guardedOperation) 8 (by decide +kernel)), (hg_m1 4 (by decide +kernel) rfl), by decide +kernel, by decide⟩
theorem sv_RX2_123 : hg_Sv RX2 123 RX2 yX2_testRegister cX2_testRegister 5 (some .int) 2 := ⟨(hg_m3 186 (by decide +kernel) rfl), (hg_m3 183 (by decide +kernel) rfl), (hg_m3 185 (by decide +kernel) rfl), (hg_p2 (y := yX2_testRegister) 15 (by decide +kernel)), (hg_m1 4 (by decide +kernel) rfl), by decide +kernel, by decide⟩
theorem fl_RX2_126 : hg_Fl RX2 126 3 4 9 := ⟨RX3, RX3, TX3, inT_3, (hg_m1 59 (by decide +kernel) rfl), rfl, rfl, by decide⟩
theorem sv_RX2_54 : hg_Sv RX2 54 RX2 yX2_lowerRange cX2_lowerRange 6 none 4 := ⟨(hg_m3 211 (by decide +kernel) rfl), (hg_m3 208 (by decide +kernel) rfl), (hg_m3 210 (by decide +kernel) rfl), (hg_p3 (y := yX2_lowerRange) 3 (by decide +kernel)), (hg_m1 4 (by decide +kernel) rfl), by decide +kernel, by decide⟩
theorem fp_RX2_83 : hg_Fp RX2 83 0 3 7 .int := ⟨RX0, RX0, TX0, tyX0, inT_0, (hg_m1 153 (by decide +kernel) rfl), rfl, rfl, by decide, tyX0_ok, nmX0, rfl, by decide +kernel⟩
theorem sv_RX2_129 : hg_Sv RX2 129 RX0 yX0_leadHere cX0_leadHere 2 none 1 := ⟨(hg_m3 224 (by decide +kernel) rfl), (hg_m3 221 (by decide +kernel) rfl), (hg_m3 222 (by decide +kernel) rfl), (hg_m3 223 (by decide +kernel) rfl), (hg_m1 5 (by decide +kernel) rfl), by decide +kernel, by decide⟩
theorem ac_RX2_155 : Cond.methodLink RX2 155 arraycopyName ∈ hg_tbl := (hg_m3 203 (by decide +kernel) rfl)
theorem sv_RX2_161 : hg_Sv RX2 161 RX2 yX2_guardWithin cX2_guardWithin 3 (some .int) 2 := ⟨(hg_m3 207 (by decide +kernel) rfl), (hg_m3 204 (by decide +kernel) rfl), (hg_m3 206 (by decide +kernel) rfl), (hg_p3 (y := yX2_guardWithin) 2 (by decide +kernel)), (hg_m1 4 (by decide +kernel) rfl), by decide +kernel, by decide⟩
theorem sv_RX2_164 : hg_Sv RX2 164 RX2 yX2_chooseSides cX2_chooseSides 6 none 2 := ⟨(hg_m4 14 (by decide +kernel) rfl), (hg_m4 11 (by decide +kernel) rfl), (hg_m4 13 (by decide +kernel) rfl), (hg_p3 (y := yX2_chooseSides) 11 (by decide +kernel)), (hg_m1 4 (by decide +kernel) rfl), by decide +kernel, by decide⟩
theorem sv_RX2_167 : hg_Sv RX2 167 RX2 yX2_moveBack cX2_moveBack 2 none 0 := ⟨(hg_m4 18 (by decide +kernel) rfl), (hg_m4 15 (by decide +kernel) rfl), (hg_m4 17 (by decide +kernel) rfl), (hg_p3 (y := yX2_moveBack) 12 (by decide +kernel)), (hg_m1 4 (by decide +kernel) rfl), by decide +kernel, by decide⟩
theorem sv_RX2_93 : hg_Sv RX2 93 RX2 yX2_lowerGuarded cX2_lowerGuarded 7 none 2 := ⟨(hg_m3 232 (by decide +kernel) rfl), (hg_m3 229 (by decide +kernel) rfl), (hg_m3 231 (by decide +kernel) rfl), (hg_p3 (y := yX2_lowerGuarded) 7 (by decide +kernel)), (hg_m1 4 (by decide +kernel) rfl), by decide +kernel, by decide⟩
theorem sv_RX2_89 : hg_Sv RX2 89 RX2 yX2_lowerPlainly cX2_lowerPlainly 5 none 2 := ⟨(hg_m3 228 (by decide +kernel) rfl), (hg_m3 225 (by decide +kernel) rfl), (hg_m3 227 (by decide +kernel) rfl), (hg_p3 (y := yX2_lowerPlainly) 6 (by decide +kernel)), (hg_m1 4 (by decide +kernel) rfl), by decide +kernel, by decide⟩
theorem sv_RX2_86 : hg_Sv RX2 86 RX2 yX2_lowerWithJumps cX2_lowerWithJumps 6 none 3 := ⟨(hg_m3 219 (by decide +kernel) rfl), (hg_m3 216 (by decide +kernel) rfl), (hg_m3 218 (by decide +kernel) rfl), (hg_p3 (y := yX2_lowerWithJumps) 5 (by decide +kernel)), (hg_m1 4 (by decide +kernel) rfl), by decide +kernel, by decide⟩
theorem sv_RX2_67 : hg_Sv RX2 67 RX2 yX2_convert cX2_convert 7 none 3 := ⟨(hg_m3 182 (by decide +kernel) rfl), (hg_m3 179 (by decide +kernel) rfl), (hg_m3 181 (by decide +kernel) rfl), (hg_p2 (y := yX2_convert) 14 (by decide +kernel)), (hg_m1 4 (by decide +kernel) rfl), by decide +kernel, by decide⟩
theorem sv_RX2_74 : hg_Sv RX2 74 RX2 yX2_lowerOne cX2_lowerOne 4 none 3 := ⟨(hg_m3 215 (by decide +kernel) rfl), (hg_m3 212 (by decide +kernel) rfl), (hg_m3 214 (by decide +kernel) rfl), (hg_p3 (y := yX2_lowerOne) 4 (by decide +kernel)), (hg_m1 4 (by decide +kernel) rfl), by decide +kernel, by decide⟩
theorem mx_RX2_77 : Cond.methodLink RX2 77 Lib.Math.max.name ∈ hg_tbl := (hg_m4 10 (by decide +kernel) rfl)
theorem fl_RX4_91 : hg_Fl RX4 91 3 0 9 := ⟨RX3, RX3, TX3, inT_3, (hg_m1 45 (by decide +kernel) rfl), rfl, rfl, by decide⟩
theorem sv_RX4_94 : hg_Sv RX4 94 RX4 yX4_takeValue cX4_takeValue 4 (some .boolean) 1 := ⟨(hg_m2 52 (by decide +kernel) rfl), (hg_m2 49 (by decide +kernel) rfl), (hg_m2 51 (by decide +kernel) rfl), (hg_p1 (y := yX4_takeValue) 5 (by decide +kernel)), (hg_m1 2 (by decide +kernel) rfl), by decide +kernel, by decide⟩
theorem sv_RX4_97 : hg_Sv RX4 97 RX4 yX4_takeByte cX4_takeByte 2 (some .boolean) 1 := ⟨(hg_m2 72 (by decide +kernel) rfl), (hg_m2 69 (by decide +kernel) rfl), (hg_m2 71 (by decide +kernel) rfl), (hg_p1 (y := yX4_takeByte) 7 (by decide +kernel)), (hg_m1 2 (by decide +kernel) rfl), by decide +kernel, by decide⟩
theorem sv_RX2_51 : hg_Sv RX2 51 RX2 yX2_beginCode cX2_beginCode 2 none 0 := ⟨(hg_m3 174 (by decide +kernel) rfl), (hg_m3 171 (by decide +kernel) rfl), (hg_m3 173 (by decide +kernel) rfl), (hg_p2 (y := yX2_beginCode) 13 (by decide +kernel)), (hg_m1 4 (by decide +kernel) rfl), by decide +kernel, by decide⟩
theorem fl_RX2_71 : hg_Fl RX2 71 0 1 7 := ⟨RX0, RX0, TX0, inT_0, (hg_m1 147 (by decide +kernel) rfl), rfl, rfl, by decide⟩
theorem sv_RX1_78 : hg_Sv RX1 78 RX1 yX1_valueOf cX1_valueOf 3 (some .int) 2 := ⟨(hg_m2 215 (by decide +kernel) rfl), (hg_m2 212 (by decide +kernel) rfl), (hg_m2 214 (by decide +kernel) rfl), (hg_p2 (y := yX1_valueOf) 3 (by decide +kernel)), (hg_m1 6 (by decide +kernel) rfl), by decide +kernel, by decide⟩
theorem fl_RX1_55 : hg_Fl RX1 55 3 0 9 := ⟨RX3, RX3, TX3, inT_3, (hg_m1 42 (by decide +kernel) rfl), rfl, rfl, by decide⟩
theorem sv_RX1_110 : hg_Sv RX1 110 RX1 yX1_say cX1_say 2 none 1 := ⟨(hg_m3 6 (by decide +kernel) rfl), (hg_m3 3 (by decide +kernel) rfl), (hg_m3 5 (by decide +kernel) rfl), (hg_p2 (y := yX1_say) 9 (by decide +kernel)), (hg_m1 6 (by decide +kernel) rfl), by decide +kernel, by decide⟩
theorem fl_RX1_96 : hg_Fl RX1 96 3 2 9 := ⟨RX3, RX3, TX3, inT_3, (hg_m1 49 (by decide +kernel) rfl), rfl, rfl, by decide⟩
theorem fl_RX1_75 : hg_Fl RX1 75 3 3 9 := ⟨RX3, RX3, TX3, inT_3, (hg_m1 53 (by decide +kernel) rfl), rfl, rfl, by decide⟩
theorem sv_RX1_99 : hg_Sv RX1 99 RX1 yX1_reach cX1_reach 6 none 5 := ⟨(hg_m2 226 (by decide +kernel) rfl), (hg_m2 223 (by decide +kernel) rfl), (hg_m2 225 (by decide +kernel) rfl), (hg_p2 (y := yX1_reach) 5 (by decide +kernel)), (hg_m1 6 (by decide +kernel) rfl), by decide +kernel, by decide⟩
theorem sv_RX1_103 : hg_Sv RX1 103 RX1 yX1_load cX1_load 4 none 3 := ⟨(hg_m2 235 (by decide +kernel) rfl), (hg_m2 232 (by decide +kernel) rfl), (hg_m2 234 (by decide +kernel) rfl), (hg_p2 (y := yX1_load) 7 (by decide +kernel)), (hg_m1 6 (by decide +kernel) rfl), by decide +kernel, by decide⟩
theorem sv_RX1_107 : hg_Sv RX1 107 RX1 yX1_store cX1_store 4 none 3 := ⟨(hg_m3 2 (by decide +kernel) rfl), (hg_m2 239 (by decide +kernel) rfl), (hg_m3 1 (by decide +kernel) rfl), (hg_p2 (y := yX1_store) 8 (by decide +kernel)), (hg_m1 6 (by decide +kernel) rfl), by decide +kernel, by decide⟩
theorem fl_RX2_38 : hg_Fl RX2 38 3 8 9 := ⟨RX3, RX3, TX3, inT_3, (hg_m1 72 (by decide +kernel) rfl), rfl, rfl, by decide⟩
theorem sv_RX2_43 : hg_Sv RX2 43 RX2 yX2_mayConvert cX2_mayConvert 5 (some .boolean) 2 := ⟨(hg_m3 166 (by decide +kernel) rfl), (hg_m3 163 (by decide +kernel) rfl), (hg_m3 165 (by decide +kernel) rfl), (hg_p2 (y := yX2_mayConvert) 11 (by decide +kernel)), (hg_m1 4 (by decide +kernel) rfl), by decide +kernel, by decide⟩
theorem sv_RX2_47 : hg_Sv RX2 47 RX2 yX2_stepsAlone cX2_stepsAlone 3 (some .int) 2 := ⟨(hg_m3 170 (by decide +kernel) rfl), (hg_m3 167 (by decide +kernel) rfl), (hg_m3 169 (by decide +kernel) rfl), (hg_p2 (y := yX2_stepsAlone) 12 (by decide +kernel)), (hg_m1 4 (by decide +kernel) rfl), by decide +kernel, by decide⟩
theorem fl_RX1_86 : hg_Fl RX1 86 3 4 9 := ⟨RX3, RX3, TX3, inT_3, (hg_m1 57 (by decide +kernel) rfl), rfl, rfl, by decide⟩
theorem fl_RX1_66 : hg_Fl RX1 66 3 5 9 := ⟨RX3, RX3, TX3, inT_3, (hg_m1 61 (by decide +kernel) rfl), rfl, rfl, by decide⟩
theorem sv_RX1_51 : hg_Sv RX1 51 RX1 yX1_doRange cX1_doRange 6 none 4 := ⟨(hg_m2 207 (by decide +kernel) rfl), (hg_m2 204 (by decide +kernel) rfl), (hg_m2 206 (by decide +kernel) rfl), (hg_p2 (y := yX1_doRange) 1 (by decide +kernel)), (hg_m1 6 (by decide +kernel) rfl), by decide +kernel, by decide⟩
theorem fl_RX1_25 : hg_Fl RX1 25 1 4 7 := ⟨RX1, RX1, TX1, inT_1, (hg_m1 208 (by decide +kernel) rfl), rfl, rfl, by decide⟩
theorem fl_RX1_31 : hg_Fl RX1 31 1 6 7 := ⟨RX1, RX1, TX1, inT_1, (hg_m1 212 (by decide +kernel) rfl), rfl, rfl, by decide⟩
theorem fp_RX1_31 : hg_Fp RX1 31 1 6 7 .int := ⟨RX1, RX1, TX1, tyX1, inT_1, (hg_m1 212 (by decide +kernel) rfl), rfl, rfl, by decide, tyX1_ok, nmX1, rfl, by decide +kernel⟩
theorem sv_RX1_62 : hg_Sv RX1 62 RX1 yX1_doSimple cX1_doSimple 4 none 2 := ⟨(hg_m2 222 (by decide +kernel) rfl), (hg_m2 219 (by decide +kernel) rfl), (hg_m2 221 (by decide +kernel) rfl), (hg_p2 (y := yX1_doSimple) 4 (by decide +kernel)), (hg_m1 6 (by decide +kernel) rfl), by decide +kernel, by decide⟩
theorem sv_RX1_58 : hg_Sv RX1 58 RX1 yX1_doBranch cX1_doBranch 4 none 3 := ⟨(hg_m2 211 (by decide +kernel) rfl), (hg_m2 208 (by decide +kernel) rfl), (hg_m2 210 (by decide +kernel) rfl), (hg_p2 (y := yX1_doBranch) 2 (by decide +kernel)), (hg_m1 6 (by decide +kernel) rfl), by decide +kernel, by decide⟩
theorem mx_RX1_69 : Cond.methodLink RX1 69 Lib.Math.max.name ∈ hg_tbl := (hg_m3 7 (by decide +kernel) rfl)
theorem fl_RX1_46 : hg_Fl RX1 46 3 8 9 := ⟨RX3, RX3, TX3, inT_3, (hg_m1 71 (by decide +kernel) rfl), rfl, rfl, by decide⟩
theorem fl_RX1_114 : hg_Fl RX1 114 0 1 7 := ⟨RX0, RX0, TX0, inT_0, (hg_m1 148 (by decide +kernel) rfl), rfl, rfl, by decide⟩
theorem sv_RX1_119 : hg_Sv RX1 119 RX1 yX1_nextBehind cX1_nextBehind 4 (some .int) 2 := ⟨(hg_m4 43 (by decide +kernel) rfl), (hg_m4 40 (by decide +kernel) rfl), (hg_m4 42 (by decide +kernel) rfl), (hg_p3 (y := yX1_nextBehind) 13 (by decide +kernel)), (hg_m1 6 (by decide +kernel) rfl), by decide +kernel, by decide⟩
theorem sv_RX1_123 : hg_Sv RX1 123 RX1 yX1_doStep cX1_doStep 7 none 2 := ⟨(hg_m4 47 (by decide +kernel) rfl), (hg_m4 44 (by decide +kernel) rfl), (hg_m4 46 (by decide +kernel) rfl), (hg_p3 (y := yX1_doStep) 14 (by decide +kernel)), (hg_m1 6 (by decide +kernel) rfl), by decide +kernel, by decide⟩
theorem fl_RX6_102 : hg_Fl RX6 102 6 0 45 := ⟨RX6, RX6, TX6, inT_6, (hg_m4 92 (by decide +kernel) rfl), rfl, rfl, by decide⟩
theorem fp_RX6_102 : hg_Fp RX6 102 6 0 45 .int := ⟨RX6, RX6, TX6, tyX6, inT_6, (hg_m4 92 (by decide +kernel) rfl), rfl, rfl, by decide, tyX6_ok, nmX6, rfl, by decide +kernel⟩
theorem kl_RX6_105 : Cond.constantLong RX6 105 (15 : Int64) ∈ hg_tbl := (hg_m4 236 (by decide +kernel) rfl)
theorem ss_RX6_107 : hg_Ss RX6 107 yX6_isIn cX6_isIn 6 (some .boolean) 3 := ⟨(hg_m4 239 (by decide +kernel) rfl), (hg_m4 237 (by decide +kernel) rfl), (hg_m4 238 (by decide +kernel) rfl), (hg_m1 7 (by decide +kernel) rfl), by decide +kernel, by decide⟩
theorem sv_RX6_111 : hg_Sv RX6 111 RX6 yX6_may cX6_may 3 (some .boolean) 2 := ⟨(hg_m5 3 (by decide +kernel) rfl), (hg_m5 0 (by decide +kernel) rfl), (hg_m5 2 (by decide +kernel) rfl), (hg_p3 (y := yX6_may) 15 (by decide +kernel)), (hg_m1 7 (by decide +kernel) rfl), by decide +kernel, by decide⟩
theorem fl_RX6_7 : hg_Fl RX6 7 6 1 45 := ⟨RX6, RX6, TX6, inT_6, (hg_m4 93 (by decide +kernel) rfl), rfl, rfl, by decide⟩
theorem kl_RX6_115 : Cond.constantLong RX6 115 (31 : Int64) ∈ hg_tbl := (hg_m5 8 (by decide +kernel) rfl)
theorem fl_RX6_13 : hg_Fl RX6 13 6 2 45 := ⟨RX6, RX6, TX6, inT_6, (hg_m4 94 (by decide +kernel) rfl), rfl, rfl, by decide⟩
theorem kl_RX6_117 : Cond.constantLong RX6 117 (8 : Int64) ∈ hg_tbl := (hg_m5 13 (by decide +kernel) rfl)
theorem fl_RX6_119 : hg_Fl RX6 119 6 4 45 := ⟨RX6, RX6, TX6, inT_6, (hg_m4 96 (by decide +kernel) rfl), rfl, rfl, by decide⟩
theorem fl_RX6_16 : hg_Fl RX6 16 6 3 45 := ⟨RX6, RX6, TX6, inT_6, (hg_m4 95 (by decide +kernel) rfl), rfl, rfl, by decide⟩
theorem kl_RX6_122 : Cond.constantLong RX6 122 (255 : Int64) ∈ hg_tbl := (hg_m5 14 (by decide +kernel) rfl)
theorem fp_RX6_119 : hg_Fp RX6 119 6 4 45 .int := ⟨RX6, RX6, TX6, tyX6, inT_6, (hg_m4 96 (by decide +kernel) rfl), rfl, rfl, by decide, tyX6_ok, nmX6, rfl, by decide +kernel⟩
theorem fl_RX6_124 : hg_Fl RX6 124 6 6 45 := ⟨RX6, RX6, TX6, inT_6, (hg_m4 98 (by decide +kernel) rfl), rfl, rfl, by decide⟩
theorem fp_RX6_124 : hg_Fp RX6 124 6 6 45 .int := ⟨RX6, RX6, TX6, tyX6, inT_6, (hg_m4 98 (by decide +kernel) rfl), rfl, rfl, by decide, tyX6_ok, nmX6, rfl, by decide +kernel⟩
theorem fp_RX6_127 : hg_Fp RX6 127 6 7 45 .int := ⟨RX6, RX6, TX6, tyX6, inT_6, (hg_m4 99 (by decide +kernel) rfl), rfl, rfl, by decide, tyX6_ok, nmX6, rfl, by decide +kernel⟩
theorem fl_RX6_130 : hg_Fl RX6 130 6 5 45 := ⟨RX6, RX6, TX6, inT_6, (hg_m4 97 (by decide +kernel) rfl), rfl, rfl, by decide⟩
theorem fp_RX6_130 : hg_Fp RX6 130 6 5 45 .int := ⟨RX6, RX6, TX6, tyX6, inT_6, (hg_m4 97 (by decide +kernel) rfl), rfl, rfl, by decide, tyX6_ok, nmX6, rfl, by decide +kernel⟩
theorem sv_RX6_133 : hg_Sv RX6 133 RX6 yX6_next cX6_next 1 (some .int) 0 := ⟨(hg_m5 22 (by decide +kernel) rfl), (hg_m5 19 (by decide +kernel) rfl), (hg_m5 21 (by decide +kernel) rfl), (hg_p4 (y := yX6_next) 0 (by decide +kernel)), (hg_m1 7 (by decide +kernel) rfl), by decide +kernel, by decide⟩
theorem sv_RX6_137 : hg_Sv RX6 137 RX6 yX6_fail cX6_fail 3 none 2 := ⟨(hg_m5 37 (by decide +kernel) rfl), (hg_m5 34 (by decide +kernel) rfl), (hg_m5 36 (by decide +kernel) rfl), (hg_p4 (y := yX6_fail) 3 (by decide +kernel)), (hg_m1 7 (by decide +kernel) rfl), by decide +kernel, by decide⟩
theorem ss_RX6_141 : hg_Ss RX6 141 yX6_isFigure cX6_isFigure 1 (some .boolean) 1 := ⟨(hg_m5 56 (by decide +kernel) rfl), (hg_m5 54 (by decide +kernel) rfl), (hg_m5 55 (by decide +kernel) rfl), (hg_m1 7 (by decide +kernel) rfl), by decide +kernel, by decide⟩
theorem kl_RX6_145 : Cond.constantLong RX6 145 (4000000000 : Int64) ∈ hg_tbl := (hg_m5 57 (by decide +kernel) rfl)
theorem kl_RX6_147 : Cond.constantLong RX6 147 (10 : Int64) ∈ hg_tbl := (hg_m5 58 (by decide +kernel) rfl)
theorem kl_RX6_149 : Cond.constantLong RX6 149 (48 : Int64) ∈ hg_tbl := (hg_m5 59 (by decide +kernel) rfl)
theorem kl_RX6_151 : Cond.constantLong RX6 151 (2147483647 : Int64) ∈ hg_tbl := (hg_m5 60 (by decide +kernel) rfl)
theorem fl_RX6_19 : hg_Fl RX6 19 6 10 45 := ⟨RX6, RX6, TX6, inT_6, (hg_m4 102 (by decide +kernel) rfl), rfl, rfl, by decide⟩
theorem ss_RX6_153 : hg_Ss RX6 153 yX6_isVariable cX6_isVariable 1 (some .boolean) 1 := ⟨(hg_m5 33 (by decide +kernel) rfl), (hg_m5 31 (by decide +kernel) rfl), (hg_m5 32 (by decide +kernel) rfl), (hg_m1 7 (by decide +kernel) rfl), by decide +kernel, by decide⟩
theorem sv_RX6_156 : hg_Sv RX6 156 RX6 yX6_readNumber cX6_readNumber 7 none 3 := ⟨(hg_m5 53 (by decide +kernel) rfl), (hg_m5 50 (by decide +kernel) rfl), (hg_m5 52 (by decide +kernel) rfl), (hg_p4 (y := yX6_readNumber) 7 (by decide +kernel)), (hg_m1 7 (by decide +kernel) rfl), by decide +kernel, by decide⟩
theorem sv_RX6_160 : hg_Sv RX6 160 RX6 yX6_take cX6_take 2 none 1 := ⟨(hg_m5 45 (by decide +kernel) rfl), (hg_m5 42 (by decide +kernel) rfl), (hg_m5 44 (by decide +kernel) rfl), (hg_p4 (y := yX6_take) 5 (by decide +kernel)), (hg_m1 7 (by decide +kernel) rfl), by decide +kernel, by decide⟩
theorem sv_RX6_164 : hg_Sv RX6 164 RX6 yX6_readValue cX6_readValue 5 none 2 := ⟨(hg_m5 49 (by decide +kernel) rfl), (hg_m5 46 (by decide +kernel) rfl), (hg_m5 48 (by decide +kernel) rfl), (hg_p4 (y := yX6_readValue) 6 (by decide +kernel)), (hg_m1 7 (by decide +kernel) rfl), by decide +kernel, by decide⟩
theorem ss_RX6_167 : hg_Ss RX6 167 yX6_opOf cX6_opOf 1 (some .int) 1 := ⟨(hg_m5 63 (by decide +kernel) rfl), (hg_m5 61 (by decide +kernel) rfl), (hg_m5 62 (by decide +kernel) rfl), (hg_m1 7 (by decide +kernel) rfl), by decide +kernel, by decide⟩
theorem ss_RX6_171 : hg_Ss RX6 171 yX6_relOf cX6_relOf 1 (some .int) 1 := ⟨(hg_m5 70 (by decide +kernel) rfl), (hg_m5 68 (by decide +kernel) rfl), (hg_m5 69 (by decide +kernel) rfl), (hg_m1 7 (by decide +kernel) rfl), by decide +kernel, by decide⟩
theorem fl_RX6_174 : hg_Fl RX6 174 6 8 45 := ⟨RX6, RX6, TX6, inT_6, (hg_m4 100 (by decide +kernel) rfl), rfl, rfl, by decide⟩
theorem fl_RX6_177 : hg_Fl RX6 177 6 18 45 := ⟨RX6, RX6, TX6, inT_6, (hg_m4 110 (by decide +kernel) rfl), rfl, rfl, by decide⟩
theorem fp_RX6_174 : hg_Fp RX6 174 6 8 45 .int := ⟨RX6, RX6, TX6, tyX6, inT_6, (hg_m4 100 (by decide +kernel) rfl), rfl, rfl, by decide, tyX6_ok, nmX6, rfl, by decide +kernel⟩
theorem fl_RX6_25 : hg_Fl RX6 25 6 12 45 := ⟨RX6, RX6, TX6, inT_6, (hg_m4 104 (by decide +kernel) rfl), rfl, rfl, by decide⟩
theorem fl_RX6_28 : hg_Fl RX6 28 6 13 45 := ⟨RX6, RX6, TX6, inT_6, (hg_m4 105 (by decide +kernel) rfl), rfl, rfl, by decide⟩
theorem sv_RX6_183 : hg_Sv RX6 183 RX6 yX6_readTest cX6_readTest 3 none 1 := ⟨(hg_m5 67 (by decide +kernel) rfl), (hg_m5 64 (by decide +kernel) rfl), (hg_m5 66 (by decide +kernel) rfl), (hg_p4 (y := yX6_readTest) 8 (by decide +kernel)), (hg_m1 7 (by decide +kernel) rfl), by decide +kernel, by decide⟩
theorem fl_RX6_37 : hg_Fl RX6 37 6 16 45 := ⟨RX6, RX6, TX6, inT_6, (hg_m4 108 (by decide +kernel) rfl), rfl, rfl, by decide⟩
theorem fl_RX6_40 : hg_Fl RX6 40 6 17 45 := ⟨RX6, RX6, TX6, inT_6, (hg_m4 109 (by decide +kernel) rfl), rfl, rfl, by decide⟩
theorem fp_RX6_177 : hg_Fp RX6 177 6 18 45 .int := ⟨RX6, RX6, TX6, tyX6, inT_6, (hg_m4 110 (by decide +kernel) rfl), rfl, rfl, by decide, tyX6_ok, nmX6, rfl, by decide +kernel⟩
theorem sv_RX6_180 : hg_Sv RX6 180 RX6 yX6_readSet cX6_readSet 3 none 1 := ⟨(hg_m5 41 (by decide +kernel) rfl), (hg_m5 38 (by decide +kernel) rfl), (hg_m5 40 (by decide +kernel) rfl), (hg_p4 (y := yX6_readSet) 4 (by decide +kernel)), (hg_m1 7 (by decide +kernel) rfl), by decide +kernel, by decide⟩
theorem sv_RX6_186 : hg_Sv RX6 186 RX6 yX6_closeSide cX6_closeSide 2 none 0 := ⟨(hg_m5 26 (by decide +kernel) rfl), (hg_m5 23 (by decide +kernel) rfl), (hg_m5 25 (by decide +kernel) rfl), (hg_p4 (y := yX6_closeSide) 1 (by decide +kernel)), (hg_m1 7 (by decide +kernel) rfl), by decide +kernel, by decide⟩
theorem sv_RX6_189 : hg_Sv RX6 189 RX6 yX6_readStatement cX6_readStatement 5 none 1 := ⟨(hg_m5 30 (by decide +kernel) rfl), (hg_m5 27 (by decide +kernel) rfl), (hg_m5 29 (by decide +kernel) rfl), (hg_p4 (y := yX6_readStatement) 2 (by decide +kernel)), (hg_m1 7 (by decide +kernel) rfl), by decide +kernel, by decide⟩
theorem fp_RX6_192 : hg_Fp RX6 192 6 9 45 .int := ⟨RX6, RX6, TX6, tyX6, inT_6, (hg_m4 101 (by decide +kernel) rfl), rfl, rfl, by decide, tyX6_ok, nmX6, rfl, by decide +kernel⟩
theorem fl_RX6_127 : hg_Fl RX6 127 6 7 45 := ⟨RX6, RX6, TX6, inT_6, (hg_m4 99 (by decide +kernel) rfl), rfl, rfl, by decide⟩
theorem fl_RX6_22 : hg_Fl RX6 22 6 11 45 := ⟨RX6, RX6, TX6, inT_6, (hg_m4 103 (by decide +kernel) rfl), rfl, rfl, by decide⟩
theorem fp_RX6_195 : hg_Fp RX6 195 6 22 45 .boolean := ⟨RX6, RX6, TX6, tyX6, inT_6, (hg_m4 114 (by decide +kernel) rfl), rfl, rfl, by decide, tyX6_ok, nmX6, rfl, by decide +kernel⟩
theorem fp_RX6_199 : hg_Fp RX6 199 6 20 45 .int := ⟨RX6, RX6, TX6, tyX6, inT_6, (hg_m4 112 (by decide +kernel) rfl), rfl, rfl, by decide, tyX6_ok, nmX6, rfl, by decide +kernel⟩
theorem fp_RX6_47 : hg_Fp RX6 47 6 21 45 .int := ⟨RX6, RX6, TX6, tyX6, inT_6, (hg_m4 113 (by decide +kernel) rfl), rfl, rfl, by decide, tyX6_ok, nmX6, rfl, by decide +kernel⟩
theorem fl_RX6_192 : hg_Fl RX6 192 6 9 45 := ⟨RX6, RX6, TX6, inT_6, (hg_m4 101 (by decide +kernel) rfl), rfl, rfl, by decide⟩
theorem fl_RX6_31 : hg_Fl RX6 31 6 14 45 := ⟨RX6, RX6, TX6, inT_6, (hg_m4 106 (by decide +kernel) rfl), rfl, rfl, by decide⟩
theorem fl_RX6_34 : hg_Fl RX6 34 6 15 45 := ⟨RX6, RX6, TX6, inT_6, (hg_m4 107 (by decide +kernel) rfl), rfl, rfl, by decide⟩
theorem fl_RX6_51 : hg_Fl RX6 51 6 23 45 := ⟨RX6, RX6, TX6, inT_6, (hg_m4 115 (by decide +kernel) rfl), rfl, rfl, by decide⟩
theorem fl_RX6_199 : hg_Fl RX6 199 6 20 45 := ⟨RX6, RX6, TX6, inT_6, (hg_m4 112 (by decide +kernel) rfl), rfl, rfl, by decide⟩
theorem fl_RX6_44 : hg_Fl RX6 44 6 19 45 := ⟨RX6, RX6, TX6, inT_6, (hg_m4 111 (by decide +kernel) rfl), rfl, rfl, by decide⟩
theorem fl_RX6_202 : hg_Fl RX6 202 6 24 45 := ⟨RX6, RX6, TX6, inT_6, (hg_m4 116 (by decide +kernel) rfl), rfl, rfl, by decide⟩
theorem fl_RX6_47 : hg_Fl RX6 47 6 21 45 := ⟨RX6, RX6, TX6, inT_6, (hg_m4 113 (by decide +kernel) rfl), rfl, rfl, by decide⟩
theorem sv_RX6_205 : hg_Sv RX6 205 RX6 yX6_fresh1 cX6_fresh1 1 (some .int) 0 := ⟨(hg_m5 99 (by decide +kernel) rfl), (hg_m5 96 (by decide +kernel) rfl), (hg_m5 98 (by decide +kernel) rfl), (hg_p4 (y := yX6_fresh1) 13 (by decide +kernel)), (hg_m1 7 (by decide +kernel) rfl), by decide +kernel, by decide⟩
theorem sv_RX6_208 : hg_Sv RX6 208 RX6 yX6_emit cX6_emit 7 (some .int) 5 := ⟨(hg_m5 103 (by decide +kernel) rfl), (hg_m5 100 (by decide +kernel) rfl), (hg_m5 102 (by decide +kernel) rfl), (hg_p4 (y := yX6_emit) 14 (by decide +kernel)), (hg_m1 7 (by decide +kernel) rfl), by decide +kernel, by decide⟩
theorem sv_RX6_212 : hg_Sv RX6 212 RX6 yX6_of cX6_of 3 (some .int) 2 := ⟨(hg_m5 83 (by decide +kernel) rfl), (hg_m5 80 (by decide +kernel) rfl), (hg_m5 82 (by decide +kernel) rfl), (hg_p4 (y := yX6_of) 9 (by decide +kernel)), (hg_m1 7 (by decide +kernel) rfl), by decide +kernel, by decide⟩
theorem sv_RX6_216 : hg_Sv RX6 216 RX6 yX6_setNew cX6_setNew 4 (some .int) 1 := ⟨(hg_m5 115 (by decide +kernel) rfl), (hg_m5 112 (by decide +kernel) rfl), (hg_m5 114 (by decide +kernel) rfl), (hg_p5 (y := yX6_setNew) 1 (by decide +kernel)), (hg_m1 7 (by decide +kernel) rfl), by decide +kernel, by decide⟩
theorem fl_RX6_54 : hg_Fl RX6 54 6 25 45 := ⟨RX6, RX6, TX6, inT_6, (hg_m4 117 (by decide +kernel) rfl), rfl, rfl, by decide⟩
theorem fl_RX6_219 : hg_Fl RX6 219 6 26 45 := ⟨RX6, RX6, TX6, inT_6, (hg_m4 118 (by decide +kernel) rfl), rfl, rfl, by decide⟩
theorem fl_RX6_63 : hg_Fl RX6 63 6 29 45 := ⟨RX6, RX6, TX6, inT_6, (hg_m4 121 (by decide +kernel) rfl), rfl, rfl, by decide⟩
theorem fl_RX6_69 : hg_Fl RX6 69 6 31 45 := ⟨RX6, RX6, TX6, inT_6, (hg_m4 123 (by decide +kernel) rfl), rfl, rfl, by decide⟩
theorem sv_RX6_222 : hg_Sv RX6 222 RX6 yX6_value cX6_value 3 (some .int) 2 := ⟨(hg_m5 135 (by decide +kernel) rfl), (hg_m5 132 (by decide +kernel) rfl), (hg_m5 134 (by decide +kernel) rfl), (hg_p5 (y := yX6_value) 6 (by decide +kernel)), (hg_m1 7 (by decide +kernel) rfl), by decide +kernel, by decide⟩
theorem fl_RX6_57 : hg_Fl RX6 57 6 27 45 := ⟨RX6, RX6, TX6, inT_6, (hg_m4 119 (by decide +kernel) rfl), rfl, rfl, by decide⟩
theorem fl_RX6_60 : hg_Fl RX6 60 6 28 45 := ⟨RX6, RX6, TX6, inT_6, (hg_m4 120 (by decide +kernel) rfl), rfl, rfl, by decide⟩
theorem fl_RX6_66 : hg_Fl RX6 66 6 30 45 := ⟨RX6, RX6, TX6, inT_6, (hg_m4 122 (by decide +kernel) rfl), rfl, rfl, by decide⟩
theorem fl_RX6_72 : hg_Fl RX6 72 6 32 45 := ⟨RX6, RX6, TX6, inT_6, (hg_m4 124 (by decide +kernel) rfl), rfl, rfl, by decide⟩
theorem sv_RX6_225 : hg_Sv RX6 225 RX6 yX6_guarded cX6_guarded 5 (some .int) 2 := ⟨(hg_m5 119 (by decide +kernel) rfl), (hg_m5 116 (by decide +kernel) rfl), (hg_m5 118 (by decide +kernel) rfl), (hg_p5 (y := yX6_guarded) 2 (by decide +kernel)), (hg_m1 7 (by decide +kernel) rfl), by decide +kernel, by decide⟩
theorem fl_RX6_75 : hg_Fl RX6 75 6 33 45 := ⟨RX6, RX6, TX6, inT_6, (hg_m4 125 (by decide +kernel) rfl), rfl, rfl, by decide⟩
theorem fp_RX6_219 : hg_Fp RX6 219 6 26 45 .int := ⟨RX6, RX6, TX6, tyX6, inT_6, (hg_m4 118 (by decide +kernel) rfl), rfl, rfl, by decide, tyX6_ok, nmX6, rfl, by decide +kernel⟩
theorem fp_RX6_202 : hg_Fp RX6 202 6 24 45 .int := ⟨RX6, RX6, TX6, tyX6, inT_6, (hg_m4 116 (by decide +kernel) rfl), rfl, rfl, by decide, tyX6_ok, nmX6, rfl, by decide +kernel⟩
theorem fl_RX6_78 : hg_Fl RX6 78 6 34 45 := ⟨RX6, RX6, TX6, inT_6, (hg_m4 126 (by decide +kernel) rfl), rfl, rfl, by decide⟩
theorem sv_RX6_228 : hg_Sv RX6 228 RX6 yX6_isOnSide cX6_isOnSide 1 (some .boolean) 0 := ⟨(hg_m5 107 (by decide +kernel) rfl), (hg_m5 104 (by decide +kernel) rfl), (hg_m5 106 (by decide +kernel) rfl), (hg_p4 (y := yX6_isOnSide) 15 (by decide +kernel)), (hg_m1 7 (by decide +kernel) rfl), by decide +kernel, by decide⟩
theorem sv_RX6_232 : hg_Sv RX6 232 RX6 yX6_target cX6_target 3 (some .int) 1 := ⟨(hg_m5 131 (by decide +kernel) rfl), (hg_m5 128 (by decide +kernel) rfl), (hg_m5 130 (by decide +kernel) rfl), (hg_p5 (y := yX6_target) 5 (by decide +kernel)), (hg_m1 7 (by decide +kernel) rfl), by decide +kernel, by decide⟩
theorem sv_RX6_241 : hg_Sv RX6 241 RX6 yX6_isPlainIndex cX6_isPlainIndex 2 (some .boolean) 1 := ⟨(hg_m5 143 (by decide +kernel) rfl), (hg_m5 140 (by decide +kernel) rfl), (hg_m5 142 (by decide +kernel) rfl), (hg_p5 (y := yX6_isPlainIndex) 8 (by decide +kernel)), (hg_m1 7 (by decide +kernel) rfl), by decide +kernel, by decide⟩
theorem sv_RX6_238 : hg_Sv RX6 238 RX6 yX6_harmless cX6_harmless 6 (some .int) 2 := ⟨(hg_m5 139 (by decide +kernel) rfl), (hg_m5 136 (by decide +kernel) rfl), (hg_m5 138 (by decide +kernel) rfl), (hg_p5 (y := yX6_harmless) 7 (by decide +kernel)), (hg_m1 7 (by decide +kernel) rfl), by decide +kernel, by decide⟩
theorem fl_RX6_81 : hg_Fl RX6 81 6 35 45 := ⟨RX6, RX6, TX6, inT_6, (hg_m4 127 (by decide +kernel) rfl), rfl, rfl, by decide⟩
theorem sv_RX6_269 : hg_Sv RX6 269 RX6 yX6_names cX6_names 5 (some .boolean) 2 := ⟨(hg_m5 163 (by decide +kernel) rfl), (hg_m5 160 (by decide +kernel) rfl), (hg_m5 162 (by decide +kernel) rfl), (hg_p5 (y := yX6_names) 12 (by decide +kernel)), (hg_m1 7 (by decide +kernel) rfl), by decide +kernel, by decide⟩
theorem kl_RX6_278 : Cond.constantLong RX6 278 (5 : Int64) ∈ hg_tbl := (hg_m5 172 (by decide +kernel) rfl)
theorem kl_RX6_280 : Cond.constantLong RX6 280 (3 : Int64) ∈ hg_tbl := (hg_m5 177 (by decide +kernel) rfl)
theorem fl_RX6_96 : hg_Fl RX6 96 6 43 45 := ⟨RX6, RX6, TX6, inT_6, (hg_m4 135 (by decide +kernel) rfl), rfl, rfl, by decide⟩
theorem fp_RX6_282 : hg_Fp RX6 282 6 39 45 .int := ⟨RX6, RX6, TX6, tyX6, inT_6, (hg_m4 131 (by decide +kernel) rfl), rfl, rfl, by decide, tyX6_ok, nmX6, rfl, by decide +kernel⟩
theorem fp_RX6_93 : hg_Fp RX6 93 6 40 45 .int := ⟨RX6, RX6, TX6, tyX6, inT_6, (hg_m4 132 (by decide +kernel) rfl), rfl, rfl, by decide, tyX6_ok, nmX6, rfl, by decide +kernel⟩
theorem fp_RX6_285 : hg_Fp RX6 285 6 41 45 .int := ⟨RX6, RX6, TX6, tyX6, inT_6, (hg_m4 133 (by decide +kernel) rfl), rfl, rfl, by decide, tyX6_ok, nmX6, rfl, by decide +kernel⟩
theorem fp_RX6_288 : hg_Fp RX6 288 6 42 45 .int := ⟨RX6, RX6, TX6, tyX6, inT_6, (hg_m4 134 (by decide +kernel) rfl), rfl, rfl, by decide, tyX6_ok, nmX6, rfl, by decide +kernel⟩
theorem fl_RX6_87 : hg_Fl RX6 87 6 37 45 := ⟨RX6, RX6, TX6, inT_6, (hg_m4 129 (by decide +kernel) rfl), rfl, rfl, by decide⟩
theorem fl_RX6_84 : hg_Fl RX6 84 6 36 45 := ⟨RX6, RX6, TX6, inT_6, (hg_m4 128 (by decide +kernel) rfl), rfl, rfl, by decide⟩
theorem sv_RX6_291 : hg_Sv RX6 291 RX6 yX6_stop cX6_stop 3 none 2 := ⟨(hg_m5 201 (by decide +kernel) rfl), (hg_m5 198 (by decide +kernel) rfl), (hg_m5 200 (by decide +kernel) rfl), (hg_p6 (y := yX6_stop) 2 (by decide +kernel)), (hg_m1 7 (by decide +kernel) rfl), by decide +kernel, by decide⟩
theorem sv_RX6_294 : hg_Sv RX6 294 RX6 yX6_toldValue cX6_toldValue 3 (some .int) 2 := ⟨(hg_m5 193 (by decide +kernel) rfl), (hg_m5 190 (by decide +kernel) rfl), (hg_m5 192 (by decide +kernel) rfl), (hg_p6 (y := yX6_toldValue) 0 (by decide +kernel)), (hg_m1 7 (by decide +kernel) rfl), by decide +kernel, by decide⟩
theorem fl_RX6_99 : hg_Fl RX6 99 6 44 45 := ⟨RX6, RX6, TX6, inT_6, (hg_m4 136 (by decide +kernel) rfl), rfl, rfl, by decide⟩
theorem sv_RX6_297 : hg_Sv RX6 297 RX6 yX6_reach cX6_reach 7 (some .int) 4 := ⟨(hg_m5 197 (by decide +kernel) rfl), (hg_m5 194 (by decide +kernel) rfl), (hg_m5 196 (by decide +kernel) rfl), (hg_p6 (y := yX6_reach) 1 (by decide +kernel)), (hg_m1 7 (by decide +kernel) rfl), by decide +kernel, by decide⟩
theorem fl_RX6_288 : hg_Fl RX6 288 6 42 45 := ⟨RX6, RX6, TX6, inT_6, (hg_m4 134 (by decide +kernel) rfl), rfl, rfl, by decide⟩
theorem sv_RX6_301 : hg_Sv RX6 301 RX6 yX6_isWord cX6_isWord 4 (some .boolean) 2 := ⟨(hg_m5 205 (by decide +kernel) rfl), (hg_m5 202 (by decide +kernel) rfl), (hg_m5 204 (by decide +kernel) rfl), (hg_p6 (y := yX6_isWord) 3 (by decide +kernel)), (hg_m1 7 (by decide +kernel) rfl), by decide +kernel, by decide⟩
theorem fl_RX6_90 : hg_Fl RX6 90 6 38 45 := ⟨RX6, RX6, TX6, inT_6, (hg_m4 130 (by decide +kernel) rfl), rfl, rfl, by decide⟩
theorem fl_RX6_282 : hg_Fl RX6 282 6 39 45 := ⟨RX6, RX6, TX6, inT_6, (hg_m4 131 (by decide +kernel) rfl), rfl, rfl, by decide⟩
theorem fl_RX6_285 : hg_Fl RX6 285 6 41 45 := ⟨RX6, RX6, TX6, inT_6, (hg_m4 133 (by decide +kernel) rfl), rfl, rfl, by decide⟩
theorem sv_RX6_319 : hg_Sv RX6 319 RX6 yX6_countJumps cX6_countJumps 3 (some .int) 0 := ⟨(hg_m6 1 (by decide +kernel) rfl), (hg_m5 238 (by decide +kernel) rfl), (hg_m6 0 (by decide +kernel) rfl), (hg_p6 (y := yX6_countJumps) 7 (by decide +kernel)), (hg_m1 7 (by decide +kernel) rfl), by decide +kernel, by decide⟩
theorem sv_RX6_322 : hg_Sv RX6 322 RX6 yX6_countConverted cX6_countConverted 3 (some .int) 0 := ⟨(hg_m6 5 (by decide +kernel) rfl), (hg_m6 2 (by decide +kernel) rfl), (hg_m6 4 (by decide +kernel) rfl), (hg_p6 (y := yX6_countConverted) 8 (by decide +kernel)), (hg_m1 7 (by decide +kernel) rfl), by decide +kernel, by decide⟩
theorem fl_RX6_93 : hg_Fl RX6 93 6 40 45 := ⟨RX6, RX6, TX6, inT_6, (hg_m4 132 (by decide +kernel) rfl), rfl, rfl, by decide⟩
theorem sv_RX6_248 : hg_Sv RX6 248 RX6 yX6_beginTest cX6_beginTest 8 none 1 := ⟨(hg_m5 151 (by decide +kernel) rfl), (hg_m5 148 (by decide +kernel) rfl), (hg_m5 150 (by decide +kernel) rfl), (hg_p5 (y := yX6_beginTest) 10 (by decide +kernel)), (hg_m1 7 (by decide +kernel) rfl), by decide +kernel, by decide⟩
theorem sv_RX6_235 : hg_Sv RX6 235 RX6 yX6_lowerSet cX6_lowerSet 5 none 1 := ⟨(hg_m5 127 (by decide +kernel) rfl), (hg_m5 124 (by decide +kernel) rfl), (hg_m5 126 (by decide +kernel) rfl), (hg_p5 (y := yX6_lowerSet) 4 (by decide +kernel)), (hg_m1 7 (by decide +kernel) rfl), by decide +kernel, by decide⟩
theorem sv_RX6_244 : hg_Sv RX6 244 RX6 yX6_lowerStore cX6_lowerStore 9 none 3 := ⟨(hg_m5 147 (by decide +kernel) rfl), (hg_m5 144 (by decide +kernel) rfl), (hg_m5 146 (by decide +kernel) rfl), (hg_p5 (y := yX6_lowerStore) 9 (by decide +kernel)), (hg_m1 7 (by decide +kernel) rfl), by decide +kernel, by decide⟩
theorem sv_RX6_251 : hg_Sv RX6 251 RX6 yX6_endSecond cX6_endSecond 7 none 1 := ⟨(hg_m5 95 (by decide +kernel) rfl), (hg_m5 92 (by decide +kernel) rfl), (hg_m5 94 (by decide +kernel) rfl), (hg_p4 (y := yX6_endSecond) 12 (by decide +kernel)), (hg_m1 7 (by decide +kernel) rfl), by decide +kernel, by decide⟩
theorem sv_RX6_254 : hg_Sv RX6 254 RX6 yX6_endFirst cX6_endFirst 7 none 1 := ⟨(hg_m5 111 (by decide +kernel) rfl), (hg_m5 108 (by decide +kernel) rfl), (hg_m5 110 (by decide +kernel) rfl), (hg_p5 (y := yX6_endFirst) 0 (by decide +kernel)), (hg_m1 7 (by decide +kernel) rfl), by decide +kernel, by decide⟩
theorem sv_RX6_257 : hg_Sv RX6 257 RX6 yX6_lowerOne cX6_lowerOne 8 none 1 := ⟨(hg_m5 123 (by decide +kernel) rfl), (hg_m5 120 (by decide +kernel) rfl), (hg_m5 122 (by decide +kernel) rfl), (hg_p5 (y := yX6_lowerOne) 3 (by decide +kernel)), (hg_m1 7 (by decide +kernel) rfl), by decide +kernel, by decide⟩
theorem sv_RX6_260 : hg_Sv RX6 260 RX6 yX6_lowerAll cX6_lowerAll 8 none 2 := ⟨(hg_m5 91 (by decide +kernel) rfl), (hg_m5 88 (by decide +kernel) rfl), (hg_m5 90 (by decide +kernel) rfl), (hg_p4 (y := yX6_lowerAll) 11 (by decide +kernel)), (hg_m1 7 (by decide +kernel) rfl), by decide +kernel, by decide⟩
theorem kl_RX6_263 : Cond.constantLong RX6 263 (400 : Int64) ∈ hg_tbl := (hg_m5 79 (by decide +kernel) rfl)
theorem sv_RX6_265 : hg_Sv RX6 265 RX6 yX6_mayConvert cX6_mayConvert 5 (some .boolean) 2 := ⟨(hg_m5 87 (by decide +kernel) rfl), (hg_m5 84 (by decide +kernel) rfl), (hg_m5 86 (by decide +kernel) rfl), (hg_p4 (y := yX6_mayConvert) 10 (by decide +kernel)), (hg_m1 7 (by decide +kernel) rfl), by decide +kernel, by decide⟩
theorem sv_RX6_272 : hg_Sv RX6 272 RX6 yX6_isUseless cX6_isUseless 6 (some .boolean) 1 := ⟨(hg_m5 159 (by decide +kernel) rfl), (hg_m5 156 (by decide +kernel) rfl), (hg_m5 158 (by decide +kernel) rfl), (hg_p5 (y := yX6_isUseless) 11 (by decide +kernel)), (hg_m1 7 (by decide +kernel) rfl), by decide +kernel, by decide⟩
theorem sv_RX6_275 : hg_Sv RX6 275 RX6 yX6_goneBefore cX6_goneBefore 4 (some .int) 1 := ⟨(hg_m5 167 (by decide +kernel) rfl), (hg_m5 164 (by decide +kernel) rfl), (hg_m5 166 (by decide +kernel) rfl), (hg_p5 (y := yX6_goneBefore) 13 (by decide +kernel)), (hg_m1 7 (by decide +kernel) rfl), by decide +kernel, by decide⟩
theorem sv_RX6_304 : hg_Sv RX6 304 RX6 yX6_begin cX6_begin 2 none 0 := ⟨(hg_m5 185 (by decide +kernel) rfl), (hg_m5 182 (by decide +kernel) rfl), (hg_m5 184 (by decide +kernel) rfl), (hg_p5 (y := yX6_begin) 14 (by decide +kernel)), (hg_m1 7 (by decide +kernel) rfl), by decide +kernel, by decide⟩
theorem sv_RX6_307 : hg_Sv RX6 307 RX6 yX6_doStatement cX6_doStatement 6 (some .int) 1 := ⟨(hg_m5 189 (by decide +kernel) rfl), (hg_m5 186 (by decide +kernel) rfl), (hg_m5 188 (by decide +kernel) rfl), (hg_p5 (y := yX6_doStatement) 15 (by decide +kernel)), (hg_m1 7 (by decide +kernel) rfl), by decide +kernel, by decide⟩
theorem sv_RX6_310 : hg_Sv RX6 310 RX6 yX6_behind cX6_behind 5 (some .int) 1 := ⟨(hg_m5 209 (by decide +kernel) rfl), (hg_m5 206 (by decide +kernel) rfl), (hg_m5 208 (by decide +kernel) rfl), (hg_p6 (y := yX6_behind) 4 (by decide +kernel)), (hg_m1 7 (by decide +kernel) rfl), by decide +kernel, by decide⟩
theorem sv_RX6_313 : hg_Sv RX6 313 RX6 yX6_leave cX6_leave 2 none 0 := ⟨(hg_m5 213 (by decide +kernel) rfl), (hg_m5 210 (by decide +kernel) rfl), (hg_m5 212 (by decide +kernel) rfl), (hg_p6 (y := yX6_leave) 5 (by decide +kernel)), (hg_m1 7 (by decide +kernel) rfl), by decide +kernel, by decide⟩
theorem fl_RX6_195 : hg_Fl RX6 195 6 22 45 := ⟨RX6, RX6, TX6, inT_6, (hg_m4 114 (by decide +kernel) rfl), rfl, rfl, by decide⟩
theorem sv_RX6_316 : hg_Sv RX6 316 RX6 yX6_doStep cX6_doStep 6 (some .int) 1 := ⟨(hg_m5 221 (by decide +kernel) rfl), (hg_m5 218 (by decide +kernel) rfl), (hg_m5 220 (by decide +kernel) rfl), (hg_p6 (y := yX6_doStep) 6 (by decide +kernel)), (hg_m1 7 (by decide +kernel) rfl), by decide +kernel, by decide⟩
end
section
/-! String.length, charAt and what they call, over any family (written by mkS.py) -/
theorem sf_9 : Cond.fieldLink RJ0 9 "java/lang/String" "value" "[B" ∈ hg_tbl := (hg_m6 9 (by decide +kernel) rfl)
theorem sf_15 : Cond.fieldLink RJ0 15 "java/lang/String" "coder" "B" ∈ hg_tbl := (hg_m6 10 (by decide +kernel) rfl)
theorem sf_34 : Cond.fieldLink RJ0 38 "java/lang/String" "COMPACT_STRINGS" "Z" ∈ hg_tbl := (hg_m2 93 (by decide +kernel) rfl)
theorem sf_fm : Cond.fieldLink RJ0 1053 "jdk/internal/util/Preconditions" "SIOOBE_FORMATTER" "Ljava/util/function/BiFunction;" ∈ hg_tbl := (hg_m2 109 (by decide +kernel) rfl)
theorem ss_cod : hg_Sv RJ0 335 RJ0 yJ0_coder_7d493 cJ0_coder_7d493 1 (some .byte) 0 := ⟨(hg_m2 92 (by decide +kernel) rfl), (hg_m2 89 (by decide +kernel) rfl), (hg_m2 90 (by decide +kernel) rfl), (hg_m2 91 (by decide +kernel) rfl), (hg_m1 15 (by decide +kernel) rfl), by decide +kernel, by decide⟩
theorem ss_lat : hg_Sv RJ0 492 RJ0 yJ0_isLatin1_aae02 cJ0_isLatin1_aae02 1 (some .boolean) 0 := ⟨(hg_m2 102 (by decide +kernel) rfl), (hg_m2 99 (by decide +kernel) rfl), (hg_m2 100 (by decide +kernel) rfl), (hg_m2 101 (by decide +kernel) rfl), (hg_m1 15 (by decide +kernel) rfl), by decide +kernel, by decide⟩
theorem ss_lch : hg_Ss RJ0 495 yJ1_charAt_3b067 cJ1_charAt_3b067 2 (some .char) 2 := ⟨(hg_m2 105 (by decide +kernel) rfl), (hg_m2 103 (by decide +kernel) rfl), (hg_m2 104 (by decide +kernel) rfl), (hg_m1 16 (by decide +kernel) rfl), by decide +kernel, by decide⟩
theorem ss_ci : hg_Ss RJ1 9 yJ0_checkIndex_df160 cJ0_checkIndex_df160 2 none 2 := ⟨(hg_m2 108 (by decide +kernel) rfl), (hg_m2 106 (by decide +kernel) rfl), (hg_m2 107 (by decide +kernel) rfl), (hg_m1 15 (by decide +kernel) rfl), by decide +kernel, by decide⟩
theorem ss_pre : hg_Ss RJ0 1059 yJ3_checkIndex_8e157 cJ3_checkIndex_8e157 3 (some .int) 3 := ⟨(hg_m2 113 (by decide +kernel) rfl), (hg_m2 111 (by decide +kernel) rfl), (hg_m2 112 (by decide +kernel) rfl), (hg_m1 17 (by decide +kernel) rfl), by decide +kernel, by decide⟩
def hg_Es (E : hg_Et) (i a v : Nat) : Prop := ∀ A U H, E A U H → hg_str i a v A U H
section HGS
variable {F : hg_F} {E : hg_Et} {ρ : hg_R} {i a v : Nat}
theorem ts_coder (hE : hg_Eok E) (l : Launch) (d : Nat) (hs : hg_Es E i a v) (σ : hg_M) (P : Int32 → hg_M → Prop) (hw : P 0 σ) : hg_Ni F E l yJ0_coder_7d493 cJ0_coder_7d493 1 (some .byte) (d + 1) (fun _ => [.ref a]) ρ σ P := by
  refine hg_ni hE (by decide) (fun _ => Nat.le_of_ble_eq_true rfl) (fun X hC hR hl => ?_)
  subst hl
  have hC : hg_C F 1 (d + 1) E cJ0_coder_7d493 RJ0 X := hC
  show hg_G F 1 X 0 [(0, .ref a)] [] σ ρ
  refine hg_gs hC (fun A U H h => (hs A U H h).2.2.2.2.1) sf_34 dJ0_coder_7d493_0 (n := 3) rfl ?_
  refine hg_if_eq hC dJ0_coder_7d493_3 (tg := 13) rfl (n := 6) rfl (fun h9 => absurd h9 (by decide)) (fun h9 => ?_)
  refine hg_aload_n hC dJ0_coder_7d493_6 rfl 0 rfl (n := 7) rfl ?_
  refine hg_of hC (fun A U H h => (hs A U H h).2.1) sf_15 dJ0_coder_7d493_7 (n := 10) rfl ?_
  refine hg_goto hC dJ0_coder_7d493_10 (tg := 14) rfl ?_
  exact hg_rett hC hR rfl dJ0_coder_7d493_14 hw
theorem ts_lat (hE : hg_Eok E) (l : Launch) (d : Nat) (hs : hg_Es E i a v) (σ : hg_M) (P : Int32 → hg_M → Prop) (hw : P 1 σ) : hg_Ni F E l yJ0_isLatin1_aae02 cJ0_isLatin1_aae02 1 (some .boolean) (d + 1) (fun _ => [.ref a]) ρ σ P := by
  refine hg_ni hE (by decide) (fun _ => Nat.le_of_ble_eq_true rfl) (fun X hC hR hl => ?_)
  subst hl
  have hC : hg_C F 1 (d + 1) E cJ0_isLatin1_aae02 RJ0 X := hC
  show hg_G F 1 X 0 [(0, .ref a)] [] σ ρ
  refine hg_gs hC (fun A U H h => (hs A U H h).2.2.2.2.1) sf_34 dJ0_isLatin1_aae02_0 (n := 3) rfl ?_
  refine hg_if_eq hC dJ0_isLatin1_aae02_3 (tg := 17) rfl (n := 6) rfl (fun h9 => absurd h9 (by decide)) (fun h9 => ?_)
  refine hg_aload_n hC dJ0_isLatin1_aae02_6 rfl 0 rfl (n := 7) rfl ?_
  refine hg_of hC (fun A U H h => (hs A U H h).2.1) sf_15 dJ0_isLatin1_aae02_7 (n := 10) rfl ?_
  refine hg_if_ne hC dJ0_isLatin1_aae02_10 (tg := 17) rfl (n := 13) rfl (fun h9 => absurd rfl h9) (fun h9 => ?_)
  refine hg_iconst hC dJ0_isLatin1_aae02_13 (show Int32.ofInt 1 = (1 : Int32) by decide) (n := 14) rfl ?_
  refine hg_goto hC dJ0_isLatin1_aae02_14 (tg := 18) rfl ?_
  exact hg_rett hC hR rfl dJ0_isLatin1_aae02_18 hw
theorem hs_shr (n : Nat) : Int32.ofNat n >>> ((0 : Int32) &&& 31) = Int32.ofNat n := by
  have e : ((0 : Int32) &&& 31) = 0 := by decide
  rw [e]
  exact Int32.shiftRight_zero
theorem ts_length (hE : hg_Eok E) (l : Launch) (d : Nat) (hs : hg_Es E i a v) (σ : hg_M) (P : Int32 → hg_M → Prop) (hw : P (Int32.ofNat (hg_len i)) σ) : hg_Ni F E l yJ0_length_8abf5 cJ0_length_8abf5 1 (some .int) (d + 2) (fun _ => [.ref a]) ρ σ P := by
  refine hg_ni hE (by decide) (fun _ => Nat.le_of_ble_eq_true rfl) (fun X hC hR hl => ?_)
  subst hl
  have hC : hg_C F 1 (d + 2) E cJ0_length_8abf5 RJ0 X := hC
  show hg_G F 1 X 0 [(0, .ref a)] [] σ ρ
  refine hg_aload_n hC dJ0_length_8abf5_0 rfl 0 rfl (n := 1) rfl ?_
  refine hg_of hC (fun A U H h => (hs A U H h).2.2.1) sf_9 dJ0_length_8abf5_1 (n := 4) rfl ?_
  refine hg_tl hC (fun A U H h => (hs A U H h).2.2.2.1) rfl dJ0_length_8abf5_4 (n := 5) rfl ?_
  refine hg_aload_n hC dJ0_length_8abf5_5 rfl 0 rfl (n := 6) rfl ?_
  refine hg_cTi hC (fun A U H h => (hs A U H h).1) (ts_coder (hg_Eof hC) X.2.1 (d + 0) hs σ (fun r σ1 => r = 0 ∧ σ1 = σ) ⟨rfl, rfl⟩) ss_cod dJ0_length_8abf5_6 rfl (rest := [.int (Int32.ofNat (hg_len i))]) rfl (Nat.le_of_ble_eq_true rfl) (n := 9) rfl (fun r σ1 h => ?_)
  obtain ⟨rfl, rfl⟩ := h
  refine hg_ishr hC dJ0_length_8abf5_9 (n := 10) rfl ?_
  refine hg_reti hC hR dJ0_length_8abf5_10 ?_
  rw [hs_shr]; exact hw
/-- the character at a place -/
def hg_ch (i j : Nat) : Int32 := (((hg_chr i j) &&& (255 : Int32)).toUInt32 % 65536).toInt32
theorem ts_pren (hE : hg_Eok E) (l : Launch) (d : Nat) (x z : Int32) (σ : hg_M) (P : Int32 → hg_M → Prop) (h0 : ¬ x < 0) (h1 : x < z) (hw : P x σ) : hg_Ni F E l yJ3_checkIndex_8e157 cJ3_checkIndex_8e157 3 (some .int) (d + 1) (fun _ => [.int x, .int z, .null]) ρ σ P := by
  refine hg_ni hE (by decide) (fun _ => Nat.le_of_ble_eq_true rfl) (fun X hC hR hl => ?_)
  subst hl
  have hC : hg_C F 3 (d + 1) E cJ3_checkIndex_8e157 RJ3 X := hC
  show hg_G F 3 X 0 [(0, .int x), (1, .int z), (2, .null)] [] σ ρ
  refine hg_iload_n hC dJ3_checkIndex_8e157_0 rfl 0 rfl (n := 1) rfl ?_
  refine hg_if_lt hC dJ3_checkIndex_8e157_1 (tg := 9) rfl (n := 4) rfl (fun h9 => absurd h9 h0) (fun h9 => ?_)
  refine hg_iload_n hC dJ3_checkIndex_8e157_4 rfl 0 rfl (n := 5) rfl ?_
  refine hg_iload_n hC dJ3_checkIndex_8e157_5 rfl 1 rfl (n := 6) rfl ?_
  refine hg_icmp_lt hC dJ3_checkIndex_8e157_6 (tg := 16) rfl (n := 9) rfl (fun h9 => ?_) (fun h9 => absurd h1 h9)
  refine hg_iload_n hC dJ3_checkIndex_8e157_16 rfl 0 rfl (n := 17) rfl ?_
  exact hg_reti hC hR dJ3_checkIndex_8e157_17 hw
theorem ts_prer (hE : hg_Eok E) (l : Launch) (d : Nat) (t9 : Nat) (x z : Int32) (σ : hg_M) (P : Int32 → hg_M → Prop) (h0 : ¬ x < 0) (h1 : x < z) (hw : P x σ) : hg_Ni F E l yJ3_checkIndex_8e157 cJ3_checkIndex_8e157 3 (some .int) (d + 1) (fun _ => [.int x, .int z, .ref t9]) ρ σ P := by
  refine hg_ni hE (by decide) (fun _ => Nat.le_of_ble_eq_true rfl) (fun X hC hR hl => ?_)
  subst hl
  have hC : hg_C F 3 (d + 1) E cJ3_checkIndex_8e157 RJ3 X := hC
  show hg_G F 3 X 0 [(0, .int x), (1, .int z), (2, .ref t9)] [] σ ρ
  refine hg_iload_n hC dJ3_checkIndex_8e157_0 rfl 0 rfl (n := 1) rfl ?_
  refine hg_if_lt hC dJ3_checkIndex_8e157_1 (tg := 9) rfl (n := 4) rfl (fun h9 => absurd h9 h0) (fun h9 => ?_)
  refine hg_iload_n hC dJ3_checkIndex_8e157_4 rfl 0 rfl (n := 5) rfl ?_
  refine hg_iload_n hC dJ3_checkIndex_8e157_5 rfl 1 rfl (n := 6) rfl ?_
  refine hg_icmp_lt hC dJ3_checkIndex_8e157_6 (tg := 16) rfl (n := 9) rfl (fun h9 => ?_) (fun h9 => absurd h1 h9)
  refine hg_iload_n hC dJ3_checkIndex_8e157_16 rfl 0 rfl (n := 17) rfl ?_
  exact hg_reti hC hR dJ3_checkIndex_8e157_17 hw
theorem ts_ci (hE : hg_Eok E) (l : Launch) (d : Nat) (hs : hg_Es E i a v) (x z : Int32) (σ : hg_M) (P : hg_M → Prop) (h0 : ¬ x < 0) (h1 : x < z) (hw : P σ) : hg_Nv F E l yJ0_checkIndex_df160 cJ0_checkIndex_df160 2 (d + 2) (fun _ => [.int x, .int z]) ρ σ P := by
  refine hg_nv hE (by decide) (fun _ => Nat.le_of_ble_eq_true rfl) (fun X hC hR hl => ?_)
  subst hl
  have hC : hg_C F 2 (d + 2) E cJ0_checkIndex_df160 RJ0 X := hC
  show hg_G F 2 X 0 [(0, .int x), (1, .int z)] [] σ ρ
  refine hg_iload_n hC dJ0_checkIndex_df160_0 rfl 0 rfl (n := 1) rfl ?_
  refine hg_iload_n hC dJ0_checkIndex_df160_1 rfl 1 rfl (n := 2) rfl ?_
  refine hg_gsq hC (fun A U H h => (hs A U H h).2.2.2.2.2) sf_fm dJ0_checkIndex_df160_2 (n := 5) rfl ?_ (fun t9 => ?_)
  · refine hg_cSi hC (ts_pren (hg_Eof hC) X.2.1 (d + 0) x z σ (fun r σ1 => σ1 = σ) h0 h1 rfl) ss_pre dJ0_checkIndex_df160_5 rfl (rest := []) rfl (Nat.le_of_ble_eq_true rfl) (n := 8) rfl (fun r σ1 h => ?_)
    subst h
    refine hg_pop hC dJ0_checkIndex_df160_8 rfl (n := 9) rfl ?_
    exact hg_retv hC hR dJ0_checkIndex_df160_9 hw
  · refine hg_cSi hC (ts_prer (hg_Eof hC) X.2.1 (d + 0) t9 x z σ (fun r σ1 => σ1 = σ) h0 h1 rfl) ss_pre dJ0_checkIndex_df160_5 rfl (rest := []) rfl (Nat.le_of_ble_eq_true rfl) (n := 8) rfl (fun r σ1 h => ?_)
    subst h
    refine hg_pop hC dJ0_checkIndex_df160_8 rfl (n := 9) rfl ?_
    exact hg_retv hC hR dJ0_checkIndex_df160_9 hw
theorem ts_lch (hE : hg_Eok E) (l : Launch) (d : Nat) (hs : hg_Es E i a v) (x : Int32) (σ : hg_M) (P : Int32 → hg_M → Prop) (hx : vp_in x (hg_len i)) (hn : narrow .char (.int (hg_ch i x.toNatClampNeg)) = .int (hg_ch i x.toNatClampNeg)) (h0 : ¬ x < 0) (h1 : x < Int32.ofNat (hg_len i)) (hw : P (hg_ch i x.toNatClampNeg) σ) : hg_Ni F E l yJ1_charAt_3b067 cJ1_charAt_3b067 2 (some .char) (d + 3) (fun _ => [.ref v, .int x]) ρ σ P := by
  refine hg_ni hE (by decide) (fun _ => Nat.le_of_ble_eq_true rfl) (fun X hC hR hl => ?_)
  subst hl
  have hC : hg_C F 2 (d + 3) E cJ1_charAt_3b067 RJ1 X := hC
  show hg_G F 2 X 0 [(0, .ref v), (1, .int x)] [] σ ρ
  refine hg_iload_n hC dJ1_charAt_3b067_0 rfl 1 rfl (n := 1) rfl ?_
  refine hg_aload_n hC dJ1_charAt_3b067_1 rfl 0 rfl (n := 2) rfl ?_
  refine hg_tl hC (fun A U H h => (hs A U H h).2.2.2.1) rfl dJ1_charAt_3b067_2 (n := 3) rfl ?_
  refine hg_cSv hC (ts_ci (hg_Eof hC) X.2.1 (d + 0) hs x _ σ (fun σ1 => σ1 = σ) h0 h1 rfl) ss_ci dJ1_charAt_3b067_3 rfl (rest := []) rfl (Nat.le_of_ble_eq_true rfl) (n := 6) rfl (fun σ1 h => ?_)
  subst h
  refine hg_aload_n hC dJ1_charAt_3b067_6 rfl 0 rfl (n := 7) rfl ?_
  refine hg_iload_n hC dJ1_charAt_3b067_7 rfl 1 rfl (n := 8) rfl ?_
  refine hg_tb hC (fun A U H h => (hs A U H h).2.2.2.1) dJ1_charAt_3b067_8 hx (n := 9) rfl ?_
  refine hg_sipush hC dJ1_charAt_3b067_9 (show (Int16.ofInt 255).toInt32 = (255 : Int32) by decide) (n := 12) rfl ?_
  refine hg_iand hC dJ1_charAt_3b067_12 (n := 13) rfl ?_
  refine hg_i2c hC dJ1_charAt_3b067_13 rfl (n := 14) rfl ?_
  exact hg_rett hC hR hn dJ1_charAt_3b067_14 hw
theorem ts_charAt (hE : hg_Eok E) (l : Launch) (d : Nat) (hs : hg_Es E i a v) (x : Int32) (σ : hg_M) (P : Int32 → hg_M → Prop) (hx : vp_in x (hg_len i)) (hn : narrow .char (.int (hg_ch i x.toNatClampNeg)) = .int (hg_ch i x.toNatClampNeg)) (h0 : ¬ x < 0) (h1 : x < Int32.ofNat (hg_len i)) (hw : P (hg_ch i x.toNatClampNeg) σ) : hg_Ni F E l yJ0_charAt_5068e cJ0_charAt_5068e 2 (some .char) (d + 4) (fun _ => [.ref a, .int x]) ρ σ P := by
  refine hg_ni hE (by decide) (fun _ => Nat.le_of_ble_eq_true rfl) (fun X hC hR hl => ?_)
  subst hl
  have hC : hg_C F 2 (d + 4) E cJ0_charAt_5068e RJ0 X := hC
  show hg_G F 2 X 0 [(0, .ref a), (1, .int x)] [] σ ρ
  refine hg_aload_n hC dJ0_charAt_5068e_0 rfl 0 rfl (n := 1) rfl ?_
  refine hg_cTi hC (fun A U H h => (hs A U H h).1) (ts_lat (hg_Eof hC) X.2.1 (d + 2) hs σ (fun r σ1 => r = 1 ∧ σ1 = σ) ⟨rfl, rfl⟩) ss_lat dJ0_charAt_5068e_1 rfl (rest := []) rfl (Nat.le_of_ble_eq_true rfl) (n := 4) rfl (fun r σ1 h => ?_)
  obtain ⟨rfl, rfl⟩ := h
  refine hg_if_eq hC dJ0_charAt_5068e_4 (tg := 16) rfl (n := 7) rfl (fun h9 => absurd h9 (by decide)) (fun h9 => ?_)
  refine hg_aload_n hC dJ0_charAt_5068e_7 rfl 0 rfl (n := 8) rfl ?_
  refine hg_of hC (fun A U H h => (hs A U H h).2.2.1) sf_9 dJ0_charAt_5068e_8 (n := 11) rfl ?_
  refine hg_iload_n hC dJ0_charAt_5068e_11 rfl 1 rfl (n := 12) rfl ?_
  refine hg_cSi hC (ts_lch (hg_Eof hC) X.2.1 (d + 0) hs x σ1 (fun r σ2 => r = hg_ch i x.toNatClampNeg ∧ σ2 = σ1) hx hn h0 h1 ⟨rfl, rfl⟩) ss_lch dJ0_charAt_5068e_12 rfl (rest := []) rfl (Nat.le_of_ble_eq_true rfl) (n := 15) rfl (fun r σ2 h => ?_)
  obtain ⟨rfl, rfl⟩ := h
  exact hg_rett hC hR hn dJ0_charAt_5068e_15 hw
end HGS
end
