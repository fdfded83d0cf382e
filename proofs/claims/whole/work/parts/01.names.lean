-- ===== PART A: goes FIRST, ahead of the names: the tables' words, and 'selects' of the private methods out of them =====
/-- a private method of a class that the tables say can be made, by its rows of tables_1 -/
def lw_okq (q : MethodName × Nat) : Prop := (q.1.cls ≠ "java/lang/invoke/MethodHandle" ∧ q.1.cls ≠ "java/lang/invoke/VarHandle") ∧ Cond.instantiable q.1.cls q.2 ∈ tables_1 ∧ Cond.privateMethod q.1 ∈ tables_1 ∧ Cond.instanceMethod q.1 ∈ tables_1
theorem lw_p0 : lw_okq (⟨"AfterTheLast$Town", "clear", "()V"⟩, 18) := ⟨⟨by decide +kernel, by decide +kernel⟩, List.mem_of_getElem? (i := 121) (by decide +kernel), List.mem_of_getElem? (i := 127) (by decide +kernel), List.mem_of_getElem? (i := 128) (by decide +kernel)⟩
theorem lw_p1 : lw_okq (⟨"AfterTheLast$Reader", "hasPlaceFor", "(I)Z"⟩, 4) := ⟨⟨by decide +kernel, by decide +kernel⟩, List.mem_of_getElem? (i := 37) (by decide +kernel), List.mem_of_getElem? (i := 467) (by decide +kernel), List.mem_of_getElem? (i := 468) (by decide +kernel)⟩
theorem lw_p2 : lw_okq (⟨"AfterTheLast$Reader", "append", "(I)V"⟩, 4) := ⟨⟨by decide +kernel, by decide +kernel⟩, List.mem_of_getElem? (i := 37) (by decide +kernel), List.mem_of_getElem? (i := 471) (by decide +kernel), List.mem_of_getElem? (i := 472) (by decide +kernel)⟩
theorem lw_p3 : lw_okq (⟨"AfterTheLast$Reader", "readStreet", "(LAfterTheLast$Town;)I"⟩, 4) := ⟨⟨by decide +kernel, by decide +kernel⟩, List.mem_of_getElem? (i := 37) (by decide +kernel), List.mem_of_getElem? (i := 484) (by decide +kernel), List.mem_of_getElem? (i := 485) (by decide +kernel)⟩
theorem lw_p4 : lw_okq (⟨"AfterTheLast$Reader", "rewind", "()V"⟩, 4) := ⟨⟨by decide +kernel, by decide +kernel⟩, List.mem_of_getElem? (i := 37) (by decide +kernel), List.mem_of_getElem? (i := 488) (by decide +kernel), List.mem_of_getElem? (i := 489) (by decide +kernel)⟩
theorem lw_p5 : lw_okq (⟨"AfterTheLast$Reader", "fine", "()Z"⟩, 4) := ⟨⟨by decide +kernel, by decide +kernel⟩, List.mem_of_getElem? (i := 37) (by decide +kernel), List.mem_of_getElem? (i := 493) (by decide +kernel), List.mem_of_getElem? (i := 494) (by decide +kernel)⟩
theorem lw_p6 : lw_okq (⟨"AfterTheLast$Reader", "readClause", "(LAfterTheLast$Town;Z)V"⟩, 4) := ⟨⟨by decide +kernel, by decide +kernel⟩, List.mem_of_getElem? (i := 37) (by decide +kernel), List.mem_of_getElem? (i := 497) (by decide +kernel), List.mem_of_getElem? (i := 498) (by decide +kernel)⟩
theorem lw_p7 : lw_okq (⟨"AfterTheLast$Reader", "next", "()I"⟩, 4) := ⟨⟨by decide +kernel, by decide +kernel⟩, List.mem_of_getElem? (i := 37) (by decide +kernel), List.mem_of_getElem? (i := 501) (by decide +kernel), List.mem_of_getElem? (i := 502) (by decide +kernel)⟩
theorem lw_p8 : lw_okq (⟨"AfterTheLast$Reader", "isAt", "(Ljava/lang/String;)Z"⟩, 4) := ⟨⟨by decide +kernel, by decide +kernel⟩, List.mem_of_getElem? (i := 37) (by decide +kernel), List.mem_of_getElem? (i := 506) (by decide +kernel), List.mem_of_getElem? (i := 507) (by decide +kernel)⟩
theorem lw_p9 : lw_okq (⟨"AfterTheLast$Reader", "fail", "(I)V"⟩, 4) := ⟨⟨by decide +kernel, by decide +kernel⟩, List.mem_of_getElem? (i := 37) (by decide +kernel), List.mem_of_getElem? (i := 559) (by decide +kernel), List.mem_of_getElem? (i := 560) (by decide +kernel)⟩
theorem lw_p10 : lw_okq (⟨"AfterTheLast$Reader", "failAt", "(II)V"⟩, 4) := ⟨⟨by decide +kernel, by decide +kernel⟩, List.mem_of_getElem? (i := 37) (by decide +kernel), List.mem_of_getElem? (i := 563) (by decide +kernel), List.mem_of_getElem? (i := 564) (by decide +kernel)⟩
theorem lw_p11 : lw_okq (⟨"AfterTheLast$Reader", "skip", "(I)V"⟩, 4) := ⟨⟨by decide +kernel, by decide +kernel⟩, List.mem_of_getElem? (i := 37) (by decide +kernel), List.mem_of_getElem? (i := 567) (by decide +kernel), List.mem_of_getElem? (i := 568) (by decide +kernel)⟩
theorem lw_p12 : lw_okq (⟨"AfterTheLast$Reader", "readHouse", "(LAfterTheLast$Town;)V"⟩, 4) := ⟨⟨by decide +kernel, by decide +kernel⟩, List.mem_of_getElem? (i := 37) (by decide +kernel), List.mem_of_getElem? (i := 571) (by decide +kernel), List.mem_of_getElem? (i := 572) (by decide +kernel)⟩
theorem lw_p13 : lw_okq (⟨"AfterTheLast$Reader", "take", "(Ljava/lang/String;)Z"⟩, 4) := ⟨⟨by decide +kernel, by decide +kernel⟩, List.mem_of_getElem? (i := 37) (by decide +kernel), List.mem_of_getElem? (i := 576) (by decide +kernel), List.mem_of_getElem? (i := 577) (by decide +kernel)⟩
theorem lw_p14 : lw_okq (⟨"AfterTheLast$Reader", "number", "(II)I"⟩, 4) := ⟨⟨by decide +kernel, by decide +kernel⟩, List.mem_of_getElem? (i := 37) (by decide +kernel), List.mem_of_getElem? (i := 582) (by decide +kernel), List.mem_of_getElem? (i := 583) (by decide +kernel)⟩
theorem lw_p15 : lw_okq (⟨"AfterTheLast$Town", "addHouse", "(III)V"⟩, 18) := ⟨⟨by decide +kernel, by decide +kernel⟩, List.mem_of_getElem? (i := 121) (by decide +kernel), List.mem_of_getElem? (i := 589) (by decide +kernel), List.mem_of_getElem? (i := 590) (by decide +kernel)⟩
def lw_privs_1 : List (MethodName × Nat) := [(⟨"AfterTheLast$Town", "clear", "()V"⟩, 18), (⟨"AfterTheLast$Reader", "hasPlaceFor", "(I)Z"⟩, 4), (⟨"AfterTheLast$Reader", "append", "(I)V"⟩, 4), (⟨"AfterTheLast$Reader", "readStreet", "(LAfterTheLast$Town;)I"⟩, 4), (⟨"AfterTheLast$Reader", "rewind", "()V"⟩, 4), (⟨"AfterTheLast$Reader", "fine", "()Z"⟩, 4), (⟨"AfterTheLast$Reader", "readClause", "(LAfterTheLast$Town;Z)V"⟩, 4), (⟨"AfterTheLast$Reader", "next", "()I"⟩, 4), (⟨"AfterTheLast$Reader", "isAt", "(Ljava/lang/String;)Z"⟩, 4), (⟨"AfterTheLast$Reader", "fail", "(I)V"⟩, 4), (⟨"AfterTheLast$Reader", "failAt", "(II)V"⟩, 4), (⟨"AfterTheLast$Reader", "skip", "(I)V"⟩, 4), (⟨"AfterTheLast$Reader", "readHouse", "(LAfterTheLast$Town;)V"⟩, 4), (⟨"AfterTheLast$Reader", "take", "(Ljava/lang/String;)Z"⟩, 4), (⟨"AfterTheLast$Reader", "number", "(II)I"⟩, 4), (⟨"AfterTheLast$Town", "addHouse", "(III)V"⟩, 18)]
theorem lw_r1 : ∀ q ∈ lw_privs_1, lw_okq q := List.forall_mem_cons.mpr ⟨lw_p0, List.forall_mem_cons.mpr ⟨lw_p1, List.forall_mem_cons.mpr ⟨lw_p2, List.forall_mem_cons.mpr ⟨lw_p3, List.forall_mem_cons.mpr ⟨lw_p4, List.forall_mem_cons.mpr ⟨lw_p5, List.forall_mem_cons.mpr ⟨lw_p6, List.forall_mem_cons.mpr ⟨lw_p7, List.forall_mem_cons.mpr ⟨lw_p8, List.forall_mem_cons.mpr ⟨lw_p9, List.forall_mem_cons.mpr ⟨lw_p10, List.forall_mem_cons.mpr ⟨lw_p11, List.forall_mem_cons.mpr ⟨lw_p12, List.forall_mem_cons.mpr ⟨lw_p13, List.forall_mem_cons.mpr ⟨lw_p14, List.forall_mem_cons.mpr ⟨lw_p15, fun _ h => absurd h List.not_mem_nil⟩⟩⟩⟩⟩⟩⟩⟩⟩⟩⟩⟩⟩⟩⟩⟩
theorem lw_p16 : lw_okq (⟨"AfterTheLast$Reader", "readStay", "(LAfterTheLast$Town;)V"⟩, 4) := ⟨⟨by decide +kernel, by decide +kernel⟩, List.mem_of_getElem? (i := 37) (by decide +kernel), List.mem_of_getElem? (i := 593) (by decide +kernel), List.mem_of_getElem? (i := 594) (by decide +kernel)⟩
theorem lw_p17 : lw_okq (⟨"AfterTheLast$Town", "addStay", "(IIIII)V"⟩, 18) := ⟨⟨by decide +kernel, by decide +kernel⟩, List.mem_of_getElem? (i := 121) (by decide +kernel), List.mem_of_getElem? (i := 597) (by decide +kernel), List.mem_of_getElem? (i := 598) (by decide +kernel)⟩
theorem lw_p18 : lw_okq (⟨"AfterTheLast$Town", "copyFrom", "(LAfterTheLast$Town;)V"⟩, 18) := ⟨⟨by decide +kernel, by decide +kernel⟩, List.mem_of_getElem? (i := 121) (by decide +kernel), List.mem_of_getElem? (i := 601) (by decide +kernel), List.mem_of_getElem? (i := 602) (by decide +kernel)⟩
theorem lw_p19 : lw_okq (⟨"AfterTheLast$RuleReader", "read", "()LAfterTheLast$Rule;"⟩, 15) := ⟨⟨by decide +kernel, by decide +kernel⟩, List.mem_of_getElem? (i := 31) (by decide +kernel), List.mem_of_getElem? (i := 613) (by decide +kernel), List.mem_of_getElem? (i := 614) (by decide +kernel)⟩
theorem lw_p20 : lw_okq (⟨"AfterTheLast$RuleReader", "readNext", "(I)V"⟩, 15) := ⟨⟨by decide +kernel, by decide +kernel⟩, List.mem_of_getElem? (i := 31) (by decide +kernel), List.mem_of_getElem? (i := 620) (by decide +kernel), List.mem_of_getElem? (i := 621) (by decide +kernel)⟩
theorem lw_p21 : lw_okq (⟨"AfterTheLast$RuleReader", "readClauseWord", "()V"⟩, 15) := ⟨⟨by decide +kernel, by decide +kernel⟩, List.mem_of_getElem? (i := 31) (by decide +kernel), List.mem_of_getElem? (i := 626) (by decide +kernel), List.mem_of_getElem? (i := 627) (by decide +kernel)⟩
theorem lw_p22 : lw_okq (⟨"AfterTheLast$RuleReader", "readOpening", "(Z)V"⟩, 15) := ⟨⟨by decide +kernel, by decide +kernel⟩, List.mem_of_getElem? (i := 31) (by decide +kernel), List.mem_of_getElem? (i := 635) (by decide +kernel), List.mem_of_getElem? (i := 636) (by decide +kernel)⟩
theorem lw_p23 : lw_okq (⟨"AfterTheLast$RuleReader", "keepWaiting", "(III)V"⟩, 15) := ⟨⟨by decide +kernel, by decide +kernel⟩, List.mem_of_getElem? (i := 31) (by decide +kernel), List.mem_of_getElem? (i := 639) (by decide +kernel), List.mem_of_getElem? (i := 640) (by decide +kernel)⟩
theorem lw_p24 : lw_okq (⟨"AfterTheLast$RuleReader", "readValue", "(I)V"⟩, 15) := ⟨⟨by decide +kernel, by decide +kernel⟩, List.mem_of_getElem? (i := 31) (by decide +kernel), List.mem_of_getElem? (i := 643) (by decide +kernel), List.mem_of_getElem? (i := 644) (by decide +kernel)⟩
theorem lw_p25 : lw_okq (⟨"AfterTheLast$RuleReader", "takeWord", "()I"⟩, 15) := ⟨⟨by decide +kernel, by decide +kernel⟩, List.mem_of_getElem? (i := 31) (by decide +kernel), List.mem_of_getElem? (i := 650) (by decide +kernel), List.mem_of_getElem? (i := 651) (by decide +kernel)⟩
theorem lw_p26 : lw_okq (⟨"AfterTheLast$RuleReader", "countPart", "(I)V"⟩, 15) := ⟨⟨by decide +kernel, by decide +kernel⟩, List.mem_of_getElem? (i := 31) (by decide +kernel), List.mem_of_getElem? (i := 665) (by decide +kernel), List.mem_of_getElem? (i := 666) (by decide +kernel)⟩
theorem lw_p27 : lw_okq (⟨"AfterTheLast$RuleReader", "add", "(II)I"⟩, 15) := ⟨⟨by decide +kernel, by decide +kernel⟩, List.mem_of_getElem? (i := 31) (by decide +kernel), List.mem_of_getElem? (i := 670) (by decide +kernel), List.mem_of_getElem? (i := 671) (by decide +kernel)⟩
theorem lw_p28 : lw_okq (⟨"AfterTheLast$RuleReader", "readJoining", "(I)V"⟩, 15) := ⟨⟨by decide +kernel, by decide +kernel⟩, List.mem_of_getElem? (i := 31) (by decide +kernel), List.mem_of_getElem? (i := 674) (by decide +kernel), List.mem_of_getElem? (i := 675) (by decide +kernel)⟩
theorem lw_p29 : lw_okq (⟨"AfterTheLast$RuleReader", "settle", "(I)V"⟩, 15) := ⟨⟨by decide +kernel, by decide +kernel⟩, List.mem_of_getElem? (i := 31) (by decide +kernel), List.mem_of_getElem? (i := 678) (by decide +kernel), List.mem_of_getElem? (i := 679) (by decide +kernel)⟩
theorem lw_p30 : lw_okq (⟨"AfterTheLast$RuleReader", "readSign", "(I)V"⟩, 15) := ⟨⟨by decide +kernel, by decide +kernel⟩, List.mem_of_getElem? (i := 31) (by decide +kernel), List.mem_of_getElem? (i := 682) (by decide +kernel), List.mem_of_getElem? (i := 683) (by decide +kernel)⟩
theorem lw_p31 : lw_okq (⟨"AfterTheLast$Reader", "takePair", "(CC)Z"⟩, 4) := ⟨⟨by decide +kernel, by decide +kernel⟩, List.mem_of_getElem? (i := 37) (by decide +kernel), List.mem_of_getElem? (i := 686) (by decide +kernel), List.mem_of_getElem? (i := 687) (by decide +kernel)⟩
def lw_privs_2 : List (MethodName × Nat) := [(⟨"AfterTheLast$Reader", "readStay", "(LAfterTheLast$Town;)V"⟩, 4), (⟨"AfterTheLast$Town", "addStay", "(IIIII)V"⟩, 18), (⟨"AfterTheLast$Town", "copyFrom", "(LAfterTheLast$Town;)V"⟩, 18), (⟨"AfterTheLast$RuleReader", "read", "()LAfterTheLast$Rule;"⟩, 15), (⟨"AfterTheLast$RuleReader", "readNext", "(I)V"⟩, 15), (⟨"AfterTheLast$RuleReader", "readClauseWord", "()V"⟩, 15), (⟨"AfterTheLast$RuleReader", "readOpening", "(Z)V"⟩, 15), (⟨"AfterTheLast$RuleReader", "keepWaiting", "(III)V"⟩, 15), (⟨"AfterTheLast$RuleReader", "readValue", "(I)V"⟩, 15), (⟨"AfterTheLast$RuleReader", "takeWord", "()I"⟩, 15), (⟨"AfterTheLast$RuleReader", "countPart", "(I)V"⟩, 15), (⟨"AfterTheLast$RuleReader", "add", "(II)I"⟩, 15), (⟨"AfterTheLast$RuleReader", "readJoining", "(I)V"⟩, 15), (⟨"AfterTheLast$RuleReader", "settle", "(I)V"⟩, 15), (⟨"AfterTheLast$RuleReader", "readSign", "(I)V"⟩, 15), (⟨"AfterTheLast$Reader", "takePair", "(CC)Z"⟩, 4)]
theorem lw_r2 : ∀ q ∈ lw_privs_2, lw_okq q := List.forall_mem_cons.mpr ⟨lw_p16, List.forall_mem_cons.mpr ⟨lw_p17, List.forall_mem_cons.mpr ⟨lw_p18, List.forall_mem_cons.mpr ⟨lw_p19, List.forall_mem_cons.mpr ⟨lw_p20, List.forall_mem_cons.mpr ⟨lw_p21, List.forall_mem_cons.mpr ⟨lw_p22, List.forall_mem_cons.mpr ⟨lw_p23, List.forall_mem_cons.mpr ⟨lw_p24, List.forall_mem_cons.mpr ⟨lw_p25, List.forall_mem_cons.mpr ⟨lw_p26, List.forall_mem_cons.mpr ⟨lw_p27, List.forall_mem_cons.mpr ⟨lw_p28, List.forall_mem_cons.mpr ⟨lw_p29, List.forall_mem_cons.mpr ⟨lw_p30, List.forall_mem_cons.mpr ⟨lw_p31, fun _ h => absurd h List.not_mem_nil⟩⟩⟩⟩⟩⟩⟩⟩⟩⟩⟩⟩⟩⟩⟩⟩
theorem lw_p32 : lw_okq (⟨"AfterTheLast$RuleReader", "readBehindFact", "(I)V"⟩, 15) := ⟨⟨by decide +kernel, by decide +kernel⟩, List.mem_of_getElem? (i := 31) (by decide +kernel), List.mem_of_getElem? (i := 690) (by decide +kernel), List.mem_of_getElem? (i := 691) (by decide +kernel)⟩
theorem lw_p33 : lw_okq (⟨"AfterTheLast$RuleReader", "closeBracket", "()V"⟩, 15) := ⟨⟨by decide +kernel, by decide +kernel⟩, List.mem_of_getElem? (i := 31) (by decide +kernel), List.mem_of_getElem? (i := 696) (by decide +kernel), List.mem_of_getElem? (i := 697) (by decide +kernel)⟩
theorem lw_p34 : lw_okq (⟨"AfterTheLast$RuleReader", "endClause", "()V"⟩, 15) := ⟨⟨by decide +kernel, by decide +kernel⟩, List.mem_of_getElem? (i := 31) (by decide +kernel), List.mem_of_getElem? (i := 700) (by decide +kernel), List.mem_of_getElem? (i := 701) (by decide +kernel)⟩
theorem lw_p35 : lw_okq (⟨"AfterTheLast$Town", "isHouse", "(I)Z"⟩, 18) := ⟨⟨by decide +kernel, by decide +kernel⟩, List.mem_of_getElem? (i := 121) (by decide +kernel), List.mem_of_getElem? (i := 749) (by decide +kernel), List.mem_of_getElem? (i := 750) (by decide +kernel)⟩
theorem lw_p36 : lw_okq (⟨"AfterTheLast$Town", "lastIn", "(I)I"⟩, 18) := ⟨⟨by decide +kernel, by decide +kernel⟩, List.mem_of_getElem? (i := 121) (by decide +kernel), List.mem_of_getElem? (i := 753) (by decide +kernel), List.mem_of_getElem? (i := 754) (by decide +kernel)⟩
theorem lw_p37 : lw_okq (⟨"AfterTheLast$Town", "firstIn", "(I)I"⟩, 18) := ⟨⟨by decide +kernel, by decide +kernel⟩, List.mem_of_getElem? (i := 121) (by decide +kernel), List.mem_of_getElem? (i := 757) (by decide +kernel), List.mem_of_getElem? (i := 758) (by decide +kernel)⟩
theorem lw_p38 : lw_okq (⟨"AfterTheLast$Town", "isStay", "(I)Z"⟩, 18) := ⟨⟨by decide +kernel, by decide +kernel⟩, List.mem_of_getElem? (i := 121) (by decide +kernel), List.mem_of_getElem? (i := 765) (by decide +kernel), List.mem_of_getElem? (i := 766) (by decide +kernel)⟩
theorem lw_p39 : lw_okq (⟨"AfterTheLast$Town", "mayLeave", "(I)Z"⟩, 18) := ⟨⟨by decide +kernel, by decide +kernel⟩, List.mem_of_getElem? (i := 121) (by decide +kernel), List.mem_of_getElem? (i := 776) (by decide +kernel), List.mem_of_getElem? (i := 777) (by decide +kernel)⟩
theorem lw_p40 : lw_okq (⟨"AfterTheLast$Town", "after", "(I)I"⟩, 18) := ⟨⟨by decide +kernel, by decide +kernel⟩, List.mem_of_getElem? (i := 121) (by decide +kernel), List.mem_of_getElem? (i := 783) (by decide +kernel), List.mem_of_getElem? (i := 784) (by decide +kernel)⟩
theorem lw_p41 : lw_okq (⟨"AfterTheLast$Town", "served", "()I"⟩, 18) := ⟨⟨by decide +kernel, by decide +kernel⟩, List.mem_of_getElem? (i := 121) (by decide +kernel), List.mem_of_getElem? (i := 791) (by decide +kernel), List.mem_of_getElem? (i := 792) (by decide +kernel)⟩
theorem lw_p42 : lw_okq (⟨"AfterTheLast$Town", "missed", "()I"⟩, 18) := ⟨⟨by decide +kernel, by decide +kernel⟩, List.mem_of_getElem? (i := 121) (by decide +kernel), List.mem_of_getElem? (i := 795) (by decide +kernel), List.mem_of_getElem? (i := 796) (by decide +kernel)⟩
theorem lw_p43 : lw_okq (⟨"AfterTheLast$Town", "allInside", "()I"⟩, 18) := ⟨⟨by decide +kernel, by decide +kernel⟩, List.mem_of_getElem? (i := 121) (by decide +kernel), List.mem_of_getElem? (i := 799) (by decide +kernel), List.mem_of_getElem? (i := 800) (by decide +kernel)⟩
theorem lw_p44 : lw_okq (⟨"AfterTheLast$Town", "roomLeft", "(I)I"⟩, 18) := ⟨⟨by decide +kernel, by decide +kernel⟩, List.mem_of_getElem? (i := 121) (by decide +kernel), List.mem_of_getElem? (i := 807) (by decide +kernel), List.mem_of_getElem? (i := 808) (by decide +kernel)⟩
theorem lw_p45 : lw_okq (⟨"AfterTheLast$Town", "enter", "(III)V"⟩, 18) := ⟨⟨by decide +kernel, by decide +kernel⟩, List.mem_of_getElem? (i := 121) (by decide +kernel), List.mem_of_getElem? (i := 811) (by decide +kernel), List.mem_of_getElem? (i := 812) (by decide +kernel)⟩
theorem lw_p46 : lw_okq (⟨"AfterTheLast$Town", "endWaits", "(II)V"⟩, 18) := ⟨⟨by decide +kernel, by decide +kernel⟩, List.mem_of_getElem? (i := 121) (by decide +kernel), List.mem_of_getElem? (i := 816) (by decide +kernel), List.mem_of_getElem? (i := 817) (by decide +kernel)⟩
theorem lw_p47 : lw_okq (⟨"AfterTheLast$Town", "leaveByWindow", "(I)Z"⟩, 18) := ⟨⟨by decide +kernel, by decide +kernel⟩, List.mem_of_getElem? (i := 121) (by decide +kernel), List.mem_of_getElem? (i := 824) (by decide +kernel), List.mem_of_getElem? (i := 825) (by decide +kernel)⟩
def lw_privs_3 : List (MethodName × Nat) := [(⟨"AfterTheLast$RuleReader", "readBehindFact", "(I)V"⟩, 15), (⟨"AfterTheLast$RuleReader", "closeBracket", "()V"⟩, 15), (⟨"AfterTheLast$RuleReader", "endClause", "()V"⟩, 15), (⟨"AfterTheLast$Town", "isHouse", "(I)Z"⟩, 18), (⟨"AfterTheLast$Town", "lastIn", "(I)I"⟩, 18), (⟨"AfterTheLast$Town", "firstIn", "(I)I"⟩, 18), (⟨"AfterTheLast$Town", "isStay", "(I)Z"⟩, 18), (⟨"AfterTheLast$Town", "mayLeave", "(I)Z"⟩, 18), (⟨"AfterTheLast$Town", "after", "(I)I"⟩, 18), (⟨"AfterTheLast$Town", "served", "()I"⟩, 18), (⟨"AfterTheLast$Town", "missed", "()I"⟩, 18), (⟨"AfterTheLast$Town", "allInside", "()I"⟩, 18), (⟨"AfterTheLast$Town", "roomLeft", "(I)I"⟩, 18), (⟨"AfterTheLast$Town", "enter", "(III)V"⟩, 18), (⟨"AfterTheLast$Town", "endWaits", "(II)V"⟩, 18), (⟨"AfterTheLast$Town", "leaveByWindow", "(I)Z"⟩, 18)]
theorem lw_r3 : ∀ q ∈ lw_privs_3, lw_okq q := List.forall_mem_cons.mpr ⟨lw_p32, List.forall_mem_cons.mpr ⟨lw_p33, List.forall_mem_cons.mpr ⟨lw_p34, List.forall_mem_cons.mpr ⟨lw_p35, List.forall_mem_cons.mpr ⟨lw_p36, List.forall_mem_cons.mpr ⟨lw_p37, List.forall_mem_cons.mpr ⟨lw_p38, List.forall_mem_cons.mpr ⟨lw_p39, List.forall_mem_cons.mpr ⟨lw_p40, List.forall_mem_cons.mpr ⟨lw_p41, List.forall_mem_cons.mpr ⟨lw_p42, List.forall_mem_cons.mpr ⟨lw_p43, List.forall_mem_cons.mpr ⟨lw_p44, List.forall_mem_cons.mpr ⟨lw_p45, List.forall_mem_cons.mpr ⟨lw_p46, List.forall_mem_cons.mpr ⟨lw_p47, fun _ h => absurd h List.not_mem_nil⟩⟩⟩⟩⟩⟩⟩⟩⟩⟩⟩⟩⟩⟩⟩⟩
theorem lw_p48 : lw_okq (⟨"AfterTheLast$Town", "leave", "(I)V"⟩, 18) := ⟨⟨by decide +kernel, by decide +kernel⟩, List.mem_of_getElem? (i := 121) (by decide +kernel), List.mem_of_getElem? (i := 828) (by decide +kernel), List.mem_of_getElem? (i := 829) (by decide +kernel)⟩
theorem lw_p49 : lw_okq (⟨"AfterTheLast$Town", "placeOf", "(I)I"⟩, 18) := ⟨⟨by decide +kernel, by decide +kernel⟩, List.mem_of_getElem? (i := 121) (by decide +kernel), List.mem_of_getElem? (i := 832) (by decide +kernel), List.mem_of_getElem? (i := 833) (by decide +kernel)⟩
theorem lw_p50 : lw_okq (⟨"AfterTheLast", "ruleAt", "(I)LAfterTheLast$Rule;"⟩, 12) := ⟨⟨by decide +kernel, by decide +kernel⟩, List.mem_of_getElem? (i := 23) (by decide +kernel), List.mem_of_getElem? (i := 841) (by decide +kernel), List.mem_of_getElem? (i := 842) (by decide +kernel)⟩
theorem lw_p51 : lw_okq (⟨"AfterTheLast$Clock", "quarters", "(LAfterTheLast$Rule;LAfterTheLast$Town;I)V"⟩, 2) := ⟨⟨by decide +kernel, by decide +kernel⟩, List.mem_of_getElem? (i := 320) (by decide +kernel), List.mem_of_getElem? (i := 845) (by decide +kernel), List.mem_of_getElem? (i := 846) (by decide +kernel)⟩
theorem lw_p52 : lw_okq (⟨"AfterTheLast$Clock", "letGo", "(LAfterTheLast$Rule;LAfterTheLast$Town;)V"⟩, 2) := ⟨⟨by decide +kernel, by decide +kernel⟩, List.mem_of_getElem? (i := 320) (by decide +kernel), List.mem_of_getElem? (i := 849) (by decide +kernel), List.mem_of_getElem? (i := 850) (by decide +kernel)⟩
theorem lw_p53 : lw_okq (⟨"AfterTheLast$Town", "isDue", "(I)Z"⟩, 18) := ⟨⟨by decide +kernel, by decide +kernel⟩, List.mem_of_getElem? (i := 121) (by decide +kernel), List.mem_of_getElem? (i := 853) (by decide +kernel), List.mem_of_getElem? (i := 854) (by decide +kernel)⟩
theorem lw_p54 : lw_okq (⟨"AfterTheLast$Clock", "someTestHolds", "(LAfterTheLast$Rule;ILAfterTheLast$Town;II)Z"⟩, 2) := ⟨⟨by decide +kernel, by decide +kernel⟩, List.mem_of_getElem? (i := 320) (by decide +kernel), List.mem_of_getElem? (i := 858) (by decide +kernel), List.mem_of_getElem? (i := 859) (by decide +kernel)⟩
theorem lw_p55 : lw_okq (⟨"AfterTheLast$Clock", "testHolds", "(LAfterTheLast$Rule;ILAfterTheLast$Town;II)Z"⟩, 2) := ⟨⟨by decide +kernel, by decide +kernel⟩, List.mem_of_getElem? (i := 320) (by decide +kernel), List.mem_of_getElem? (i := 862) (by decide +kernel), List.mem_of_getElem? (i := 863) (by decide +kernel)⟩
theorem lw_p56 : lw_okq (⟨"AfterTheLast$Rule", "start", "(I)I"⟩, 5) := ⟨⟨by decide +kernel, by decide +kernel⟩, List.mem_of_getElem? (i := 704) (by decide +kernel), List.mem_of_getElem? (i := 866) (by decide +kernel), List.mem_of_getElem? (i := 867) (by decide +kernel)⟩
theorem lw_p57 : lw_okq (⟨"AfterTheLast$Clock", "letOutByWindow", "(LAfterTheLast$Rule;LAfterTheLast$Town;)V"⟩, 2) := ⟨⟨by decide +kernel, by decide +kernel⟩, List.mem_of_getElem? (i := 320) (by decide +kernel), List.mem_of_getElem? (i := 884) (by decide +kernel), List.mem_of_getElem? (i := 885) (by decide +kernel)⟩
theorem lw_p58 : lw_okq (⟨"AfterTheLast$Rule", "has", "(I)Z"⟩, 5) := ⟨⟨by decide +kernel, by decide +kernel⟩, List.mem_of_getElem? (i := 704) (by decide +kernel), List.mem_of_getElem? (i := 888) (by decide +kernel), List.mem_of_getElem? (i := 889) (by decide +kernel)⟩
theorem lw_p59 : lw_okq (⟨"AfterTheLast$Clock", "letIn", "(LAfterTheLast$Rule;LAfterTheLast$Town;)V"⟩, 2) := ⟨⟨by decide +kernel, by decide +kernel⟩, List.mem_of_getElem? (i := 320) (by decide +kernel), List.mem_of_getElem? (i := 893) (by decide +kernel), List.mem_of_getElem? (i := 894) (by decide +kernel)⟩
theorem lw_p60 : lw_okq (⟨"AfterTheLast$Town", "findStaysToBegin", "([I)V"⟩, 18) := ⟨⟨by decide +kernel, by decide +kernel⟩, List.mem_of_getElem? (i := 121) (by decide +kernel), List.mem_of_getElem? (i := 897) (by decide +kernel), List.mem_of_getElem? (i := 898) (by decide +kernel)⟩
theorem lw_p61 : lw_okq (⟨"AfterTheLast$Town", "windowsLeft", "()I"⟩, 18) := ⟨⟨by decide +kernel, by decide +kernel⟩, List.mem_of_getElem? (i := 121) (by decide +kernel), List.mem_of_getElem? (i := 909) (by decide +kernel), List.mem_of_getElem? (i := 910) (by decide +kernel)⟩
theorem lw_p62 : lw_okq (⟨"AfterTheLast$Town", "isSetOfStays", "(I)Z"⟩, 18) := ⟨⟨by decide +kernel, by decide +kernel⟩, List.mem_of_getElem? (i := 121) (by decide +kernel), List.mem_of_getElem? (i := 949) (by decide +kernel), List.mem_of_getElem? (i := 950) (by decide +kernel)⟩
theorem lw_p63 : lw_okq (⟨"AfterTheLast$Crossings", "bestScore", "(LAfterTheLast$Town;I)I"⟩, 9) := ⟨⟨by decide +kernel, by decide +kernel⟩, List.mem_of_getElem? (i := 334) (by decide +kernel), List.mem_of_getElem? (i := 961) (by decide +kernel), List.mem_of_getElem? (i := 962) (by decide +kernel)⟩
def lw_privs_4 : List (MethodName × Nat) := [(⟨"AfterTheLast$Town", "leave", "(I)V"⟩, 18), (⟨"AfterTheLast$Town", "placeOf", "(I)I"⟩, 18), (⟨"AfterTheLast", "ruleAt", "(I)LAfterTheLast$Rule;"⟩, 12), (⟨"AfterTheLast$Clock", "quarters", "(LAfterTheLast$Rule;LAfterTheLast$Town;I)V"⟩, 2), (⟨"AfterTheLast$Clock", "letGo", "(LAfterTheLast$Rule;LAfterTheLast$Town;)V"⟩, 2), (⟨"AfterTheLast$Town", "isDue", "(I)Z"⟩, 18), (⟨"AfterTheLast$Clock", "someTestHolds", "(LAfterTheLast$Rule;ILAfterTheLast$Town;II)Z"⟩, 2), (⟨"AfterTheLast$Clock", "testHolds", "(LAfterTheLast$Rule;ILAfterTheLast$Town;II)Z"⟩, 2), (⟨"AfterTheLast$Rule", "start", "(I)I"⟩, 5), (⟨"AfterTheLast$Clock", "letOutByWindow", "(LAfterTheLast$Rule;LAfterTheLast$Town;)V"⟩, 2), (⟨"AfterTheLast$Rule", "has", "(I)Z"⟩, 5), (⟨"AfterTheLast$Clock", "letIn", "(LAfterTheLast$Rule;LAfterTheLast$Town;)V"⟩, 2), (⟨"AfterTheLast$Town", "findStaysToBegin", "([I)V"⟩, 18), (⟨"AfterTheLast$Town", "windowsLeft", "()I"⟩, 18), (⟨"AfterTheLast$Town", "isSetOfStays", "(I)Z"⟩, 18), (⟨"AfterTheLast$Crossings", "bestScore", "(LAfterTheLast$Town;I)I"⟩, 9)]
theorem lw_r4 : ∀ q ∈ lw_privs_4, lw_okq q := List.forall_mem_cons.mpr ⟨lw_p48, List.forall_mem_cons.mpr ⟨lw_p49, List.forall_mem_cons.mpr ⟨lw_p50, List.forall_mem_cons.mpr ⟨lw_p51, List.forall_mem_cons.mpr ⟨lw_p52, List.forall_mem_cons.mpr ⟨lw_p53, List.forall_mem_cons.mpr ⟨lw_p54, List.forall_mem_cons.mpr ⟨lw_p55, List.forall_mem_cons.mpr ⟨lw_p56, List.forall_mem_cons.mpr ⟨lw_p57, List.forall_mem_cons.mpr ⟨lw_p58, List.forall_mem_cons.mpr ⟨lw_p59, List.forall_mem_cons.mpr ⟨lw_p60, List.forall_mem_cons.mpr ⟨lw_p61, List.forall_mem_cons.mpr ⟨lw_p62, List.forall_mem_cons.mpr ⟨lw_p63, fun _ h => absurd h List.not_mem_nil⟩⟩⟩⟩⟩⟩⟩⟩⟩⟩⟩⟩⟩⟩⟩⟩
theorem lw_p64 : lw_okq (⟨"AfterTheLast$Crossings", "sortStays", "(LAfterTheLast$Town;I)I"⟩, 9) := ⟨⟨by decide +kernel, by decide +kernel⟩, List.mem_of_getElem? (i := 334) (by decide +kernel), List.mem_of_getElem? (i := 965) (by decide +kernel), List.mem_of_getElem? (i := 966) (by decide +kernel)⟩
theorem lw_p65 : lw_okq (⟨"AfterTheLast$Crossings", "bestChain", "(LAfterTheLast$Town;[III)I"⟩, 9) := ⟨⟨by decide +kernel, by decide +kernel⟩, List.mem_of_getElem? (i := 334) (by decide +kernel), List.mem_of_getElem? (i := 974) (by decide +kernel), List.mem_of_getElem? (i := 975) (by decide +kernel)⟩
theorem lw_p66 : lw_okq (⟨"AfterTheLast$Crossings", "draw", "(LAfterTheLast$Town;II)V"⟩, 9) := ⟨⟨by decide +kernel, by decide +kernel⟩, List.mem_of_getElem? (i := 334) (by decide +kernel), List.mem_of_getElem? (i := 1000) (by decide +kernel), List.mem_of_getElem? (i := 1001) (by decide +kernel)⟩
theorem lw_p67 : lw_okq (⟨"AfterTheLast$Crossings", "fewestParts", "()I"⟩, 9) := ⟨⟨by decide +kernel, by decide +kernel⟩, List.mem_of_getElem? (i := 334) (by decide +kernel), List.mem_of_getElem? (i := 1004) (by decide +kernel), List.mem_of_getElem? (i := 1005) (by decide +kernel)⟩
theorem lw_p68 : lw_okq (⟨"AfterTheLast$Crossings", "mostOfWhichAllCross", "()I"⟩, 9) := ⟨⟨by decide +kernel, by decide +kernel⟩, List.mem_of_getElem? (i := 334) (by decide +kernel), List.mem_of_getElem? (i := 1008) (by decide +kernel), List.mem_of_getElem? (i := 1009) (by decide +kernel)⟩
theorem lw_p69 : lw_okq (⟨"AfterTheLast$Told", "addWish", "(IIIII)V"⟩, 16) := ⟨⟨by decide +kernel, by decide +kernel⟩, List.mem_of_getElem? (i := 228) (by decide +kernel), List.mem_of_getElem? (i := 1026) (by decide +kernel), List.mem_of_getElem? (i := 1027) (by decide +kernel)⟩
theorem lw_p70 : lw_okq (⟨"AfterTheLast$Planner", "look", "(LAfterTheLast$Told;)V"⟩, 7) := ⟨⟨by decide +kernel, by decide +kernel⟩, List.mem_of_getElem? (i := 368) (by decide +kernel), List.mem_of_getElem? (i := 1034) (by decide +kernel), List.mem_of_getElem? (i := 1035) (by decide +kernel)⟩
theorem lw_p71 : lw_okq (⟨"AfterTheLast$Planner", "compare", "(LAfterTheLast$Told;II)V"⟩, 7) := ⟨⟨by decide +kernel, by decide +kernel⟩, List.mem_of_getElem? (i := 368) (by decide +kernel), List.mem_of_getElem? (i := 1040) (by decide +kernel), List.mem_of_getElem? (i := 1041) (by decide +kernel)⟩
theorem lw_p72 : lw_okq (⟨"AfterTheLast$Planner", "howMany", "()I"⟩, 7) := ⟨⟨by decide +kernel, by decide +kernel⟩, List.mem_of_getElem? (i := 368) (by decide +kernel), List.mem_of_getElem? (i := 1050) (by decide +kernel), List.mem_of_getElem? (i := 1051) (by decide +kernel)⟩
theorem lw_p73 : lw_okq (⟨"AfterTheLast$Planner", "countLastTwo", "(I)I"⟩, 7) := ⟨⟨by decide +kernel, by decide +kernel⟩, List.mem_of_getElem? (i := 368) (by decide +kernel), List.mem_of_getElem? (i := 1060) (by decide +kernel), List.mem_of_getElem? (i := 1061) (by decide +kernel)⟩
theorem lw_p74 : lw_okq (⟨"AfterTheLast$Planner", "isOpen", "(II)Z"⟩, 7) := ⟨⟨by decide +kernel, by decide +kernel⟩, List.mem_of_getElem? (i := 368) (by decide +kernel), List.mem_of_getElem? (i := 1064) (by decide +kernel), List.mem_of_getElem? (i := 1065) (by decide +kernel)⟩
theorem lw_p75 : lw_okq (⟨"AfterTheLast$Planner", "choose", "(II)Z"⟩, 7) := ⟨⟨by decide +kernel, by decide +kernel⟩, List.mem_of_getElem? (i := 368) (by decide +kernel), List.mem_of_getElem? (i := 1068) (by decide +kernel), List.mem_of_getElem? (i := 1069) (by decide +kernel)⟩
theorem lw_p76 : lw_okq (⟨"AfterTheLast$Planner", "findFirst", "()Z"⟩, 7) := ⟨⟨by decide +kernel, by decide +kernel⟩, List.mem_of_getElem? (i := 368) (by decide +kernel), List.mem_of_getElem? (i := 1072) (by decide +kernel), List.mem_of_getElem? (i := 1073) (by decide +kernel)⟩
theorem lw_p77 : lw_okq (⟨"AfterTheLast$Planner", "beginOf", "(I)I"⟩, 7) := ⟨⟨by decide +kernel, by decide +kernel⟩, List.mem_of_getElem? (i := 368) (by decide +kernel), List.mem_of_getElem? (i := 1079) (by decide +kernel), List.mem_of_getElem? (i := 1080) (by decide +kernel)⟩
theorem lw_p78 : lw_okq (⟨"AfterTheLast$Rings", "look", "(LAfterTheLast$Town;)V"⟩, 1) := ⟨⟨by decide +kernel, by decide +kernel⟩, List.mem_of_getElem? (i := 397) (by decide +kernel), List.mem_of_getElem? (i := 1091) (by decide +kernel), List.mem_of_getElem? (i := 1092) (by decide +kernel)⟩
theorem lw_p79 : lw_okq (⟨"AfterTheLast$Rings", "shortest", "()I"⟩, 1) := ⟨⟨by decide +kernel, by decide +kernel⟩, List.mem_of_getElem? (i := 397) (by decide +kernel), List.mem_of_getElem? (i := 1101) (by decide +kernel), List.mem_of_getElem? (i := 1102) (by decide +kernel)⟩
def lw_privs_5 : List (MethodName × Nat) := [(⟨"AfterTheLast$Crossings", "sortStays", "(LAfterTheLast$Town;I)I"⟩, 9), (⟨"AfterTheLast$Crossings", "bestChain", "(LAfterTheLast$Town;[III)I"⟩, 9), (⟨"AfterTheLast$Crossings", "draw", "(LAfterTheLast$Town;II)V"⟩, 9), (⟨"AfterTheLast$Crossings", "fewestParts", "()I"⟩, 9), (⟨"AfterTheLast$Crossings", "mostOfWhichAllCross", "()I"⟩, 9), (⟨"AfterTheLast$Told", "addWish", "(IIIII)V"⟩, 16), (⟨"AfterTheLast$Planner", "look", "(LAfterTheLast$Told;)V"⟩, 7), (⟨"AfterTheLast$Planner", "compare", "(LAfterTheLast$Told;II)V"⟩, 7), (⟨"AfterTheLast$Planner", "howMany", "()I"⟩, 7), (⟨"AfterTheLast$Planner", "countLastTwo", "(I)I"⟩, 7), (⟨"AfterTheLast$Planner", "isOpen", "(II)Z"⟩, 7), (⟨"AfterTheLast$Planner", "choose", "(II)Z"⟩, 7), (⟨"AfterTheLast$Planner", "findFirst", "()Z"⟩, 7), (⟨"AfterTheLast$Planner", "beginOf", "(I)I"⟩, 7), (⟨"AfterTheLast$Rings", "look", "(LAfterTheLast$Town;)V"⟩, 1), (⟨"AfterTheLast$Rings", "shortest", "()I"⟩, 1)]
theorem lw_r5 : ∀ q ∈ lw_privs_5, lw_okq q := List.forall_mem_cons.mpr ⟨lw_p64, List.forall_mem_cons.mpr ⟨lw_p65, List.forall_mem_cons.mpr ⟨lw_p66, List.forall_mem_cons.mpr ⟨lw_p67, List.forall_mem_cons.mpr ⟨lw_p68, List.forall_mem_cons.mpr ⟨lw_p69, List.forall_mem_cons.mpr ⟨lw_p70, List.forall_mem_cons.mpr ⟨lw_p71, List.forall_mem_cons.mpr ⟨lw_p72, List.forall_mem_cons.mpr ⟨lw_p73, List.forall_mem_cons.mpr ⟨lw_p74, List.forall_mem_cons.mpr ⟨lw_p75, List.forall_mem_cons.mpr ⟨lw_p76, List.forall_mem_cons.mpr ⟨lw_p77, List.forall_mem_cons.mpr ⟨lw_p78, List.forall_mem_cons.mpr ⟨lw_p79, fun _ h => absurd h List.not_mem_nil⟩⟩⟩⟩⟩⟩⟩⟩⟩⟩⟩⟩⟩⟩⟩⟩
theorem lw_p80 : lw_okq (⟨"AfterTheLast$Rings", "ringThrough", "(I)I"⟩, 1) := ⟨⟨by decide +kernel, by decide +kernel⟩, List.mem_of_getElem? (i := 397) (by decide +kernel), List.mem_of_getElem? (i := 1105) (by decide +kernel), List.mem_of_getElem? (i := 1106) (by decide +kernel)⟩
theorem lw_p81 : lw_okq (⟨"AfterTheLast$Rings", "stuck", "()I"⟩, 1) := ⟨⟨by decide +kernel, by decide +kernel⟩, List.mem_of_getElem? (i := 397) (by decide +kernel), List.mem_of_getElem? (i := 1109) (by decide +kernel), List.mem_of_getElem? (i := 1110) (by decide +kernel)⟩
theorem lw_p82 : lw_okq (⟨"AfterTheLast$Rings", "stuckAmong", "(I)I"⟩, 1) := ⟨⟨by decide +kernel, by decide +kernel⟩, List.mem_of_getElem? (i := 397) (by decide +kernel), List.mem_of_getElem? (i := 1113) (by decide +kernel), List.mem_of_getElem? (i := 1114) (by decide +kernel)⟩
theorem lw_p83 : lw_okq (⟨"AfterTheLast$Rings", "undone", "()I"⟩, 1) := ⟨⟨by decide +kernel, by decide +kernel⟩, List.mem_of_getElem? (i := 397) (by decide +kernel), List.mem_of_getElem? (i := 1117) (by decide +kernel), List.mem_of_getElem? (i := 1118) (by decide +kernel)⟩
theorem lw_p84 : lw_okq (⟨"AfterTheLast$Told", "placeInRow", "(I)I"⟩, 16) := ⟨⟨by decide +kernel, by decide +kernel⟩, List.mem_of_getElem? (i := 228) (by decide +kernel), List.mem_of_getElem? (i := 1135) (by decide +kernel), List.mem_of_getElem? (i := 1136) (by decide +kernel)⟩
theorem lw_p85 : lw_okq (⟨"AfterTheLast$Guesses", "countOrders", "(LAfterTheLast$Told;)V"⟩, 4) := ⟨⟨by decide +kernel, by decide +kernel⟩, List.mem_of_getElem? (i := 407) (by decide +kernel), List.mem_of_getElem? (i := 1147) (by decide +kernel), List.mem_of_getElem? (i := 1148) (by decide +kernel)⟩
theorem lw_p86 : lw_okq (⟨"AfterTheLast$Guesses", "mayComeNext", "(II)Z"⟩, 4) := ⟨⟨by decide +kernel, by decide +kernel⟩, List.mem_of_getElem? (i := 407) (by decide +kernel), List.mem_of_getElem? (i := 1153) (by decide +kernel), List.mem_of_getElem? (i := 1154) (by decide +kernel)⟩
theorem lw_p87 : lw_okq (⟨"AfterTheLast$Guesses", "howManyOrders", "()I"⟩, 4) := ⟨⟨by decide +kernel, by decide +kernel⟩, List.mem_of_getElem? (i := 407) (by decide +kernel), List.mem_of_getElem? (i := 1157) (by decide +kernel), List.mem_of_getElem? (i := 1158) (by decide +kernel)⟩
theorem lw_p88 : lw_okq (⟨"AfterTheLast$Guesses", "inFirstOrder", "(LAfterTheLast$Told;I)I"⟩, 4) := ⟨⟨by decide +kernel, by decide +kernel⟩, List.mem_of_getElem? (i := 407) (by decide +kernel), List.mem_of_getElem? (i := 1161) (by decide +kernel), List.mem_of_getElem? (i := 1162) (by decide +kernel)⟩
theorem lw_p89 : lw_okq (⟨"AfterTheLast$Guesses", "firstToCome", "(LAfterTheLast$Told;I)I"⟩, 4) := ⟨⟨by decide +kernel, by decide +kernel⟩, List.mem_of_getElem? (i := 407) (by decide +kernel), List.mem_of_getElem? (i := 1165) (by decide +kernel), List.mem_of_getElem? (i := 1166) (by decide +kernel)⟩
theorem lw_p90 : lw_okq (⟨"AfterTheLast$Guesses", "valueKnocks", "(IIII)V"⟩, 4) := ⟨⟨by decide +kernel, by decide +kernel⟩, List.mem_of_getElem? (i := 407) (by decide +kernel), List.mem_of_getElem? (i := 1192) (by decide +kernel), List.mem_of_getElem? (i := 1193) (by decide +kernel)⟩
theorem lw_p91 : lw_okq (⟨"AfterTheLast$Guesses", "lettingIn", "(IIII)I"⟩, 4) := ⟨⟨by decide +kernel, by decide +kernel⟩, List.mem_of_getElem? (i := 407) (by decide +kernel), List.mem_of_getElem? (i := 1197) (by decide +kernel), List.mem_of_getElem? (i := 1198) (by decide +kernel)⟩
theorem lw_p92 : lw_okq (⟨"AfterTheLast$Guesses", "valueAt", "(I)I"⟩, 4) := ⟨⟨by decide +kernel, by decide +kernel⟩, List.mem_of_getElem? (i := 407) (by decide +kernel), List.mem_of_getElem? (i := 1201) (by decide +kernel), List.mem_of_getElem? (i := 1202) (by decide +kernel)⟩
theorem lw_p93 : lw_okq (⟨"AfterTheLast$Scene", "copyFrom", "(LAfterTheLast$Scene;)V"⟩, 2) := ⟨⟨by decide +kernel, by decide +kernel⟩, List.mem_of_getElem? (i := 115) (by decide +kernel), List.mem_of_getElem? (i := 1211) (by decide +kernel), List.mem_of_getElem? (i := 1212) (by decide +kernel)⟩
theorem lw_p94 : lw_okq (⟨"AfterTheLast$Told", "copyFrom", "(LAfterTheLast$Told;)V"⟩, 16) := ⟨⟨by decide +kernel, by decide +kernel⟩, List.mem_of_getElem? (i := 228) (by decide +kernel), List.mem_of_getElem? (i := 1216) (by decide +kernel), List.mem_of_getElem? (i := 1217) (by decide +kernel)⟩
theorem lw_p95 : lw_okq (⟨"AfterTheLastModel", "four", "(I)V"⟩, 38) := ⟨⟨by decide +kernel, by decide +kernel⟩, List.mem_of_getElem? (i := 1225) (by decide +kernel), List.mem_of_getElem? (i := 1350) (by decide +kernel), List.mem_of_getElem? (i := 1351) (by decide +kernel)⟩
def lw_privs_6 : List (MethodName × Nat) := [(⟨"AfterTheLast$Rings", "ringThrough", "(I)I"⟩, 1), (⟨"AfterTheLast$Rings", "stuck", "()I"⟩, 1), (⟨"AfterTheLast$Rings", "stuckAmong", "(I)I"⟩, 1), (⟨"AfterTheLast$Rings", "undone", "()I"⟩, 1), (⟨"AfterTheLast$Told", "placeInRow", "(I)I"⟩, 16), (⟨"AfterTheLast$Guesses", "countOrders", "(LAfterTheLast$Told;)V"⟩, 4), (⟨"AfterTheLast$Guesses", "mayComeNext", "(II)Z"⟩, 4), (⟨"AfterTheLast$Guesses", "howManyOrders", "()I"⟩, 4), (⟨"AfterTheLast$Guesses", "inFirstOrder", "(LAfterTheLast$Told;I)I"⟩, 4), (⟨"AfterTheLast$Guesses", "firstToCome", "(LAfterTheLast$Told;I)I"⟩, 4), (⟨"AfterTheLast$Guesses", "valueKnocks", "(IIII)V"⟩, 4), (⟨"AfterTheLast$Guesses", "lettingIn", "(IIII)I"⟩, 4), (⟨"AfterTheLast$Guesses", "valueAt", "(I)I"⟩, 4), (⟨"AfterTheLast$Scene", "copyFrom", "(LAfterTheLast$Scene;)V"⟩, 2), (⟨"AfterTheLast$Told", "copyFrom", "(LAfterTheLast$Told;)V"⟩, 16), (⟨"AfterTheLastModel", "four", "(I)V"⟩, 38)]
theorem lw_r6 : ∀ q ∈ lw_privs_6, lw_okq q := List.forall_mem_cons.mpr ⟨lw_p80, List.forall_mem_cons.mpr ⟨lw_p81, List.forall_mem_cons.mpr ⟨lw_p82, List.forall_mem_cons.mpr ⟨lw_p83, List.forall_mem_cons.mpr ⟨lw_p84, List.forall_mem_cons.mpr ⟨lw_p85, List.forall_mem_cons.mpr ⟨lw_p86, List.forall_mem_cons.mpr ⟨lw_p87, List.forall_mem_cons.mpr ⟨lw_p88, List.forall_mem_cons.mpr ⟨lw_p89, List.forall_mem_cons.mpr ⟨lw_p90, List.forall_mem_cons.mpr ⟨lw_p91, List.forall_mem_cons.mpr ⟨lw_p92, List.forall_mem_cons.mpr ⟨lw_p93, List.forall_mem_cons.mpr ⟨lw_p94, List.forall_mem_cons.mpr ⟨lw_p95, fun _ h => absurd h List.not_mem_nil⟩⟩⟩⟩⟩⟩⟩⟩⟩⟩⟩⟩⟩⟩⟩⟩
theorem lw_p96 : lw_okq (⟨"AfterTheLastModel", "readsAll", "()Z"⟩, 38) := ⟨⟨by decide +kernel, by decide +kernel⟩, List.mem_of_getElem? (i := 1225) (by decide +kernel), List.mem_of_getElem? (i := 1362) (by decide +kernel), List.mem_of_getElem? (i := 1363) (by decide +kernel)⟩
theorem lw_p97 : lw_okq (⟨"AfterTheLastModel", "clauseHere", "()Z"⟩, 38) := ⟨⟨by decide +kernel, by decide +kernel⟩, List.mem_of_getElem? (i := 1225) (by decide +kernel), List.mem_of_getElem? (i := 1366) (by decide +kernel), List.mem_of_getElem? (i := 1367) (by decide +kernel)⟩
theorem lw_p98 : lw_okq (⟨"AfterTheLastModel", "see", "()I"⟩, 38) := ⟨⟨by decide +kernel, by decide +kernel⟩, List.mem_of_getElem? (i := 1225) (by decide +kernel), List.mem_of_getElem? (i := 1370) (by decide +kernel), List.mem_of_getElem? (i := 1371) (by decide +kernel)⟩
theorem lw_p99 : lw_okq (⟨"AfterTheLastModel", "isWord", "(J)Z"⟩, 38) := ⟨⟨by decide +kernel, by decide +kernel⟩, List.mem_of_getElem? (i := 1225) (by decide +kernel), List.mem_of_getElem? (i := 1375) (by decide +kernel), List.mem_of_getElem? (i := 1376) (by decide +kernel)⟩
theorem lw_p100 : lw_okq (⟨"AfterTheLastModel", "isLetter", "(I)Z"⟩, 38) := ⟨⟨by decide +kernel, by decide +kernel⟩, List.mem_of_getElem? (i := 1225) (by decide +kernel), List.mem_of_getElem? (i := 1379) (by decide +kernel), List.mem_of_getElem? (i := 1380) (by decide +kernel)⟩
theorem lw_p101 : lw_okq (⟨"AfterTheLastModel", "fails", "(II)Z"⟩, 38) := ⟨⟨by decide +kernel, by decide +kernel⟩, List.mem_of_getElem? (i := 1225) (by decide +kernel), List.mem_of_getElem? (i := 1387) (by decide +kernel), List.mem_of_getElem? (i := 1388) (by decide +kernel)⟩
theorem lw_p102 : lw_okq (⟨"AfterTheLastModel", "isHouseHere", "(I)Z"⟩, 38) := ⟨⟨by decide +kernel, by decide +kernel⟩, List.mem_of_getElem? (i := 1225) (by decide +kernel), List.mem_of_getElem? (i := 1391) (by decide +kernel), List.mem_of_getElem? (i := 1392) (by decide +kernel)⟩
theorem lw_p103 : lw_okq (⟨"AfterTheLastModel", "passWord", "()V"⟩, 38) := ⟨⟨by decide +kernel, by decide +kernel⟩, List.mem_of_getElem? (i := 1225) (by decide +kernel), List.mem_of_getElem? (i := 1395) (by decide +kernel), List.mem_of_getElem? (i := 1396) (by decide +kernel)⟩
theorem lw_p104 : lw_okq (⟨"AfterTheLastModel", "numberHere", "(II)Z"⟩, 38) := ⟨⟨by decide +kernel, by decide +kernel⟩, List.mem_of_getElem? (i := 1225) (by decide +kernel), List.mem_of_getElem? (i := 1402) (by decide +kernel), List.mem_of_getElem? (i := 1403) (by decide +kernel)⟩
theorem lw_p105 : lw_okq (⟨"AfterTheLastModel", "isDigit", "(I)Z"⟩, 38) := ⟨⟨by decide +kernel, by decide +kernel⟩, List.mem_of_getElem? (i := 1225) (by decide +kernel), List.mem_of_getElem? (i := 1406) (by decide +kernel), List.mem_of_getElem? (i := 1407) (by decide +kernel)⟩
theorem lw_p106 : lw_okq (⟨"AfterTheLastModel", "isStayHere", "(I)Z"⟩, 38) := ⟨⟨by decide +kernel, by decide +kernel⟩, List.mem_of_getElem? (i := 1225) (by decide +kernel), List.mem_of_getElem? (i := 1413) (by decide +kernel), List.mem_of_getElem? (i := 1414) (by decide +kernel)⟩
theorem lw_p107 : lw_okq (⟨"AfterTheLastModel", "clauseOf", "(I)Z"⟩, 38) := ⟨⟨by decide +kernel, by decide +kernel⟩, List.mem_of_getElem? (i := 1225) (by decide +kernel), List.mem_of_getElem? (i := 1417) (by decide +kernel), List.mem_of_getElem? (i := 1418) (by decide +kernel)⟩
theorem lw_p108 : lw_okq (⟨"AfterTheLastModel", "tested", "()Z"⟩, 38) := ⟨⟨by decide +kernel, by decide +kernel⟩, List.mem_of_getElem? (i := 1225) (by decide +kernel), List.mem_of_getElem? (i := 1421) (by decide +kernel), List.mem_of_getElem? (i := 1422) (by decide +kernel)⟩
theorem lw_p109 : lw_okq (⟨"AfterTheLastModel", "fact", "()Z"⟩, 38) := ⟨⟨by decide +kernel, by decide +kernel⟩, List.mem_of_getElem? (i := 1225) (by decide +kernel), List.mem_of_getElem? (i := 1425) (by decide +kernel), List.mem_of_getElem? (i := 1426) (by decide +kernel)⟩
theorem lw_p110 : lw_okq (⟨"AfterTheLastModel", "opens", "(I)Z"⟩, 38) := ⟨⟨by decide +kernel, by decide +kernel⟩, List.mem_of_getElem? (i := 1225) (by decide +kernel), List.mem_of_getElem? (i := 1430) (by decide +kernel), List.mem_of_getElem? (i := 1431) (by decide +kernel)⟩
theorem lw_p111 : lw_okq (⟨"AfterTheLastModel", "compare", "()Z"⟩, 38) := ⟨⟨by decide +kernel, by decide +kernel⟩, List.mem_of_getElem? (i := 1225) (by decide +kernel), List.mem_of_getElem? (i := 1434) (by decide +kernel), List.mem_of_getElem? (i := 1435) (by decide +kernel)⟩
def lw_privs_7 : List (MethodName × Nat) := [(⟨"AfterTheLastModel", "readsAll", "()Z"⟩, 38), (⟨"AfterTheLastModel", "clauseHere", "()Z"⟩, 38), (⟨"AfterTheLastModel", "see", "()I"⟩, 38), (⟨"AfterTheLastModel", "isWord", "(J)Z"⟩, 38), (⟨"AfterTheLastModel", "isLetter", "(I)Z"⟩, 38), (⟨"AfterTheLastModel", "fails", "(II)Z"⟩, 38), (⟨"AfterTheLastModel", "isHouseHere", "(I)Z"⟩, 38), (⟨"AfterTheLastModel", "passWord", "()V"⟩, 38), (⟨"AfterTheLastModel", "numberHere", "(II)Z"⟩, 38), (⟨"AfterTheLastModel", "isDigit", "(I)Z"⟩, 38), (⟨"AfterTheLastModel", "isStayHere", "(I)Z"⟩, 38), (⟨"AfterTheLastModel", "clauseOf", "(I)Z"⟩, 38), (⟨"AfterTheLastModel", "tested", "()Z"⟩, 38), (⟨"AfterTheLastModel", "fact", "()Z"⟩, 38), (⟨"AfterTheLastModel", "opens", "(I)Z"⟩, 38), (⟨"AfterTheLastModel", "compare", "()Z"⟩, 38)]
theorem lw_r7 : ∀ q ∈ lw_privs_7, lw_okq q := List.forall_mem_cons.mpr ⟨lw_p96, List.forall_mem_cons.mpr ⟨lw_p97, List.forall_mem_cons.mpr ⟨lw_p98, List.forall_mem_cons.mpr ⟨lw_p99, List.forall_mem_cons.mpr ⟨lw_p100, List.forall_mem_cons.mpr ⟨lw_p101, List.forall_mem_cons.mpr ⟨lw_p102, List.forall_mem_cons.mpr ⟨lw_p103, List.forall_mem_cons.mpr ⟨lw_p104, List.forall_mem_cons.mpr ⟨lw_p105, List.forall_mem_cons.mpr ⟨lw_p106, List.forall_mem_cons.mpr ⟨lw_p107, List.forall_mem_cons.mpr ⟨lw_p108, List.forall_mem_cons.mpr ⟨lw_p109, List.forall_mem_cons.mpr ⟨lw_p110, List.forall_mem_cons.mpr ⟨lw_p111, fun _ h => absurd h List.not_mem_nil⟩⟩⟩⟩⟩⟩⟩⟩⟩⟩⟩⟩⟩⟩⟩⟩
theorem lw_p112 : lw_okq (⟨"AfterTheLastModel", "sum", "()Z"⟩, 38) := ⟨⟨by decide +kernel, by decide +kernel⟩, List.mem_of_getElem? (i := 1225) (by decide +kernel), List.mem_of_getElem? (i := 1438) (by decide +kernel), List.mem_of_getElem? (i := 1439) (by decide +kernel)⟩
theorem lw_p113 : lw_okq (⟨"AfterTheLastModel", "term", "()Z"⟩, 38) := ⟨⟨by decide +kernel, by decide +kernel⟩, List.mem_of_getElem? (i := 1225) (by decide +kernel), List.mem_of_getElem? (i := 1442) (by decide +kernel), List.mem_of_getElem? (i := 1443) (by decide +kernel)⟩
theorem lw_p114 : lw_okq (⟨"AfterTheLastModel", "value", "()Z"⟩, 38) := ⟨⟨by decide +kernel, by decide +kernel⟩, List.mem_of_getElem? (i := 1225) (by decide +kernel), List.mem_of_getElem? (i := 1446) (by decide +kernel), List.mem_of_getElem? (i := 1447) (by decide +kernel)⟩
theorem lw_p115 : lw_okq (⟨"AfterTheLastModel", "makes", "(I)Z"⟩, 38) := ⟨⟨by decide +kernel, by decide +kernel⟩, List.mem_of_getElem? (i := 1225) (by decide +kernel), List.mem_of_getElem? (i := 1451) (by decide +kernel), List.mem_of_getElem? (i := 1452) (by decide +kernel)⟩
theorem lw_p116 : lw_okq (⟨"AfterTheLastModel", "puts", "(II)V"⟩, 38) := ⟨⟨by decide +kernel, by decide +kernel⟩, List.mem_of_getElem? (i := 1225) (by decide +kernel), List.mem_of_getElem? (i := 1455) (by decide +kernel), List.mem_of_getElem? (i := 1456) (by decide +kernel)⟩
theorem lw_p117 : lw_okq (⟨"AfterTheLastModel", "wordHere", "()I"⟩, 38) := ⟨⟨by decide +kernel, by decide +kernel⟩, List.mem_of_getElem? (i := 1225) (by decide +kernel), List.mem_of_getElem? (i := 1459) (by decide +kernel), List.mem_of_getElem? (i := 1460) (by decide +kernel)⟩
theorem lw_p118 : lw_okq (⟨"AfterTheLastModel", "closes", "()V"⟩, 38) := ⟨⟨by decide +kernel, by decide +kernel⟩, List.mem_of_getElem? (i := 1225) (by decide +kernel), List.mem_of_getElem? (i := 1472) (by decide +kernel), List.mem_of_getElem? (i := 1473) (by decide +kernel)⟩
theorem lw_p119 : lw_okq (⟨"AfterTheLastModel", "settles", "(I)V"⟩, 38) := ⟨⟨by decide +kernel, by decide +kernel⟩, List.mem_of_getElem? (i := 1225) (by decide +kernel), List.mem_of_getElem? (i := 1476) (by decide +kernel), List.mem_of_getElem? (i := 1477) (by decide +kernel)⟩
theorem lw_p120 : lw_okq (⟨"AfterTheLastModel", "isInside", "()Z"⟩, 38) := ⟨⟨by decide +kernel, by decide +kernel⟩, List.mem_of_getElem? (i := 1225) (by decide +kernel), List.mem_of_getElem? (i := 1483) (by decide +kernel), List.mem_of_getElem? (i := 1484) (by decide +kernel)⟩
theorem lw_p121 : lw_okq (⟨"AfterTheLastModel", "leaves", "(I)V"⟩, 38) := ⟨⟨by decide +kernel, by decide +kernel⟩, List.mem_of_getElem? (i := 1225) (by decide +kernel), List.mem_of_getElem? (i := 1493) (by decide +kernel), List.mem_of_getElem? (i := 1494) (by decide +kernel)⟩
theorem lw_p122 : lw_okq (⟨"AfterTheLastModel", "isHouse", "(I)Z"⟩, 38) := ⟨⟨by decide +kernel, by decide +kernel⟩, List.mem_of_getElem? (i := 1225) (by decide +kernel), List.mem_of_getElem? (i := 1501) (by decide +kernel), List.mem_of_getElem? (i := 1502) (by decide +kernel)⟩
theorem lw_p123 : lw_okq (⟨"AfterTheLastModel", "houseOf", "(II)I"⟩, 38) := ⟨⟨by decide +kernel, by decide +kernel⟩, List.mem_of_getElem? (i := 1225) (by decide +kernel), List.mem_of_getElem? (i := 1506) (by decide +kernel), List.mem_of_getElem? (i := 1507) (by decide +kernel)⟩
theorem lw_p124 : lw_okq (⟨"AfterTheLastModel", "inside", "(I)I"⟩, 38) := ⟨⟨by decide +kernel, by decide +kernel⟩, List.mem_of_getElem? (i := 1225) (by decide +kernel), List.mem_of_getElem? (i := 1510) (by decide +kernel), List.mem_of_getElem? (i := 1511) (by decide +kernel)⟩
theorem lw_p125 : lw_okq (⟨"AfterTheLastModel", "personOf", "(II)I"⟩, 38) := ⟨⟨by decide +kernel, by decide +kernel⟩, List.mem_of_getElem? (i := 1225) (by decide +kernel), List.mem_of_getElem? (i := 1514) (by decide +kernel), List.mem_of_getElem? (i := 1515) (by decide +kernel)⟩
theorem lw_p126 : lw_okq (⟨"AfterTheLastModel", "isStay", "(I)Z"⟩, 38) := ⟨⟨by decide +kernel, by decide +kernel⟩, List.mem_of_getElem? (i := 1225) (by decide +kernel), List.mem_of_getElem? (i := 1522) (by decide +kernel), List.mem_of_getElem? (i := 1523) (by decide +kernel)⟩
theorem lw_p127 : lw_okq (⟨"AfterTheLastModel", "stayOf", "(II)I"⟩, 38) := ⟨⟨by decide +kernel, by decide +kernel⟩, List.mem_of_getElem? (i := 1225) (by decide +kernel), List.mem_of_getElem? (i := 1526) (by decide +kernel), List.mem_of_getElem? (i := 1527) (by decide +kernel)⟩
def lw_privs_8 : List (MethodName × Nat) := [(⟨"AfterTheLastModel", "sum", "()Z"⟩, 38), (⟨"AfterTheLastModel", "term", "()Z"⟩, 38), (⟨"AfterTheLastModel", "value", "()Z"⟩, 38), (⟨"AfterTheLastModel", "makes", "(I)Z"⟩, 38), (⟨"AfterTheLastModel", "puts", "(II)V"⟩, 38), (⟨"AfterTheLastModel", "wordHere", "()I"⟩, 38), (⟨"AfterTheLastModel", "closes", "()V"⟩, 38), (⟨"AfterTheLastModel", "settles", "(I)V"⟩, 38), (⟨"AfterTheLastModel", "isInside", "()Z"⟩, 38), (⟨"AfterTheLastModel", "leaves", "(I)V"⟩, 38), (⟨"AfterTheLastModel", "isHouse", "(I)Z"⟩, 38), (⟨"AfterTheLastModel", "houseOf", "(II)I"⟩, 38), (⟨"AfterTheLastModel", "inside", "(I)I"⟩, 38), (⟨"AfterTheLastModel", "personOf", "(II)I"⟩, 38), (⟨"AfterTheLastModel", "isStay", "(I)Z"⟩, 38), (⟨"AfterTheLastModel", "stayOf", "(II)I"⟩, 38)]
theorem lw_r8 : ∀ q ∈ lw_privs_8, lw_okq q := List.forall_mem_cons.mpr ⟨lw_p112, List.forall_mem_cons.mpr ⟨lw_p113, List.forall_mem_cons.mpr ⟨lw_p114, List.forall_mem_cons.mpr ⟨lw_p115, List.forall_mem_cons.mpr ⟨lw_p116, List.forall_mem_cons.mpr ⟨lw_p117, List.forall_mem_cons.mpr ⟨lw_p118, List.forall_mem_cons.mpr ⟨lw_p119, List.forall_mem_cons.mpr ⟨lw_p120, List.forall_mem_cons.mpr ⟨lw_p121, List.forall_mem_cons.mpr ⟨lw_p122, List.forall_mem_cons.mpr ⟨lw_p123, List.forall_mem_cons.mpr ⟨lw_p124, List.forall_mem_cons.mpr ⟨lw_p125, List.forall_mem_cons.mpr ⟨lw_p126, List.forall_mem_cons.mpr ⟨lw_p127, fun _ h => absurd h List.not_mem_nil⟩⟩⟩⟩⟩⟩⟩⟩⟩⟩⟩⟩⟩⟩⟩⟩
theorem lw_p128 : lw_okq (⟨"AfterTheLastModel", "mayGo", "(I)Z"⟩, 38) := ⟨⟨by decide +kernel, by decide +kernel⟩, List.mem_of_getElem? (i := 1225) (by decide +kernel), List.mem_of_getElem? (i := 1537) (by decide +kernel), List.mem_of_getElem? (i := 1538) (by decide +kernel)⟩
theorem lw_p129 : lw_okq (⟨"AfterTheLastModel", "others", "(IZ)I"⟩, 38) := ⟨⟨by decide +kernel, by decide +kernel⟩, List.mem_of_getElem? (i := 1225) (by decide +kernel), List.mem_of_getElem? (i := 1541) (by decide +kernel), List.mem_of_getElem? (i := 1542) (by decide +kernel)⟩
theorem lw_p130 : lw_okq (⟨"AfterTheLastModel", "enters", "(III)V"⟩, 38) := ⟨⟨by decide +kernel, by decide +kernel⟩, List.mem_of_getElem? (i := 1225) (by decide +kernel), List.mem_of_getElem? (i := 1549) (by decide +kernel), List.mem_of_getElem? (i := 1550) (by decide +kernel)⟩
theorem lw_p131 : lw_okq (⟨"AfterTheLastModel", "isRule", "(I)Z"⟩, 38) := ⟨⟨by decide +kernel, by decide +kernel⟩, List.mem_of_getElem? (i := 1225) (by decide +kernel), List.mem_of_getElem? (i := 1561) (by decide +kernel), List.mem_of_getElem? (i := 1562) (by decide +kernel)⟩
theorem lw_p132 : lw_okq (⟨"AfterTheLastModel", "quarters", "(II)V"⟩, 38) := ⟨⟨by decide +kernel, by decide +kernel⟩, List.mem_of_getElem? (i := 1225) (by decide +kernel), List.mem_of_getElem? (i := 1566) (by decide +kernel), List.mem_of_getElem? (i := 1567) (by decide +kernel)⟩
theorem lw_p133 : lw_okq (⟨"AfterTheLastModel", "quarter", "(I)V"⟩, 38) := ⟨⟨by decide +kernel, by decide +kernel⟩, List.mem_of_getElem? (i := 1225) (by decide +kernel), List.mem_of_getElem? (i := 1570) (by decide +kernel), List.mem_of_getElem? (i := 1571) (by decide +kernel)⟩
theorem lw_p134 : lw_okq (⟨"AfterTheLastModel", "isDue", "(I)Z"⟩, 38) := ⟨⟨by decide +kernel, by decide +kernel⟩, List.mem_of_getElem? (i := 1225) (by decide +kernel), List.mem_of_getElem? (i := 1574) (by decide +kernel), List.mem_of_getElem? (i := 1575) (by decide +kernel)⟩
theorem lw_p135 : lw_okq (⟨"AfterTheLastModel", "isHeldBack", "(II)Z"⟩, 38) := ⟨⟨by decide +kernel, by decide +kernel⟩, List.mem_of_getElem? (i := 1225) (by decide +kernel), List.mem_of_getElem? (i := 1578) (by decide +kernel), List.mem_of_getElem? (i := 1579) (by decide +kernel)⟩
theorem lw_p136 : lw_okq (⟨"AfterTheLastModel", "words", "(II)V"⟩, 38) := ⟨⟨by decide +kernel, by decide +kernel⟩, List.mem_of_getElem? (i := 1225) (by decide +kernel), List.mem_of_getElem? (i := 1582) (by decide +kernel), List.mem_of_getElem? (i := 1583) (by decide +kernel)⟩
theorem lw_p137 : lw_okq (⟨"AfterTheLastModel", "isHeld", "(IIZ)Z"⟩, 38) := ⟨⟨by decide +kernel, by decide +kernel⟩, List.mem_of_getElem? (i := 1225) (by decide +kernel), List.mem_of_getElem? (i := 1586) (by decide +kernel), List.mem_of_getElem? (i := 1587) (by decide +kernel)⟩
theorem lw_p138 : lw_okq (⟨"AfterTheLastModel", "reckons", "(III)J"⟩, 38) := ⟨⟨by decide +kernel, by decide +kernel⟩, List.mem_of_getElem? (i := 1225) (by decide +kernel), List.mem_of_getElem? (i := 1590) (by decide +kernel), List.mem_of_getElem? (i := 1591) (by decide +kernel)⟩
theorem lw_p139 : lw_okq (⟨"AfterTheLastModel", "push", "(J)V"⟩, 38) := ⟨⟨by decide +kernel, by decide +kernel⟩, List.mem_of_getElem? (i := 1225) (by decide +kernel), List.mem_of_getElem? (i := 1594) (by decide +kernel), List.mem_of_getElem? (i := 1595) (by decide +kernel)⟩
theorem lw_p140 : lw_okq (⟨"AfterTheLastModel", "pop", "()J"⟩, 38) := ⟨⟨by decide +kernel, by decide +kernel⟩, List.mem_of_getElem? (i := 1225) (by decide +kernel), List.mem_of_getElem? (i := 1598) (by decide +kernel), List.mem_of_getElem? (i := 1599) (by decide +kernel)⟩
theorem lw_p141 : lw_okq (⟨"AfterTheLastModel", "comesFor", "(II)V"⟩, 38) := ⟨⟨by decide +kernel, by decide +kernel⟩, List.mem_of_getElem? (i := 1225) (by decide +kernel), List.mem_of_getElem? (i := 1605) (by decide +kernel), List.mem_of_getElem? (i := 1606) (by decide +kernel)⟩
theorem lw_p142 : lw_okq (⟨"AfterTheLastModel", "nextStay", "(I)I"⟩, 38) := ⟨⟨by decide +kernel, by decide +kernel⟩, List.mem_of_getElem? (i := 1225) (by decide +kernel), List.mem_of_getElem? (i := 1609) (by decide +kernel), List.mem_of_getElem? (i := 1610) (by decide +kernel)⟩
theorem lw_p143 : lw_okq (⟨"AfterTheLastModel", "keeps", "()V"⟩, 38) := ⟨⟨by decide +kernel, by decide +kernel⟩, List.mem_of_getElem? (i := 1225) (by decide +kernel), List.mem_of_getElem? (i := 1618) (by decide +kernel), List.mem_of_getElem? (i := 1619) (by decide +kernel)⟩
def lw_privs_9 : List (MethodName × Nat) := [(⟨"AfterTheLastModel", "mayGo", "(I)Z"⟩, 38), (⟨"AfterTheLastModel", "others", "(IZ)I"⟩, 38), (⟨"AfterTheLastModel", "enters", "(III)V"⟩, 38), (⟨"AfterTheLastModel", "isRule", "(I)Z"⟩, 38), (⟨"AfterTheLastModel", "quarters", "(II)V"⟩, 38), (⟨"AfterTheLastModel", "quarter", "(I)V"⟩, 38), (⟨"AfterTheLastModel", "isDue", "(I)Z"⟩, 38), (⟨"AfterTheLastModel", "isHeldBack", "(II)Z"⟩, 38), (⟨"AfterTheLastModel", "words", "(II)V"⟩, 38), (⟨"AfterTheLastModel", "isHeld", "(IIZ)Z"⟩, 38), (⟨"AfterTheLastModel", "reckons", "(III)J"⟩, 38), (⟨"AfterTheLastModel", "push", "(J)V"⟩, 38), (⟨"AfterTheLastModel", "pop", "()J"⟩, 38), (⟨"AfterTheLastModel", "comesFor", "(II)V"⟩, 38), (⟨"AfterTheLastModel", "nextStay", "(I)I"⟩, 38), (⟨"AfterTheLastModel", "keeps", "()V"⟩, 38)]
theorem lw_r9 : ∀ q ∈ lw_privs_9, lw_okq q := List.forall_mem_cons.mpr ⟨lw_p128, List.forall_mem_cons.mpr ⟨lw_p129, List.forall_mem_cons.mpr ⟨lw_p130, List.forall_mem_cons.mpr ⟨lw_p131, List.forall_mem_cons.mpr ⟨lw_p132, List.forall_mem_cons.mpr ⟨lw_p133, List.forall_mem_cons.mpr ⟨lw_p134, List.forall_mem_cons.mpr ⟨lw_p135, List.forall_mem_cons.mpr ⟨lw_p136, List.forall_mem_cons.mpr ⟨lw_p137, List.forall_mem_cons.mpr ⟨lw_p138, List.forall_mem_cons.mpr ⟨lw_p139, List.forall_mem_cons.mpr ⟨lw_p140, List.forall_mem_cons.mpr ⟨lw_p141, List.forall_mem_cons.mpr ⟨lw_p142, List.forall_mem_cons.mpr ⟨lw_p143, fun _ h => absurd h List.not_mem_nil⟩⟩⟩⟩⟩⟩⟩⟩⟩⟩⟩⟩⟩⟩⟩⟩
theorem lw_p144 : lw_okq (⟨"AfterTheLastModel", "allInside", "()I"⟩, 38) := ⟨⟨by decide +kernel, by decide +kernel⟩, List.mem_of_getElem? (i := 1225) (by decide +kernel), List.mem_of_getElem? (i := 1622) (by decide +kernel), List.mem_of_getElem? (i := 1623) (by decide +kernel)⟩
theorem lw_p145 : lw_okq (⟨"AfterTheLastModel", "served", "()I"⟩, 38) := ⟨⟨by decide +kernel, by decide +kernel⟩, List.mem_of_getElem? (i := 1225) (by decide +kernel), List.mem_of_getElem? (i := 1626) (by decide +kernel), List.mem_of_getElem? (i := 1627) (by decide +kernel)⟩
theorem lw_p146 : lw_okq (⟨"AfterTheLastModel", "putsBack", "()V"⟩, 38) := ⟨⟨by decide +kernel, by decide +kernel⟩, List.mem_of_getElem? (i := 1225) (by decide +kernel), List.mem_of_getElem? (i := 1630) (by decide +kernel), List.mem_of_getElem? (i := 1631) (by decide +kernel)⟩
theorem lw_p147 : lw_okq (⟨"AfterTheLastModel", "doCross", "(III)Z"⟩, 38) := ⟨⟨by decide +kernel, by decide +kernel⟩, List.mem_of_getElem? (i := 1225) (by decide +kernel), List.mem_of_getElem? (i := 1643) (by decide +kernel), List.mem_of_getElem? (i := 1644) (by decide +kernel)⟩
theorem lw_p148 : lw_okq (⟨"AfterTheLastModel", "isSet", "(I)Z"⟩, 38) := ⟨⟨by decide +kernel, by decide +kernel⟩, List.mem_of_getElem? (i := 1225) (by decide +kernel), List.mem_of_getElem? (i := 1654) (by decide +kernel), List.mem_of_getElem? (i := 1655) (by decide +kernel)⟩
theorem lw_p149 : lw_okq (⟨"AfterTheLastModel", "crosses", "(I)V"⟩, 38) := ⟨⟨by decide +kernel, by decide +kernel⟩, List.mem_of_getElem? (i := 1225) (by decide +kernel), List.mem_of_getElem? (i := 1658) (by decide +kernel), List.mem_of_getElem? (i := 1659) (by decide +kernel)⟩
theorem lw_p150 : lw_okq (⟨"AfterTheLastModel", "hasNone", "(I)Z"⟩, 38) := ⟨⟨by decide +kernel, by decide +kernel⟩, List.mem_of_getElem? (i := 1225) (by decide +kernel), List.mem_of_getElem? (i := 1662) (by decide +kernel), List.mem_of_getElem? (i := 1663) (by decide +kernel)⟩
theorem lw_p151 : lw_okq (⟨"AfterTheLastModel", "staysOf", "(II)I"⟩, 38) := ⟨⟨by decide +kernel, by decide +kernel⟩, List.mem_of_getElem? (i := 1225) (by decide +kernel), List.mem_of_getElem? (i := 1681) (by decide +kernel), List.mem_of_getElem? (i := 1682) (by decide +kernel)⟩
theorem lw_p152 : lw_okq (⟨"AfterTheLastModel", "areAllCrossed", "(I)Z"⟩, 38) := ⟨⟨by decide +kernel, by decide +kernel⟩, List.mem_of_getElem? (i := 1225) (by decide +kernel), List.mem_of_getElem? (i := 1685) (by decide +kernel), List.mem_of_getElem? (i := 1686) (by decide +kernel)⟩
theorem lw_p153 : lw_okq (⟨"AfterTheLastModel", "plans", "()I"⟩, 38) := ⟨⟨by decide +kernel, by decide +kernel⟩, List.mem_of_getElem? (i := 1225) (by decide +kernel), List.mem_of_getElem? (i := 1699) (by decide +kernel), List.mem_of_getElem? (i := 1700) (by decide +kernel)⟩
theorem lw_p154 : lw_okq (⟨"AfterTheLastModel", "endOf", "(I)I"⟩, 38) := ⟨⟨by decide +kernel, by decide +kernel⟩, List.mem_of_getElem? (i := 1225) (by decide +kernel), List.mem_of_getElem? (i := 1704) (by decide +kernel), List.mem_of_getElem? (i := 1705) (by decide +kernel)⟩
theorem lw_p155 : lw_okq (⟨"AfterTheLastModel", "goTogether", "(I)Z"⟩, 38) := ⟨⟨by decide +kernel, by decide +kernel⟩, List.mem_of_getElem? (i := 1225) (by decide +kernel), List.mem_of_getElem? (i := 1708) (by decide +kernel), List.mem_of_getElem? (i := 1709) (by decide +kernel)⟩
theorem lw_p156 : lw_okq (⟨"AfterTheLastModel", "undone", "()I"⟩, 38) := ⟨⟨by decide +kernel, by decide +kernel⟩, List.mem_of_getElem? (i := 1225) (by decide +kernel), List.mem_of_getElem? (i := 1720) (by decide +kernel), List.mem_of_getElem? (i := 1721) (by decide +kernel)⟩
theorem lw_p157 : lw_okq (⟨"AfterTheLastModel", "needs", "(I)V"⟩, 38) := ⟨⟨by decide +kernel, by decide +kernel⟩, List.mem_of_getElem? (i := 1225) (by decide +kernel), List.mem_of_getElem? (i := 1724) (by decide +kernel), List.mem_of_getElem? (i := 1725) (by decide +kernel)⟩
theorem lw_p158 : lw_okq (⟨"AfterTheLastModel", "inRings", "()I"⟩, 38) := ⟨⟨by decide +kernel, by decide +kernel⟩, List.mem_of_getElem? (i := 1225) (by decide +kernel), List.mem_of_getElem? (i := 1728) (by decide +kernel), List.mem_of_getElem? (i := 1729) (by decide +kernel)⟩
theorem lw_p159 : lw_okq (⟨"AfterTheLastModel", "roundOf", "(I)I"⟩, 38) := ⟨⟨by decide +kernel, by decide +kernel⟩, List.mem_of_getElem? (i := 1225) (by decide +kernel), List.mem_of_getElem? (i := 1732) (by decide +kernel), List.mem_of_getElem? (i := 1733) (by decide +kernel)⟩
def lw_privs_10 : List (MethodName × Nat) := [(⟨"AfterTheLastModel", "allInside", "()I"⟩, 38), (⟨"AfterTheLastModel", "served", "()I"⟩, 38), (⟨"AfterTheLastModel", "putsBack", "()V"⟩, 38), (⟨"AfterTheLastModel", "doCross", "(III)Z"⟩, 38), (⟨"AfterTheLastModel", "isSet", "(I)Z"⟩, 38), (⟨"AfterTheLastModel", "crosses", "(I)V"⟩, 38), (⟨"AfterTheLastModel", "hasNone", "(I)Z"⟩, 38), (⟨"AfterTheLastModel", "staysOf", "(II)I"⟩, 38), (⟨"AfterTheLastModel", "areAllCrossed", "(I)Z"⟩, 38), (⟨"AfterTheLastModel", "plans", "()I"⟩, 38), (⟨"AfterTheLastModel", "endOf", "(I)I"⟩, 38), (⟨"AfterTheLastModel", "goTogether", "(I)Z"⟩, 38), (⟨"AfterTheLastModel", "undone", "()I"⟩, 38), (⟨"AfterTheLastModel", "needs", "(I)V"⟩, 38), (⟨"AfterTheLastModel", "inRings", "()I"⟩, 38), (⟨"AfterTheLastModel", "roundOf", "(I)I"⟩, 38)]
theorem lw_r10 : ∀ q ∈ lw_privs_10, lw_okq q := List.forall_mem_cons.mpr ⟨lw_p144, List.forall_mem_cons.mpr ⟨lw_p145, List.forall_mem_cons.mpr ⟨lw_p146, List.forall_mem_cons.mpr ⟨lw_p147, List.forall_mem_cons.mpr ⟨lw_p148, List.forall_mem_cons.mpr ⟨lw_p149, List.forall_mem_cons.mpr ⟨lw_p150, List.forall_mem_cons.mpr ⟨lw_p151, List.forall_mem_cons.mpr ⟨lw_p152, List.forall_mem_cons.mpr ⟨lw_p153, List.forall_mem_cons.mpr ⟨lw_p154, List.forall_mem_cons.mpr ⟨lw_p155, List.forall_mem_cons.mpr ⟨lw_p156, List.forall_mem_cons.mpr ⟨lw_p157, List.forall_mem_cons.mpr ⟨lw_p158, List.forall_mem_cons.mpr ⟨lw_p159, fun _ h => absurd h List.not_mem_nil⟩⟩⟩⟩⟩⟩⟩⟩⟩⟩⟩⟩⟩⟩⟩⟩
theorem lw_p160 : lw_okq (⟨"AfterTheLastModel", "isIn", "(IIII)Z"⟩, 38) := ⟨⟨by decide +kernel, by decide +kernel⟩, List.mem_of_getElem? (i := 1225) (by decide +kernel), List.mem_of_getElem? (i := 1749) (by decide +kernel), List.mem_of_getElem? (i := 1750) (by decide +kernel)⟩
theorem lw_p161 : lw_okq (⟨"AfterTheLastModel", "isOrder", "()Z"⟩, 38) := ⟨⟨by decide +kernel, by decide +kernel⟩, List.mem_of_getElem? (i := 1225) (by decide +kernel), List.mem_of_getElem? (i := 1762) (by decide +kernel), List.mem_of_getElem? (i := 1763) (by decide +kernel)⟩
theorem lw_p162 : lw_okq (⟨"AfterTheLastModel", "placeIn", "(I)I"⟩, 38) := ⟨⟨by decide +kernel, by decide +kernel⟩, List.mem_of_getElem? (i := 1225) (by decide +kernel), List.mem_of_getElem? (i := 1766) (by decide +kernel), List.mem_of_getElem? (i := 1767) (by decide +kernel)⟩
theorem lw_p163 : lw_okq (⟨"AfterTheLastModel", "isNextOrder", "()Z"⟩, 38) := ⟨⟨by decide +kernel, by decide +kernel⟩, List.mem_of_getElem? (i := 1225) (by decide +kernel), List.mem_of_getElem? (i := 1770) (by decide +kernel), List.mem_of_getElem? (i := 1771) (by decide +kernel)⟩
theorem lw_p164 : lw_okq (⟨"AfterTheLastModel", "goesBy", "(II)I"⟩, 38) := ⟨⟨by decide +kernel, by decide +kernel⟩, List.mem_of_getElem? (i := 1225) (by decide +kernel), List.mem_of_getElem? (i := 1782) (by decide +kernel), List.mem_of_getElem? (i := 1783) (by decide +kernel)⟩
def lw_privs_11 : List (MethodName × Nat) := [(⟨"AfterTheLastModel", "isIn", "(IIII)Z"⟩, 38), (⟨"AfterTheLastModel", "isOrder", "()Z"⟩, 38), (⟨"AfterTheLastModel", "placeIn", "(I)I"⟩, 38), (⟨"AfterTheLastModel", "isNextOrder", "()Z"⟩, 38), (⟨"AfterTheLastModel", "goesBy", "(II)I"⟩, 38)]
theorem lw_r11 : ∀ q ∈ lw_privs_11, lw_okq q := List.forall_mem_cons.mpr ⟨lw_p160, List.forall_mem_cons.mpr ⟨lw_p161, List.forall_mem_cons.mpr ⟨lw_p162, List.forall_mem_cons.mpr ⟨lw_p163, List.forall_mem_cons.mpr ⟨lw_p164, fun _ h => absurd h List.not_mem_nil⟩⟩⟩⟩⟩
def lw_privs : List (MethodName × Nat) := lw_privs_1 ++ (lw_privs_2 ++ (lw_privs_3 ++ (lw_privs_4 ++ (lw_privs_5 ++ (lw_privs_6 ++ (lw_privs_7 ++ (lw_privs_8 ++ (lw_privs_9 ++ (lw_privs_10 ++ (lw_privs_11))))))))))
def lw_tbl : List Cond := k2_sels lw_privs ++ tables_1
theorem lw_privs_ok : ∀ q ∈ lw_privs, lw_okq q := by
  show ∀ q ∈ lw_privs_1 ++ (lw_privs_2 ++ (lw_privs_3 ++ (lw_privs_4 ++ (lw_privs_5 ++ (lw_privs_6 ++ (lw_privs_7 ++ (lw_privs_8 ++ (lw_privs_9 ++ (lw_privs_10 ++ (lw_privs_11)))))))))), lw_okq q
  exact List.forall_mem_append.mpr ⟨lw_r1, List.forall_mem_append.mpr ⟨lw_r2, List.forall_mem_append.mpr ⟨lw_r3, List.forall_mem_append.mpr ⟨lw_r4, List.forall_mem_append.mpr ⟨lw_r5, List.forall_mem_append.mpr ⟨lw_r6, List.forall_mem_append.mpr ⟨lw_r7, List.forall_mem_append.mpr ⟨lw_r8, List.forall_mem_append.mpr ⟨lw_r9, List.forall_mem_append.mpr ⟨lw_r10, lw_r11⟩⟩⟩⟩⟩⟩⟩⟩⟩⟩
def RX0 : String := "AfterTheLast$Clock"
def TX0 : u_T := fun k => match k with
  | 0 => ("AfterTheLast$Clock", "values", "[J", true)
  | _ => ("AfterTheLast$Clock", "toBegin", "[I", true)
def tyX0 : Nat → FieldType := fun k => match k with
  | 0 => .array .long
  | _ => .array .int
abbrev wsX00 : List Cond := u_ws RX0 TX0 2
theorem nmX0 : ∀ a, a < 2 → ∀ b, b < 2 → a ≠ b → (TX0 a).2.1 ≠ (TX0 b).2.1 := by decide +kernel
theorem tyX0_ok : ∀ k, k < 2 → parseFieldDescriptor (TX0 k).2.2.1 = some (tyX0 k) := by decide +kernel
abbrev cX0_init : ByteArray := prog_2_method_1_code
def yX0_init : MethodName := ⟨RX0, "<init>", "()V"⟩
abbrev cX0_quarters : ByteArray := prog_2_method_2_code
def yX0_quarters : MethodName := ⟨RX0, "quarters", "(LAfterTheLast$Rule;LAfterTheLast$Town;I)V"⟩
abbrev cX0_letGo : ByteArray := prog_2_method_3_code
def yX0_letGo : MethodName := ⟨RX0, "letGo", "(LAfterTheLast$Rule;LAfterTheLast$Town;)V"⟩
abbrev cX0_letOutByWindow : ByteArray := prog_2_method_4_code
def yX0_letOutByWindow : MethodName := ⟨RX0, "letOutByWindow", "(LAfterTheLast$Rule;LAfterTheLast$Town;)V"⟩
abbrev cX0_letIn : ByteArray := prog_2_method_5_code
def yX0_letIn : MethodName := ⟨RX0, "letIn", "(LAfterTheLast$Rule;LAfterTheLast$Town;)V"⟩
abbrev cX0_countLate : ByteArray := prog_2_method_6_code
def yX0_countLate : MethodName := ⟨RX0, "countLate", "(LAfterTheLast$Town;)V"⟩
abbrev cX0_someTestHolds : ByteArray := prog_2_method_7_code
def yX0_someTestHolds : MethodName := ⟨RX0, "someTestHolds", "(LAfterTheLast$Rule;ILAfterTheLast$Town;II)Z"⟩
abbrev cX0_testHolds : ByteArray := prog_2_method_8_code
def yX0_testHolds : MethodName := ⟨RX0, "testHolds", "(LAfterTheLast$Rule;ILAfterTheLast$Town;II)Z"⟩
abbrev cX0_joined : ByteArray := prog_2_method_9_code
def yX0_joined : MethodName := ⟨RX0, "joined", "(IJJ)J"⟩
abbrev cX0_wordValue : ByteArray := prog_2_method_10_code
def yX0_wordValue : MethodName := ⟨RX0, "wordValue", "(ILAfterTheLast$Town;II)J"⟩
def RX1 : String := "AfterTheLast$Crossings"
def TX1 : u_T := fun k => match k with
  | 0 => ("AfterTheLast$Crossings", "order", "[I", true)
  | 1 => ("AfterTheLast$Crossings", "over", "[I", true)
  | 2 => ("AfterTheLast$Crossings", "outer", "[I", true)
  | 3 => ("AfterTheLast$Crossings", "inner", "[I", true)
  | 4 => ("AfterTheLast$Crossings", "chain", "[I", true)
  | 5 => ("AfterTheLast$Crossings", "crossed", "[I", true)
  | 6 => ("AfterTheLast$Crossings", "parts", "[I", true)
  | 7 => ("AfterTheLast$Crossings", "picked", "[I", true)
  | _ => ("AfterTheLast$Crossings", "points", "I", false)
def tyX1 : Nat → FieldType := fun k => match k with
  | 0 => .array .int
  | 1 => .array .int
  | 2 => .array .int
  | 3 => .array .int
  | 4 => .array .int
  | 5 => .array .int
  | 6 => .array .int
  | 7 => .array .int
  | _ => .int
abbrev wsX10 : List Cond := u_ws RX1 TX1 9
theorem nmX1 : ∀ a, a < 9 → ∀ b, b < 9 → a ≠ b → (TX1 a).2.1 ≠ (TX1 b).2.1 := by decide +kernel
theorem tyX1_ok : ∀ k, k < 9 → parseFieldDescriptor (TX1 k).2.2.1 = some (tyX1 k) := by decide +kernel
abbrev cX1_init : ByteArray := prog_3_method_1_code
def yX1_init : MethodName := ⟨RX1, "<init>", "()V"⟩
abbrev cX1_crosses : ByteArray := prog_3_method_2_code
def yX1_crosses : MethodName := ⟨RX1, "crosses", "(LAfterTheLast$Town;III)Z"⟩
abbrev cX1_crossesBehind : ByteArray := prog_3_method_3_code
def yX1_crossesBehind : MethodName := ⟨RX1, "crossesBehind", "(LAfterTheLast$Town;III)Z"⟩
abbrev cX1_twosThatCross : ByteArray := prog_3_method_4_code
def yX1_twosThatCross : MethodName := ⟨RX1, "twosThatCross", "(LAfterTheLast$Town;II)I"⟩
abbrev cX1_score : ByteArray := prog_3_method_5_code
def yX1_score : MethodName := ⟨RX1, "score", "(LAfterTheLast$Town;I)I"⟩
abbrev cX1_worthOf : ByteArray := prog_3_method_6_code
def yX1_worthOf : MethodName := ⟨RX1, "worthOf", "(I)I"⟩
abbrev cX1_setOf : ByteArray := prog_3_method_7_code
def yX1_setOf : MethodName := ⟨RX1, "setOf", "(I)I"⟩
abbrev cX1_bestScore : ByteArray := prog_3_method_8_code
def yX1_bestScore : MethodName := ⟨RX1, "bestScore", "(LAfterTheLast$Town;I)I"⟩
abbrev cX1_bestChain : ByteArray := prog_3_method_9_code
def yX1_bestChain : MethodName := ⟨RX1, "bestChain", "(LAfterTheLast$Town;[III)I"⟩
abbrev cX1_sortStays : ByteArray := prog_3_method_10_code
def yX1_sortStays : MethodName := ⟨RX1, "sortStays", "(LAfterTheLast$Town;I)I"⟩
abbrev cX1_standsAhead : ByteArray := prog_3_method_11_code
def yX1_standsAhead : MethodName := ⟨RX1, "standsAhead", "(LAfterTheLast$Town;II)Z"⟩
abbrev cX1_draw : ByteArray := prog_3_method_12_code
def yX1_draw : MethodName := ⟨RX1, "draw", "(LAfterTheLast$Town;II)V"⟩
abbrev cX1_mostOfWhichAllCross : ByteArray := prog_3_method_13_code
def yX1_mostOfWhichAllCross : MethodName := ⟨RX1, "mostOfWhichAllCross", "()I"⟩
abbrev cX1_mostFrom : ByteArray := prog_3_method_14_code
def yX1_mostFrom : MethodName := ⟨RX1, "mostFrom", "(LAfterTheLast$Crossings;II)I"⟩
abbrev cX1_fewestParts : ByteArray := prog_3_method_15_code
def yX1_fewestParts : MethodName := ⟨RX1, "fewestParts", "()I"⟩
abbrev cX1_canBePutInto : ByteArray := prog_3_method_16_code
def yX1_canBePutInto : MethodName := ⟨RX1, "canBePutInto", "(LAfterTheLast$Crossings;III)Z"⟩
def RX2 : String := "AfterTheLast$Guesses"
def TX2 : u_T := fun k => match k with
  | 0 => ("AfterTheLast$Guesses", "ahead", "[I", true)
  | 1 => ("AfterTheLast$Guesses", "ways", "[I", true)
  | 2 => ("AfterTheLast$Guesses", "values", "[I", true)
  | _ => ("AfterTheLast$Guesses", "gone", "I", false)
def tyX2 : Nat → FieldType := fun k => match k with
  | 0 => .array .int
  | 1 => .array .int
  | 2 => .array .int
  | _ => .int
abbrev wsX20 : List Cond := u_ws RX2 TX2 4
theorem nmX2 : ∀ a, a < 4 → ∀ b, b < 4 → a ≠ b → (TX2 a).2.1 ≠ (TX2 b).2.1 := by decide +kernel
theorem tyX2_ok : ∀ k, k < 4 → parseFieldDescriptor (TX2 k).2.2.1 = some (tyX2 k) := by decide +kernel
abbrev cX2_init : ByteArray := prog_4_method_1_code
def yX2_init : MethodName := ⟨RX2, "<init>", "()V"⟩
abbrev cX2_countOrders : ByteArray := prog_4_method_2_code
def yX2_countOrders : MethodName := ⟨RX2, "countOrders", "(LAfterTheLast$Told;)V"⟩
abbrev cX2_howManyOrders : ByteArray := prog_4_method_3_code
def yX2_howManyOrders : MethodName := ⟨RX2, "howManyOrders", "()I"⟩
abbrev cX2_mayComeNext : ByteArray := prog_4_method_4_code
def yX2_mayComeNext : MethodName := ⟨RX2, "mayComeNext", "(II)Z"⟩
abbrev cX2_inFirstOrder : ByteArray := prog_4_method_5_code
def yX2_inFirstOrder : MethodName := ⟨RX2, "inFirstOrder", "(LAfterTheLast$Told;I)I"⟩
abbrev cX2_firstToCome : ByteArray := prog_4_method_6_code
def yX2_firstToCome : MethodName := ⟨RX2, "firstToCome", "(LAfterTheLast$Told;I)I"⟩
abbrev cX2_fewestGuests : ByteArray := prog_4_method_7_code
def yX2_fewestGuests : MethodName := ⟨RX2, "fewestGuests", "(LAfterTheLast$Told;II)I"⟩
abbrev cX2_leastSetOfGuests : ByteArray := prog_4_method_8_code
def yX2_leastSetOfGuests : MethodName := ⟨RX2, "leastSetOfGuests", "(LAfterTheLast$Told;III)I"⟩
abbrev cX2_thereTill : ByteArray := prog_4_method_9_code
def yX2_thereTill : MethodName := ⟨RX2, "thereTill", "(LAfterTheLast$Told;II)I"⟩
abbrev cX2_valueKnocks : ByteArray := prog_4_method_10_code
def yX2_valueKnocks : MethodName := ⟨RX2, "valueKnocks", "(IIII)V"⟩
abbrev cX2_lettingIn : ByteArray := prog_4_method_11_code
def yX2_lettingIn : MethodName := ⟨RX2, "lettingIn", "(IIII)I"⟩
abbrev cX2_valueAt : ByteArray := prog_4_method_12_code
def yX2_valueAt : MethodName := ⟨RX2, "valueAt", "(I)I"⟩
def RX3 : String := "AfterTheLast$Planner"
def TX3 : u_T := fun k => match k with
  | 0 => ("AfterTheLast$Planner", "wishes", "I", false)
  | 1 => ("AfterTheLast$Planner", "earliest", "[I", true)
  | 2 => ("AfterTheLast$Planner", "choices", "[I", true)
  | 3 => ("AfterTheLast$Planner", "fitting", "[I", true)
  | 4 => ("AfterTheLast$Planner", "tied", "[Z", true)
  | 5 => ("AfterTheLast$Planner", "open", "[I", true)
  | _ => ("AfterTheLast$Planner", "chosen", "[I", true)
def tyX3 : Nat → FieldType := fun k => match k with
  | 0 => .int
  | 1 => .array .int
  | 2 => .array .int
  | 3 => .array .int
  | 4 => .array .boolean
  | 5 => .array .int
  | _ => .array .int
abbrev wsX30 : List Cond := u_ws RX3 TX3 7
theorem nmX3 : ∀ a, a < 7 → ∀ b, b < 7 → a ≠ b → (TX3 a).2.1 ≠ (TX3 b).2.1 := by decide +kernel
theorem tyX3_ok : ∀ k, k < 7 → parseFieldDescriptor (TX3 k).2.2.1 = some (tyX3 k) := by decide +kernel
abbrev cX3_init : ByteArray := prog_5_method_1_code
def yX3_init : MethodName := ⟨RX3, "<init>", "()V"⟩
abbrev cX3_look : ByteArray := prog_5_method_2_code
def yX3_look : MethodName := ⟨RX3, "look", "(LAfterTheLast$Told;)V"⟩
abbrev cX3_compare : ByteArray := prog_5_method_3_code
def yX3_compare : MethodName := ⟨RX3, "compare", "(LAfterTheLast$Told;II)V"⟩
abbrev cX3_place : ByteArray := prog_5_method_4_code
def yX3_place : MethodName := ⟨RX3, "place", "(III)I"⟩
abbrev cX3_goTogether : ByteArray := prog_5_method_5_code
def yX3_goTogether : MethodName := ⟨RX3, "goTogether", "(LAfterTheLast$Told;IIII)Z"⟩
abbrev cX3_beginOf : ByteArray := prog_5_method_6_code
def yX3_beginOf : MethodName := ⟨RX3, "beginOf", "(I)I"⟩
abbrev cX3_findFirst : ByteArray := prog_5_method_7_code
def yX3_findFirst : MethodName := ⟨RX3, "findFirst", "()Z"⟩
abbrev cX3_findFrom : ByteArray := prog_5_method_8_code
def yX3_findFrom : MethodName := ⟨RX3, "findFrom", "(LAfterTheLast$Planner;I)Z"⟩
abbrev cX3_isOpen : ByteArray := prog_5_method_9_code
def yX3_isOpen : MethodName := ⟨RX3, "isOpen", "(II)Z"⟩
abbrev cX3_choose : ByteArray := prog_5_method_10_code
def yX3_choose : MethodName := ⟨RX3, "choose", "(II)Z"⟩
abbrev cX3_howMany : ByteArray := prog_5_method_11_code
def yX3_howMany : MethodName := ⟨RX3, "howMany", "()I"⟩
abbrev cX3_countFrom : ByteArray := prog_5_method_12_code
def yX3_countFrom : MethodName := ⟨RX3, "countFrom", "(LAfterTheLast$Planner;I)I"⟩
abbrev cX3_countLastTwo : ByteArray := prog_5_method_13_code
def yX3_countLastTwo : MethodName := ⟨RX3, "countLastTwo", "(I)I"⟩
def RX4 : String := "AfterTheLast$Reader"
def TX4 : u_T := fun k => match k with
  | 0 => ("AfterTheLast$Reader", "bytes", "[I", true)
  | 1 => ("AfterTheLast$Reader", "length", "I", false)
  | 2 => ("AfterTheLast$Reader", "place", "I", false)
  | _ => ("AfterTheLast$Reader", "fault", "I", false)
def tyX4 : Nat → FieldType := fun k => match k with
  | 0 => .array .int
  | 1 => .int
  | 2 => .int
  | _ => .int
abbrev wsX40 : List Cond := u_ws RX4 TX4 4
theorem nmX4 : ∀ a, a < 4 → ∀ b, b < 4 → a ≠ b → (TX4 a).2.1 ≠ (TX4 b).2.1 := by decide +kernel
theorem tyX4_ok : ∀ k, k < 4 → parseFieldDescriptor (TX4 k).2.2.1 = some (tyX4 k) := by decide +kernel
abbrev cX4_init : ByteArray := prog_6_method_1_code
def yX4_init : MethodName := ⟨RX4, "<init>", "()V"⟩
abbrev cX4_hasPlaceFor : ByteArray := prog_6_method_2_code
def yX4_hasPlaceFor : MethodName := ⟨RX4, "hasPlaceFor", "(I)Z"⟩
abbrev cX4_append : ByteArray := prog_6_method_3_code
def yX4_append : MethodName := ⟨RX4, "append", "(I)V"⟩
abbrev cX4_rewind : ByteArray := prog_6_method_4_code
def yX4_rewind : MethodName := ⟨RX4, "rewind", "()V"⟩
abbrev cX4_fine : ByteArray := prog_6_method_5_code
def yX4_fine : MethodName := ⟨RX4, "fine", "()Z"⟩
abbrev cX4_fail : ByteArray := prog_6_method_6_code
def yX4_fail : MethodName := ⟨RX4, "fail", "(I)V"⟩
abbrev cX4_failAt : ByteArray := prog_6_method_7_code
def yX4_failAt : MethodName := ⟨RX4, "failAt", "(II)V"⟩
abbrev cX4_next : ByteArray := prog_6_method_8_code
def yX4_next : MethodName := ⟨RX4, "next", "()I"⟩
abbrev cX4_skip : ByteArray := prog_6_method_9_code
def yX4_skip : MethodName := ⟨RX4, "skip", "(I)V"⟩
abbrev cX4_isAt : ByteArray := prog_6_method_10_code
def yX4_isAt : MethodName := ⟨RX4, "isAt", "(Ljava/lang/String;)Z"⟩
abbrev cX4_takePair : ByteArray := prog_6_method_11_code
def yX4_takePair : MethodName := ⟨RX4, "takePair", "(CC)Z"⟩
abbrev cX4_take : ByteArray := prog_6_method_12_code
def yX4_take : MethodName := ⟨RX4, "take", "(Ljava/lang/String;)Z"⟩
abbrev cX4_number : ByteArray := prog_6_method_13_code
def yX4_number : MethodName := ⟨RX4, "number", "(II)I"⟩
abbrev cX4_isDigit : ByteArray := prog_6_method_14_code
def yX4_isDigit : MethodName := ⟨RX4, "isDigit", "(I)Z"⟩
abbrev cX4_readStreet : ByteArray := prog_6_method_15_code
def yX4_readStreet : MethodName := ⟨RX4, "readStreet", "(LAfterTheLast$Town;)I"⟩
abbrev cX4_readClause : ByteArray := prog_6_method_16_code
def yX4_readClause : MethodName := ⟨RX4, "readClause", "(LAfterTheLast$Town;Z)V"⟩
abbrev cX4_readHouse : ByteArray := prog_6_method_17_code
def yX4_readHouse : MethodName := ⟨RX4, "readHouse", "(LAfterTheLast$Town;)V"⟩
abbrev cX4_readStay : ByteArray := prog_6_method_18_code
def yX4_readStay : MethodName := ⟨RX4, "readStay", "(LAfterTheLast$Town;)V"⟩
def RX5 : String := "AfterTheLast$Rings"
def TX5 : u_T := fun k => match k with
  | _ => ("AfterTheLast$Rings", "needs", "[I", true)
def tyX5 : Nat → FieldType := fun k => match k with
  | _ => .array .int
abbrev wsX50 : List Cond := u_ws RX5 TX5 1
theorem nmX5 : ∀ a, a < 1 → ∀ b, b < 1 → a ≠ b → (TX5 a).2.1 ≠ (TX5 b).2.1 := by decide +kernel
theorem tyX5_ok : ∀ k, k < 1 → parseFieldDescriptor (TX5 k).2.2.1 = some (tyX5 k) := by decide +kernel
abbrev cX5_init : ByteArray := prog_7_method_1_code
def yX5_init : MethodName := ⟨RX5, "<init>", "()V"⟩
abbrev cX5_look : ByteArray := prog_7_method_2_code
def yX5_look : MethodName := ⟨RX5, "look", "(LAfterTheLast$Town;)V"⟩
abbrev cX5_aheadOf : ByteArray := prog_7_method_3_code
def yX5_aheadOf : MethodName := ⟨RX5, "aheadOf", "(LAfterTheLast$Town;II)I"⟩
abbrev cX5_shortest : ByteArray := prog_7_method_4_code
def yX5_shortest : MethodName := ⟨RX5, "shortest", "()I"⟩
abbrev cX5_ringThrough : ByteArray := prog_7_method_5_code
def yX5_ringThrough : MethodName := ⟨RX5, "ringThrough", "(I)I"⟩
abbrev cX5_stuck : ByteArray := prog_7_method_6_code
def yX5_stuck : MethodName := ⟨RX5, "stuck", "()I"⟩
abbrev cX5_stuckAmong : ByteArray := prog_7_method_7_code
def yX5_stuckAmong : MethodName := ⟨RX5, "stuckAmong", "(I)I"⟩
abbrev cX5_undone : ByteArray := prog_7_method_8_code
def yX5_undone : MethodName := ⟨RX5, "undone", "()I"⟩
def RX6 : String := "AfterTheLast$Rule"
def TX6 : u_T := fun k => match k with
  | 0 => ("AfterTheLast$Rule", "steps", "[I", true)
  | 1 => ("AfterTheLast$Rule", "arguments", "[I", true)
  | 2 => ("AfterTheLast$Rule", "kinds", "[I", true)
  | 3 => ("AfterTheLast$Rule", "ends", "[I", true)
  | _ => ("AfterTheLast$Rule", "clauses", "I", true)
def tyX6 : Nat → FieldType := fun k => match k with
  | 0 => .array .int
  | 1 => .array .int
  | 2 => .array .int
  | 3 => .array .int
  | _ => .int
abbrev wsX60 : List Cond := u_ws RX6 TX6 5
theorem nmX6 : ∀ a, a < 5 → ∀ b, b < 5 → a ≠ b → (TX6 a).2.1 ≠ (TX6 b).2.1 := by decide +kernel
theorem tyX6_ok : ∀ k, k < 5 → parseFieldDescriptor (TX6 k).2.2.1 = some (tyX6 k) := by decide +kernel
abbrev cX6_init : ByteArray := prog_8_method_1_code
def yX6_init : MethodName := ⟨RX6, "<init>", "(LAfterTheLast$RuleReader;)V"⟩
abbrev cX6_has : ByteArray := prog_8_method_2_code
def yX6_has : MethodName := ⟨RX6, "has", "(I)Z"⟩
abbrev cX6_start : ByteArray := prog_8_method_3_code
def yX6_start : MethodName := ⟨RX6, "start", "(I)I"⟩
def RX7 : String := "AfterTheLast$RuleReader"
def TX7 : u_T := fun k => match k with
  | 0 => ("AfterTheLast$RuleReader", "in", "LAfterTheLast$Reader;", true)
  | 1 => ("AfterTheLast$RuleReader", "steps", "[I", true)
  | 2 => ("AfterTheLast$RuleReader", "arguments", "[I", true)
  | 3 => ("AfterTheLast$RuleReader", "kinds", "[I", true)
  | 4 => ("AfterTheLast$RuleReader", "ends", "[I", true)
  | 5 => ("AfterTheLast$RuleReader", "waiting", "[I", true)
  | 6 => ("AfterTheLast$RuleReader", "jumps", "[I", true)
  | 7 => ("AfterTheLast$RuleReader", "binding", "[I", true)
  | 8 => ("AfterTheLast$RuleReader", "length", "I", false)
  | 9 => ("AfterTheLast$RuleReader", "clauses", "I", false)
  | 10 => ("AfterTheLast$RuleReader", "waitingCount", "I", false)
  | 11 => ("AfterTheLast$RuleReader", "parts", "I", false)
  | 12 => ("AfterTheLast$RuleReader", "deep", "I", false)
  | 13 => ("AfterTheLast$RuleReader", "brackets", "I", false)
  | _ => ("AfterTheLast$RuleReader", "expected", "I", false)
def tyX7 : Nat → FieldType := fun k => match k with
  | 0 => .object "AfterTheLast$Reader"
  | 1 => .array .int
  | 2 => .array .int
  | 3 => .array .int
  | 4 => .array .int
  | 5 => .array .int
  | 6 => .array .int
  | 7 => .array .int
  | 8 => .int
  | 9 => .int
  | 10 => .int
  | 11 => .int
  | 12 => .int
  | 13 => .int
  | _ => .int
abbrev wsX70 : List Cond := u_ws RX7 TX7 15
theorem nmX7 : ∀ a, a < 15 → ∀ b, b < 15 → a ≠ b → (TX7 a).2.1 ≠ (TX7 b).2.1 := by decide +kernel
theorem tyX7_ok : ∀ k, k < 15 → parseFieldDescriptor (TX7 k).2.2.1 = some (tyX7 k) := by decide +kernel
abbrev cX7_init : ByteArray := prog_9_method_1_code
def yX7_init : MethodName := ⟨RX7, "<init>", "()V"⟩
abbrev cX7_read : ByteArray := prog_9_method_2_code
def yX7_read : MethodName := ⟨RX7, "read", "()LAfterTheLast$Rule;"⟩
abbrev cX7_readNext : ByteArray := prog_9_method_3_code
def yX7_readNext : MethodName := ⟨RX7, "readNext", "(I)V"⟩
abbrev cX7_readClauseWord : ByteArray := prog_9_method_4_code
def yX7_readClauseWord : MethodName := ⟨RX7, "readClauseWord", "()V"⟩
abbrev cX7_readOpening : ByteArray := prog_9_method_5_code
def yX7_readOpening : MethodName := ⟨RX7, "readOpening", "(Z)V"⟩
abbrev cX7_readValue : ByteArray := prog_9_method_6_code
def yX7_readValue : MethodName := ⟨RX7, "readValue", "(I)V"⟩
abbrev cX7_takeWord : ByteArray := prog_9_method_7_code
def yX7_takeWord : MethodName := ⟨RX7, "takeWord", "()I"⟩
abbrev cX7_readJoining : ByteArray := prog_9_method_8_code
def yX7_readJoining : MethodName := ⟨RX7, "readJoining", "(I)V"⟩
abbrev cX7_readSign : ByteArray := prog_9_method_9_code
def yX7_readSign : MethodName := ⟨RX7, "readSign", "(I)V"⟩
abbrev cX7_readBehindFact : ByteArray := prog_9_method_10_code
def yX7_readBehindFact : MethodName := ⟨RX7, "readBehindFact", "(I)V"⟩
abbrev cX7_closeBracket : ByteArray := prog_9_method_11_code
def yX7_closeBracket : MethodName := ⟨RX7, "closeBracket", "()V"⟩
abbrev cX7_endClause : ByteArray := prog_9_method_12_code
def yX7_endClause : MethodName := ⟨RX7, "endClause", "()V"⟩
abbrev cX7_countPart : ByteArray := prog_9_method_13_code
def yX7_countPart : MethodName := ⟨RX7, "countPart", "(I)V"⟩
abbrev cX7_keepWaiting : ByteArray := prog_9_method_14_code
def yX7_keepWaiting : MethodName := ⟨RX7, "keepWaiting", "(III)V"⟩
abbrev cX7_settle : ByteArray := prog_9_method_15_code
def yX7_settle : MethodName := ⟨RX7, "settle", "(I)V"⟩
abbrev cX7_add : ByteArray := prog_9_method_16_code
def yX7_add : MethodName := ⟨RX7, "add", "(II)I"⟩
def RX8 : String := "AfterTheLast$Scene"
def TX8 : u_T := fun k => match k with
  | 0 => ("AfterTheLast$Scene", "town", "LAfterTheLast$Town;", true)
  | _ => ("AfterTheLast$Scene", "told", "LAfterTheLast$Told;", true)
def tyX8 : Nat → FieldType := fun k => match k with
  | 0 => .object "AfterTheLast$Town"
  | _ => .object "AfterTheLast$Told"
abbrev wsX80 : List Cond := u_ws RX8 TX8 2
theorem nmX8 : ∀ a, a < 2 → ∀ b, b < 2 → a ≠ b → (TX8 a).2.1 ≠ (TX8 b).2.1 := by decide +kernel
theorem tyX8_ok : ∀ k, k < 2 → parseFieldDescriptor (TX8 k).2.2.1 = some (tyX8 k) := by decide +kernel
abbrev cX8_init : ByteArray := prog_10_method_1_code
def yX8_init : MethodName := ⟨RX8, "<init>", "()V"⟩
abbrev cX8_copyFrom : ByteArray := prog_10_method_2_code
def yX8_copyFrom : MethodName := ⟨RX8, "copyFrom", "(LAfterTheLast$Scene;)V"⟩
def RX9 : String := "AfterTheLast$Told"
def TX9 : u_T := fun k => match k with
  | 0 => ("AfterTheLast$Told", "going", "[I", true)
  | 1 => ("AfterTheLast$Told", "wishes", "I", false)
  | 2 => ("AfterTheLast$Told", "wisher", "[I", true)
  | 3 => ("AfterTheLast$Told", "wished", "[I", true)
  | 4 => ("AfterTheLast$Told", "earliest", "[I", true)
  | 5 => ("AfterTheLast$Told", "latest", "[I", true)
  | 6 => ("AfterTheLast$Told", "duration", "[I", true)
  | 7 => ("AfterTheLast$Told", "gone", "I", false)
  | 8 => ("AfterTheLast$Told", "row", "[I", true)
  | 9 => ("AfterTheLast$Told", "facts", "I", false)
  | 10 => ("AfterTheLast$Told", "earlier", "[I", true)
  | 11 => ("AfterTheLast$Told", "later", "[I", true)
  | 12 => ("AfterTheLast$Told", "guests", "I", false)
  | 13 => ("AfterTheLast$Told", "comes", "[I", true)
  | 14 => ("AfterTheLast$Told", "goes", "[I", true)
  | _ => ("AfterTheLast$Told", "x", "I", false)
def tyX9 : Nat → FieldType := fun k => match k with
  | 0 => .array .int
  | 1 => .int
  | 2 => .array .int
  | 3 => .array .int
  | 4 => .array .int
  | 5 => .array .int
  | 6 => .array .int
  | 7 => .int
  | 8 => .array .int
  | 9 => .int
  | 10 => .array .int
  | 11 => .array .int
  | 12 => .int
  | 13 => .array .int
  | 14 => .array .int
  | _ => .int
abbrev wsX90 : List Cond := u_ws RX9 TX9 16
theorem nmX9 : ∀ a, a < 16 → ∀ b, b < 16 → a ≠ b → (TX9 a).2.1 ≠ (TX9 b).2.1 := by decide +kernel
theorem tyX9_ok : ∀ k, k < 16 → parseFieldDescriptor (TX9 k).2.2.1 = some (tyX9 k) := by decide +kernel
abbrev cX9_init : ByteArray := prog_11_method_1_code
def yX9_init : MethodName := ⟨RX9, "<init>", "()V"⟩
abbrev cX9_copyFrom : ByteArray := prog_11_method_2_code
def yX9_copyFrom : MethodName := ⟨RX9, "copyFrom", "(LAfterTheLast$Told;)V"⟩
abbrev cX9_addWish : ByteArray := prog_11_method_3_code
def yX9_addWish : MethodName := ⟨RX9, "addWish", "(IIIII)V"⟩
abbrev cX9_placeInRow : ByteArray := prog_11_method_4_code
def yX9_placeInRow : MethodName := ⟨RX9, "placeInRow", "(I)I"⟩
def RX10 : String := "AfterTheLast$Town"
def TX10 : u_T := fun k => match k with
  | 0 => ("AfterTheLast$Town", "houses", "I", false)
  | 1 => ("AfterTheLast$Town", "law", "[I", true)
  | 2 => ("AfterTheLast$Town", "room", "[I", true)
  | 3 => ("AfterTheLast$Town", "windows", "[I", true)
  | 4 => ("AfterTheLast$Town", "inside", "[I", true)
  | 5 => ("AfterTheLast$Town", "rows", "[I", true)
  | 6 => ("AfterTheLast$Town", "stays", "I", false)
  | 7 => ("AfterTheLast$Town", "who", "[I", true)
  | 8 => ("AfterTheLast$Town", "where", "[I", true)
  | 9 => ("AfterTheLast$Town", "from", "[I", true)
  | 10 => ("AfterTheLast$Town", "till", "[I", true)
  | 11 => ("AfterTheLast$Town", "worth", "[I", true)
  | 12 => ("AfterTheLast$Town", "begun", "[I", true)
  | 13 => ("AfterTheLast$Town", "now", "I", false)
  | 14 => ("AfterTheLast$Town", "late", "I", false)
  | 15 => ("AfterTheLast$Town", "houseOf", "[I", true)
  | 16 => ("AfterTheLast$Town", "stayOf", "[I", true)
  | _ => ("AfterTheLast$Town", "waitsFor", "[I", true)
def tyX10 : Nat → FieldType := fun k => match k with
  | 0 => .int
  | 1 => .array .int
  | 2 => .array .int
  | 3 => .array .int
  | 4 => .array .int
  | 5 => .array .int
  | 6 => .int
  | 7 => .array .int
  | 8 => .array .int
  | 9 => .array .int
  | 10 => .array .int
  | 11 => .array .int
  | 12 => .array .int
  | 13 => .int
  | 14 => .int
  | 15 => .array .int
  | 16 => .array .int
  | _ => .array .int
abbrev wsX100 : List Cond := u_ws RX10 TX10 18
theorem nmX10 : ∀ a, a < 18 → ∀ b, b < 18 → a ≠ b → (TX10 a).2.1 ≠ (TX10 b).2.1 := by decide +kernel
theorem tyX10_ok : ∀ k, k < 18 → parseFieldDescriptor (TX10 k).2.2.1 = some (tyX10 k) := by decide +kernel
abbrev cX10_init : ByteArray := prog_12_method_1_code
def yX10_init : MethodName := ⟨RX10, "<init>", "()V"⟩
abbrev cX10_clear : ByteArray := prog_12_method_2_code
def yX10_clear : MethodName := ⟨RX10, "clear", "()V"⟩
abbrev cX10_copyFrom : ByteArray := prog_12_method_3_code
def yX10_copyFrom : MethodName := ⟨RX10, "copyFrom", "(LAfterTheLast$Town;)V"⟩
abbrev cX10_addHouse : ByteArray := prog_12_method_4_code
def yX10_addHouse : MethodName := ⟨RX10, "addHouse", "(III)V"⟩
abbrev cX10_addStay : ByteArray := prog_12_method_5_code
def yX10_addStay : MethodName := ⟨RX10, "addStay", "(IIIII)V"⟩
abbrev cX10_isHouse : ByteArray := prog_12_method_6_code
def yX10_isHouse : MethodName := ⟨RX10, "isHouse", "(I)Z"⟩
abbrev cX10_isStay : ByteArray := prog_12_method_7_code
def yX10_isStay : MethodName := ⟨RX10, "isStay", "(I)Z"⟩
abbrev cX10_isSetOfStays : ByteArray := prog_12_method_8_code
def yX10_isSetOfStays : MethodName := ⟨RX10, "isSetOfStays", "(I)Z"⟩
abbrev cX10_roomLeft : ByteArray := prog_12_method_9_code
def yX10_roomLeft : MethodName := ⟨RX10, "roomLeft", "(I)I"⟩
abbrev cX10_firstIn : ByteArray := prog_12_method_10_code
def yX10_firstIn : MethodName := ⟨RX10, "firstIn", "(I)I"⟩
abbrev cX10_lastIn : ByteArray := prog_12_method_11_code
def yX10_lastIn : MethodName := ⟨RX10, "lastIn", "(I)I"⟩
abbrev cX10_placeOf : ByteArray := prog_12_method_12_code
def yX10_placeOf : MethodName := ⟨RX10, "placeOf", "(I)I"⟩
abbrev cX10_after : ByteArray := prog_12_method_13_code
def yX10_after : MethodName := ⟨RX10, "after", "(I)I"⟩
abbrev cX10_mayLeave : ByteArray := prog_12_method_14_code
def yX10_mayLeave : MethodName := ⟨RX10, "mayLeave", "(I)Z"⟩
abbrev cX10_enter : ByteArray := prog_12_method_15_code
def yX10_enter : MethodName := ⟨RX10, "enter", "(III)V"⟩
abbrev cX10_endWaits : ByteArray := prog_12_method_16_code
def yX10_endWaits : MethodName := ⟨RX10, "endWaits", "(II)V"⟩
abbrev cX10_leave : ByteArray := prog_12_method_17_code
def yX10_leave : MethodName := ⟨RX10, "leave", "(I)V"⟩
abbrev cX10_leaveByWindow : ByteArray := prog_12_method_18_code
def yX10_leaveByWindow : MethodName := ⟨RX10, "leaveByWindow", "(I)Z"⟩
abbrev cX10_isDue : ByteArray := prog_12_method_19_code
def yX10_isDue : MethodName := ⟨RX10, "isDue", "(I)Z"⟩
abbrev cX10_findStaysToBegin : ByteArray := prog_12_method_20_code
def yX10_findStaysToBegin : MethodName := ⟨RX10, "findStaysToBegin", "([I)V"⟩
abbrev cX10_served : ByteArray := prog_12_method_21_code
def yX10_served : MethodName := ⟨RX10, "served", "()I"⟩
abbrev cX10_missed : ByteArray := prog_12_method_22_code
def yX10_missed : MethodName := ⟨RX10, "missed", "()I"⟩
abbrev cX10_allInside : ByteArray := prog_12_method_23_code
def yX10_allInside : MethodName := ⟨RX10, "allInside", "()I"⟩
abbrev cX10_windowsLeft : ByteArray := prog_12_method_24_code
def yX10_windowsLeft : MethodName := ⟨RX10, "windowsLeft", "()I"⟩
def RX11 : String := "AfterTheLast"
def TX11 : u_T := fun k => match k with
  | 0 => ("AfterTheLast", "reader", "LAfterTheLast$Reader;", true)
  | 1 => ("AfterTheLast", "ruleReader", "LAfterTheLast$RuleReader;", true)
  | 2 => ("AfterTheLast", "rules", "[LAfterTheLast$Rule;", true)
  | 3 => ("AfterTheLast", "scene", "LAfterTheLast$Scene;", true)
  | 4 => ("AfterTheLast", "images", "[LAfterTheLast$Scene;", true)
  | 5 => ("AfterTheLast", "trial", "LAfterTheLast$Town;", true)
  | 6 => ("AfterTheLast", "clock", "LAfterTheLast$Clock;", true)
  | 7 => ("AfterTheLast", "crossings", "LAfterTheLast$Crossings;", true)
  | 8 => ("AfterTheLast", "planner", "LAfterTheLast$Planner;", true)
  | 9 => ("AfterTheLast", "rings", "LAfterTheLast$Rings;", true)
  | 10 => ("AfterTheLast", "guesses", "LAfterTheLast$Guesses;", true)
  | _ => ("AfterTheLast", "ruleCount", "I", false)
def tyX11 : Nat → FieldType := fun k => match k with
  | 0 => .object "AfterTheLast$Reader"
  | 1 => .object "AfterTheLast$RuleReader"
  | 2 => .array (.object "AfterTheLast$Rule")
  | 3 => .object "AfterTheLast$Scene"
  | 4 => .array (.object "AfterTheLast$Scene")
  | 5 => .object "AfterTheLast$Town"
  | 6 => .object "AfterTheLast$Clock"
  | 7 => .object "AfterTheLast$Crossings"
  | 8 => .object "AfterTheLast$Planner"
  | 9 => .object "AfterTheLast$Rings"
  | 10 => .object "AfterTheLast$Guesses"
  | _ => .int
abbrev wsX110 : List Cond := u_ws RX11 TX11 12
theorem nmX11 : ∀ a, a < 12 → ∀ b, b < 12 → a ≠ b → (TX11 a).2.1 ≠ (TX11 b).2.1 := by decide +kernel
theorem tyX11_ok : ∀ k, k < 12 → parseFieldDescriptor (TX11 k).2.2.1 = some (tyX11 k) := by decide +kernel
abbrev cX11_init : ByteArray := prog_1_method_1_code
def yX11_init : MethodName := ⟨RX11, "<init>", "()V"⟩
abbrev cX11_feed : ByteArray := prog_1_method_2_code
def yX11_feed : MethodName := ⟨RX11, "feed", "(IIIII)I"⟩
abbrev cX11_end : ByteArray := prog_1_method_3_code
def yX11_end : MethodName := ⟨RX11, "end", "(I)I"⟩
abbrev cX11_street : ByteArray := prog_1_method_4_code
def yX11_street : MethodName := ⟨RX11, "street", "()I"⟩
abbrev cX11_rule : ByteArray := prog_1_method_5_code
def yX11_rule : MethodName := ⟨RX11, "rule", "()I"⟩
abbrev cX11_house : ByteArray := prog_1_method_6_code
def yX11_house : MethodName := ⟨RX11, "house", "(II)I"⟩
abbrev cX11_stay : ByteArray := prog_1_method_7_code
def yX11_stay : MethodName := ⟨RX11, "stay", "(II)I"⟩
abbrev cX11_person : ByteArray := prog_1_method_8_code
def yX11_person : MethodName := ⟨RX11, "person", "(II)I"⟩
abbrev cX11_count : ByteArray := prog_1_method_9_code
def yX11_count : MethodName := ⟨RX11, "count", "(I)I"⟩
abbrev cX11_come : ByteArray := prog_1_method_10_code
def yX11_come : MethodName := ⟨RX11, "come", "(II)Z"⟩
abbrev cX11_go : ByteArray := prog_1_method_11_code
def yX11_go : MethodName := ⟨RX11, "go", "(IZ)Z"⟩
abbrev cX11_tick : ByteArray := prog_1_method_12_code
def yX11_tick : MethodName := ⟨RX11, "tick", "(II)I"⟩
abbrev cX11_ahead : ByteArray := prog_1_method_13_code
def yX11_ahead : MethodName := ⟨RX11, "ahead", "(III)I"⟩
abbrev cX11_bestRule : ByteArray := prog_1_method_14_code
def yX11_bestRule : MethodName := ⟨RX11, "bestRule", "()I"⟩
abbrev cX11_evenings : ByteArray := prog_1_method_15_code
def yX11_evenings : MethodName := ⟨RX11, "evenings", "(III)I"⟩
abbrev cX11_seed : ByteArray := prog_1_method_16_code
def yX11_seed : MethodName := ⟨RX11, "seed", "(I)I"⟩
abbrev cX11_cross : ByteArray := prog_1_method_17_code
def yX11_cross : MethodName := ⟨RX11, "cross", "(III)I"⟩
abbrev cX11_fits : ByteArray := prog_1_method_18_code
def yX11_fits : MethodName := ⟨RX11, "fits", "(III)I"⟩
abbrev cX11_most : ByteArray := prog_1_method_19_code
def yX11_most : MethodName := ⟨RX11, "most", "(II)I"⟩
abbrev cX11_houses : ByteArray := prog_1_method_20_code
def yX11_houses : MethodName := ⟨RX11, "houses", "(III)I"⟩
abbrev cX11_wishes : ByteArray := prog_1_method_21_code
def yX11_wishes : MethodName := ⟨RX11, "wishes", "(IIIII)I"⟩
abbrev cX11_plan : ByteArray := prog_1_method_22_code
def yX11_plan : MethodName := ⟨RX11, "plan", "(I)I"⟩
abbrev cX11_waits : ByteArray := prog_1_method_23_code
def yX11_waits : MethodName := ⟨RX11, "waits", "(II)I"⟩
abbrev cX11_rings : ByteArray := prog_1_method_24_code
def yX11_rings : MethodName := ⟨RX11, "rings", "(I)I"⟩
abbrev cX11_worth : ByteArray := prog_1_method_25_code
def yX11_worth : MethodName := ⟨RX11, "worth", "(II)I"⟩
abbrev cX11_asks : ByteArray := prog_1_method_26_code
def yX11_asks : MethodName := ⟨RX11, "asks", "(I)I"⟩
abbrev cX11_went : ByteArray := prog_1_method_27_code
def yX11_went : MethodName := ⟨RX11, "went", "(I)I"⟩
abbrev cX11_before : ByteArray := prog_1_method_28_code
def yX11_before : MethodName := ⟨RX11, "before", "(II)I"⟩
abbrev cX11_orders : ByteArray := prog_1_method_29_code
def yX11_orders : MethodName := ⟨RX11, "orders", "(I)I"⟩
abbrev cX11_guest : ByteArray := prog_1_method_30_code
def yX11_guest : MethodName := ⟨RX11, "guest", "(II)I"⟩
abbrev cX11_kept : ByteArray := prog_1_method_31_code
def yX11_kept : MethodName := ⟨RX11, "kept", "(III)I"⟩
abbrev cX11_knocks : ByteArray := prog_1_method_32_code
def yX11_knocks : MethodName := ⟨RX11, "knocks", "(IIIIII)I"⟩
abbrev cX11_image : ByteArray := prog_1_method_33_code
def yX11_image : MethodName := ⟨RX11, "image", "(I)I"⟩
abbrev cX11_back : ByteArray := prog_1_method_34_code
def yX11_back : MethodName := ⟨RX11, "back", "(I)I"⟩
abbrev cX11_isPerson : ByteArray := prog_1_method_35_code
def yX11_isPerson : MethodName := ⟨RX11, "isPerson", "(I)Z"⟩
abbrev cX11_isQuarter : ByteArray := prog_1_method_36_code
def yX11_isQuarter : MethodName := ⟨RX11, "isQuarter", "(I)Z"⟩
abbrev cX11_isLaw : ByteArray := prog_1_method_37_code
def yX11_isLaw : MethodName := ⟨RX11, "isLaw", "(I)Z"⟩
abbrev cX11_ruleAt : ByteArray := prog_1_method_38_code
def yX11_ruleAt : MethodName := ⟨RX11, "ruleAt", "(I)LAfterTheLast$Rule;"⟩
abbrev cX11_drawTills : ByteArray := prog_1_method_39_code
def yX11_drawTills : MethodName := ⟨RX11, "drawTills", "(LAfterTheLast$Town;I)I"⟩
def RX12 : String := "AfterTheLastModel"
def TX12 : u_T := fun k => match k with
  | 0 => ("AfterTheLastModel", "tape", "[B", true)
  | 1 => ("AfterTheLastModel", "taped", "I", false)
  | 2 => ("AfterTheLastModel", "rules", "I", false)
  | 3 => ("AfterTheLastModel", "sign", "[I", true)
  | 4 => ("AfterTheLastModel", "length", "[I", true)
  | 5 => ("AfterTheLastModel", "clause", "[I", true)
  | 6 => ("AfterTheLastModel", "clauses", "[I", true)
  | 7 => ("AfterTheLastModel", "housesRead", "I", false)
  | 8 => ("AfterTheLastModel", "staysRead", "I", false)
  | 9 => ("AfterTheLastModel", "houseRead", "[I", true)
  | 10 => ("AfterTheLastModel", "stayRead", "[I", true)
  | 11 => ("AfterTheLastModel", "next", "I", false)
  | 12 => ("AfterTheLastModel", "wrong", "I", false)
  | 13 => ("AfterTheLastModel", "number", "I", false)
  | 14 => ("AfterTheLastModel", "text", "I", false)
  | 15 => ("AfterTheLastModel", "made", "I", false)
  | 16 => ("AfterTheLastModel", "deep", "I", false)
  | 17 => ("AfterTheLastModel", "lines", "I", false)
  | 18 => ("AfterTheLastModel", "open", "[I", true)
  | 19 => ("AfterTheLastModel", "opened", "I", false)
  | 20 => ("AfterTheLastModel", "stack", "[J", true)
  | 21 => ("AfterTheLastModel", "top", "I", false)
  | 22 => ("AfterTheLastModel", "word", "[J", true)
  | 23 => ("AfterTheLastModel", "said", "[I", true)
  | 24 => ("AfterTheLastModel", "keptRow", "[I", true)
  | 25 => ("AfterTheLastModel", "crossing", "[I", true)
  | 26 => ("AfterTheLastModel", "meeting", "[I", true)
  | 27 => ("AfterTheLastModel", "partsOf", "[I", true)
  | 28 => ("AfterTheLastModel", "stayAt", "[I", true)
  | 29 => ("AfterTheLastModel", "begin", "[I", true)
  | 30 => ("AfterTheLastModel", "planned", "[I", true)
  | 31 => ("AfterTheLastModel", "need", "[I", true)
  | 32 => ("AfterTheLastModel", "order", "[I", true)
  | 33 => ("AfterTheLastModel", "ordered", "[I", true)
  | 34 => ("AfterTheLastModel", "pile", "[I", true)
  | 35 => ("AfterTheLastModel", "value", "[I", true)
  | 36 => ("AfterTheLastModel", "images", "[I", true)
  | _ => ("AfterTheLastModel", "isMade", "[Z", true)
def tyX12 : Nat → FieldType := fun k => match k with
  | 0 => .array .byte
  | 1 => .int
  | 2 => .int
  | 3 => .array .int
  | 4 => .array .int
  | 5 => .array .int
  | 6 => .array .int
  | 7 => .int
  | 8 => .int
  | 9 => .array .int
  | 10 => .array .int
  | 11 => .int
  | 12 => .int
  | 13 => .int
  | 14 => .int
  | 15 => .int
  | 16 => .int
  | 17 => .int
  | 18 => .array .int
  | 19 => .int
  | 20 => .array .long
  | 21 => .int
  | 22 => .array .long
  | 23 => .array .int
  | 24 => .array .int
  | 25 => .array .int
  | 26 => .array .int
  | 27 => .array .int
  | 28 => .array .int
  | 29 => .array .int
  | 30 => .array .int
  | 31 => .array .int
  | 32 => .array .int
  | 33 => .array .int
  | 34 => .array .int
  | 35 => .array .int
  | 36 => .array .int
  | _ => .array .boolean
abbrev wsX120 : List Cond := u_ws RX12 TX12 38
theorem nmX12 : ∀ a, a < 38 → ∀ b, b < 38 → a ≠ b → (TX12 a).2.1 ≠ (TX12 b).2.1 := by decide +kernel
theorem tyX12_ok : ∀ k, k < 38 → parseFieldDescriptor (TX12 k).2.2.1 = some (tyX12 k) := by decide +kernel
abbrev cX12_init : ByteArray := prog_14_method_1_code
def yX12_init : MethodName := ⟨RX12, "<init>", "()V"⟩
abbrev cX12_in : ByteArray := prog_14_method_2_code
def yX12_in : MethodName := ⟨RX12, "in", "(JJJ)Z"⟩
abbrev cX12_has : ByteArray := prog_14_method_3_code
def yX12_has : MethodName := ⟨RX12, "has", "(II)Z"⟩
abbrev cX12_bits : ByteArray := prog_14_method_4_code
def yX12_bits : MethodName := ⟨RX12, "bits", "(I)I"⟩
abbrev cX12_four : ByteArray := prog_14_method_5_code
def yX12_four : MethodName := ⟨RX12, "four", "(I)V"⟩
abbrev cX12_feed : ByteArray := prog_14_method_6_code
def yX12_feed : MethodName := ⟨RX12, "feed", "(IIIII)I"⟩
abbrev cX12_end : ByteArray := prog_14_method_7_code
def yX12_end : MethodName := ⟨RX12, "end", "(I)I"⟩
abbrev cX12_fails : ByteArray := prog_14_method_8_code
def yX12_fails : MethodName := ⟨RX12, "fails", "(II)Z"⟩
abbrev cX12_see : ByteArray := prog_14_method_9_code
def yX12_see : MethodName := ⟨RX12, "see", "()I"⟩
abbrev cX12_isDigit : ByteArray := prog_14_method_10_code
def yX12_isDigit : MethodName := ⟨RX12, "isDigit", "(I)Z"⟩
abbrev cX12_isLetter : ByteArray := prog_14_method_11_code
def yX12_isLetter : MethodName := ⟨RX12, "isLetter", "(I)Z"⟩
abbrev cX12_isWord : ByteArray := prog_14_method_12_code
def yX12_isWord : MethodName := ⟨RX12, "isWord", "(J)Z"⟩
abbrev cX12_passWord : ByteArray := prog_14_method_13_code
def yX12_passWord : MethodName := ⟨RX12, "passWord", "()V"⟩
abbrev cX12_numberHere : ByteArray := prog_14_method_15_code
def yX12_numberHere : MethodName := ⟨RX12, "numberHere", "(II)Z"⟩
abbrev cX12_wordHere : ByteArray := prog_14_method_16_code
def yX12_wordHere : MethodName := ⟨RX12, "wordHere", "()I"⟩
abbrev cX12_puts : ByteArray := prog_14_method_17_code
def yX12_puts : MethodName := ⟨RX12, "puts", "(II)V"⟩
abbrev cX12_makes : ByteArray := prog_14_method_18_code
def yX12_makes : MethodName := ⟨RX12, "makes", "(I)Z"⟩
abbrev cX12_opens : ByteArray := prog_14_method_19_code
def yX12_opens : MethodName := ⟨RX12, "opens", "(I)Z"⟩
abbrev cX12_strength : ByteArray := prog_14_method_20_code
def yX12_strength : MethodName := ⟨RX12, "strength", "(I)I"⟩
abbrev cX12_settles : ByteArray := prog_14_method_21_code
def yX12_settles : MethodName := ⟨RX12, "settles", "(I)V"⟩
abbrev cX12_value : ByteArray := prog_14_method_22_code
def yX12_value : MethodName := ⟨RX12, "value", "()Z"⟩
abbrev cX12_term : ByteArray := prog_14_method_23_code
def yX12_term : MethodName := ⟨RX12, "term", "()Z"⟩
abbrev cX12_sum : ByteArray := prog_14_method_24_code
def yX12_sum : MethodName := ⟨RX12, "sum", "()Z"⟩
abbrev cX12_compare : ByteArray := prog_14_method_25_code
def yX12_compare : MethodName := ⟨RX12, "compare", "()Z"⟩
abbrev cX12_fact : ByteArray := prog_14_method_26_code
def yX12_fact : MethodName := ⟨RX12, "fact", "()Z"⟩
abbrev cX12_isInside : ByteArray := prog_14_method_27_code
def yX12_isInside : MethodName := ⟨RX12, "isInside", "()Z"⟩
abbrev cX12_closes : ByteArray := prog_14_method_28_code
def yX12_closes : MethodName := ⟨RX12, "closes", "()V"⟩
abbrev cX12_tested : ByteArray := prog_14_method_29_code
def yX12_tested : MethodName := ⟨RX12, "tested", "()Z"⟩
abbrev cX12_clauseOf : ByteArray := prog_14_method_30_code
def yX12_clauseOf : MethodName := ⟨RX12, "clauseOf", "(I)Z"⟩
abbrev cX12_isHouseHere : ByteArray := prog_14_method_31_code
def yX12_isHouseHere : MethodName := ⟨RX12, "isHouseHere", "(I)Z"⟩
abbrev cX12_isStayHere : ByteArray := prog_14_method_32_code
def yX12_isStayHere : MethodName := ⟨RX12, "isStayHere", "(I)Z"⟩
abbrev cX12_clauseHere : ByteArray := prog_14_method_33_code
def yX12_clauseHere : MethodName := ⟨RX12, "clauseHere", "()Z"⟩
abbrev cX12_readsAll : ByteArray := prog_14_method_34_code
def yX12_readsAll : MethodName := ⟨RX12, "readsAll", "()Z"⟩
abbrev cX12_rule : ByteArray := prog_14_method_35_code
def yX12_rule : MethodName := ⟨RX12, "rule", "()I"⟩
abbrev cX12_street : ByteArray := prog_14_method_36_code
def yX12_street : MethodName := ⟨RX12, "street", "()I"⟩
abbrev cX12_isRule : ByteArray := prog_14_method_37_code
def yX12_isRule : MethodName := ⟨RX12, "isRule", "(I)Z"⟩
abbrev cX12_push : ByteArray := prog_14_method_38_code
def yX12_push : MethodName := ⟨RX12, "push", "(J)V"⟩
abbrev cX12_pop : ByteArray := prog_14_method_39_code
def yX12_pop : MethodName := ⟨RX12, "pop", "()J"⟩
abbrev cX12_one : ByteArray := prog_14_method_40_code
def yX12_one : MethodName := ⟨RX12, "one", "(IJJ)J"⟩
abbrev cX12_reckons : ByteArray := prog_14_method_41_code
def yX12_reckons : MethodName := ⟨RX12, "reckons", "(III)J"⟩
abbrev cX12_isHeld : ByteArray := prog_14_method_42_code
def yX12_isHeld : MethodName := ⟨RX12, "isHeld", "(IIZ)Z"⟩
abbrev cX12_isHouse : ByteArray := prog_14_method_43_code
def yX12_isHouse : MethodName := ⟨RX12, "isHouse", "(I)Z"⟩
abbrev cX12_isStay : ByteArray := prog_14_method_44_code
def yX12_isStay : MethodName := ⟨RX12, "isStay", "(I)Z"⟩
abbrev cX12_isPerson : ByteArray := prog_14_method_45_code
def yX12_isPerson : MethodName := ⟨RX12, "isPerson", "(I)Z"⟩
abbrev cX12_houseOf : ByteArray := prog_14_method_46_code
def yX12_houseOf : MethodName := ⟨RX12, "houseOf", "(II)I"⟩
abbrev cX12_stayOf : ByteArray := prog_14_method_47_code
def yX12_stayOf : MethodName := ⟨RX12, "stayOf", "(II)I"⟩
abbrev cX12_personOf : ByteArray := prog_14_method_48_code
def yX12_personOf : MethodName := ⟨RX12, "personOf", "(II)I"⟩
abbrev cX12_leaves : ByteArray := prog_14_method_49_code
def yX12_leaves : MethodName := ⟨RX12, "leaves", "(I)V"⟩
abbrev cX12_inside : ByteArray := prog_14_method_50_code
def yX12_inside : MethodName := ⟨RX12, "inside", "(I)I"⟩
abbrev cX12_others : ByteArray := prog_14_method_51_code
def yX12_others : MethodName := ⟨RX12, "others", "(IZ)I"⟩
abbrev cX12_mayGo : ByteArray := prog_14_method_52_code
def yX12_mayGo : MethodName := ⟨RX12, "mayGo", "(I)Z"⟩
abbrev cX12_enters : ByteArray := prog_14_method_53_code
def yX12_enters : MethodName := ⟨RX12, "enters", "(III)V"⟩
abbrev cX12_house : ByteArray := prog_14_method_54_code
def yX12_house : MethodName := ⟨RX12, "house", "(II)I"⟩
abbrev cX12_stay : ByteArray := prog_14_method_55_code
def yX12_stay : MethodName := ⟨RX12, "stay", "(II)I"⟩
abbrev cX12_person : ByteArray := prog_14_method_56_code
def yX12_person : MethodName := ⟨RX12, "person", "(II)I"⟩
abbrev cX12_come : ByteArray := prog_14_method_57_code
def yX12_come : MethodName := ⟨RX12, "come", "(II)Z"⟩
abbrev cX12_go : ByteArray := prog_14_method_58_code
def yX12_go : MethodName := ⟨RX12, "go", "(IZ)Z"⟩
abbrev cX12_words : ByteArray := prog_14_method_59_code
def yX12_words : MethodName := ⟨RX12, "words", "(II)V"⟩
abbrev cX12_isDue : ByteArray := prog_14_method_60_code
def yX12_isDue : MethodName := ⟨RX12, "isDue", "(I)Z"⟩
abbrev cX12_isHeldBack : ByteArray := prog_14_method_61_code
def yX12_isHeldBack : MethodName := ⟨RX12, "isHeldBack", "(II)Z"⟩
abbrev cX12_nextStay : ByteArray := prog_14_method_62_code
def yX12_nextStay : MethodName := ⟨RX12, "nextStay", "(I)I"⟩
abbrev cX12_comesFor : ByteArray := prog_14_method_63_code
def yX12_comesFor : MethodName := ⟨RX12, "comesFor", "(II)V"⟩
abbrev cX12_quarter : ByteArray := prog_14_method_64_code
def yX12_quarter : MethodName := ⟨RX12, "quarter", "(I)V"⟩
abbrev cX12_quarters : ByteArray := prog_14_method_65_code
def yX12_quarters : MethodName := ⟨RX12, "quarters", "(II)V"⟩
abbrev cX12_tick : ByteArray := prog_14_method_66_code
def yX12_tick : MethodName := ⟨RX12, "tick", "(II)I"⟩
abbrev cX12_keeps : ByteArray := prog_14_method_67_code
def yX12_keeps : MethodName := ⟨RX12, "keeps", "()V"⟩
abbrev cX12_putsBack : ByteArray := prog_14_method_68_code
def yX12_putsBack : MethodName := ⟨RX12, "putsBack", "()V"⟩
abbrev cX12_served : ByteArray := prog_14_method_69_code
def yX12_served : MethodName := ⟨RX12, "served", "()I"⟩
abbrev cX12_allInside : ByteArray := prog_14_method_70_code
def yX12_allInside : MethodName := ⟨RX12, "allInside", "()I"⟩
abbrev cX12_ahead : ByteArray := prog_14_method_71_code
def yX12_ahead : MethodName := ⟨RX12, "ahead", "(III)I"⟩
abbrev cX12_bestRule : ByteArray := prog_14_method_72_code
def yX12_bestRule : MethodName := ⟨RX12, "bestRule", "()I"⟩
abbrev cX12_areCrossed : ByteArray := prog_14_method_73_code
def yX12_areCrossed : MethodName := ⟨RX12, "areCrossed", "(IIIII)Z"⟩
abbrev cX12_doCross : ByteArray := prog_14_method_74_code
def yX12_doCross : MethodName := ⟨RX12, "doCross", "(III)Z"⟩
abbrev cX12_cross : ByteArray := prog_14_method_75_code
def yX12_cross : MethodName := ⟨RX12, "cross", "(III)I"⟩
abbrev cX12_crosses : ByteArray := prog_14_method_76_code
def yX12_crosses : MethodName := ⟨RX12, "crosses", "(I)V"⟩
abbrev cX12_isSet : ByteArray := prog_14_method_77_code
def yX12_isSet : MethodName := ⟨RX12, "isSet", "(I)Z"⟩
abbrev cX12_hasNone : ByteArray := prog_14_method_78_code
def yX12_hasNone : MethodName := ⟨RX12, "hasNone", "(I)Z"⟩
abbrev cX12_fits : ByteArray := prog_14_method_79_code
def yX12_fits : MethodName := ⟨RX12, "fits", "(III)I"⟩
abbrev cX12_most : ByteArray := prog_14_method_80_code
def yX12_most : MethodName := ⟨RX12, "most", "(II)I"⟩
abbrev cX12_staysOf : ByteArray := prog_14_method_81_code
def yX12_staysOf : MethodName := ⟨RX12, "staysOf", "(II)I"⟩
abbrev cX12_areAllCrossed : ByteArray := prog_14_method_82_code
def yX12_areAllCrossed : MethodName := ⟨RX12, "areAllCrossed", "(I)Z"⟩
abbrev cX12_houses : ByteArray := prog_14_method_83_code
def yX12_houses : MethodName := ⟨RX12, "houses", "(III)I"⟩
abbrev cX12_wishes : ByteArray := prog_14_method_84_code
def yX12_wishes : MethodName := ⟨RX12, "wishes", "(IIIII)I"⟩
abbrev cX12_endOf : ByteArray := prog_14_method_85_code
def yX12_endOf : MethodName := ⟨RX12, "endOf", "(I)I"⟩
abbrev cX12_goTogether : ByteArray := prog_14_method_86_code
def yX12_goTogether : MethodName := ⟨RX12, "goTogether", "(I)Z"⟩
abbrev cX12_plans : ByteArray := prog_14_method_87_code
def yX12_plans : MethodName := ⟨RX12, "plans", "()I"⟩
abbrev cX12_plan : ByteArray := prog_14_method_88_code
def yX12_plan : MethodName := ⟨RX12, "plan", "(I)I"⟩
abbrev cX12_waits : ByteArray := prog_14_method_89_code
def yX12_waits : MethodName := ⟨RX12, "waits", "(II)I"⟩
abbrev cX12_needs : ByteArray := prog_14_method_90_code
def yX12_needs : MethodName := ⟨RX12, "needs", "(I)V"⟩
abbrev cX12_roundOf : ByteArray := prog_14_method_91_code
def yX12_roundOf : MethodName := ⟨RX12, "roundOf", "(I)I"⟩
abbrev cX12_inRings : ByteArray := prog_14_method_92_code
def yX12_inRings : MethodName := ⟨RX12, "inRings", "()I"⟩
abbrev cX12_undone : ByteArray := prog_14_method_93_code
def yX12_undone : MethodName := ⟨RX12, "undone", "()I"⟩
abbrev cX12_rings : ByteArray := prog_14_method_94_code
def yX12_rings : MethodName := ⟨RX12, "rings", "(I)I"⟩
abbrev cX12_worth : ByteArray := prog_14_method_95_code
def yX12_worth : MethodName := ⟨RX12, "worth", "(II)I"⟩
abbrev cX12_asks : ByteArray := prog_14_method_96_code
def yX12_asks : MethodName := ⟨RX12, "asks", "(I)I"⟩
abbrev cX12_isIn : ByteArray := prog_14_method_97_code
def yX12_isIn : MethodName := ⟨RX12, "isIn", "(IIII)Z"⟩
abbrev cX12_went : ByteArray := prog_14_method_98_code
def yX12_went : MethodName := ⟨RX12, "went", "(I)I"⟩
abbrev cX12_before : ByteArray := prog_14_method_99_code
def yX12_before : MethodName := ⟨RX12, "before", "(II)I"⟩
abbrev cX12_isOrder : ByteArray := prog_14_method_100_code
def yX12_isOrder : MethodName := ⟨RX12, "isOrder", "()Z"⟩
abbrev cX12_placeIn : ByteArray := prog_14_method_101_code
def yX12_placeIn : MethodName := ⟨RX12, "placeIn", "(I)I"⟩
abbrev cX12_isNextOrder : ByteArray := prog_14_method_102_code
def yX12_isNextOrder : MethodName := ⟨RX12, "isNextOrder", "()Z"⟩
abbrev cX12_orders : ByteArray := prog_14_method_103_code
def yX12_orders : MethodName := ⟨RX12, "orders", "(I)I"⟩
abbrev cX12_guest : ByteArray := prog_14_method_104_code
def yX12_guest : MethodName := ⟨RX12, "guest", "(II)I"⟩
abbrev cX12_goesBy : ByteArray := prog_14_method_105_code
def yX12_goesBy : MethodName := ⟨RX12, "goesBy", "(II)I"⟩
abbrev cX12_kept : ByteArray := prog_14_method_106_code
def yX12_kept : MethodName := ⟨RX12, "kept", "(III)I"⟩
abbrev cX12_knocks : ByteArray := prog_14_method_107_code
def yX12_knocks : MethodName := ⟨RX12, "knocks", "(IIIIII)I"⟩
abbrev cX12_seed : ByteArray := prog_14_method_108_code
def yX12_seed : MethodName := ⟨RX12, "seed", "(I)I"⟩
abbrev cX12_evenings : ByteArray := prog_14_method_109_code
def yX12_evenings : MethodName := ⟨RX12, "evenings", "(III)I"⟩
abbrev cX12_count : ByteArray := prog_14_method_110_code
def yX12_count : MethodName := ⟨RX12, "count", "(I)I"⟩
abbrev cX12_image : ByteArray := prog_14_method_111_code
def yX12_image : MethodName := ⟨RX12, "image", "(I)I"⟩
abbrev cX12_back : ByteArray := prog_14_method_112_code
def yX12_back : MethodName := ⟨RX12, "back", "(I)I"⟩
def RJx145de : String := "java/io/Serializable"
def TJx145de : u_T := fun k => match k with
  | _ => ("", "", "", false)
def tyJx145de : Nat → FieldType := fun k => match k with
  | _ => .int
abbrev wsJx145de0 : List Cond := u_ws RJx145de TJx145de 0
theorem nmJx145de : ∀ a, a < 0 → ∀ b, b < 0 → a ≠ b → (TJx145de a).2.1 ≠ (TJx145de b).2.1 := by decide +kernel
theorem tyJx145de_ok : ∀ k, k < 0 → parseFieldDescriptor (TJx145de k).2.2.1 = some (tyJx145de k) := by decide +kernel
def RJx9f9b0 : String := "java/lang/CharSequence"
def TJx9f9b0 : u_T := fun k => match k with
  | _ => ("", "", "", false)
def tyJx9f9b0 : Nat → FieldType := fun k => match k with
  | _ => .int
abbrev wsJx9f9b00 : List Cond := u_ws RJx9f9b0 TJx9f9b0 0
theorem nmJx9f9b0 : ∀ a, a < 0 → ∀ b, b < 0 → a ≠ b → (TJx9f9b0 a).2.1 ≠ (TJx9f9b0 b).2.1 := by decide +kernel
theorem tyJx9f9b0_ok : ∀ k, k < 0 → parseFieldDescriptor (TJx9f9b0 k).2.2.1 = some (tyJx9f9b0 k) := by decide +kernel
def RJx8e188 : String := "java/lang/Cloneable"
def TJx8e188 : u_T := fun k => match k with
  | _ => ("", "", "", false)
def tyJx8e188 : Nat → FieldType := fun k => match k with
  | _ => .int
abbrev wsJx8e1880 : List Cond := u_ws RJx8e188 TJx8e188 0
theorem nmJx8e188 : ∀ a, a < 0 → ∀ b, b < 0 → a ≠ b → (TJx8e188 a).2.1 ≠ (TJx8e188 b).2.1 := by decide +kernel
theorem tyJx8e188_ok : ∀ k, k < 0 → parseFieldDescriptor (TJx8e188 k).2.2.1 = some (tyJx8e188 k) := by decide +kernel
def RJxb160c : String := "java/lang/Comparable"
def TJxb160c : u_T := fun k => match k with
  | _ => ("", "", "", false)
def tyJxb160c : Nat → FieldType := fun k => match k with
  | _ => .int
abbrev wsJxb160c0 : List Cond := u_ws RJxb160c TJxb160c 0
theorem nmJxb160c : ∀ a, a < 0 → ∀ b, b < 0 → a ≠ b → (TJxb160c a).2.1 ≠ (TJxb160c b).2.1 := by decide +kernel
theorem tyJxb160c_ok : ∀ k, k < 0 → parseFieldDescriptor (TJxb160c k).2.2.1 = some (tyJxb160c k) := by decide +kernel
def RJ6 : String := "java/lang/Integer"
def TJ6 : u_T := fun k => match k with
  | _ => ("", "", "", false)
def tyJ6 : Nat → FieldType := fun k => match k with
  | _ => .int
abbrev wsJ60 : List Cond := u_ws RJ6 TJ6 0
theorem nmJ6 : ∀ a, a < 0 → ∀ b, b < 0 → a ≠ b → (TJ6 a).2.1 ≠ (TJ6 b).2.1 := by decide +kernel
theorem tyJ6_ok : ∀ k, k < 0 → parseFieldDescriptor (TJ6 k).2.2.1 = some (tyJ6 k) := by decide +kernel
abbrev cJ6_bitCount_0f7a4 : ByteArray := prog_16_method_49_code
def yJ6_bitCount_0f7a4 : MethodName := ⟨RJ6, "bitCount", "(I)I"⟩
def RJ9 : String := "java/lang/Math"
def TJ9 : u_T := fun k => match k with
  | _ => ("", "", "", false)
def tyJ9 : Nat → FieldType := fun k => match k with
  | _ => .int
abbrev wsJ90 : List Cond := u_ws RJ9 TJ9 0
theorem nmJ9 : ∀ a, a < 0 → ∀ b, b < 0 → a ≠ b → (TJ9 a).2.1 ≠ (TJ9 b).2.1 := by decide +kernel
theorem tyJ9_ok : ∀ k, k < 0 → parseFieldDescriptor (TJ9 k).2.2.1 = some (tyJ9 k) := by decide +kernel
abbrev cJ9_max_7cf53 : ByteArray := prog_17_method_65_code
def yJ9_max_7cf53 : MethodName := ⟨RJ9, "max", "(II)I"⟩
abbrev cJ9_min_7cf53 : ByteArray := prog_17_method_69_code
def yJ9_min_7cf53 : MethodName := ⟨RJ9, "min", "(II)I"⟩
def RJ0 : String := "java/lang/String"
def TJ0 : u_T := fun k => match k with
  | _ => ("", "", "", false)
def tyJ0 : Nat → FieldType := fun k => match k with
  | _ => .int
abbrev wsJ00 : List Cond := u_ws RJ0 TJ0 0
theorem nmJ0 : ∀ a, a < 0 → ∀ b, b < 0 → a ≠ b → (TJ0 a).2.1 ≠ (TJ0 b).2.1 := by decide +kernel
theorem tyJ0_ok : ∀ k, k < 0 → parseFieldDescriptor (TJ0 k).2.2.1 = some (tyJ0 k) := by decide +kernel
abbrev cJ0_length_8abf5 : ByteArray := prog_18_method_54_code
def yJ0_length_8abf5 : MethodName := ⟨RJ0, "length", "()I"⟩
abbrev cJ0_charAt_5068e : ByteArray := prog_18_method_56_code
def yJ0_charAt_5068e : MethodName := ⟨RJ0, "charAt", "(I)C"⟩
abbrev cJ0_coder_7d493 : ByteArray := prog_18_method_152_code
def yJ0_coder_7d493 : MethodName := ⟨RJ0, "coder", "()B"⟩
abbrev cJ0_isLatin1_aae02 : ByteArray := prog_18_method_154_code
def yJ0_isLatin1_aae02 : MethodName := ⟨RJ0, "isLatin1", "()Z"⟩
abbrev cJ0_checkIndex_df160 : ByteArray := prog_18_method_155_code
def yJ0_checkIndex_df160 : MethodName := ⟨RJ0, "checkIndex", "(II)V"⟩
def RJ1 : String := "java/lang/StringLatin1"
def TJ1 : u_T := fun k => match k with
  | _ => ("", "", "", false)
def tyJ1 : Nat → FieldType := fun k => match k with
  | _ => .int
abbrev wsJ10 : List Cond := u_ws RJ1 TJ1 0
theorem nmJ1 : ∀ a, a < 0 → ∀ b, b < 0 → a ≠ b → (TJ1 a).2.1 ≠ (TJ1 b).2.1 := by decide +kernel
theorem tyJ1_ok : ∀ k, k < 0 → parseFieldDescriptor (TJ1 k).2.2.1 = some (tyJ1 k) := by decide +kernel
abbrev cJ1_charAt_3b067 : ByteArray := prog_19_method_2_code
def yJ1_charAt_3b067 : MethodName := ⟨RJ1, "charAt", "([BI)C"⟩
def RJ2 : String := "java/lang/StringUTF16"
def TJ2 : u_T := fun k => match k with
  | _ => ("", "", "", false)
def tyJ2 : Nat → FieldType := fun k => match k with
  | _ => .int
abbrev wsJ20 : List Cond := u_ws RJ2 TJ2 0
theorem nmJ2 : ∀ a, a < 0 → ∀ b, b < 0 → a ≠ b → (TJ2 a).2.1 ≠ (TJ2 b).2.1 := by decide +kernel
theorem tyJ2_ok : ∀ k, k < 0 → parseFieldDescriptor (TJ2 k).2.2.1 = some (tyJ2 k) := by decide +kernel
abbrev cJ2_getChar_3b067 : ByteArray := prog_20_method_5_code
def yJ2_getChar_3b067 : MethodName := ⟨RJ2, "getChar", "([BI)C"⟩
abbrev cJ2_length_9d52b : ByteArray := prog_20_method_6_code
def yJ2_length_9d52b : MethodName := ⟨RJ2, "length", "([B)I"⟩
abbrev cJ2_charAt_3b067 : ByteArray := prog_20_method_83_code
def yJ2_charAt_3b067 : MethodName := ⟨RJ2, "charAt", "([BI)C"⟩
abbrev cJ2_checkIndex_2214a : ByteArray := prog_20_method_91_code
def yJ2_checkIndex_2214a : MethodName := ⟨RJ2, "checkIndex", "(I[B)V"⟩
def RJ10 : String := "java/lang/System"
def TJ10 : u_T := fun k => match k with
  | _ => ("", "", "", false)
def tyJ10 : Nat → FieldType := fun k => match k with
  | _ => .int
abbrev wsJ100 : List Cond := u_ws RJ10 TJ10 0
theorem nmJ10 : ∀ a, a < 0 → ∀ b, b < 0 → a ≠ b → (TJ10 a).2.1 ≠ (TJ10 b).2.1 := by decide +kernel
theorem tyJ10_ok : ∀ k, k < 0 → parseFieldDescriptor (TJ10 k).2.2.1 = some (tyJ10 k) := by decide +kernel
def RJxfd54e : String := "java/lang/constant/Constable"
def TJxfd54e : u_T := fun k => match k with
  | _ => ("", "", "", false)
def tyJxfd54e : Nat → FieldType := fun k => match k with
  | _ => .int
abbrev wsJxfd54e0 : List Cond := u_ws RJxfd54e TJxfd54e 0
theorem nmJxfd54e : ∀ a, a < 0 → ∀ b, b < 0 → a ≠ b → (TJxfd54e a).2.1 ≠ (TJxfd54e b).2.1 := by decide +kernel
theorem tyJxfd54e_ok : ∀ k, k < 0 → parseFieldDescriptor (TJxfd54e k).2.2.1 = some (tyJxfd54e k) := by decide +kernel
def RJx3cf43 : String := "java/lang/constant/ConstantDesc"
def TJx3cf43 : u_T := fun k => match k with
  | _ => ("", "", "", false)
def tyJx3cf43 : Nat → FieldType := fun k => match k with
  | _ => .int
abbrev wsJx3cf430 : List Cond := u_ws RJx3cf43 TJx3cf43 0
theorem nmJx3cf43 : ∀ a, a < 0 → ∀ b, b < 0 → a ≠ b → (TJx3cf43 a).2.1 ≠ (TJx3cf43 b).2.1 := by decide +kernel
theorem tyJx3cf43_ok : ∀ k, k < 0 → parseFieldDescriptor (TJx3cf43 k).2.2.1 = some (tyJx3cf43 k) := by decide +kernel
def RJ7 : String := "java/util/Arrays"
def TJ7 : u_T := fun k => match k with
  | _ => ("", "", "", false)
def tyJ7 : Nat → FieldType := fun k => match k with
  | _ => .int
abbrev wsJ70 : List Cond := u_ws RJ7 TJ7 0
theorem nmJ7 : ∀ a, a < 0 → ∀ b, b < 0 → a ≠ b → (TJ7 a).2.1 ≠ (TJ7 b).2.1 := by decide +kernel
theorem tyJ7_ok : ∀ k, k < 0 → parseFieldDescriptor (TJ7 k).2.2.1 = some (tyJ7 k) := by decide +kernel
abbrev cJ7_fill_53178 : ByteArray := prog_22_method_103_code
def yJ7_fill_53178 : MethodName := ⟨RJ7, "fill", "([II)V"⟩
abbrev cJ7_copyOf_59c91 : ByteArray := prog_22_method_123_code
def yJ7_copyOf_59c91 : MethodName := ⟨RJ7, "copyOf", "([II)[I"⟩
def RJ3 : String := "jdk/internal/util/Preconditions"
def TJ3 : u_T := fun k => match k with
  | _ => ("", "", "", false)
def tyJ3 : Nat → FieldType := fun k => match k with
  | _ => .int
abbrev wsJ30 : List Cond := u_ws RJ3 TJ3 0
theorem nmJ3 : ∀ a, a < 0 → ∀ b, b < 0 → a ≠ b → (TJ3 a).2.1 ≠ (TJ3 b).2.1 := by decide +kernel
theorem tyJ3_ok : ∀ k, k < 0 → parseFieldDescriptor (TJ3 k).2.2.1 = some (tyJ3 k) := by decide +kernel
abbrev cJ3_checkIndex_8e157 : ByteArray := prog_23_method_11_code
def yJ3_checkIndex_8e157 : MethodName := ⟨RJ3, "checkIndex", "(IILjava/util/function/BiFunction;)I"⟩
def RL : String := "AfterTheLastLaw"
abbrev cL_law : ByteArray := code
def yL_law : MethodName := ⟨RL, "law", "([I)Z"⟩
-- TABLES: classes, whose code, fields (place among the final references, how far its block lies, what kind, how long), links
def sCl : List vw_C := [(RX0, TX0, 2), (RX1, TX1, 9), (RX2, TX2, 4), (RX3, TX3, 7), (RX4, TX4, 4), (RX5, TX5, 1), (RX6, TX6, 5), (RX7, TX7, 15), (RX8, TX8, 2), (RX9, TX9, 16), (RX10, TX10, 18), (RX11, TX11, 12), (RX12, TX12, 38)]
def sOwn : List String := [RX0, RX1, RX2, RX3, RX4, RX5, RX6, RX7, RX8, RX9, RX10, RX11, RX12, RL, "java/util/Arrays", "java/lang/Integer"]
def sFIL : List (List (Nat × Nat × Nat × Int)) := [[(0, 1, 5, 64), (1, 2, 4, 12)],
  [(0, 1, 4, 18), (1, 2, 4, 18), (2, 3, 4, 18), (3, 4, 4, 18), (4, 5, 4, 19), (5, 6, 4, 12), (6, 7, 4, 12), (7, 8, 4, 12), (0, 0, 0, 0)],
  [(0, 1, 4, 8), (1, 2, 4, 256), (2, 3, 4, 97), (0, 0, 0, 0)],
  [(0, 0, 0, 0), (0, 1, 4, 6), (1, 2, 4, 6), (2, 3, 4, 432), (3, 4, 7, 6), (4, 5, 4, 42), (5, 6, 4, 6)],
  [(0, 1, 4, 400), (0, 0, 0, 0), (0, 0, 0, 0), (0, 0, 0, 0)],
  [(0, 1, 4, 12)],
  [(0, 1, 4, -1), (1, 2, 4, -1), (2, 3, 4, -1), (3, 4, 4, -1), (0, 0, 0, 0)],
  [(0, 1, 24, 0), (1, 3, 4, 400), (2, 4, 4, 400), (3, 5, 4, 12), (4, 6, 4, 12), (5, 7, 4, 48), (6, 8, 4, 48), (7, 9, 4, 48), (0, 0, 0, 0), (0, 0, 0, 0), (0, 0, 0, 0), (0, 0, 0, 0), (0, 0, 0, 0), (0, 0, 0, 0), (0, 0, 0, 0)],
  [(0, 1, 30, 0), (1, 16, 29, 0)],
  [(0, 1, 4, 12), (0, 0, 0, 0), (1, 2, 4, 6), (2, 3, 4, 6), (3, 4, 4, 6), (4, 5, 4, 6), (5, 6, 4, 6), (0, 0, 0, 0), (6, 7, 4, 8), (0, 0, 0, 0), (7, 8, 4, 8), (8, 9, 4, 8), (0, 0, 0, 0), (9, 10, 4, 12), (10, 11, 4, 12), (0, 0, 0, 0)],
  [(0, 0, 0, 0), (0, 1, 4, 6), (1, 2, 4, 6), (2, 3, 4, 6), (3, 4, 4, 6), (4, 5, 4, 72), (0, 0, 0, 0), (5, 6, 4, 18), (6, 7, 4, 18), (7, 8, 4, 18), (8, 9, 4, 18), (9, 10, 4, 18), (10, 11, 4, 18), (0, 0, 0, 0), (0, 0, 0, 0), (11, 12, 4, 12), (12, 13, 4, 12), (13, 14, 4, 12)],
  [(1, 2, 24, 0), (0, 1, 27, 0), (2, 11, 106, 6), (3, 12, 28, 0), (4, 40, 108, 4), (5, 41, 30, 0), (6, 56, 20, 0), (7, 59, 21, 0), (8, 68, 23, 0), (9, 75, 25, 0), (10, 77, 22, 0), (0, 0, 0, 0)],
  [(0, 1, 6, 400), (0, 0, 0, 0), (0, 0, 0, 0), (1, 2, 4, 2400), (2, 3, 4, 7), (3, 4, 4, 216), (4, 5, 4, 6), (0, 0, 0, 0), (0, 0, 0, 0), (5, 6, 4, 18), (6, 7, 4, 90), (0, 0, 0, 0), (0, 0, 0, 0), (0, 0, 0, 0), (0, 0, 0, 0), (0, 0, 0, 0), (0, 0, 0, 0), (0, 0, 0, 0), (7, 8, 4, 400), (0, 0, 0, 0), (8, 9, 5, 64), (0, 0, 0, 0), (9, 10, 5, 10), (10, 11, 4, 274), (11, 12, 4, 274), (12, 13, 4, 18), (13, 14, 4, 18), (14, 15, 4, 4096), (15, 16, 4, 12), (16, 17, 4, 6), (17, 18, 4, 6), (18, 19, 4, 12), (19, 20, 4, 8), (20, 21, 4, 8), (21, 22, 4, 8), (22, 23, 4, 97), (23, 24, 4, 1096), (24, 25, 7, 4)]]
def sFulL : List Nat := [2, 8, 3, 6, 1, 1, 4, 8, 2, 11, 14, 11, 25]
def sFldL : List (Nat × Nat × Nat × Nat) := [
  (4, 11, 4, 0), (4, 15, 4, 1), (11, 96, 4, 1), (4, 19, 4, 2), (7, 123, 4, 2), (4, 22, 4, 3), (11, 117, 4, 3), (7, 12, 7, 0),
  (11, 16, 7, 0), (6, 7, 7, 1), (7, 18, 7, 1), (6, 26, 7, 2), (7, 22, 7, 2), (6, 30, 7, 3), (7, 27, 7, 3), (7, 30, 7, 4),
  (6, 37, 7, 4), (7, 33, 7, 5), (7, 36, 7, 6), (7, 39, 7, 7), (6, 13, 7, 8), (7, 42, 7, 8), (6, 33, 7, 9), (7, 46, 7, 9),
  (7, 49, 7, 10), (7, 52, 7, 11), (7, 55, 7, 12), (7, 58, 7, 13), (7, 61, 7, 14), (10, 9, 10, 0), (11, 110, 10, 0), (4, 79, 10, 0),
  (10, 15, 10, 1), (5, 34, 10, 1), (11, 123, 10, 1), (10, 19, 10, 2), (11, 127, 10, 2), (1, 76, 10, 2), (10, 22, 10, 3), (11, 130, 10, 3),
  (0, 133, 10, 3), (10, 25, 10, 4), (5, 41, 10, 4), (11, 133, 10, 4), (0, 127, 10, 4), (10, 28, 10, 5), (5, 44, 10, 5), (10, 31, 10, 6),
  (1, 52, 10, 6), (11, 191, 10, 6), (4, 82, 10, 6), (10, 34, 10, 7), (11, 146, 10, 7), (10, 37, 10, 8), (0, 72, 10, 8), (11, 149, 10, 8),
  (1, 98, 10, 8), (10, 40, 10, 9), (1, 44, 10, 9), (11, 152, 10, 9), (10, 43, 10, 10), (1, 49, 10, 10), (11, 155, 10, 10), (0, 139, 10, 10),
  (10, 46, 10, 11), (1, 58, 10, 11), (11, 158, 10, 11), (0, 136, 10, 11), (10, 49, 10, 12), (11, 161, 10, 12), (10, 52, 10, 13), (0, 33, 10, 13),
  (11, 194, 10, 13), (10, 55, 10, 14), (0, 83, 10, 14), (11, 197, 10, 14), (10, 58, 10, 15), (5, 15, 10, 15), (0, 69, 10, 15), (11, 167, 10, 15),
  (10, 61, 10, 16), (0, 46, 10, 16), (11, 170, 10, 16), (10, 64, 10, 17), (5, 28, 10, 17), (11, 179, 10, 17), (9, 9, 9, 0), (11, 186, 9, 0),
  (9, 15, 9, 1), (3, 37, 9, 1), (11, 210, 9, 1), (9, 19, 9, 2), (3, 58, 9, 2), (9, 22, 9, 3), (3, 61, 9, 3), (9, 25, 9, 4),
  (3, 47, 9, 4), (9, 28, 9, 5), (3, 44, 9, 5), (9, 31, 9, 6), (3, 48, 9, 6), (9, 34, 9, 7), (2, 27, 9, 7), (11, 213, 9, 7),
  (9, 37, 9, 8), (2, 55, 9, 8), (11, 326, 9, 8), (9, 40, 9, 9), (2, 34, 9, 9), (11, 216, 9, 9), (9, 43, 9, 10), (2, 37, 9, 10),
  (11, 329, 9, 10), (9, 46, 9, 11), (2, 44, 9, 11), (11, 332, 9, 11), (9, 49, 9, 12), (2, 58, 9, 12), (11, 219, 9, 12), (9, 52, 9, 13),
  (2, 61, 9, 13), (11, 345, 9, 13), (9, 55, 9, 14), (2, 64, 9, 14), (11, 348, 9, 14), (9, 58, 9, 15), (11, 222, 9, 15), (8, 10, 8, 0),
  (11, 103, 8, 0), (8, 19, 8, 1), (11, 182, 8, 1), (0, 11, 0, 0), (0, 15, 0, 1), (1, 9, 1, 0), (1, 15, 1, 1), (1, 18, 1, 2),
  (1, 21, 1, 3), (1, 24, 1, 4), (1, 27, 1, 5), (1, 30, 1, 6), (1, 33, 1, 7), (1, 36, 1, 8), (3, 11, 3, 0), (3, 17, 3, 1),
  (3, 21, 3, 2), (3, 24, 3, 3), (3, 27, 3, 4), (3, 31, 3, 5), (3, 34, 3, 6), (5, 9, 5, 0), (2, 11, 2, 0), (2, 17, 2, 1),
  (2, 20, 2, 2), (2, 23, 2, 3), (11, 20, 11, 0), (11, 10, 11, 1), (11, 25, 11, 2), (11, 32, 11, 3), (11, 36, 11, 4), (11, 43, 11, 5),
  (11, 50, 11, 6), (11, 57, 11, 7), (11, 64, 11, 8), (11, 71, 11, 9), (11, 78, 11, 10), (11, 82, 11, 11), (6, 23, 6, 0), (0, 101, 6, 0),
  (6, 29, 6, 1), (0, 104, 6, 1), (6, 36, 6, 2), (0, 89, 6, 2), (6, 40, 6, 3), (0, 95, 6, 3), (6, 41, 6, 4), (0, 86, 6, 4),
  (12, 7, 12, 0), (12, 88, 12, 1), (12, 252, 12, 2), (12, 13, 12, 3), (12, 17, 12, 4), (12, 20, 12, 5), (12, 23, 12, 6), (12, 217, 12, 7),
  (12, 226, 12, 8), (12, 26, 12, 9), (12, 29, 12, 10), (12, 99, 12, 11), (12, 96, 12, 12), (12, 124, 12, 13), (12, 151, 12, 14), (12, 154, 12, 15),
  (12, 157, 12, 16), (12, 237, 12, 17), (12, 32, 12, 18), (12, 160, 12, 19), (12, 35, 12, 20), (12, 261, 12, 21), (12, 39, 12, 22), (12, 42, 12, 23),
  (12, 45, 12, 24), (12, 48, 12, 25), (12, 51, 12, 26), (12, 54, 12, 27), (12, 57, 12, 28), (12, 60, 12, 29), (12, 63, 12, 30), (12, 66, 12, 31),
  (12, 69, 12, 32), (12, 72, 12, 33), (12, 75, 12, 34), (12, 78, 12, 35), (12, 81, 12, 36), (12, 84, 12, 37)]
def sFldP : List (Nat × Nat) := [
  (0, 1042), (0, 1043), (1, 1044), (0, 1045), (1, 1046), (0, 1047), (1, 1048), (0, 1059), (1, 1060), (1, 1061), (0, 1062), (1, 1063), (0, 1064), (1, 1065), (0, 1066), (0, 1067),
  (1, 1068), (0, 1069), (0, 1070), (0, 1071), (1, 1072), (0, 1073), (1, 1074), (0, 1075), (0, 1076), (0, 1077), (0, 1078), (0, 1079), (0, 1080), (0, 1133), (1, 1134), (1, 1135),
  (0, 1136), (1, 1137), (1, 1138), (0, 1139), (1, 1140), (1, 1141), (0, 1142), (1, 1143), (1, 1144), (0, 1145), (1, 1146), (1, 1147), (1, 1148), (0, 1149), (1, 1150), (0, 1151),
  (1, 1152), (1, 1153), (1, 1154), (0, 1155), (1, 1156), (0, 1157), (1, 1158), (1, 1159), (1, 1160), (0, 1161), (1, 1162), (1, 1163), (0, 1164), (1, 1165), (1, 1166), (1, 1167),
  (0, 1168), (1, 1169), (1, 1170), (1, 1171), (0, 1172), (1, 1173), (0, 1174), (1, 1175), (1, 1176), (0, 1177), (1, 1178), (1, 1179), (0, 1180), (1, 1181), (1, 1182), (1, 1183),
  (0, 1184), (1, 1185), (1, 1186), (0, 1187), (1, 1188), (1, 1189), (0, 1233), (1, 1234), (0, 1235), (1, 1236), (1, 1237), (0, 1238), (1, 1239), (0, 2000), (1, 2001), (0, 2002),
  (1, 2003), (0, 2004), (1, 2005), (0, 2006), (1, 2007), (0, 2008), (1, 2009), (1, 2010), (0, 2011), (1, 2012), (1, 2013), (0, 2014), (1, 2015), (1, 2016), (0, 2017), (1, 2018),
  (1, 2019), (0, 2020), (1, 2021), (1, 2022), (0, 2023), (1, 2024), (1, 2025), (0, 2026), (1, 2027), (1, 2028), (0, 2029), (1, 2030), (1, 2031), (0, 2032), (1, 2033), (0, 2067),
  (1, 2068), (0, 2069), (1, 2070), (0, 2085), (0, 2086), (0, 2099), (0, 2100), (0, 2101), (0, 2102), (0, 2103), (0, 2104), (0, 2105), (0, 2106), (0, 2107), (0, 2133), (0, 2134),
  (0, 2135), (0, 2136), (0, 2137), (0, 2138), (0, 2139), (0, 2162), (0, 2172), (0, 2173), (0, 2174), (0, 2175), (0, 2185), (0, 2186), (0, 2187), (0, 2188), (0, 2189), (0, 2190),
  (0, 2191), (0, 2192), (0, 2193), (0, 2194), (0, 2195), (0, 2196), (0, 4003), (1, 4004), (0, 4005), (1, 4006), (0, 4007), (1, 4008), (0, 4009), (1, 4010), (0, 4011), (1, 4012),
  (0, 6030), (0, 6031), (0, 6032), (0, 6033), (0, 6034), (0, 6035), (0, 6036), (0, 6037), (0, 6038), (0, 6039), (0, 6040), (0, 6041), (0, 6042), (0, 6043), (0, 6044), (0, 6045),
  (0, 6046), (0, 6047), (0, 6048), (0, 6049), (0, 6050), (0, 6051), (0, 6052), (0, 6053), (0, 6054), (0, 6055), (0, 6056), (0, 6057), (0, 6058), (0, 6059), (0, 6060), (0, 6061),
  (0, 6062), (0, 6063), (0, 6064), (0, 6065), (0, 6066), (0, 6067)]
def sMthL : List (Nat × Nat × Nat) := [
  (13, 9, 0), (11, 1, 1000), (11, 9, 1), (7, 5, 1000), (7, 11, 2), (4, 3, 1000), (11, 31, 3), (8, 1, 1000),
  (8, 9, 4), (10, 3, 1000), (10, 67, 5), (10, 70, 6), (8, 18, 7), (9, 3, 1000), (11, 42, 4), (11, 49, 8),
  (0, 3, 1000), (11, 56, 9), (1, 3, 1000), (11, 63, 10), (3, 5, 1000), (11, 70, 11), (5, 3, 1000), (11, 77, 12),
  (2, 5, 1000), (13, 13, 13), (11, 86, 14), (11, 92, 15), (4, 25, 14), (13, 18, 16), (13, 23, 17), (11, 99, 18),
  (4, 63, 19), (4, 66, 5), (4, 49, 20), (4, 71, 21), (4, 46, 22), (4, 53, 23), (4, 33, 1004), (4, 38, 1005),
  (4, 60, 24), (4, 29, 25), (4, 42, 26), (4, 85, 27), (4, 94, 28), (4, 101, 29), (4, 57, 30), (4, 105, 31),
  (4, 89, 32), (4, 109, 33), (11, 106, 34), (10, 76, 1003), (13, 28, 35), (11, 113, 36), (7, 64, 19), (7, 67, 20),
  (7, 71, 22), (7, 75, 37), (7, 84, 23), (7, 88, 38), (7, 113, 24), (7, 116, 26), (7, 91, 39), (7, 119, 40),
  (7, 95, 41), (7, 126, 30), (7, 131, 29), (7, 135, 42), (7, 146, 28), (7, 138, 43), (7, 184, 25), (7, 141, 44),
  (7, 98, 45), (7, 167, 46), (7, 101, 47), (7, 170, 48), (7, 104, 49), (7, 178, 50), (7, 181, 51), (7, 79, 52),
  (6, 1, 1000), (6, 17, 53), (14, 316, 1006), (14, 304, 1002), (14, 150, 1003), (13, 32, 54), (11, 120, 55), (11, 136, 56),
  (11, 140, 57), (13, 37, 58), (11, 143, 59), (13, 41, 60), (11, 164, 61), (11, 173, 62), (10, 82, 55), (10, 86, 56),
  (10, 90, 57), (11, 176, 63), (13, 141, 64), (11, 200, 65), (11, 204, 66), (11, 207, 67), (13, 45, 68), (11, 225, 69),
  (11, 228, 70), (10, 93, 59), (10, 96, 71), (13, 50, 72), (11, 232, 73), (10, 103, 74), (10, 100, 75), (11, 235, 74),
  (13, 55, 76), (11, 238, 77), (11, 242, 78), (0, 19, 79), (0, 39, 80), (0, 43, 62), (0, 49, 81), (0, 92, 82),
  (0, 98, 83), (0, 107, 84), (0, 121, 61), (0, 124, 59), (0, 130, 63), (0, 75, 69), (0, 111, 1001), (0, 117, 85),
  (0, 53, 74), (0, 23, 86), (0, 57, 87), (0, 62, 73), (0, 26, 88), (0, 65, 89), (0, 79, 70), (0, 29, 90),
  (13, 59, 91), (11, 246, 92), (13, 64, 93), (13, 137, 94), (11, 249, 95), (11, 379, 1002), (13, 133, 96), (13, 68, 97),
  (11, 253, 98), (11, 256, 99), (1, 40, 100), (13, 72, 101), (11, 260, 102), (11, 263, 103), (1, 55, 99), (13, 76, 104),
  (11, 267, 105), (1, 66, 106), (1, 101, 107), (1, 70, 6), (1, 79, 1003), (1, 85, 108), (1, 92, 1001), (1, 89, 109),
  (11, 270, 110), (11, 273, 111), (1, 62, 110), (13, 80, 112), (11, 276, 113), (11, 281, 114), (11, 285, 115), (1, 109, 116),
  (1, 105, 117), (1, 113, 118), (11, 288, 116), (13, 84, 119), (11, 291, 120), (11, 294, 121), (13, 88, 122), (11, 298, 123),
  (3, 38, 1002), (3, 51, 1001), (3, 54, 124), (3, 64, 125), (3, 68, 126), (11, 302, 127), (3, 84, 128), (3, 88, 1003),
  (3, 94, 113), (3, 100, 129), (3, 76, 130), (3, 80, 131), (11, 305, 132), (3, 72, 133), (11, 309, 134), (13, 92, 135),
  (13, 96, 136), (11, 312, 137), (5, 20, 55), (5, 24, 138), (5, 37, 75), (5, 31, 61), (11, 314, 139), (5, 47, 140),
  (11, 317, 141), (5, 50, 142), (11, 320, 143), (5, 53, 141), (5, 57, 113), (13, 100, 144), (13, 104, 145), (13, 108, 146),
  (11, 323, 147), (13, 112, 148), (13, 116, 149), (11, 335, 150), (2, 28, 6), (2, 40, 147), (2, 47, 151), (11, 338, 152),
  (11, 341, 153), (2, 51, 154), (13, 120, 155), (13, 124, 156), (11, 351, 157), (2, 67, 1001), (11, 355, 158), (2, 73, 113),
  (2, 78, 159), (13, 128, 160), (11, 359, 161), (2, 82, 1002), (2, 85, 162), (2, 89, 163), (11, 363, 163), (11, 366, 162),
  (13, 145, 164), (11, 370, 165), (8, 23, 34), (8, 27, 166), (9, 61, 1003), (13, 149, 167), (13, 12, 168), (12, 1, 1000),
  (13, 17, 169), (12, 92, 170), (13, 22, 171), (13, 31, 172), (12, 255, 173), (12, 249, 174), (12, 102, 175), (12, 110, 176),
  (12, 106, 177), (12, 120, 178), (12, 240, 179), (12, 114, 180), (12, 172, 181), (12, 117, 182), (12, 127, 183), (12, 243, 184),
  (12, 246, 185), (12, 214, 186), (12, 204, 187), (12, 192, 188), (12, 195, 189), (12, 187, 190), (12, 184, 191), (12, 181, 192),
  (12, 175, 193), (12, 167, 194), (12, 178, 195), (12, 207, 196), (12, 198, 197), (12, 163, 198), (12, 201, 199), (13, 27, 200),
  (12, 258, 201), (13, 36, 202), (12, 291, 203), (12, 284, 204), (12, 296, 205), (12, 280, 206), (13, 40, 207), (12, 299, 208),
  (12, 302, 209), (13, 44, 210), (12, 305, 211), (12, 308, 212), (12, 287, 213), (13, 49, 214), (12, 311, 215), (13, 54, 216),
  (13, 58, 217), (12, 337, 218), (12, 342, 219), (12, 334, 220), (12, 325, 221), (12, 328, 222), (12, 315, 223), (12, 318, 224),
  (12, 276, 225), (12, 264, 226), (12, 268, 227), (12, 272, 228), (12, 331, 229), (12, 322, 230), (13, 63, 231), (12, 347, 232),
  (12, 350, 233), (12, 353, 234), (12, 356, 235), (13, 67, 236), (13, 71, 237), (12, 365, 238), (12, 359, 239), (13, 75, 240),
  (12, 372, 241), (12, 375, 242), (12, 378, 243), (12, 369, 244), (12, 381, 245), (13, 79, 246), (13, 83, 247), (12, 386, 248),
  (12, 389, 249), (13, 87, 250), (13, 91, 251), (12, 403, 252), (12, 394, 253), (12, 398, 254), (13, 95, 255), (13, 99, 256),
  (12, 415, 257), (12, 409, 258), (12, 412, 259), (12, 406, 260), (13, 103, 261), (13, 107, 262), (13, 111, 263), (12, 420, 264),
  (13, 115, 265), (13, 119, 266), (12, 429, 267), (12, 424, 268), (12, 432, 269), (13, 123, 270), (13, 127, 271), (12, 435, 272),
  (13, 132, 273), (13, 136, 274), (13, 140, 275), (13, 144, 276), (13, 148, 277), (13, 152, 278)]
def sMthP : List (Nat × Nat) := [
  (0, 1024), (0, 1027), (1, 1032), (0, 1035), (1, 1038), (0, 1041), (1, 1116), (0, 1119), (1, 1122), (0, 1125), (0, 1126), (0, 1130), (1, 1229), (0, 1232), (1, 2078), (1, 2081),
  (0, 2084), (1, 2095), (0, 2098), (1, 2129), (0, 2132), (1, 2158), (0, 2161), (1, 2168), (0, 2171), (0, 2222), (1, 2226), (1, 2230), (0, 2234), (0, 2235), (0, 2239), (1, 3003),
  (0, 3007), (1, 3011), (0, 3012), (0, 3016), (0, 3020), (0, 3025), (0, 3029), (0, 3039), (0, 3078), (0, 3082), (0, 3086), (0, 3090), (0, 3095), (0, 3101), (0, 3105), (1, 3108),
  (0, 3112), (1, 3116), (1, 3120), (0, 3124), (0, 3128), (1, 3132), (1, 3136), (1, 3137), (1, 3138), (0, 3139), (1, 3144), (0, 3145), (1, 3152), (1, 3153), (0, 3154), (0, 3158),
  (0, 3162), (1, 3166), (1, 3168), (0, 3169), (1, 3174), (0, 3184), (1, 3188), (0, 3189), (0, 3193), (0, 3197), (0, 3201), (1, 3205), (0, 3209), (0, 3215), (0, 3219), (1, 3225),
  (0, 3228), (0, 3229), (0, 3232), (0, 3239), (0, 4002), (0, 4024), (1, 4028), (1, 4032), (1, 4036), (0, 4040), (1, 4044), (0, 4048), (0, 4052), (1, 4055), (0, 4059), (0, 4060),
  (0, 4061), (1, 4062), (0, 4066), (1, 4070), (1, 4074), (1, 4078), (0, 4082), (1, 4086), (1, 4090), (0, 4094), (0, 4095), (0, 4099), (1, 4103), (0, 4107), (0, 4111), (1, 4115),
  (0, 4116), (0, 4120), (1, 4124), (0, 4128), (1, 4132), (1, 4136), (0, 4137), (0, 4141), (1, 4145), (0, 4149), (1, 4152), (1, 4153), (1, 4154), (1, 4155), (0, 4156), (0, 4159),
  (1, 4162), (0, 4163), (1, 4167), (1, 4171), (0, 4172), (1, 4176), (1, 4180), (0, 4181), (0, 4184), (1, 4188), (0, 4192), (0, 4196), (0, 4200), (0, 4206), (0, 4207), (0, 4211),
  (0, 4215), (1, 4218), (0, 4221), (0, 4224), (1, 4228), (1, 4232), (0, 4235), (0, 4236), (1, 5000), (0, 5004), (0, 5008), (0, 5011), (0, 5012), (0, 5013), (0, 5017), (0, 5018),
  (1, 5021), (1, 5025), (0, 5028), (0, 5029), (0, 5033), (1, 5039), (1, 5043), (0, 5047), (0, 5051), (0, 5054), (1, 5057), (0, 5058), (0, 5062), (1, 5065), (0, 5069), (1, 5073),
  (0, 5077), (0, 5078), (0, 5079), (0, 5083), (0, 5086), (1, 5089), (0, 5094), (0, 5097), (0, 5098), (0, 5099), (0, 5103), (0, 5107), (1, 5111), (0, 5115), (1, 5118), (0, 5122),
  (0, 5126), (1, 5130), (1, 5134), (0, 5135), (1, 5138), (1, 5139), (1, 5140), (0, 5144), (1, 5148), (0, 5152), (1, 5156), (0, 5160), (0, 5161), (0, 5162), (0, 5166), (0, 5170),
  (1, 5174), (0, 5178), (0, 5182), (1, 5186), (0, 5190), (1, 5191), (0, 5192), (1, 5196), (1, 5200), (0, 5204), (0, 5208), (0, 5212), (1, 5216), (0, 5219), (1, 5220), (0, 5223),
  (0, 5224), (0, 5227), (1, 5231), (0, 5235), (0, 5236), (0, 6000), (1, 6004), (1, 6005), (0, 6006), (1, 6010), (1, 6014), (1, 6015), (0, 6019), (0, 6020), (0, 6026), (0, 6029),
  (0, 6145), (0, 6149), (0, 6153), (0, 6157), (0, 6161), (0, 6165), (0, 6169), (0, 6174), (0, 6178), (0, 6186), (0, 6190), (0, 6194), (0, 6201), (0, 6205), (0, 6209), (0, 6212),
  (0, 6216), (0, 6220), (0, 6224), (0, 6229), (0, 6233), (0, 6237), (0, 7001), (0, 7005), (0, 7010), (0, 7014), (0, 7018), (0, 7031), (0, 7035), (0, 7039), (0, 7042), (0, 7048),
  (0, 7052), (0, 7056), (0, 7060), (0, 7065), (0, 7069), (0, 7073), (0, 7077), (0, 7081), (0, 7085), (0, 7089), (0, 7093), (0, 7096), (0, 7100), (0, 7104), (0, 7108), (0, 7112),
  (0, 7116), (0, 7120), (0, 7125), (0, 7129), (0, 7133), (0, 7137), (0, 7141), (0, 7145), (0, 7149), (0, 7153), (0, 7157), (0, 7161), (0, 7164), (0, 7168), (0, 7172), (0, 7177),
  (0, 7181), (0, 7185), (0, 7189), (0, 7193), (0, 7197), (0, 7202), (0, 7206), (0, 7209), (0, 7213), (0, 7217), (0, 7221), (0, 7225), (0, 7228), (0, 7231), (0, 7235), (0, 8000),
  (0, 8004), (0, 8008), (0, 8013), (0, 8018), (0, 8023), (0, 8027), (0, 8031), (0, 8035), (0, 8039), (0, 8043), (0, 8047), (0, 8051), (0, 8055), (0, 8060), (0, 8064), (0, 8068),
  (0, 8072), (0, 8076), (0, 8081), (0, 8085), (0, 8089), (0, 8093), (0, 8097), (0, 8101), (0, 8105), (0, 8110), (0, 8114), (0, 8124), (0, 8128), (0, 8132)]
def sClkL : List (Nat × Nat × Nat) := [
  (13, 7, 11), (11, 7, 7), (7, 1, 4), (11, 23, 6), (11, 29, 8), (8, 7, 10), (8, 16, 9), (11, 40, 10),
  (11, 47, 0), (11, 54, 1), (11, 61, 3), (11, 68, 5), (11, 75, 2), (7, 25, 6), (13, 10, 12)]
def sClkP : List (Nat) := [
  1022, 1030, 1036, 1112, 1114, 1120, 1227, 2077, 2079, 2093, 2127, 2156, 2166, 3223, 6024]
def sCiL : List (Nat × Nat × Int) := [
  (7, 130, 99999), (1, 61, 262144), (15, 265, 1431655765), (15, 266, 858993459), (15, 267, 252645135), (3, 83, 1000000), (12, 171, 99999), (12, 397, 1000000)]
def sCiP : List (Nat) := [
  3167, 5024, 5036, 5037, 5038, 5093, 7009, 8022]
def sClgL : List (Nat × Nat × Int) := [
  (11, 373, 1103515245), (11, 375, 12345), (11, 377, 2147483647), (12, 135, 448546567013), (12, 229, 1937006969), (12, 231, 1668246885), (12, 233, 1752132708), (12, 235, 131294707347319),
  (12, 220, 1818325876), (12, 222, 439855772532), (12, 224, 1718773093), (12, 190, 7237492), (12, 131, 7237495), (12, 133, 123581014175598), (12, 137, 115923103605861), (12, 139, 418330731890),
  (12, 141, 1919905645), (12, 143, 33611445080913779), (12, 145, 512970880104), (12, 147, 1818326117), (12, 149, 1819242087), (12, 210, 6385252), (12, 212, 28530), (12, 294, 5),
  (12, 340, 96), (12, 345, 3), (12, 363, 2), (12, 384, 12), (12, 392, 95), (12, 401, 6), (12, 418, 99), (12, 427, -1),
  (12, 438, 16), (12, 440, 20), (12, 442, 1103515245), (12, 444, 12345), (12, 446, 2147483648), (12, 448, 65536), (12, 450, 4)]
def sClgP : List (Nat) := [
  4203, 4204, 4205, 6173, 6182, 6183, 6184, 6185, 6198, 6199, 6200, 6228, 7022, 7023, 7024, 7025, 7026, 7027, 7028, 7029,
  7030, 7046, 7047, 7064, 7124, 7176, 7201, 7239, 8012, 8017, 8059, 8080, 8109, 8118, 8119, 8120, 8121, 8122, 8123]
def sStrL : List (Nat × Nat × Nat) := [
  (4, 75, 0), (4, 77, 1), (4, 92, 2), (4, 97, 3), (4, 99, 4), (7, 82, 5), (7, 107, 6), (7, 109, 7),
  (7, 111, 8), (7, 144, 9), (7, 149, 10), (7, 151, 11), (7, 153, 12), (7, 155, 13), (7, 157, 14), (7, 159, 15),
  (7, 161, 16), (7, 163, 17), (7, 165, 18), (7, 174, 19), (7, 176, 20)]
def sStrP : List (Nat) := [
  3024, 3077, 3094, 3099, 3100, 3143, 3149, 3150, 3151, 3173, 3175, 3176, 3177, 3178, 3179, 3180, 3181, 3182, 3183, 3213,
  3214]
def sTxt : List (String) := [
  "house", "stay", "last", "first", "free", "not", "come", "hold", "window", "now", "person", "house", "inside", "after", "room", "windows", "worth", "late", "long", "or",
  "and"]
def sByt : List (List Nat) := [
  [104, 111, 117, 115, 101], [115, 116, 97, 121], [108, 97, 115, 116], [102, 105, 114, 115, 116], [102, 114, 101, 101], [110, 111, 116], [99, 111, 109, 101], [104, 111, 108, 100],
  [119, 105, 110, 100, 111, 119], [110, 111, 119], [112, 101, 114, 115, 111, 110], [104, 111, 117, 115, 101], [105, 110, 115, 105, 100, 101], [97, 102, 116, 101, 114], [114, 111, 111, 109], [119, 105, 110, 100, 111, 119, 115],
  [119, 111, 114, 116, 104], [108, 97, 116, 101], [108, 111, 110, 103], [111, 114], [97, 110, 100]]
-- METHODS: name, code, locals, what it answers, static; then whose, how many arguments, kind of answer, new cells and slots at most
def sYc0 : List (MethodName × ByteArray × Nat × Option FieldType × Bool) := [
  (⟨"AfterTheLast", "<init>", "()V"⟩, prog_1_method_1_code, 1, (Option.none : Option Jvm.ClassFile.FieldType), false),
  (⟨"AfterTheLast$RuleReader", "<init>", "()V"⟩, prog_9_method_1_code, 1, (Option.none : Option Jvm.ClassFile.FieldType), false),
  (⟨"AfterTheLast$Reader", "<init>", "()V"⟩, prog_6_method_1_code, 1, (Option.none : Option Jvm.ClassFile.FieldType), false),
  (⟨"AfterTheLast$Scene", "<init>", "()V"⟩, prog_10_method_1_code, 1, (Option.none : Option Jvm.ClassFile.FieldType), false),
  (⟨"AfterTheLast$Town", "<init>", "()V"⟩, prog_12_method_1_code, 1, (Option.none : Option Jvm.ClassFile.FieldType), false),
  (⟨"AfterTheLast$Town", "clear", "()V"⟩, prog_12_method_2_code, 1, (Option.none : Option Jvm.ClassFile.FieldType), false),
  (⟨"java/util/Arrays", "fill", "([II)V"⟩, prog_22_method_103_code, 4, (Option.none : Option Jvm.ClassFile.FieldType), true),
  (⟨"AfterTheLast$Told", "<init>", "()V"⟩, prog_11_method_1_code, 1, (Option.none : Option Jvm.ClassFile.FieldType), false),
  (⟨"AfterTheLast$Clock", "<init>", "()V"⟩, prog_2_method_1_code, 1, (Option.none : Option Jvm.ClassFile.FieldType), false),
  (⟨"AfterTheLast$Crossings", "<init>", "()V"⟩, prog_3_method_1_code, 1, (Option.none : Option Jvm.ClassFile.FieldType), false),
  (⟨"AfterTheLast$Planner", "<init>", "()V"⟩, prog_5_method_1_code, 1, (Option.none : Option Jvm.ClassFile.FieldType), false),
  (⟨"AfterTheLast$Rings", "<init>", "()V"⟩, prog_7_method_1_code, 1, (Option.none : Option Jvm.ClassFile.FieldType), false),
  (⟨"AfterTheLast$Guesses", "<init>", "()V"⟩, prog_4_method_1_code, 1, (Option.none : Option Jvm.ClassFile.FieldType), false),
  (⟨"AfterTheLast", "feed", "(IIIII)I"⟩, prog_1_method_2_code, 6, (Option.some Jvm.ClassFile.FieldType.int), false),
  (⟨"AfterTheLast$Reader", "hasPlaceFor", "(I)Z"⟩, prog_6_method_2_code, 2, (Option.some Jvm.ClassFile.FieldType.boolean), false),
  (⟨"AfterTheLast$Reader", "append", "(I)V"⟩, prog_6_method_3_code, 3, (Option.none : Option Jvm.ClassFile.FieldType), false),
  (⟨"AfterTheLast", "end", "(I)I"⟩, prog_1_method_3_code, 2, (Option.some Jvm.ClassFile.FieldType.int), false),
  (⟨"AfterTheLast", "street", "()I"⟩, prog_1_method_4_code, 2, (Option.some Jvm.ClassFile.FieldType.int), false),
  (⟨"AfterTheLast$Reader", "readStreet", "(LAfterTheLast$Town;)I"⟩, prog_6_method_15_code, 5, (Option.some Jvm.ClassFile.FieldType.int), false),
  (⟨"AfterTheLast$Reader", "rewind", "()V"⟩, prog_6_method_4_code, 1, (Option.none : Option Jvm.ClassFile.FieldType), false)]
def sYc1 : List (MethodName × ByteArray × Nat × Option FieldType × Bool) := [
  (⟨"AfterTheLast$Reader", "fine", "()Z"⟩, prog_6_method_5_code, 1, (Option.some Jvm.ClassFile.FieldType.boolean), false),
  (⟨"AfterTheLast$Reader", "readClause", "(LAfterTheLast$Town;Z)V"⟩, prog_6_method_16_code, 4, (Option.none : Option Jvm.ClassFile.FieldType), false),
  (⟨"AfterTheLast$Reader", "next", "()I"⟩, prog_6_method_8_code, 1, (Option.some Jvm.ClassFile.FieldType.int), false),
  (⟨"AfterTheLast$Reader", "isAt", "(Ljava/lang/String;)Z"⟩, prog_6_method_10_code, 4, (Option.some Jvm.ClassFile.FieldType.boolean), false),
  (⟨"AfterTheLast$Reader", "fail", "(I)V"⟩, prog_6_method_6_code, 2, (Option.none : Option Jvm.ClassFile.FieldType), false),
  (⟨"AfterTheLast$Reader", "failAt", "(II)V"⟩, prog_6_method_7_code, 3, (Option.none : Option Jvm.ClassFile.FieldType), false),
  (⟨"AfterTheLast$Reader", "skip", "(I)V"⟩, prog_6_method_9_code, 2, (Option.none : Option Jvm.ClassFile.FieldType), false),
  (⟨"AfterTheLast$Reader", "readHouse", "(LAfterTheLast$Town;)V"⟩, prog_6_method_17_code, 5, (Option.none : Option Jvm.ClassFile.FieldType), false),
  (⟨"AfterTheLast$Reader", "take", "(Ljava/lang/String;)Z"⟩, prog_6_method_12_code, 2, (Option.some Jvm.ClassFile.FieldType.boolean), false),
  (⟨"AfterTheLast$Reader", "number", "(II)I"⟩, prog_6_method_13_code, 5, (Option.some Jvm.ClassFile.FieldType.int), false),
  (⟨"AfterTheLast$Reader", "isDigit", "(I)Z"⟩, prog_6_method_14_code, 1, (Option.some Jvm.ClassFile.FieldType.boolean), true),
  (⟨"AfterTheLast$Town", "addHouse", "(III)V"⟩, prog_12_method_4_code, 4, (Option.none : Option Jvm.ClassFile.FieldType), false),
  (⟨"AfterTheLast$Reader", "readStay", "(LAfterTheLast$Town;)V"⟩, prog_6_method_18_code, 7, (Option.none : Option Jvm.ClassFile.FieldType), false),
  (⟨"AfterTheLast$Town", "addStay", "(IIIII)V"⟩, prog_12_method_5_code, 6, (Option.none : Option Jvm.ClassFile.FieldType), false),
  (⟨"AfterTheLast$Town", "copyFrom", "(LAfterTheLast$Town;)V"⟩, prog_12_method_3_code, 2, (Option.none : Option Jvm.ClassFile.FieldType), false),
  (⟨"AfterTheLast", "rule", "()I"⟩, prog_1_method_5_code, 2, (Option.some Jvm.ClassFile.FieldType.int), false),
  (⟨"AfterTheLast$RuleReader", "read", "()LAfterTheLast$Rule;"⟩, prog_9_method_2_code, 2, (Option.some (Jvm.ClassFile.FieldType.object "AfterTheLast$Rule")), false),
  (⟨"AfterTheLast$RuleReader", "readNext", "(I)V"⟩, prog_9_method_3_code, 4, (Option.none : Option Jvm.ClassFile.FieldType), false),
  (⟨"AfterTheLast$RuleReader", "readClauseWord", "()V"⟩, prog_9_method_4_code, 2, (Option.none : Option Jvm.ClassFile.FieldType), false),
  (⟨"AfterTheLast$RuleReader", "readOpening", "(Z)V"⟩, prog_9_method_5_code, 2, (Option.none : Option Jvm.ClassFile.FieldType), false)]
def sYc2 : List (MethodName × ByteArray × Nat × Option FieldType × Bool) := [
  (⟨"AfterTheLast$RuleReader", "keepWaiting", "(III)V"⟩, prog_9_method_14_code, 4, (Option.none : Option Jvm.ClassFile.FieldType), false),
  (⟨"AfterTheLast$RuleReader", "readValue", "(I)V"⟩, prog_9_method_6_code, 5, (Option.none : Option Jvm.ClassFile.FieldType), false),
  (⟨"AfterTheLast$RuleReader", "takeWord", "()I"⟩, prog_9_method_7_code, 1, (Option.some Jvm.ClassFile.FieldType.int), false),
  (⟨"AfterTheLast$RuleReader", "countPart", "(I)V"⟩, prog_9_method_13_code, 2, (Option.none : Option Jvm.ClassFile.FieldType), false),
  (⟨"AfterTheLast$RuleReader", "add", "(II)I"⟩, prog_9_method_16_code, 3, (Option.some Jvm.ClassFile.FieldType.int), false),
  (⟨"AfterTheLast$RuleReader", "readJoining", "(I)V"⟩, prog_9_method_8_code, 4, (Option.none : Option Jvm.ClassFile.FieldType), false),
  (⟨"AfterTheLast$RuleReader", "settle", "(I)V"⟩, prog_9_method_15_code, 3, (Option.none : Option Jvm.ClassFile.FieldType), false),
  (⟨"AfterTheLast$RuleReader", "readSign", "(I)V"⟩, prog_9_method_9_code, 3, (Option.none : Option Jvm.ClassFile.FieldType), false),
  (⟨"AfterTheLast$Reader", "takePair", "(CC)Z"⟩, prog_6_method_11_code, 4, (Option.some Jvm.ClassFile.FieldType.boolean), false),
  (⟨"AfterTheLast$RuleReader", "readBehindFact", "(I)V"⟩, prog_9_method_10_code, 2, (Option.none : Option Jvm.ClassFile.FieldType), false),
  (⟨"AfterTheLast$RuleReader", "closeBracket", "()V"⟩, prog_9_method_11_code, 1, (Option.none : Option Jvm.ClassFile.FieldType), false),
  (⟨"AfterTheLast$RuleReader", "endClause", "()V"⟩, prog_9_method_12_code, 1, (Option.none : Option Jvm.ClassFile.FieldType), false),
  (⟨"AfterTheLast$Rule", "<init>", "(LAfterTheLast$RuleReader;)V"⟩, prog_8_method_1_code, 2, (Option.none : Option Jvm.ClassFile.FieldType), false),
  (⟨"java/util/Arrays", "copyOf", "([II)[I"⟩, prog_22_method_123_code, 3, (Option.some (Jvm.ClassFile.FieldType.array Jvm.ClassFile.FieldType.int)), true),
  (⟨"AfterTheLast", "house", "(II)I"⟩, prog_1_method_6_code, 4, (Option.some Jvm.ClassFile.FieldType.int), false),
  (⟨"AfterTheLast$Town", "isHouse", "(I)Z"⟩, prog_12_method_6_code, 2, (Option.some Jvm.ClassFile.FieldType.boolean), false),
  (⟨"AfterTheLast$Town", "lastIn", "(I)I"⟩, prog_12_method_11_code, 2, (Option.some Jvm.ClassFile.FieldType.int), false),
  (⟨"AfterTheLast$Town", "firstIn", "(I)I"⟩, prog_12_method_10_code, 2, (Option.some Jvm.ClassFile.FieldType.int), false),
  (⟨"AfterTheLast", "stay", "(II)I"⟩, prog_1_method_7_code, 4, (Option.some Jvm.ClassFile.FieldType.int), false),
  (⟨"AfterTheLast$Town", "isStay", "(I)Z"⟩, prog_12_method_7_code, 2, (Option.some Jvm.ClassFile.FieldType.boolean), false)]
def sYc3 : List (MethodName × ByteArray × Nat × Option FieldType × Bool) := [
  (⟨"AfterTheLast", "person", "(II)I"⟩, prog_1_method_8_code, 4, (Option.some Jvm.ClassFile.FieldType.int), false),
  (⟨"AfterTheLast", "isPerson", "(I)Z"⟩, prog_1_method_35_code, 1, (Option.some Jvm.ClassFile.FieldType.boolean), true),
  (⟨"AfterTheLast$Town", "mayLeave", "(I)Z"⟩, prog_12_method_14_code, 3, (Option.some Jvm.ClassFile.FieldType.boolean), false),
  (⟨"AfterTheLast$Town", "after", "(I)I"⟩, prog_12_method_13_code, 5, (Option.some Jvm.ClassFile.FieldType.int), false),
  (⟨"AfterTheLast", "count", "(I)I"⟩, prog_1_method_9_code, 4, (Option.some Jvm.ClassFile.FieldType.int), false),
  (⟨"AfterTheLast$Town", "served", "()I"⟩, prog_12_method_21_code, 3, (Option.some Jvm.ClassFile.FieldType.int), false),
  (⟨"AfterTheLast$Town", "missed", "()I"⟩, prog_12_method_22_code, 3, (Option.some Jvm.ClassFile.FieldType.int), false),
  (⟨"AfterTheLast$Town", "allInside", "()I"⟩, prog_12_method_23_code, 3, (Option.some Jvm.ClassFile.FieldType.int), false),
  (⟨"AfterTheLast", "come", "(II)Z"⟩, prog_1_method_10_code, 4, (Option.some Jvm.ClassFile.FieldType.boolean), false),
  (⟨"AfterTheLast$Town", "roomLeft", "(I)I"⟩, prog_12_method_9_code, 2, (Option.some Jvm.ClassFile.FieldType.int), false),
  (⟨"AfterTheLast$Town", "enter", "(III)V"⟩, prog_12_method_15_code, 4, (Option.none : Option Jvm.ClassFile.FieldType), false),
  (⟨"AfterTheLast$Town", "endWaits", "(II)V"⟩, prog_12_method_16_code, 4, (Option.none : Option Jvm.ClassFile.FieldType), false),
  (⟨"AfterTheLast", "go", "(IZ)Z"⟩, prog_1_method_11_code, 4, (Option.some Jvm.ClassFile.FieldType.boolean), false),
  (⟨"AfterTheLast$Town", "leaveByWindow", "(I)Z"⟩, prog_12_method_18_code, 3, (Option.some Jvm.ClassFile.FieldType.boolean), false),
  (⟨"AfterTheLast$Town", "leave", "(I)V"⟩, prog_12_method_17_code, 5, (Option.none : Option Jvm.ClassFile.FieldType), false),
  (⟨"AfterTheLast$Town", "placeOf", "(I)I"⟩, prog_12_method_12_code, 4, (Option.some Jvm.ClassFile.FieldType.int), false),
  (⟨"AfterTheLast", "tick", "(II)I"⟩, prog_1_method_12_code, 5, (Option.some Jvm.ClassFile.FieldType.int), false),
  (⟨"AfterTheLast", "ruleAt", "(I)LAfterTheLast$Rule;"⟩, prog_1_method_38_code, 2, (Option.some (Jvm.ClassFile.FieldType.object "AfterTheLast$Rule")), false),
  (⟨"AfterTheLast$Clock", "quarters", "(LAfterTheLast$Rule;LAfterTheLast$Town;I)V"⟩, prog_2_method_2_code, 5, (Option.none : Option Jvm.ClassFile.FieldType), false),
  (⟨"AfterTheLast$Clock", "letGo", "(LAfterTheLast$Rule;LAfterTheLast$Town;)V"⟩, prog_2_method_3_code, 6, (Option.none : Option Jvm.ClassFile.FieldType), false)]
def sYc4 : List (MethodName × ByteArray × Nat × Option FieldType × Bool) := [
  (⟨"AfterTheLast$Town", "isDue", "(I)Z"⟩, prog_12_method_19_code, 3, (Option.some Jvm.ClassFile.FieldType.boolean), false),
  (⟨"AfterTheLast$Clock", "someTestHolds", "(LAfterTheLast$Rule;ILAfterTheLast$Town;II)Z"⟩, prog_2_method_7_code, 7, (Option.some Jvm.ClassFile.FieldType.boolean), false),
  (⟨"AfterTheLast$Clock", "testHolds", "(LAfterTheLast$Rule;ILAfterTheLast$Town;II)Z"⟩, prog_2_method_8_code, 11, (Option.some Jvm.ClassFile.FieldType.boolean), false),
  (⟨"AfterTheLast$Rule", "start", "(I)I"⟩, prog_8_method_3_code, 2, (Option.some Jvm.ClassFile.FieldType.int), false),
  (⟨"AfterTheLast$Clock", "wordValue", "(ILAfterTheLast$Town;II)J"⟩, prog_2_method_10_code, 5, (Option.some Jvm.ClassFile.FieldType.long), true),
  (⟨"AfterTheLast$Clock", "joined", "(IJJ)J"⟩, prog_2_method_9_code, 5, (Option.some Jvm.ClassFile.FieldType.long), true),
  (⟨"AfterTheLast$Clock", "letOutByWindow", "(LAfterTheLast$Rule;LAfterTheLast$Town;)V"⟩, prog_2_method_4_code, 4, (Option.none : Option Jvm.ClassFile.FieldType), false),
  (⟨"AfterTheLast$Rule", "has", "(I)Z"⟩, prog_8_method_2_code, 3, (Option.some Jvm.ClassFile.FieldType.boolean), false),
  (⟨"AfterTheLast$Clock", "letIn", "(LAfterTheLast$Rule;LAfterTheLast$Town;)V"⟩, prog_2_method_5_code, 6, (Option.none : Option Jvm.ClassFile.FieldType), false),
  (⟨"AfterTheLast$Town", "findStaysToBegin", "([I)V"⟩, prog_12_method_20_code, 3, (Option.none : Option Jvm.ClassFile.FieldType), false),
  (⟨"AfterTheLast$Clock", "countLate", "(LAfterTheLast$Town;)V"⟩, prog_2_method_6_code, 2, (Option.none : Option Jvm.ClassFile.FieldType), true),
  (⟨"AfterTheLast", "ahead", "(III)I"⟩, prog_1_method_13_code, 6, (Option.some Jvm.ClassFile.FieldType.int), false),
  (⟨"AfterTheLast$Town", "windowsLeft", "()I"⟩, prog_12_method_24_code, 3, (Option.some Jvm.ClassFile.FieldType.int), false),
  (⟨"AfterTheLast", "bestRule", "()I"⟩, prog_1_method_14_code, 7, (Option.some Jvm.ClassFile.FieldType.int), false),
  (⟨"AfterTheLast", "evenings", "(III)I"⟩, prog_1_method_15_code, 9, (Option.some Jvm.ClassFile.FieldType.int), false),
  (⟨"AfterTheLast", "drawTills", "(LAfterTheLast$Town;I)I"⟩, prog_1_method_39_code, 4, (Option.some Jvm.ClassFile.FieldType.int), true),
  (⟨"AfterTheLast", "seed", "(I)I"⟩, prog_1_method_16_code, 3, (Option.some Jvm.ClassFile.FieldType.int), false),
  (⟨"AfterTheLast", "cross", "(III)I"⟩, prog_1_method_17_code, 5, (Option.some Jvm.ClassFile.FieldType.int), false),
  (⟨"AfterTheLast", "isLaw", "(I)Z"⟩, prog_1_method_37_code, 1, (Option.some Jvm.ClassFile.FieldType.boolean), true),
  (⟨"AfterTheLast$Crossings", "crosses", "(LAfterTheLast$Town;III)Z"⟩, prog_3_method_2_code, 4, (Option.some Jvm.ClassFile.FieldType.boolean), true)]
def sYc5 : List (MethodName × ByteArray × Nat × Option FieldType × Bool) := [
  (⟨"AfterTheLast$Crossings", "crossesBehind", "(LAfterTheLast$Town;III)Z"⟩, prog_3_method_3_code, 4, (Option.some Jvm.ClassFile.FieldType.boolean), true),
  (⟨"AfterTheLast", "fits", "(III)I"⟩, prog_1_method_18_code, 6, (Option.some Jvm.ClassFile.FieldType.int), false),
  (⟨"AfterTheLast$Town", "isSetOfStays", "(I)Z"⟩, prog_12_method_8_code, 2, (Option.some Jvm.ClassFile.FieldType.boolean), false),
  (⟨"AfterTheLast$Crossings", "twosThatCross", "(LAfterTheLast$Town;II)I"⟩, prog_3_method_4_code, 6, (Option.some Jvm.ClassFile.FieldType.int), true),
  (⟨"AfterTheLast", "most", "(II)I"⟩, prog_1_method_19_code, 4, (Option.some Jvm.ClassFile.FieldType.int), false),
  (⟨"AfterTheLast$Crossings", "bestScore", "(LAfterTheLast$Town;I)I"⟩, prog_3_method_8_code, 7, (Option.some Jvm.ClassFile.FieldType.int), false),
  (⟨"AfterTheLast$Crossings", "sortStays", "(LAfterTheLast$Town;I)I"⟩, prog_3_method_10_code, 6, (Option.some Jvm.ClassFile.FieldType.int), false),
  (⟨"AfterTheLast$Crossings", "standsAhead", "(LAfterTheLast$Town;II)Z"⟩, prog_3_method_11_code, 3, (Option.some Jvm.ClassFile.FieldType.boolean), true),
  (⟨"AfterTheLast$Crossings", "bestChain", "(LAfterTheLast$Town;[III)I"⟩, prog_3_method_9_code, 6, (Option.some Jvm.ClassFile.FieldType.int), false),
  (⟨"AfterTheLast$Crossings", "score", "(LAfterTheLast$Town;I)I"⟩, prog_3_method_5_code, 2, (Option.some Jvm.ClassFile.FieldType.int), true),
  (⟨"AfterTheLast$Crossings", "worthOf", "(I)I"⟩, prog_3_method_6_code, 1, (Option.some Jvm.ClassFile.FieldType.int), true),
  (⟨"AfterTheLast$Crossings", "setOf", "(I)I"⟩, prog_3_method_7_code, 1, (Option.some Jvm.ClassFile.FieldType.int), true),
  (⟨"AfterTheLast", "houses", "(III)I"⟩, prog_1_method_20_code, 6, (Option.some Jvm.ClassFile.FieldType.int), false),
  (⟨"java/lang/Integer", "bitCount", "(I)I"⟩, prog_16_method_49_code, 1, (Option.some Jvm.ClassFile.FieldType.int), true),
  (⟨"AfterTheLast$Crossings", "draw", "(LAfterTheLast$Town;II)V"⟩, prog_3_method_12_code, 6, (Option.none : Option Jvm.ClassFile.FieldType), false),
  (⟨"AfterTheLast$Crossings", "fewestParts", "()I"⟩, prog_3_method_15_code, 2, (Option.some Jvm.ClassFile.FieldType.int), false),
  (⟨"AfterTheLast$Crossings", "mostOfWhichAllCross", "()I"⟩, prog_3_method_13_code, 1, (Option.some Jvm.ClassFile.FieldType.int), false),
  (⟨"AfterTheLast$Crossings", "mostFrom", "(LAfterTheLast$Crossings;II)I"⟩, prog_3_method_14_code, 5, (Option.some Jvm.ClassFile.FieldType.int), true),
  (⟨"AfterTheLast$Crossings", "canBePutInto", "(LAfterTheLast$Crossings;III)Z"⟩, prog_3_method_16_code, 6, (Option.some Jvm.ClassFile.FieldType.boolean), true),
  (⟨"AfterTheLast", "wishes", "(IIIII)I"⟩, prog_1_method_21_code, 7, (Option.some Jvm.ClassFile.FieldType.int), false)]
def sYc6 : List (MethodName × ByteArray × Nat × Option FieldType × Bool) := [
  (⟨"AfterTheLast", "isQuarter", "(I)Z"⟩, prog_1_method_36_code, 1, (Option.some Jvm.ClassFile.FieldType.boolean), true),
  (⟨"AfterTheLast$Told", "addWish", "(IIIII)V"⟩, prog_11_method_3_code, 6, (Option.none : Option Jvm.ClassFile.FieldType), false),
  (⟨"AfterTheLast", "plan", "(I)I"⟩, prog_1_method_22_code, 3, (Option.some Jvm.ClassFile.FieldType.int), false),
  (⟨"AfterTheLast$Planner", "look", "(LAfterTheLast$Told;)V"⟩, prog_5_method_2_code, 4, (Option.none : Option Jvm.ClassFile.FieldType), false),
  (⟨"AfterTheLast$Planner", "compare", "(LAfterTheLast$Told;II)V"⟩, prog_5_method_3_code, 8, (Option.none : Option Jvm.ClassFile.FieldType), false),
  (⟨"AfterTheLast$Planner", "goTogether", "(LAfterTheLast$Told;IIII)Z"⟩, prog_5_method_5_code, 12, (Option.some Jvm.ClassFile.FieldType.boolean), true),
  (⟨"AfterTheLast$Planner", "place", "(III)I"⟩, prog_5_method_4_code, 3, (Option.some Jvm.ClassFile.FieldType.int), true),
  (⟨"AfterTheLast$Planner", "howMany", "()I"⟩, prog_5_method_11_code, 1, (Option.some Jvm.ClassFile.FieldType.int), false),
  (⟨"AfterTheLast$Planner", "countFrom", "(LAfterTheLast$Planner;I)I"⟩, prog_5_method_12_code, 4, (Option.some Jvm.ClassFile.FieldType.int), true),
  (⟨"AfterTheLast$Planner", "countLastTwo", "(I)I"⟩, prog_5_method_13_code, 6, (Option.some Jvm.ClassFile.FieldType.int), false),
  (⟨"AfterTheLast$Planner", "isOpen", "(II)Z"⟩, prog_5_method_9_code, 3, (Option.some Jvm.ClassFile.FieldType.boolean), false),
  (⟨"AfterTheLast$Planner", "choose", "(II)Z"⟩, prog_5_method_10_code, 5, (Option.some Jvm.ClassFile.FieldType.boolean), false),
  (⟨"AfterTheLast$Planner", "findFirst", "()Z"⟩, prog_5_method_7_code, 1, (Option.some Jvm.ClassFile.FieldType.boolean), false),
  (⟨"AfterTheLast$Planner", "findFrom", "(LAfterTheLast$Planner;I)Z"⟩, prog_5_method_8_code, 3, (Option.some Jvm.ClassFile.FieldType.boolean), true),
  (⟨"AfterTheLast$Planner", "beginOf", "(I)I"⟩, prog_5_method_6_code, 2, (Option.some Jvm.ClassFile.FieldType.int), false),
  (⟨"AfterTheLast", "waits", "(II)I"⟩, prog_1_method_23_code, 4, (Option.some Jvm.ClassFile.FieldType.int), false),
  (⟨"AfterTheLast", "rings", "(I)I"⟩, prog_1_method_24_code, 2, (Option.some Jvm.ClassFile.FieldType.int), false),
  (⟨"AfterTheLast$Rings", "look", "(LAfterTheLast$Town;)V"⟩, prog_7_method_2_code, 5, (Option.none : Option Jvm.ClassFile.FieldType), false),
  (⟨"AfterTheLast$Rings", "aheadOf", "(LAfterTheLast$Town;II)I"⟩, prog_7_method_3_code, 9, (Option.some Jvm.ClassFile.FieldType.int), true),
  (⟨"AfterTheLast$Rings", "shortest", "()I"⟩, prog_7_method_4_code, 4, (Option.some Jvm.ClassFile.FieldType.int), false)]
def sYc7 : List (MethodName × ByteArray × Nat × Option FieldType × Bool) := [
  (⟨"AfterTheLast$Rings", "ringThrough", "(I)I"⟩, prog_7_method_5_code, 6, (Option.some Jvm.ClassFile.FieldType.int), false),
  (⟨"AfterTheLast$Rings", "stuck", "()I"⟩, prog_7_method_6_code, 1, (Option.some Jvm.ClassFile.FieldType.int), false),
  (⟨"AfterTheLast$Rings", "stuckAmong", "(I)I"⟩, prog_7_method_7_code, 6, (Option.some Jvm.ClassFile.FieldType.int), false),
  (⟨"AfterTheLast$Rings", "undone", "()I"⟩, prog_7_method_8_code, 5, (Option.some Jvm.ClassFile.FieldType.int), false),
  (⟨"AfterTheLast", "worth", "(II)I"⟩, prog_1_method_25_code, 4, (Option.some Jvm.ClassFile.FieldType.int), false),
  (⟨"AfterTheLast", "asks", "(I)I"⟩, prog_1_method_26_code, 6, (Option.some Jvm.ClassFile.FieldType.int), false),
  (⟨"AfterTheLast", "went", "(I)I"⟩, prog_1_method_27_code, 3, (Option.some Jvm.ClassFile.FieldType.int), false),
  (⟨"AfterTheLast$Told", "placeInRow", "(I)I"⟩, prog_11_method_4_code, 3, (Option.some Jvm.ClassFile.FieldType.int), false),
  (⟨"AfterTheLast", "before", "(II)I"⟩, prog_1_method_28_code, 4, (Option.some Jvm.ClassFile.FieldType.int), false),
  (⟨"AfterTheLast", "orders", "(I)I"⟩, prog_1_method_29_code, 3, (Option.some Jvm.ClassFile.FieldType.int), false),
  (⟨"AfterTheLast$Guesses", "countOrders", "(LAfterTheLast$Told;)V"⟩, prog_4_method_2_code, 5, (Option.none : Option Jvm.ClassFile.FieldType), false),
  (⟨"AfterTheLast$Guesses", "mayComeNext", "(II)Z"⟩, prog_4_method_4_code, 6, (Option.some Jvm.ClassFile.FieldType.boolean), false),
  (⟨"AfterTheLast$Guesses", "howManyOrders", "()I"⟩, prog_4_method_3_code, 1, (Option.some Jvm.ClassFile.FieldType.int), false),
  (⟨"AfterTheLast$Guesses", "inFirstOrder", "(LAfterTheLast$Told;I)I"⟩, prog_4_method_5_code, 7, (Option.some Jvm.ClassFile.FieldType.int), false),
  (⟨"AfterTheLast$Guesses", "firstToCome", "(LAfterTheLast$Told;I)I"⟩, prog_4_method_6_code, 5, (Option.some Jvm.ClassFile.FieldType.int), false),
  (⟨"AfterTheLast", "guest", "(II)I"⟩, prog_1_method_30_code, 4, (Option.some Jvm.ClassFile.FieldType.int), false),
  (⟨"AfterTheLast", "kept", "(III)I"⟩, prog_1_method_31_code, 6, (Option.some Jvm.ClassFile.FieldType.int), false),
  (⟨"AfterTheLast$Guesses", "fewestGuests", "(LAfterTheLast$Told;II)I"⟩, prog_4_method_7_code, 8, (Option.some Jvm.ClassFile.FieldType.int), true),
  (⟨"AfterTheLast$Guesses", "leastSetOfGuests", "(LAfterTheLast$Told;III)I"⟩, prog_4_method_8_code, 5, (Option.some Jvm.ClassFile.FieldType.int), true),
  (⟨"AfterTheLast$Guesses", "thereTill", "(LAfterTheLast$Told;II)I"⟩, prog_4_method_9_code, 7, (Option.some Jvm.ClassFile.FieldType.int), true)]
def sYc8 : List (MethodName × ByteArray × Nat × Option FieldType × Bool) := [
  (⟨"AfterTheLast", "knocks", "(IIIIII)I"⟩, prog_1_method_32_code, 7, (Option.some Jvm.ClassFile.FieldType.int), false),
  (⟨"AfterTheLast$Guesses", "valueKnocks", "(IIII)V"⟩, prog_4_method_10_code, 8, (Option.none : Option Jvm.ClassFile.FieldType), false),
  (⟨"AfterTheLast$Guesses", "lettingIn", "(IIII)I"⟩, prog_4_method_11_code, 5, (Option.some Jvm.ClassFile.FieldType.int), false),
  (⟨"AfterTheLast$Guesses", "valueAt", "(I)I"⟩, prog_4_method_12_code, 2, (Option.some Jvm.ClassFile.FieldType.int), false),
  (⟨"AfterTheLast", "image", "(I)I"⟩, prog_1_method_33_code, 3, (Option.some Jvm.ClassFile.FieldType.int), false),
  (⟨"AfterTheLast$Scene", "copyFrom", "(LAfterTheLast$Scene;)V"⟩, prog_10_method_2_code, 2, (Option.none : Option Jvm.ClassFile.FieldType), false),
  (⟨"AfterTheLast$Told", "copyFrom", "(LAfterTheLast$Told;)V"⟩, prog_11_method_2_code, 2, (Option.none : Option Jvm.ClassFile.FieldType), false),
  (⟨"AfterTheLast", "back", "(I)I"⟩, prog_1_method_34_code, 3, (Option.some Jvm.ClassFile.FieldType.int), false),
  (⟨"AfterTheLastModel", "<init>", "()V"⟩, prog_14_method_1_code, 2, (Option.none : Option Jvm.ClassFile.FieldType), false),
  (⟨"AfterTheLastModel", "feed", "(IIIII)I"⟩, prog_14_method_6_code, 6, (Option.some Jvm.ClassFile.FieldType.int), false),
  (⟨"AfterTheLastModel", "four", "(I)V"⟩, prog_14_method_5_code, 3, (Option.none : Option Jvm.ClassFile.FieldType), false),
  (⟨"AfterTheLastModel", "end", "(I)I"⟩, prog_14_method_7_code, 2, (Option.some Jvm.ClassFile.FieldType.int), false),
  (⟨"AfterTheLastModel", "rule", "()I"⟩, prog_14_method_35_code, 1, (Option.some Jvm.ClassFile.FieldType.int), false),
  (⟨"AfterTheLastModel", "readsAll", "()Z"⟩, prog_14_method_34_code, 2, (Option.some Jvm.ClassFile.FieldType.boolean), false),
  (⟨"AfterTheLastModel", "clauseHere", "()Z"⟩, prog_14_method_33_code, 4, (Option.some Jvm.ClassFile.FieldType.boolean), false),
  (⟨"AfterTheLastModel", "see", "()I"⟩, prog_14_method_9_code, 1, (Option.some Jvm.ClassFile.FieldType.int), false),
  (⟨"AfterTheLastModel", "isWord", "(J)Z"⟩, prog_14_method_12_code, 6, (Option.some Jvm.ClassFile.FieldType.boolean), false),
  (⟨"AfterTheLastModel", "isLetter", "(I)Z"⟩, prog_14_method_11_code, 2, (Option.some Jvm.ClassFile.FieldType.boolean), false),
  (⟨"AfterTheLastModel", "fails", "(II)Z"⟩, prog_14_method_8_code, 3, (Option.some Jvm.ClassFile.FieldType.boolean), false),
  (⟨"AfterTheLastModel", "isHouseHere", "(I)Z"⟩, prog_14_method_31_code, 3, (Option.some Jvm.ClassFile.FieldType.boolean), false)]
def sYc9 : List (MethodName × ByteArray × Nat × Option FieldType × Bool) := [
  (⟨"AfterTheLastModel", "passWord", "()V"⟩, prog_14_method_13_code, 1, (Option.none : Option Jvm.ClassFile.FieldType), false),
  (⟨"AfterTheLastModel", "numberHere", "(II)Z"⟩, prog_14_method_15_code, 5, (Option.some Jvm.ClassFile.FieldType.boolean), false),
  (⟨"AfterTheLastModel", "isDigit", "(I)Z"⟩, prog_14_method_10_code, 2, (Option.some Jvm.ClassFile.FieldType.boolean), false),
  (⟨"AfterTheLastModel", "in", "(JJJ)Z"⟩, prog_14_method_2_code, 6, (Option.some Jvm.ClassFile.FieldType.boolean), true),
  (⟨"AfterTheLastModel", "isStayHere", "(I)Z"⟩, prog_14_method_32_code, 3, (Option.some Jvm.ClassFile.FieldType.boolean), false),
  (⟨"AfterTheLastModel", "clauseOf", "(I)Z"⟩, prog_14_method_30_code, 3, (Option.some Jvm.ClassFile.FieldType.boolean), false),
  (⟨"AfterTheLastModel", "tested", "()Z"⟩, prog_14_method_29_code, 3, (Option.some Jvm.ClassFile.FieldType.boolean), false),
  (⟨"AfterTheLastModel", "fact", "()Z"⟩, prog_14_method_26_code, 3, (Option.some Jvm.ClassFile.FieldType.boolean), false),
  (⟨"AfterTheLastModel", "opens", "(I)Z"⟩, prog_14_method_19_code, 2, (Option.some Jvm.ClassFile.FieldType.boolean), false),
  (⟨"AfterTheLastModel", "compare", "()Z"⟩, prog_14_method_25_code, 5, (Option.some Jvm.ClassFile.FieldType.boolean), false),
  (⟨"AfterTheLastModel", "sum", "()Z"⟩, prog_14_method_24_code, 2, (Option.some Jvm.ClassFile.FieldType.boolean), false),
  (⟨"AfterTheLastModel", "term", "()Z"⟩, prog_14_method_23_code, 2, (Option.some Jvm.ClassFile.FieldType.boolean), false),
  (⟨"AfterTheLastModel", "value", "()Z"⟩, prog_14_method_22_code, 3, (Option.some Jvm.ClassFile.FieldType.boolean), false),
  (⟨"AfterTheLastModel", "makes", "(I)Z"⟩, prog_14_method_18_code, 2, (Option.some Jvm.ClassFile.FieldType.boolean), false),
  (⟨"AfterTheLastModel", "puts", "(II)V"⟩, prog_14_method_17_code, 3, (Option.none : Option Jvm.ClassFile.FieldType), false),
  (⟨"AfterTheLastModel", "wordHere", "()I"⟩, prog_14_method_16_code, 1, (Option.some Jvm.ClassFile.FieldType.int), false),
  (⟨"AfterTheLastModel", "closes", "()V"⟩, prog_14_method_28_code, 1, (Option.none : Option Jvm.ClassFile.FieldType), false),
  (⟨"AfterTheLastModel", "settles", "(I)V"⟩, prog_14_method_21_code, 2, (Option.none : Option Jvm.ClassFile.FieldType), false),
  (⟨"AfterTheLastModel", "strength", "(I)I"⟩, prog_14_method_20_code, 1, (Option.some Jvm.ClassFile.FieldType.int), true),
  (⟨"AfterTheLastModel", "isInside", "()Z"⟩, prog_14_method_27_code, 2, (Option.some Jvm.ClassFile.FieldType.boolean), false)]
def sYc10 : List (MethodName × ByteArray × Nat × Option FieldType × Bool) := [
  (⟨"AfterTheLastModel", "street", "()I"⟩, prog_14_method_36_code, 3, (Option.some Jvm.ClassFile.FieldType.int), false),
  (⟨"AfterTheLastModel", "leaves", "(I)V"⟩, prog_14_method_49_code, 2, (Option.none : Option Jvm.ClassFile.FieldType), false),
  (⟨"AfterTheLastModel", "house", "(II)I"⟩, prog_14_method_54_code, 5, (Option.some Jvm.ClassFile.FieldType.int), false),
  (⟨"AfterTheLastModel", "isHouse", "(I)Z"⟩, prog_14_method_43_code, 2, (Option.some Jvm.ClassFile.FieldType.boolean), false),
  (⟨"AfterTheLastModel", "houseOf", "(II)I"⟩, prog_14_method_46_code, 3, (Option.some Jvm.ClassFile.FieldType.int), false),
  (⟨"AfterTheLastModel", "inside", "(I)I"⟩, prog_14_method_50_code, 4, (Option.some Jvm.ClassFile.FieldType.int), false),
  (⟨"AfterTheLastModel", "personOf", "(II)I"⟩, prog_14_method_48_code, 3, (Option.some Jvm.ClassFile.FieldType.int), false),
  (⟨"AfterTheLastModel", "stay", "(II)I"⟩, prog_14_method_55_code, 3, (Option.some Jvm.ClassFile.FieldType.int), false),
  (⟨"AfterTheLastModel", "isStay", "(I)Z"⟩, prog_14_method_44_code, 2, (Option.some Jvm.ClassFile.FieldType.boolean), false),
  (⟨"AfterTheLastModel", "stayOf", "(II)I"⟩, prog_14_method_47_code, 3, (Option.some Jvm.ClassFile.FieldType.int), false),
  (⟨"AfterTheLastModel", "person", "(II)I"⟩, prog_14_method_56_code, 3, (Option.some Jvm.ClassFile.FieldType.int), false),
  (⟨"AfterTheLastModel", "isPerson", "(I)Z"⟩, prog_14_method_45_code, 1, (Option.some Jvm.ClassFile.FieldType.boolean), true),
  (⟨"AfterTheLastModel", "mayGo", "(I)Z"⟩, prog_14_method_52_code, 4, (Option.some Jvm.ClassFile.FieldType.boolean), false),
  (⟨"AfterTheLastModel", "others", "(IZ)I"⟩, prog_14_method_51_code, 5, (Option.some Jvm.ClassFile.FieldType.int), false),
  (⟨"AfterTheLastModel", "come", "(II)Z"⟩, prog_14_method_57_code, 3, (Option.some Jvm.ClassFile.FieldType.boolean), false),
  (⟨"AfterTheLastModel", "enters", "(III)V"⟩, prog_14_method_53_code, 5, (Option.none : Option Jvm.ClassFile.FieldType), false),
  (⟨"AfterTheLastModel", "go", "(IZ)Z"⟩, prog_14_method_58_code, 4, (Option.some Jvm.ClassFile.FieldType.boolean), false),
  (⟨"AfterTheLastModel", "tick", "(II)I"⟩, prog_14_method_66_code, 3, (Option.some Jvm.ClassFile.FieldType.int), false),
  (⟨"AfterTheLastModel", "isRule", "(I)Z"⟩, prog_14_method_37_code, 2, (Option.some Jvm.ClassFile.FieldType.boolean), false),
  (⟨"AfterTheLastModel", "quarters", "(II)V"⟩, prog_14_method_65_code, 4, (Option.none : Option Jvm.ClassFile.FieldType), false)]
def sYc11 : List (MethodName × ByteArray × Nat × Option FieldType × Bool) := [
  (⟨"AfterTheLastModel", "quarter", "(I)V"⟩, prog_14_method_64_code, 4, (Option.none : Option Jvm.ClassFile.FieldType), false),
  (⟨"AfterTheLastModel", "isDue", "(I)Z"⟩, prog_14_method_60_code, 2, (Option.some Jvm.ClassFile.FieldType.boolean), false),
  (⟨"AfterTheLastModel", "isHeldBack", "(II)Z"⟩, prog_14_method_61_code, 3, (Option.some Jvm.ClassFile.FieldType.boolean), false),
  (⟨"AfterTheLastModel", "words", "(II)V"⟩, prog_14_method_59_code, 5, (Option.none : Option Jvm.ClassFile.FieldType), false),
  (⟨"AfterTheLastModel", "isHeld", "(IIZ)Z"⟩, prog_14_method_42_code, 7, (Option.some Jvm.ClassFile.FieldType.boolean), false),
  (⟨"AfterTheLastModel", "reckons", "(III)J"⟩, prog_14_method_41_code, 11, (Option.some Jvm.ClassFile.FieldType.long), false),
  (⟨"AfterTheLastModel", "push", "(J)V"⟩, prog_14_method_38_code, 3, (Option.none : Option Jvm.ClassFile.FieldType), false),
  (⟨"AfterTheLastModel", "pop", "()J"⟩, prog_14_method_39_code, 1, (Option.some Jvm.ClassFile.FieldType.long), false),
  (⟨"AfterTheLastModel", "one", "(IJJ)J"⟩, prog_14_method_40_code, 5, (Option.some Jvm.ClassFile.FieldType.long), true),
  (⟨"AfterTheLastModel", "comesFor", "(II)V"⟩, prog_14_method_63_code, 4, (Option.none : Option Jvm.ClassFile.FieldType), false),
  (⟨"AfterTheLastModel", "nextStay", "(I)I"⟩, prog_14_method_62_code, 3, (Option.some Jvm.ClassFile.FieldType.int), false),
  (⟨"AfterTheLastModel", "ahead", "(III)I"⟩, prog_14_method_71_code, 6, (Option.some Jvm.ClassFile.FieldType.int), false),
  (⟨"AfterTheLastModel", "keeps", "()V"⟩, prog_14_method_67_code, 2, (Option.none : Option Jvm.ClassFile.FieldType), false),
  (⟨"AfterTheLastModel", "allInside", "()I"⟩, prog_14_method_70_code, 3, (Option.some Jvm.ClassFile.FieldType.int), false),
  (⟨"AfterTheLastModel", "served", "()I"⟩, prog_14_method_69_code, 3, (Option.some Jvm.ClassFile.FieldType.int), false),
  (⟨"AfterTheLastModel", "putsBack", "()V"⟩, prog_14_method_68_code, 2, (Option.none : Option Jvm.ClassFile.FieldType), false),
  (⟨"AfterTheLastModel", "bestRule", "()I"⟩, prog_14_method_72_code, 7, (Option.some Jvm.ClassFile.FieldType.int), false),
  (⟨"AfterTheLastModel", "cross", "(III)I"⟩, prog_14_method_75_code, 4, (Option.some Jvm.ClassFile.FieldType.int), false),
  (⟨"AfterTheLastModel", "doCross", "(III)Z"⟩, prog_14_method_74_code, 4, (Option.some Jvm.ClassFile.FieldType.boolean), false),
  (⟨"AfterTheLastModel", "areCrossed", "(IIIII)Z"⟩, prog_14_method_73_code, 9, (Option.some Jvm.ClassFile.FieldType.boolean), true)]
def sYc12 : List (MethodName × ByteArray × Nat × Option FieldType × Bool) := [
  (⟨"AfterTheLastModel", "fits", "(III)I"⟩, prog_14_method_79_code, 6, (Option.some Jvm.ClassFile.FieldType.int), false),
  (⟨"AfterTheLastModel", "isSet", "(I)Z"⟩, prog_14_method_77_code, 2, (Option.some Jvm.ClassFile.FieldType.boolean), false),
  (⟨"AfterTheLastModel", "crosses", "(I)V"⟩, prog_14_method_76_code, 4, (Option.none : Option Jvm.ClassFile.FieldType), false),
  (⟨"AfterTheLastModel", "hasNone", "(I)Z"⟩, prog_14_method_78_code, 3, (Option.some Jvm.ClassFile.FieldType.boolean), false),
  (⟨"AfterTheLastModel", "has", "(II)Z"⟩, prog_14_method_3_code, 2, (Option.some Jvm.ClassFile.FieldType.boolean), true),
  (⟨"AfterTheLastModel", "bits", "(I)I"⟩, prog_14_method_4_code, 3, (Option.some Jvm.ClassFile.FieldType.int), true),
  (⟨"AfterTheLastModel", "most", "(II)I"⟩, prog_14_method_80_code, 10, (Option.some Jvm.ClassFile.FieldType.int), false),
  (⟨"AfterTheLastModel", "houses", "(III)I"⟩, prog_14_method_83_code, 12, (Option.some Jvm.ClassFile.FieldType.int), false),
  (⟨"AfterTheLastModel", "staysOf", "(II)I"⟩, prog_14_method_81_code, 5, (Option.some Jvm.ClassFile.FieldType.int), false),
  (⟨"AfterTheLastModel", "areAllCrossed", "(I)Z"⟩, prog_14_method_82_code, 3, (Option.some Jvm.ClassFile.FieldType.boolean), false),
  (⟨"AfterTheLastModel", "wishes", "(IIIII)I"⟩, prog_14_method_84_code, 7, (Option.some Jvm.ClassFile.FieldType.int), false),
  (⟨"AfterTheLastModel", "plan", "(I)I"⟩, prog_14_method_88_code, 3, (Option.some Jvm.ClassFile.FieldType.int), false),
  (⟨"AfterTheLastModel", "plans", "()I"⟩, prog_14_method_87_code, 5, (Option.some Jvm.ClassFile.FieldType.int), false),
  (⟨"AfterTheLastModel", "endOf", "(I)I"⟩, prog_14_method_85_code, 2, (Option.some Jvm.ClassFile.FieldType.int), false),
  (⟨"AfterTheLastModel", "goTogether", "(I)Z"⟩, prog_14_method_86_code, 3, (Option.some Jvm.ClassFile.FieldType.boolean), false),
  (⟨"AfterTheLastModel", "waits", "(II)I"⟩, prog_14_method_89_code, 4, (Option.some Jvm.ClassFile.FieldType.int), false),
  (⟨"AfterTheLastModel", "rings", "(I)I"⟩, prog_14_method_94_code, 6, (Option.some Jvm.ClassFile.FieldType.int), false),
  (⟨"AfterTheLastModel", "undone", "()I"⟩, prog_14_method_93_code, 4, (Option.some Jvm.ClassFile.FieldType.int), false),
  (⟨"AfterTheLastModel", "needs", "(I)V"⟩, prog_14_method_90_code, 7, (Option.none : Option Jvm.ClassFile.FieldType), false),
  (⟨"AfterTheLastModel", "inRings", "()I"⟩, prog_14_method_92_code, 3, (Option.some Jvm.ClassFile.FieldType.int), false)]
def sYc13 : List (MethodName × ByteArray × Nat × Option FieldType × Bool) := [
  (⟨"AfterTheLastModel", "roundOf", "(I)I"⟩, prog_14_method_91_code, 7, (Option.some Jvm.ClassFile.FieldType.int), false),
  (⟨"AfterTheLastModel", "worth", "(II)I"⟩, prog_14_method_95_code, 4, (Option.some Jvm.ClassFile.FieldType.int), false),
  (⟨"AfterTheLastModel", "asks", "(I)I"⟩, prog_14_method_96_code, 4, (Option.some Jvm.ClassFile.FieldType.int), false),
  (⟨"AfterTheLastModel", "went", "(I)I"⟩, prog_14_method_98_code, 2, (Option.some Jvm.ClassFile.FieldType.int), false),
  (⟨"AfterTheLastModel", "isIn", "(IIII)Z"⟩, prog_14_method_97_code, 6, (Option.some Jvm.ClassFile.FieldType.boolean), false),
  (⟨"AfterTheLastModel", "before", "(II)I"⟩, prog_14_method_99_code, 3, (Option.some Jvm.ClassFile.FieldType.int), false),
  (⟨"AfterTheLastModel", "orders", "(I)I"⟩, prog_14_method_103_code, 5, (Option.some Jvm.ClassFile.FieldType.int), false),
  (⟨"AfterTheLastModel", "isOrder", "()Z"⟩, prog_14_method_100_code, 7, (Option.some Jvm.ClassFile.FieldType.boolean), false),
  (⟨"AfterTheLastModel", "placeIn", "(I)I"⟩, prog_14_method_101_code, 3, (Option.some Jvm.ClassFile.FieldType.int), false),
  (⟨"AfterTheLastModel", "isNextOrder", "()Z"⟩, prog_14_method_102_code, 6, (Option.some Jvm.ClassFile.FieldType.boolean), false),
  (⟨"AfterTheLastModel", "guest", "(II)I"⟩, prog_14_method_104_code, 3, (Option.some Jvm.ClassFile.FieldType.int), false),
  (⟨"AfterTheLastModel", "kept", "(III)I"⟩, prog_14_method_106_code, 6, (Option.some Jvm.ClassFile.FieldType.int), false),
  (⟨"AfterTheLastModel", "goesBy", "(II)I"⟩, prog_14_method_105_code, 6, (Option.some Jvm.ClassFile.FieldType.int), false),
  (⟨"AfterTheLastModel", "knocks", "(IIIIII)I"⟩, prog_14_method_107_code, 10, (Option.some Jvm.ClassFile.FieldType.int), false),
  (⟨"AfterTheLastModel", "seed", "(I)I"⟩, prog_14_method_108_code, 3, (Option.some Jvm.ClassFile.FieldType.int), false),
  (⟨"AfterTheLastModel", "evenings", "(III)I"⟩, prog_14_method_109_code, 12, (Option.some Jvm.ClassFile.FieldType.int), false),
  (⟨"AfterTheLastModel", "count", "(I)I"⟩, prog_14_method_110_code, 4, (Option.some Jvm.ClassFile.FieldType.int), false),
  (⟨"AfterTheLastModel", "image", "(I)I"⟩, prog_14_method_111_code, 3, (Option.some Jvm.ClassFile.FieldType.int), false),
  (⟨"AfterTheLastModel", "back", "(I)I"⟩, prog_14_method_112_code, 3, (Option.some Jvm.ClassFile.FieldType.int), false)]
def sYA : List (MethodName × ByteArray × Nat × Option FieldType × Bool) := sYc0 ++ (sYc1 ++ (sYc2 ++ (sYc3 ++ (sYc4 ++ (sYc5 ++ (sYc6 ++ (sYc7 ++ (sYc8 ++ (sYc9 ++ (sYc10 ++ (sYc11 ++ (sYc12 ++ (sYc13)))))))))))))
def sYL : List (MethodName × ByteArray × Nat × Option FieldType × Bool) := sYA ++ [(⟨"AfterTheLastLaw", "law", "([I)Z"⟩, code, 4, (Option.some Jvm.ClassFile.FieldType.boolean), true)]
def sKL : List (Nat × Nat × Nat × Nat × Nat) := [
  (11, 0, 0, 80, 3118), (7, 0, 0, 9, 1372), (4, 0, 0, 1, 400), (8, 0, 0, 27, 364), (10, 0, 0, 14, 240), (10, 0, 0, 0, 0), (14, 2, 0, 0, 0), (9, 0, 0, 11, 90),
  (0, 0, 0, 2, 76), (1, 0, 0, 8, 127), (3, 0, 0, 6, 498), (5, 0, 0, 1, 12), (2, 0, 0, 3, 361), (11, 5, 1, 0, 0), (4, 1, 2, 0, 0), (4, 1, 0, 0, 0),
  (11, 1, 1, 0, 0), (11, 0, 1, 0, 0), (4, 1, 1, 0, 0), (4, 0, 0, 0, 0), (4, 0, 2, 0, 0), (4, 2, 0, 0, 0), (4, 0, 1, 0, 0), (4, 1, 2, 0, 0),
  (4, 1, 0, 0, 0), (4, 2, 0, 0, 0), (4, 1, 0, 0, 0), (4, 1, 0, 0, 0), (4, 1, 2, 0, 0), (4, 2, 1, 0, 0), (4, 1, 2, 0, 0), (10, 3, 0, 0, 0),
  (4, 1, 0, 0, 0), (10, 5, 0, 0, 0), (10, 1, 0, 0, 0), (11, 0, 1, 9, 3205), (7, 0, 4, 9, 3205), (7, 1, 0, 0, 0), (7, 0, 0, 0, 0), (7, 1, 0, 0, 0),
  (7, 3, 0, 0, 0), (7, 1, 0, 0, 0), (7, 0, 1, 0, 0), (7, 1, 0, 0, 0), (7, 2, 1, 0, 0), (7, 1, 0, 0, 0), (7, 1, 0, 0, 0), (7, 1, 0, 0, 0),
  (4, 2, 2, 0, 0), (7, 1, 0, 0, 0), (7, 0, 0, 0, 0), (7, 0, 0, 0, 0), (6, 1, 0, 8, 3200), (14, 2, 4, 2, 800), (11, 2, 1, 0, 0), (10, 1, 2, 0, 0),
  (10, 1, 1, 0, 0), (10, 1, 1, 0, 0), (11, 2, 1, 0, 0), (10, 1, 2, 0, 0), (11, 2, 1, 0, 0), (11, 1, 2, 0, 0), (10, 1, 2, 0, 0), (10, 1, 1, 0, 0),
  (11, 1, 1, 0, 0), (10, 0, 1, 0, 0), (10, 0, 1, 0, 0), (10, 0, 1, 0, 0), (11, 2, 2, 0, 0), (10, 1, 1, 0, 0), (10, 3, 0, 0, 0), (10, 2, 0, 0, 0),
  (11, 2, 2, 0, 0), (10, 1, 2, 0, 0), (10, 1, 0, 0, 0), (10, 1, 1, 0, 0), (11, 2, 1, 0, 0), (11, 1, 4, 0, 0), (0, 3, 0, 0, 0), (0, 2, 0, 0, 0),
  (10, 1, 2, 0, 0), (0, 5, 2, 0, 0), (0, 5, 2, 0, 0), (6, 1, 1, 0, 0), (0, 4, 3, 0, 0), (0, 3, 3, 0, 0), (0, 2, 0, 0, 0), (6, 1, 2, 0, 0),
  (0, 2, 0, 0, 0), (10, 1, 0, 0, 0), (0, 1, 0, 0, 0), (11, 3, 1, 0, 0), (10, 0, 1, 0, 0), (11, 0, 1, 0, 0), (11, 3, 1, 0, 0), (11, 2, 1, 0, 0),
  (11, 1, 1, 0, 0), (11, 3, 1, 0, 0), (11, 1, 2, 0, 0), (1, 4, 2, 0, 0), (1, 4, 2, 0, 0), (11, 3, 1, 0, 0), (10, 1, 2, 0, 0), (1, 3, 1, 0, 0),
  (11, 2, 1, 0, 0), (1, 2, 1, 0, 0), (1, 2, 1, 0, 0), (1, 3, 2, 0, 0), (1, 4, 1, 0, 0), (1, 2, 1, 0, 0), (1, 1, 1, 0, 0), (1, 1, 1, 0, 0),
  (11, 3, 1, 0, 0), (15, 1, 1, 0, 0), (1, 3, 0, 0, 0), (1, 0, 1, 0, 0), (1, 0, 1, 0, 0), (1, 3, 1, 0, 0), (1, 4, 2, 0, 0), (11, 5, 1, 0, 0),
  (11, 1, 2, 0, 0), (9, 5, 0, 0, 0), (11, 1, 1, 0, 0), (3, 1, 0, 0, 0), (3, 3, 0, 0, 0), (3, 5, 2, 0, 0), (3, 3, 1, 0, 0), (3, 0, 1, 0, 0),
  (3, 2, 1, 0, 0), (3, 1, 1, 0, 0), (3, 2, 2, 0, 0), (3, 2, 2, 0, 0), (3, 0, 2, 0, 0), (3, 2, 2, 0, 0), (3, 1, 1, 0, 0), (11, 2, 1, 0, 0),
  (11, 1, 1, 0, 0), (5, 1, 0, 0, 0), (5, 3, 1, 0, 0), (5, 0, 1, 0, 0), (5, 1, 1, 0, 0), (5, 0, 1, 0, 0), (5, 1, 1, 0, 0), (5, 0, 1, 0, 0),
  (11, 2, 1, 0, 0), (11, 1, 1, 0, 0), (11, 1, 1, 0, 0), (9, 1, 1, 0, 0), (11, 2, 1, 0, 0), (11, 1, 1, 0, 0), (2, 1, 0, 0, 0), (2, 2, 2, 0, 0),
  (2, 0, 1, 0, 0), (2, 2, 1, 0, 0), (2, 2, 1, 0, 0), (11, 2, 1, 0, 0), (11, 3, 1, 0, 0), (2, 3, 1, 0, 0), (2, 4, 1, 0, 0), (2, 3, 1, 0, 0),
  (11, 6, 1, 0, 0), (2, 4, 0, 0, 0), (2, 4, 1, 0, 0), (2, 1, 1, 0, 0), (11, 1, 1, 28, 366), (8, 1, 0, 0, 0), (9, 1, 0, 0, 0), (11, 1, 1, 0, 0),
  (12, 0, 0, 25, 9548), (12, 5, 1, 0, 0), (12, 1, 0, 0, 0), (12, 1, 1, 0, 0), (12, 0, 1, 0, 0), (12, 0, 2, 0, 0), (12, 0, 2, 0, 0), (12, 0, 1, 0, 0),
  (12, 1, 2, 0, 0), (12, 1, 2, 0, 0), (12, 2, 2, 0, 0), (12, 1, 2, 0, 0), (12, 0, 0, 0, 0), (12, 2, 2, 0, 0), (12, 1, 2, 0, 0), (12, 3, 2, 0, 0),
  (12, 1, 2, 0, 0), (12, 1, 2, 0, 0), (12, 0, 2, 0, 0), (12, 0, 2, 0, 0), (12, 1, 2, 0, 0), (12, 0, 2, 0, 0), (12, 0, 2, 0, 0), (12, 0, 2, 0, 0),
  (12, 0, 2, 0, 0), (12, 1, 2, 0, 0), (12, 2, 0, 0, 0), (12, 0, 1, 0, 0), (12, 0, 0, 0, 0), (12, 1, 0, 0, 0), (12, 1, 1, 0, 0), (12, 0, 2, 0, 0),
  (12, 0, 1, 0, 0), (12, 1, 0, 0, 0), (12, 2, 1, 0, 0), (12, 1, 2, 0, 0), (12, 2, 1, 0, 0), (12, 1, 1, 0, 0), (12, 2, 1, 0, 0), (12, 2, 1, 0, 0),
  (12, 1, 2, 0, 0), (12, 2, 1, 0, 0), (12, 2, 1, 0, 0), (12, 1, 2, 0, 0), (12, 1, 2, 0, 0), (12, 2, 1, 0, 0), (12, 2, 2, 0, 0), (12, 3, 0, 0, 0),
  (12, 2, 2, 0, 0), (12, 2, 1, 0, 0), (12, 1, 2, 0, 0), (12, 2, 0, 0, 0), (12, 1, 0, 0, 0), (12, 1, 2, 0, 0), (12, 2, 2, 0, 0), (12, 2, 0, 0, 0),
  (12, 3, 2, 0, 0), (12, 3, 3, 0, 0), (12, 1, 0, 0, 0), (12, 0, 3, 0, 0), (12, 3, 3, 0, 0), (12, 2, 0, 0, 0), (12, 1, 1, 0, 0), (12, 3, 1, 0, 0),
  (12, 0, 0, 0, 0), (12, 0, 1, 0, 0), (12, 0, 1, 0, 0), (12, 0, 0, 0, 0), (12, 0, 1, 0, 0), (12, 3, 1, 0, 0), (12, 3, 2, 0, 0), (12, 5, 2, 0, 0),
  (12, 3, 1, 0, 0), (12, 1, 2, 0, 0), (12, 1, 0, 0, 0), (12, 1, 2, 0, 0), (12, 2, 2, 0, 0), (12, 1, 1, 0, 0), (12, 2, 1, 0, 0), (12, 3, 1, 0, 0),
  (12, 2, 1, 0, 0), (12, 1, 2, 0, 0), (12, 5, 1, 0, 0), (12, 1, 1, 0, 0), (12, 0, 1, 0, 0), (12, 1, 1, 0, 0), (12, 1, 2, 0, 0), (12, 2, 1, 0, 0),
  (12, 1, 1, 0, 0), (12, 0, 1, 0, 0), (12, 1, 0, 0, 0), (12, 0, 1, 0, 0), (12, 1, 1, 0, 0), (12, 2, 1, 0, 0), (12, 1, 1, 0, 0), (12, 1, 1, 0, 0),
  (12, 4, 2, 0, 0), (12, 2, 1, 0, 0), (12, 1, 1, 0, 0), (12, 0, 2, 0, 0), (12, 1, 1, 0, 0), (12, 0, 2, 0, 0), (12, 2, 1, 0, 0), (12, 3, 1, 0, 0),
  (12, 2, 1, 0, 0), (12, 6, 1, 0, 0), (12, 1, 1, 0, 0), (12, 3, 1, 0, 0), (12, 1, 1, 0, 0), (12, 1, 1, 0, 0), (12, 1, 1, 0, 0), (13, 1, 2, 600000, 7302250)]
def sCodeP : List (Nat) := [
  1026, 1034, 1040, 1118, 1124, 1129, 1132, 1231, 2083, 2097, 2131, 2160, 2170, 2225, 2229, 2233, 2238, 3002, 3006, 3010,
  3015, 3019, 3023, 3028, 3081, 3085, 3089, 3093, 3098, 3104, 3107, 3111, 3115, 3119, 3123, 3131, 3135, 3142, 3148, 3157,
  3161, 3165, 3172, 3187, 3192, 3196, 3200, 3204, 3208, 3212, 3218, 3222, 3227, 3231, 4027, 4031, 4035, 4039, 4043, 4047,
  4051, 4054, 4058, 4065, 4069, 4073, 4077, 4081, 4085, 4089, 4093, 4098, 4102, 4106, 4110, 4114, 4119, 4123, 4127, 4131,
  4135, 4140, 4144, 4148, 4151, 4161, 4166, 4170, 4175, 4179, 4183, 4187, 4191, 4195, 4199, 4202, 4210, 4214, 4217, 4220,
  4223, 4227, 4231, 4234, 4239, 5003, 5007, 5010, 5016, 5020, 5023, 5027, 5032, 5035, 5042, 5046, 5050, 5053, 5056, 5061,
  5064, 5068, 5072, 5076, 5082, 5085, 5088, 5092, 5096, 5102, 5106, 5110, 5114, 5117, 5121, 5125, 5129, 5133, 5137, 5143,
  5147, 5151, 5155, 5159, 5165, 5169, 5173, 5177, 5181, 5185, 5189, 5195, 5199, 5203, 5207, 5211, 5215, 5218, 5222, 5226,
  5230, 5234, 5239, 6003, 6009, 6013, 6018, 6023, 6028, 6148, 6152, 6156, 6160, 6164, 6168, 6172, 6177, 6181, 6189, 6193,
  6197, 6204, 6208, 6211, 6215, 6219, 6223, 6227, 6232, 6236, 7000, 7004, 7008, 7013, 7017, 7021, 7034, 7038, 7041, 7045,
  7051, 7055, 7059, 7063, 7068, 7072, 7076, 7080, 7084, 7088, 7092, 7095, 7099, 7103, 7107, 7111, 7115, 7119, 7123, 7128,
  7132, 7136, 7140, 7144, 7148, 7152, 7156, 7160, 7163, 7167, 7171, 7175, 7180, 7184, 7188, 7192, 7196, 7200, 7205, 7208,
  7212, 7216, 7220, 7224, 7227, 7230, 7234, 7238, 8003, 8007, 8011, 8016, 8021, 8026, 8030, 8034, 8038, 8042, 8046, 8050,
  8054, 8058, 8063, 8067, 8071, 8075, 8079, 8084, 8088, 8092, 8096, 8100, 8104, 8108, 8113, 8117, 8127, 8131, 8135]
