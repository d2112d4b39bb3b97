-- ===== PART A: goes FIRST, ahead of the names: the tables' words, and 'selects' of the private methods out of them =====
/-- a private method of a class that the tables say can be made, by its rows of tables_1 -/
def lw_okq (q : MethodName × Nat) : Prop := (q.1.cls ≠ "java/lang/invoke/MethodHandle" ∧ q.1.cls ≠ "java/lang/invoke/VarHandle") ∧ Cond.instantiable q.1.cls q.2 ∈ tables_1 ∧ Cond.privateMethod q.1 ∈ tables_1 ∧ Cond.instanceMethod q.1 ∈ tables_1
theorem lw_p0 : lw_okq (⟨"OneCup$Links", "linkOwn", "(LOneCup$Log;I)V"⟩, 19) := ⟨⟨by decide +kernel, by decide +kernel⟩, List.mem_of_getElem? (i := 288) (by decide +kernel), List.mem_of_getElem? (i := 536) (by decide +kernel), List.mem_of_getElem? (i := 537) (by decide +kernel)⟩
theorem lw_p1 : lw_okq (⟨"OneCup$Links", "linkPrevious", "(LOneCup$Log;I)V"⟩, 19) := ⟨⟨by decide +kernel, by decide +kernel⟩, List.mem_of_getElem? (i := 288) (by decide +kernel), List.mem_of_getElem? (i := 547) (by decide +kernel), List.mem_of_getElem? (i := 548) (by decide +kernel)⟩
theorem lw_p2 : lw_okq (⟨"OneCup$Links", "linkCross", "(LOneCup$Log;I)V"⟩, 19) := ⟨⟨by decide +kernel, by decide +kernel⟩, List.mem_of_getElem? (i := 288) (by decide +kernel), List.mem_of_getElem? (i := 554) (by decide +kernel), List.mem_of_getElem? (i := 555) (by decide +kernel)⟩
theorem lw_p3 : lw_okq (⟨"OneCup$Links", "sendFor", "(II)I"⟩, 19) := ⟨⟨by decide +kernel, by decide +kernel⟩, List.mem_of_getElem? (i := 288) (by decide +kernel), List.mem_of_getElem? (i := 558) (by decide +kernel), List.mem_of_getElem? (i := 559) (by decide +kernel)⟩
theorem lw_p4 : lw_okq (⟨"OneCup$Links", "linkNode", "(LOneCup$Log;I)V"⟩, 19) := ⟨⟨by decide +kernel, by decide +kernel⟩, List.mem_of_getElem? (i := 288) (by decide +kernel), List.mem_of_getElem? (i := 562) (by decide +kernel), List.mem_of_getElem? (i := 563) (by decide +kernel)⟩
theorem lw_p5 : lw_okq (⟨"OneCup$Reader", "advance", "()V"⟩, 15) := ⟨⟨by decide +kernel, by decide +kernel⟩, List.mem_of_getElem? (i := 31) (by decide +kernel), List.mem_of_getElem? (i := 644) (by decide +kernel), List.mem_of_getElem? (i := 645) (by decide +kernel)⟩
theorem lw_p6 : lw_okq (⟨"OneCup$Reader", "byteAt", "(I)I"⟩, 15) := ⟨⟨by decide +kernel, by decide +kernel⟩, List.mem_of_getElem? (i := 31) (by decide +kernel), List.mem_of_getElem? (i := 648) (by decide +kernel), List.mem_of_getElem? (i := 649) (by decide +kernel)⟩
theorem lw_p7 : lw_okq (⟨"OneCup$Reader", "readHead", "()V"⟩, 15) := ⟨⟨by decide +kernel, by decide +kernel⟩, List.mem_of_getElem? (i := 31) (by decide +kernel), List.mem_of_getElem? (i := 665) (by decide +kernel), List.mem_of_getElem? (i := 666) (by decide +kernel)⟩
theorem lw_p8 : lw_okq (⟨"OneCup$Reader", "isWord", "(Ljava/lang/String;)Z"⟩, 15) := ⟨⟨by decide +kernel, by decide +kernel⟩, List.mem_of_getElem? (i := 31) (by decide +kernel), List.mem_of_getElem? (i := 670) (by decide +kernel), List.mem_of_getElem? (i := 671) (by decide +kernel)⟩
theorem lw_p9 : lw_okq (⟨"OneCup$Reader", "fail", "(I)V"⟩, 15) := ⟨⟨by decide +kernel, by decide +kernel⟩, List.mem_of_getElem? (i := 31) (by decide +kernel), List.mem_of_getElem? (i := 722) (by decide +kernel), List.mem_of_getElem? (i := 723) (by decide +kernel)⟩
theorem lw_p10 : lw_okq (⟨"OneCup$Reader", "numberHere", "(II)I"⟩, 15) := ⟨⟨by decide +kernel, by decide +kernel⟩, List.mem_of_getElem? (i := 31) (by decide +kernel), List.mem_of_getElem? (i := 726) (by decide +kernel), List.mem_of_getElem? (i := 727) (by decide +kernel)⟩
theorem lw_p11 : lw_okq (⟨"OneCup$Reader", "openBrace", "(IIII)V"⟩, 15) := ⟨⟨by decide +kernel, by decide +kernel⟩, List.mem_of_getElem? (i := 31) (by decide +kernel), List.mem_of_getElem? (i := 730) (by decide +kernel), List.mem_of_getElem? (i := 731) (by decide +kernel)⟩
theorem lw_p12 : lw_okq (⟨"OneCup$Reader", "closeBrace", "()V"⟩, 15) := ⟨⟨by decide +kernel, by decide +kernel⟩, List.mem_of_getElem? (i := 31) (by decide +kernel), List.mem_of_getElem? (i := 734) (by decide +kernel), List.mem_of_getElem? (i := 735) (by decide +kernel)⟩
theorem lw_p13 : lw_okq (⟨"OneCup$Script", "addAgain", "(II)V"⟩, 8) := ⟨⟨by decide +kernel, by decide +kernel⟩, List.mem_of_getElem? (i := 37) (by decide +kernel), List.mem_of_getElem? (i := 750) (by decide +kernel), List.mem_of_getElem? (i := 751) (by decide +kernel)⟩
theorem lw_p14 : lw_okq (⟨"OneCup$Reader", "readStep", "()V"⟩, 15) := ⟨⟨by decide +kernel, by decide +kernel⟩, List.mem_of_getElem? (i := 31) (by decide +kernel), List.mem_of_getElem? (i := 760) (by decide +kernel), List.mem_of_getElem? (i := 761) (by decide +kernel)⟩
theorem lw_p15 : lw_okq (⟨"OneCup$Reader", "stepOfWord", "()I"⟩, 15) := ⟨⟨by decide +kernel, by decide +kernel⟩, List.mem_of_getElem? (i := 31) (by decide +kernel), List.mem_of_getElem? (i := 764) (by decide +kernel), List.mem_of_getElem? (i := 765) (by decide +kernel)⟩
def lw_privs_1 : List (MethodName × Nat) := [(⟨"OneCup$Links", "linkOwn", "(LOneCup$Log;I)V"⟩, 19), (⟨"OneCup$Links", "linkPrevious", "(LOneCup$Log;I)V"⟩, 19), (⟨"OneCup$Links", "linkCross", "(LOneCup$Log;I)V"⟩, 19), (⟨"OneCup$Links", "sendFor", "(II)I"⟩, 19), (⟨"OneCup$Links", "linkNode", "(LOneCup$Log;I)V"⟩, 19), (⟨"OneCup$Reader", "advance", "()V"⟩, 15), (⟨"OneCup$Reader", "byteAt", "(I)I"⟩, 15), (⟨"OneCup$Reader", "readHead", "()V"⟩, 15), (⟨"OneCup$Reader", "isWord", "(Ljava/lang/String;)Z"⟩, 15), (⟨"OneCup$Reader", "fail", "(I)V"⟩, 15), (⟨"OneCup$Reader", "numberHere", "(II)I"⟩, 15), (⟨"OneCup$Reader", "openBrace", "(IIII)V"⟩, 15), (⟨"OneCup$Reader", "closeBrace", "()V"⟩, 15), (⟨"OneCup$Script", "addAgain", "(II)V"⟩, 8), (⟨"OneCup$Reader", "readStep", "()V"⟩, 15), (⟨"OneCup$Reader", "stepOfWord", "()I"⟩, 15)]
theorem lw_r1 : ∀ q ∈ lw_privs_1, lw_okq q := List.forall_mem_cons.mpr ⟨lw_p0, List.forall_mem_cons.mpr ⟨lw_p1, List.forall_mem_cons.mpr ⟨lw_p2, List.forall_mem_cons.mpr ⟨lw_p3, List.forall_mem_cons.mpr ⟨lw_p4, List.forall_mem_cons.mpr ⟨lw_p5, List.forall_mem_cons.mpr ⟨lw_p6, List.forall_mem_cons.mpr ⟨lw_p7, List.forall_mem_cons.mpr ⟨lw_p8, List.forall_mem_cons.mpr ⟨lw_p9, List.forall_mem_cons.mpr ⟨lw_p10, List.forall_mem_cons.mpr ⟨lw_p11, List.forall_mem_cons.mpr ⟨lw_p12, List.forall_mem_cons.mpr ⟨lw_p13, List.forall_mem_cons.mpr ⟨lw_p14, List.forall_mem_cons.mpr ⟨lw_p15, fun _ h => absurd h List.not_mem_nil⟩⟩⟩⟩⟩⟩⟩⟩⟩⟩⟩⟩⟩⟩⟩⟩
theorem lw_p16 : lw_okq (⟨"OneCup$Reader", "readOpening", "(II)V"⟩, 15) := ⟨⟨by decide +kernel, by decide +kernel⟩, List.mem_of_getElem? (i := 31) (by decide +kernel), List.mem_of_getElem? (i := 781) (by decide +kernel), List.mem_of_getElem? (i := 782) (by decide +kernel)⟩
theorem lw_p17 : lw_okq (⟨"OneCup$Reader", "passLetter", "(II)I"⟩, 15) := ⟨⟨by decide +kernel, by decide +kernel⟩, List.mem_of_getElem? (i := 31) (by decide +kernel), List.mem_of_getElem? (i := 785) (by decide +kernel), List.mem_of_getElem? (i := 786) (by decide +kernel)⟩
theorem lw_p18 : lw_okq (⟨"OneCup$Reader", "pass", "(I)V"⟩, 15) := ⟨⟨by decide +kernel, by decide +kernel⟩, List.mem_of_getElem? (i := 31) (by decide +kernel), List.mem_of_getElem? (i := 789) (by decide +kernel), List.mem_of_getElem? (i := 790) (by decide +kernel)⟩
theorem lw_p19 : lw_okq (⟨"OneCup$Reader", "passWithin", "(II)I"⟩, 15) := ⟨⟨by decide +kernel, by decide +kernel⟩, List.mem_of_getElem? (i := 31) (by decide +kernel), List.mem_of_getElem? (i := 793) (by decide +kernel), List.mem_of_getElem? (i := 794) (by decide +kernel)⟩
theorem lw_p20 : lw_okq (⟨"OneCup$Reader", "readPlain", "(II)V"⟩, 15) := ⟨⟨by decide +kernel, by decide +kernel⟩, List.mem_of_getElem? (i := 31) (by decide +kernel), List.mem_of_getElem? (i := 797) (by decide +kernel), List.mem_of_getElem? (i := 798) (by decide +kernel)⟩
theorem lw_p21 : lw_okq (⟨"OneCup", "logIsMade", "()V"⟩, 17) := ⟨⟨by decide +kernel, by decide +kernel⟩, List.mem_of_getElem? (i := 23) (by decide +kernel), List.mem_of_getElem? (i := 811) (by decide +kernel), List.mem_of_getElem? (i := 812) (by decide +kernel)⟩
theorem lw_p22 : lw_okq (⟨"OneCup", "refuse", "()I"⟩, 17) := ⟨⟨by decide +kernel, by decide +kernel⟩, List.mem_of_getElem? (i := 23) (by decide +kernel), List.mem_of_getElem? (i := 832) (by decide +kernel), List.mem_of_getElem? (i := 833) (by decide +kernel)⟩
theorem lw_p23 : lw_okq (⟨"OneCup", "hasRow", "(I)Z"⟩, 17) := ⟨⟨by decide +kernel, by decide +kernel⟩, List.mem_of_getElem? (i := 23) (by decide +kernel), List.mem_of_getElem? (i := 836) (by decide +kernel), List.mem_of_getElem? (i := 837) (by decide +kernel)⟩
theorem lw_p24 : lw_okq (⟨"OneCup", "newRun", "(I)I"⟩, 17) := ⟨⟨by decide +kernel, by decide +kernel⟩, List.mem_of_getElem? (i := 23) (by decide +kernel), List.mem_of_getElem? (i := 840) (by decide +kernel), List.mem_of_getElem? (i := 841) (by decide +kernel)⟩
theorem lw_p25 : lw_okq (⟨"OneCup$Machine", "isStarted", "(I)Z"⟩, 7) := ⟨⟨by decide +kernel, by decide +kernel⟩, List.mem_of_getElem? (i := 385) (by decide +kernel), List.mem_of_getElem? (i := 854) (by decide +kernel), List.mem_of_getElem? (i := 855) (by decide +kernel)⟩
theorem lw_p26 : lw_okq (⟨"OneCup$Machine", "hasCode", "(I)Z"⟩, 7) := ⟨⟨by decide +kernel, by decide +kernel⟩, List.mem_of_getElem? (i := 385) (by decide +kernel), List.mem_of_getElem? (i := 858) (by decide +kernel), List.mem_of_getElem? (i := 859) (by decide +kernel)⟩
theorem lw_p27 : lw_okq (⟨"OneCup", "goOnce", "(I)V"⟩, 17) := ⟨⟨by decide +kernel, by decide +kernel⟩, List.mem_of_getElem? (i := 23) (by decide +kernel), List.mem_of_getElem? (i := 862) (by decide +kernel), List.mem_of_getElem? (i := 863) (by decide +kernel)⟩
theorem lw_p28 : lw_okq (⟨"OneCup$Machine", "look", "(III)V"⟩, 7) := ⟨⟨by decide +kernel, by decide +kernel⟩, List.mem_of_getElem? (i := 385) (by decide +kernel), List.mem_of_getElem? (i := 870) (by decide +kernel), List.mem_of_getElem? (i := 871) (by decide +kernel)⟩
theorem lw_p29 : lw_okq (⟨"OneCup$Log", "enterGate", "(I)I"⟩, 15) := ⟨⟨by decide +kernel, by decide +kernel⟩, List.mem_of_getElem? (i := 139) (by decide +kernel), List.mem_of_getElem? (i := 878) (by decide +kernel), List.mem_of_getElem? (i := 879) (by decide +kernel)⟩
theorem lw_p30 : lw_okq (⟨"OneCup$Log", "leaveGate", "(I)I"⟩, 15) := ⟨⟨by decide +kernel, by decide +kernel⟩, List.mem_of_getElem? (i := 139) (by decide +kernel), List.mem_of_getElem? (i := 882) (by decide +kernel), List.mem_of_getElem? (i := 883) (by decide +kernel)⟩
theorem lw_p31 : lw_okq (⟨"OneCup", "isAct", "(I)Z"⟩, 17) := ⟨⟨by decide +kernel, by decide +kernel⟩, List.mem_of_getElem? (i := 23) (by decide +kernel), List.mem_of_getElem? (i := 913) (by decide +kernel), List.mem_of_getElem? (i := 914) (by decide +kernel)⟩
def lw_privs_2 : List (MethodName × Nat) := [(⟨"OneCup$Reader", "readOpening", "(II)V"⟩, 15), (⟨"OneCup$Reader", "passLetter", "(II)I"⟩, 15), (⟨"OneCup$Reader", "pass", "(I)V"⟩, 15), (⟨"OneCup$Reader", "passWithin", "(II)I"⟩, 15), (⟨"OneCup$Reader", "readPlain", "(II)V"⟩, 15), (⟨"OneCup", "logIsMade", "()V"⟩, 17), (⟨"OneCup", "refuse", "()I"⟩, 17), (⟨"OneCup", "hasRow", "(I)Z"⟩, 17), (⟨"OneCup", "newRun", "(I)I"⟩, 17), (⟨"OneCup$Machine", "isStarted", "(I)Z"⟩, 7), (⟨"OneCup$Machine", "hasCode", "(I)Z"⟩, 7), (⟨"OneCup", "goOnce", "(I)V"⟩, 17), (⟨"OneCup$Machine", "look", "(III)V"⟩, 7), (⟨"OneCup$Log", "enterGate", "(I)I"⟩, 15), (⟨"OneCup$Log", "leaveGate", "(I)I"⟩, 15), (⟨"OneCup", "isAct", "(I)Z"⟩, 17)]
theorem lw_r2 : ∀ q ∈ lw_privs_2, lw_okq q := List.forall_mem_cons.mpr ⟨lw_p16, List.forall_mem_cons.mpr ⟨lw_p17, List.forall_mem_cons.mpr ⟨lw_p18, List.forall_mem_cons.mpr ⟨lw_p19, List.forall_mem_cons.mpr ⟨lw_p20, List.forall_mem_cons.mpr ⟨lw_p21, List.forall_mem_cons.mpr ⟨lw_p22, List.forall_mem_cons.mpr ⟨lw_p23, List.forall_mem_cons.mpr ⟨lw_p24, List.forall_mem_cons.mpr ⟨lw_p25, List.forall_mem_cons.mpr ⟨lw_p26, List.forall_mem_cons.mpr ⟨lw_p27, List.forall_mem_cons.mpr ⟨lw_p28, List.forall_mem_cons.mpr ⟨lw_p29, List.forall_mem_cons.mpr ⟨lw_p30, List.forall_mem_cons.mpr ⟨lw_p31, fun _ h => absurd h List.not_mem_nil⟩⟩⟩⟩⟩⟩⟩⟩⟩⟩⟩⟩⟩⟩⟩⟩
theorem lw_p32 : lw_okq (⟨"OneCup", "lawClocks", "()LOneCup$Clocks;"⟩, 17) := ⟨⟨by decide +kernel, by decide +kernel⟩, List.mem_of_getElem? (i := 23) (by decide +kernel), List.mem_of_getElem? (i := 937) (by decide +kernel), List.mem_of_getElem? (i := 938) (by decide +kernel)⟩
theorem lw_p33 : lw_okq (⟨"OneCup$Clocks", "ownAhead", "(LOneCup$Log;LOneCup$Links;I)I"⟩, 4) := ⟨⟨by decide +kernel, by decide +kernel⟩, List.mem_of_getElem? (i := 366) (by decide +kernel), List.mem_of_getElem? (i := 945) (by decide +kernel), List.mem_of_getElem? (i := 946) (by decide +kernel)⟩
theorem lw_p34 : lw_okq (⟨"OneCup$Clocks", "orders", "(I)Z"⟩, 4) := ⟨⟨by decide +kernel, by decide +kernel⟩, List.mem_of_getElem? (i := 366) (by decide +kernel), List.mem_of_getElem? (i := 949) (by decide +kernel), List.mem_of_getElem? (i := 950) (by decide +kernel)⟩
theorem lw_p35 : lw_okq (⟨"OneCup$Clocks", "crossAhead", "(LOneCup$Log;LOneCup$Links;I)I"⟩, 4) := ⟨⟨by decide +kernel, by decide +kernel⟩, List.mem_of_getElem? (i := 366) (by decide +kernel), List.mem_of_getElem? (i := 954) (by decide +kernel), List.mem_of_getElem? (i := 955) (by decide +kernel)⟩
theorem lw_p36 : lw_okq (⟨"OneCup$Clocks", "isMarked", "(I)Z"⟩, 4) := ⟨⟨by decide +kernel, by decide +kernel⟩, List.mem_of_getElem? (i := 366) (by decide +kernel), List.mem_of_getElem? (i := 958) (by decide +kernel), List.mem_of_getElem? (i := 959) (by decide +kernel)⟩
theorem lw_p37 : lw_okq (⟨"OneCup$Clocks", "takeIn", "(II)V"⟩, 4) := ⟨⟨by decide +kernel, by decide +kernel⟩, List.mem_of_getElem? (i := 366) (by decide +kernel), List.mem_of_getElem? (i := 962) (by decide +kernel), List.mem_of_getElem? (i := 963) (by decide +kernel)⟩
theorem lw_p38 : lw_okq (⟨"OneCup$Clocks", "nearest", "(II)I"⟩, 4) := ⟨⟨by decide +kernel, by decide +kernel⟩, List.mem_of_getElem? (i := 366) (by decide +kernel), List.mem_of_getElem? (i := 980) (by decide +kernel), List.mem_of_getElem? (i := 981) (by decide +kernel)⟩
theorem lw_p39 : lw_okq (⟨"OneCup$Clocks", "countRivals", "(II)I"⟩, 4) := ⟨⟨by decide +kernel, by decide +kernel⟩, List.mem_of_getElem? (i := 366) (by decide +kernel), List.mem_of_getElem? (i := 998) (by decide +kernel), List.mem_of_getElem? (i := 999) (by decide +kernel)⟩
theorem lw_p40 : lw_okq (⟨"OneCup", "tellMeeting", "(III)I"⟩, 17) := ⟨⟨by decide +kernel, by decide +kernel⟩, List.mem_of_getElem? (i := 23) (by decide +kernel), List.mem_of_getElem? (i := 1020) (by decide +kernel), List.mem_of_getElem? (i := 1021) (by decide +kernel)⟩
theorem lw_p41 : lw_okq (⟨"OneCup$Orders", "pack", "()V"⟩, 8) := ⟨⟨by decide +kernel, by decide +kernel⟩, List.mem_of_getElem? (i := 444) (by decide +kernel), List.mem_of_getElem? (i := 1052) (by decide +kernel), List.mem_of_getElem? (i := 1053) (by decide +kernel)⟩
theorem lw_p42 : lw_okq (⟨"OneCup$Visited", "hashOf", "([I)I"⟩, 6) := ⟨⟨by decide +kernel, by decide +kernel⟩, List.mem_of_getElem? (i := 415) (by decide +kernel), List.mem_of_getElem? (i := 1060) (by decide +kernel), List.mem_of_getElem? (i := 1061) (by decide +kernel)⟩
theorem lw_p43 : lw_okq (⟨"OneCup$Visited", "isSame", "(I[I)Z"⟩, 6) := ⟨⟨by decide +kernel, by decide +kernel⟩, List.mem_of_getElem? (i := 415) (by decide +kernel), List.mem_of_getElem? (i := 1065) (by decide +kernel), List.mem_of_getElem? (i := 1066) (by decide +kernel)⟩
theorem lw_p44 : lw_okq (⟨"OneCup$Orders", "isBehind", "(LOneCup$Log;LOneCup$Links;II)Z"⟩, 8) := ⟨⟨by decide +kernel, by decide +kernel⟩, List.mem_of_getElem? (i := 444) (by decide +kernel), List.mem_of_getElem? (i := 1070) (by decide +kernel), List.mem_of_getElem? (i := 1071) (by decide +kernel)⟩
theorem lw_p45 : lw_okq (⟨"OneCup$Orders", "isStarted", "(LOneCup$Log;LOneCup$Links;I)Z"⟩, 8) := ⟨⟨by decide +kernel, by decide +kernel⟩, List.mem_of_getElem? (i := 444) (by decide +kernel), List.mem_of_getElem? (i := 1074) (by decide +kernel), List.mem_of_getElem? (i := 1075) (by decide +kernel)⟩
theorem lw_p46 : lw_okq (⟨"OneCup$Orders", "isDone", "(LOneCup$Log;I)Z"⟩, 8) := ⟨⟨by decide +kernel, by decide +kernel⟩, List.mem_of_getElem? (i := 444) (by decide +kernel), List.mem_of_getElem? (i := 1078) (by decide +kernel), List.mem_of_getElem? (i := 1079) (by decide +kernel)⟩
theorem lw_p47 : lw_okq (⟨"OneCup$Orders", "show", "(LOneCup$Visited;III)I"⟩, 8) := ⟨⟨by decide +kernel, by decide +kernel⟩, List.mem_of_getElem? (i := 444) (by decide +kernel), List.mem_of_getElem? (i := 1082) (by decide +kernel), List.mem_of_getElem? (i := 1083) (by decide +kernel)⟩
def lw_privs_3 : List (MethodName × Nat) := [(⟨"OneCup", "lawClocks", "()LOneCup$Clocks;"⟩, 17), (⟨"OneCup$Clocks", "ownAhead", "(LOneCup$Log;LOneCup$Links;I)I"⟩, 4), (⟨"OneCup$Clocks", "orders", "(I)Z"⟩, 4), (⟨"OneCup$Clocks", "crossAhead", "(LOneCup$Log;LOneCup$Links;I)I"⟩, 4), (⟨"OneCup$Clocks", "isMarked", "(I)Z"⟩, 4), (⟨"OneCup$Clocks", "takeIn", "(II)V"⟩, 4), (⟨"OneCup$Clocks", "nearest", "(II)I"⟩, 4), (⟨"OneCup$Clocks", "countRivals", "(II)I"⟩, 4), (⟨"OneCup", "tellMeeting", "(III)I"⟩, 17), (⟨"OneCup$Orders", "pack", "()V"⟩, 8), (⟨"OneCup$Visited", "hashOf", "([I)I"⟩, 6), (⟨"OneCup$Visited", "isSame", "(I[I)Z"⟩, 6), (⟨"OneCup$Orders", "isBehind", "(LOneCup$Log;LOneCup$Links;II)Z"⟩, 8), (⟨"OneCup$Orders", "isStarted", "(LOneCup$Log;LOneCup$Links;I)Z"⟩, 8), (⟨"OneCup$Orders", "isDone", "(LOneCup$Log;I)Z"⟩, 8), (⟨"OneCup$Orders", "show", "(LOneCup$Visited;III)I"⟩, 8)]
theorem lw_r3 : ∀ q ∈ lw_privs_3, lw_okq q := List.forall_mem_cons.mpr ⟨lw_p32, List.forall_mem_cons.mpr ⟨lw_p33, List.forall_mem_cons.mpr ⟨lw_p34, List.forall_mem_cons.mpr ⟨lw_p35, List.forall_mem_cons.mpr ⟨lw_p36, List.forall_mem_cons.mpr ⟨lw_p37, List.forall_mem_cons.mpr ⟨lw_p38, List.forall_mem_cons.mpr ⟨lw_p39, List.forall_mem_cons.mpr ⟨lw_p40, List.forall_mem_cons.mpr ⟨lw_p41, List.forall_mem_cons.mpr ⟨lw_p42, List.forall_mem_cons.mpr ⟨lw_p43, List.forall_mem_cons.mpr ⟨lw_p44, List.forall_mem_cons.mpr ⟨lw_p45, List.forall_mem_cons.mpr ⟨lw_p46, List.forall_mem_cons.mpr ⟨lw_p47, fun _ h => absurd h List.not_mem_nil⟩⟩⟩⟩⟩⟩⟩⟩⟩⟩⟩⟩⟩⟩⟩⟩
theorem lw_p48 : lw_okq (⟨"OneCup$Orders", "unpack", "()V"⟩, 8) := ⟨⟨by decide +kernel, by decide +kernel⟩, List.mem_of_getElem? (i := 444) (by decide +kernel), List.mem_of_getElem? (i := 1094) (by decide +kernel), List.mem_of_getElem? (i := 1095) (by decide +kernel)⟩
theorem lw_p49 : lw_okq (⟨"OneCup$Orders", "mayGo", "(LOneCup$Log;LOneCup$Links;I)Z"⟩, 8) := ⟨⟨by decide +kernel, by decide +kernel⟩, List.mem_of_getElem? (i := 444) (by decide +kernel), List.mem_of_getElem? (i := 1098) (by decide +kernel), List.mem_of_getElem? (i := 1099) (by decide +kernel)⟩
theorem lw_p50 : lw_okq (⟨"OneCup$Orders", "isFree", "(LOneCup$Log;LOneCup$Links;I)Z"⟩, 8) := ⟨⟨by decide +kernel, by decide +kernel⟩, List.mem_of_getElem? (i := 444) (by decide +kernel), List.mem_of_getElem? (i := 1102) (by decide +kernel), List.mem_of_getElem? (i := 1103) (by decide +kernel)⟩
theorem lw_p51 : lw_okq (⟨"OneCup$Orders", "goOn", "(LOneCup$Log;LOneCup$Links;I)V"⟩, 8) := ⟨⟨by decide +kernel, by decide +kernel⟩, List.mem_of_getElem? (i := 444) (by decide +kernel), List.mem_of_getElem? (i := 1106) (by decide +kernel), List.mem_of_getElem? (i := 1107) (by decide +kernel)⟩
theorem lw_p52 : lw_okq (⟨"OneCup", "replay", "(LOneCup$Machine;II)V"⟩, 17) := ⟨⟨by decide +kernel, by decide +kernel⟩, List.mem_of_getElem? (i := 23) (by decide +kernel), List.mem_of_getElem? (i := 1118) (by decide +kernel), List.mem_of_getElem? (i := 1119) (by decide +kernel)⟩
theorem lw_p53 : lw_okq (⟨"OneCup", "goThroughAllRuns", "()V"⟩, 17) := ⟨⟨by decide +kernel, by decide +kernel⟩, List.mem_of_getElem? (i := 23) (by decide +kernel), List.mem_of_getElem? (i := 1153) (by decide +kernel), List.mem_of_getElem? (i := 1154) (by decide +kernel)⟩
theorem lw_p54 : lw_okq (⟨"OneCup$AllRuns", "goOnFrom", "(ILOneCup$Machine;LOneCup$Visited;)V"⟩, 12) := ⟨⟨by decide +kernel, by decide +kernel⟩, List.mem_of_getElem? (i := 480) (by decide +kernel), List.mem_of_getElem? (i := 1169) (by decide +kernel), List.mem_of_getElem? (i := 1170) (by decide +kernel)⟩
theorem lw_p55 : lw_okq (⟨"OneCup$AllRuns", "noteEnd", "(IILOneCup$Visited;)V"⟩, 12) := ⟨⟨by decide +kernel, by decide +kernel⟩, List.mem_of_getElem? (i := 480) (by decide +kernel), List.mem_of_getElem? (i := 1183) (by decide +kernel), List.mem_of_getElem? (i := 1184) (by decide +kernel)⟩
theorem lw_p56 : lw_okq (⟨"OneCup", "meetingsBy", "(III)I"⟩, 17) := ⟨⟨by decide +kernel, by decide +kernel⟩, List.mem_of_getElem? (i := 23) (by decide +kernel), List.mem_of_getElem? (i := 1213) (by decide +kernel), List.mem_of_getElem? (i := 1214) (by decide +kernel)⟩
theorem lw_p57 : lw_okq (⟨"OneCup$Links", "leadsTo", "(LOneCup$Log;II)Z"⟩, 19) := ⟨⟨by decide +kernel, by decide +kernel⟩, List.mem_of_getElem? (i := 288) (by decide +kernel), List.mem_of_getElem? (i := 1238) (by decide +kernel), List.mem_of_getElem? (i := 1239) (by decide +kernel)⟩
theorem lw_p58 : lw_okq (⟨"OneCup$Links", "isEdge", "(II)Z"⟩, 19) := ⟨⟨by decide +kernel, by decide +kernel⟩, List.mem_of_getElem? (i := 288) (by decide +kernel), List.mem_of_getElem? (i := 1242) (by decide +kernel), List.mem_of_getElem? (i := 1243) (by decide +kernel)⟩
theorem lw_p59 : lw_okq (⟨"OneCup$Book", "put", "(LOneCup$Log;III)I"⟩, 9) := ⟨⟨by decide +kernel, by decide +kernel⟩, List.mem_of_getElem? (i := 220) (by decide +kernel), List.mem_of_getElem? (i := 1260) (by decide +kernel), List.mem_of_getElem? (i := 1261) (by decide +kernel)⟩
theorem lw_p60 : lw_okq (⟨"OneCup$Book", "countLog", "(I)V"⟩, 9) := ⟨⟨by decide +kernel, by decide +kernel⟩, List.mem_of_getElem? (i := 220) (by decide +kernel), List.mem_of_getElem? (i := 1266) (by decide +kernel), List.mem_of_getElem? (i := 1267) (by decide +kernel)⟩
theorem lw_p61 : lw_okq (⟨"OneCup", "rowsThere", "()I"⟩, 17) := ⟨⟨by decide +kernel, by decide +kernel⟩, List.mem_of_getElem? (i := 23) (by decide +kernel), List.mem_of_getElem? (i := 1278) (by decide +kernel), List.mem_of_getElem? (i := 1279) (by decide +kernel)⟩
theorem lw_p62 : lw_okq (⟨"OneCupModel", "no", "()I"⟩, 63) := ⟨⟨by decide +kernel, by decide +kernel⟩, List.mem_of_getElem? (i := 1320) (by decide +kernel), List.mem_of_getElem? (i := 1526) (by decide +kernel), List.mem_of_getElem? (i := 1527) (by decide +kernel)⟩
theorem lw_p63 : lw_okq (⟨"OneCupModel", "step", "()V"⟩, 63) := ⟨⟨by decide +kernel, by decide +kernel⟩, List.mem_of_getElem? (i := 1320) (by decide +kernel), List.mem_of_getElem? (i := 1546) (by decide +kernel), List.mem_of_getElem? (i := 1547) (by decide +kernel)⟩
def lw_privs_4 : List (MethodName × Nat) := [(⟨"OneCup$Orders", "unpack", "()V"⟩, 8), (⟨"OneCup$Orders", "mayGo", "(LOneCup$Log;LOneCup$Links;I)Z"⟩, 8), (⟨"OneCup$Orders", "isFree", "(LOneCup$Log;LOneCup$Links;I)Z"⟩, 8), (⟨"OneCup$Orders", "goOn", "(LOneCup$Log;LOneCup$Links;I)V"⟩, 8), (⟨"OneCup", "replay", "(LOneCup$Machine;II)V"⟩, 17), (⟨"OneCup", "goThroughAllRuns", "()V"⟩, 17), (⟨"OneCup$AllRuns", "goOnFrom", "(ILOneCup$Machine;LOneCup$Visited;)V"⟩, 12), (⟨"OneCup$AllRuns", "noteEnd", "(IILOneCup$Visited;)V"⟩, 12), (⟨"OneCup", "meetingsBy", "(III)I"⟩, 17), (⟨"OneCup$Links", "leadsTo", "(LOneCup$Log;II)Z"⟩, 19), (⟨"OneCup$Links", "isEdge", "(II)Z"⟩, 19), (⟨"OneCup$Book", "put", "(LOneCup$Log;III)I"⟩, 9), (⟨"OneCup$Book", "countLog", "(I)V"⟩, 9), (⟨"OneCup", "rowsThere", "()I"⟩, 17), (⟨"OneCupModel", "no", "()I"⟩, 63), (⟨"OneCupModel", "step", "()V"⟩, 63)]
theorem lw_r4 : ∀ q ∈ lw_privs_4, lw_okq q := List.forall_mem_cons.mpr ⟨lw_p48, List.forall_mem_cons.mpr ⟨lw_p49, List.forall_mem_cons.mpr ⟨lw_p50, List.forall_mem_cons.mpr ⟨lw_p51, List.forall_mem_cons.mpr ⟨lw_p52, List.forall_mem_cons.mpr ⟨lw_p53, List.forall_mem_cons.mpr ⟨lw_p54, List.forall_mem_cons.mpr ⟨lw_p55, List.forall_mem_cons.mpr ⟨lw_p56, List.forall_mem_cons.mpr ⟨lw_p57, List.forall_mem_cons.mpr ⟨lw_p58, List.forall_mem_cons.mpr ⟨lw_p59, List.forall_mem_cons.mpr ⟨lw_p60, List.forall_mem_cons.mpr ⟨lw_p61, List.forall_mem_cons.mpr ⟨lw_p62, List.forall_mem_cons.mpr ⟨lw_p63, fun _ h => absurd h List.not_mem_nil⟩⟩⟩⟩⟩⟩⟩⟩⟩⟩⟩⟩⟩⟩⟩⟩
theorem lw_p64 : lw_okq (⟨"OneCupModel", "see", "(I)I"⟩, 63) := ⟨⟨by decide +kernel, by decide +kernel⟩, List.mem_of_getElem? (i := 1320) (by decide +kernel), List.mem_of_getElem? (i := 1550) (by decide +kernel), List.mem_of_getElem? (i := 1551) (by decide +kernel)⟩
theorem lw_p65 : lw_okq (⟨"OneCupModel", "good", "()Z"⟩, 63) := ⟨⟨by decide +kernel, by decide +kernel⟩, List.mem_of_getElem? (i := 1320) (by decide +kernel), List.mem_of_getElem? (i := 1562) (by decide +kernel), List.mem_of_getElem? (i := 1563) (by decide +kernel)⟩
theorem lw_p66 : lw_okq (⟨"OneCupModel", "readHand", "()V"⟩, 63) := ⟨⟨by decide +kernel, by decide +kernel⟩, List.mem_of_getElem? (i := 1320) (by decide +kernel), List.mem_of_getElem? (i := 1566) (by decide +kernel), List.mem_of_getElem? (i := 1567) (by decide +kernel)⟩
theorem lw_p67 : lw_okq (⟨"OneCupModel", "takes", "(Ljava/lang/String;)Z"⟩, 63) := ⟨⟨by decide +kernel, by decide +kernel⟩, List.mem_of_getElem? (i := 1320) (by decide +kernel), List.mem_of_getElem? (i := 1571) (by decide +kernel), List.mem_of_getElem? (i := 1572) (by decide +kernel)⟩
theorem lw_p68 : lw_okq (⟨"OneCupModel", "is", "(Ljava/lang/String;)Z"⟩, 63) := ⟨⟨by decide +kernel, by decide +kernel⟩, List.mem_of_getElem? (i := 1320) (by decide +kernel), List.mem_of_getElem? (i := 1575) (by decide +kernel), List.mem_of_getElem? (i := 1576) (by decide +kernel)⟩
theorem lw_p69 : lw_okq (⟨"OneCupModel", "wrong", "(I)V"⟩, 63) := ⟨⟨by decide +kernel, by decide +kernel⟩, List.mem_of_getElem? (i := 1320) (by decide +kernel), List.mem_of_getElem? (i := 1581) (by decide +kernel), List.mem_of_getElem? (i := 1582) (by decide +kernel)⟩
theorem lw_p70 : lw_okq (⟨"OneCupModel", "number", "(II)I"⟩, 63) := ⟨⟨by decide +kernel, by decide +kernel⟩, List.mem_of_getElem? (i := 1320) (by decide +kernel), List.mem_of_getElem? (i := 1586) (by decide +kernel), List.mem_of_getElem? (i := 1587) (by decide +kernel)⟩
theorem lw_p71 : lw_okq (⟨"OneCupModel", "readSteps", "(I)V"⟩, 63) := ⟨⟨by decide +kernel, by decide +kernel⟩, List.mem_of_getElem? (i := 1320) (by decide +kernel), List.mem_of_getElem? (i := 1590) (by decide +kernel), List.mem_of_getElem? (i := 1591) (by decide +kernel)⟩
theorem lw_p72 : lw_okq (⟨"OneCupModel", "isSign", "(I)Z"⟩, 63) := ⟨⟨by decide +kernel, by decide +kernel⟩, List.mem_of_getElem? (i := 1320) (by decide +kernel), List.mem_of_getElem? (i := 1594) (by decide +kernel), List.mem_of_getElem? (i := 1595) (by decide +kernel)⟩
theorem lw_p73 : lw_okq (⟨"OneCupModel", "needsSign", "(I)V"⟩, 63) := ⟨⟨by decide +kernel, by decide +kernel⟩, List.mem_of_getElem? (i := 1320) (by decide +kernel), List.mem_of_getElem? (i := 1598) (by decide +kernel), List.mem_of_getElem? (i := 1599) (by decide +kernel)⟩
theorem lw_p74 : lw_okq (⟨"OneCupModel", "readStep", "(I)V"⟩, 63) := ⟨⟨by decide +kernel, by decide +kernel⟩, List.mem_of_getElem? (i := 1320) (by decide +kernel), List.mem_of_getElem? (i := 1602) (by decide +kernel), List.mem_of_getElem? (i := 1603) (by decide +kernel)⟩
theorem lw_p75 : lw_okq (⟨"OneCupModel", "letter", "(II)I"⟩, 63) := ⟨⟨by decide +kernel, by decide +kernel⟩, List.mem_of_getElem? (i := 1320) (by decide +kernel), List.mem_of_getElem? (i := 1607) (by decide +kernel), List.mem_of_getElem? (i := 1608) (by decide +kernel)⟩
theorem lw_p76 : lw_okq (⟨"OneCupModel", "adds", "(IIIII)V"⟩, 63) := ⟨⟨by decide +kernel, by decide +kernel⟩, List.mem_of_getElem? (i := 1320) (by decide +kernel), List.mem_of_getElem? (i := 1611) (by decide +kernel), List.mem_of_getElem? (i := 1612) (by decide +kernel)⟩
theorem lw_p77 : lw_okq (⟨"OneCupModel", "codeAt", "(I)I"⟩, 63) := ⟨⟨by decide +kernel, by decide +kernel⟩, List.mem_of_getElem? (i := 1320) (by decide +kernel), List.mem_of_getElem? (i := 1615) (by decide +kernel), List.mem_of_getElem? (i := 1616) (by decide +kernel)⟩
theorem lw_p78 : lw_okq (⟨"OneCupModel", "again", "(II)V"⟩, 63) := ⟨⟨by decide +kernel, by decide +kernel⟩, List.mem_of_getElem? (i := 1320) (by decide +kernel), List.mem_of_getElem? (i := 1621) (by decide +kernel), List.mem_of_getElem? (i := 1622) (by decide +kernel)⟩
theorem lw_p79 : lw_okq (⟨"OneCupModel", "readPlain", "(I)V"⟩, 63) := ⟨⟨by decide +kernel, by decide +kernel⟩, List.mem_of_getElem? (i := 1320) (by decide +kernel), List.mem_of_getElem? (i := 1626) (by decide +kernel), List.mem_of_getElem? (i := 1627) (by decide +kernel)⟩
def lw_privs_5 : List (MethodName × Nat) := [(⟨"OneCupModel", "see", "(I)I"⟩, 63), (⟨"OneCupModel", "good", "()Z"⟩, 63), (⟨"OneCupModel", "readHand", "()V"⟩, 63), (⟨"OneCupModel", "takes", "(Ljava/lang/String;)Z"⟩, 63), (⟨"OneCupModel", "is", "(Ljava/lang/String;)Z"⟩, 63), (⟨"OneCupModel", "wrong", "(I)V"⟩, 63), (⟨"OneCupModel", "number", "(II)I"⟩, 63), (⟨"OneCupModel", "readSteps", "(I)V"⟩, 63), (⟨"OneCupModel", "isSign", "(I)Z"⟩, 63), (⟨"OneCupModel", "needsSign", "(I)V"⟩, 63), (⟨"OneCupModel", "readStep", "(I)V"⟩, 63), (⟨"OneCupModel", "letter", "(II)I"⟩, 63), (⟨"OneCupModel", "adds", "(IIIII)V"⟩, 63), (⟨"OneCupModel", "codeAt", "(I)I"⟩, 63), (⟨"OneCupModel", "again", "(II)V"⟩, 63), (⟨"OneCupModel", "readPlain", "(I)V"⟩, 63)]
theorem lw_r5 : ∀ q ∈ lw_privs_5, lw_okq q := List.forall_mem_cons.mpr ⟨lw_p64, List.forall_mem_cons.mpr ⟨lw_p65, List.forall_mem_cons.mpr ⟨lw_p66, List.forall_mem_cons.mpr ⟨lw_p67, List.forall_mem_cons.mpr ⟨lw_p68, List.forall_mem_cons.mpr ⟨lw_p69, List.forall_mem_cons.mpr ⟨lw_p70, List.forall_mem_cons.mpr ⟨lw_p71, List.forall_mem_cons.mpr ⟨lw_p72, List.forall_mem_cons.mpr ⟨lw_p73, List.forall_mem_cons.mpr ⟨lw_p74, List.forall_mem_cons.mpr ⟨lw_p75, List.forall_mem_cons.mpr ⟨lw_p76, List.forall_mem_cons.mpr ⟨lw_p77, List.forall_mem_cons.mpr ⟨lw_p78, List.forall_mem_cons.mpr ⟨lw_p79, fun _ h => absurd h List.not_mem_nil⟩⟩⟩⟩⟩⟩⟩⟩⟩⟩⟩⟩⟩⟩⟩⟩
theorem lw_p80 : lw_okq (⟨"OneCupModel", "lays", "(IIII)V"⟩, 63) := ⟨⟨by decide +kernel, by decide +kernel⟩, List.mem_of_getElem? (i := 1320) (by decide +kernel), List.mem_of_getElem? (i := 1631) (by decide +kernel), List.mem_of_getElem? (i := 1632) (by decide +kernel)⟩
theorem lw_p81 : lw_okq (⟨"OneCupModel", "clears", "()V"⟩, 63) := ⟨⟨by decide +kernel, by decide +kernel⟩, List.mem_of_getElem? (i := 1320) (by decide +kernel), List.mem_of_getElem? (i := 1644) (by decide +kernel), List.mem_of_getElem? (i := 1645) (by decide +kernel)⟩
theorem lw_p82 : lw_okq (⟨"OneCupModel", "runBy", "(I)I"⟩, 63) := ⟨⟨by decide +kernel, by decide +kernel⟩, List.mem_of_getElem? (i := 1320) (by decide +kernel), List.mem_of_getElem? (i := 1656) (by decide +kernel), List.mem_of_getElem? (i := 1657) (by decide +kernel)⟩
theorem lw_p83 : lw_okq (⟨"OneCupModel", "begins", "()V"⟩, 63) := ⟨⟨by decide +kernel, by decide +kernel⟩, List.mem_of_getElem? (i := 1320) (by decide +kernel), List.mem_of_getElem? (i := 1660) (by decide +kernel), List.mem_of_getElem? (i := 1661) (by decide +kernel)⟩
theorem lw_p84 : lw_okq (⟨"OneCupModel", "canGo", "(I)Z"⟩, 63) := ⟨⟨by decide +kernel, by decide +kernel⟩, List.mem_of_getElem? (i := 1320) (by decide +kernel), List.mem_of_getElem? (i := 1664) (by decide +kernel), List.mem_of_getElem? (i := 1665) (by decide +kernel)⟩
theorem lw_p85 : lw_okq (⟨"OneCupModel", "hasCode", "(I)Z"⟩, 63) := ⟨⟨by decide +kernel, by decide +kernel⟩, List.mem_of_getElem? (i := 1320) (by decide +kernel), List.mem_of_getElem? (i := 1668) (by decide +kernel), List.mem_of_getElem? (i := 1669) (by decide +kernel)⟩
theorem lw_p86 : lw_okq (⟨"OneCupModel", "codeOf", "(I)I"⟩, 63) := ⟨⟨by decide +kernel, by decide +kernel⟩, List.mem_of_getElem? (i := 1320) (by decide +kernel), List.mem_of_getElem? (i := 1672) (by decide +kernel), List.mem_of_getElem? (i := 1673) (by decide +kernel)⟩
theorem lw_p87 : lw_okq (⟨"OneCupModel", "logs", "(I)V"⟩, 63) := ⟨⟨by decide +kernel, by decide +kernel⟩, List.mem_of_getElem? (i := 1320) (by decide +kernel), List.mem_of_getElem? (i := 1676) (by decide +kernel), List.mem_of_getElem? (i := 1677) (by decide +kernel)⟩
theorem lw_p88 : lw_okq (⟨"OneCupModel", "goes", "(I)Z"⟩, 63) := ⟨⟨by decide +kernel, by decide +kernel⟩, List.mem_of_getElem? (i := 1320) (by decide +kernel), List.mem_of_getElem? (i := 1680) (by decide +kernel), List.mem_of_getElem? (i := 1681) (by decide +kernel)⟩
theorem lw_p89 : lw_okq (⟨"OneCupModel", "heldBy", "(I)I"⟩, 63) := ⟨⟨by decide +kernel, by decide +kernel⟩, List.mem_of_getElem? (i := 1320) (by decide +kernel), List.mem_of_getElem? (i := 1687) (by decide +kernel), List.mem_of_getElem? (i := 1688) (by decide +kernel)⟩
theorem lw_p90 : lw_okq (⟨"OneCupModel", "leastHand", "()I"⟩, 63) := ⟨⟨by decide +kernel, by decide +kernel⟩, List.mem_of_getElem? (i := 1320) (by decide +kernel), List.mem_of_getElem? (i := 1691) (by decide +kernel), List.mem_of_getElem? (i := 1692) (by decide +kernel)⟩
theorem lw_p91 : lw_okq (⟨"OneCupModel", "stuckNow", "()I"⟩, 63) := ⟨⟨by decide +kernel, by decide +kernel⟩, List.mem_of_getElem? (i := 1320) (by decide +kernel), List.mem_of_getElem? (i := 1695) (by decide +kernel), List.mem_of_getElem? (i := 1696) (by decide +kernel)⟩
theorem lw_p92 : lw_okq (⟨"OneCupModel", "isAct", "(I)Z"⟩, 63) := ⟨⟨by decide +kernel, by decide +kernel⟩, List.mem_of_getElem? (i := 1320) (by decide +kernel), List.mem_of_getElem? (i := 1707) (by decide +kernel), List.mem_of_getElem? (i := 1708) (by decide +kernel)⟩
theorem lw_p93 : lw_okq (⟨"OneCupModel", "of", "(II)I"⟩, 63) := ⟨⟨by decide +kernel, by decide +kernel⟩, List.mem_of_getElem? (i := 1320) (by decide +kernel), List.mem_of_getElem? (i := 1712) (by decide +kernel), List.mem_of_getElem? (i := 1713) (by decide +kernel)⟩
theorem lw_p94 : lw_okq (⟨"OneCupModel", "clocks", "()V"⟩, 63) := ⟨⟨by decide +kernel, by decide +kernel⟩, List.mem_of_getElem? (i := 1320) (by decide +kernel), List.mem_of_getElem? (i := 1735) (by decide +kernel), List.mem_of_getElem? (i := 1736) (by decide +kernel)⟩
theorem lw_p95 : lw_okq (⟨"OneCupModel", "findAhead", "(I)V"⟩, 63) := ⟨⟨by decide +kernel, by decide +kernel⟩, List.mem_of_getElem? (i := 1320) (by decide +kernel), List.mem_of_getElem? (i := 1739) (by decide +kernel), List.mem_of_getElem? (i := 1740) (by decide +kernel)⟩
def lw_privs_6 : List (MethodName × Nat) := [(⟨"OneCupModel", "lays", "(IIII)V"⟩, 63), (⟨"OneCupModel", "clears", "()V"⟩, 63), (⟨"OneCupModel", "runBy", "(I)I"⟩, 63), (⟨"OneCupModel", "begins", "()V"⟩, 63), (⟨"OneCupModel", "canGo", "(I)Z"⟩, 63), (⟨"OneCupModel", "hasCode", "(I)Z"⟩, 63), (⟨"OneCupModel", "codeOf", "(I)I"⟩, 63), (⟨"OneCupModel", "logs", "(I)V"⟩, 63), (⟨"OneCupModel", "goes", "(I)Z"⟩, 63), (⟨"OneCupModel", "heldBy", "(I)I"⟩, 63), (⟨"OneCupModel", "leastHand", "()I"⟩, 63), (⟨"OneCupModel", "stuckNow", "()I"⟩, 63), (⟨"OneCupModel", "isAct", "(I)Z"⟩, 63), (⟨"OneCupModel", "of", "(II)I"⟩, 63), (⟨"OneCupModel", "clocks", "()V"⟩, 63), (⟨"OneCupModel", "findAhead", "(I)V"⟩, 63)]
theorem lw_r6 : ∀ q ∈ lw_privs_6, lw_okq q := List.forall_mem_cons.mpr ⟨lw_p80, List.forall_mem_cons.mpr ⟨lw_p81, List.forall_mem_cons.mpr ⟨lw_p82, List.forall_mem_cons.mpr ⟨lw_p83, List.forall_mem_cons.mpr ⟨lw_p84, List.forall_mem_cons.mpr ⟨lw_p85, List.forall_mem_cons.mpr ⟨lw_p86, List.forall_mem_cons.mpr ⟨lw_p87, List.forall_mem_cons.mpr ⟨lw_p88, List.forall_mem_cons.mpr ⟨lw_p89, List.forall_mem_cons.mpr ⟨lw_p90, List.forall_mem_cons.mpr ⟨lw_p91, List.forall_mem_cons.mpr ⟨lw_p92, List.forall_mem_cons.mpr ⟨lw_p93, List.forall_mem_cons.mpr ⟨lw_p94, List.forall_mem_cons.mpr ⟨lw_p95, fun _ h => absurd h List.not_mem_nil⟩⟩⟩⟩⟩⟩⟩⟩⟩⟩⟩⟩⟩⟩⟩⟩
theorem lw_p96 : lw_okq (⟨"OneCupModel", "latest", "(IIII)I"⟩, 63) := ⟨⟨by decide +kernel, by decide +kernel⟩, List.mem_of_getElem? (i := 1320) (by decide +kernel), List.mem_of_getElem? (i := 1743) (by decide +kernel), List.mem_of_getElem? (i := 1744) (by decide +kernel)⟩
theorem lw_p97 : lw_okq (⟨"OneCupModel", "isLaw", "(I)Z"⟩, 63) := ⟨⟨by decide +kernel, by decide +kernel⟩, List.mem_of_getElem? (i := 1320) (by decide +kernel), List.mem_of_getElem? (i := 1747) (by decide +kernel), List.mem_of_getElem? (i := 1748) (by decide +kernel)⟩
theorem lw_p98 : lw_okq (⟨"OneCupModel", "lawOf", "(I)I"⟩, 63) := ⟨⟨by decide +kernel, by decide +kernel⟩, List.mem_of_getElem? (i := 1320) (by decide +kernel), List.mem_of_getElem? (i := 1751) (by decide +kernel), List.mem_of_getElem? (i := 1752) (by decide +kernel)⟩
theorem lw_p99 : lw_okq (⟨"OneCupModel", "sendOf", "(I)I"⟩, 63) := ⟨⟨by decide +kernel, by decide +kernel⟩, List.mem_of_getElem? (i := 1320) (by decide +kernel), List.mem_of_getElem? (i := 1755) (by decide +kernel), List.mem_of_getElem? (i := 1756) (by decide +kernel)⟩
theorem lw_p100 : lw_okq (⟨"OneCupModel", "isTouch", "(I)Z"⟩, 63) := ⟨⟨by decide +kernel, by decide +kernel⟩, List.mem_of_getElem? (i := 1320) (by decide +kernel), List.mem_of_getElem? (i := 1759) (by decide +kernel), List.mem_of_getElem? (i := 1760) (by decide +kernel)⟩
theorem lw_p101 : lw_okq (⟨"OneCupModel", "latestTouch", "(I)I"⟩, 63) := ⟨⟨by decide +kernel, by decide +kernel⟩, List.mem_of_getElem? (i := 1320) (by decide +kernel), List.mem_of_getElem? (i := 1763) (by decide +kernel), List.mem_of_getElem? (i := 1764) (by decide +kernel)⟩
theorem lw_p102 : lw_okq (⟨"OneCupModel", "merges", "(II)V"⟩, 63) := ⟨⟨by decide +kernel, by decide +kernel⟩, List.mem_of_getElem? (i := 1320) (by decide +kernel), List.mem_of_getElem? (i := 1767) (by decide +kernel), List.mem_of_getElem? (i := 1768) (by decide +kernel)⟩
theorem lw_p103 : lw_okq (⟨"OneCupModel", "isBefore", "(II)Z"⟩, 63) := ⟨⟨by decide +kernel, by decide +kernel⟩, List.mem_of_getElem? (i := 1320) (by decide +kernel), List.mem_of_getElem? (i := 1772) (by decide +kernel), List.mem_of_getElem? (i := 1773) (by decide +kernel)⟩
theorem lw_p104 : lw_okq (⟨"OneCupModel", "meetings", "()I"⟩, 63) := ⟨⟨by decide +kernel, by decide +kernel⟩, List.mem_of_getElem? (i := 1320) (by decide +kernel), List.mem_of_getElem? (i := 1784) (by decide +kernel), List.mem_of_getElem? (i := 1785) (by decide +kernel)⟩
theorem lw_p105 : lw_okq (⟨"OneCupModel", "meet0", "(II)Z"⟩, 63) := ⟨⟨by decide +kernel, by decide +kernel⟩, List.mem_of_getElem? (i := 1320) (by decide +kernel), List.mem_of_getElem? (i := 1788) (by decide +kernel), List.mem_of_getElem? (i := 1789) (by decide +kernel)⟩
theorem lw_p106 : lw_okq (⟨"OneCupModel", "clash", "(II)Z"⟩, 63) := ⟨⟨by decide +kernel, by decide +kernel⟩, List.mem_of_getElem? (i := 1320) (by decide +kernel), List.mem_of_getElem? (i := 1792) (by decide +kernel), List.mem_of_getElem? (i := 1793) (by decide +kernel)⟩
theorem lw_p107 : lw_okq (⟨"OneCupModel", "search", "(II)I"⟩, 63) := ⟨⟨by decide +kernel, by decide +kernel⟩, List.mem_of_getElem? (i := 1320) (by decide +kernel), List.mem_of_getElem? (i := 1813) (by decide +kernel), List.mem_of_getElem? (i := 1814) (by decide +kernel)⟩
theorem lw_p108 : lw_okq (⟨"OneCupModel", "sorts", "()V"⟩, 63) := ⟨⟨by decide +kernel, by decide +kernel⟩, List.mem_of_getElem? (i := 1320) (by decide +kernel), List.mem_of_getElem? (i := 1817) (by decide +kernel), List.mem_of_getElem? (i := 1818) (by decide +kernel)⟩
theorem lw_p109 : lw_okq (⟨"OneCupModel", "laysOrder", "(IIII)I"⟩, 63) := ⟨⟨by decide +kernel, by decide +kernel⟩, List.mem_of_getElem? (i := 1320) (by decide +kernel), List.mem_of_getElem? (i := 1821) (by decide +kernel), List.mem_of_getElem? (i := 1822) (by decide +kernel)⟩
theorem lw_p110 : lw_okq (⟨"OneCupModel", "isLaid", "()Z"⟩, 63) := ⟨⟨by decide +kernel, by decide +kernel⟩, List.mem_of_getElem? (i := 1320) (by decide +kernel), List.mem_of_getElem? (i := 1825) (by decide +kernel), List.mem_of_getElem? (i := 1826) (by decide +kernel)⟩
theorem lw_p111 : lw_okq (⟨"OneCupModel", "sideBySide", "(II)Z"⟩, 63) := ⟨⟨by decide +kernel, by decide +kernel⟩, List.mem_of_getElem? (i := 1320) (by decide +kernel), List.mem_of_getElem? (i := 1829) (by decide +kernel), List.mem_of_getElem? (i := 1830) (by decide +kernel)⟩
def lw_privs_7 : List (MethodName × Nat) := [(⟨"OneCupModel", "latest", "(IIII)I"⟩, 63), (⟨"OneCupModel", "isLaw", "(I)Z"⟩, 63), (⟨"OneCupModel", "lawOf", "(I)I"⟩, 63), (⟨"OneCupModel", "sendOf", "(I)I"⟩, 63), (⟨"OneCupModel", "isTouch", "(I)Z"⟩, 63), (⟨"OneCupModel", "latestTouch", "(I)I"⟩, 63), (⟨"OneCupModel", "merges", "(II)V"⟩, 63), (⟨"OneCupModel", "isBefore", "(II)Z"⟩, 63), (⟨"OneCupModel", "meetings", "()I"⟩, 63), (⟨"OneCupModel", "meet0", "(II)Z"⟩, 63), (⟨"OneCupModel", "clash", "(II)Z"⟩, 63), (⟨"OneCupModel", "search", "(II)I"⟩, 63), (⟨"OneCupModel", "sorts", "()V"⟩, 63), (⟨"OneCupModel", "laysOrder", "(IIII)I"⟩, 63), (⟨"OneCupModel", "isLaid", "()Z"⟩, 63), (⟨"OneCupModel", "sideBySide", "(II)Z"⟩, 63)]
theorem lw_r7 : ∀ q ∈ lw_privs_7, lw_okq q := List.forall_mem_cons.mpr ⟨lw_p96, List.forall_mem_cons.mpr ⟨lw_p97, List.forall_mem_cons.mpr ⟨lw_p98, List.forall_mem_cons.mpr ⟨lw_p99, List.forall_mem_cons.mpr ⟨lw_p100, List.forall_mem_cons.mpr ⟨lw_p101, List.forall_mem_cons.mpr ⟨lw_p102, List.forall_mem_cons.mpr ⟨lw_p103, List.forall_mem_cons.mpr ⟨lw_p104, List.forall_mem_cons.mpr ⟨lw_p105, List.forall_mem_cons.mpr ⟨lw_p106, List.forall_mem_cons.mpr ⟨lw_p107, List.forall_mem_cons.mpr ⟨lw_p108, List.forall_mem_cons.mpr ⟨lw_p109, List.forall_mem_cons.mpr ⟨lw_p110, List.forall_mem_cons.mpr ⟨lw_p111, fun _ h => absurd h List.not_mem_nil⟩⟩⟩⟩⟩⟩⟩⟩⟩⟩⟩⟩⟩⟩⟩⟩
theorem lw_p112 : lw_okq (⟨"OneCupModel", "isStarted", "(I)Z"⟩, 63) := ⟨⟨by decide +kernel, by decide +kernel⟩, List.mem_of_getElem? (i := 1320) (by decide +kernel), List.mem_of_getElem? (i := 1833) (by decide +kernel), List.mem_of_getElem? (i := 1834) (by decide +kernel)⟩
theorem lw_p113 : lw_okq (⟨"OneCupModel", "isDone", "(I)Z"⟩, 63) := ⟨⟨by decide +kernel, by decide +kernel⟩, List.mem_of_getElem? (i := 1320) (by decide +kernel), List.mem_of_getElem? (i := 1837) (by decide +kernel), List.mem_of_getElem? (i := 1838) (by decide +kernel)⟩
theorem lw_p114 : lw_okq (⟨"OneCupModel", "couldGo", "(I)Z"⟩, 63) := ⟨⟨by decide +kernel, by decide +kernel⟩, List.mem_of_getElem? (i := 1320) (by decide +kernel), List.mem_of_getElem? (i := 1841) (by decide +kernel), List.mem_of_getElem? (i := 1842) (by decide +kernel)⟩
theorem lw_p115 : lw_okq (⟨"OneCupModel", "sawOf", "(I)I"⟩, 63) := ⟨⟨by decide +kernel, by decide +kernel⟩, List.mem_of_getElem? (i := 1320) (by decide +kernel), List.mem_of_getElem? (i := 1845) (by decide +kernel), List.mem_of_getElem? (i := 1846) (by decide +kernel)⟩
theorem lw_p116 : lw_okq (⟨"OneCupModel", "isFree", "(I)Z"⟩, 63) := ⟨⟨by decide +kernel, by decide +kernel⟩, List.mem_of_getElem? (i := 1320) (by decide +kernel), List.mem_of_getElem? (i := 1849) (by decide +kernel), List.mem_of_getElem? (i := 1850) (by decide +kernel)⟩
theorem lw_p117 : lw_okq (⟨"OneCupModel", "plays", "(II)V"⟩, 63) := ⟨⟨by decide +kernel, by decide +kernel⟩, List.mem_of_getElem? (i := 1320) (by decide +kernel), List.mem_of_getElem? (i := 1861) (by decide +kernel), List.mem_of_getElem? (i := 1862) (by decide +kernel)⟩
theorem lw_p118 : lw_okq (⟨"OneCupModel", "goesOn", "(I)V"⟩, 63) := ⟨⟨by decide +kernel, by decide +kernel⟩, List.mem_of_getElem? (i := 1320) (by decide +kernel), List.mem_of_getElem? (i := 1865) (by decide +kernel), List.mem_of_getElem? (i := 1866) (by decide +kernel)⟩
theorem lw_p119 : lw_okq (⟨"OneCupModel", "allRuns", "()Z"⟩, 63) := ⟨⟨by decide +kernel, by decide +kernel⟩, List.mem_of_getElem? (i := 1320) (by decide +kernel), List.mem_of_getElem? (i := 1885) (by decide +kernel), List.mem_of_getElem? (i := 1886) (by decide +kernel)⟩
theorem lw_p120 : lw_okq (⟨"OneCupModel", "laysRun", "(II)Z"⟩, 63) := ⟨⟨by decide +kernel, by decide +kernel⟩, List.mem_of_getElem? (i := 1320) (by decide +kernel), List.mem_of_getElem? (i := 1889) (by decide +kernel), List.mem_of_getElem? (i := 1890) (by decide +kernel)⟩
theorem lw_p121 : lw_okq (⟨"OneCupModel", "isRunLaid", "()Z"⟩, 63) := ⟨⟨by decide +kernel, by decide +kernel⟩, List.mem_of_getElem? (i := 1320) (by decide +kernel), List.mem_of_getElem? (i := 1893) (by decide +kernel), List.mem_of_getElem? (i := 1894) (by decide +kernel)⟩
theorem lw_p122 : lw_okq (⟨"OneCupModel", "brings", "(I)V"⟩, 63) := ⟨⟨by decide +kernel, by decide +kernel⟩, List.mem_of_getElem? (i := 1320) (by decide +kernel), List.mem_of_getElem? (i := 1897) (by decide +kernel), List.mem_of_getElem? (i := 1898) (by decide +kernel)⟩
theorem lw_p123 : lw_okq (⟨"OneCupModel", "sameEnd", "(II)Z"⟩, 63) := ⟨⟨by decide +kernel, by decide +kernel⟩, List.mem_of_getElem? (i := 1320) (by decide +kernel), List.mem_of_getElem? (i := 1901) (by decide +kernel), List.mem_of_getElem? (i := 1902) (by decide +kernel)⟩
theorem lw_p124 : lw_okq (⟨"OneCupModel", "meetingsBy", "(I)I"⟩, 63) := ⟨⟨by decide +kernel, by decide +kernel⟩, List.mem_of_getElem? (i := 1320) (by decide +kernel), List.mem_of_getElem? (i := 1918) (by decide +kernel), List.mem_of_getElem? (i := 1919) (by decide +kernel)⟩
theorem lw_p125 : lw_okq (⟨"OneCupModel", "gateAt", "(I)I"⟩, 63) := ⟨⟨by decide +kernel, by decide +kernel⟩, List.mem_of_getElem? (i := 1320) (by decide +kernel), List.mem_of_getElem? (i := 1941) (by decide +kernel), List.mem_of_getElem? (i := 1942) (by decide +kernel)⟩
theorem lw_p126 : lw_okq (⟨"OneCupModel", "nodes", "()V"⟩, 63) := ⟨⟨by decide +kernel, by decide +kernel⟩, List.mem_of_getElem? (i := 1320) (by decide +kernel), List.mem_of_getElem? (i := 1945) (by decide +kernel), List.mem_of_getElem? (i := 1946) (by decide +kernel)⟩
theorem lw_p127 : lw_okq (⟨"OneCupModel", "leads", "(II)Z"⟩, 63) := ⟨⟨by decide +kernel, by decide +kernel⟩, List.mem_of_getElem? (i := 1320) (by decide +kernel), List.mem_of_getElem? (i := 1949) (by decide +kernel), List.mem_of_getElem? (i := 1950) (by decide +kernel)⟩
def lw_privs_8 : List (MethodName × Nat) := [(⟨"OneCupModel", "isStarted", "(I)Z"⟩, 63), (⟨"OneCupModel", "isDone", "(I)Z"⟩, 63), (⟨"OneCupModel", "couldGo", "(I)Z"⟩, 63), (⟨"OneCupModel", "sawOf", "(I)I"⟩, 63), (⟨"OneCupModel", "isFree", "(I)Z"⟩, 63), (⟨"OneCupModel", "plays", "(II)V"⟩, 63), (⟨"OneCupModel", "goesOn", "(I)V"⟩, 63), (⟨"OneCupModel", "allRuns", "()Z"⟩, 63), (⟨"OneCupModel", "laysRun", "(II)Z"⟩, 63), (⟨"OneCupModel", "isRunLaid", "()Z"⟩, 63), (⟨"OneCupModel", "brings", "(I)V"⟩, 63), (⟨"OneCupModel", "sameEnd", "(II)Z"⟩, 63), (⟨"OneCupModel", "meetingsBy", "(I)I"⟩, 63), (⟨"OneCupModel", "gateAt", "(I)I"⟩, 63), (⟨"OneCupModel", "nodes", "()V"⟩, 63), (⟨"OneCupModel", "leads", "(II)Z"⟩, 63)]
theorem lw_r8 : ∀ q ∈ lw_privs_8, lw_okq q := List.forall_mem_cons.mpr ⟨lw_p112, List.forall_mem_cons.mpr ⟨lw_p113, List.forall_mem_cons.mpr ⟨lw_p114, List.forall_mem_cons.mpr ⟨lw_p115, List.forall_mem_cons.mpr ⟨lw_p116, List.forall_mem_cons.mpr ⟨lw_p117, List.forall_mem_cons.mpr ⟨lw_p118, List.forall_mem_cons.mpr ⟨lw_p119, List.forall_mem_cons.mpr ⟨lw_p120, List.forall_mem_cons.mpr ⟨lw_p121, List.forall_mem_cons.mpr ⟨lw_p122, List.forall_mem_cons.mpr ⟨lw_p123, List.forall_mem_cons.mpr ⟨lw_p124, List.forall_mem_cons.mpr ⟨lw_p125, List.forall_mem_cons.mpr ⟨lw_p126, List.forall_mem_cons.mpr ⟨lw_p127, fun _ h => absurd h List.not_mem_nil⟩⟩⟩⟩⟩⟩⟩⟩⟩⟩⟩⟩⟩⟩⟩⟩
theorem lw_p128 : lw_okq (⟨"OneCupModel", "isBolt", "(I)Z"⟩, 63) := ⟨⟨by decide +kernel, by decide +kernel⟩, List.mem_of_getElem? (i := 1320) (by decide +kernel), List.mem_of_getElem? (i := 1953) (by decide +kernel), List.mem_of_getElem? (i := 1954) (by decide +kernel)⟩
theorem lw_p129 : lw_okq (⟨"OneCupModel", "books", "(III)I"⟩, 63) := ⟨⟨by decide +kernel, by decide +kernel⟩, List.mem_of_getElem? (i := 1320) (by decide +kernel), List.mem_of_getElem? (i := 1961) (by decide +kernel), List.mem_of_getElem? (i := 1962) (by decide +kernel)⟩
theorem lw_p130 : lw_okq (⟨"OneCupModel", "pairFor", "(IIII)I"⟩, 63) := ⟨⟨by decide +kernel, by decide +kernel⟩, List.mem_of_getElem? (i := 1320) (by decide +kernel), List.mem_of_getElem? (i := 1965) (by decide +kernel), List.mem_of_getElem? (i := 1966) (by decide +kernel)⟩
def lw_privs_9 : List (MethodName × Nat) := [(⟨"OneCupModel", "isBolt", "(I)Z"⟩, 63), (⟨"OneCupModel", "books", "(III)I"⟩, 63), (⟨"OneCupModel", "pairFor", "(IIII)I"⟩, 63)]
theorem lw_r9 : ∀ q ∈ lw_privs_9, lw_okq q := List.forall_mem_cons.mpr ⟨lw_p128, List.forall_mem_cons.mpr ⟨lw_p129, List.forall_mem_cons.mpr ⟨lw_p130, fun _ h => absurd h List.not_mem_nil⟩⟩⟩
def lw_privs : List (MethodName × Nat) := lw_privs_1 ++ (lw_privs_2 ++ (lw_privs_3 ++ (lw_privs_4 ++ (lw_privs_5 ++ (lw_privs_6 ++ (lw_privs_7 ++ (lw_privs_8 ++ (lw_privs_9))))))))
def lw_tbl : List Cond := k2_sels lw_privs ++ tables_1
theorem lw_privs_ok : ∀ q ∈ lw_privs, lw_okq q := by
  show ∀ q ∈ lw_privs_1 ++ (lw_privs_2 ++ (lw_privs_3 ++ (lw_privs_4 ++ (lw_privs_5 ++ (lw_privs_6 ++ (lw_privs_7 ++ (lw_privs_8 ++ (lw_privs_9)))))))), lw_okq q
  exact List.forall_mem_append.mpr ⟨lw_r1, List.forall_mem_append.mpr ⟨lw_r2, List.forall_mem_append.mpr ⟨lw_r3, List.forall_mem_append.mpr ⟨lw_r4, List.forall_mem_append.mpr ⟨lw_r5, List.forall_mem_append.mpr ⟨lw_r6, List.forall_mem_append.mpr ⟨lw_r7, List.forall_mem_append.mpr ⟨lw_r8, lw_r9⟩⟩⟩⟩⟩⟩⟩⟩
-- ===== end of PART A; then your names; then what follows =====
def RX0 : String := "OneCup$AllRuns"
def TX0 : u_T := fun k => match k with
  | 0 => ("OneCup$AllRuns", "gone", "Z", false)
  | 1 => ("OneCup$AllRuns", "spent", "Z", false)
  | 2 => ("OneCup$AllRuns", "states", "I", false)
  | 3 => ("OneCup$AllRuns", "endCount", "I", false)
  | 4 => ("OneCup$AllRuns", "ledHand", "[I", true)
  | 5 => ("OneCup$AllRuns", "ledLength", "I", false)
  | 6 => ("OneCup$AllRuns", "waiting", "I", false)
  | 7 => ("OneCup$AllRuns", "path", "[I", true)
  | 8 => ("OneCup$AllRuns", "pathLength", "I", false)
  | 9 => ("OneCup$AllRuns", "state", "[I", true)
  | 10 => ("OneCup$AllRuns", "endState", "[I", true)
  | _ => ("OneCup$AllRuns", "endStuck", "[I", true)
def tyX0 : Nat → FieldType := fun k => match k with
  | 0 => .boolean
  | 1 => .boolean
  | 2 => .int
  | 3 => .int
  | 4 => .array .int
  | 5 => .int
  | 6 => .int
  | 7 => .array .int
  | 8 => .int
  | 9 => .array .int
  | 10 => .array .int
  | _ => .array .int
abbrev wsX00 : List Cond := u_ws RX0 TX0 12
theorem nmX0 : ∀ a, a < 12 → ∀ b, b < 12 → a ≠ b → (TX0 a).2.1 ≠ (TX0 b).2.1 := by decide +kernel
theorem tyX0_ok : ∀ k, k < 12 → parseFieldDescriptor (TX0 k).2.2.1 = some (tyX0 k) := by decide +kernel
abbrev cX0_init : ByteArray := prog_2_method_1_code
def yX0_init : MethodName := ⟨RX0, "<init>", "()V"⟩
abbrev cX0_explore : ByteArray := prog_2_method_2_code
def yX0_explore : MethodName := ⟨RX0, "explore", "(LOneCup$Script;LOneCup$Machine;LOneCup$Visited;)V"⟩
abbrev cX0_goOnFrom : ByteArray := prog_2_method_3_code
def yX0_goOnFrom : MethodName := ⟨RX0, "goOnFrom", "(ILOneCup$Machine;LOneCup$Visited;)V"⟩
abbrev cX0_noteEnd : ByteArray := prog_2_method_4_code
def yX0_noteEnd : MethodName := ⟨RX0, "noteEnd", "(IILOneCup$Visited;)V"⟩
abbrev cX0_haveSameCells : ByteArray := prog_2_method_5_code
def yX0_haveSameCells : MethodName := ⟨RX0, "haveSameCells", "(LOneCup$Visited;II)Z"⟩
abbrev cX0_tellWaiting : ByteArray := prog_2_method_6_code
def yX0_tellWaiting : MethodName := ⟨RX0, "tellWaiting", "()I"⟩
def RX1 : String := "OneCup$Book"
def TX1 : u_T := fun k => match k with
  | 0 => ("OneCup$Book", "n", "I", false)
  | 1 => ("OneCup$Book", "logs", "I", false)
  | 2 => ("OneCup$Book", "low", "[I", true)
  | 3 => ("OneCup$Book", "high", "[I", true)
  | 4 => ("OneCup$Book", "about", "[I", true)
  | 5 => ("OneCup$Book", "times", "[I", true)
  | 6 => ("OneCup$Book", "from", "[I", true)
  | 7 => ("OneCup$Book", "till", "[I", true)
  | _ => ("OneCup$Book", "marked", "[I", true)
def tyX1 : Nat → FieldType := fun k => match k with
  | 0 => .int
  | 1 => .int
  | 2 => .array .int
  | 3 => .array .int
  | 4 => .array .int
  | 5 => .array .int
  | 6 => .array .int
  | 7 => .array .int
  | _ => .array .int
abbrev wsX10 : List Cond := u_ws RX1 TX1 9
theorem nmX1 : ∀ a, a < 9 → ∀ b, b < 9 → a ≠ b → (TX1 a).2.1 ≠ (TX1 b).2.1 := by decide +kernel
theorem tyX1_ok : ∀ k, k < 9 → parseFieldDescriptor (TX1 k).2.2.1 = some (tyX1 k) := by decide +kernel
abbrev cX1_init : ByteArray := prog_3_method_1_code
def yX1_init : MethodName := ⟨RX1, "<init>", "()V"⟩
abbrev cX1_copyFrom : ByteArray := prog_3_method_2_code
def yX1_copyFrom : MethodName := ⟨RX1, "copyFrom", "(LOneCup$Book;)V"⟩
abbrev cX1_enter : ByteArray := prog_3_method_3_code
def yX1_enter : MethodName := ⟨RX1, "enter", "(LOneCup$Log;LOneCup$Clocks;)I"⟩
abbrev cX1_put : ByteArray := prog_3_method_4_code
def yX1_put : MethodName := ⟨RX1, "put", "(LOneCup$Log;III)I"⟩
abbrev cX1_countLog : ByteArray := prog_3_method_5_code
def yX1_countLog : MethodName := ⟨RX1, "countLog", "(I)V"⟩
def RX2 : String := "OneCup$Clocks"
def TX2 : u_T := fun k => match k with
  | 0 => ("OneCup$Clocks", "clock", "[I", true)
  | 1 => ("OneCup$Clocks", "steps", "[I", true)
  | 2 => ("OneCup$Clocks", "laws", "I", false)
  | _ => ("OneCup$Clocks", "marks", "I", false)
def tyX2 : Nat → FieldType := fun k => match k with
  | 0 => .array .int
  | 1 => .array .int
  | 2 => .int
  | _ => .int
abbrev wsX20 : List Cond := u_ws RX2 TX2 4
theorem nmX2 : ∀ a, a < 4 → ∀ b, b < 4 → a ≠ b → (TX2 a).2.1 ≠ (TX2 b).2.1 := by decide +kernel
theorem tyX2_ok : ∀ k, k < 4 → parseFieldDescriptor (TX2 k).2.2.1 = some (tyX2 k) := by decide +kernel
abbrev cX2_init : ByteArray := prog_4_method_1_code
def yX2_init : MethodName := ⟨RX2, "<init>", "()V"⟩
abbrev cX2_fill : ByteArray := prog_4_method_2_code
def yX2_fill : MethodName := ⟨RX2, "fill", "(LOneCup$Log;LOneCup$Links;III)V"⟩
abbrev cX2_takeIn : ByteArray := prog_4_method_3_code
def yX2_takeIn : MethodName := ⟨RX2, "takeIn", "(II)V"⟩
abbrev cX2_orders : ByteArray := prog_4_method_4_code
def yX2_orders : MethodName := ⟨RX2, "orders", "(I)Z"⟩
abbrev cX2_isMarked : ByteArray := prog_4_method_5_code
def yX2_isMarked : MethodName := ⟨RX2, "isMarked", "(I)Z"⟩
abbrev cX2_ownAhead : ByteArray := prog_4_method_6_code
def yX2_ownAhead : MethodName := ⟨RX2, "ownAhead", "(LOneCup$Log;LOneCup$Links;I)I"⟩
abbrev cX2_crossAhead : ByteArray := prog_4_method_7_code
def yX2_crossAhead : MethodName := ⟨RX2, "crossAhead", "(LOneCup$Log;LOneCup$Links;I)I"⟩
abbrev cX2_isBefore : ByteArray := prog_4_method_8_code
def yX2_isBefore : MethodName := ⟨RX2, "isBefore", "(LOneCup$Log;II)Z"⟩
abbrev cX2_isMeeting : ByteArray := prog_4_method_9_code
def yX2_isMeeting : MethodName := ⟨RX2, "isMeeting", "(LOneCup$Log;II)Z"⟩
abbrev cX2_countBehind : ByteArray := prog_4_method_10_code
def yX2_countBehind : MethodName := ⟨RX2, "countBehind", "(LOneCup$Log;LOneCup$Links;I)I"⟩
abbrev cX2_countRivals : ByteArray := prog_4_method_11_code
def yX2_countRivals : MethodName := ⟨RX2, "countRivals", "(II)I"⟩
abbrev cX2_countAll : ByteArray := prog_4_method_12_code
def yX2_countAll : MethodName := ⟨RX2, "countAll", "(LOneCup$Log;LOneCup$Links;I)I"⟩
abbrev cX2_aheadOf : ByteArray := prog_4_method_13_code
def yX2_aheadOf : MethodName := ⟨RX2, "aheadOf", "(LOneCup$Log;II)I"⟩
abbrev cX2_wayAt : ByteArray := prog_4_method_14_code
def yX2_wayAt : MethodName := ⟨RX2, "wayAt", "(LOneCup$Log;LOneCup$Links;III)I"⟩
abbrev cX2_nearest : ByteArray := prog_4_method_15_code
def yX2_nearest : MethodName := ⟨RX2, "nearest", "(II)I"⟩
def RX3 : String := "OneCup$Evening"
def TX3 : u_T := fun k => match k with
  | 0 => ("OneCup$Evening", "script", "LOneCup$Script;", true)
  | 1 => ("OneCup$Evening", "log", "LOneCup$Log;", true)
  | 2 => ("OneCup$Evening", "book", "LOneCup$Book;", true)
  | 3 => ("OneCup$Evening", "laws", "I", false)
  | 4 => ("OneCup$Evening", "runCount", "I", false)
  | _ => ("OneCup$Evening", "idle", "I", false)
def tyX3 : Nat → FieldType := fun k => match k with
  | 0 => .object "OneCup$Script"
  | 1 => .object "OneCup$Log"
  | 2 => .object "OneCup$Book"
  | 3 => .int
  | 4 => .int
  | _ => .int
abbrev wsX30 : List Cond := u_ws RX3 TX3 6
theorem nmX3 : ∀ a, a < 6 → ∀ b, b < 6 → a ≠ b → (TX3 a).2.1 ≠ (TX3 b).2.1 := by decide +kernel
theorem tyX3_ok : ∀ k, k < 6 → parseFieldDescriptor (TX3 k).2.2.1 = some (tyX3 k) := by decide +kernel
abbrev cX3_init : ByteArray := prog_5_method_1_code
def yX3_init : MethodName := ⟨RX3, "<init>", "()V"⟩
abbrev cX3_copyFrom : ByteArray := prog_5_method_2_code
def yX3_copyFrom : MethodName := ⟨RX3, "copyFrom", "(LOneCup$Evening;)V"⟩
def RX4 : String := "OneCup$Links"
def TX4 : u_T := fun k => match k with
  | 0 => ("OneCup$Links", "own", "[I", true)
  | 1 => ("OneCup$Links", "cross", "[I", true)
  | 2 => ("OneCup$Links", "previous", "[I", true)
  | 3 => ("OneCup$Links", "following", "[I", true)
  | 4 => ("OneCup$Links", "saw", "[I", true)
  | 5 => ("OneCup$Links", "ofHand", "[I", true)
  | 6 => ("OneCup$Links", "total", "[I", true)
  | 7 => ("OneCup$Links", "startOf", "[I", true)
  | 8 => ("OneCup$Links", "firstOf", "[I", true)
  | 9 => ("OneCup$Links", "lastOf", "[I", true)
  | 10 => ("OneCup$Links", "lastWrite", "[I", true)
  | 11 => ("OneCup$Links", "lastTurn", "[I", true)
  | 12 => ("OneCup$Links", "touches", "[I", true)
  | 13 => ("OneCup$Links", "passed", "[I", true)
  | 14 => ("OneCup$Links", "marksUsed", "I", false)
  | 15 => ("OneCup$Links", "cellsTouched", "I", false)
  | 16 => ("OneCup$Links", "node", "[I", true)
  | 17 => ("OneCup$Links", "within", "[I", true)
  | _ => ("OneCup$Links", "reached", "[I", true)
def tyX4 : Nat → FieldType := fun k => match k with
  | 0 => .array .int
  | 1 => .array .int
  | 2 => .array .int
  | 3 => .array .int
  | 4 => .array .int
  | 5 => .array .int
  | 6 => .array .int
  | 7 => .array .int
  | 8 => .array .int
  | 9 => .array .int
  | 10 => .array .int
  | 11 => .array .int
  | 12 => .array .int
  | 13 => .array .int
  | 14 => .int
  | 15 => .int
  | 16 => .array .int
  | 17 => .array .int
  | _ => .array .int
abbrev wsX40 : List Cond := u_ws RX4 TX4 19
theorem nmX4 : ∀ a, a < 19 → ∀ b, b < 19 → a ≠ b → (TX4 a).2.1 ≠ (TX4 b).2.1 := by decide +kernel
theorem tyX4_ok : ∀ k, k < 19 → parseFieldDescriptor (TX4 k).2.2.1 = some (tyX4 k) := by decide +kernel
abbrev cX4_init : ByteArray := prog_6_method_1_code
def yX4_init : MethodName := ⟨RX4, "<init>", "()V"⟩
abbrev cX4_build : ByteArray := prog_6_method_2_code
def yX4_build : MethodName := ⟨RX4, "build", "(LOneCup$Log;)V"⟩
abbrev cX4_linkOwn : ByteArray := prog_6_method_3_code
def yX4_linkOwn : MethodName := ⟨RX4, "linkOwn", "(LOneCup$Log;I)V"⟩
abbrev cX4_linkPrevious : ByteArray := prog_6_method_4_code
def yX4_linkPrevious : MethodName := ⟨RX4, "linkPrevious", "(LOneCup$Log;I)V"⟩
abbrev cX4_keyOf : ByteArray := prog_6_method_5_code
def yX4_keyOf : MethodName := ⟨RX4, "keyOf", "(II)I"⟩
abbrev cX4_linkCross : ByteArray := prog_6_method_6_code
def yX4_linkCross : MethodName := ⟨RX4, "linkCross", "(LOneCup$Log;I)V"⟩
abbrev cX4_sendFor : ByteArray := prog_6_method_7_code
def yX4_sendFor : MethodName := ⟨RX4, "sendFor", "(II)I"⟩
abbrev cX4_linkNode : ByteArray := prog_6_method_8_code
def yX4_linkNode : MethodName := ⟨RX4, "linkNode", "(LOneCup$Log;I)V"⟩
abbrev cX4_isOnRing : ByteArray := prog_6_method_9_code
def yX4_isOnRing : MethodName := ⟨RX4, "isOnRing", "(LOneCup$Log;I)Z"⟩
abbrev cX4_leadsTo : ByteArray := prog_6_method_10_code
def yX4_leadsTo : MethodName := ⟨RX4, "leadsTo", "(LOneCup$Log;II)Z"⟩
abbrev cX4_isEdge : ByteArray := prog_6_method_11_code
def yX4_isEdge : MethodName := ⟨RX4, "isEdge", "(II)Z"⟩
def RX5 : String := "OneCup$Log"
def TX5 : u_T := fun k => match k with
  | 0 => ("OneCup$Log", "n", "I", false)
  | 1 => ("OneCup$Log", "hand", "[I", true)
  | 2 => ("OneCup$Log", "sort", "[I", true)
  | 3 => ("OneCup$Log", "arg", "[I", true)
  | 4 => ("OneCup$Log", "value", "[I", true)
  | 5 => ("OneCup$Log", "place", "[I", true)
  | 6 => ("OneCup$Log", "ahead", "[I", true)
  | 7 => ("OneCup$Log", "bolts", "[I", true)
  | 8 => ("OneCup$Log", "cells", "[I", true)
  | 9 => ("OneCup$Log", "stuck", "I", false)
  | 10 => ("OneCup$Log", "joined", "Z", false)
  | 11 => ("OneCup$Log", "done", "[I", true)
  | 12 => ("OneCup$Log", "entered", "[I", true)
  | 13 => ("OneCup$Log", "openCount", "[I", true)
  | _ => ("OneCup$Log", "openGate", "[I", true)
def tyX5 : Nat → FieldType := fun k => match k with
  | 0 => .int
  | 1 => .array .int
  | 2 => .array .int
  | 3 => .array .int
  | 4 => .array .int
  | 5 => .array .int
  | 6 => .array .int
  | 7 => .array .int
  | 8 => .array .int
  | 9 => .int
  | 10 => .boolean
  | 11 => .array .int
  | 12 => .array .int
  | 13 => .array .int
  | _ => .array .int
abbrev wsX50 : List Cond := u_ws RX5 TX5 15
theorem nmX5 : ∀ a, a < 15 → ∀ b, b < 15 → a ≠ b → (TX5 a).2.1 ≠ (TX5 b).2.1 := by decide +kernel
theorem tyX5_ok : ∀ k, k < 15 → parseFieldDescriptor (TX5 k).2.2.1 = some (tyX5 k) := by decide +kernel
abbrev cX5_init : ByteArray := prog_7_method_1_code
def yX5_init : MethodName := ⟨RX5, "<init>", "()V"⟩
abbrev cX5_clear : ByteArray := prog_7_method_2_code
def yX5_clear : MethodName := ⟨RX5, "clear", "()V"⟩
abbrev cX5_copyFrom : ByteArray := prog_7_method_3_code
def yX5_copyFrom : MethodName := ⟨RX5, "copyFrom", "(LOneCup$Log;)V"⟩
abbrev cX5_add : ByteArray := prog_7_method_4_code
def yX5_add : MethodName := ⟨RX5, "add", "(ILOneCup$Script;ILOneCup$Machine;)V"⟩
abbrev cX5_enterGate : ByteArray := prog_7_method_5_code
def yX5_enterGate : MethodName := ⟨RX5, "enterGate", "(I)I"⟩
abbrev cX5_leaveGate : ByteArray := prog_7_method_6_code
def yX5_leaveGate : MethodName := ⟨RX5, "leaveGate", "(I)I"⟩
abbrev cX5_close : ByteArray := prog_7_method_7_code
def yX5_close : MethodName := ⟨RX5, "close", "(LOneCup$Machine;)V"⟩
abbrev cX5_isTouch : ByteArray := prog_7_method_8_code
def yX5_isTouch : MethodName := ⟨RX5, "isTouch", "(I)Z"⟩
abbrev cX5_isBoltAct : ByteArray := prog_7_method_9_code
def yX5_isBoltAct : MethodName := ⟨RX5, "isBoltAct", "(I)Z"⟩
abbrev cX5_areRivals : ByteArray := prog_7_method_10_code
def yX5_areRivals : MethodName := ⟨RX5, "areRivals", "(II)Z"⟩
def RX6 : String := "OneCup$Machine"
def TX6 : u_T := fun k => match k with
  | 0 => ("OneCup$Machine", "cells", "[I", true)
  | 1 => ("OneCup$Machine", "script", "LOneCup$Script;", false)
  | 2 => ("OneCup$Machine", "next", "[I", true)
  | 3 => ("OneCup$Machine", "moved", "[I", true)
  | 4 => ("OneCup$Machine", "holder", "[I", true)
  | 5 => ("OneCup$Machine", "notes", "[I", true)
  | _ => ("OneCup$Machine", "started", "I", false)
def tyX6 : Nat → FieldType := fun k => match k with
  | 0 => .array .int
  | 1 => .object "OneCup$Script"
  | 2 => .array .int
  | 3 => .array .int
  | 4 => .array .int
  | 5 => .array .int
  | _ => .int
abbrev wsX60 : List Cond := u_ws RX6 TX6 7
theorem nmX6 : ∀ a, a < 7 → ∀ b, b < 7 → a ≠ b → (TX6 a).2.1 ≠ (TX6 b).2.1 := by decide +kernel
theorem tyX6_ok : ∀ k, k < 7 → parseFieldDescriptor (TX6 k).2.2.1 = some (tyX6 k) := by decide +kernel
abbrev cX6_init : ByteArray := prog_8_method_1_code
def yX6_init : MethodName := ⟨RX6, "<init>", "()V"⟩
abbrev cX6_begin : ByteArray := prog_8_method_2_code
def yX6_begin : MethodName := ⟨RX6, "begin", "(LOneCup$Script;)V"⟩
abbrev cX6_isStarted : ByteArray := prog_8_method_3_code
def yX6_isStarted : MethodName := ⟨RX6, "isStarted", "(I)Z"⟩
abbrev cX6_hasCode : ByteArray := prog_8_method_4_code
def yX6_hasCode : MethodName := ⟨RX6, "hasCode", "(I)Z"⟩
abbrev cX6_can : ByteArray := prog_8_method_5_code
def yX6_can : MethodName := ⟨RX6, "can", "(I)Z"⟩
abbrev cX6_leastThatCan : ByteArray := prog_8_method_6_code
def yX6_leastThatCan : MethodName := ⟨RX6, "leastThatCan", "()I"⟩
abbrev cX6_ableBits : ByteArray := prog_8_method_7_code
def yX6_ableBits : MethodName := ⟨RX6, "ableBits", "()I"⟩
abbrev cX6_go : ByteArray := prog_8_method_8_code
def yX6_go : MethodName := ⟨RX6, "go", "(I)I"⟩
abbrev cX6_look : ByteArray := prog_8_method_9_code
def yX6_look : MethodName := ⟨RX6, "look", "(III)V"⟩
abbrev cX6_goTillAct : ByteArray := prog_8_method_10_code
def yX6_goTillAct : MethodName := ⟨RX6, "goTillAct", "(I)V"⟩
abbrev cX6_finish : ByteArray := prog_8_method_11_code
def yX6_finish : MethodName := ⟨RX6, "finish", "()V"⟩
abbrev cX6_heldBy : ByteArray := prog_8_method_12_code
def yX6_heldBy : MethodName := ⟨RX6, "heldBy", "(I)I"⟩
abbrev cX6_stuckBits : ByteArray := prog_8_method_13_code
def yX6_stuckBits : MethodName := ⟨RX6, "stuckBits", "()I"⟩
abbrev cX6_packInto : ByteArray := prog_8_method_14_code
def yX6_packInto : MethodName := ⟨RX6, "packInto", "([I)V"⟩
abbrev cX6_unpack : ByteArray := prog_8_method_15_code
def yX6_unpack : MethodName := ⟨RX6, "unpack", "([I)V"⟩
def RX7 : String := "OneCup$Orders"
def TX7 : u_T := fun k => match k with
  | 0 => ("OneCup$Orders", "shownHand", "[I", true)
  | 1 => ("OneCup$Orders", "shownLength", "I", false)
  | 2 => ("OneCup$Orders", "has", "Z", false)
  | 3 => ("OneCup$Orders", "one", "I", false)
  | 4 => ("OneCup$Orders", "two", "I", false)
  | 5 => ("OneCup$Orders", "done", "[I", true)
  | 6 => ("OneCup$Orders", "wrote", "[I", true)
  | _ => ("OneCup$Orders", "state", "[I", true)
def tyX7 : Nat → FieldType := fun k => match k with
  | 0 => .array .int
  | 1 => .int
  | 2 => .boolean
  | 3 => .int
  | 4 => .int
  | 5 => .array .int
  | 6 => .array .int
  | _ => .array .int
abbrev wsX70 : List Cond := u_ws RX7 TX7 8
theorem nmX7 : ∀ a, a < 8 → ∀ b, b < 8 → a ≠ b → (TX7 a).2.1 ≠ (TX7 b).2.1 := by decide +kernel
theorem tyX7_ok : ∀ k, k < 8 → parseFieldDescriptor (TX7 k).2.2.1 = some (tyX7 k) := by decide +kernel
abbrev cX7_init : ByteArray := prog_9_method_1_code
def yX7_init : MethodName := ⟨RX7, "<init>", "()V"⟩
abbrev cX7_seek : ByteArray := prog_9_method_2_code
def yX7_seek : MethodName := ⟨RX7, "seek", "(LOneCup$Log;LOneCup$Links;LOneCup$Visited;II)I"⟩
abbrev cX7_show : ByteArray := prog_9_method_3_code
def yX7_show : MethodName := ⟨RX7, "show", "(LOneCup$Visited;III)I"⟩
abbrev cX7_pack : ByteArray := prog_9_method_4_code
def yX7_pack : MethodName := ⟨RX7, "pack", "()V"⟩
abbrev cX7_unpack : ByteArray := prog_9_method_5_code
def yX7_unpack : MethodName := ⟨RX7, "unpack", "()V"⟩
abbrev cX7_goOn : ByteArray := prog_9_method_6_code
def yX7_goOn : MethodName := ⟨RX7, "goOn", "(LOneCup$Log;LOneCup$Links;I)V"⟩
abbrev cX7_isDone : ByteArray := prog_9_method_7_code
def yX7_isDone : MethodName := ⟨RX7, "isDone", "(LOneCup$Log;I)Z"⟩
abbrev cX7_isStarted : ByteArray := prog_9_method_8_code
def yX7_isStarted : MethodName := ⟨RX7, "isStarted", "(LOneCup$Log;LOneCup$Links;I)Z"⟩
abbrev cX7_isBehind : ByteArray := prog_9_method_9_code
def yX7_isBehind : MethodName := ⟨RX7, "isBehind", "(LOneCup$Log;LOneCup$Links;II)Z"⟩
abbrev cX7_mayGo : ByteArray := prog_9_method_10_code
def yX7_mayGo : MethodName := ⟨RX7, "mayGo", "(LOneCup$Log;LOneCup$Links;I)Z"⟩
abbrev cX7_isFree : ByteArray := prog_9_method_11_code
def yX7_isFree : MethodName := ⟨RX7, "isFree", "(LOneCup$Log;LOneCup$Links;I)Z"⟩
def RX8 : String := "OneCup$Reader"
def TX8 : u_T := fun k => match k with
  | 0 => ("OneCup$Reader", "tape", "[B", true)
  | 1 => ("OneCup$Reader", "length", "I", false)
  | 2 => ("OneCup$Reader", "draft", "LOneCup$Script;", true)
  | 3 => ("OneCup$Reader", "fault", "I", false)
  | 4 => ("OneCup$Reader", "faultPlace", "I", false)
  | 5 => ("OneCup$Reader", "at", "I", false)
  | 6 => ("OneCup$Reader", "token", "I", false)
  | 7 => ("OneCup$Reader", "place", "I", false)
  | 8 => ("OneCup$Reader", "number", "I", false)
  | 9 => ("OneCup$Reader", "depth", "I", false)
  | 10 => ("OneCup$Reader", "hand", "I", false)
  | 11 => ("OneCup$Reader", "openStep", "[I", true)
  | 12 => ("OneCup$Reader", "openFrom", "[I", true)
  | 13 => ("OneCup$Reader", "openNumber", "[I", true)
  | _ => ("OneCup$Reader", "openPlace", "[I", true)
def tyX8 : Nat → FieldType := fun k => match k with
  | 0 => .array .byte
  | 1 => .int
  | 2 => .object "OneCup$Script"
  | 3 => .int
  | 4 => .int
  | 5 => .int
  | 6 => .int
  | 7 => .int
  | 8 => .int
  | 9 => .int
  | 10 => .int
  | 11 => .array .int
  | 12 => .array .int
  | 13 => .array .int
  | _ => .array .int
abbrev wsX80 : List Cond := u_ws RX8 TX8 15
theorem nmX8 : ∀ a, a < 15 → ∀ b, b < 15 → a ≠ b → (TX8 a).2.1 ≠ (TX8 b).2.1 := by decide +kernel
theorem tyX8_ok : ∀ k, k < 15 → parseFieldDescriptor (TX8 k).2.2.1 = some (tyX8 k) := by decide +kernel
abbrev cX8_init : ByteArray := prog_10_method_1_code
def yX8_init : MethodName := ⟨RX8, "<init>", "()V"⟩
abbrev cX8_put : ByteArray := prog_10_method_2_code
def yX8_put : MethodName := ⟨RX8, "put", "(I)V"⟩
abbrev cX8_parse : ByteArray := prog_10_method_3_code
def yX8_parse : MethodName := ⟨RX8, "parse", "()Z"⟩
abbrev cX8_fail : ByteArray := prog_10_method_4_code
def yX8_fail : MethodName := ⟨RX8, "fail", "(I)V"⟩
abbrev cX8_byteAt : ByteArray := prog_10_method_5_code
def yX8_byteAt : MethodName := ⟨RX8, "byteAt", "(I)I"⟩
abbrev cX8_isLetter : ByteArray := prog_10_method_6_code
def yX8_isLetter : MethodName := ⟨RX8, "isLetter", "(I)Z"⟩
abbrev cX8_isDigit : ByteArray := prog_10_method_7_code
def yX8_isDigit : MethodName := ⟨RX8, "isDigit", "(I)Z"⟩
abbrev cX8_isSign : ByteArray := prog_10_method_8_code
def yX8_isSign : MethodName := ⟨RX8, "isSign", "(I)Z"⟩
abbrev cX8_advance : ByteArray := prog_10_method_9_code
def yX8_advance : MethodName := ⟨RX8, "advance", "()V"⟩
abbrev cX8_isWord : ByteArray := prog_10_method_10_code
def yX8_isWord : MethodName := ⟨RX8, "isWord", "(Ljava/lang/String;)Z"⟩
abbrev cX8_pass : ByteArray := prog_10_method_11_code
def yX8_pass : MethodName := ⟨RX8, "pass", "(I)V"⟩
abbrev cX8_passLetter : ByteArray := prog_10_method_12_code
def yX8_passLetter : MethodName := ⟨RX8, "passLetter", "(II)I"⟩
abbrev cX8_numberHere : ByteArray := prog_10_method_13_code
def yX8_numberHere : MethodName := ⟨RX8, "numberHere", "(II)I"⟩
abbrev cX8_passWithin : ByteArray := prog_10_method_14_code
def yX8_passWithin : MethodName := ⟨RX8, "passWithin", "(II)I"⟩
abbrev cX8_readHead : ByteArray := prog_10_method_15_code
def yX8_readHead : MethodName := ⟨RX8, "readHead", "()V"⟩
abbrev cX8_openBrace : ByteArray := prog_10_method_16_code
def yX8_openBrace : MethodName := ⟨RX8, "openBrace", "(IIII)V"⟩
abbrev cX8_closeBrace : ByteArray := prog_10_method_17_code
def yX8_closeBrace : MethodName := ⟨RX8, "closeBrace", "()V"⟩
abbrev cX8_readStep : ByteArray := prog_10_method_18_code
def yX8_readStep : MethodName := ⟨RX8, "readStep", "()V"⟩
abbrev cX8_stepOfWord : ByteArray := prog_10_method_19_code
def yX8_stepOfWord : MethodName := ⟨RX8, "stepOfWord", "()I"⟩
abbrev cX8_readOpening : ByteArray := prog_10_method_20_code
def yX8_readOpening : MethodName := ⟨RX8, "readOpening", "(II)V"⟩
abbrev cX8_readPlain : ByteArray := prog_10_method_21_code
def yX8_readPlain : MethodName := ⟨RX8, "readPlain", "(II)V"⟩
def RX9 : String := "OneCup$Script"
def TX9 : u_T := fun k => match k with
  | 0 => ("OneCup$Script", "sort", "[I", true)
  | 1 => ("OneCup$Script", "arg", "[I", true)
  | 2 => ("OneCup$Script", "number", "[I", true)
  | 3 => ("OneCup$Script", "kind", "[I", true)
  | 4 => ("OneCup$Script", "skip", "[I", true)
  | 5 => ("OneCup$Script", "place", "[I", true)
  | 6 => ("OneCup$Script", "count", "[I", true)
  | _ => ("OneCup$Script", "told", "I", false)
def tyX9 : Nat → FieldType := fun k => match k with
  | 0 => .array .int
  | 1 => .array .int
  | 2 => .array .int
  | 3 => .array .int
  | 4 => .array .int
  | 5 => .array .int
  | 6 => .array .int
  | _ => .int
abbrev wsX90 : List Cond := u_ws RX9 TX9 8
theorem nmX9 : ∀ a, a < 8 → ∀ b, b < 8 → a ≠ b → (TX9 a).2.1 ≠ (TX9 b).2.1 := by decide +kernel
theorem tyX9_ok : ∀ k, k < 8 → parseFieldDescriptor (TX9 k).2.2.1 = some (tyX9 k) := by decide +kernel
abbrev cX9_init : ByteArray := prog_11_method_1_code
def yX9_init : MethodName := ⟨RX9, "<init>", "()V"⟩
abbrev cX9_clear : ByteArray := prog_11_method_2_code
def yX9_clear : MethodName := ⟨RX9, "clear", "()V"⟩
abbrev cX9_copyFrom : ByteArray := prog_11_method_3_code
def yX9_copyFrom : MethodName := ⟨RX9, "copyFrom", "(LOneCup$Script;)V"⟩
abbrev cX9_add : ByteArray := prog_11_method_4_code
def yX9_add : MethodName := ⟨RX9, "add", "(IIIIII)V"⟩
abbrev cX9_countOf : ByteArray := prog_11_method_5_code
def yX9_countOf : MethodName := ⟨RX9, "countOf", "(I)I"⟩
abbrev cX9_closeIf : ByteArray := prog_11_method_6_code
def yX9_closeIf : MethodName := ⟨RX9, "closeIf", "(II)V"⟩
abbrev cX9_repeat : ByteArray := prog_11_method_7_code
def yX9_repeat : MethodName := ⟨RX9, "repeat", "(III)V"⟩
abbrev cX9_addAgain : ByteArray := prog_11_method_8_code
def yX9_addAgain : MethodName := ⟨RX9, "addAgain", "(II)V"⟩
def RX10 : String := "OneCup$Visited"
def TX10 : u_T := fun k => match k with
  | 0 => ("OneCup$Visited", "n", "I", false)
  | 1 => ("OneCup$Visited", "width", "I", false)
  | 2 => ("OneCup$Visited", "states", "[I", true)
  | 3 => ("OneCup$Visited", "parent", "[I", true)
  | 4 => ("OneCup$Visited", "hand", "[I", true)
  | _ => ("OneCup$Visited", "table", "[I", true)
def tyX10 : Nat → FieldType := fun k => match k with
  | 0 => .int
  | 1 => .int
  | 2 => .array .int
  | 3 => .array .int
  | 4 => .array .int
  | _ => .array .int
abbrev wsX100 : List Cond := u_ws RX10 TX10 6
theorem nmX10 : ∀ a, a < 6 → ∀ b, b < 6 → a ≠ b → (TX10 a).2.1 ≠ (TX10 b).2.1 := by decide +kernel
theorem tyX10_ok : ∀ k, k < 6 → parseFieldDescriptor (TX10 k).2.2.1 = some (tyX10 k) := by decide +kernel
abbrev cX10_init : ByteArray := prog_12_method_1_code
def yX10_init : MethodName := ⟨RX10, "<init>", "()V"⟩
abbrev cX10_clear : ByteArray := prog_12_method_2_code
def yX10_clear : MethodName := ⟨RX10, "clear", "(I)V"⟩
abbrev cX10_offer : ByteArray := prog_12_method_3_code
def yX10_offer : MethodName := ⟨RX10, "offer", "([III)I"⟩
abbrev cX10_hashOf : ByteArray := prog_12_method_4_code
def yX10_hashOf : MethodName := ⟨RX10, "hashOf", "([I)I"⟩
abbrev cX10_isSame : ByteArray := prog_12_method_5_code
def yX10_isSame : MethodName := ⟨RX10, "isSame", "(I[I)Z"⟩
abbrev cX10_load : ByteArray := prog_12_method_6_code
def yX10_load : MethodName := ⟨RX10, "load", "(I[I)V"⟩
abbrev cX10_partOf : ByteArray := prog_12_method_7_code
def yX10_partOf : MethodName := ⟨RX10, "partOf", "(II)I"⟩
abbrev cX10_pathTo : ByteArray := prog_12_method_8_code
def yX10_pathTo : MethodName := ⟨RX10, "pathTo", "(I[I)I"⟩
def RX11 : String := "OneCup"
def TX11 : u_T := fun k => match k with
  | 0 => ("OneCup", "reader", "LOneCup$Reader;", true)
  | 1 => ("OneCup", "now", "LOneCup$Evening;", true)
  | 2 => ("OneCup", "images", "[LOneCup$Evening;", true)
  | 3 => ("OneCup", "links", "LOneCup$Links;", true)
  | 4 => ("OneCup", "clocks", "LOneCup$Clocks;", true)
  | 5 => ("OneCup", "trial", "LOneCup$Clocks;", true)
  | 6 => ("OneCup", "clocksStand", "Z", false)
  | 7 => ("OneCup", "machine", "LOneCup$Machine;", true)
  | 8 => ("OneCup", "other", "LOneCup$Machine;", true)
  | 9 => ("OneCup", "visited", "LOneCup$Visited;", true)
  | 10 => ("OneCup", "orders", "LOneCup$Orders;", true)
  | 11 => ("OneCup", "allRuns", "LOneCup$AllRuns;", true)
  | 12 => ("OneCup", "rowWidth", "[I", true)
  | 13 => ("OneCup", "rowLength", "[I", true)
  | 14 => ("OneCup", "rowNumbers", "[J", true)
  | 15 => ("OneCup", "refusals", "I", false)
  | _ => ("OneCup", "statesGone", "I", false)
def tyX11 : Nat → FieldType := fun k => match k with
  | 0 => .object "OneCup$Reader"
  | 1 => .object "OneCup$Evening"
  | 2 => .array (.object "OneCup$Evening")
  | 3 => .object "OneCup$Links"
  | 4 => .object "OneCup$Clocks"
  | 5 => .object "OneCup$Clocks"
  | 6 => .boolean
  | 7 => .object "OneCup$Machine"
  | 8 => .object "OneCup$Machine"
  | 9 => .object "OneCup$Visited"
  | 10 => .object "OneCup$Orders"
  | 11 => .object "OneCup$AllRuns"
  | 12 => .array .int
  | 13 => .array .int
  | 14 => .array .long
  | 15 => .int
  | _ => .int
abbrev wsX110 : List Cond := u_ws RX11 TX11 17
theorem nmX11 : ∀ a, a < 17 → ∀ b, b < 17 → a ≠ b → (TX11 a).2.1 ≠ (TX11 b).2.1 := by decide +kernel
theorem tyX11_ok : ∀ k, k < 17 → parseFieldDescriptor (TX11 k).2.2.1 = some (tyX11 k) := by decide +kernel
abbrev cX11_init : ByteArray := prog_1_method_1_code
def yX11_init : MethodName := ⟨RX11, "<init>", "()V"⟩
abbrev cX11_feed : ByteArray := prog_1_method_2_code
def yX11_feed : MethodName := ⟨RX11, "feed", "(IIIII)I"⟩
abbrev cX11_end : ByteArray := prog_1_method_3_code
def yX11_end : MethodName := ⟨RX11, "end", "(I)I"⟩
abbrev cX11_text : ByteArray := prog_1_method_4_code
def yX11_text : MethodName := ⟨RX11, "text", "()I"⟩
abbrev cX11_fault : ByteArray := prog_1_method_5_code
def yX11_fault : MethodName := ⟨RX11, "fault", "(I)I"⟩
abbrev cX11_run : ByteArray := prog_1_method_6_code
def yX11_run : MethodName := ⟨RX11, "run", "(I)I"⟩
abbrev cX11_runs : ByteArray := prog_1_method_7_code
def yX11_runs : MethodName := ⟨RX11, "runs", "()I"⟩
abbrev cX11_newRun : ByteArray := prog_1_method_8_code
def yX11_newRun : MethodName := ⟨RX11, "newRun", "(I)I"⟩
abbrev cX11_goOnce : ByteArray := prog_1_method_9_code
def yX11_goOnce : MethodName := ⟨RX11, "goOnce", "(I)V"⟩
abbrev cX11_logIsMade : ByteArray := prog_1_method_10_code
def yX11_logIsMade : MethodName := ⟨RX11, "logIsMade", "()V"⟩
abbrev cX11_act : ByteArray := prog_1_method_11_code
def yX11_act : MethodName := ⟨RX11, "act", "(II)I"⟩
abbrev cX11_cell : ByteArray := prog_1_method_12_code
def yX11_cell : MethodName := ⟨RX11, "cell", "(I)I"⟩
abbrev cX11_stuck : ByteArray := prog_1_method_13_code
def yX11_stuck : MethodName := ⟨RX11, "stuck", "()I"⟩
abbrev cX11_law : ByteArray := prog_1_method_14_code
def yX11_law : MethodName := ⟨RX11, "law", "(IZ)I"⟩
abbrev cX11_before : ByteArray := prog_1_method_15_code
def yX11_before : MethodName := ⟨RX11, "before", "(II)I"⟩
abbrev cX11_way : ByteArray := prog_1_method_16_code
def yX11_way : MethodName := ⟨RX11, "way", "(III)I"⟩
abbrev cX11_lawClocks : ByteArray := prog_1_method_17_code
def yX11_lawClocks : MethodName := ⟨RX11, "lawClocks", "()LOneCup$Clocks;"⟩
abbrev cX11_meets : ByteArray := prog_1_method_18_code
def yX11_meets : MethodName := ⟨RX11, "meets", "()I"⟩
abbrev cX11_meet : ByteArray := prog_1_method_19_code
def yX11_meet : MethodName := ⟨RX11, "meet", "(II)I"⟩
abbrev cX11_tellMeeting : ByteArray := prog_1_method_20_code
def yX11_tellMeeting : MethodName := ⟨RX11, "tellMeeting", "(III)I"⟩
abbrev cX11_first : ByteArray := prog_1_method_21_code
def yX11_first : MethodName := ⟨RX11, "first", "(I)I"⟩
abbrev cX11_small : ByteArray := prog_1_method_22_code
def yX11_small : MethodName := ⟨RX11, "small", "(I)I"⟩
abbrev cX11_could : ByteArray := prog_1_method_23_code
def yX11_could : MethodName := ⟨RX11, "could", "(II)I"⟩
abbrev cX11_shown : ByteArray := prog_1_method_24_code
def yX11_shown : MethodName := ⟨RX11, "shown", "(I)I"⟩
abbrev cX11_harm : ByteArray := prog_1_method_25_code
def yX11_harm : MethodName := ⟨RX11, "harm", "()I"⟩
abbrev cX11_replay : ByteArray := prog_1_method_26_code
def yX11_replay : MethodName := ⟨RX11, "replay", "(LOneCup$Machine;II)V"⟩
abbrev cX11_always : ByteArray := prog_1_method_27_code
def yX11_always : MethodName := ⟨RX11, "always", "(I)I"⟩
abbrev cX11_habit : ByteArray := prog_1_method_28_code
def yX11_habit : MethodName := ⟨RX11, "habit", "()I"⟩
abbrev cX11_ring : ByteArray := prog_1_method_29_code
def yX11_ring : MethodName := ⟨RX11, "ring", "()I"⟩
abbrev cX11_edgesTo : ByteArray := prog_1_method_30_code
def yX11_edgesTo : MethodName := ⟨RX11, "edgesTo", "(II)I"⟩
abbrev cX11_ends : ByteArray := prog_1_method_31_code
def yX11_ends : MethodName := ⟨RX11, "ends", "()I"⟩
abbrev cX11_waits : ByteArray := prog_1_method_32_code
def yX11_waits : MethodName := ⟨RX11, "waits", "()I"⟩
abbrev cX11_led : ByteArray := prog_1_method_33_code
def yX11_led : MethodName := ⟨RX11, "led", "(I)I"⟩
abbrev cX11_goThroughAllRuns : ByteArray := prog_1_method_34_code
def yX11_goThroughAllRuns : MethodName := ⟨RX11, "goThroughAllRuns", "()V"⟩
abbrev cX11_may : ByteArray := prog_1_method_35_code
def yX11_may : MethodName := ⟨RX11, "may", "(I)I"⟩
abbrev cX11_least : ByteArray := prog_1_method_36_code
def yX11_least : MethodName := ⟨RX11, "least", "()I"⟩
abbrev cX11_mend : ByteArray := prog_1_method_37_code
def yX11_mend : MethodName := ⟨RX11, "mend", "()I"⟩
abbrev cX11_meetingsBy : ByteArray := prog_1_method_38_code
def yX11_meetingsBy : MethodName := ⟨RX11, "meetingsBy", "(III)I"⟩
abbrev cX11_gates : ByteArray := prog_1_method_39_code
def yX11_gates : MethodName := ⟨RX11, "gates", "()I"⟩
abbrev cX11_blink : ByteArray := prog_1_method_40_code
def yX11_blink : MethodName := ⟨RX11, "blink", "(I)I"⟩
abbrev cX11_join : ByteArray := prog_1_method_41_code
def yX11_join : MethodName := ⟨RX11, "join", "()I"⟩
abbrev cX11_joined : ByteArray := prog_1_method_42_code
def yX11_joined : MethodName := ⟨RX11, "joined", "(II)I"⟩
abbrev cX11_status : ByteArray := prog_1_method_43_code
def yX11_status : MethodName := ⟨RX11, "status", "(I)I"⟩
abbrev cX11_rowsThere : ByteArray := prog_1_method_44_code
def yX11_rowsThere : MethodName := ⟨RX11, "rowsThere", "()I"⟩
abbrev cX11_keep : ByteArray := prog_1_method_45_code
def yX11_keep : MethodName := ⟨RX11, "keep", "(I)I"⟩
abbrev cX11_back : ByteArray := prog_1_method_46_code
def yX11_back : MethodName := ⟨RX11, "back", "(I)I"⟩
abbrev cX11_row : ByteArray := prog_1_method_47_code
def yX11_row : MethodName := ⟨RX11, "row", "(III)I"⟩
abbrev cX11_write : ByteArray := prog_1_method_48_code
def yX11_write : MethodName := ⟨RX11, "write", "(IIJ)I"⟩
abbrev cX11_cut : ByteArray := prog_1_method_49_code
def yX11_cut : MethodName := ⟨RX11, "cut", "(JI)J"⟩
abbrev cX11_paste : ByteArray := prog_1_method_50_code
def yX11_paste : MethodName := ⟨RX11, "paste", "(IIIII)I"⟩
abbrev cX11_refuse : ByteArray := prog_1_method_51_code
def yX11_refuse : MethodName := ⟨RX11, "refuse", "()I"⟩
abbrev cX11_isAct : ByteArray := prog_1_method_52_code
def yX11_isAct : MethodName := ⟨RX11, "isAct", "(I)Z"⟩
abbrev cX11_hasRow : ByteArray := prog_1_method_53_code
def yX11_hasRow : MethodName := ⟨RX11, "hasRow", "(I)Z"⟩
abbrev cX11_isSlot : ByteArray := prog_1_method_54_code
def yX11_isSlot : MethodName := ⟨RX11, "isSlot", "(I)Z"⟩
abbrev cX11_isCell : ByteArray := prog_1_method_55_code
def yX11_isCell : MethodName := ⟨RX11, "isCell", "(I)Z"⟩
def RX12 : String := "OneCupModel"
def TX12 : u_T := fun k => match k with
  | 0 => ("OneCupModel", "thrown", "I", false)
  | 1 => ("OneCupModel", "world", "[I", true)
  | 2 => ("OneCupModel", "images", "[I", true)
  | 3 => ("OneCupModel", "hasImage", "[Z", true)
  | 4 => ("OneCupModel", "refusals", "I", false)
  | 5 => ("OneCupModel", "tape", "[B", true)
  | 6 => ("OneCupModel", "taped", "I", false)
  | 7 => ("OneCupModel", "five", "[I", true)
  | 8 => ("OneCupModel", "size", "I", false)
  | 9 => ("OneCupModel", "at", "I", false)
  | 10 => ("OneCupModel", "from", "I", false)
  | 11 => ("OneCupModel", "token", "I", false)
  | 12 => ("OneCupModel", "value", "I", false)
  | 13 => ("OneCupModel", "faultKind", "I", false)
  | 14 => ("OneCupModel", "faultPlace", "I", false)
  | 15 => ("OneCupModel", "fresh", "[I", true)
  | 16 => ("OneCupModel", "freshMany", "[I", true)
  | 17 => ("OneCupModel", "freshTold", "[Z", true)
  | 18 => ("OneCupModel", "hand", "I", false)
  | 19 => ("OneCupModel", "now", "[I", true)
  | 20 => ("OneCupModel", "actSort", "I", false)
  | 21 => ("OneCupModel", "actWhat", "I", false)
  | 22 => ("OneCupModel", "actValue", "I", false)
  | 23 => ("OneCupModel", "actPlace", "I", false)
  | 24 => ("OneCupModel", "done", "[I", true)
  | 25 => ("OneCupModel", "gatesOf", "[I", true)
  | 26 => ("OneCupModel", "inGates", "[I", true)
  | 27 => ("OneCupModel", "gateIn", "[I", true)
  | 28 => ("OneCupModel", "orderers", "I", false)
  | 29 => ("OneCupModel", "guarded", "I", false)
  | 30 => ("OneCupModel", "ahead", "[I", true)
  | 31 => ("OneCupModel", "clock", "[I", true)
  | 32 => ("OneCupModel", "steps", "[I", true)
  | 33 => ("OneCupModel", "trail", "[I", true)
  | 34 => ("OneCupModel", "orders", "[I", true)
  | 35 => ("OneCupModel", "parent", "[I", true)
  | 36 => ("OneCupModel", "byHand", "[I", true)
  | 37 => ("OneCupModel", "laid", "I", false)
  | 38 => ("OneCupModel", "found", "I", false)
  | 39 => ("OneCupModel", "one", "[I", true)
  | 40 => ("OneCupModel", "order", "[I", true)
  | 41 => ("OneCupModel", "orderMany", "I", false)
  | 42 => ("OneCupModel", "harmI", "I", false)
  | 43 => ("OneCupModel", "harmJ", "I", false)
  | 44 => ("OneCupModel", "hasHarm", "Z", false)
  | 45 => ("OneCupModel", "actOf", "[I", true)
  | 46 => ("OneCupModel", "actMany", "[I", true)
  | 47 => ("OneCupModel", "firstEnd", "[I", true)
  | 48 => ("OneCupModel", "after", "[I", true)
  | 49 => ("OneCupModel", "runs0", "[I", true)
  | 50 => ("OneCupModel", "endOf", "[I", true)
  | 51 => ("OneCupModel", "ledBy", "[I", true)
  | 52 => ("OneCupModel", "ledMany", "I", false)
  | 53 => ("OneCupModel", "node", "[I", true)
  | 54 => ("OneCupModel", "depth", "[I", true)
  | 55 => ("OneCupModel", "outer", "[I", true)
  | 56 => ("OneCupModel", "isMet", "[Z", true)
  | 57 => ("OneCupModel", "queue", "[I", true)
  | 58 => ("OneCupModel", "book", "[I", true)
  | 59 => ("OneCupModel", "many", "[I", true)
  | 60 => ("OneCupModel", "width", "[I", true)
  | 61 => ("OneCupModel", "numbers", "[J", true)
  | _ => ("OneCupModel", "moved", "[J", true)
def tyX12 : Nat → FieldType := fun k => match k with
  | 0 => .int
  | 1 => .array .int
  | 2 => .array .int
  | 3 => .array .boolean
  | 4 => .int
  | 5 => .array .byte
  | 6 => .int
  | 7 => .array .int
  | 8 => .int
  | 9 => .int
  | 10 => .int
  | 11 => .int
  | 12 => .int
  | 13 => .int
  | 14 => .int
  | 15 => .array .int
  | 16 => .array .int
  | 17 => .array .boolean
  | 18 => .int
  | 19 => .array .int
  | 20 => .int
  | 21 => .int
  | 22 => .int
  | 23 => .int
  | 24 => .array .int
  | 25 => .array .int
  | 26 => .array .int
  | 27 => .array .int
  | 28 => .int
  | 29 => .int
  | 30 => .array .int
  | 31 => .array .int
  | 32 => .array .int
  | 33 => .array .int
  | 34 => .array .int
  | 35 => .array .int
  | 36 => .array .int
  | 37 => .int
  | 38 => .int
  | 39 => .array .int
  | 40 => .array .int
  | 41 => .int
  | 42 => .int
  | 43 => .int
  | 44 => .boolean
  | 45 => .array .int
  | 46 => .array .int
  | 47 => .array .int
  | 48 => .array .int
  | 49 => .array .int
  | 50 => .array .int
  | 51 => .array .int
  | 52 => .int
  | 53 => .array .int
  | 54 => .array .int
  | 55 => .array .int
  | 56 => .array .boolean
  | 57 => .array .int
  | 58 => .array .int
  | 59 => .array .int
  | 60 => .array .int
  | 61 => .array .long
  | _ => .array .long
abbrev wsX120 : List Cond := u_ws RX12 TX12 63
theorem nmX12 : ∀ a, a < 63 → ∀ b, b < 63 → a ≠ b → (TX12 a).2.1 ≠ (TX12 b).2.1 := by decide +kernel
theorem tyX12_ok : ∀ k, k < 63 → parseFieldDescriptor (TX12 k).2.2.1 = some (tyX12 k) := by decide +kernel
abbrev cX12_in : ByteArray := prog_14_method_2_code
def yX12_in : MethodName := ⟨RX12, "in", "(JJJ)Z"⟩
abbrev cX12_init : ByteArray := prog_14_method_3_code
def yX12_init : MethodName := ⟨RX12, "<init>", "()V"⟩
abbrev cX12_no : ByteArray := prog_14_method_4_code
def yX12_no : MethodName := ⟨RX12, "no", "()I"⟩
abbrev cX12_keep : ByteArray := prog_14_method_5_code
def yX12_keep : MethodName := ⟨RX12, "keep", "(I)I"⟩
abbrev cX12_feed : ByteArray := prog_14_method_6_code
def yX12_feed : MethodName := ⟨RX12, "feed", "(IIIII)I"⟩
abbrev cX12_end : ByteArray := prog_14_method_7_code
def yX12_end : MethodName := ⟨RX12, "end", "(I)I"⟩
abbrev cX12_see : ByteArray := prog_14_method_8_code
def yX12_see : MethodName := ⟨RX12, "see", "(I)I"⟩
abbrev cX12_isMark : ByteArray := prog_14_method_9_code
def yX12_isMark : MethodName := ⟨RX12, "isMark", "(I)Z"⟩
abbrev cX12_step : ByteArray := prog_14_method_10_code
def yX12_step : MethodName := ⟨RX12, "step", "()V"⟩
abbrev cX12_good : ByteArray := prog_14_method_11_code
def yX12_good : MethodName := ⟨RX12, "good", "()Z"⟩
abbrev cX12_wrong : ByteArray := prog_14_method_12_code
def yX12_wrong : MethodName := ⟨RX12, "wrong", "(I)V"⟩
abbrev cX12_is : ByteArray := prog_14_method_13_code
def yX12_is : MethodName := ⟨RX12, "is", "(Ljava/lang/String;)Z"⟩
abbrev cX12_takes : ByteArray := prog_14_method_14_code
def yX12_takes : MethodName := ⟨RX12, "takes", "(Ljava/lang/String;)Z"⟩
abbrev cX12_isSign : ByteArray := prog_14_method_15_code
def yX12_isSign : MethodName := ⟨RX12, "isSign", "(I)Z"⟩
abbrev cX12_needsSign : ByteArray := prog_14_method_16_code
def yX12_needsSign : MethodName := ⟨RX12, "needsSign", "(I)V"⟩
abbrev cX12_number : ByteArray := prog_14_method_17_code
def yX12_number : MethodName := ⟨RX12, "number", "(II)I"⟩
abbrev cX12_letter : ByteArray := prog_14_method_18_code
def yX12_letter : MethodName := ⟨RX12, "letter", "(II)I"⟩
abbrev cX12_fault : ByteArray := prog_14_method_19_code
def yX12_fault : MethodName := ⟨RX12, "fault", "(I)I"⟩
abbrev cX12_codeAt : ByteArray := prog_14_method_20_code
def yX12_codeAt : MethodName := ⟨RX12, "codeAt", "(I)I"⟩
abbrev cX12_adds : ByteArray := prog_14_method_21_code
def yX12_adds : MethodName := ⟨RX12, "adds", "(IIIII)V"⟩
abbrev cX12_again : ByteArray := prog_14_method_22_code
def yX12_again : MethodName := ⟨RX12, "again", "(II)V"⟩
abbrev cX12_readSteps : ByteArray := prog_14_method_23_code
def yX12_readSteps : MethodName := ⟨RX12, "readSteps", "(I)V"⟩
abbrev cX12_readStep : ByteArray := prog_14_method_24_code
def yX12_readStep : MethodName := ⟨RX12, "readStep", "(I)V"⟩
abbrev cX12_lays : ByteArray := prog_14_method_25_code
def yX12_lays : MethodName := ⟨RX12, "lays", "(IIII)V"⟩
abbrev cX12_readPlain : ByteArray := prog_14_method_26_code
def yX12_readPlain : MethodName := ⟨RX12, "readPlain", "(I)V"⟩
abbrev cX12_readHand : ByteArray := prog_14_method_27_code
def yX12_readHand : MethodName := ⟨RX12, "readHand", "()V"⟩
abbrev cX12_text : ByteArray := prog_14_method_28_code
def yX12_text : MethodName := ⟨RX12, "text", "()I"⟩
abbrev cX12_clears : ByteArray := prog_14_method_29_code
def yX12_clears : MethodName := ⟨RX12, "clears", "()V"⟩
abbrev cX12_begins : ByteArray := prog_14_method_30_code
def yX12_begins : MethodName := ⟨RX12, "begins", "()V"⟩
abbrev cX12_hasCode : ByteArray := prog_14_method_31_code
def yX12_hasCode : MethodName := ⟨RX12, "hasCode", "(I)Z"⟩
abbrev cX12_codeOf : ByteArray := prog_14_method_32_code
def yX12_codeOf : MethodName := ⟨RX12, "codeOf", "(I)I"⟩
abbrev cX12_canGo : ByteArray := prog_14_method_33_code
def yX12_canGo : MethodName := ⟨RX12, "canGo", "(I)Z"⟩
abbrev cX12_goes : ByteArray := prog_14_method_34_code
def yX12_goes : MethodName := ⟨RX12, "goes", "(I)Z"⟩
abbrev cX12_heldBy : ByteArray := prog_14_method_35_code
def yX12_heldBy : MethodName := ⟨RX12, "heldBy", "(I)I"⟩
abbrev cX12_stuckNow : ByteArray := prog_14_method_36_code
def yX12_stuckNow : MethodName := ⟨RX12, "stuckNow", "()I"⟩
abbrev cX12_leastHand : ByteArray := prog_14_method_37_code
def yX12_leastHand : MethodName := ⟨RX12, "leastHand", "()I"⟩
abbrev cX12_actAt : ByteArray := prog_14_method_38_code
def yX12_actAt : MethodName := ⟨RX12, "actAt", "(I)I"⟩
abbrev cX12_of : ByteArray := prog_14_method_39_code
def yX12_of : MethodName := ⟨RX12, "of", "(II)I"⟩
abbrev cX12_isAct : ByteArray := prog_14_method_40_code
def yX12_isAct : MethodName := ⟨RX12, "isAct", "(I)Z"⟩
abbrev cX12_logs : ByteArray := prog_14_method_41_code
def yX12_logs : MethodName := ⟨RX12, "logs", "(I)V"⟩
abbrev cX12_runBy : ByteArray := prog_14_method_42_code
def yX12_runBy : MethodName := ⟨RX12, "runBy", "(I)I"⟩
abbrev cX12_run : ByteArray := prog_14_method_43_code
def yX12_run : MethodName := ⟨RX12, "run", "(I)I"⟩
abbrev cX12_runs : ByteArray := prog_14_method_44_code
def yX12_runs : MethodName := ⟨RX12, "runs", "()I"⟩
abbrev cX12_act : ByteArray := prog_14_method_45_code
def yX12_act : MethodName := ⟨RX12, "act", "(II)I"⟩
abbrev cX12_cell : ByteArray := prog_14_method_46_code
def yX12_cell : MethodName := ⟨RX12, "cell", "(I)I"⟩
abbrev cX12_stuck : ByteArray := prog_14_method_47_code
def yX12_stuck : MethodName := ⟨RX12, "stuck", "()I"⟩
abbrev cX12_isLaw : ByteArray := prog_14_method_48_code
def yX12_isLaw : MethodName := ⟨RX12, "isLaw", "(I)Z"⟩
abbrev cX12_law : ByteArray := prog_14_method_49_code
def yX12_law : MethodName := ⟨RX12, "law", "(IZ)I"⟩
abbrev cX12_isTouch : ByteArray := prog_14_method_50_code
def yX12_isTouch : MethodName := ⟨RX12, "isTouch", "(I)Z"⟩
abbrev cX12_latest : ByteArray := prog_14_method_51_code
def yX12_latest : MethodName := ⟨RX12, "latest", "(IIII)I"⟩
abbrev cX12_sendOf : ByteArray := prog_14_method_52_code
def yX12_sendOf : MethodName := ⟨RX12, "sendOf", "(I)I"⟩
abbrev cX12_lawOf : ByteArray := prog_14_method_53_code
def yX12_lawOf : MethodName := ⟨RX12, "lawOf", "(I)I"⟩
abbrev cX12_latestTouch : ByteArray := prog_14_method_54_code
def yX12_latestTouch : MethodName := ⟨RX12, "latestTouch", "(I)I"⟩
abbrev cX12_findAhead : ByteArray := prog_14_method_55_code
def yX12_findAhead : MethodName := ⟨RX12, "findAhead", "(I)V"⟩
abbrev cX12_merges : ByteArray := prog_14_method_56_code
def yX12_merges : MethodName := ⟨RX12, "merges", "(II)V"⟩
abbrev cX12_clocks : ByteArray := prog_14_method_57_code
def yX12_clocks : MethodName := ⟨RX12, "clocks", "()V"⟩
abbrev cX12_isBefore : ByteArray := prog_14_method_58_code
def yX12_isBefore : MethodName := ⟨RX12, "isBefore", "(II)Z"⟩
abbrev cX12_before : ByteArray := prog_14_method_59_code
def yX12_before : MethodName := ⟨RX12, "before", "(II)I"⟩
abbrev cX12_way : ByteArray := prog_14_method_60_code
def yX12_way : MethodName := ⟨RX12, "way", "(III)I"⟩
abbrev cX12_clash : ByteArray := prog_14_method_61_code
def yX12_clash : MethodName := ⟨RX12, "clash", "(II)Z"⟩
abbrev cX12_meet0 : ByteArray := prog_14_method_62_code
def yX12_meet0 : MethodName := ⟨RX12, "meet0", "(II)Z"⟩
abbrev cX12_meetings : ByteArray := prog_14_method_63_code
def yX12_meetings : MethodName := ⟨RX12, "meetings", "()I"⟩
abbrev cX12_meets : ByteArray := prog_14_method_64_code
def yX12_meets : MethodName := ⟨RX12, "meets", "()I"⟩
abbrev cX12_meet : ByteArray := prog_14_method_65_code
def yX12_meet : MethodName := ⟨RX12, "meet", "(II)I"⟩
abbrev cX12_first : ByteArray := prog_14_method_66_code
def yX12_first : MethodName := ⟨RX12, "first", "(I)I"⟩
abbrev cX12_small : ByteArray := prog_14_method_67_code
def yX12_small : MethodName := ⟨RX12, "small", "(I)I"⟩
abbrev cX12_sorts : ByteArray := prog_14_method_68_code
def yX12_sorts : MethodName := ⟨RX12, "sorts", "()V"⟩
abbrev cX12_isDone : ByteArray := prog_14_method_69_code
def yX12_isDone : MethodName := ⟨RX12, "isDone", "(I)Z"⟩
abbrev cX12_sawOf : ByteArray := prog_14_method_70_code
def yX12_sawOf : MethodName := ⟨RX12, "sawOf", "(I)I"⟩
abbrev cX12_isFree : ByteArray := prog_14_method_71_code
def yX12_isFree : MethodName := ⟨RX12, "isFree", "(I)Z"⟩
abbrev cX12_isStarted : ByteArray := prog_14_method_72_code
def yX12_isStarted : MethodName := ⟨RX12, "isStarted", "(I)Z"⟩
abbrev cX12_couldGo : ByteArray := prog_14_method_73_code
def yX12_couldGo : MethodName := ⟨RX12, "couldGo", "(I)Z"⟩
abbrev cX12_isLaid : ByteArray := prog_14_method_74_code
def yX12_isLaid : MethodName := ⟨RX12, "isLaid", "()Z"⟩
abbrev cX12_sideBySide : ByteArray := prog_14_method_75_code
def yX12_sideBySide : MethodName := ⟨RX12, "sideBySide", "(II)Z"⟩
abbrev cX12_laysOrder : ByteArray := prog_14_method_76_code
def yX12_laysOrder : MethodName := ⟨RX12, "laysOrder", "(IIII)I"⟩
abbrev cX12_search : ByteArray := prog_14_method_77_code
def yX12_search : MethodName := ⟨RX12, "search", "(II)I"⟩
abbrev cX12_could : ByteArray := prog_14_method_78_code
def yX12_could : MethodName := ⟨RX12, "could", "(II)I"⟩
abbrev cX12_shown : ByteArray := prog_14_method_79_code
def yX12_shown : MethodName := ⟨RX12, "shown", "(I)I"⟩
abbrev cX12_goesOn : ByteArray := prog_14_method_80_code
def yX12_goesOn : MethodName := ⟨RX12, "goesOn", "(I)V"⟩
abbrev cX12_plays : ByteArray := prog_14_method_81_code
def yX12_plays : MethodName := ⟨RX12, "plays", "(II)V"⟩
abbrev cX12_harm : ByteArray := prog_14_method_82_code
def yX12_harm : MethodName := ⟨RX12, "harm", "()I"⟩
abbrev cX12_always : ByteArray := prog_14_method_83_code
def yX12_always : MethodName := ⟨RX12, "always", "(I)I"⟩
abbrev cX12_habit : ByteArray := prog_14_method_84_code
def yX12_habit : MethodName := ⟨RX12, "habit", "()I"⟩
abbrev cX12_ring : ByteArray := prog_14_method_85_code
def yX12_ring : MethodName := ⟨RX12, "ring", "()I"⟩
abbrev cX12_isRunLaid : ByteArray := prog_14_method_86_code
def yX12_isRunLaid : MethodName := ⟨RX12, "isRunLaid", "()Z"⟩
abbrev cX12_laysRun : ByteArray := prog_14_method_87_code
def yX12_laysRun : MethodName := ⟨RX12, "laysRun", "(II)Z"⟩
abbrev cX12_brings : ByteArray := prog_14_method_88_code
def yX12_brings : MethodName := ⟨RX12, "brings", "(I)V"⟩
abbrev cX12_allRuns : ByteArray := prog_14_method_89_code
def yX12_allRuns : MethodName := ⟨RX12, "allRuns", "()Z"⟩
abbrev cX12_sameEnd : ByteArray := prog_14_method_90_code
def yX12_sameEnd : MethodName := ⟨RX12, "sameEnd", "(II)Z"⟩
abbrev cX12_ends : ByteArray := prog_14_method_91_code
def yX12_ends : MethodName := ⟨RX12, "ends", "()I"⟩
abbrev cX12_waits : ByteArray := prog_14_method_92_code
def yX12_waits : MethodName := ⟨RX12, "waits", "()I"⟩
abbrev cX12_led : ByteArray := prog_14_method_93_code
def yX12_led : MethodName := ⟨RX12, "led", "(I)I"⟩
abbrev cX12_meetingsBy : ByteArray := prog_14_method_94_code
def yX12_meetingsBy : MethodName := ⟨RX12, "meetingsBy", "(I)I"⟩
abbrev cX12_may : ByteArray := prog_14_method_95_code
def yX12_may : MethodName := ⟨RX12, "may", "(I)I"⟩
abbrev cX12_ones : ByteArray := prog_14_method_96_code
def yX12_ones : MethodName := ⟨RX12, "ones", "(I)I"⟩
abbrev cX12_least : ByteArray := prog_14_method_97_code
def yX12_least : MethodName := ⟨RX12, "least", "()I"⟩
abbrev cX12_mend : ByteArray := prog_14_method_98_code
def yX12_mend : MethodName := ⟨RX12, "mend", "()I"⟩
abbrev cX12_nodes : ByteArray := prog_14_method_99_code
def yX12_nodes : MethodName := ⟨RX12, "nodes", "()V"⟩
abbrev cX12_isBolt : ByteArray := prog_14_method_100_code
def yX12_isBolt : MethodName := ⟨RX12, "isBolt", "(I)Z"⟩
abbrev cX12_leads : ByteArray := prog_14_method_101_code
def yX12_leads : MethodName := ⟨RX12, "leads", "(II)Z"⟩
abbrev cX12_gateAt : ByteArray := prog_14_method_102_code
def yX12_gateAt : MethodName := ⟨RX12, "gateAt", "(I)I"⟩
abbrev cX12_gates : ByteArray := prog_14_method_103_code
def yX12_gates : MethodName := ⟨RX12, "gates", "()I"⟩
abbrev cX12_blink : ByteArray := prog_14_method_104_code
def yX12_blink : MethodName := ⟨RX12, "blink", "(I)I"⟩
abbrev cX12_pairAt : ByteArray := prog_14_method_105_code
def yX12_pairAt : MethodName := ⟨RX12, "pairAt", "(I)I"⟩
abbrev cX12_pairFor : ByteArray := prog_14_method_106_code
def yX12_pairFor : MethodName := ⟨RX12, "pairFor", "(IIII)I"⟩
abbrev cX12_books : ByteArray := prog_14_method_107_code
def yX12_books : MethodName := ⟨RX12, "books", "(III)I"⟩
abbrev cX12_join : ByteArray := prog_14_method_108_code
def yX12_join : MethodName := ⟨RX12, "join", "()I"⟩
abbrev cX12_joined : ByteArray := prog_14_method_109_code
def yX12_joined : MethodName := ⟨RX12, "joined", "(II)I"⟩
abbrev cX12_status : ByteArray := prog_14_method_110_code
def yX12_status : MethodName := ⟨RX12, "status", "(I)I"⟩
abbrev cX12_back : ByteArray := prog_14_method_111_code
def yX12_back : MethodName := ⟨RX12, "back", "(I)I"⟩
abbrev cX12_isSlot : ByteArray := prog_14_method_112_code
def yX12_isSlot : MethodName := ⟨RX12, "isSlot", "(I)Z"⟩
abbrev cX12_cut : ByteArray := prog_14_method_113_code
def yX12_cut : MethodName := ⟨RX12, "cut", "(JI)J"⟩
abbrev cX12_row : ByteArray := prog_14_method_114_code
def yX12_row : MethodName := ⟨RX12, "row", "(III)I"⟩
abbrev cX12_write : ByteArray := prog_14_method_115_code
def yX12_write : MethodName := ⟨RX12, "write", "(IIJ)I"⟩
abbrev cX12_paste : ByteArray := prog_14_method_116_code
def yX12_paste : MethodName := ⟨RX12, "paste", "(IIIII)I"⟩
def RJx145de : String := "java/io/Serializable"
def RJx9f9b0 : String := "java/lang/CharSequence"
def RJxb160c : String := "java/lang/Comparable"
def RJ6 : String := "java/lang/Integer"
abbrev cJ6_bitCount_0f7a4 : ByteArray := prog_15_method_49_code
def yJ6_bitCount_0f7a4 : MethodName := ⟨RJ6, "bitCount", "(I)I"⟩
def RJ9 : String := "java/lang/Math"
abbrev cJ9_max_7cf53 : ByteArray := prog_16_method_65_code
def yJ9_max_7cf53 : MethodName := ⟨RJ9, "max", "(II)I"⟩
abbrev cJ9_min_7cf53 : ByteArray := prog_16_method_69_code
def yJ9_min_7cf53 : MethodName := ⟨RJ9, "min", "(II)I"⟩
def RJ0 : String := "java/lang/String"
abbrev cJ0_length_8abf5 : ByteArray := prog_17_method_54_code
def yJ0_length_8abf5 : MethodName := ⟨RJ0, "length", "()I"⟩
abbrev cJ0_charAt_5068e : ByteArray := prog_17_method_56_code
def yJ0_charAt_5068e : MethodName := ⟨RJ0, "charAt", "(I)C"⟩
abbrev cJ0_coder_7d493 : ByteArray := prog_17_method_152_code
def yJ0_coder_7d493 : MethodName := ⟨RJ0, "coder", "()B"⟩
abbrev cJ0_isLatin1_aae02 : ByteArray := prog_17_method_154_code
def yJ0_isLatin1_aae02 : MethodName := ⟨RJ0, "isLatin1", "()Z"⟩
abbrev cJ0_checkIndex_df160 : ByteArray := prog_17_method_155_code
def yJ0_checkIndex_df160 : MethodName := ⟨RJ0, "checkIndex", "(II)V"⟩
def RJ1 : String := "java/lang/StringLatin1"
abbrev cJ1_charAt_3b067 : ByteArray := prog_18_method_2_code
def yJ1_charAt_3b067 : MethodName := ⟨RJ1, "charAt", "([BI)C"⟩
def RJ2 : String := "java/lang/StringUTF16"
abbrev cJ2_getChar_3b067 : ByteArray := prog_19_method_5_code
def yJ2_getChar_3b067 : MethodName := ⟨RJ2, "getChar", "([BI)C"⟩
abbrev cJ2_length_9d52b : ByteArray := prog_19_method_6_code
def yJ2_length_9d52b : MethodName := ⟨RJ2, "length", "([B)I"⟩
abbrev cJ2_charAt_3b067 : ByteArray := prog_19_method_83_code
def yJ2_charAt_3b067 : MethodName := ⟨RJ2, "charAt", "([BI)C"⟩
abbrev cJ2_checkIndex_2214a : ByteArray := prog_19_method_91_code
def yJ2_checkIndex_2214a : MethodName := ⟨RJ2, "checkIndex", "(I[B)V"⟩
def RJ10 : String := "java/lang/System"
def RJxfd54e : String := "java/lang/constant/Constable"
def RJx3cf43 : String := "java/lang/constant/ConstantDesc"
def RJ7 : String := "java/util/Arrays"
abbrev cJ7_fill_53178 : ByteArray := prog_21_method_103_code
def yJ7_fill_53178 : MethodName := ⟨RJ7, "fill", "([II)V"⟩
def RJ3 : String := "jdk/internal/util/Preconditions"
abbrev cJ3_checkIndex_8e157 : ByteArray := prog_22_method_11_code
def yJ3_checkIndex_8e157 : MethodName := ⟨RJ3, "checkIndex", "(IILjava/util/function/BiFunction;)I"⟩
def RL : String := "OneCupLaw"
abbrev cL_law : ByteArray := code
def yL_law : MethodName := ⟨RL, "law", "([I)Z"⟩
abbrev vwCl : List vw_C := [(RX0, TX0, 12), (RX1, TX1, 9), (RX2, TX2, 4), (RX3, TX3, 6), (RX4, TX4, 19), (RX5, TX5, 15), (RX6, TX6, 7), (RX7, TX7, 8), (RX8, TX8, 15), (RX9, TX9, 8), (RX10, TX10, 6), (RX11, TX11, 17), (RX12, TX12, 63)]
