-- ===== PART A: goes FIRST, ahead of the names: the tables' words, and 'selects' of the private methods out of them =====
/-- a private method of a class that the tables say can be made, by its rows of tables_1 -/
def lw_okq (q : MethodName × Nat) : Prop := (q.1.cls ≠ "java/lang/invoke/MethodHandle" ∧ q.1.cls ≠ "java/lang/invoke/VarHandle") ∧ Cond.instantiable q.1.cls q.2 ∈ tables_1 ∧ Cond.privateMethod q.1 ∈ tables_1 ∧ Cond.instanceMethod q.1 ∈ tables_1
theorem lw_p0 : lw_okq (⟨"JoinDraws", "isRelation", "(I)Z"⟩, 16) := ⟨⟨by decide +kernel, by decide +kernel⟩, List.mem_of_getElem? (i := 22) (by decide +kernel), List.mem_of_getElem? (i := 409) (by decide +kernel), List.mem_of_getElem? (i := 410) (by decide +kernel)⟩
theorem lw_p1 : lw_okq (⟨"JoinDraws", "addRow", "(LJoinDraws$Relation;IIII)I"⟩, 16) := ⟨⟨by decide +kernel, by decide +kernel⟩, List.mem_of_getElem? (i := 22) (by decide +kernel), List.mem_of_getElem? (i := 413) (by decide +kernel), List.mem_of_getElem? (i := 414) (by decide +kernel)⟩
theorem lw_p2 : lw_okq (⟨"JoinDraws$Relation", "refuses", "(II)Z"⟩, 7) := ⟨⟨by decide +kernel, by decide +kernel⟩, List.mem_of_getElem? (i := 246) (by decide +kernel), List.mem_of_getElem? (i := 434) (by decide +kernel), List.mem_of_getElem? (i := 435) (by decide +kernel)⟩
theorem lw_p3 : lw_okq (⟨"JoinDraws", "isRow", "(II)Z"⟩, 16) := ⟨⟨by decide +kernel, by decide +kernel⟩, List.mem_of_getElem? (i := 22) (by decide +kernel), List.mem_of_getElem? (i := 464) (by decide +kernel), List.mem_of_getElem? (i := 465) (by decide +kernel)⟩
theorem lw_p4 : lw_okq (⟨"JoinDraws", "current", "()LJoinDraws$Join;"⟩, 16) := ⟨⟨by decide +kernel, by decide +kernel⟩, List.mem_of_getElem? (i := 22) (by decide +kernel), List.mem_of_getElem? (i := 523) (by decide +kernel), List.mem_of_getElem? (i := 524) (by decide +kernel)⟩
theorem lw_p5 : lw_okq (⟨"JoinDraws$Tree", "plant", "(I)Z"⟩, 8) := ⟨⟨by decide +kernel, by decide +kernel⟩, List.mem_of_getElem? (i := 140) (by decide +kernel), List.mem_of_getElem? (i := 536) (by decide +kernel), List.mem_of_getElem? (i := 537) (by decide +kernel)⟩
theorem lw_p6 : lw_okq (⟨"JoinDraws$Tree", "firstEar", "(I)I"⟩, 8) := ⟨⟨by decide +kernel, by decide +kernel⟩, List.mem_of_getElem? (i := 140) (by decide +kernel), List.mem_of_getElem? (i := 544) (by decide +kernel), List.mem_of_getElem? (i := 545) (by decide +kernel)⟩
theorem lw_p7 : lw_okq (⟨"JoinDraws$Tree", "stemOf", "(II)I"⟩, 8) := ⟨⟨by decide +kernel, by decide +kernel⟩, List.mem_of_getElem? (i := 140) (by decide +kernel), List.mem_of_getElem? (i := 548) (by decide +kernel), List.mem_of_getElem? (i := 549) (by decide +kernel)⟩
theorem lw_p8 : lw_okq (⟨"JoinDraws$Tree", "takeOut", "(I)V"⟩, 8) := ⟨⟨by decide +kernel, by decide +kernel⟩, List.mem_of_getElem? (i := 140) (by decide +kernel), List.mem_of_getElem? (i := 552) (by decide +kernel), List.mem_of_getElem? (i := 553) (by decide +kernel)⟩
theorem lw_p9 : lw_okq (⟨"JoinDraws$Join", "weigh", "(I)V"⟩, 18) := ⟨⟨by decide +kernel, by decide +kernel⟩, List.mem_of_getElem? (i := 134) (by decide +kernel), List.mem_of_getElem? (i := 561) (by decide +kernel), List.mem_of_getElem? (i := 562) (by decide +kernel)⟩
theorem lw_p10 : lw_okq (⟨"JoinDraws$Join", "sumOf", "(III)J"⟩, 18) := ⟨⟨by decide +kernel, by decide +kernel⟩, List.mem_of_getElem? (i := 134) (by decide +kernel), List.mem_of_getElem? (i := 566) (by decide +kernel), List.mem_of_getElem? (i := 567) (by decide +kernel)⟩
theorem lw_p11 : lw_okq (⟨"JoinDraws$Join", "plus", "(JJ)J"⟩, 18) := ⟨⟨by decide +kernel, by decide +kernel⟩, List.mem_of_getElem? (i := 134) (by decide +kernel), List.mem_of_getElem? (i := 574) (by decide +kernel), List.mem_of_getElem? (i := 575) (by decide +kernel)⟩
theorem lw_p12 : lw_okq (⟨"JoinDraws$Join", "times", "(JJ)J"⟩, 18) := ⟨⟨by decide +kernel, by decide +kernel⟩, List.mem_of_getElem? (i := 134) (by decide +kernel), List.mem_of_getElem? (i := 579) (by decide +kernel), List.mem_of_getElem? (i := 580) (by decide +kernel)⟩
theorem lw_p13 : lw_okq (⟨"JoinDraws$Join", "boundChecks", "()V"⟩, 18) := ⟨⟨by decide +kernel, by decide +kernel⟩, List.mem_of_getElem? (i := 134) (by decide +kernel), List.mem_of_getElem? (i := 583) (by decide +kernel), List.mem_of_getElem? (i := 584) (by decide +kernel)⟩
theorem lw_p14 : lw_okq (⟨"JoinDraws$Join", "greatestHeap", "(II)J"⟩, 18) := ⟨⟨by decide +kernel, by decide +kernel⟩, List.mem_of_getElem? (i := 134) (by decide +kernel), List.mem_of_getElem? (i := 587) (by decide +kernel), List.mem_of_getElem? (i := 588) (by decide +kernel)⟩
theorem lw_p15 : lw_okq (⟨"JoinDraws$Join", "worthsAhead", "(IIII)J"⟩, 18) := ⟨⟨by decide +kernel, by decide +kernel⟩, List.mem_of_getElem? (i := 134) (by decide +kernel), List.mem_of_getElem? (i := 591) (by decide +kernel), List.mem_of_getElem? (i := 592) (by decide +kernel)⟩
def lw_privs_1 : List (MethodName × Nat) := [(⟨"JoinDraws", "isRelation", "(I)Z"⟩, 16), (⟨"JoinDraws", "addRow", "(LJoinDraws$Relation;IIII)I"⟩, 16), (⟨"JoinDraws$Relation", "refuses", "(II)Z"⟩, 7), (⟨"JoinDraws", "isRow", "(II)Z"⟩, 16), (⟨"JoinDraws", "current", "()LJoinDraws$Join;"⟩, 16), (⟨"JoinDraws$Tree", "plant", "(I)Z"⟩, 8), (⟨"JoinDraws$Tree", "firstEar", "(I)I"⟩, 8), (⟨"JoinDraws$Tree", "stemOf", "(II)I"⟩, 8), (⟨"JoinDraws$Tree", "takeOut", "(I)V"⟩, 8), (⟨"JoinDraws$Join", "weigh", "(I)V"⟩, 18), (⟨"JoinDraws$Join", "sumOf", "(III)J"⟩, 18), (⟨"JoinDraws$Join", "plus", "(JJ)J"⟩, 18), (⟨"JoinDraws$Join", "times", "(JJ)J"⟩, 18), (⟨"JoinDraws$Join", "boundChecks", "()V"⟩, 18), (⟨"JoinDraws$Join", "greatestHeap", "(II)J"⟩, 18), (⟨"JoinDraws$Join", "worthsAhead", "(IIII)J"⟩, 18)]
theorem lw_r1 : ∀ q ∈ lw_privs_1, lw_okq q := List.forall_mem_cons.mpr ⟨lw_p0, List.forall_mem_cons.mpr ⟨lw_p1, List.forall_mem_cons.mpr ⟨lw_p2, List.forall_mem_cons.mpr ⟨lw_p3, List.forall_mem_cons.mpr ⟨lw_p4, List.forall_mem_cons.mpr ⟨lw_p5, List.forall_mem_cons.mpr ⟨lw_p6, List.forall_mem_cons.mpr ⟨lw_p7, List.forall_mem_cons.mpr ⟨lw_p8, List.forall_mem_cons.mpr ⟨lw_p9, List.forall_mem_cons.mpr ⟨lw_p10, List.forall_mem_cons.mpr ⟨lw_p11, List.forall_mem_cons.mpr ⟨lw_p12, List.forall_mem_cons.mpr ⟨lw_p13, List.forall_mem_cons.mpr ⟨lw_p14, List.forall_mem_cons.mpr ⟨lw_p15, fun _ h => absurd h List.not_mem_nil⟩⟩⟩⟩⟩⟩⟩⟩⟩⟩⟩⟩⟩⟩⟩⟩
theorem lw_p16 : lw_okq (⟨"JoinDraws", "parentOf", "(ILJoinDraws$Tree;)I"⟩, 16) := ⟨⟨by decide +kernel, by decide +kernel⟩, List.mem_of_getElem? (i := 22) (by decide +kernel), List.mem_of_getElem? (i := 598) (by decide +kernel), List.mem_of_getElem? (i := 599) (by decide +kernel)⟩
theorem lw_p17 : lw_okq (⟨"JoinDraws", "isAsked", "(I)Z"⟩, 16) := ⟨⟨by decide +kernel, by decide +kernel⟩, List.mem_of_getElem? (i := 22) (by decide +kernel), List.mem_of_getElem? (i := 602) (by decide +kernel), List.mem_of_getElem? (i := 603) (by decide +kernel)⟩
theorem lw_p18 : lw_okq (⟨"JoinDraws", "isQuery", "(I)Z"⟩, 16) := ⟨⟨by decide +kernel, by decide +kernel⟩, List.mem_of_getElem? (i := 22) (by decide +kernel), List.mem_of_getElem? (i := 610) (by decide +kernel), List.mem_of_getElem? (i := 611) (by decide +kernel)⟩
theorem lw_p19 : lw_okq (⟨"JoinDraws", "askedAttributes", "()I"⟩, 16) := ⟨⟨by decide +kernel, by decide +kernel⟩, List.mem_of_getElem? (i := 22) (by decide +kernel), List.mem_of_getElem? (i := 618) (by decide +kernel), List.mem_of_getElem? (i := 619) (by decide +kernel)⟩
theorem lw_p20 : lw_okq (⟨"JoinDraws$Reader", "step", "()V"⟩, 9) := ⟨⟨by decide +kernel, by decide +kernel⟩, List.mem_of_getElem? (i := 36) (by decide +kernel), List.mem_of_getElem? (i := 638) (by decide +kernel), List.mem_of_getElem? (i := 639) (by decide +kernel)⟩
theorem lw_p21 : lw_okq (⟨"JoinDraws$Reader", "isLetter", "(I)Z"⟩, 9) := ⟨⟨by decide +kernel, by decide +kernel⟩, List.mem_of_getElem? (i := 36) (by decide +kernel), List.mem_of_getElem? (i := 642) (by decide +kernel), List.mem_of_getElem? (i := 643) (by decide +kernel)⟩
theorem lw_p22 : lw_okq (⟨"JoinDraws$Reader", "stepWord", "()V"⟩, 9) := ⟨⟨by decide +kernel, by decide +kernel⟩, List.mem_of_getElem? (i := 36) (by decide +kernel), List.mem_of_getElem? (i := 646) (by decide +kernel), List.mem_of_getElem? (i := 647) (by decide +kernel)⟩
theorem lw_p23 : lw_okq (⟨"JoinDraws$Reader", "nameOf", "()I"⟩, 9) := ⟨⟨by decide +kernel, by decide +kernel⟩, List.mem_of_getElem? (i := 36) (by decide +kernel), List.mem_of_getElem? (i := 650) (by decide +kernel), List.mem_of_getElem? (i := 651) (by decide +kernel)⟩
theorem lw_p24 : lw_okq (⟨"JoinDraws$Reader", "isWord", "(Ljava/lang/String;)Z"⟩, 9) := ⟨⟨by decide +kernel, by decide +kernel⟩, List.mem_of_getElem? (i := 36) (by decide +kernel), List.mem_of_getElem? (i := 655) (by decide +kernel), List.mem_of_getElem? (i := 656) (by decide +kernel)⟩
theorem lw_p25 : lw_okq (⟨"JoinDraws$Reader", "fail", "()V"⟩, 9) := ⟨⟨by decide +kernel, by decide +kernel⟩, List.mem_of_getElem? (i := 36) (by decide +kernel), List.mem_of_getElem? (i := 713) (by decide +kernel), List.mem_of_getElem? (i := 714) (by decide +kernel)⟩
theorem lw_p26 : lw_okq (⟨"JoinDraws$Reader", "isDigit", "(I)Z"⟩, 9) := ⟨⟨by decide +kernel, by decide +kernel⟩, List.mem_of_getElem? (i := 36) (by decide +kernel), List.mem_of_getElem? (i := 717) (by decide +kernel), List.mem_of_getElem? (i := 718) (by decide +kernel)⟩
theorem lw_p27 : lw_okq (⟨"JoinDraws$Reader", "stepNumber", "()V"⟩, 9) := ⟨⟨by decide +kernel, by decide +kernel⟩, List.mem_of_getElem? (i := 36) (by decide +kernel), List.mem_of_getElem? (i := 721) (by decide +kernel), List.mem_of_getElem? (i := 722) (by decide +kernel)⟩
theorem lw_p28 : lw_okq (⟨"JoinDraws$Reader", "expect", "(I)V"⟩, 9) := ⟨⟨by decide +kernel, by decide +kernel⟩, List.mem_of_getElem? (i := 36) (by decide +kernel), List.mem_of_getElem? (i := 784) (by decide +kernel), List.mem_of_getElem? (i := 785) (by decide +kernel)⟩
theorem lw_p29 : lw_okq (⟨"JoinDraws$Reader", "readEither", "(I)V"⟩, 9) := ⟨⟨by decide +kernel, by decide +kernel⟩, List.mem_of_getElem? (i := 36) (by decide +kernel), List.mem_of_getElem? (i := 788) (by decide +kernel), List.mem_of_getElem? (i := 789) (by decide +kernel)⟩
theorem lw_p30 : lw_okq (⟨"JoinDraws$Reader", "readBoth", "(I)V"⟩, 9) := ⟨⟨by decide +kernel, by decide +kernel⟩, List.mem_of_getElem? (i := 36) (by decide +kernel), List.mem_of_getElem? (i := 792) (by decide +kernel), List.mem_of_getElem? (i := 793) (by decide +kernel)⟩
theorem lw_p31 : lw_okq (⟨"JoinDraws$Reader", "readDenied", "(I)V"⟩, 9) := ⟨⟨by decide +kernel, by decide +kernel⟩, List.mem_of_getElem? (i := 36) (by decide +kernel), List.mem_of_getElem? (i := 796) (by decide +kernel), List.mem_of_getElem? (i := 797) (by decide +kernel)⟩
def lw_privs_2 : List (MethodName × Nat) := [(⟨"JoinDraws", "parentOf", "(ILJoinDraws$Tree;)I"⟩, 16), (⟨"JoinDraws", "isAsked", "(I)Z"⟩, 16), (⟨"JoinDraws", "isQuery", "(I)Z"⟩, 16), (⟨"JoinDraws", "askedAttributes", "()I"⟩, 16), (⟨"JoinDraws$Reader", "step", "()V"⟩, 9), (⟨"JoinDraws$Reader", "isLetter", "(I)Z"⟩, 9), (⟨"JoinDraws$Reader", "stepWord", "()V"⟩, 9), (⟨"JoinDraws$Reader", "nameOf", "()I"⟩, 9), (⟨"JoinDraws$Reader", "isWord", "(Ljava/lang/String;)Z"⟩, 9), (⟨"JoinDraws$Reader", "fail", "()V"⟩, 9), (⟨"JoinDraws$Reader", "isDigit", "(I)Z"⟩, 9), (⟨"JoinDraws$Reader", "stepNumber", "()V"⟩, 9), (⟨"JoinDraws$Reader", "expect", "(I)V"⟩, 9), (⟨"JoinDraws$Reader", "readEither", "(I)V"⟩, 9), (⟨"JoinDraws$Reader", "readBoth", "(I)V"⟩, 9), (⟨"JoinDraws$Reader", "readDenied", "(I)V"⟩, 9)]
theorem lw_r2 : ∀ q ∈ lw_privs_2, lw_okq q := List.forall_mem_cons.mpr ⟨lw_p16, List.forall_mem_cons.mpr ⟨lw_p17, List.forall_mem_cons.mpr ⟨lw_p18, List.forall_mem_cons.mpr ⟨lw_p19, List.forall_mem_cons.mpr ⟨lw_p20, List.forall_mem_cons.mpr ⟨lw_p21, List.forall_mem_cons.mpr ⟨lw_p22, List.forall_mem_cons.mpr ⟨lw_p23, List.forall_mem_cons.mpr ⟨lw_p24, List.forall_mem_cons.mpr ⟨lw_p25, List.forall_mem_cons.mpr ⟨lw_p26, List.forall_mem_cons.mpr ⟨lw_p27, List.forall_mem_cons.mpr ⟨lw_p28, List.forall_mem_cons.mpr ⟨lw_p29, List.forall_mem_cons.mpr ⟨lw_p30, List.forall_mem_cons.mpr ⟨lw_p31, fun _ h => absurd h List.not_mem_nil⟩⟩⟩⟩⟩⟩⟩⟩⟩⟩⟩⟩⟩⟩⟩⟩
theorem lw_p32 : lw_okq (⟨"JoinDraws$Reader", "readCompared", "(I)V"⟩, 9) := ⟨⟨by decide +kernel, by decide +kernel⟩, List.mem_of_getElem? (i := 36) (by decide +kernel), List.mem_of_getElem? (i := 800) (by decide +kernel), List.mem_of_getElem? (i := 801) (by decide +kernel)⟩
theorem lw_p33 : lw_okq (⟨"JoinDraws$Reader", "readSum", "(I)V"⟩, 9) := ⟨⟨by decide +kernel, by decide +kernel⟩, List.mem_of_getElem? (i := 36) (by decide +kernel), List.mem_of_getElem? (i := 804) (by decide +kernel), List.mem_of_getElem? (i := 805) (by decide +kernel)⟩
theorem lw_p34 : lw_okq (⟨"JoinDraws$Reader", "readTerm", "(I)V"⟩, 9) := ⟨⟨by decide +kernel, by decide +kernel⟩, List.mem_of_getElem? (i := 36) (by decide +kernel), List.mem_of_getElem? (i := 808) (by decide +kernel), List.mem_of_getElem? (i := 809) (by decide +kernel)⟩
theorem lw_p35 : lw_okq (⟨"JoinDraws$Reader", "readOne", "(I)V"⟩, 9) := ⟨⟨by decide +kernel, by decide +kernel⟩, List.mem_of_getElem? (i := 36) (by decide +kernel), List.mem_of_getElem? (i := 812) (by decide +kernel), List.mem_of_getElem? (i := 813) (by decide +kernel)⟩
theorem lw_p36 : lw_okq (⟨"JoinDraws$Reader", "readPlain", "(I)V"⟩, 9) := ⟨⟨by decide +kernel, by decide +kernel⟩, List.mem_of_getElem? (i := 36) (by decide +kernel), List.mem_of_getElem? (i := 816) (by decide +kernel), List.mem_of_getElem? (i := 817) (by decide +kernel)⟩
theorem lw_p37 : lw_okq (⟨"JoinDraws$Reader", "emit", "(II)V"⟩, 9) := ⟨⟨by decide +kernel, by decide +kernel⟩, List.mem_of_getElem? (i := 36) (by decide +kernel), List.mem_of_getElem? (i := 820) (by decide +kernel), List.mem_of_getElem? (i := 821) (by decide +kernel)⟩
theorem lw_p38 : lw_okq (⟨"JoinDraws$Reader", "emitAll", "(II)V"⟩, 9) := ⟨⟨by decide +kernel, by decide +kernel⟩, List.mem_of_getElem? (i := 36) (by decide +kernel), List.mem_of_getElem? (i := 824) (by decide +kernel), List.mem_of_getElem? (i := 825) (by decide +kernel)⟩
theorem lw_p39 : lw_okq (⟨"JoinDraws$Join", "walk", "(IIIJ)J"⟩, 18) := ⟨⟨by decide +kernel, by decide +kernel⟩, List.mem_of_getElem? (i := 134) (by decide +kernel), List.mem_of_getElem? (i := 857) (by decide +kernel), List.mem_of_getElem? (i := 858) (by decide +kernel)⟩
theorem lw_p40 : lw_okq (⟨"JoinDraws$Join", "walkRows", "(IIIJ)J"⟩, 18) := ⟨⟨by decide +kernel, by decide +kernel⟩, List.mem_of_getElem? (i := 134) (by decide +kernel), List.mem_of_getElem? (i := 861) (by decide +kernel), List.mem_of_getElem? (i := 862) (by decide +kernel)⟩
theorem lw_p41 : lw_okq (⟨"JoinDraws$Join", "leadInto", "(I)Z"⟩, 18) := ⟨⟨by decide +kernel, by decide +kernel⟩, List.mem_of_getElem? (i := 134) (by decide +kernel), List.mem_of_getElem? (i := 873) (by decide +kernel), List.mem_of_getElem? (i := 874) (by decide +kernel)⟩
theorem lw_p42 : lw_okq (⟨"JoinDraws$Join", "seat", "(II)V"⟩, 18) := ⟨⟨by decide +kernel, by decide +kernel⟩, List.mem_of_getElem? (i := 134) (by decide +kernel), List.mem_of_getElem? (i := 877) (by decide +kernel), List.mem_of_getElem? (i := 878) (by decide +kernel)⟩
theorem lw_p43 : lw_okq (⟨"JoinDraws$Join", "leadChildren", "(I)V"⟩, 18) := ⟨⟨by decide +kernel, by decide +kernel⟩, List.mem_of_getElem? (i := 134) (by decide +kernel), List.mem_of_getElem? (i := 881) (by decide +kernel), List.mem_of_getElem? (i := 882) (by decide +kernel)⟩
theorem lw_p44 : lw_okq (⟨"JoinDraws$Join", "check", "(I)Z"⟩, 18) := ⟨⟨by decide +kernel, by decide +kernel⟩, List.mem_of_getElem? (i := 134) (by decide +kernel), List.mem_of_getElem? (i := 885) (by decide +kernel), List.mem_of_getElem? (i := 886) (by decide +kernel)⟩
theorem lw_p45 : lw_okq (⟨"JoinDraws$Join", "isAnswer", "(I)Z"⟩, 18) := ⟨⟨by decide +kernel, by decide +kernel⟩, List.mem_of_getElem? (i := 134) (by decide +kernel), List.mem_of_getElem? (i := 905) (by decide +kernel), List.mem_of_getElem? (i := 906) (by decide +kernel)⟩
theorem lw_p46 : lw_okq (⟨"JoinDraws$Join", "weightsAhead", "(I)J"⟩, 18) := ⟨⟨by decide +kernel, by decide +kernel⟩, List.mem_of_getElem? (i := 134) (by decide +kernel), List.mem_of_getElem? (i := 910) (by decide +kernel), List.mem_of_getElem? (i := 911) (by decide +kernel)⟩
theorem lw_p47 : lw_okq (⟨"JoinDraws$Join", "leastUnder", "(I)J"⟩, 18) := ⟨⟨by decide +kernel, by decide +kernel⟩, List.mem_of_getElem? (i := 134) (by decide +kernel), List.mem_of_getElem? (i := 914) (by decide +kernel), List.mem_of_getElem? (i := 915) (by decide +kernel)⟩
def lw_privs_3 : List (MethodName × Nat) := [(⟨"JoinDraws$Reader", "readCompared", "(I)V"⟩, 9), (⟨"JoinDraws$Reader", "readSum", "(I)V"⟩, 9), (⟨"JoinDraws$Reader", "readTerm", "(I)V"⟩, 9), (⟨"JoinDraws$Reader", "readOne", "(I)V"⟩, 9), (⟨"JoinDraws$Reader", "readPlain", "(I)V"⟩, 9), (⟨"JoinDraws$Reader", "emit", "(II)V"⟩, 9), (⟨"JoinDraws$Reader", "emitAll", "(II)V"⟩, 9), (⟨"JoinDraws$Join", "walk", "(IIIJ)J"⟩, 18), (⟨"JoinDraws$Join", "walkRows", "(IIIJ)J"⟩, 18), (⟨"JoinDraws$Join", "leadInto", "(I)Z"⟩, 18), (⟨"JoinDraws$Join", "seat", "(II)V"⟩, 18), (⟨"JoinDraws$Join", "leadChildren", "(I)V"⟩, 18), (⟨"JoinDraws$Join", "check", "(I)Z"⟩, 18), (⟨"JoinDraws$Join", "isAnswer", "(I)Z"⟩, 18), (⟨"JoinDraws$Join", "weightsAhead", "(I)J"⟩, 18), (⟨"JoinDraws$Join", "leastUnder", "(I)J"⟩, 18)]
theorem lw_r3 : ∀ q ∈ lw_privs_3, lw_okq q := List.forall_mem_cons.mpr ⟨lw_p32, List.forall_mem_cons.mpr ⟨lw_p33, List.forall_mem_cons.mpr ⟨lw_p34, List.forall_mem_cons.mpr ⟨lw_p35, List.forall_mem_cons.mpr ⟨lw_p36, List.forall_mem_cons.mpr ⟨lw_p37, List.forall_mem_cons.mpr ⟨lw_p38, List.forall_mem_cons.mpr ⟨lw_p39, List.forall_mem_cons.mpr ⟨lw_p40, List.forall_mem_cons.mpr ⟨lw_p41, List.forall_mem_cons.mpr ⟨lw_p42, List.forall_mem_cons.mpr ⟨lw_p43, List.forall_mem_cons.mpr ⟨lw_p44, List.forall_mem_cons.mpr ⟨lw_p45, List.forall_mem_cons.mpr ⟨lw_p46, List.forall_mem_cons.mpr ⟨lw_p47, fun _ h => absurd h List.not_mem_nil⟩⟩⟩⟩⟩⟩⟩⟩⟩⟩⟩⟩⟩⟩⟩⟩
theorem lw_p48 : lw_okq (⟨"JoinDraws$Bits", "bit", "()I"⟩, 1) := ⟨⟨by decide +kernel, by decide +kernel⟩, List.mem_of_getElem? (i := 113) (by decide +kernel), List.mem_of_getElem? (i := 934) (by decide +kernel), List.mem_of_getElem? (i := 935) (by decide +kernel)⟩
theorem lw_p49 : lw_okq (⟨"JoinDraws$Shuffle", "standingAt", "(JI)J"⟩, 3) := ⟨⟨by decide +kernel, by decide +kernel⟩, List.mem_of_getElem? (i := 107) (by decide +kernel), List.mem_of_getElem? (i := 952) (by decide +kernel), List.mem_of_getElem? (i := 953) (by decide +kernel)⟩
theorem lw_p50 : lw_okq (⟨"JoinDraws", "isLiveItem", "(J)Z"⟩, 16) := ⟨⟨by decide +kernel, by decide +kernel⟩, List.mem_of_getElem? (i := 22) (by decide +kernel), List.mem_of_getElem? (i := 1006) (by decide +kernel), List.mem_of_getElem? (i := 1007) (by decide +kernel)⟩
theorem lw_p51 : lw_okq (⟨"JoinDraws", "setLiveItem", "(IZ)V"⟩, 16) := ⟨⟨by decide +kernel, by decide +kernel⟩, List.mem_of_getElem? (i := 22) (by decide +kernel), List.mem_of_getElem? (i := 1011) (by decide +kernel), List.mem_of_getElem? (i := 1012) (by decide +kernel)⟩
theorem lw_p52 : lw_okq (⟨"JoinDraws", "isEnough", "(J)Z"⟩, 16) := ⟨⟨by decide +kernel, by decide +kernel⟩, List.mem_of_getElem? (i := 22) (by decide +kernel), List.mem_of_getElem? (i := 1015) (by decide +kernel), List.mem_of_getElem? (i := 1016) (by decide +kernel)⟩
theorem lw_p53 : lw_okq (⟨"JoinDraws", "shut", "(I)V"⟩, 16) := ⟨⟨by decide +kernel, by decide +kernel⟩, List.mem_of_getElem? (i := 22) (by decide +kernel), List.mem_of_getElem? (i := 1019) (by decide +kernel), List.mem_of_getElem? (i := 1020) (by decide +kernel)⟩
theorem lw_p54 : lw_okq (⟨"JoinDraws", "tellers", "(LJoinDraws$Sheet;Z)I"⟩, 16) := ⟨⟨by decide +kernel, by decide +kernel⟩, List.mem_of_getElem? (i := 22) (by decide +kernel), List.mem_of_getElem? (i := 1038) (by decide +kernel), List.mem_of_getElem? (i := 1039) (by decide +kernel)⟩
theorem lw_p55 : lw_okq (⟨"JoinDraws", "rowsOfAll", "(Z)I"⟩, 16) := ⟨⟨by decide +kernel, by decide +kernel⟩, List.mem_of_getElem? (i := 22) (by decide +kernel), List.mem_of_getElem? (i := 1076) (by decide +kernel), List.mem_of_getElem? (i := 1077) (by decide +kernel)⟩
theorem lw_p56 : lw_okq (⟨"JoinDraws", "addItems", "(LJoinDraws$Relation;[JI)I"⟩, 16) := ⟨⟨by decide +kernel, by decide +kernel⟩, List.mem_of_getElem? (i := 22) (by decide +kernel), List.mem_of_getElem? (i := 1110) (by decide +kernel), List.mem_of_getElem? (i := 1111) (by decide +kernel)⟩
theorem lw_p57 : lw_okq (⟨"JoinDrawsModel", "spell", "(IIIIIIIII)V"⟩, 60) := ⟨⟨by decide +kernel, by decide +kernel⟩, List.mem_of_getElem? (i := 1120) (by decide +kernel), List.mem_of_getElem? (i := 1126) (by decide +kernel), List.mem_of_getElem? (i := 1127) (by decide +kernel)⟩
theorem lw_p58 : lw_okq (⟨"JoinDrawsModel", "isRelation", "(I)Z"⟩, 60) := ⟨⟨by decide +kernel, by decide +kernel⟩, List.mem_of_getElem? (i := 1120) (by decide +kernel), List.mem_of_getElem? (i := 1327) (by decide +kernel), List.mem_of_getElem? (i := 1328) (by decide +kernel)⟩
theorem lw_p59 : lw_okq (⟨"JoinDrawsModel", "isFull", "(IIII)Z"⟩, 60) := ⟨⟨by decide +kernel, by decide +kernel⟩, List.mem_of_getElem? (i := 1120) (by decide +kernel), List.mem_of_getElem? (i := 1333) (by decide +kernel), List.mem_of_getElem? (i := 1334) (by decide +kernel)⟩
theorem lw_p60 : lw_okq (⟨"JoinDrawsModel", "attribute", "(II)I"⟩, 60) := ⟨⟨by decide +kernel, by decide +kernel⟩, List.mem_of_getElem? (i := 1120) (by decide +kernel), List.mem_of_getElem? (i := 1343) (by decide +kernel), List.mem_of_getElem? (i := 1344) (by decide +kernel)⟩
theorem lw_p61 : lw_okq (⟨"JoinDrawsModel", "val", "(III)I"⟩, 60) := ⟨⟨by decide +kernel, by decide +kernel⟩, List.mem_of_getElem? (i := 1120) (by decide +kernel), List.mem_of_getElem? (i := 1347) (by decide +kernel), List.mem_of_getElem? (i := 1348) (by decide +kernel)⟩
theorem lw_p62 : lw_okq (⟨"JoinDrawsModel", "stands", "(IIIII)V"⟩, 60) := ⟨⟨by decide +kernel, by decide +kernel⟩, List.mem_of_getElem? (i := 1120) (by decide +kernel), List.mem_of_getElem? (i := 1351) (by decide +kernel), List.mem_of_getElem? (i := 1352) (by decide +kernel)⟩
theorem lw_p63 : lw_okq (⟨"JoinDrawsModel", "isTaken", "(II)Z"⟩, 60) := ⟨⟨by decide +kernel, by decide +kernel⟩, List.mem_of_getElem? (i := 1120) (by decide +kernel), List.mem_of_getElem? (i := 1355) (by decide +kernel), List.mem_of_getElem? (i := 1356) (by decide +kernel)⟩
def lw_privs_4 : List (MethodName × Nat) := [(⟨"JoinDraws$Bits", "bit", "()I"⟩, 1), (⟨"JoinDraws$Shuffle", "standingAt", "(JI)J"⟩, 3), (⟨"JoinDraws", "isLiveItem", "(J)Z"⟩, 16), (⟨"JoinDraws", "setLiveItem", "(IZ)V"⟩, 16), (⟨"JoinDraws", "isEnough", "(J)Z"⟩, 16), (⟨"JoinDraws", "shut", "(I)V"⟩, 16), (⟨"JoinDraws", "tellers", "(LJoinDraws$Sheet;Z)I"⟩, 16), (⟨"JoinDraws", "rowsOfAll", "(Z)I"⟩, 16), (⟨"JoinDraws", "addItems", "(LJoinDraws$Relation;[JI)I"⟩, 16), (⟨"JoinDrawsModel", "spell", "(IIIIIIIII)V"⟩, 60), (⟨"JoinDrawsModel", "isRelation", "(I)Z"⟩, 60), (⟨"JoinDrawsModel", "isFull", "(IIII)Z"⟩, 60), (⟨"JoinDrawsModel", "attribute", "(II)I"⟩, 60), (⟨"JoinDrawsModel", "val", "(III)I"⟩, 60), (⟨"JoinDrawsModel", "stands", "(IIIII)V"⟩, 60), (⟨"JoinDrawsModel", "isTaken", "(II)Z"⟩, 60)]
theorem lw_r4 : ∀ q ∈ lw_privs_4, lw_okq q := List.forall_mem_cons.mpr ⟨lw_p48, List.forall_mem_cons.mpr ⟨lw_p49, List.forall_mem_cons.mpr ⟨lw_p50, List.forall_mem_cons.mpr ⟨lw_p51, List.forall_mem_cons.mpr ⟨lw_p52, List.forall_mem_cons.mpr ⟨lw_p53, List.forall_mem_cons.mpr ⟨lw_p54, List.forall_mem_cons.mpr ⟨lw_p55, List.forall_mem_cons.mpr ⟨lw_p56, List.forall_mem_cons.mpr ⟨lw_p57, List.forall_mem_cons.mpr ⟨lw_p58, List.forall_mem_cons.mpr ⟨lw_p59, List.forall_mem_cons.mpr ⟨lw_p60, List.forall_mem_cons.mpr ⟨lw_p61, List.forall_mem_cons.mpr ⟨lw_p62, List.forall_mem_cons.mpr ⟨lw_p63, fun _ h => absurd h List.not_mem_nil⟩⟩⟩⟩⟩⟩⟩⟩⟩⟩⟩⟩⟩⟩⟩⟩
theorem lw_p64 : lw_okq (⟨"JoinDrawsModel", "isRow", "(II)Z"⟩, 60) := ⟨⟨by decide +kernel, by decide +kernel⟩, List.mem_of_getElem? (i := 1120) (by decide +kernel), List.mem_of_getElem? (i := 1363) (by decide +kernel), List.mem_of_getElem? (i := 1364) (by decide +kernel)⟩
theorem lw_p65 : lw_okq (⟨"JoinDrawsModel", "liveOf", "(I)I"⟩, 60) := ⟨⟨by decide +kernel, by decide +kernel⟩, List.mem_of_getElem? (i := 1120) (by decide +kernel), List.mem_of_getElem? (i := 1367) (by decide +kernel), List.mem_of_getElem? (i := 1368) (by decide +kernel)⟩
theorem lw_p66 : lw_okq (⟨"JoinDrawsModel", "isPassing", "(II)Z"⟩, 60) := ⟨⟨by decide +kernel, by decide +kernel⟩, List.mem_of_getElem? (i := 1120) (by decide +kernel), List.mem_of_getElem? (i := 1383) (by decide +kernel), List.mem_of_getElem? (i := 1384) (by decide +kernel)⟩
theorem lw_p67 : lw_okq (⟨"JoinDrawsModel", "read", "(I)I"⟩, 60) := ⟨⟨by decide +kernel, by decide +kernel⟩, List.mem_of_getElem? (i := 1120) (by decide +kernel), List.mem_of_getElem? (i := 1392) (by decide +kernel), List.mem_of_getElem? (i := 1393) (by decide +kernel)⟩
theorem lw_p68 : lw_okq (⟨"JoinDrawsModel", "next", "()V"⟩, 60) := ⟨⟨by decide +kernel, by decide +kernel⟩, List.mem_of_getElem? (i := 1120) (by decide +kernel), List.mem_of_getElem? (i := 1396) (by decide +kernel), List.mem_of_getElem? (i := 1397) (by decide +kernel)⟩
theorem lw_p69 : lw_okq (⟨"JoinDrawsModel", "byteAt", "(I)I"⟩, 60) := ⟨⟨by decide +kernel, by decide +kernel⟩, List.mem_of_getElem? (i := 1120) (by decide +kernel), List.mem_of_getElem? (i := 1400) (by decide +kernel), List.mem_of_getElem? (i := 1401) (by decide +kernel)⟩
theorem lw_p70 : lw_okq (⟨"JoinDrawsModel", "isWord", "(IIIIIIII)Z"⟩, 60) := ⟨⟨by decide +kernel, by decide +kernel⟩, List.mem_of_getElem? (i := 1120) (by decide +kernel), List.mem_of_getElem? (i := 1409) (by decide +kernel), List.mem_of_getElem? (i := 1410) (by decide +kernel)⟩
theorem lw_p71 : lw_okq (⟨"JoinDrawsModel", "isLetter", "(II)Z"⟩, 60) := ⟨⟨by decide +kernel, by decide +kernel⟩, List.mem_of_getElem? (i := 1120) (by decide +kernel), List.mem_of_getElem? (i := 1413) (by decide +kernel), List.mem_of_getElem? (i := 1414) (by decide +kernel)⟩
theorem lw_p72 : lw_okq (⟨"JoinDrawsModel", "part", "(Z)I"⟩, 60) := ⟨⟨by decide +kernel, by decide +kernel⟩, List.mem_of_getElem? (i := 1120) (by decide +kernel), List.mem_of_getElem? (i := 1417) (by decide +kernel), List.mem_of_getElem? (i := 1418) (by decide +kernel)⟩
theorem lw_p73 : lw_okq (⟨"JoinDrawsModel", "fail", "()V"⟩, 60) := ⟨⟨by decide +kernel, by decide +kernel⟩, List.mem_of_getElem? (i := 1120) (by decide +kernel), List.mem_of_getElem? (i := 1421) (by decide +kernel), List.mem_of_getElem? (i := 1422) (by decide +kernel)⟩
theorem lw_p74 : lw_okq (⟨"JoinDrawsModel", "either", "()I"⟩, 60) := ⟨⟨by decide +kernel, by decide +kernel⟩, List.mem_of_getElem? (i := 1120) (by decide +kernel), List.mem_of_getElem? (i := 1425) (by decide +kernel), List.mem_of_getElem? (i := 1426) (by decide +kernel)⟩
theorem lw_p75 : lw_okq (⟨"JoinDrawsModel", "both", "()I"⟩, 60) := ⟨⟨by decide +kernel, by decide +kernel⟩, List.mem_of_getElem? (i := 1120) (by decide +kernel), List.mem_of_getElem? (i := 1429) (by decide +kernel), List.mem_of_getElem? (i := 1430) (by decide +kernel)⟩
theorem lw_p76 : lw_okq (⟨"JoinDrawsModel", "not", "()I"⟩, 60) := ⟨⟨by decide +kernel, by decide +kernel⟩, List.mem_of_getElem? (i := 1120) (by decide +kernel), List.mem_of_getElem? (i := 1433) (by decide +kernel), List.mem_of_getElem? (i := 1434) (by decide +kernel)⟩
theorem lw_p77 : lw_okq (⟨"JoinDrawsModel", "opens", "()Z"⟩, 60) := ⟨⟨by decide +kernel, by decide +kernel⟩, List.mem_of_getElem? (i := 1120) (by decide +kernel), List.mem_of_getElem? (i := 1437) (by decide +kernel), List.mem_of_getElem? (i := 1438) (by decide +kernel)⟩
theorem lw_p78 : lw_okq (⟨"JoinDrawsModel", "added", "()I"⟩, 60) := ⟨⟨by decide +kernel, by decide +kernel⟩, List.mem_of_getElem? (i := 1120) (by decide +kernel), List.mem_of_getElem? (i := 1441) (by decide +kernel), List.mem_of_getElem? (i := 1442) (by decide +kernel)⟩
theorem lw_p79 : lw_okq (⟨"JoinDrawsModel", "term", "()I"⟩, 60) := ⟨⟨by decide +kernel, by decide +kernel⟩, List.mem_of_getElem? (i := 1120) (by decide +kernel), List.mem_of_getElem? (i := 1445) (by decide +kernel), List.mem_of_getElem? (i := 1446) (by decide +kernel)⟩
def lw_privs_5 : List (MethodName × Nat) := [(⟨"JoinDrawsModel", "isRow", "(II)Z"⟩, 60), (⟨"JoinDrawsModel", "liveOf", "(I)I"⟩, 60), (⟨"JoinDrawsModel", "isPassing", "(II)Z"⟩, 60), (⟨"JoinDrawsModel", "read", "(I)I"⟩, 60), (⟨"JoinDrawsModel", "next", "()V"⟩, 60), (⟨"JoinDrawsModel", "byteAt", "(I)I"⟩, 60), (⟨"JoinDrawsModel", "isWord", "(IIIIIIII)Z"⟩, 60), (⟨"JoinDrawsModel", "isLetter", "(II)Z"⟩, 60), (⟨"JoinDrawsModel", "part", "(Z)I"⟩, 60), (⟨"JoinDrawsModel", "fail", "()V"⟩, 60), (⟨"JoinDrawsModel", "either", "()I"⟩, 60), (⟨"JoinDrawsModel", "both", "()I"⟩, 60), (⟨"JoinDrawsModel", "not", "()I"⟩, 60), (⟨"JoinDrawsModel", "opens", "()Z"⟩, 60), (⟨"JoinDrawsModel", "added", "()I"⟩, 60), (⟨"JoinDrawsModel", "term", "()I"⟩, 60)]
theorem lw_r5 : ∀ q ∈ lw_privs_5, lw_okq q := List.forall_mem_cons.mpr ⟨lw_p64, List.forall_mem_cons.mpr ⟨lw_p65, List.forall_mem_cons.mpr ⟨lw_p66, List.forall_mem_cons.mpr ⟨lw_p67, List.forall_mem_cons.mpr ⟨lw_p68, List.forall_mem_cons.mpr ⟨lw_p69, List.forall_mem_cons.mpr ⟨lw_p70, List.forall_mem_cons.mpr ⟨lw_p71, List.forall_mem_cons.mpr ⟨lw_p72, List.forall_mem_cons.mpr ⟨lw_p73, List.forall_mem_cons.mpr ⟨lw_p74, List.forall_mem_cons.mpr ⟨lw_p75, List.forall_mem_cons.mpr ⟨lw_p76, List.forall_mem_cons.mpr ⟨lw_p77, List.forall_mem_cons.mpr ⟨lw_p78, List.forall_mem_cons.mpr ⟨lw_p79, fun _ h => absurd h List.not_mem_nil⟩⟩⟩⟩⟩⟩⟩⟩⟩⟩⟩⟩⟩⟩⟩⟩
theorem lw_p80 : lw_okq (⟨"JoinDrawsModel", "atom", "()I"⟩, 60) := ⟨⟨by decide +kernel, by decide +kernel⟩, List.mem_of_getElem? (i := 1120) (by decide +kernel), List.mem_of_getElem? (i := 1449) (by decide +kernel), List.mem_of_getElem? (i := 1450) (by decide +kernel)⟩
theorem lw_p81 : lw_okq (⟨"JoinDrawsModel", "isSign", "(I)Z"⟩, 60) := ⟨⟨by decide +kernel, by decide +kernel⟩, List.mem_of_getElem? (i := 1120) (by decide +kernel), List.mem_of_getElem? (i := 1453) (by decide +kernel), List.mem_of_getElem? (i := 1454) (by decide +kernel)⟩
theorem lw_p82 : lw_okq (⟨"JoinDrawsModel", "name", "()I"⟩, 60) := ⟨⟨by decide +kernel, by decide +kernel⟩, List.mem_of_getElem? (i := 1120) (by decide +kernel), List.mem_of_getElem? (i := 1457) (by decide +kernel), List.mem_of_getElem? (i := 1458) (by decide +kernel)⟩
theorem lw_p83 : lw_okq (⟨"JoinDrawsModel", "ofVal", "(I)I"⟩, 60) := ⟨⟨by decide +kernel, by decide +kernel⟩, List.mem_of_getElem? (i := 1120) (by decide +kernel), List.mem_of_getElem? (i := 1461) (by decide +kernel), List.mem_of_getElem? (i := 1462) (by decide +kernel)⟩
theorem lw_p84 : lw_okq (⟨"JoinDrawsModel", "worthOf", "(II)J"⟩, 60) := ⟨⟨by decide +kernel, by decide +kernel⟩, List.mem_of_getElem? (i := 1120) (by decide +kernel), List.mem_of_getElem? (i := 1472) (by decide +kernel), List.mem_of_getElem? (i := 1473) (by decide +kernel)⟩
theorem lw_p85 : lw_okq (⟨"JoinDrawsModel", "reckons", "()V"⟩, 60) := ⟨⟨by decide +kernel, by decide +kernel⟩, List.mem_of_getElem? (i := 1120) (by decide +kernel), List.mem_of_getElem? (i := 1500) (by decide +kernel), List.mem_of_getElem? (i := 1501) (by decide +kernel)⟩
theorem lw_p86 : lw_okq (⟨"JoinDrawsModel", "keptNow", "()I"⟩, 60) := ⟨⟨by decide +kernel, by decide +kernel⟩, List.mem_of_getElem? (i := 1120) (by decide +kernel), List.mem_of_getElem? (i := 1504) (by decide +kernel), List.mem_of_getElem? (i := 1505) (by decide +kernel)⟩
theorem lw_p87 : lw_okq (⟨"JoinDrawsModel", "isIn", "(I)Z"⟩, 60) := ⟨⟨by decide +kernel, by decide +kernel⟩, List.mem_of_getElem? (i := 1120) (by decide +kernel), List.mem_of_getElem? (i := 1508) (by decide +kernel), List.mem_of_getElem? (i := 1509) (by decide +kernel)⟩
theorem lw_p88 : lw_okq (⟨"JoinDrawsModel", "isTree", "(I)Z"⟩, 60) := ⟨⟨by decide +kernel, by decide +kernel⟩, List.mem_of_getElem? (i := 1120) (by decide +kernel), List.mem_of_getElem? (i := 1512) (by decide +kernel), List.mem_of_getElem? (i := 1513) (by decide +kernel)⟩
theorem lw_p89 : lw_okq (⟨"JoinDrawsModel", "isEar", "(III)Z"⟩, 60) := ⟨⟨by decide +kernel, by decide +kernel⟩, List.mem_of_getElem? (i := 1120) (by decide +kernel), List.mem_of_getElem? (i := 1516) (by decide +kernel), List.mem_of_getElem? (i := 1517) (by decide +kernel)⟩
theorem lw_p90 : lw_okq (⟨"JoinDrawsModel", "isReady", "(I)Z"⟩, 60) := ⟨⟨by decide +kernel, by decide +kernel⟩, List.mem_of_getElem? (i := 1120) (by decide +kernel), List.mem_of_getElem? (i := 1520) (by decide +kernel), List.mem_of_getElem? (i := 1521) (by decide +kernel)⟩
theorem lw_p91 : lw_okq (⟨"JoinDrawsModel", "childrenOf", "(I)I"⟩, 60) := ⟨⟨by decide +kernel, by decide +kernel⟩, List.mem_of_getElem? (i := 1120) (by decide +kernel), List.mem_of_getElem? (i := 1524) (by decide +kernel), List.mem_of_getElem? (i := 1525) (by decide +kernel)⟩
theorem lw_p92 : lw_okq (⟨"JoinDrawsModel", "weighs", "(I)V"⟩, 60) := ⟨⟨by decide +kernel, by decide +kernel⟩, List.mem_of_getElem? (i := 1120) (by decide +kernel), List.mem_of_getElem? (i := 1528) (by decide +kernel), List.mem_of_getElem? (i := 1529) (by decide +kernel)⟩
theorem lw_p93 : lw_okq (⟨"JoinDrawsModel", "sumOf", "(III)J"⟩, 60) := ⟨⟨by decide +kernel, by decide +kernel⟩, List.mem_of_getElem? (i := 1120) (by decide +kernel), List.mem_of_getElem? (i := 1532) (by decide +kernel), List.mem_of_getElem? (i := 1533) (by decide +kernel)⟩
theorem lw_p94 : lw_okq (⟨"JoinDrawsModel", "isMatching", "(IIII)Z"⟩, 60) := ⟨⟨by decide +kernel, by decide +kernel⟩, List.mem_of_getElem? (i := 1120) (by decide +kernel), List.mem_of_getElem? (i := 1536) (by decide +kernel), List.mem_of_getElem? (i := 1537) (by decide +kernel)⟩
theorem lw_p95 : lw_okq (⟨"JoinDrawsModel", "plus", "(JJ)J"⟩, 60) := ⟨⟨by decide +kernel, by decide +kernel⟩, List.mem_of_getElem? (i := 1120) (by decide +kernel), List.mem_of_getElem? (i := 1540) (by decide +kernel), List.mem_of_getElem? (i := 1541) (by decide +kernel)⟩
def lw_privs_6 : List (MethodName × Nat) := [(⟨"JoinDrawsModel", "atom", "()I"⟩, 60), (⟨"JoinDrawsModel", "isSign", "(I)Z"⟩, 60), (⟨"JoinDrawsModel", "name", "()I"⟩, 60), (⟨"JoinDrawsModel", "ofVal", "(I)I"⟩, 60), (⟨"JoinDrawsModel", "worthOf", "(II)J"⟩, 60), (⟨"JoinDrawsModel", "reckons", "()V"⟩, 60), (⟨"JoinDrawsModel", "keptNow", "()I"⟩, 60), (⟨"JoinDrawsModel", "isIn", "(I)Z"⟩, 60), (⟨"JoinDrawsModel", "isTree", "(I)Z"⟩, 60), (⟨"JoinDrawsModel", "isEar", "(III)Z"⟩, 60), (⟨"JoinDrawsModel", "isReady", "(I)Z"⟩, 60), (⟨"JoinDrawsModel", "childrenOf", "(I)I"⟩, 60), (⟨"JoinDrawsModel", "weighs", "(I)V"⟩, 60), (⟨"JoinDrawsModel", "sumOf", "(III)J"⟩, 60), (⟨"JoinDrawsModel", "isMatching", "(IIII)Z"⟩, 60), (⟨"JoinDrawsModel", "plus", "(JJ)J"⟩, 60)]
theorem lw_r6 : ∀ q ∈ lw_privs_6, lw_okq q := List.forall_mem_cons.mpr ⟨lw_p80, List.forall_mem_cons.mpr ⟨lw_p81, List.forall_mem_cons.mpr ⟨lw_p82, List.forall_mem_cons.mpr ⟨lw_p83, List.forall_mem_cons.mpr ⟨lw_p84, List.forall_mem_cons.mpr ⟨lw_p85, List.forall_mem_cons.mpr ⟨lw_p86, List.forall_mem_cons.mpr ⟨lw_p87, List.forall_mem_cons.mpr ⟨lw_p88, List.forall_mem_cons.mpr ⟨lw_p89, List.forall_mem_cons.mpr ⟨lw_p90, List.forall_mem_cons.mpr ⟨lw_p91, List.forall_mem_cons.mpr ⟨lw_p92, List.forall_mem_cons.mpr ⟨lw_p93, List.forall_mem_cons.mpr ⟨lw_p94, List.forall_mem_cons.mpr ⟨lw_p95, fun _ h => absurd h List.not_mem_nil⟩⟩⟩⟩⟩⟩⟩⟩⟩⟩⟩⟩⟩⟩⟩⟩
theorem lw_p96 : lw_okq (⟨"JoinDrawsModel", "times", "(JJ)J"⟩, 60) := ⟨⟨by decide +kernel, by decide +kernel⟩, List.mem_of_getElem? (i := 1120) (by decide +kernel), List.mem_of_getElem? (i := 1545) (by decide +kernel), List.mem_of_getElem? (i := 1546) (by decide +kernel)⟩
theorem lw_p97 : lw_okq (⟨"JoinDrawsModel", "isCheck", "(I)Z"⟩, 60) := ⟨⟨by decide +kernel, by decide +kernel⟩, List.mem_of_getElem? (i := 1120) (by decide +kernel), List.mem_of_getElem? (i := 1549) (by decide +kernel), List.mem_of_getElem? (i := 1550) (by decide +kernel)⟩
theorem lw_p98 : lw_okq (⟨"JoinDrawsModel", "boundOf", "(I)J"⟩, 60) := ⟨⟨by decide +kernel, by decide +kernel⟩, List.mem_of_getElem? (i := 1120) (by decide +kernel), List.mem_of_getElem? (i := 1553) (by decide +kernel), List.mem_of_getElem? (i := 1554) (by decide +kernel)⟩
theorem lw_p99 : lw_okq (⟨"JoinDrawsModel", "attributesNow", "()I"⟩, 60) := ⟨⟨by decide +kernel, by decide +kernel⟩, List.mem_of_getElem? (i := 1120) (by decide +kernel), List.mem_of_getElem? (i := 1561) (by decide +kernel), List.mem_of_getElem? (i := 1562) (by decide +kernel)⟩
theorem lw_p100 : lw_okq (⟨"JoinDrawsModel", "isTold", "()Z"⟩, 60) := ⟨⟨by decide +kernel, by decide +kernel⟩, List.mem_of_getElem? (i := 1120) (by decide +kernel), List.mem_of_getElem? (i := 1569) (by decide +kernel), List.mem_of_getElem? (i := 1570) (by decide +kernel)⟩
theorem lw_p101 : lw_okq (⟨"JoinDrawsModel", "countNow", "()J"⟩, 60) := ⟨⟨by decide +kernel, by decide +kernel⟩, List.mem_of_getElem? (i := 1120) (by decide +kernel), List.mem_of_getElem? (i := 1585) (by decide +kernel), List.mem_of_getElem? (i := 1586) (by decide +kernel)⟩
theorem lw_p102 : lw_okq (⟨"JoinDrawsModel", "isAnswer", "()Z"⟩, 60) := ⟨⟨by decide +kernel, by decide +kernel⟩, List.mem_of_getElem? (i := 1120) (by decide +kernel), List.mem_of_getElem? (i := 1589) (by decide +kernel), List.mem_of_getElem? (i := 1590) (by decide +kernel)⟩
theorem lw_p103 : lw_okq (⟨"JoinDrawsModel", "valueNow", "(I)I"⟩, 60) := ⟨⟨by decide +kernel, by decide +kernel⟩, List.mem_of_getElem? (i := 1120) (by decide +kernel), List.mem_of_getElem? (i := 1593) (by decide +kernel), List.mem_of_getElem? (i := 1594) (by decide +kernel)⟩
theorem lw_p104 : lw_okq (⟨"JoinDrawsModel", "timesNow", "()J"⟩, 60) := ⟨⟨by decide +kernel, by decide +kernel⟩, List.mem_of_getElem? (i := 1120) (by decide +kernel), List.mem_of_getElem? (i := 1597) (by decide +kernel), List.mem_of_getElem? (i := 1598) (by decide +kernel)⟩
theorem lw_p105 : lw_okq (⟨"JoinDrawsModel", "isGood", "(J)Z"⟩, 60) := ⟨⟨by decide +kernel, by decide +kernel⟩, List.mem_of_getElem? (i := 1120) (by decide +kernel), List.mem_of_getElem? (i := 1606) (by decide +kernel), List.mem_of_getElem? (i := 1607) (by decide +kernel)⟩
theorem lw_p106 : lw_okq (⟨"JoinDrawsModel", "leads", "(IIJ)V"⟩, 60) := ⟨⟨by decide +kernel, by decide +kernel⟩, List.mem_of_getElem? (i := 1120) (by decide +kernel), List.mem_of_getElem? (i := 1610) (by decide +kernel), List.mem_of_getElem? (i := 1611) (by decide +kernel)⟩
theorem lw_p107 : lw_okq (⟨"JoinDrawsModel", "ledInto", "(IIJ)I"⟩, 60) := ⟨⟨by decide +kernel, by decide +kernel⟩, List.mem_of_getElem? (i := 1120) (by decide +kernel), List.mem_of_getElem? (i := 1614) (by decide +kernel), List.mem_of_getElem? (i := 1615) (by decide +kernel)⟩
theorem lw_p108 : lw_okq (⟨"JoinDrawsModel", "checked", "(I)I"⟩, 60) := ⟨⟨by decide +kernel, by decide +kernel⟩, List.mem_of_getElem? (i := 1120) (by decide +kernel), List.mem_of_getElem? (i := 1618) (by decide +kernel), List.mem_of_getElem? (i := 1619) (by decide +kernel)⟩
theorem lw_p109 : lw_okq (⟨"JoinDrawsModel", "isChecked", "(II)Z"⟩, 60) := ⟨⟨by decide +kernel, by decide +kernel⟩, List.mem_of_getElem? (i := 1120) (by decide +kernel), List.mem_of_getElem? (i := 1622) (by decide +kernel), List.mem_of_getElem? (i := 1623) (by decide +kernel)⟩
theorem lw_p110 : lw_okq (⟨"JoinDrawsModel", "digitsNow", "()I"⟩, 60) := ⟨⟨by decide +kernel, by decide +kernel⟩, List.mem_of_getElem? (i := 1120) (by decide +kernel), List.mem_of_getElem? (i := 1626) (by decide +kernel), List.mem_of_getElem? (i := 1627) (by decide +kernel)⟩
theorem lw_p111 : lw_okq (⟨"JoinDrawsModel", "leastOf", "(II)J"⟩, 60) := ⟨⟨by decide +kernel, by decide +kernel⟩, List.mem_of_getElem? (i := 1120) (by decide +kernel), List.mem_of_getElem? (i := 1634) (by decide +kernel), List.mem_of_getElem? (i := 1635) (by decide +kernel)⟩
def lw_privs_7 : List (MethodName × Nat) := [(⟨"JoinDrawsModel", "times", "(JJ)J"⟩, 60), (⟨"JoinDrawsModel", "isCheck", "(I)Z"⟩, 60), (⟨"JoinDrawsModel", "boundOf", "(I)J"⟩, 60), (⟨"JoinDrawsModel", "attributesNow", "()I"⟩, 60), (⟨"JoinDrawsModel", "isTold", "()Z"⟩, 60), (⟨"JoinDrawsModel", "countNow", "()J"⟩, 60), (⟨"JoinDrawsModel", "isAnswer", "()Z"⟩, 60), (⟨"JoinDrawsModel", "valueNow", "(I)I"⟩, 60), (⟨"JoinDrawsModel", "timesNow", "()J"⟩, 60), (⟨"JoinDrawsModel", "isGood", "(J)Z"⟩, 60), (⟨"JoinDrawsModel", "leads", "(IIJ)V"⟩, 60), (⟨"JoinDrawsModel", "ledInto", "(IIJ)I"⟩, 60), (⟨"JoinDrawsModel", "checked", "(I)I"⟩, 60), (⟨"JoinDrawsModel", "isChecked", "(II)Z"⟩, 60), (⟨"JoinDrawsModel", "digitsNow", "()I"⟩, 60), (⟨"JoinDrawsModel", "leastOf", "(II)J"⟩, 60)]
theorem lw_r7 : ∀ q ∈ lw_privs_7, lw_okq q := List.forall_mem_cons.mpr ⟨lw_p96, List.forall_mem_cons.mpr ⟨lw_p97, List.forall_mem_cons.mpr ⟨lw_p98, List.forall_mem_cons.mpr ⟨lw_p99, List.forall_mem_cons.mpr ⟨lw_p100, List.forall_mem_cons.mpr ⟨lw_p101, List.forall_mem_cons.mpr ⟨lw_p102, List.forall_mem_cons.mpr ⟨lw_p103, List.forall_mem_cons.mpr ⟨lw_p104, List.forall_mem_cons.mpr ⟨lw_p105, List.forall_mem_cons.mpr ⟨lw_p106, List.forall_mem_cons.mpr ⟨lw_p107, List.forall_mem_cons.mpr ⟨lw_p108, List.forall_mem_cons.mpr ⟨lw_p109, List.forall_mem_cons.mpr ⟨lw_p110, List.forall_mem_cons.mpr ⟨lw_p111, fun _ h => absurd h List.not_mem_nil⟩⟩⟩⟩⟩⟩⟩⟩⟩⟩⟩⟩⟩⟩⟩⟩
theorem lw_p112 : lw_okq (⟨"JoinDrawsModel", "isDrawn", "(I)Z"⟩, 60) := ⟨⟨by decide +kernel, by decide +kernel⟩, List.mem_of_getElem? (i := 1120) (by decide +kernel), List.mem_of_getElem? (i := 1642) (by decide +kernel), List.mem_of_getElem? (i := 1643) (by decide +kernel)⟩
theorem lw_p113 : lw_okq (⟨"JoinDrawsModel", "below", "(J)J"⟩, 60) := ⟨⟨by decide +kernel, by decide +kernel⟩, List.mem_of_getElem? (i := 1120) (by decide +kernel), List.mem_of_getElem? (i := 1646) (by decide +kernel), List.mem_of_getElem? (i := 1647) (by decide +kernel)⟩
theorem lw_p114 : lw_okq (⟨"JoinDrawsModel", "stood", "(J)J"⟩, 60) := ⟨⟨by decide +kernel, by decide +kernel⟩, List.mem_of_getElem? (i := 1120) (by decide +kernel), List.mem_of_getElem? (i := 1655) (by decide +kernel), List.mem_of_getElem? (i := 1656) (by decide +kernel)⟩
theorem lw_p115 : lw_okq (⟨"JoinDrawsModel", "puts", "(JJ)V"⟩, 60) := ⟨⟨by decide +kernel, by decide +kernel⟩, List.mem_of_getElem? (i := 1120) (by decide +kernel), List.mem_of_getElem? (i := 1659) (by decide +kernel), List.mem_of_getElem? (i := 1660) (by decide +kernel)⟩
theorem lw_p116 : lw_okq (⟨"JoinDrawsModel", "countOf", "(II)J"⟩, 60) := ⟨⟨by decide +kernel, by decide +kernel⟩, List.mem_of_getElem? (i := 1120) (by decide +kernel), List.mem_of_getElem? (i := 1667) (by decide +kernel), List.mem_of_getElem? (i := 1668) (by decide +kernel)⟩
theorem lw_p117 : lw_okq (⟨"JoinDrawsModel", "isName", "(I)Z"⟩, 60) := ⟨⟨by decide +kernel, by decide +kernel⟩, List.mem_of_getElem? (i := 1120) (by decide +kernel), List.mem_of_getElem? (i := 1678) (by decide +kernel), List.mem_of_getElem? (i := 1679) (by decide +kernel)⟩
theorem lw_p118 : lw_okq (⟨"JoinDrawsModel", "countValue", "(II)J"⟩, 60) := ⟨⟨by decide +kernel, by decide +kernel⟩, List.mem_of_getElem? (i := 1120) (by decide +kernel), List.mem_of_getElem? (i := 1682) (by decide +kernel), List.mem_of_getElem? (i := 1683) (by decide +kernel)⟩
theorem lw_p119 : lw_okq (⟨"JoinDrawsModel", "countWithout", "(II)J"⟩, 60) := ⟨⟨by decide +kernel, by decide +kernel⟩, List.mem_of_getElem? (i := 1120) (by decide +kernel), List.mem_of_getElem? (i := 1698) (by decide +kernel), List.mem_of_getElem? (i := 1699) (by decide +kernel)⟩
theorem lw_p120 : lw_okq (⟨"JoinDrawsModel", "firstOther", "(I)I"⟩, 60) := ⟨⟨by decide +kernel, by decide +kernel⟩, List.mem_of_getElem? (i := 1120) (by decide +kernel), List.mem_of_getElem? (i := 1728) (by decide +kernel), List.mem_of_getElem? (i := 1729) (by decide +kernel)⟩
theorem lw_p121 : lw_okq (⟨"JoinDrawsModel", "drawnBy", "(I)I"⟩, 60) := ⟨⟨by decide +kernel, by decide +kernel⟩, List.mem_of_getElem? (i := 1120) (by decide +kernel), List.mem_of_getElem? (i := 1732) (by decide +kernel), List.mem_of_getElem? (i := 1733) (by decide +kernel)⟩
def lw_privs_8 : List (MethodName × Nat) := [(⟨"JoinDrawsModel", "isDrawn", "(I)Z"⟩, 60), (⟨"JoinDrawsModel", "below", "(J)J"⟩, 60), (⟨"JoinDrawsModel", "stood", "(J)J"⟩, 60), (⟨"JoinDrawsModel", "puts", "(JJ)V"⟩, 60), (⟨"JoinDrawsModel", "countOf", "(II)J"⟩, 60), (⟨"JoinDrawsModel", "isName", "(I)Z"⟩, 60), (⟨"JoinDrawsModel", "countValue", "(II)J"⟩, 60), (⟨"JoinDrawsModel", "countWithout", "(II)J"⟩, 60), (⟨"JoinDrawsModel", "firstOther", "(I)I"⟩, 60), (⟨"JoinDrawsModel", "drawnBy", "(I)I"⟩, 60)]
theorem lw_r8 : ∀ q ∈ lw_privs_8, lw_okq q := List.forall_mem_cons.mpr ⟨lw_p112, List.forall_mem_cons.mpr ⟨lw_p113, List.forall_mem_cons.mpr ⟨lw_p114, List.forall_mem_cons.mpr ⟨lw_p115, List.forall_mem_cons.mpr ⟨lw_p116, List.forall_mem_cons.mpr ⟨lw_p117, List.forall_mem_cons.mpr ⟨lw_p118, List.forall_mem_cons.mpr ⟨lw_p119, List.forall_mem_cons.mpr ⟨lw_p120, List.forall_mem_cons.mpr ⟨lw_p121, fun _ h => absurd h List.not_mem_nil⟩⟩⟩⟩⟩⟩⟩⟩⟩⟩
def lw_privs : List (MethodName × Nat) := lw_privs_1 ++ (lw_privs_2 ++ (lw_privs_3 ++ (lw_privs_4 ++ (lw_privs_5 ++ (lw_privs_6 ++ (lw_privs_7 ++ (lw_privs_8)))))))
def lw_tbl : List Cond := k2_sels lw_privs ++ tables_1
theorem lw_privs_ok : ∀ q ∈ lw_privs, lw_okq q := by
  show ∀ q ∈ lw_privs_1 ++ (lw_privs_2 ++ (lw_privs_3 ++ (lw_privs_4 ++ (lw_privs_5 ++ (lw_privs_6 ++ (lw_privs_7 ++ (lw_privs_8))))))), lw_okq q
  exact List.forall_mem_append.mpr ⟨lw_r1, List.forall_mem_append.mpr ⟨lw_r2, List.forall_mem_append.mpr ⟨lw_r3, List.forall_mem_append.mpr ⟨lw_r4, List.forall_mem_append.mpr ⟨lw_r5, List.forall_mem_append.mpr ⟨lw_r6, List.forall_mem_append.mpr ⟨lw_r7, lw_r8⟩⟩⟩⟩⟩⟩⟩
def RX0 : String := "JoinDraws$Bits"
def TX0 : u_T := fun k => match k with
  | _ => ("JoinDraws$Bits", "z", "I", false)
def tyX0 : Nat → FieldType := fun k => match k with
  | _ => .int
abbrev wsX00 : List Cond := u_ws RX0 TX0 1
theorem nmX0 : ∀ a, a < 1 → ∀ b, b < 1 → a ≠ b → (TX0 a).2.1 ≠ (TX0 b).2.1 := by decide +kernel
theorem tyX0_ok : ∀ k, k < 1 → parseFieldDescriptor (TX0 k).2.2.1 = some (tyX0 k) := by decide +kernel
abbrev cX0_init : ByteArray := prog_2_method_1_code
def yX0_init : MethodName := ⟨RX0, "<init>", "()V"⟩
abbrev cX0_begin : ByteArray := prog_2_method_2_code
def yX0_begin : MethodName := ⟨RX0, "begin", "(I)V"⟩
abbrev cX0_bit : ByteArray := prog_2_method_3_code
def yX0_bit : MethodName := ⟨RX0, "bit", "()I"⟩
abbrev cX0_below : ByteArray := prog_2_method_4_code
def yX0_below : MethodName := ⟨RX0, "below", "(J)J"⟩
def RX1 : String := "JoinDraws$Image"
def TX1 : u_T := fun k => match k with
  | 0 => ("JoinDraws$Image", "there", "Z", false)
  | 1 => ("JoinDraws$Image", "made", "I", false)
  | 2 => ("JoinDraws$Image", "asked", "I", false)
  | 3 => ("JoinDraws$Image", "rule", "I", false)
  | 4 => ("JoinDraws$Image", "sizes", "[I", true)
  | 5 => ("JoinDraws$Image", "lives", "[I", true)
  | _ => ("JoinDraws$Image", "copies", "[I", true)
def tyX1 : Nat → FieldType := fun k => match k with
  | 0 => .boolean
  | 1 => .int
  | 2 => .int
  | 3 => .int
  | 4 => .array .int
  | 5 => .array .int
  | _ => .array .int
abbrev wsX10 : List Cond := u_ws RX1 TX1 7
theorem nmX1 : ∀ a, a < 7 → ∀ b, b < 7 → a ≠ b → (TX1 a).2.1 ≠ (TX1 b).2.1 := by decide +kernel
theorem tyX1_ok : ∀ k, k < 7 → parseFieldDescriptor (TX1 k).2.2.1 = some (tyX1 k) := by decide +kernel
abbrev cX1_init : ByteArray := prog_3_method_1_code
def yX1_init : MethodName := ⟨RX1, "<init>", "()V"⟩
abbrev cX1_keep : ByteArray := prog_3_method_2_code
def yX1_keep : MethodName := ⟨RX1, "keep", "([LJoinDraws$Relation;III)V"⟩
abbrev cX1_layBack : ByteArray := prog_3_method_3_code
def yX1_layBack : MethodName := ⟨RX1, "layBack", "([LJoinDraws$Relation;)V"⟩
def RX2 : String := "JoinDraws$Join"
def TX2 : u_T := fun k => match k with
  | 0 => ("JoinDraws$Join", "tree", "LJoinDraws$Tree;", true)
  | 1 => ("JoinDraws$Join", "weight", "[J", true)
  | 2 => ("JoinDraws$Join", "bound", "[J", true)
  | 3 => ("JoinDraws$Join", "under", "[J", true)
  | 4 => ("JoinDraws$Join", "use", "[J", true)
  | 5 => ("JoinDraws$Join", "great", "Z", false)
  | 6 => ("JoinDraws$Join", "space", "J", false)
  | 7 => ("JoinDraws$Join", "draws", "I", false)
  | 8 => ("JoinDraws$Join", "bits", "LJoinDraws$Bits;", true)
  | 9 => ("JoinDraws$Join", "passing", "[I", true)
  | 10 => ("JoinDraws$Join", "pick", "[I", true)
  | 11 => ("JoinDraws$Join", "led", "[J", true)
  | 12 => ("JoinDraws$Join", "relations", "[LJoinDraws$Relation;", false)
  | 13 => ("JoinDraws$Join", "query", "I", false)
  | 14 => ("JoinDraws$Join", "tallied", "Z", false)
  | 15 => ("JoinDraws$Join", "count", "J", false)
  | 16 => ("JoinDraws$Join", "stands", "I", false)
  | _ => ("JoinDraws$Join", "spread", "I", false)
def tyX2 : Nat → FieldType := fun k => match k with
  | 0 => .object "JoinDraws$Tree"
  | 1 => .array .long
  | 2 => .array .long
  | 3 => .array .long
  | 4 => .array .long
  | 5 => .boolean
  | 6 => .long
  | 7 => .int
  | 8 => .object "JoinDraws$Bits"
  | 9 => .array .int
  | 10 => .array .int
  | 11 => .array .long
  | 12 => .array (.object "JoinDraws$Relation")
  | 13 => .int
  | 14 => .boolean
  | 15 => .long
  | 16 => .int
  | _ => .int
abbrev wsX20 : List Cond := u_ws RX2 TX2 18
theorem nmX2 : ∀ a, a < 18 → ∀ b, b < 18 → a ≠ b → (TX2 a).2.1 ≠ (TX2 b).2.1 := by decide +kernel
theorem tyX2_ok : ∀ k, k < 18 → parseFieldDescriptor (TX2 k).2.2.1 = some (tyX2 k) := by decide +kernel
abbrev cX2_init : ByteArray := prog_4_method_1_code
def yX2_init : MethodName := ⟨RX2, "<init>", "()V"⟩
abbrev cX2_tell : ByteArray := prog_4_method_2_code
def yX2_tell : MethodName := ⟨RX2, "tell", "([LJoinDraws$Relation;LJoinDraws$Text;I)V"⟩
abbrev cX2_isTold : ByteArray := prog_4_method_3_code
def yX2_isTold : MethodName := ⟨RX2, "isTold", "()Z"⟩
abbrev cX2_plus : ByteArray := prog_4_method_4_code
def yX2_plus : MethodName := ⟨RX2, "plus", "(JJ)J"⟩
abbrev cX2_times : ByteArray := prog_4_method_5_code
def yX2_times : MethodName := ⟨RX2, "times", "(JJ)J"⟩
abbrev cX2_weigh : ByteArray := prog_4_method_6_code
def yX2_weigh : MethodName := ⟨RX2, "weigh", "(I)V"⟩
abbrev cX2_sumOf : ByteArray := prog_4_method_7_code
def yX2_sumOf : MethodName := ⟨RX2, "sumOf", "(III)J"⟩
abbrev cX2_boundChecks : ByteArray := prog_4_method_8_code
def yX2_boundChecks : MethodName := ⟨RX2, "boundChecks", "()V"⟩
abbrev cX2_greatestHeap : ByteArray := prog_4_method_9_code
def yX2_greatestHeap : MethodName := ⟨RX2, "greatestHeap", "(II)J"⟩
abbrev cX2_worthsAhead : ByteArray := prog_4_method_10_code
def yX2_worthsAhead : MethodName := ⟨RX2, "worthsAhead", "(IIII)J"⟩
abbrev cX2_lead : ByteArray := prog_4_method_11_code
def yX2_lead : MethodName := ⟨RX2, "lead", "(J)Z"⟩
abbrev cX2_leadInto : ByteArray := prog_4_method_12_code
def yX2_leadInto : MethodName := ⟨RX2, "leadInto", "(I)Z"⟩
abbrev cX2_leadChildren : ByteArray := prog_4_method_13_code
def yX2_leadChildren : MethodName := ⟨RX2, "leadChildren", "(I)V"⟩
abbrev cX2_check : ByteArray := prog_4_method_14_code
def yX2_check : MethodName := ⟨RX2, "check", "(I)Z"⟩
abbrev cX2_seat : ByteArray := prog_4_method_15_code
def yX2_seat : MethodName := ⟨RX2, "seat", "(II)V"⟩
abbrev cX2_digits : ByteArray := prog_4_method_16_code
def yX2_digits : MethodName := ⟨RX2, "digits", "()I"⟩
abbrev cX2_answerValue : ByteArray := prog_4_method_17_code
def yX2_answerValue : MethodName := ⟨RX2, "answerValue", "(I)I"⟩
abbrev cX2_placeOf : ByteArray := prog_4_method_18_code
def yX2_placeOf : MethodName := ⟨RX2, "placeOf", "(I)J"⟩
abbrev cX2_isAnswer : ByteArray := prog_4_method_19_code
def yX2_isAnswer : MethodName := ⟨RX2, "isAnswer", "(I)Z"⟩
abbrev cX2_weightsAhead : ByteArray := prog_4_method_20_code
def yX2_weightsAhead : MethodName := ⟨RX2, "weightsAhead", "(I)J"⟩
abbrev cX2_leastUnder : ByteArray := prog_4_method_21_code
def yX2_leastUnder : MethodName := ⟨RX2, "leastUnder", "(I)J"⟩
abbrev cX2_drawn : ByteArray := prog_4_method_22_code
def yX2_drawn : MethodName := ⟨RX2, "drawn", "(I)I"⟩
abbrev cX2_tally : ByteArray := prog_4_method_23_code
def yX2_tally : MethodName := ⟨RX2, "tally", "()J"⟩
abbrev cX2_walk : ByteArray := prog_4_method_24_code
def yX2_walk : MethodName := ⟨RX2, "walk", "(IIIJ)J"⟩
abbrev cX2_walkRows : ByteArray := prog_4_method_25_code
def yX2_walkRows : MethodName := ⟨RX2, "walkRows", "(IIIJ)J"⟩
abbrev cX2_countWith : ByteArray := prog_4_method_26_code
def yX2_countWith : MethodName := ⟨RX2, "countWith", "(II)J"⟩
abbrev cX2_unused : ByteArray := prog_4_method_27_code
def yX2_unused : MethodName := ⟨RX2, "unused", "(I)I"⟩
def RX3 : String := "JoinDraws$Reader"
def TX3 : u_T := fun k => match k with
  | 0 => ("JoinDraws$Reader", "tape", "[C", true)
  | 1 => ("JoinDraws$Reader", "code", "[I", true)
  | 2 => ("JoinDraws$Reader", "size", "I", false)
  | 3 => ("JoinDraws$Reader", "codeSize", "I", false)
  | 4 => ("JoinDraws$Reader", "next", "I", false)
  | 5 => ("JoinDraws$Reader", "place", "I", false)
  | 6 => ("JoinDraws$Reader", "token", "I", false)
  | 7 => ("JoinDraws$Reader", "number", "I", false)
  | _ => ("JoinDraws$Reader", "fault", "I", false)
def tyX3 : Nat → FieldType := fun k => match k with
  | 0 => .array .char
  | 1 => .array .int
  | 2 => .int
  | 3 => .int
  | 4 => .int
  | 5 => .int
  | 6 => .int
  | 7 => .int
  | _ => .int
abbrev wsX30 : List Cond := u_ws RX3 TX3 9
theorem nmX3 : ∀ a, a < 9 → ∀ b, b < 9 → a ≠ b → (TX3 a).2.1 ≠ (TX3 b).2.1 := by decide +kernel
theorem tyX3_ok : ∀ k, k < 9 → parseFieldDescriptor (TX3 k).2.2.1 = some (tyX3 k) := by decide +kernel
abbrev cX3_init : ByteArray := prog_5_method_1_code
def yX3_init : MethodName := ⟨RX3, "<init>", "()V"⟩
abbrev cX3_take : ByteArray := prog_5_method_2_code
def yX3_take : MethodName := ⟨RX3, "take", "(I)Z"⟩
abbrev cX3_read : ByteArray := prog_5_method_3_code
def yX3_read : MethodName := ⟨RX3, "read", "()I"⟩
abbrev cX3_expect : ByteArray := prog_5_method_4_code
def yX3_expect : MethodName := ⟨RX3, "expect", "(I)V"⟩
abbrev cX3_fail : ByteArray := prog_5_method_5_code
def yX3_fail : MethodName := ⟨RX3, "fail", "()V"⟩
abbrev cX3_emit : ByteArray := prog_5_method_6_code
def yX3_emit : MethodName := ⟨RX3, "emit", "(II)V"⟩
abbrev cX3_emitAll : ByteArray := prog_5_method_7_code
def yX3_emitAll : MethodName := ⟨RX3, "emitAll", "(II)V"⟩
abbrev cX3_readEither : ByteArray := prog_5_method_8_code
def yX3_readEither : MethodName := ⟨RX3, "readEither", "(I)V"⟩
abbrev cX3_readBoth : ByteArray := prog_5_method_9_code
def yX3_readBoth : MethodName := ⟨RX3, "readBoth", "(I)V"⟩
abbrev cX3_readDenied : ByteArray := prog_5_method_10_code
def yX3_readDenied : MethodName := ⟨RX3, "readDenied", "(I)V"⟩
abbrev cX3_readCompared : ByteArray := prog_5_method_11_code
def yX3_readCompared : MethodName := ⟨RX3, "readCompared", "(I)V"⟩
abbrev cX3_readSum : ByteArray := prog_5_method_12_code
def yX3_readSum : MethodName := ⟨RX3, "readSum", "(I)V"⟩
abbrev cX3_readTerm : ByteArray := prog_5_method_13_code
def yX3_readTerm : MethodName := ⟨RX3, "readTerm", "(I)V"⟩
abbrev cX3_readOne : ByteArray := prog_5_method_14_code
def yX3_readOne : MethodName := ⟨RX3, "readOne", "(I)V"⟩
abbrev cX3_readPlain : ByteArray := prog_5_method_15_code
def yX3_readPlain : MethodName := ⟨RX3, "readPlain", "(I)V"⟩
abbrev cX3_step : ByteArray := prog_5_method_16_code
def yX3_step : MethodName := ⟨RX3, "step", "()V"⟩
abbrev cX3_isLetter : ByteArray := prog_5_method_17_code
def yX3_isLetter : MethodName := ⟨RX3, "isLetter", "(I)Z"⟩
abbrev cX3_isDigit : ByteArray := prog_5_method_18_code
def yX3_isDigit : MethodName := ⟨RX3, "isDigit", "(I)Z"⟩
abbrev cX3_isSign : ByteArray := prog_5_method_19_code
def yX3_isSign : MethodName := ⟨RX3, "isSign", "(C)Z"⟩
abbrev cX3_stepNumber : ByteArray := prog_5_method_20_code
def yX3_stepNumber : MethodName := ⟨RX3, "stepNumber", "()V"⟩
abbrev cX3_stepWord : ByteArray := prog_5_method_21_code
def yX3_stepWord : MethodName := ⟨RX3, "stepWord", "()V"⟩
abbrev cX3_nameOf : ByteArray := prog_5_method_22_code
def yX3_nameOf : MethodName := ⟨RX3, "nameOf", "()I"⟩
abbrev cX3_isWord : ByteArray := prog_5_method_23_code
def yX3_isWord : MethodName := ⟨RX3, "isWord", "(Ljava/lang/String;)Z"⟩
def RX4 : String := "JoinDraws$Relation"
def TX4 : u_T := fun k => match k with
  | 0 => ("JoinDraws$Relation", "cells", "[I", true)
  | 1 => ("JoinDraws$Relation", "copies", "[I", true)
  | 2 => ("JoinDraws$Relation", "kind", "I", false)
  | 3 => ("JoinDraws$Relation", "attributes", "I", false)
  | 4 => ("JoinDraws$Relation", "spread", "I", false)
  | 5 => ("JoinDraws$Relation", "size", "I", false)
  | _ => ("JoinDraws$Relation", "live", "I", false)
def tyX4 : Nat → FieldType := fun k => match k with
  | 0 => .array .int
  | 1 => .array .int
  | 2 => .int
  | 3 => .int
  | 4 => .int
  | 5 => .int
  | _ => .int
abbrev wsX40 : List Cond := u_ws RX4 TX4 7
theorem nmX4 : ∀ a, a < 7 → ∀ b, b < 7 → a ≠ b → (TX4 a).2.1 ≠ (TX4 b).2.1 := by decide +kernel
theorem tyX4_ok : ∀ k, k < 7 → parseFieldDescriptor (TX4 k).2.2.1 = some (tyX4 k) := by decide +kernel
abbrev cX4_init : ByteArray := prog_6_method_1_code
def yX4_init : MethodName := ⟨RX4, "<init>", "()V"⟩
abbrev cX4_begin : ByteArray := prog_6_method_2_code
def yX4_begin : MethodName := ⟨RX4, "begin", "(II)V"⟩
abbrev cX4_isA : ByteArray := prog_6_method_3_code
def yX4_isA : MethodName := ⟨RX4, "isA", "(I)Z"⟩
abbrev cX4_has : ByteArray := prog_6_method_4_code
def yX4_has : MethodName := ⟨RX4, "has", "(I)Z"⟩
abbrev cX4_isLive : ByteArray := prog_6_method_5_code
def yX4_isLive : MethodName := ⟨RX4, "isLive", "(I)Z"⟩
abbrev cX4_setLive : ByteArray := prog_6_method_6_code
def yX4_setLive : MethodName := ⟨RX4, "setLive", "(IZ)V"⟩
abbrev cX4_letsGo : ByteArray := prog_6_method_7_code
def yX4_letsGo : MethodName := ⟨RX4, "letsGo", "()Z"⟩
abbrev cX4_takes : ByteArray := prog_6_method_8_code
def yX4_takes : MethodName := ⟨RX4, "takes", "(I)Z"⟩
abbrev cX4_refuses : ByteArray := prog_6_method_9_code
def yX4_refuses : MethodName := ⟨RX4, "refuses", "(II)Z"⟩
abbrev cX4_add : ByteArray := prog_6_method_10_code
def yX4_add : MethodName := ⟨RX4, "add", "(II)I"⟩
abbrev cX4_worthOf : ByteArray := prog_6_method_11_code
def yX4_worthOf : MethodName := ⟨RX4, "worthOf", "(I)J"⟩
abbrev cX4_packed : ByteArray := prog_6_method_12_code
def yX4_packed : MethodName := ⟨RX4, "packed", "(III)I"⟩
abbrev cX4_attributeAt : ByteArray := prog_6_method_13_code
def yX4_attributeAt : MethodName := ⟨RX4, "attributeAt", "(I)I"⟩
abbrev cX4_valueAt : ByteArray := prog_6_method_14_code
def yX4_valueAt : MethodName := ⟨RX4, "valueAt", "(II)I"⟩
abbrev cX4_passing : ByteArray := prog_6_method_15_code
def yX4_passing : MethodName := ⟨RX4, "passing", "(LJoinDraws$Text;I)I"⟩
abbrev cX4_matches : ByteArray := prog_6_method_16_code
def yX4_matches : MethodName := ⟨RX4, "matches", "(III)Z"⟩
def RX5 : String := "JoinDraws$Sheet"
def TX5 : u_T := fun k => match k with
  | 0 => ("JoinDraws$Sheet", "items", "[J", true)
  | 1 => ("JoinDraws$Sheet", "sort", "I", false)
  | _ => ("JoinDraws$Sheet", "size", "I", false)
def tyX5 : Nat → FieldType := fun k => match k with
  | 0 => .array .long
  | 1 => .int
  | _ => .int
abbrev wsX50 : List Cond := u_ws RX5 TX5 3
theorem nmX5 : ∀ a, a < 3 → ∀ b, b < 3 → a ≠ b → (TX5 a).2.1 ≠ (TX5 b).2.1 := by decide +kernel
theorem tyX5_ok : ∀ k, k < 3 → parseFieldDescriptor (TX5 k).2.2.1 = some (tyX5 k) := by decide +kernel
abbrev cX5_init : ByteArray := prog_7_method_1_code
def yX5_init : MethodName := ⟨RX5, "<init>", "()V"⟩
abbrev cX5_become : ByteArray := prog_7_method_2_code
def yX5_become : MethodName := ⟨RX5, "become", "(II)V"⟩
abbrev cX5_has : ByteArray := prog_7_method_3_code
def yX5_has : MethodName := ⟨RX5, "has", "(I)Z"⟩
abbrev cX5_hasRun : ByteArray := prog_7_method_4_code
def yX5_hasRun : MethodName := ⟨RX5, "hasRun", "(II)Z"⟩
abbrev cX5_lay : ByteArray := prog_7_method_5_code
def yX5_lay : MethodName := ⟨RX5, "lay", "(IJ)V"⟩
def RX6 : String := "JoinDraws$Shuffle"
def TX6 : u_T := fun k => match k with
  | 0 => ("JoinDraws$Shuffle", "bits", "LJoinDraws$Bits;", true)
  | 1 => ("JoinDraws$Shuffle", "place", "[J", true)
  | _ => ("JoinDraws$Shuffle", "standing", "[J", true)
def tyX6 : Nat → FieldType := fun k => match k with
  | 0 => .object "JoinDraws$Bits"
  | 1 => .array .long
  | _ => .array .long
abbrev wsX60 : List Cond := u_ws RX6 TX6 3
theorem nmX6 : ∀ a, a < 3 → ∀ b, b < 3 → a ≠ b → (TX6 a).2.1 ≠ (TX6 b).2.1 := by decide +kernel
theorem tyX6_ok : ∀ k, k < 3 → parseFieldDescriptor (TX6 k).2.2.1 = some (tyX6 k) := by decide +kernel
abbrev cX6_init : ByteArray := prog_8_method_1_code
def yX6_init : MethodName := ⟨RX6, "<init>", "()V"⟩
abbrev cX6_placed : ByteArray := prog_8_method_2_code
def yX6_placed : MethodName := ⟨RX6, "placed", "(IJI)J"⟩
abbrev cX6_standingAt : ByteArray := prog_8_method_3_code
def yX6_standingAt : MethodName := ⟨RX6, "standingAt", "(JI)J"⟩
def RX7 : String := "JoinDraws$Text"
def TX7 : u_T := fun k => match k with
  | 0 => ("JoinDraws$Text", "code", "[I", true)
  | _ => ("JoinDraws$Text", "stack", "[I", true)
def tyX7 : Nat → FieldType := fun k => match k with
  | 0 => .array .int
  | _ => .array .int
abbrev wsX70 : List Cond := u_ws RX7 TX7 2
theorem nmX7 : ∀ a, a < 2 → ∀ b, b < 2 → a ≠ b → (TX7 a).2.1 ≠ (TX7 b).2.1 := by decide +kernel
theorem tyX7_ok : ∀ k, k < 2 → parseFieldDescriptor (TX7 k).2.2.1 = some (tyX7 k) := by decide +kernel
abbrev cX7_init : ByteArray := prog_9_method_1_code
def yX7_init : MethodName := ⟨RX7, "<init>", "([II)V"⟩
abbrev cX7_valueFor : ByteArray := prog_9_method_2_code
def yX7_valueFor : MethodName := ⟨RX7, "valueFor", "(LJoinDraws$Relation;II)I"⟩
abbrev cX7_named : ByteArray := prog_9_method_3_code
def yX7_named : MethodName := ⟨RX7, "named", "(ILJoinDraws$Relation;II)I"⟩
abbrev cX7_joined : ByteArray := prog_9_method_4_code
def yX7_joined : MethodName := ⟨RX7, "joined", "(III)I"⟩
abbrev cX7_bit : ByteArray := prog_9_method_5_code
def yX7_bit : MethodName := ⟨RX7, "bit", "(Z)I"⟩
def RX8 : String := "JoinDraws$Tree"
def TX8 : u_T := fun k => match k with
  | 0 => ("JoinDraws$Tree", "parent", "[I", true)
  | 1 => ("JoinDraws$Tree", "kids", "[I", true)
  | 2 => ("JoinDraws$Tree", "order", "[I", true)
  | 3 => ("JoinDraws$Tree", "attributes", "[I", true)
  | 4 => ("JoinDraws$Tree", "steps", "I", false)
  | 5 => ("JoinDraws$Tree", "root", "I", false)
  | 6 => ("JoinDraws$Tree", "kept", "I", false)
  | _ => ("JoinDraws$Tree", "checks", "I", false)
def tyX8 : Nat → FieldType := fun k => match k with
  | 0 => .array .int
  | 1 => .array .int
  | 2 => .array .int
  | 3 => .array .int
  | 4 => .int
  | 5 => .int
  | 6 => .int
  | _ => .int
abbrev wsX80 : List Cond := u_ws RX8 TX8 8
theorem nmX8 : ∀ a, a < 8 → ∀ b, b < 8 → a ≠ b → (TX8 a).2.1 ≠ (TX8 b).2.1 := by decide +kernel
theorem tyX8_ok : ∀ k, k < 8 → parseFieldDescriptor (TX8 k).2.2.1 = some (tyX8 k) := by decide +kernel
abbrev cX8_init : ByteArray := prog_10_method_1_code
def yX8_init : MethodName := ⟨RX8, "<init>", "()V"⟩
abbrev cX8_grow : ByteArray := prog_10_method_2_code
def yX8_grow : MethodName := ⟨RX8, "grow", "([LJoinDraws$Relation;I)V"⟩
abbrev cX8_plant : ByteArray := prog_10_method_3_code
def yX8_plant : MethodName := ⟨RX8, "plant", "(I)Z"⟩
abbrev cX8_takeOut : ByteArray := prog_10_method_4_code
def yX8_takeOut : MethodName := ⟨RX8, "takeOut", "(I)V"⟩
abbrev cX8_firstEar : ByteArray := prog_10_method_5_code
def yX8_firstEar : MethodName := ⟨RX8, "firstEar", "(I)I"⟩
abbrev cX8_stemOf : ByteArray := prog_10_method_6_code
def yX8_stemOf : MethodName := ⟨RX8, "stemOf", "(II)I"⟩
def RX9 : String := "JoinDraws"
def TX9 : u_T := fun k => match k with
  | 0 => ("JoinDraws", "relations", "[LJoinDraws$Relation;", true)
  | 1 => ("JoinDraws", "texts", "[LJoinDraws$Text;", true)
  | 2 => ("JoinDraws", "sheets", "[LJoinDraws$Sheet;", true)
  | 3 => ("JoinDraws", "reader", "LJoinDraws$Reader;", true)
  | 4 => ("JoinDraws", "kept", "LJoinDraws$Image;", true)
  | 5 => ("JoinDraws", "shuffled", "LJoinDraws$Shuffle;", true)
  | 6 => ("JoinDraws", "trials", "[I", true)
  | 7 => ("JoinDraws", "slated", "[I", true)
  | 8 => ("JoinDraws", "now", "LJoinDraws$Join;", true)
  | 9 => ("JoinDraws", "thought", "LJoinDraws$Join;", true)
  | 10 => ("JoinDraws", "stale", "Z", false)
  | 11 => ("JoinDraws", "made", "I", false)
  | 12 => ("JoinDraws", "written", "I", false)
  | 13 => ("JoinDraws", "slatedSize", "I", false)
  | 14 => ("JoinDraws", "rule", "I", false)
  | _ => ("JoinDraws", "asked", "I", false)
def tyX9 : Nat → FieldType := fun k => match k with
  | 0 => .array (.object "JoinDraws$Relation")
  | 1 => .array (.object "JoinDraws$Text")
  | 2 => .array (.object "JoinDraws$Sheet")
  | 3 => .object "JoinDraws$Reader"
  | 4 => .object "JoinDraws$Image"
  | 5 => .object "JoinDraws$Shuffle"
  | 6 => .array .int
  | 7 => .array .int
  | 8 => .object "JoinDraws$Join"
  | 9 => .object "JoinDraws$Join"
  | 10 => .boolean
  | 11 => .int
  | 12 => .int
  | 13 => .int
  | 14 => .int
  | _ => .int
abbrev wsX90 : List Cond := u_ws RX9 TX9 16
theorem nmX9 : ∀ a, a < 16 → ∀ b, b < 16 → a ≠ b → (TX9 a).2.1 ≠ (TX9 b).2.1 := by decide +kernel
theorem tyX9_ok : ∀ k, k < 16 → parseFieldDescriptor (TX9 k).2.2.1 = some (tyX9 k) := by decide +kernel
abbrev cX9_init : ByteArray := prog_1_method_1_code
def yX9_init : MethodName := ⟨RX9, "<init>", "()V"⟩
abbrev cX9_relation : ByteArray := prog_1_method_2_code
def yX9_relation : MethodName := ⟨RX9, "relation", "(II)I"⟩
abbrev cX9_row : ByteArray := prog_1_method_3_code
def yX9_row : MethodName := ⟨RX9, "row", "(IIIII)I"⟩
abbrev cX9_remove : ByteArray := prog_1_method_4_code
def yX9_remove : MethodName := ⟨RX9, "remove", "(II)I"⟩
abbrev cX9_restore : ByteArray := prog_1_method_5_code
def yX9_restore : MethodName := ⟨RX9, "restore", "(II)I"⟩
abbrev cX9_copies : ByteArray := prog_1_method_6_code
def yX9_copies : MethodName := ⟨RX9, "copies", "(III)I"⟩
abbrev cX9_told : ByteArray := prog_1_method_7_code
def yX9_told : MethodName := ⟨RX9, "told", "(III)I"⟩
abbrev cX9_worth : ByteArray := prog_1_method_8_code
def yX9_worth : MethodName := ⟨RX9, "worth", "(II)J"⟩
abbrev cX9_about : ByteArray := prog_1_method_9_code
def yX9_about : MethodName := ⟨RX9, "about", "(II)I"⟩
abbrev cX9_query : ByteArray := prog_1_method_10_code
def yX9_query : MethodName := ⟨RX9, "query", "(I)I"⟩
abbrev cX9_shape : ByteArray := prog_1_method_11_code
def yX9_shape : MethodName := ⟨RX9, "shape", "(I)I"⟩
abbrev cX9_feed : ByteArray := prog_1_method_12_code
def yX9_feed : MethodName := ⟨RX9, "feed", "(I)I"⟩
abbrev cX9_text : ByteArray := prog_1_method_13_code
def yX9_text : MethodName := ⟨RX9, "text", "()I"⟩
abbrev cX9_force : ByteArray := prog_1_method_14_code
def yX9_force : MethodName := ⟨RX9, "force", "(I)I"⟩
abbrev cX9_weight : ByteArray := prog_1_method_15_code
def yX9_weight : MethodName := ⟨RX9, "weight", "(II)J"⟩
abbrev cX9_bound : ByteArray := prog_1_method_16_code
def yX9_bound : MethodName := ⟨RX9, "bound", "(I)J"⟩
abbrev cX9_space : ByteArray := prog_1_method_17_code
def yX9_space : MethodName := ⟨RX9, "space", "()J"⟩
abbrev cX9_answers : ByteArray := prog_1_method_18_code
def yX9_answers : MethodName := ⟨RX9, "answers", "()J"⟩
abbrev cX9_at : ByteArray := prog_1_method_19_code
def yX9_at : MethodName := ⟨RX9, "at", "(JI)I"⟩
abbrev cX9_find : ByteArray := prog_1_method_20_code
def yX9_find : MethodName := ⟨RX9, "find", "(I)J"⟩
abbrev cX9_draw : ByteArray := prog_1_method_21_code
def yX9_draw : MethodName := ⟨RX9, "draw", "(II)I"⟩
abbrev cX9_shuffle : ByteArray := prog_1_method_22_code
def yX9_shuffle : MethodName := ⟨RX9, "shuffle", "(III)J"⟩
abbrev cX9_odds : ByteArray := prog_1_method_23_code
def yX9_odds : MethodName := ⟨RX9, "odds", "(III)J"⟩
abbrev cX9_values : ByteArray := prog_1_method_24_code
def yX9_values : MethodName := ⟨RX9, "values", "(II)J"⟩
abbrev cX9_likeliest : ByteArray := prog_1_method_25_code
def yX9_likeliest : MethodName := ⟨RX9, "likeliest", "(I)I"⟩
abbrev cX9_dangling : ByteArray := prog_1_method_26_code
def yX9_dangling : MethodName := ⟨RX9, "dangling", "(I)I"⟩
abbrev cX9_without : ByteArray := prog_1_method_27_code
def yX9_without : MethodName := ⟨RX9, "without", "(II)J"⟩
abbrev cX9_key : ByteArray := prog_1_method_28_code
def yX9_key : MethodName := ⟨RX9, "key", "(I)J"⟩
abbrev cX9_strip : ByteArray := prog_1_method_29_code
def yX9_strip : MethodName := ⟨RX9, "strip", "(IJ)I"⟩
abbrev cX9_slate : ByteArray := prog_1_method_30_code
def yX9_slate : MethodName := ⟨RX9, "slate", "(I)I"⟩
abbrev cX9_lot : ByteArray := prog_1_method_31_code
def yX9_lot : MethodName := ⟨RX9, "lot", "(IIIII)J"⟩
abbrev cX9_tells : ByteArray := prog_1_method_32_code
def yX9_tells : MethodName := ⟨RX9, "tells", "(II)I"⟩
abbrev cX9_film : ByteArray := prog_1_method_33_code
def yX9_film : MethodName := ⟨RX9, "film", "(II)I"⟩
abbrev cX9_image : ByteArray := prog_1_method_34_code
def yX9_image : MethodName := ⟨RX9, "image", "()I"⟩
abbrev cX9_back : ByteArray := prog_1_method_35_code
def yX9_back : MethodName := ⟨RX9, "back", "()I"⟩
abbrev cX9_count : ByteArray := prog_1_method_36_code
def yX9_count : MethodName := ⟨RX9, "count", "(I)I"⟩
abbrev cX9_sheet : ByteArray := prog_1_method_37_code
def yX9_sheet : MethodName := ⟨RX9, "sheet", "(III)I"⟩
abbrev cX9_put : ByteArray := prog_1_method_38_code
def yX9_put : MethodName := ⟨RX9, "put", "(IIJ)I"⟩
abbrev cX9_item : ByteArray := prog_1_method_39_code
def yX9_item : MethodName := ⟨RX9, "item", "(II)J"⟩
abbrev cX9_copy : ByteArray := prog_1_method_40_code
def yX9_copy : MethodName := ⟨RX9, "copy", "(IIIII)I"⟩
abbrev cX9_load : ByteArray := prog_1_method_41_code
def yX9_load : MethodName := ⟨RX9, "load", "(IIIII)I"⟩
abbrev cX9_taken : ByteArray := prog_1_method_42_code
def yX9_taken : MethodName := ⟨RX9, "taken", "(II)I"⟩
abbrev cX9_isIn : ByteArray := prog_1_method_43_code
def yX9_isIn : MethodName := ⟨RX9, "isIn", "(II)Z"⟩
abbrev cX9_isPart : ByteArray := prog_1_method_44_code
def yX9_isPart : MethodName := ⟨RX9, "isPart", "(I)Z"⟩
abbrev cX9_isSheet : ByteArray := prog_1_method_45_code
def yX9_isSheet : MethodName := ⟨RX9, "isSheet", "(I)Z"⟩
abbrev cX9_isRelation : ByteArray := prog_1_method_46_code
def yX9_isRelation : MethodName := ⟨RX9, "isRelation", "(I)Z"⟩
abbrev cX9_isRow : ByteArray := prog_1_method_47_code
def yX9_isRow : MethodName := ⟨RX9, "isRow", "(II)Z"⟩
abbrev cX9_isQuery : ByteArray := prog_1_method_48_code
def yX9_isQuery : MethodName := ⟨RX9, "isQuery", "(I)Z"⟩
abbrev cX9_isAsked : ByteArray := prog_1_method_49_code
def yX9_isAsked : MethodName := ⟨RX9, "isAsked", "(I)Z"⟩
abbrev cX9_current : ByteArray := prog_1_method_50_code
def yX9_current : MethodName := ⟨RX9, "current", "()LJoinDraws$Join;"⟩
abbrev cX9_parentOf : ByteArray := prog_1_method_51_code
def yX9_parentOf : MethodName := ⟨RX9, "parentOf", "(ILJoinDraws$Tree;)I"⟩
abbrev cX9_askedAttributes : ByteArray := prog_1_method_52_code
def yX9_askedAttributes : MethodName := ⟨RX9, "askedAttributes", "()I"⟩
abbrev cX9_addRow : ByteArray := prog_1_method_53_code
def yX9_addRow : MethodName := ⟨RX9, "addRow", "(LJoinDraws$Relation;IIII)I"⟩
abbrev cX9_addItems : ByteArray := prog_1_method_54_code
def yX9_addItems : MethodName := ⟨RX9, "addItems", "(LJoinDraws$Relation;[JI)I"⟩
abbrev cX9_rowsOfAll : ByteArray := prog_1_method_55_code
def yX9_rowsOfAll : MethodName := ⟨RX9, "rowsOfAll", "(Z)I"⟩
abbrev cX9_isLiveItem : ByteArray := prog_1_method_56_code
def yX9_isLiveItem : MethodName := ⟨RX9, "isLiveItem", "(J)Z"⟩
abbrev cX9_setLiveItem : ByteArray := prog_1_method_57_code
def yX9_setLiveItem : MethodName := ⟨RX9, "setLiveItem", "(IZ)V"⟩
abbrev cX9_isEnough : ByteArray := prog_1_method_58_code
def yX9_isEnough : MethodName := ⟨RX9, "isEnough", "(J)Z"⟩
abbrev cX9_shut : ByteArray := prog_1_method_59_code
def yX9_shut : MethodName := ⟨RX9, "shut", "(I)V"⟩
abbrev cX9_otherwise : ByteArray := prog_1_method_60_code
def yX9_otherwise : MethodName := ⟨RX9, "otherwise", "(LJoinDraws$Join;LJoinDraws$Sheet;)I"⟩
abbrev cX9_tellers : ByteArray := prog_1_method_61_code
def yX9_tellers : MethodName := ⟨RX9, "tellers", "(LJoinDraws$Sheet;Z)I"⟩
abbrev cX9_partOf : ByteArray := prog_1_method_62_code
def yX9_partOf : MethodName := ⟨RX9, "partOf", "(JJI)J"⟩
abbrev cX9_commonOf : ByteArray := prog_1_method_63_code
def yX9_commonOf : MethodName := ⟨RX9, "commonOf", "(JJ)J"⟩
def RX10 : String := "JoinDrawsModel"
def TX10 : u_T := fun k => match k with
  | 0 => ("JoinDrawsModel", "thrown", "I", false)
  | 1 => ("JoinDrawsModel", "texts", "[I", true)
  | 2 => ("JoinDrawsModel", "textSize", "[I", true)
  | 3 => ("JoinDrawsModel", "textCount", "I", false)
  | 4 => ("JoinDrawsModel", "rule", "I", false)
  | 5 => ("JoinDrawsModel", "tape", "[I", true)
  | 6 => ("JoinDrawsModel", "taped", "I", false)
  | 7 => ("JoinDrawsModel", "kinds", "[I", true)
  | 8 => ("JoinDrawsModel", "attributes", "[I", true)
  | 9 => ("JoinDrawsModel", "rowMany", "[I", true)
  | 10 => ("JoinDrawsModel", "many", "I", false)
  | 11 => ("JoinDrawsModel", "vals", "[I", true)
  | 12 => ("JoinDrawsModel", "copyOf", "[I", true)
  | 13 => ("JoinDrawsModel", "isLive", "[Z", true)
  | 14 => ("JoinDrawsModel", "asked", "I", false)
  | 15 => ("JoinDrawsModel", "ofRelation", "I", false)
  | 16 => ("JoinDrawsModel", "ofRow", "I", false)
  | 17 => ("JoinDrawsModel", "from", "I", false)
  | 18 => ("JoinDrawsModel", "size", "I", false)
  | 19 => ("JoinDrawsModel", "here", "I", false)
  | 20 => ("JoinDrawsModel", "token", "I", false)
  | 21 => ("JoinDrawsModel", "tokenAt", "I", false)
  | 22 => ("JoinDrawsModel", "tokenWorth", "J", false)
  | 23 => ("JoinDrawsModel", "open", "I", false)
  | 24 => ("JoinDrawsModel", "bad", "Z", false)
  | 25 => ("JoinDrawsModel", "fault", "I", false)
  | 26 => ("JoinDrawsModel", "keptOf", "[J", true)
  | 27 => ("JoinDrawsModel", "keptWas", "[I", true)
  | 28 => ("JoinDrawsModel", "parents", "[I", true)
  | 29 => ("JoinDrawsModel", "root", "I", false)
  | 30 => ("JoinDrawsModel", "kept", "I", false)
  | 31 => ("JoinDrawsModel", "isGreat", "Z", false)
  | 32 => ("JoinDrawsModel", "weights", "[J", true)
  | 33 => ("JoinDrawsModel", "isWeighed", "[Z", true)
  | 34 => ("JoinDrawsModel", "bounds", "[J", true)
  | 35 => ("JoinDrawsModel", "spaceNow", "J", false)
  | 36 => ("JoinDrawsModel", "rowAt", "[I", true)
  | 37 => ("JoinDrawsModel", "onlyRelation", "I", false)
  | 38 => ("JoinDrawsModel", "onlyRow", "I", false)
  | 39 => ("JoinDrawsModel", "onlyName", "I", false)
  | 40 => ("JoinDrawsModel", "onlyValue", "I", false)
  | 41 => ("JoinDrawsModel", "inner", "J", false)
  | 42 => ("JoinDrawsModel", "indexes", "[J", true)
  | 43 => ("JoinDrawsModel", "drawnZ", "I", false)
  | 44 => ("JoinDrawsModel", "drawnMany", "I", false)
  | 45 => ("JoinDrawsModel", "movedAt", "[J", true)
  | 46 => ("JoinDrawsModel", "movedTo", "[J", true)
  | 47 => ("JoinDrawsModel", "moved", "I", false)
  | 48 => ("JoinDrawsModel", "slates", "[I", true)
  | 49 => ("JoinDrawsModel", "slateMany", "I", false)
  | 50 => ("JoinDrawsModel", "copyKept", "[I", true)
  | 51 => ("JoinDrawsModel", "isLiveKept", "[Z", true)
  | 52 => ("JoinDrawsModel", "rowManyKept", "[I", true)
  | 53 => ("JoinDrawsModel", "manyKept", "I", false)
  | 54 => ("JoinDrawsModel", "askedKept", "I", false)
  | 55 => ("JoinDrawsModel", "ruleKept", "I", false)
  | 56 => ("JoinDrawsModel", "isThere", "[Z", true)
  | 57 => ("JoinDrawsModel", "sorts", "[I", true)
  | 58 => ("JoinDrawsModel", "sheetSize", "[I", true)
  | _ => ("JoinDrawsModel", "items", "[J", true)
def tyX10 : Nat → FieldType := fun k => match k with
  | 0 => .int
  | 1 => .array .int
  | 2 => .array .int
  | 3 => .int
  | 4 => .int
  | 5 => .array .int
  | 6 => .int
  | 7 => .array .int
  | 8 => .array .int
  | 9 => .array .int
  | 10 => .int
  | 11 => .array .int
  | 12 => .array .int
  | 13 => .array .boolean
  | 14 => .int
  | 15 => .int
  | 16 => .int
  | 17 => .int
  | 18 => .int
  | 19 => .int
  | 20 => .int
  | 21 => .int
  | 22 => .long
  | 23 => .int
  | 24 => .boolean
  | 25 => .int
  | 26 => .array .long
  | 27 => .array .int
  | 28 => .array .int
  | 29 => .int
  | 30 => .int
  | 31 => .boolean
  | 32 => .array .long
  | 33 => .array .boolean
  | 34 => .array .long
  | 35 => .long
  | 36 => .array .int
  | 37 => .int
  | 38 => .int
  | 39 => .int
  | 40 => .int
  | 41 => .long
  | 42 => .array .long
  | 43 => .int
  | 44 => .int
  | 45 => .array .long
  | 46 => .array .long
  | 47 => .int
  | 48 => .array .int
  | 49 => .int
  | 50 => .array .int
  | 51 => .array .boolean
  | 52 => .array .int
  | 53 => .int
  | 54 => .int
  | 55 => .int
  | 56 => .array .boolean
  | 57 => .array .int
  | 58 => .array .int
  | _ => .array .long
abbrev wsX100 : List Cond := u_ws RX10 TX10 60
theorem nmX10 : ∀ a, a < 60 → ∀ b, b < 60 → a ≠ b → (TX10 a).2.1 ≠ (TX10 b).2.1 := by decide +kernel
theorem tyX10_ok : ∀ k, k < 60 → parseFieldDescriptor (TX10 k).2.2.1 = some (tyX10 k) := by decide +kernel
abbrev cX10_in : ByteArray := prog_12_method_2_code
def yX10_in : MethodName := ⟨RX10, "in", "(JJJ)Z"⟩
abbrev cX10_init : ByteArray := prog_12_method_4_code
def yX10_init : MethodName := ⟨RX10, "<init>", "()V"⟩
abbrev cX10_spell : ByteArray := prog_12_method_5_code
def yX10_spell : MethodName := ⟨RX10, "spell", "(IIIIIIIII)V"⟩
abbrev cX10_isRelation : ByteArray := prog_12_method_6_code
def yX10_isRelation : MethodName := ⟨RX10, "isRelation", "(I)Z"⟩
abbrev cX10_isRow : ByteArray := prog_12_method_7_code
def yX10_isRow : MethodName := ⟨RX10, "isRow", "(II)Z"⟩
abbrev cX10_isIn : ByteArray := prog_12_method_8_code
def yX10_isIn : MethodName := ⟨RX10, "isIn", "(I)Z"⟩
abbrev cX10_bitsOf : ByteArray := prog_12_method_9_code
def yX10_bitsOf : MethodName := ⟨RX10, "bitsOf", "(I)I"⟩
abbrev cX10_attribute : ByteArray := prog_12_method_10_code
def yX10_attribute : MethodName := ⟨RX10, "attribute", "(II)I"⟩
abbrev cX10_val : ByteArray := prog_12_method_11_code
def yX10_val : MethodName := ⟨RX10, "val", "(III)I"⟩
abbrev cX10_relation : ByteArray := prog_12_method_12_code
def yX10_relation : MethodName := ⟨RX10, "relation", "(II)I"⟩
abbrev cX10_over : ByteArray := prog_12_method_13_code
def yX10_over : MethodName := ⟨RX10, "over", "(I)I"⟩
abbrev cX10_isUnder : ByteArray := prog_12_method_14_code
def yX10_isUnder : MethodName := ⟨RX10, "isUnder", "(II)Z"⟩
abbrev cX10_isTaken : ByteArray := prog_12_method_15_code
def yX10_isTaken : MethodName := ⟨RX10, "isTaken", "(II)Z"⟩
abbrev cX10_liveOf : ByteArray := prog_12_method_16_code
def yX10_liveOf : MethodName := ⟨RX10, "liveOf", "(I)I"⟩
abbrev cX10_row : ByteArray := prog_12_method_17_code
def yX10_row : MethodName := ⟨RX10, "row", "(IIIII)I"⟩
abbrev cX10_stands : ByteArray := prog_12_method_18_code
def yX10_stands : MethodName := ⟨RX10, "stands", "(IIIII)V"⟩
abbrev cX10_isFull : ByteArray := prog_12_method_19_code
def yX10_isFull : MethodName := ⟨RX10, "isFull", "(IIII)Z"⟩
abbrev cX10_remove : ByteArray := prog_12_method_20_code
def yX10_remove : MethodName := ⟨RX10, "remove", "(II)I"⟩
abbrev cX10_restore : ByteArray := prog_12_method_21_code
def yX10_restore : MethodName := ⟨RX10, "restore", "(II)I"⟩
abbrev cX10_copies : ByteArray := prog_12_method_22_code
def yX10_copies : MethodName := ⟨RX10, "copies", "(III)I"⟩
abbrev cX10_told : ByteArray := prog_12_method_23_code
def yX10_told : MethodName := ⟨RX10, "told", "(III)I"⟩
abbrev cX10_worthOf : ByteArray := prog_12_method_24_code
def yX10_worthOf : MethodName := ⟨RX10, "worthOf", "(II)J"⟩
abbrev cX10_worth : ByteArray := prog_12_method_25_code
def yX10_worth : MethodName := ⟨RX10, "worth", "(II)J"⟩
abbrev cX10_ofVal : ByteArray := prog_12_method_26_code
def yX10_ofVal : MethodName := ⟨RX10, "ofVal", "(I)I"⟩
abbrev cX10_feed : ByteArray := prog_12_method_27_code
def yX10_feed : MethodName := ⟨RX10, "feed", "(I)I"⟩
abbrev cX10_byteAt : ByteArray := prog_12_method_28_code
def yX10_byteAt : MethodName := ⟨RX10, "byteAt", "(I)I"⟩
abbrev cX10_next : ByteArray := prog_12_method_29_code
def yX10_next : MethodName := ⟨RX10, "next", "()V"⟩
abbrev cX10_fail : ByteArray := prog_12_method_30_code
def yX10_fail : MethodName := ⟨RX10, "fail", "()V"⟩
abbrev cX10_isLetter : ByteArray := prog_12_method_31_code
def yX10_isLetter : MethodName := ⟨RX10, "isLetter", "(II)Z"⟩
abbrev cX10_isWord : ByteArray := prog_12_method_32_code
def yX10_isWord : MethodName := ⟨RX10, "isWord", "(IIIIIIII)Z"⟩
abbrev cX10_isSign : ByteArray := prog_12_method_33_code
def yX10_isSign : MethodName := ⟨RX10, "isSign", "(I)Z"⟩
abbrev cX10_opens : ByteArray := prog_12_method_34_code
def yX10_opens : MethodName := ⟨RX10, "opens", "()Z"⟩
abbrev cX10_name : ByteArray := prog_12_method_35_code
def yX10_name : MethodName := ⟨RX10, "name", "()I"⟩
abbrev cX10_atom : ByteArray := prog_12_method_36_code
def yX10_atom : MethodName := ⟨RX10, "atom", "()I"⟩
abbrev cX10_term : ByteArray := prog_12_method_37_code
def yX10_term : MethodName := ⟨RX10, "term", "()I"⟩
abbrev cX10_added : ByteArray := prog_12_method_38_code
def yX10_added : MethodName := ⟨RX10, "added", "()I"⟩
abbrev cX10_not : ByteArray := prog_12_method_39_code
def yX10_not : MethodName := ⟨RX10, "not", "()I"⟩
abbrev cX10_both : ByteArray := prog_12_method_40_code
def yX10_both : MethodName := ⟨RX10, "both", "()I"⟩
abbrev cX10_either : ByteArray := prog_12_method_41_code
def yX10_either : MethodName := ⟨RX10, "either", "()I"⟩
abbrev cX10_part : ByteArray := prog_12_method_42_code
def yX10_part : MethodName := ⟨RX10, "part", "(Z)I"⟩
abbrev cX10_read : ByteArray := prog_12_method_43_code
def yX10_read : MethodName := ⟨RX10, "read", "(I)I"⟩
abbrev cX10_text : ByteArray := prog_12_method_44_code
def yX10_text : MethodName := ⟨RX10, "text", "()I"⟩
abbrev cX10_force : ByteArray := prog_12_method_45_code
def yX10_force : MethodName := ⟨RX10, "force", "(I)I"⟩
abbrev cX10_isPassing : ByteArray := prog_12_method_46_code
def yX10_isPassing : MethodName := ⟨RX10, "isPassing", "(II)Z"⟩
abbrev cX10_query : ByteArray := prog_12_method_47_code
def yX10_query : MethodName := ⟨RX10, "query", "(I)I"⟩
abbrev cX10_isEar : ByteArray := prog_12_method_48_code
def yX10_isEar : MethodName := ⟨RX10, "isEar", "(III)Z"⟩
abbrev cX10_isTree : ByteArray := prog_12_method_49_code
def yX10_isTree : MethodName := ⟨RX10, "isTree", "(I)Z"⟩
abbrev cX10_keptNow : ByteArray := prog_12_method_50_code
def yX10_keptNow : MethodName := ⟨RX10, "keptNow", "()I"⟩
abbrev cX10_childrenOf : ByteArray := prog_12_method_51_code
def yX10_childrenOf : MethodName := ⟨RX10, "childrenOf", "(I)I"⟩
abbrev cX10_plus : ByteArray := prog_12_method_52_code
def yX10_plus : MethodName := ⟨RX10, "plus", "(JJ)J"⟩
abbrev cX10_times : ByteArray := prog_12_method_53_code
def yX10_times : MethodName := ⟨RX10, "times", "(JJ)J"⟩
abbrev cX10_isMatching : ByteArray := prog_12_method_54_code
def yX10_isMatching : MethodName := ⟨RX10, "isMatching", "(IIII)Z"⟩
abbrev cX10_sumOf : ByteArray := prog_12_method_55_code
def yX10_sumOf : MethodName := ⟨RX10, "sumOf", "(III)J"⟩
abbrev cX10_weighs : ByteArray := prog_12_method_56_code
def yX10_weighs : MethodName := ⟨RX10, "weighs", "(I)V"⟩
abbrev cX10_isReady : ByteArray := prog_12_method_57_code
def yX10_isReady : MethodName := ⟨RX10, "isReady", "(I)Z"⟩
abbrev cX10_boundOf : ByteArray := prog_12_method_58_code
def yX10_boundOf : MethodName := ⟨RX10, "boundOf", "(I)J"⟩
abbrev cX10_isCheck : ByteArray := prog_12_method_59_code
def yX10_isCheck : MethodName := ⟨RX10, "isCheck", "(I)Z"⟩
abbrev cX10_reckons : ByteArray := prog_12_method_60_code
def yX10_reckons : MethodName := ⟨RX10, "reckons", "()V"⟩
abbrev cX10_about : ByteArray := prog_12_method_61_code
def yX10_about : MethodName := ⟨RX10, "about", "(II)I"⟩
abbrev cX10_attributesNow : ByteArray := prog_12_method_62_code
def yX10_attributesNow : MethodName := ⟨RX10, "attributesNow", "()I"⟩
abbrev cX10_shape : ByteArray := prog_12_method_63_code
def yX10_shape : MethodName := ⟨RX10, "shape", "(I)I"⟩
abbrev cX10_isTold : ByteArray := prog_12_method_64_code
def yX10_isTold : MethodName := ⟨RX10, "isTold", "()Z"⟩
abbrev cX10_weight : ByteArray := prog_12_method_65_code
def yX10_weight : MethodName := ⟨RX10, "weight", "(II)J"⟩
abbrev cX10_bound : ByteArray := prog_12_method_66_code
def yX10_bound : MethodName := ⟨RX10, "bound", "(I)J"⟩
abbrev cX10_space : ByteArray := prog_12_method_67_code
def yX10_space : MethodName := ⟨RX10, "space", "()J"⟩
abbrev cX10_isAnswer : ByteArray := prog_12_method_68_code
def yX10_isAnswer : MethodName := ⟨RX10, "isAnswer", "()Z"⟩
abbrev cX10_valueNow : ByteArray := prog_12_method_69_code
def yX10_valueNow : MethodName := ⟨RX10, "valueNow", "(I)I"⟩
abbrev cX10_timesNow : ByteArray := prog_12_method_70_code
def yX10_timesNow : MethodName := ⟨RX10, "timesNow", "()J"⟩
abbrev cX10_countNow : ByteArray := prog_12_method_71_code
def yX10_countNow : MethodName := ⟨RX10, "countNow", "()J"⟩
abbrev cX10_countOf : ByteArray := prog_12_method_72_code
def yX10_countOf : MethodName := ⟨RX10, "countOf", "(II)J"⟩
abbrev cX10_countValue : ByteArray := prog_12_method_73_code
def yX10_countValue : MethodName := ⟨RX10, "countValue", "(II)J"⟩
abbrev cX10_answers : ByteArray := prog_12_method_74_code
def yX10_answers : MethodName := ⟨RX10, "answers", "()J"⟩
abbrev cX10_ledInto : ByteArray := prog_12_method_75_code
def yX10_ledInto : MethodName := ⟨RX10, "ledInto", "(IIJ)I"⟩
abbrev cX10_leads : ByteArray := prog_12_method_76_code
def yX10_leads : MethodName := ⟨RX10, "leads", "(IIJ)V"⟩
abbrev cX10_isGood : ByteArray := prog_12_method_77_code
def yX10_isGood : MethodName := ⟨RX10, "isGood", "(J)Z"⟩
abbrev cX10_isChecked : ByteArray := prog_12_method_78_code
def yX10_isChecked : MethodName := ⟨RX10, "isChecked", "(II)Z"⟩
abbrev cX10_checked : ByteArray := prog_12_method_79_code
def yX10_checked : MethodName := ⟨RX10, "checked", "(I)I"⟩
abbrev cX10_digitsNow : ByteArray := prog_12_method_80_code
def yX10_digitsNow : MethodName := ⟨RX10, "digitsNow", "()I"⟩
abbrev cX10_at : ByteArray := prog_12_method_81_code
def yX10_at : MethodName := ⟨RX10, "at", "(JI)I"⟩
abbrev cX10_leastOf : ByteArray := prog_12_method_82_code
def yX10_leastOf : MethodName := ⟨RX10, "leastOf", "(II)J"⟩
abbrev cX10_find : ByteArray := prog_12_method_83_code
def yX10_find : MethodName := ⟨RX10, "find", "(I)J"⟩
abbrev cX10_below : ByteArray := prog_12_method_84_code
def yX10_below : MethodName := ⟨RX10, "below", "(J)J"⟩
abbrev cX10_isDrawn : ByteArray := prog_12_method_85_code
def yX10_isDrawn : MethodName := ⟨RX10, "isDrawn", "(I)Z"⟩
abbrev cX10_draw : ByteArray := prog_12_method_86_code
def yX10_draw : MethodName := ⟨RX10, "draw", "(II)I"⟩
abbrev cX10_stood : ByteArray := prog_12_method_87_code
def yX10_stood : MethodName := ⟨RX10, "stood", "(J)J"⟩
abbrev cX10_puts : ByteArray := prog_12_method_88_code
def yX10_puts : MethodName := ⟨RX10, "puts", "(JJ)V"⟩
abbrev cX10_shuffle : ByteArray := prog_12_method_89_code
def yX10_shuffle : MethodName := ⟨RX10, "shuffle", "(III)J"⟩
abbrev cX10_lowest : ByteArray := prog_12_method_90_code
def yX10_lowest : MethodName := ⟨RX10, "lowest", "(JJI)J"⟩
abbrev cX10_odds : ByteArray := prog_12_method_91_code
def yX10_odds : MethodName := ⟨RX10, "odds", "(III)J"⟩
abbrev cX10_isName : ByteArray := prog_12_method_92_code
def yX10_isName : MethodName := ⟨RX10, "isName", "(I)Z"⟩
abbrev cX10_values : ByteArray := prog_12_method_93_code
def yX10_values : MethodName := ⟨RX10, "values", "(II)J"⟩
abbrev cX10_likeliest : ByteArray := prog_12_method_94_code
def yX10_likeliest : MethodName := ⟨RX10, "likeliest", "(I)I"⟩
abbrev cX10_dangling : ByteArray := prog_12_method_95_code
def yX10_dangling : MethodName := ⟨RX10, "dangling", "(I)I"⟩
abbrev cX10_countWithout : ByteArray := prog_12_method_96_code
def yX10_countWithout : MethodName := ⟨RX10, "countWithout", "(II)J"⟩
abbrev cX10_without : ByteArray := prog_12_method_97_code
def yX10_without : MethodName := ⟨RX10, "without", "(II)J"⟩
abbrev cX10_key : ByteArray := prog_12_method_98_code
def yX10_key : MethodName := ⟨RX10, "key", "(I)J"⟩
abbrev cX10_strip : ByteArray := prog_12_method_99_code
def yX10_strip : MethodName := ⟨RX10, "strip", "(IJ)I"⟩
abbrev cX10_slate : ByteArray := prog_12_method_100_code
def yX10_slate : MethodName := ⟨RX10, "slate", "(I)I"⟩
abbrev cX10_lot : ByteArray := prog_12_method_101_code
def yX10_lot : MethodName := ⟨RX10, "lot", "(IIIII)J"⟩
abbrev cX10_drawnBy : ByteArray := prog_12_method_102_code
def yX10_drawnBy : MethodName := ⟨RX10, "drawnBy", "(I)I"⟩
abbrev cX10_firstOther : ByteArray := prog_12_method_103_code
def yX10_firstOther : MethodName := ⟨RX10, "firstOther", "(I)I"⟩
abbrev cX10_tells : ByteArray := prog_12_method_104_code
def yX10_tells : MethodName := ⟨RX10, "tells", "(II)I"⟩
abbrev cX10_film : ByteArray := prog_12_method_105_code
def yX10_film : MethodName := ⟨RX10, "film", "(II)I"⟩
abbrev cX10_image : ByteArray := prog_12_method_106_code
def yX10_image : MethodName := ⟨RX10, "image", "()I"⟩
abbrev cX10_back : ByteArray := prog_12_method_107_code
def yX10_back : MethodName := ⟨RX10, "back", "()I"⟩
abbrev cX10_count : ByteArray := prog_12_method_108_code
def yX10_count : MethodName := ⟨RX10, "count", "(I)I"⟩
abbrev cX10_isSheet : ByteArray := prog_12_method_109_code
def yX10_isSheet : MethodName := ⟨RX10, "isSheet", "(I)Z"⟩
abbrev cX10_sheet : ByteArray := prog_12_method_110_code
def yX10_sheet : MethodName := ⟨RX10, "sheet", "(III)I"⟩
abbrev cX10_put : ByteArray := prog_12_method_111_code
def yX10_put : MethodName := ⟨RX10, "put", "(IIJ)I"⟩
abbrev cX10_item : ByteArray := prog_12_method_112_code
def yX10_item : MethodName := ⟨RX10, "item", "(II)J"⟩
abbrev cX10_copy : ByteArray := prog_12_method_113_code
def yX10_copy : MethodName := ⟨RX10, "copy", "(IIIII)I"⟩
abbrev cX10_load : ByteArray := prog_12_method_114_code
def yX10_load : MethodName := ⟨RX10, "load", "(IIIII)I"⟩
abbrev cX10_taken : ByteArray := prog_12_method_115_code
def yX10_taken : MethodName := ⟨RX10, "taken", "(II)I"⟩
def RJ11 : String := "java/lang/Character"
abbrev cJ11_isValidCodePoint_9a6ad : ByteArray := prog_13_method_11_code
def yJ11_isValidCodePoint_9a6ad : MethodName := ⟨RJ11, "isValidCodePoint", "(I)Z"⟩
abbrev cJ11_highSurrogate_5068e : ByteArray := prog_13_method_28_code
def yJ11_highSurrogate_5068e : MethodName := ⟨RJ11, "highSurrogate", "(I)C"⟩
abbrev cJ11_lowSurrogate_5068e : ByteArray := prog_13_method_29_code
def yJ11_lowSurrogate_5068e : MethodName := ⟨RJ11, "lowSurrogate", "(I)C"⟩
def RJ6 : String := "java/lang/Integer"
abbrev cJ6_bitCount_0f7a4 : ByteArray := prog_15_method_49_code
def yJ6_bitCount_0f7a4 : MethodName := ⟨RJ6, "bitCount", "(I)I"⟩
def RJ9 : String := "java/lang/Math"
abbrev cJ9_max_7cf53 : ByteArray := prog_16_method_65_code
def yJ9_max_7cf53 : MethodName := ⟨RJ9, "max", "(II)I"⟩
abbrev cJ9_max_f86c9 : ByteArray := prog_16_method_66_code
def yJ9_max_f86c9 : MethodName := ⟨RJ9, "max", "(JJ)J"⟩
abbrev cJ9_min_7cf53 : ByteArray := prog_16_method_69_code
def yJ9_min_7cf53 : MethodName := ⟨RJ9, "min", "(II)I"⟩
def RJ0 : String := "java/lang/String"
abbrev cJ0_length_8abf5 : ByteArray := prog_17_method_54_code
def yJ0_length_8abf5 : MethodName := ⟨RJ0, "length", "()I"⟩
abbrev cJ0_charAt_5068e : ByteArray := prog_17_method_56_code
def yJ0_charAt_5068e : MethodName := ⟨RJ0, "charAt", "(I)C"⟩
abbrev cJ0_indexOf_0f7a4 : ByteArray := prog_17_method_79_code
def yJ0_indexOf_0f7a4 : MethodName := ⟨RJ0, "indexOf", "(I)I"⟩
abbrev cJ0_indexOf_7cf53 : ByteArray := prog_17_method_80_code
def yJ0_indexOf_7cf53 : MethodName := ⟨RJ0, "indexOf", "(II)I"⟩
abbrev cJ0_coder_7d493 : ByteArray := prog_17_method_152_code
def yJ0_coder_7d493 : MethodName := ⟨RJ0, "coder", "()B"⟩
abbrev cJ0_isLatin1_aae02 : ByteArray := prog_17_method_154_code
def yJ0_isLatin1_aae02 : MethodName := ⟨RJ0, "isLatin1", "()Z"⟩
abbrev cJ0_checkIndex_df160 : ByteArray := prog_17_method_155_code
def yJ0_checkIndex_df160 : MethodName := ⟨RJ0, "checkIndex", "(II)V"⟩
abbrev cJ0_checkBoundsBeginEnd_23922 : ByteArray := prog_17_method_158_code
def yJ0_checkBoundsBeginEnd_23922 : MethodName := ⟨RJ0, "checkBoundsBeginEnd", "(III)V"⟩
def RJ1 : String := "java/lang/StringLatin1"
abbrev cJ1_charAt_3b067 : ByteArray := prog_18_method_2_code
def yJ1_charAt_3b067 : MethodName := ⟨RJ1, "charAt", "([BI)C"⟩
abbrev cJ1_canEncode_9a6ad : ByteArray := prog_18_method_4_code
def yJ1_canEncode_9a6ad : MethodName := ⟨RJ1, "canEncode", "(I)Z"⟩
abbrev cJ1_indexOf_4cfef : ByteArray := prog_18_method_22_code
def yJ1_indexOf_4cfef : MethodName := ⟨RJ1, "indexOf", "([BIII)I"⟩
abbrev cJ1_indexOfChar_4cfef : ByteArray := prog_18_method_23_code
def yJ1_indexOfChar_4cfef : MethodName := ⟨RJ1, "indexOfChar", "([BIII)I"⟩
def RJ2 : String := "java/lang/StringUTF16"
abbrev cJ2_getChar_3b067 : ByteArray := prog_19_method_5_code
def yJ2_getChar_3b067 : MethodName := ⟨RJ2, "getChar", "([BI)C"⟩
abbrev cJ2_length_9d52b : ByteArray := prog_19_method_6_code
def yJ2_length_9d52b : MethodName := ⟨RJ2, "length", "([B)I"⟩
abbrev cJ2_indexOf_4cfef : ByteArray := prog_19_method_40_code
def yJ2_indexOf_4cfef : MethodName := ⟨RJ2, "indexOf", "([BIII)I"⟩
abbrev cJ2_indexOfChar_4cfef : ByteArray := prog_19_method_47_code
def yJ2_indexOfChar_4cfef : MethodName := ⟨RJ2, "indexOfChar", "([BIII)I"⟩
abbrev cJ2_indexOfCharUnsafe_4cfef : ByteArray := prog_19_method_48_code
def yJ2_indexOfCharUnsafe_4cfef : MethodName := ⟨RJ2, "indexOfCharUnsafe", "([BIII)I"⟩
abbrev cJ2_indexOfSupplementary_4cfef : ByteArray := prog_19_method_49_code
def yJ2_indexOfSupplementary_4cfef : MethodName := ⟨RJ2, "indexOfSupplementary", "([BIII)I"⟩
abbrev cJ2_charAt_3b067 : ByteArray := prog_19_method_83_code
def yJ2_charAt_3b067 : MethodName := ⟨RJ2, "charAt", "([BI)C"⟩
abbrev cJ2_checkIndex_2214a : ByteArray := prog_19_method_91_code
def yJ2_checkIndex_2214a : MethodName := ⟨RJ2, "checkIndex", "(I[B)V"⟩
abbrev cJ2_checkBoundsBeginEnd_d044e : ByteArray := prog_19_method_93_code
def yJ2_checkBoundsBeginEnd_d044e : MethodName := ⟨RJ2, "checkBoundsBeginEnd", "(II[B)V"⟩
def RJ10 : String := "java/lang/System"
def RJ7 : String := "java/util/Arrays"
abbrev cJ7_fill_d0a16 : ByteArray := prog_21_method_101_code
def yJ7_fill_d0a16 : MethodName := ⟨RJ7, "fill", "([JJ)V"⟩
abbrev cJ7_fill_53178 : ByteArray := prog_21_method_103_code
def yJ7_fill_53178 : MethodName := ⟨RJ7, "fill", "([II)V"⟩
abbrev cJ7_copyOf_59c91 : ByteArray := prog_21_method_123_code
def yJ7_copyOf_59c91 : MethodName := ⟨RJ7, "copyOf", "([II)[I"⟩
def RJ3 : String := "jdk/internal/util/Preconditions"
abbrev cJ3_checkIndex_8e157 : ByteArray := prog_22_method_11_code
def yJ3_checkIndex_8e157 : MethodName := ⟨RJ3, "checkIndex", "(IILjava/util/function/BiFunction;)I"⟩
abbrev cJ3_checkFromToIndex_8c36e : ByteArray := prog_22_method_12_code
def yJ3_checkFromToIndex_8c36e : MethodName := ⟨RJ3, "checkFromToIndex", "(IIILjava/util/function/BiFunction;)I"⟩
def RL : String := "JoinDrawsLaw"
abbrev cL_law : ByteArray := code
def yL_law : MethodName := ⟨RL, "law", "([I)Z"⟩
