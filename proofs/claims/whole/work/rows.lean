section
-- ===== PART A: goes FIRST, ahead of the names: the tables' words, and 'selects' of the private methods out of them =====
/-- a private method of a class that the tables say can be made, by its rows of tables_1 -/
def lw_okq (q : MethodName × Nat) : Prop := (q.1.cls ≠ "java/lang/invoke/MethodHandle" ∧ q.1.cls ≠ "java/lang/invoke/VarHandle") ∧ Cond.instantiable q.1.cls q.2 ∈ tables_1 ∧ Cond.privateMethod q.1 ∈ tables_1 ∧ Cond.instanceMethod q.1 ∈ tables_1
theorem lw_p0 : lw_okq (⟨"DiscourseContexts", "isIndividual", "(I)Z"⟩, 10) := ⟨⟨by decide +kernel, by decide +kernel⟩, List.mem_of_getElem? (i := 17) (by decide +kernel), List.mem_of_getElem? (i := 372) (by decide +kernel), List.mem_of_getElem? (i := 373) (by decide +kernel)⟩
theorem lw_p1 : lw_okq (⟨"DiscourseContexts", "isObject", "(I)Z"⟩, 10) := ⟨⟨by decide +kernel, by decide +kernel⟩, List.mem_of_getElem? (i := 17) (by decide +kernel), List.mem_of_getElem? (i := 400) (by decide +kernel), List.mem_of_getElem? (i := 401) (by decide +kernel)⟩
theorem lw_p2 : lw_okq (⟨"DiscourseContexts$Parser", "part", "()LDiscourseContexts$Node;"⟩, 5) := ⟨⟨by decide +kernel, by decide +kernel⟩, List.mem_of_getElem? (i := 127) (by decide +kernel), List.mem_of_getElem? (i := 428) (by decide +kernel), List.mem_of_getElem? (i := 429) (by decide +kernel)⟩
theorem lw_p3 : lw_okq (⟨"DiscourseContexts$Parser", "skip", "(C)Z"⟩, 5) := ⟨⟨by decide +kernel, by decide +kernel⟩, List.mem_of_getElem? (i := 127) (by decide +kernel), List.mem_of_getElem? (i := 432) (by decide +kernel), List.mem_of_getElem? (i := 433) (by decide +kernel)⟩
theorem lw_p4 : lw_okq (⟨"DiscourseContexts$Parser", "formula", "()LDiscourseContexts$Node;"⟩, 5) := ⟨⟨by decide +kernel, by decide +kernel⟩, List.mem_of_getElem? (i := 127) (by decide +kernel), List.mem_of_getElem? (i := 440) (by decide +kernel), List.mem_of_getElem? (i := 441) (by decide +kernel)⟩
theorem lw_p5 : lw_okq (⟨"DiscourseContexts$Parser", "choice", "()LDiscourseContexts$Node;"⟩, 5) := ⟨⟨by decide +kernel, by decide +kernel⟩, List.mem_of_getElem? (i := 127) (by decide +kernel), List.mem_of_getElem? (i := 444) (by decide +kernel), List.mem_of_getElem? (i := 445) (by decide +kernel)⟩
theorem lw_p6 : lw_okq (⟨"DiscourseContexts$Parser", "row", "()LDiscourseContexts$Node;"⟩, 5) := ⟨⟨by decide +kernel, by decide +kernel⟩, List.mem_of_getElem? (i := 127) (by decide +kernel), List.mem_of_getElem? (i := 448) (by decide +kernel), List.mem_of_getElem? (i := 449) (by decide +kernel)⟩
theorem lw_p7 : lw_okq (⟨"DiscourseContexts$Parser", "unit", "()LDiscourseContexts$Node;"⟩, 5) := ⟨⟨by decide +kernel, by decide +kernel⟩, List.mem_of_getElem? (i := 127) (by decide +kernel), List.mem_of_getElem? (i := 452) (by decide +kernel), List.mem_of_getElem? (i := 453) (by decide +kernel)⟩
theorem lw_p8 : lw_okq (⟨"DiscourseContexts$Parser", "negation", "()LDiscourseContexts$Node;"⟩, 5) := ⟨⟨by decide +kernel, by decide +kernel⟩, List.mem_of_getElem? (i := 127) (by decide +kernel), List.mem_of_getElem? (i := 456) (by decide +kernel), List.mem_of_getElem? (i := 457) (by decide +kernel)⟩
theorem lw_p9 : lw_okq (⟨"DiscourseContexts$Parser", "openSign", "()Z"⟩, 5) := ⟨⟨by decide +kernel, by decide +kernel⟩, List.mem_of_getElem? (i := 127) (by decide +kernel), List.mem_of_getElem? (i := 460) (by decide +kernel), List.mem_of_getElem? (i := 461) (by decide +kernel)⟩
theorem lw_p10 : lw_okq (⟨"DiscourseContexts$Parser", "holding", "(ILDiscourseContexts$Node;)LDiscourseContexts$Node;"⟩, 5) := ⟨⟨by decide +kernel, by decide +kernel⟩, List.mem_of_getElem? (i := 127) (by decide +kernel), List.mem_of_getElem? (i := 464) (by decide +kernel), List.mem_of_getElem? (i := 465) (by decide +kernel)⟩
theorem lw_p11 : lw_okq (⟨"DiscourseContexts$Parser", "taken", "(I)LDiscourseContexts$Node;"⟩, 5) := ⟨⟨by decide +kernel, by decide +kernel⟩, List.mem_of_getElem? (i := 127) (by decide +kernel), List.mem_of_getElem? (i := 468) (by decide +kernel), List.mem_of_getElem? (i := 469) (by decide +kernel)⟩
theorem lw_p12 : lw_okq (⟨"DiscourseContexts$Parser", "joined", "(LDiscourseContexts$Node;LDiscourseContexts$Node;)LDiscourseContexts$Node;"⟩, 5) := ⟨⟨by decide +kernel, by decide +kernel⟩, List.mem_of_getElem? (i := 127) (by decide +kernel), List.mem_of_getElem? (i := 472) (by decide +kernel), List.mem_of_getElem? (i := 473) (by decide +kernel)⟩
theorem lw_p13 : lw_okq (⟨"DiscourseContexts$Parser", "group", "()LDiscourseContexts$Node;"⟩, 5) := ⟨⟨by decide +kernel, by decide +kernel⟩, List.mem_of_getElem? (i := 127) (by decide +kernel), List.mem_of_getElem? (i := 480) (by decide +kernel), List.mem_of_getElem? (i := 481) (by decide +kernel)⟩
theorem lw_p14 : lw_okq (⟨"DiscourseContexts$Parser", "aboutOne", "(II)LDiscourseContexts$Node;"⟩, 5) := ⟨⟨by decide +kernel, by decide +kernel⟩, List.mem_of_getElem? (i := 127) (by decide +kernel), List.mem_of_getElem? (i := 484) (by decide +kernel), List.mem_of_getElem? (i := 485) (by decide +kernel)⟩
theorem lw_p15 : lw_okq (⟨"DiscourseContexts$Parser", "skipVariable", "()Z"⟩, 5) := ⟨⟨by decide +kernel, by decide +kernel⟩, List.mem_of_getElem? (i := 127) (by decide +kernel), List.mem_of_getElem? (i := 488) (by decide +kernel), List.mem_of_getElem? (i := 489) (by decide +kernel)⟩
def lw_privs_1 : List (MethodName × Nat) := [(⟨"DiscourseContexts", "isIndividual", "(I)Z"⟩, 10), (⟨"DiscourseContexts", "isObject", "(I)Z"⟩, 10), (⟨"DiscourseContexts$Parser", "part", "()LDiscourseContexts$Node;"⟩, 5), (⟨"DiscourseContexts$Parser", "skip", "(C)Z"⟩, 5), (⟨"DiscourseContexts$Parser", "formula", "()LDiscourseContexts$Node;"⟩, 5), (⟨"DiscourseContexts$Parser", "choice", "()LDiscourseContexts$Node;"⟩, 5), (⟨"DiscourseContexts$Parser", "row", "()LDiscourseContexts$Node;"⟩, 5), (⟨"DiscourseContexts$Parser", "unit", "()LDiscourseContexts$Node;"⟩, 5), (⟨"DiscourseContexts$Parser", "negation", "()LDiscourseContexts$Node;"⟩, 5), (⟨"DiscourseContexts$Parser", "openSign", "()Z"⟩, 5), (⟨"DiscourseContexts$Parser", "holding", "(ILDiscourseContexts$Node;)LDiscourseContexts$Node;"⟩, 5), (⟨"DiscourseContexts$Parser", "taken", "(I)LDiscourseContexts$Node;"⟩, 5), (⟨"DiscourseContexts$Parser", "joined", "(LDiscourseContexts$Node;LDiscourseContexts$Node;)LDiscourseContexts$Node;"⟩, 5), (⟨"DiscourseContexts$Parser", "group", "()LDiscourseContexts$Node;"⟩, 5), (⟨"DiscourseContexts$Parser", "aboutOne", "(II)LDiscourseContexts$Node;"⟩, 5), (⟨"DiscourseContexts$Parser", "skipVariable", "()Z"⟩, 5)]
theorem lw_r1 : ∀ q ∈ lw_privs_1, lw_okq q := List.forall_mem_cons.mpr ⟨lw_p0, List.forall_mem_cons.mpr ⟨lw_p1, List.forall_mem_cons.mpr ⟨lw_p2, List.forall_mem_cons.mpr ⟨lw_p3, List.forall_mem_cons.mpr ⟨lw_p4, List.forall_mem_cons.mpr ⟨lw_p5, List.forall_mem_cons.mpr ⟨lw_p6, List.forall_mem_cons.mpr ⟨lw_p7, List.forall_mem_cons.mpr ⟨lw_p8, List.forall_mem_cons.mpr ⟨lw_p9, List.forall_mem_cons.mpr ⟨lw_p10, List.forall_mem_cons.mpr ⟨lw_p11, List.forall_mem_cons.mpr ⟨lw_p12, List.forall_mem_cons.mpr ⟨lw_p13, List.forall_mem_cons.mpr ⟨lw_p14, List.forall_mem_cons.mpr ⟨lw_p15, fun _ h => absurd h List.not_mem_nil⟩⟩⟩⟩⟩⟩⟩⟩⟩⟩⟩⟩⟩⟩⟩⟩
theorem lw_p16 : lw_okq (⟨"DiscourseContexts$Parser", "simple", "(IIII)LDiscourseContexts$Node;"⟩, 5) := ⟨⟨by decide +kernel, by decide +kernel⟩, List.mem_of_getElem? (i := 127) (by decide +kernel), List.mem_of_getElem? (i := 492) (by decide +kernel), List.mem_of_getElem? (i := 493) (by decide +kernel)⟩
theorem lw_p17 : lw_okq (⟨"DiscourseContexts$Parser", "aboutTwo", "(I)LDiscourseContexts$Node;"⟩, 5) := ⟨⟨by decide +kernel, by decide +kernel⟩, List.mem_of_getElem? (i := 127) (by decide +kernel), List.mem_of_getElem? (i := 496) (by decide +kernel), List.mem_of_getElem? (i := 497) (by decide +kernel)⟩
theorem lw_p18 : lw_okq (⟨"DiscourseContexts$Parser", "count", "(I)LDiscourseContexts$Node;"⟩, 5) := ⟨⟨by decide +kernel, by decide +kernel⟩, List.mem_of_getElem? (i := 127) (by decide +kernel), List.mem_of_getElem? (i := 500) (by decide +kernel), List.mem_of_getElem? (i := 501) (by decide +kernel)⟩
theorem lw_p19 : lw_okq (⟨"DiscourseContexts$Parser", "comparison", "()LDiscourseContexts$Node;"⟩, 5) := ⟨⟨by decide +kernel, by decide +kernel⟩, List.mem_of_getElem? (i := 127) (by decide +kernel), List.mem_of_getElem? (i := 504) (by decide +kernel), List.mem_of_getElem? (i := 505) (by decide +kernel)⟩
theorem lw_p20 : lw_okq (⟨"DiscourseContexts$Knowledge", "readOver", "(LDiscourseContexts$Node;II)I"⟩, 3) := ⟨⟨by decide +kernel, by decide +kernel⟩, List.mem_of_getElem? (i := 223) (by decide +kernel), List.mem_of_getElem? (i := 516) (by decide +kernel), List.mem_of_getElem? (i := 517) (by decide +kernel)⟩
theorem lw_p21 : lw_okq (⟨"DiscourseContexts$Knowledge", "readChain", "(LDiscourseContexts$Node;II)I"⟩, 3) := ⟨⟨by decide +kernel, by decide +kernel⟩, List.mem_of_getElem? (i := 223) (by decide +kernel), List.mem_of_getElem? (i := 520) (by decide +kernel), List.mem_of_getElem? (i := 521) (by decide +kernel)⟩
theorem lw_p22 : lw_okq (⟨"DiscourseContexts$Knowledge", "readEach", "(LDiscourseContexts$Node;II)V"⟩, 3) := ⟨⟨by decide +kernel, by decide +kernel⟩, List.mem_of_getElem? (i := 223) (by decide +kernel), List.mem_of_getElem? (i := 524) (by decide +kernel), List.mem_of_getElem? (i := 525) (by decide +kernel)⟩
theorem lw_p23 : lw_okq (⟨"DiscourseContexts$Knowledge", "look", "(IIII)V"⟩, 3) := ⟨⟨by decide +kernel, by decide +kernel⟩, List.mem_of_getElem? (i := 223) (by decide +kernel), List.mem_of_getElem? (i := 528) (by decide +kernel), List.mem_of_getElem? (i := 529) (by decide +kernel)⟩
theorem lw_p24 : lw_okq (⟨"DiscourseContexts", "tryAccepting", "(LDiscourseContexts$Node;)I"⟩, 10) := ⟨⟨by decide +kernel, by decide +kernel⟩, List.mem_of_getElem? (i := 17) (by decide +kernel), List.mem_of_getElem? (i := 601) (by decide +kernel), List.mem_of_getElem? (i := 602) (by decide +kernel)⟩
theorem lw_p25 : lw_okq (⟨"DiscourseContexts$Meaning", "turnByChain", "(LDiscourseContexts$Node;LDiscourseContexts$Assignments;Z)V"⟩, 1) := ⟨⟨by decide +kernel, by decide +kernel⟩, List.mem_of_getElem? (i := 242) (by decide +kernel), List.mem_of_getElem? (i := 620) (by decide +kernel), List.mem_of_getElem? (i := 621) (by decide +kernel)⟩
theorem lw_p26 : lw_okq (⟨"DiscourseContexts$Meaning", "turnBySome", "(LDiscourseContexts$Node;LDiscourseContexts$Assignments;Z)V"⟩, 1) := ⟨⟨by decide +kernel, by decide +kernel⟩, List.mem_of_getElem? (i := 242) (by decide +kernel), List.mem_of_getElem? (i := 624) (by decide +kernel), List.mem_of_getElem? (i := 625) (by decide +kernel)⟩
theorem lw_p27 : lw_okq (⟨"DiscourseContexts$Assignments", "varyWords", "(II)V"⟩, 1) := ⟨⟨by decide +kernel, by decide +kernel⟩, List.mem_of_getElem? (i := 49) (by decide +kernel), List.mem_of_getElem? (i := 633) (by decide +kernel), List.mem_of_getElem? (i := 634) (by decide +kernel)⟩
theorem lw_p28 : lw_okq (⟨"DiscourseContexts$Meaning", "keepByChoice", "(LDiscourseContexts$Node;LDiscourseContexts$Assignments;)V"⟩, 1) := ⟨⟨by decide +kernel, by decide +kernel⟩, List.mem_of_getElem? (i := 242) (by decide +kernel), List.mem_of_getElem? (i := 645) (by decide +kernel), List.mem_of_getElem? (i := 646) (by decide +kernel)⟩
theorem lw_p29 : lw_okq (⟨"DiscourseContexts$Meaning", "keepByCondition", "(LDiscourseContexts$Node;LDiscourseContexts$Assignments;)V"⟩, 1) := ⟨⟨by decide +kernel, by decide +kernel⟩, List.mem_of_getElem? (i := 242) (by decide +kernel), List.mem_of_getElem? (i := 657) (by decide +kernel), List.mem_of_getElem? (i := 658) (by decide +kernel)⟩
theorem lw_p30 : lw_okq (⟨"DiscourseContexts$Meaning", "keepByOne", "(LDiscourseContexts$Node;LDiscourseContexts$Assignments;)V"⟩, 1) := ⟨⟨by decide +kernel, by decide +kernel⟩, List.mem_of_getElem? (i := 242) (by decide +kernel), List.mem_of_getElem? (i := 665) (by decide +kernel), List.mem_of_getElem? (i := 666) (by decide +kernel)⟩
theorem lw_p31 : lw_okq (⟨"DiscourseContexts$Meaning", "holds", "(LDiscourseContexts$Node;II)Z"⟩, 1) := ⟨⟨by decide +kernel, by decide +kernel⟩, List.mem_of_getElem? (i := 242) (by decide +kernel), List.mem_of_getElem? (i := 669) (by decide +kernel), List.mem_of_getElem? (i := 670) (by decide +kernel)⟩
def lw_privs_2 : List (MethodName × Nat) := [(⟨"DiscourseContexts$Parser", "simple", "(IIII)LDiscourseContexts$Node;"⟩, 5), (⟨"DiscourseContexts$Parser", "aboutTwo", "(I)LDiscourseContexts$Node;"⟩, 5), (⟨"DiscourseContexts$Parser", "count", "(I)LDiscourseContexts$Node;"⟩, 5), (⟨"DiscourseContexts$Parser", "comparison", "()LDiscourseContexts$Node;"⟩, 5), (⟨"DiscourseContexts$Knowledge", "readOver", "(LDiscourseContexts$Node;II)I"⟩, 3), (⟨"DiscourseContexts$Knowledge", "readChain", "(LDiscourseContexts$Node;II)I"⟩, 3), (⟨"DiscourseContexts$Knowledge", "readEach", "(LDiscourseContexts$Node;II)V"⟩, 3), (⟨"DiscourseContexts$Knowledge", "look", "(IIII)V"⟩, 3), (⟨"DiscourseContexts", "tryAccepting", "(LDiscourseContexts$Node;)I"⟩, 10), (⟨"DiscourseContexts$Meaning", "turnByChain", "(LDiscourseContexts$Node;LDiscourseContexts$Assignments;Z)V"⟩, 1), (⟨"DiscourseContexts$Meaning", "turnBySome", "(LDiscourseContexts$Node;LDiscourseContexts$Assignments;Z)V"⟩, 1), (⟨"DiscourseContexts$Assignments", "varyWords", "(II)V"⟩, 1), (⟨"DiscourseContexts$Meaning", "keepByChoice", "(LDiscourseContexts$Node;LDiscourseContexts$Assignments;)V"⟩, 1), (⟨"DiscourseContexts$Meaning", "keepByCondition", "(LDiscourseContexts$Node;LDiscourseContexts$Assignments;)V"⟩, 1), (⟨"DiscourseContexts$Meaning", "keepByOne", "(LDiscourseContexts$Node;LDiscourseContexts$Assignments;)V"⟩, 1), (⟨"DiscourseContexts$Meaning", "holds", "(LDiscourseContexts$Node;II)Z"⟩, 1)]
theorem lw_r2 : ∀ q ∈ lw_privs_2, lw_okq q := List.forall_mem_cons.mpr ⟨lw_p16, List.forall_mem_cons.mpr ⟨lw_p17, List.forall_mem_cons.mpr ⟨lw_p18, List.forall_mem_cons.mpr ⟨lw_p19, List.forall_mem_cons.mpr ⟨lw_p20, List.forall_mem_cons.mpr ⟨lw_p21, List.forall_mem_cons.mpr ⟨lw_p22, List.forall_mem_cons.mpr ⟨lw_p23, List.forall_mem_cons.mpr ⟨lw_p24, List.forall_mem_cons.mpr ⟨lw_p25, List.forall_mem_cons.mpr ⟨lw_p26, List.forall_mem_cons.mpr ⟨lw_p27, List.forall_mem_cons.mpr ⟨lw_p28, List.forall_mem_cons.mpr ⟨lw_p29, List.forall_mem_cons.mpr ⟨lw_p30, List.forall_mem_cons.mpr ⟨lw_p31, fun _ h => absurd h List.not_mem_nil⟩⟩⟩⟩⟩⟩⟩⟩⟩⟩⟩⟩⟩⟩⟩⟩
theorem lw_p32 : lw_okq (⟨"DiscourseContexts$Meaning", "keepByTwo", "(LDiscourseContexts$Node;LDiscourseContexts$Assignments;)V"⟩, 1) := ⟨⟨by decide +kernel, by decide +kernel⟩, List.mem_of_getElem? (i := 242) (by decide +kernel), List.mem_of_getElem? (i := 685) (by decide +kernel), List.mem_of_getElem? (i := 686) (by decide +kernel)⟩
theorem lw_p33 : lw_okq (⟨"DiscourseContexts", "isTrueInOtherWorld", "(LDiscourseContexts$Node;)Z"⟩, 10) := ⟨⟨by decide +kernel, by decide +kernel⟩, List.mem_of_getElem? (i := 17) (by decide +kernel), List.mem_of_getElem? (i := 737) (by decide +kernel), List.mem_of_getElem? (i := 738) (by decide +kernel)⟩
theorem lw_p34 : lw_okq (⟨"DiscourseContextsModel", "acts", "()V"⟩, 29) := ⟨⟨by decide +kernel, by decide +kernel⟩, List.mem_of_getElem? (i := 755) (by decide +kernel), List.mem_of_getElem? (i := 857) (by decide +kernel), List.mem_of_getElem? (i := 858) (by decide +kernel)⟩
theorem lw_p35 : lw_okq (⟨"DiscourseContextsModel", "first", "()V"⟩, 29) := ⟨⟨by decide +kernel, by decide +kernel⟩, List.mem_of_getElem? (i := 755) (by decide +kernel), List.mem_of_getElem? (i := 861) (by decide +kernel), List.mem_of_getElem? (i := 862) (by decide +kernel)⟩
theorem lw_p36 : lw_okq (⟨"DiscourseContextsModel", "full", "()I"⟩, 29) := ⟨⟨by decide +kernel, by decide +kernel⟩, List.mem_of_getElem? (i := 755) (by decide +kernel), List.mem_of_getElem? (i := 869) (by decide +kernel), List.mem_of_getElem? (i := 870) (by decide +kernel)⟩
theorem lw_p37 : lw_okq (⟨"DiscourseContextsModel", "isObject", "(I)Z"⟩, 29) := ⟨⟨by decide +kernel, by decide +kernel⟩, List.mem_of_getElem? (i := 755) (by decide +kernel), List.mem_of_getElem? (i := 889) (by decide +kernel), List.mem_of_getElem? (i := 890) (by decide +kernel)⟩
theorem lw_p38 : lw_okq (⟨"DiscourseContextsModel", "holds", "(III)Z"⟩, 29) := ⟨⟨by decide +kernel, by decide +kernel⟩, List.mem_of_getElem? (i := 755) (by decide +kernel), List.mem_of_getElem? (i := 893) (by decide +kernel), List.mem_of_getElem? (i := 894) (by decide +kernel)⟩
theorem lw_p39 : lw_okq (⟨"DiscourseContextsModel", "reads", "(II)Z"⟩, 29) := ⟨⟨by decide +kernel, by decide +kernel⟩, List.mem_of_getElem? (i := 755) (by decide +kernel), List.mem_of_getElem? (i := 909) (by decide +kernel), List.mem_of_getElem? (i := 910) (by decide +kernel)⟩
theorem lw_p40 : lw_okq (⟨"DiscourseContextsModel", "next", "()I"⟩, 29) := ⟨⟨by decide +kernel, by decide +kernel⟩, List.mem_of_getElem? (i := 755) (by decide +kernel), List.mem_of_getElem? (i := 913) (by decide +kernel), List.mem_of_getElem? (i := 914) (by decide +kernel)⟩
theorem lw_p41 : lw_okq (⟨"DiscourseContextsModel", "opens", "(I)V"⟩, 29) := ⟨⟨by decide +kernel, by decide +kernel⟩, List.mem_of_getElem? (i := 755) (by decide +kernel), List.mem_of_getElem? (i := 917) (by decide +kernel), List.mem_of_getElem? (i := 918) (by decide +kernel)⟩
theorem lw_p42 : lw_okq (⟨"DiscourseContextsModel", "readsFormula", "()Z"⟩, 29) := ⟨⟨by decide +kernel, by decide +kernel⟩, List.mem_of_getElem? (i := 755) (by decide +kernel), List.mem_of_getElem? (i := 921) (by decide +kernel), List.mem_of_getElem? (i := 922) (by decide +kernel)⟩
theorem lw_p43 : lw_okq (⟨"DiscourseContextsModel", "readsUnit", "()Z"⟩, 29) := ⟨⟨by decide +kernel, by decide +kernel⟩, List.mem_of_getElem? (i := 755) (by decide +kernel), List.mem_of_getElem? (i := 925) (by decide +kernel), List.mem_of_getElem? (i := 926) (by decide +kernel)⟩
theorem lw_p44 : lw_okq (⟨"DiscourseContextsModel", "variable", "(Z)I"⟩, 29) := ⟨⟨by decide +kernel, by decide +kernel⟩, List.mem_of_getElem? (i := 755) (by decide +kernel), List.mem_of_getElem? (i := 929) (by decide +kernel), List.mem_of_getElem? (i := 930) (by decide +kernel)⟩
theorem lw_p45 : lw_okq (⟨"DiscourseContextsModel", "finds", "(I)V"⟩, 29) := ⟨⟨by decide +kernel, by decide +kernel⟩, List.mem_of_getElem? (i := 755) (by decide +kernel), List.mem_of_getElem? (i := 933) (by decide +kernel), List.mem_of_getElem? (i := 934) (by decide +kernel)⟩
theorem lw_p46 : lw_okq (⟨"DiscourseContextsModel", "pushes", "(I)V"⟩, 29) := ⟨⟨by decide +kernel, by decide +kernel⟩, List.mem_of_getElem? (i := 755) (by decide +kernel), List.mem_of_getElem? (i := 937) (by decide +kernel), List.mem_of_getElem? (i := 938) (by decide +kernel)⟩
theorem lw_p47 : lw_okq (⟨"DiscourseContextsModel", "tests", "(III)Z"⟩, 29) := ⟨⟨by decide +kernel, by decide +kernel⟩, List.mem_of_getElem? (i := 755) (by decide +kernel), List.mem_of_getElem? (i := 941) (by decide +kernel), List.mem_of_getElem? (i := 942) (by decide +kernel)⟩
def lw_privs_3 : List (MethodName × Nat) := [(⟨"DiscourseContexts$Meaning", "keepByTwo", "(LDiscourseContexts$Node;LDiscourseContexts$Assignments;)V"⟩, 1), (⟨"DiscourseContexts", "isTrueInOtherWorld", "(LDiscourseContexts$Node;)Z"⟩, 10), (⟨"DiscourseContextsModel", "acts", "()V"⟩, 29), (⟨"DiscourseContextsModel", "first", "()V"⟩, 29), (⟨"DiscourseContextsModel", "full", "()I"⟩, 29), (⟨"DiscourseContextsModel", "isObject", "(I)Z"⟩, 29), (⟨"DiscourseContextsModel", "holds", "(III)Z"⟩, 29), (⟨"DiscourseContextsModel", "reads", "(II)Z"⟩, 29), (⟨"DiscourseContextsModel", "next", "()I"⟩, 29), (⟨"DiscourseContextsModel", "opens", "(I)V"⟩, 29), (⟨"DiscourseContextsModel", "readsFormula", "()Z"⟩, 29), (⟨"DiscourseContextsModel", "readsUnit", "()Z"⟩, 29), (⟨"DiscourseContextsModel", "variable", "(Z)I"⟩, 29), (⟨"DiscourseContextsModel", "finds", "(I)V"⟩, 29), (⟨"DiscourseContextsModel", "pushes", "(I)V"⟩, 29), (⟨"DiscourseContextsModel", "tests", "(III)Z"⟩, 29)]
theorem lw_r3 : ∀ q ∈ lw_privs_3, lw_okq q := List.forall_mem_cons.mpr ⟨lw_p32, List.forall_mem_cons.mpr ⟨lw_p33, List.forall_mem_cons.mpr ⟨lw_p34, List.forall_mem_cons.mpr ⟨lw_p35, List.forall_mem_cons.mpr ⟨lw_p36, List.forall_mem_cons.mpr ⟨lw_p37, List.forall_mem_cons.mpr ⟨lw_p38, List.forall_mem_cons.mpr ⟨lw_p39, List.forall_mem_cons.mpr ⟨lw_p40, List.forall_mem_cons.mpr ⟨lw_p41, List.forall_mem_cons.mpr ⟨lw_p42, List.forall_mem_cons.mpr ⟨lw_p43, List.forall_mem_cons.mpr ⟨lw_p44, List.forall_mem_cons.mpr ⟨lw_p45, List.forall_mem_cons.mpr ⟨lw_p46, List.forall_mem_cons.mpr ⟨lw_p47, fun _ h => absurd h List.not_mem_nil⟩⟩⟩⟩⟩⟩⟩⟩⟩⟩⟩⟩⟩⟩⟩⟩
theorem lw_p48 : lw_okq (⟨"DiscourseContextsModel", "isSo", "(III)Z"⟩, 29) := ⟨⟨by decide +kernel, by decide +kernel⟩, List.mem_of_getElem? (i := 755) (by decide +kernel), List.mem_of_getElem? (i := 948) (by decide +kernel), List.mem_of_getElem? (i := 949) (by decide +kernel)⟩
theorem lw_p49 : lw_okq (⟨"DiscourseContextsModel", "pushesTest", "(Z)V"⟩, 29) := ⟨⟨by decide +kernel, by decide +kernel⟩, List.mem_of_getElem? (i := 755) (by decide +kernel), List.mem_of_getElem? (i := 955) (by decide +kernel), List.mem_of_getElem? (i := 956) (by decide +kernel)⟩
theorem lw_p50 : lw_okq (⟨"DiscourseContextsModel", "endsUnit", "()V"⟩, 29) := ⟨⟨by decide +kernel, by decide +kernel⟩, List.mem_of_getElem? (i := 755) (by decide +kernel), List.mem_of_getElem? (i := 959) (by decide +kernel), List.mem_of_getElem? (i := 960) (by decide +kernel)⟩
theorem lw_p51 : lw_okq (⟨"DiscourseContextsModel", "hasResults", "(I)V"⟩, 29) := ⟨⟨by decide +kernel, by decide +kernel⟩, List.mem_of_getElem? (i := 755) (by decide +kernel), List.mem_of_getElem? (i := 963) (by decide +kernel), List.mem_of_getElem? (i := 964) (by decide +kernel)⟩
theorem lw_p52 : lw_okq (⟨"DiscourseContextsModel", "leads", "(I)V"⟩, 29) := ⟨⟨by decide +kernel, by decide +kernel⟩, List.mem_of_getElem? (i := 755) (by decide +kernel), List.mem_of_getElem? (i := 967) (by decide +kernel), List.mem_of_getElem? (i := 968) (by decide +kernel)⟩
theorem lw_p53 : lw_okq (⟨"DiscourseContextsModel", "endsRow", "()V"⟩, 29) := ⟨⟨by decide +kernel, by decide +kernel⟩, List.mem_of_getElem? (i := 755) (by decide +kernel), List.mem_of_getElem? (i := 971) (by decide +kernel), List.mem_of_getElem? (i := 972) (by decide +kernel)⟩
theorem lw_p54 : lw_okq (⟨"DiscourseContextsModel", "endsChoice", "()V"⟩, 29) := ⟨⟨by decide +kernel, by decide +kernel⟩, List.mem_of_getElem? (i := 755) (by decide +kernel), List.mem_of_getElem? (i := 975) (by decide +kernel), List.mem_of_getElem? (i := 976) (by decide +kernel)⟩
theorem lw_p55 : lw_okq (⟨"DiscourseContextsModel", "under", "()I"⟩, 29) := ⟨⟨by decide +kernel, by decide +kernel⟩, List.mem_of_getElem? (i := 755) (by decide +kernel), List.mem_of_getElem? (i := 979) (by decide +kernel), List.mem_of_getElem? (i := 980) (by decide +kernel)⟩
theorem lw_p56 : lw_okq (⟨"DiscourseContextsModel", "endsFormula", "()V"⟩, 29) := ⟨⟨by decide +kernel, by decide +kernel⟩, List.mem_of_getElem? (i := 755) (by decide +kernel), List.mem_of_getElem? (i := 983) (by decide +kernel), List.mem_of_getElem? (i := 984) (by decide +kernel)⟩
theorem lw_p57 : lw_okq (⟨"DiscourseContextsModel", "takes", "(IZI)Z"⟩, 29) := ⟨⟨by decide +kernel, by decide +kernel⟩, List.mem_of_getElem? (i := 755) (by decide +kernel), List.mem_of_getElem? (i := 987) (by decide +kernel), List.mem_of_getElem? (i := 988) (by decide +kernel)⟩
theorem lw_p58 : lw_okq (⟨"DiscourseContextsModel", "isSupported", "(I)Z"⟩, 29) := ⟨⟨by decide +kernel, by decide +kernel⟩, List.mem_of_getElem? (i := 755) (by decide +kernel), List.mem_of_getElem? (i := 991) (by decide +kernel), List.mem_of_getElem? (i := 992) (by decide +kernel)⟩
theorem lw_p59 : lw_okq (⟨"DiscourseContextsModel", "turns", "(I)V"⟩, 29) := ⟨⟨by decide +kernel, by decide +kernel⟩, List.mem_of_getElem? (i := 755) (by decide +kernel), List.mem_of_getElem? (i := 995) (by decide +kernel), List.mem_of_getElem? (i := 996) (by decide +kernel)⟩
theorem lw_p60 : lw_okq (⟨"DiscourseContextsModel", "inContext", "()I"⟩, 29) := ⟨⟨by decide +kernel, by decide +kernel⟩, List.mem_of_getElem? (i := 755) (by decide +kernel), List.mem_of_getElem? (i := 999) (by decide +kernel), List.mem_of_getElem? (i := 1000) (by decide +kernel)⟩
theorem lw_p61 : lw_okq (⟨"DiscourseContextsModel", "size", "()I"⟩, 29) := ⟨⟨by decide +kernel, by decide +kernel⟩, List.mem_of_getElem? (i := 755) (by decide +kernel), List.mem_of_getElem? (i := 1019) (by decide +kernel), List.mem_of_getElem? (i := 1020) (by decide +kernel)⟩
theorem lw_p62 : lw_okq (⟨"DiscourseContextsModel", "isThere", "(I)Z"⟩, 29) := ⟨⟨by decide +kernel, by decide +kernel⟩, List.mem_of_getElem? (i := 755) (by decide +kernel), List.mem_of_getElem? (i := 1023) (by decide +kernel), List.mem_of_getElem? (i := 1024) (by decide +kernel)⟩
theorem lw_p63 : lw_okq (⟨"DiscourseContextsModel", "isKnown", "(I)Z"⟩, 29) := ⟨⟨by decide +kernel, by decide +kernel⟩, List.mem_of_getElem? (i := 755) (by decide +kernel), List.mem_of_getElem? (i := 1035) (by decide +kernel), List.mem_of_getElem? (i := 1036) (by decide +kernel)⟩
def lw_privs_4 : List (MethodName × Nat) := [(⟨"DiscourseContextsModel", "isSo", "(III)Z"⟩, 29), (⟨"DiscourseContextsModel", "pushesTest", "(Z)V"⟩, 29), (⟨"DiscourseContextsModel", "endsUnit", "()V"⟩, 29), (⟨"DiscourseContextsModel", "hasResults", "(I)V"⟩, 29), (⟨"DiscourseContextsModel", "leads", "(I)V"⟩, 29), (⟨"DiscourseContextsModel", "endsRow", "()V"⟩, 29), (⟨"DiscourseContextsModel", "endsChoice", "()V"⟩, 29), (⟨"DiscourseContextsModel", "under", "()I"⟩, 29), (⟨"DiscourseContextsModel", "endsFormula", "()V"⟩, 29), (⟨"DiscourseContextsModel", "takes", "(IZI)Z"⟩, 29), (⟨"DiscourseContextsModel", "isSupported", "(I)Z"⟩, 29), (⟨"DiscourseContextsModel", "turns", "(I)V"⟩, 29), (⟨"DiscourseContextsModel", "inContext", "()I"⟩, 29), (⟨"DiscourseContextsModel", "size", "()I"⟩, 29), (⟨"DiscourseContextsModel", "isThere", "(I)Z"⟩, 29), (⟨"DiscourseContextsModel", "isKnown", "(I)Z"⟩, 29)]
theorem lw_r4 : ∀ q ∈ lw_privs_4, lw_okq q := List.forall_mem_cons.mpr ⟨lw_p48, List.forall_mem_cons.mpr ⟨lw_p49, List.forall_mem_cons.mpr ⟨lw_p50, List.forall_mem_cons.mpr ⟨lw_p51, List.forall_mem_cons.mpr ⟨lw_p52, List.forall_mem_cons.mpr ⟨lw_p53, List.forall_mem_cons.mpr ⟨lw_p54, List.forall_mem_cons.mpr ⟨lw_p55, List.forall_mem_cons.mpr ⟨lw_p56, List.forall_mem_cons.mpr ⟨lw_p57, List.forall_mem_cons.mpr ⟨lw_p58, List.forall_mem_cons.mpr ⟨lw_p59, List.forall_mem_cons.mpr ⟨lw_p60, List.forall_mem_cons.mpr ⟨lw_p61, List.forall_mem_cons.mpr ⟨lw_p62, List.forall_mem_cons.mpr ⟨lw_p63, fun _ h => absurd h List.not_mem_nil⟩⟩⟩⟩⟩⟩⟩⟩⟩⟩⟩⟩⟩⟩⟩⟩
theorem lw_p64 : lw_okq (⟨"DiscourseContextsModel", "tries", "()I"⟩, 29) := ⟨⟨by decide +kernel, by decide +kernel⟩, List.mem_of_getElem? (i := 755) (by decide +kernel), List.mem_of_getElem? (i := 1055) (by decide +kernel), List.mem_of_getElem? (i := 1056) (by decide +kernel)⟩
theorem lw_p65 : lw_okq (⟨"DiscourseContextsModel", "error", "(I)I"⟩, 29) := ⟨⟨by decide +kernel, by decide +kernel⟩, List.mem_of_getElem? (i := 755) (by decide +kernel), List.mem_of_getElem? (i := 1059) (by decide +kernel), List.mem_of_getElem? (i := 1060) (by decide +kernel)⟩
theorem lw_p66 : lw_okq (⟨"DiscourseContextsModel", "takesContext", "(Z)V"⟩, 29) := ⟨⟨by decide +kernel, by decide +kernel⟩, List.mem_of_getElem? (i := 755) (by decide +kernel), List.mem_of_getElem? (i := 1063) (by decide +kernel), List.mem_of_getElem? (i := 1064) (by decide +kernel)⟩
theorem lw_p67 : lw_okq (⟨"DiscourseContextsModel", "isAllSupported", "(I)Z"⟩, 29) := ⟨⟨by decide +kernel, by decide +kernel⟩, List.mem_of_getElem? (i := 755) (by decide +kernel), List.mem_of_getElem? (i := 1091) (by decide +kernel), List.mem_of_getElem? (i := 1092) (by decide +kernel)⟩
def lw_privs_5 : List (MethodName × Nat) := [(⟨"DiscourseContextsModel", "tries", "()I"⟩, 29), (⟨"DiscourseContextsModel", "error", "(I)I"⟩, 29), (⟨"DiscourseContextsModel", "takesContext", "(Z)V"⟩, 29), (⟨"DiscourseContextsModel", "isAllSupported", "(I)Z"⟩, 29)]
theorem lw_r5 : ∀ q ∈ lw_privs_5, lw_okq q := List.forall_mem_cons.mpr ⟨lw_p64, List.forall_mem_cons.mpr ⟨lw_p65, List.forall_mem_cons.mpr ⟨lw_p66, List.forall_mem_cons.mpr ⟨lw_p67, fun _ h => absurd h List.not_mem_nil⟩⟩⟩⟩
def lw_privs : List (MethodName × Nat) := lw_privs_1 ++ (lw_privs_2 ++ (lw_privs_3 ++ (lw_privs_4 ++ (lw_privs_5))))
def lw_tbl : List Cond := k2_sels lw_privs ++ tables_1
theorem lw_privs_ok : ∀ q ∈ lw_privs, lw_okq q := by
  show ∀ q ∈ lw_privs_1 ++ (lw_privs_2 ++ (lw_privs_3 ++ (lw_privs_4 ++ (lw_privs_5)))), lw_okq q
  exact List.forall_mem_append.mpr ⟨lw_r1, List.forall_mem_append.mpr ⟨lw_r2, List.forall_mem_append.mpr ⟨lw_r3, List.forall_mem_append.mpr ⟨lw_r4, lw_r5⟩⟩⟩⟩
-- ===== end of PART A; then your names; then what follows =====
theorem goodIn_ca {big a b : List Cond} {c : Cond} (ha : GoodIn big (c :: a)) (hb : GoodIn big b) : GoodIn big (c :: (a ++ b)) := fun w h => (List.mem_cons.mp h).elim (fun e => ha w (List.mem_cons.mpr (Or.inl e))) (fun h => (List.mem_append.mp h).elim (fun h => ha w (List.mem_cons.mpr (Or.inr h))) (hb w))
theorem goodIn_sub {big ws : List Cond} (hm : ∀ w ∈ ws, w ∈ big) (h : ws.all goodWord = true) : GoodIn big ws := fun w hw => ⟨hm w hw, good_of_word (List.all_eq_true.mp h w hw)⟩
/-! ===== END ===== -/

/-! ===== BEGIN printed: names, fields, word lists, decode rows ===== -/
def RX0 : String := "DiscourseContexts$Acceptance"
def TX0 : u_T := fun k => match k with
  | 0 => ("DiscourseContexts$Acceptance", "meaning", "LDiscourseContexts$Meaning;", true)
  | 1 => ("DiscourseContexts$Acceptance", "context", "LDiscourseContexts$Assignments;", true)
  | 2 => ("DiscourseContexts$Acceptance", "supporting", "LDiscourseContexts$Assignments;", true)
  | 3 => ("DiscourseContexts$Acceptance", "accommodatedParts", "J", false)
  | _ => ("DiscourseContexts$Acceptance", "failingPlace", "I", false)
def tyX0 : Nat → FieldType := fun k => match k with
  | 0 => .object "DiscourseContexts$Meaning"
  | 1 => .object "DiscourseContexts$Assignments"
  | 2 => .object "DiscourseContexts$Assignments"
  | 3 => .long
  | _ => .int
abbrev wsX00 : List Cond := u_ws RX0 TX0 5
theorem nmX0 : ∀ a, a < 5 → ∀ b, b < 5 → a ≠ b → (TX0 a).2.1 ≠ (TX0 b).2.1 := by decide +kernel
theorem tyX0_ok : ∀ k, k < 5 → parseFieldDescriptor (TX0 k).2.2.1 = some (tyX0 k) := by decide +kernel
abbrev cX0_init : ByteArray := prog_2_method_1_code
def yX0_init : MethodName := ⟨RX0, "<init>", "(LDiscourseContexts$Meaning;)V"⟩
abbrev cX0_succeeds : ByteArray := prog_2_method_2_code
def yX0_succeeds : MethodName := ⟨RX0, "succeeds", "(LDiscourseContexts$Node;LDiscourseContexts$State;)Z"⟩
def RX1 : String := "DiscourseContexts$Assignments"
def TX1 : u_T := fun k => match k with
  | _ => ("DiscourseContexts$Assignments", "words", "[J", true)
def tyX1 : Nat → FieldType := fun k => match k with
  | _ => .array .long
abbrev wsX10 : List Cond := u_ws RX1 TX1 1
theorem nmX1 : ∀ a, a < 1 → ∀ b, b < 1 → a ≠ b → (TX1 a).2.1 ≠ (TX1 b).2.1 := by decide +kernel
theorem tyX1_ok : ∀ k, k < 1 → parseFieldDescriptor (TX1 k).2.2.1 = some (tyX1 k) := by decide +kernel
abbrev cX1_init : ByteArray := prog_3_method_1_code
def yX1_init : MethodName := ⟨RX1, "<init>", "()V"⟩
abbrev cX1_makeFirst : ByteArray := prog_3_method_2_code
def yX1_makeFirst : MethodName := ⟨RX1, "makeFirst", "()V"⟩
abbrev cX1_fill : ByteArray := prog_3_method_3_code
def yX1_fill : MethodName := ⟨RX1, "fill", "(J)V"⟩
abbrev cX1_copyFrom : ByteArray := prog_3_method_4_code
def yX1_copyFrom : MethodName := ⟨RX1, "copyFrom", "(LDiscourseContexts$Assignments;)V"⟩
abbrev cX1_unite : ByteArray := prog_3_method_5_code
def yX1_unite : MethodName := ⟨RX1, "unite", "(LDiscourseContexts$Assignments;)V"⟩
abbrev cX1_keep : ByteArray := prog_3_method_6_code
def yX1_keep : MethodName := ⟨RX1, "keep", "(LDiscourseContexts$Assignments;)V"⟩
abbrev cX1_remove : ByteArray := prog_3_method_7_code
def yX1_remove : MethodName := ⟨RX1, "remove", "(LDiscourseContexts$Assignments;)V"⟩
abbrev cX1_complement : ByteArray := prog_3_method_8_code
def yX1_complement : MethodName := ⟨RX1, "complement", "()V"⟩
abbrev cX1_isWithin : ByteArray := prog_3_method_9_code
def yX1_isWithin : MethodName := ⟨RX1, "isWithin", "(LDiscourseContexts$Assignments;)Z"⟩
abbrev cX1_isEmpty : ByteArray := prog_3_method_10_code
def yX1_isEmpty : MethodName := ⟨RX1, "isEmpty", "()Z"⟩
abbrev cX1_size : ByteArray := prog_3_method_11_code
def yX1_size : MethodName := ⟨RX1, "size", "()I"⟩
abbrev cX1_countOf : ByteArray := prog_3_method_12_code
def yX1_countOf : MethodName := ⟨RX1, "countOf", "(IIII)I"⟩
abbrev cX1_valuesOf : ByteArray := prog_3_method_13_code
def yX1_valuesOf : MethodName := ⟨RX1, "valuesOf", "(I)I"⟩
abbrev cX1_keepValues : ByteArray := prog_3_method_14_code
def yX1_keepValues : MethodName := ⟨RX1, "keepValues", "(II)V"⟩
abbrev cX1_keepPartners : ByteArray := prog_3_method_15_code
def yX1_keepPartners : MethodName := ⟨RX1, "keepPartners", "(IIII)V"⟩
abbrev cX1_vary : ByteArray := prog_3_method_16_code
def yX1_vary : MethodName := ⟨RX1, "vary", "(III)V"⟩
abbrev cX1_varyWords : ByteArray := prog_3_method_17_code
def yX1_varyWords : MethodName := ⟨RX1, "varyWords", "(II)V"⟩
abbrev cX1_varied : ByteArray := prog_3_method_18_code
def yX1_varied : MethodName := ⟨RX1, "varied", "(JIJII)J"⟩
abbrev cX1_mask : ByteArray := prog_3_method_19_code
def yX1_mask : MethodName := ⟨RX1, "mask", "(III)J"⟩
def RX2 : String := "DiscourseContexts$History"
def TX2 : u_T := fun k => match k with
  | 0 => ("DiscourseContexts$History", "states", "[LDiscourseContexts$State;", true)
  | 1 => ("DiscourseContexts$History", "place", "I", false)
  | _ => ("DiscourseContexts$History", "size", "I", false)
def tyX2 : Nat → FieldType := fun k => match k with
  | 0 => .array (.object "DiscourseContexts$State")
  | 1 => .int
  | _ => .int
abbrev wsX20 : List Cond := u_ws RX2 TX2 3
theorem nmX2 : ∀ a, a < 3 → ∀ b, b < 3 → a ≠ b → (TX2 a).2.1 ≠ (TX2 b).2.1 := by decide +kernel
theorem tyX2_ok : ∀ k, k < 3 → parseFieldDescriptor (TX2 k).2.2.1 = some (tyX2 k) := by decide +kernel
abbrev cX2_init : ByteArray := prog_4_method_1_code
def yX2_init : MethodName := ⟨RX2, "<init>", "()V"⟩
abbrev cX2_record : ByteArray := prog_4_method_2_code
def yX2_record : MethodName := ⟨RX2, "record", "(LDiscourseContexts$State;)V"⟩
abbrev cX2_restore : ByteArray := prog_4_method_3_code
def yX2_restore : MethodName := ⟨RX2, "restore", "(LDiscourseContexts$State;)Z"⟩
def RX3 : String := "DiscourseContexts$Knowledge"
def TX3 : u_T := fun k => match k with
  | 0 => ("DiscourseContexts$Knowledge", "knownBehind", "I", false)
  | 1 => ("DiscourseContexts$Knowledge", "unknownAt", "I", false)
  | _ => ("DiscourseContexts$Knowledge", "scopesAround", "I", false)
def tyX3 : Nat → FieldType := fun k => match k with
  | 0 => .int
  | 1 => .int
  | _ => .int
abbrev wsX30 : List Cond := u_ws RX3 TX3 3
theorem nmX3 : ∀ a, a < 3 → ∀ b, b < 3 → a ≠ b → (TX3 a).2.1 ≠ (TX3 b).2.1 := by decide +kernel
theorem tyX3_ok : ∀ k, k < 3 → parseFieldDescriptor (TX3 k).2.2.1 = some (tyX3 k) := by decide +kernel
abbrev cX3_init : ByteArray := prog_5_method_1_code
def yX3_init : MethodName := ⟨RX3, "<init>", "()V"⟩
abbrev cX3_suffices : ByteArray := prog_5_method_2_code
def yX3_suffices : MethodName := ⟨RX3, "suffices", "(LDiscourseContexts$Node;I)Z"⟩
abbrev cX3_readOver : ByteArray := prog_5_method_3_code
def yX3_readOver : MethodName := ⟨RX3, "readOver", "(LDiscourseContexts$Node;II)I"⟩
abbrev cX3_readChain : ByteArray := prog_5_method_4_code
def yX3_readChain : MethodName := ⟨RX3, "readChain", "(LDiscourseContexts$Node;II)I"⟩
abbrev cX3_readEach : ByteArray := prog_5_method_5_code
def yX3_readEach : MethodName := ⟨RX3, "readEach", "(LDiscourseContexts$Node;II)V"⟩
abbrev cX3_look : ByteArray := prog_5_method_6_code
def yX3_look : MethodName := ⟨RX3, "look", "(IIII)V"⟩
def RX4 : String := "DiscourseContexts$Meaning"
def TX4 : u_T := fun k => match k with
  | _ => ("DiscourseContexts$Meaning", "world", "LDiscourseContexts$World;", true)
def tyX4 : Nat → FieldType := fun k => match k with
  | _ => .object "DiscourseContexts$World"
abbrev wsX40 : List Cond := u_ws RX4 TX4 1
theorem nmX4 : ∀ a, a < 1 → ∀ b, b < 1 → a ≠ b → (TX4 a).2.1 ≠ (TX4 b).2.1 := by decide +kernel
theorem tyX4_ok : ∀ k, k < 1 → parseFieldDescriptor (TX4 k).2.2.1 = some (tyX4 k) := by decide +kernel
abbrev cX4_init : ByteArray := prog_6_method_1_code
def yX4_init : MethodName := ⟨RX4, "<init>", "(LDiscourseContexts$World;)V"⟩
abbrev cX4_turn : ByteArray := prog_6_method_2_code
def yX4_turn : MethodName := ⟨RX4, "turn", "(LDiscourseContexts$Node;LDiscourseContexts$Assignments;Z)V"⟩
abbrev cX4_findSupporting : ByteArray := prog_6_method_3_code
def yX4_findSupporting : MethodName := ⟨RX4, "findSupporting", "(LDiscourseContexts$Node;LDiscourseContexts$Assignments;)V"⟩
abbrev cX4_turnByChain : ByteArray := prog_6_method_4_code
def yX4_turnByChain : MethodName := ⟨RX4, "turnByChain", "(LDiscourseContexts$Node;LDiscourseContexts$Assignments;Z)V"⟩
abbrev cX4_turnBySome : ByteArray := prog_6_method_5_code
def yX4_turnBySome : MethodName := ⟨RX4, "turnBySome", "(LDiscourseContexts$Node;LDiscourseContexts$Assignments;Z)V"⟩
abbrev cX4_keepByChoice : ByteArray := prog_6_method_6_code
def yX4_keepByChoice : MethodName := ⟨RX4, "keepByChoice", "(LDiscourseContexts$Node;LDiscourseContexts$Assignments;)V"⟩
abbrev cX4_keepByCondition : ByteArray := prog_6_method_7_code
def yX4_keepByCondition : MethodName := ⟨RX4, "keepByCondition", "(LDiscourseContexts$Node;LDiscourseContexts$Assignments;)V"⟩
abbrev cX4_keepByOne : ByteArray := prog_6_method_8_code
def yX4_keepByOne : MethodName := ⟨RX4, "keepByOne", "(LDiscourseContexts$Node;LDiscourseContexts$Assignments;)V"⟩
abbrev cX4_keepByTwo : ByteArray := prog_6_method_9_code
def yX4_keepByTwo : MethodName := ⟨RX4, "keepByTwo", "(LDiscourseContexts$Node;LDiscourseContexts$Assignments;)V"⟩
abbrev cX4_holds : ByteArray := prog_6_method_10_code
def yX4_holds : MethodName := ⟨RX4, "holds", "(LDiscourseContexts$Node;II)Z"⟩
def RX5 : String := "DiscourseContexts$Node"
def TX5 : u_T := fun k => match k with
  | 0 => ("DiscourseContexts$Node", "kind", "I", false)
  | 1 => ("DiscourseContexts$Node", "number", "I", false)
  | 2 => ("DiscourseContexts$Node", "place", "I", false)
  | 3 => ("DiscourseContexts$Node", "otherPlace", "I", false)
  | 4 => ("DiscourseContexts$Node", "variable", "I", false)
  | 5 => ("DiscourseContexts$Node", "otherVariable", "I", false)
  | 6 => ("DiscourseContexts$Node", "first", "LDiscourseContexts$Node;", false)
  | 7 => ("DiscourseContexts$Node", "last", "LDiscourseContexts$Node;", false)
  | 8 => ("DiscourseContexts$Node", "next", "LDiscourseContexts$Node;", false)
  | 9 => ("DiscourseContexts$Node", "previous", "LDiscourseContexts$Node;", false)
  | 10 => ("DiscourseContexts$Node", "found", "LDiscourseContexts$Assignments;", true)
  | _ => ("DiscourseContexts$Node", "foundInRow", "LDiscourseContexts$Assignments;", true)
def tyX5 : Nat → FieldType := fun k => match k with
  | 0 => .int
  | 1 => .int
  | 2 => .int
  | 3 => .int
  | 4 => .int
  | 5 => .int
  | 6 => .object "DiscourseContexts$Node"
  | 7 => .object "DiscourseContexts$Node"
  | 8 => .object "DiscourseContexts$Node"
  | 9 => .object "DiscourseContexts$Node"
  | 10 => .object "DiscourseContexts$Assignments"
  | _ => .object "DiscourseContexts$Assignments"
abbrev wsX50 : List Cond := u_ws RX5 TX5 12
theorem nmX5 : ∀ a, a < 12 → ∀ b, b < 12 → a ≠ b → (TX5 a).2.1 ≠ (TX5 b).2.1 := by decide +kernel
theorem tyX5_ok : ∀ k, k < 12 → parseFieldDescriptor (TX5 k).2.2.1 = some (tyX5 k) := by decide +kernel
abbrev cX5_init : ByteArray := prog_7_method_1_code
def yX5_init : MethodName := ⟨RX5, "<init>", "()V"⟩
abbrev cX5_add : ByteArray := prog_7_method_2_code
def yX5_add : MethodName := ⟨RX5, "add", "(LDiscourseContexts$Node;)V"⟩
def RX6 : String := "DiscourseContexts$Parser"
def TX6 : u_T := fun k => match k with
  | 0 => ("DiscourseContexts$Parser", "text", "LDiscourseContexts$Text;", true)
  | 1 => ("DiscourseContexts$Parser", "nodes", "[LDiscourseContexts$Node;", true)
  | 2 => ("DiscourseContexts$Parser", "used", "I", false)
  | 3 => ("DiscourseContexts$Parser", "openSigns", "I", false)
  | _ => ("DiscourseContexts$Parser", "position", "I", false)
def tyX6 : Nat → FieldType := fun k => match k with
  | 0 => .object "DiscourseContexts$Text"
  | 1 => .array (.object "DiscourseContexts$Node")
  | 2 => .int
  | 3 => .int
  | _ => .int
abbrev wsX60 : List Cond := u_ws RX6 TX6 5
theorem nmX6 : ∀ a, a < 5 → ∀ b, b < 5 → a ≠ b → (TX6 a).2.1 ≠ (TX6 b).2.1 := by decide +kernel
theorem tyX6_ok : ∀ k, k < 5 → parseFieldDescriptor (TX6 k).2.2.1 = some (tyX6 k) := by decide +kernel
abbrev cX6_init : ByteArray := prog_8_method_1_code
def yX6_init : MethodName := ⟨RX6, "<init>", "(LDiscourseContexts$Text;)V"⟩
abbrev cX6_discourse : ByteArray := prog_8_method_2_code
def yX6_discourse : MethodName := ⟨RX6, "discourse", "()LDiscourseContexts$Node;"⟩
abbrev cX6_part : ByteArray := prog_8_method_3_code
def yX6_part : MethodName := ⟨RX6, "part", "()LDiscourseContexts$Node;"⟩
abbrev cX6_formula : ByteArray := prog_8_method_4_code
def yX6_formula : MethodName := ⟨RX6, "formula", "()LDiscourseContexts$Node;"⟩
abbrev cX6_choice : ByteArray := prog_8_method_5_code
def yX6_choice : MethodName := ⟨RX6, "choice", "()LDiscourseContexts$Node;"⟩
abbrev cX6_row : ByteArray := prog_8_method_6_code
def yX6_row : MethodName := ⟨RX6, "row", "()LDiscourseContexts$Node;"⟩
abbrev cX6_unit : ByteArray := prog_8_method_7_code
def yX6_unit : MethodName := ⟨RX6, "unit", "()LDiscourseContexts$Node;"⟩
abbrev cX6_negation : ByteArray := prog_8_method_8_code
def yX6_negation : MethodName := ⟨RX6, "negation", "()LDiscourseContexts$Node;"⟩
abbrev cX6_group : ByteArray := prog_8_method_9_code
def yX6_group : MethodName := ⟨RX6, "group", "()LDiscourseContexts$Node;"⟩
abbrev cX6_aboutOne : ByteArray := prog_8_method_10_code
def yX6_aboutOne : MethodName := ⟨RX6, "aboutOne", "(II)LDiscourseContexts$Node;"⟩
abbrev cX6_aboutTwo : ByteArray := prog_8_method_11_code
def yX6_aboutTwo : MethodName := ⟨RX6, "aboutTwo", "(I)LDiscourseContexts$Node;"⟩
abbrev cX6_count : ByteArray := prog_8_method_12_code
def yX6_count : MethodName := ⟨RX6, "count", "(I)LDiscourseContexts$Node;"⟩
abbrev cX6_comparison : ByteArray := prog_8_method_13_code
def yX6_comparison : MethodName := ⟨RX6, "comparison", "()LDiscourseContexts$Node;"⟩
abbrev cX6_simple : ByteArray := prog_8_method_14_code
def yX6_simple : MethodName := ⟨RX6, "simple", "(IIII)LDiscourseContexts$Node;"⟩
abbrev cX6_holding : ByteArray := prog_8_method_15_code
def yX6_holding : MethodName := ⟨RX6, "holding", "(ILDiscourseContexts$Node;)LDiscourseContexts$Node;"⟩
abbrev cX6_joined : ByteArray := prog_8_method_16_code
def yX6_joined : MethodName := ⟨RX6, "joined", "(LDiscourseContexts$Node;LDiscourseContexts$Node;)LDiscourseContexts$Node;"⟩
abbrev cX6_taken : ByteArray := prog_8_method_17_code
def yX6_taken : MethodName := ⟨RX6, "taken", "(I)LDiscourseContexts$Node;"⟩
abbrev cX6_skip : ByteArray := prog_8_method_18_code
def yX6_skip : MethodName := ⟨RX6, "skip", "(C)Z"⟩
abbrev cX6_skipVariable : ByteArray := prog_8_method_19_code
def yX6_skipVariable : MethodName := ⟨RX6, "skipVariable", "()Z"⟩
abbrev cX6_openSign : ByteArray := prog_8_method_20_code
def yX6_openSign : MethodName := ⟨RX6, "openSign", "()Z"⟩
def RX7 : String := "DiscourseContexts$State"
def TX7 : u_T := fun k => match k with
  | 0 => ("DiscourseContexts$State", "world", "LDiscourseContexts$World;", true)
  | 1 => ("DiscourseContexts$State", "context", "LDiscourseContexts$Assignments;", true)
  | 2 => ("DiscourseContexts$State", "knownVariables", "I", false)
  | 3 => ("DiscourseContexts$State", "accommodating", "Z", false)
  | _ => ("DiscourseContexts$State", "accommodatedParts", "J", false)
def tyX7 : Nat → FieldType := fun k => match k with
  | 0 => .object "DiscourseContexts$World"
  | 1 => .object "DiscourseContexts$Assignments"
  | 2 => .int
  | 3 => .boolean
  | _ => .long
abbrev wsX70 : List Cond := u_ws RX7 TX7 5
theorem nmX7 : ∀ a, a < 5 → ∀ b, b < 5 → a ≠ b → (TX7 a).2.1 ≠ (TX7 b).2.1 := by decide +kernel
theorem tyX7_ok : ∀ k, k < 5 → parseFieldDescriptor (TX7 k).2.2.1 = some (tyX7 k) := by decide +kernel
abbrev cX7_init : ByteArray := prog_9_method_1_code
def yX7_init : MethodName := ⟨RX7, "<init>", "()V"⟩
abbrev cX7_forgetContext : ByteArray := prog_9_method_2_code
def yX7_forgetContext : MethodName := ⟨RX7, "forgetContext", "()V"⟩
abbrev cX7_knows : ByteArray := prog_9_method_3_code
def yX7_knows : MethodName := ⟨RX7, "knows", "(I)Z"⟩
abbrev cX7_copyFrom : ByteArray := prog_9_method_4_code
def yX7_copyFrom : MethodName := ⟨RX7, "copyFrom", "(LDiscourseContexts$State;)V"⟩
def RX8 : String := "DiscourseContexts$Text"
def TX8 : u_T := fun k => match k with
  | 0 => ("DiscourseContexts$Text", "characters", "[C", true)
  | _ => ("DiscourseContexts$Text", "length", "I", false)
def tyX8 : Nat → FieldType := fun k => match k with
  | 0 => .array .char
  | _ => .int
abbrev wsX80 : List Cond := u_ws RX8 TX8 2
theorem nmX8 : ∀ a, a < 2 → ∀ b, b < 2 → a ≠ b → (TX8 a).2.1 ≠ (TX8 b).2.1 := by decide +kernel
theorem tyX8_ok : ∀ k, k < 2 → parseFieldDescriptor (TX8 k).2.2.1 = some (tyX8 k) := by decide +kernel
abbrev cX8_init : ByteArray := prog_10_method_1_code
def yX8_init : MethodName := ⟨RX8, "<init>", "()V"⟩
abbrev cX8_append : ByteArray := prog_10_method_2_code
def yX8_append : MethodName := ⟨RX8, "append", "(C)Z"⟩
abbrev cX8_at : ByteArray := prog_10_method_3_code
def yX8_at : MethodName := ⟨RX8, "at", "(I)C"⟩
def RX9 : String := "DiscourseContexts$World"
def TX9 : u_T := fun k => match k with
  | 0 => ("DiscourseContexts$World", "population", "I", false)
  | 1 => ("DiscourseContexts$World", "sets", "[I", true)
  | _ => ("DiscourseContexts$World", "pairs", "[I", true)
def tyX9 : Nat → FieldType := fun k => match k with
  | 0 => .int
  | 1 => .array .int
  | _ => .array .int
abbrev wsX90 : List Cond := u_ws RX9 TX9 3
theorem nmX9 : ∀ a, a < 3 → ∀ b, b < 3 → a ≠ b → (TX9 a).2.1 ≠ (TX9 b).2.1 := by decide +kernel
theorem tyX9_ok : ∀ k, k < 3 → parseFieldDescriptor (TX9 k).2.2.1 = some (tyX9 k) := by decide +kernel
abbrev cX9_init : ByteArray := prog_11_method_1_code
def yX9_init : MethodName := ⟨RX9, "<init>", "()V"⟩
abbrev cX9_begin : ByteArray := prog_11_method_2_code
def yX9_begin : MethodName := ⟨RX9, "begin", "(I)V"⟩
abbrev cX9_copyFrom : ByteArray := prog_11_method_3_code
def yX9_copyFrom : MethodName := ⟨RX9, "copyFrom", "(LDiscourseContexts$World;)V"⟩
abbrev cX9_everybody : ByteArray := prog_11_method_4_code
def yX9_everybody : MethodName := ⟨RX9, "everybody", "()I"⟩
abbrev cX9_setOf : ByteArray := prog_11_method_5_code
def yX9_setOf : MethodName := ⟨RX9, "setOf", "(I)I"⟩
abbrev cX9_giveSet : ByteArray := prog_11_method_6_code
def yX9_giveSet : MethodName := ⟨RX9, "giveSet", "(II)V"⟩
abbrev cX9_hasPair : ByteArray := prog_11_method_7_code
def yX9_hasPair : MethodName := ⟨RX9, "hasPair", "(III)Z"⟩
abbrev cX9_putPair : ByteArray := prog_11_method_8_code
def yX9_putPair : MethodName := ⟨RX9, "putPair", "(IIIZ)V"⟩
abbrev cX9_relates : ByteArray := prog_11_method_9_code
def yX9_relates : MethodName := ⟨RX9, "relates", "(III)Z"⟩
def RX10 : String := "DiscourseContexts"
def TX10 : u_T := fun k => match k with
  | 0 => ("DiscourseContexts", "now", "LDiscourseContexts$State;", true)
  | 1 => ("DiscourseContexts", "history", "LDiscourseContexts$History;", true)
  | 2 => ("DiscourseContexts", "text", "LDiscourseContexts$Text;", true)
  | 3 => ("DiscourseContexts", "parser", "LDiscourseContexts$Parser;", true)
  | 4 => ("DiscourseContexts", "knowledge", "LDiscourseContexts$Knowledge;", true)
  | 5 => ("DiscourseContexts", "meaning", "LDiscourseContexts$Meaning;", true)
  | 6 => ("DiscourseContexts", "acceptance", "LDiscourseContexts$Acceptance;", true)
  | 7 => ("DiscourseContexts", "otherWorld", "LDiscourseContexts$World;", true)
  | 8 => ("DiscourseContexts", "otherMeaning", "LDiscourseContexts$Meaning;", true)
  | _ => ("DiscourseContexts", "results", "LDiscourseContexts$Assignments;", true)
def tyX10 : Nat → FieldType := fun k => match k with
  | 0 => .object "DiscourseContexts$State"
  | 1 => .object "DiscourseContexts$History"
  | 2 => .object "DiscourseContexts$Text"
  | 3 => .object "DiscourseContexts$Parser"
  | 4 => .object "DiscourseContexts$Knowledge"
  | 5 => .object "DiscourseContexts$Meaning"
  | 6 => .object "DiscourseContexts$Acceptance"
  | 7 => .object "DiscourseContexts$World"
  | 8 => .object "DiscourseContexts$Meaning"
  | _ => .object "DiscourseContexts$Assignments"
abbrev wsX100 : List Cond := u_ws RX10 TX10 10
theorem nmX10 : ∀ a, a < 10 → ∀ b, b < 10 → a ≠ b → (TX10 a).2.1 ≠ (TX10 b).2.1 := by decide +kernel
theorem tyX10_ok : ∀ k, k < 10 → parseFieldDescriptor (TX10 k).2.2.1 = some (tyX10 k) := by decide +kernel
abbrev cX10_init : ByteArray := prog_1_method_1_code
def yX10_init : MethodName := ⟨RX10, "<init>", "()V"⟩
abbrev cX10_setIndividuals : ByteArray := prog_1_method_2_code
def yX10_setIndividuals : MethodName := ⟨RX10, "setIndividuals", "(I)I"⟩
abbrev cX10_setPredicate : ByteArray := prog_1_method_3_code
def yX10_setPredicate : MethodName := ⟨RX10, "setPredicate", "(II)I"⟩
abbrev cX10_setPair : ByteArray := prog_1_method_4_code
def yX10_setPair : MethodName := ⟨RX10, "setPair", "(IIII)I"⟩
abbrev cX10_individuals : ByteArray := prog_1_method_5_code
def yX10_individuals : MethodName := ⟨RX10, "individuals", "()I"⟩
abbrev cX10_predicate : ByteArray := prog_1_method_6_code
def yX10_predicate : MethodName := ⟨RX10, "predicate", "(I)I"⟩
abbrev cX10_relationHolds : ByteArray := prog_1_method_7_code
def yX10_relationHolds : MethodName := ⟨RX10, "relationHolds", "(III)I"⟩
abbrev cX10_type : ByteArray := prog_1_method_8_code
def yX10_type : MethodName := ⟨RX10, "type", "(I)I"⟩
abbrev cX10_clearText : ByteArray := prog_1_method_9_code
def yX10_clearText : MethodName := ⟨RX10, "clearText", "()I"⟩
abbrev cX10_syntaxFault : ByteArray := prog_1_method_10_code
def yX10_syntaxFault : MethodName := ⟨RX10, "syntaxFault", "()I"⟩
abbrev cX10_unknownVariable : ByteArray := prog_1_method_11_code
def yX10_unknownVariable : MethodName := ⟨RX10, "unknownVariable", "()I"⟩
abbrev cX10_unknownDepth : ByteArray := prog_1_method_12_code
def yX10_unknownDepth : MethodName := ⟨RX10, "unknownDepth", "()I"⟩
abbrev cX10_partCount : ByteArray := prog_1_method_13_code
def yX10_partCount : MethodName := ⟨RX10, "partCount", "()I"⟩
abbrev cX10_contextSize : ByteArray := prog_1_method_14_code
def yX10_contextSize : MethodName := ⟨RX10, "contextSize", "()I"⟩
abbrev cX10_known : ByteArray := prog_1_method_15_code
def yX10_known : MethodName := ⟨RX10, "known", "()I"⟩
abbrev cX10_objects : ByteArray := prog_1_method_16_code
def yX10_objects : MethodName := ⟨RX10, "objects", "(I)I"⟩
abbrev cX10_together : ByteArray := prog_1_method_17_code
def yX10_together : MethodName := ⟨RX10, "together", "(IIII)I"⟩
abbrev cX10_resetContext : ByteArray := prog_1_method_18_code
def yX10_resetContext : MethodName := ⟨RX10, "resetContext", "()I"⟩
abbrev cX10_setAccommodation : ByteArray := prog_1_method_19_code
def yX10_setAccommodation : MethodName := ⟨RX10, "setAccommodation", "(I)I"⟩
abbrev cX10_accept : ByteArray := prog_1_method_20_code
def yX10_accept : MethodName := ⟨RX10, "accept", "()I"⟩
abbrev cX10_acceptable : ByteArray := prog_1_method_21_code
def yX10_acceptable : MethodName := ⟨RX10, "acceptable", "()I"⟩
abbrev cX10_failingAt : ByteArray := prog_1_method_22_code
def yX10_failingAt : MethodName := ⟨RX10, "failingAt", "()I"⟩
abbrev cX10_accommodated : ByteArray := prog_1_method_23_code
def yX10_accommodated : MethodName := ⟨RX10, "accommodated", "()I"⟩
abbrev cX10_accommodatedPart : ByteArray := prog_1_method_24_code
def yX10_accommodatedPart : MethodName := ⟨RX10, "accommodatedPart", "(I)I"⟩
abbrev cX10_sizeBehind : ByteArray := prog_1_method_25_code
def yX10_sizeBehind : MethodName := ⟨RX10, "sizeBehind", "(I)I"⟩
abbrev cX10_supports : ByteArray := prog_1_method_26_code
def yX10_supports : MethodName := ⟨RX10, "supports", "()I"⟩
abbrev cX10_worldsTrue : ByteArray := prog_1_method_27_code
def yX10_worldsTrue : MethodName := ⟨RX10, "worldsTrue", "()I"⟩
abbrev cX10_historySize : ByteArray := prog_1_method_28_code
def yX10_historySize : MethodName := ⟨RX10, "historySize", "()I"⟩
abbrev cX10_undo : ByteArray := prog_1_method_29_code
def yX10_undo : MethodName := ⟨RX10, "undo", "()I"⟩
abbrev cX10_tryAccepting : ByteArray := prog_1_method_30_code
def yX10_tryAccepting : MethodName := ⟨RX10, "tryAccepting", "(LDiscourseContexts$Node;)I"⟩
abbrev cX10_isTrueInOtherWorld : ByteArray := prog_1_method_31_code
def yX10_isTrueInOtherWorld : MethodName := ⟨RX10, "isTrueInOtherWorld", "(LDiscourseContexts$Node;)Z"⟩
abbrev cX10_isIndividual : ByteArray := prog_1_method_32_code
def yX10_isIndividual : MethodName := ⟨RX10, "isIndividual", "(I)Z"⟩
abbrev cX10_isObject : ByteArray := prog_1_method_33_code
def yX10_isObject : MethodName := ⟨RX10, "isObject", "(I)Z"⟩
abbrev cX10_isPredicate : ByteArray := prog_1_method_34_code
def yX10_isPredicate : MethodName := ⟨RX10, "isPredicate", "(I)Z"⟩
abbrev cX10_isRelation : ByteArray := prog_1_method_35_code
def yX10_isRelation : MethodName := ⟨RX10, "isRelation", "(I)Z"⟩
abbrev cX10_isVariable : ByteArray := prog_1_method_36_code
def yX10_isVariable : MethodName := ⟨RX10, "isVariable", "(I)Z"⟩
abbrev cX10_isSwitch : ByteArray := prog_1_method_37_code
def yX10_isSwitch : MethodName := ⟨RX10, "isSwitch", "(I)Z"⟩
def RX11 : String := "DiscourseContextsModel"
def TX11 : u_T := fun k => match k with
  | 0 => ("DiscourseContextsModel", "s", "[I", true)
  | 1 => ("DiscourseContextsModel", "past", "[I", true)
  | 2 => ("DiscourseContextsModel", "pasts", "I", false)
  | 3 => ("DiscourseContextsModel", "text", "[I", true)
  | 4 => ("DiscourseContextsModel", "typed", "I", false)
  | 5 => ("DiscourseContextsModel", "act", "[I", true)
  | 6 => ("DiscourseContextsModel", "pass", "[Z", true)
  | 7 => ("DiscourseContextsModel", "many", "I", false)
  | 8 => ("DiscourseContextsModel", "now", "[Z", true)
  | 9 => ("DiscourseContextsModel", "then", "[Z", true)
  | 10 => ("DiscourseContextsModel", "context", "[Z", true)
  | 11 => ("DiscourseContextsModel", "evaluates", "Z", false)
  | 12 => ("DiscourseContextsModel", "at", "I", false)
  | 13 => ("DiscourseContextsModel", "known", "I", false)
  | 14 => ("DiscourseContextsModel", "unknown", "I", false)
  | 15 => ("DiscourseContextsModel", "deep", "I", false)
  | 16 => ("DiscourseContextsModel", "top", "I", false)
  | 17 => ("DiscourseContextsModel", "kind", "[I", true)
  | 18 => ("DiscourseContextsModel", "from", "[I", true)
  | 19 => ("DiscourseContextsModel", "ahead", "[I", true)
  | 20 => ("DiscourseContextsModel", "rows", "[I", true)
  | 21 => ("DiscourseContextsModel", "rowMark", "[Z", true)
  | 22 => ("DiscourseContextsModel", "arrowMark", "[Z", true)
  | 23 => ("DiscourseContextsModel", "hasArrow", "[Z", true)
  | 24 => ("DiscourseContextsModel", "any", "[Z", true)
  | 25 => ("DiscourseContextsModel", "parts", "I", false)
  | 26 => ("DiscourseContextsModel", "most", "I", false)
  | 27 => ("DiscourseContextsModel", "failing", "I", false)
  | _ => ("DiscourseContextsModel", "taken", "I", false)
def tyX11 : Nat → FieldType := fun k => match k with
  | 0 => .array .int
  | 1 => .array .int
  | 2 => .int
  | 3 => .array .int
  | 4 => .int
  | 5 => .array .int
  | 6 => .array .boolean
  | 7 => .int
  | 8 => .array .boolean
  | 9 => .array .boolean
  | 10 => .array .boolean
  | 11 => .boolean
  | 12 => .int
  | 13 => .int
  | 14 => .int
  | 15 => .int
  | 16 => .int
  | 17 => .array .int
  | 18 => .array .int
  | 19 => .array .int
  | 20 => .array .int
  | 21 => .array .boolean
  | 22 => .array .boolean
  | 23 => .array .boolean
  | 24 => .array .boolean
  | 25 => .int
  | 26 => .int
  | 27 => .int
  | _ => .int
abbrev wsX110 : List Cond := u_ws RX11 TX11 29
theorem nmX11 : ∀ a, a < 29 → ∀ b, b < 29 → a ≠ b → (TX11 a).2.1 ≠ (TX11 b).2.1 := by decide +kernel
theorem tyX11_ok : ∀ k, k < 29 → parseFieldDescriptor (TX11 k).2.2.1 = some (tyX11 k) := by decide +kernel
abbrev cX11_init : ByteArray := prog_13_method_1_code
def yX11_init : MethodName := ⟨RX11, "<init>", "()V"⟩
abbrev cX11_in : ByteArray := prog_13_method_3_code
def yX11_in : MethodName := ⟨RX11, "in", "(III)Z"⟩
abbrev cX11_acts : ByteArray := prog_13_method_4_code
def yX11_acts : MethodName := ⟨RX11, "acts", "()V"⟩
abbrev cX11_full : ByteArray := prog_13_method_5_code
def yX11_full : MethodName := ⟨RX11, "full", "()I"⟩
abbrev cX11_isObject : ByteArray := prog_13_method_6_code
def yX11_isObject : MethodName := ⟨RX11, "isObject", "(I)Z"⟩
abbrev cX11_isThere : ByteArray := prog_13_method_7_code
def yX11_isThere : MethodName := ⟨RX11, "isThere", "(I)Z"⟩
abbrev cX11_of : ByteArray := prog_13_method_8_code
def yX11_of : MethodName := ⟨RX11, "of", "(II)I"⟩
abbrev cX11_size : ByteArray := prog_13_method_9_code
def yX11_size : MethodName := ⟨RX11, "size", "()I"⟩
abbrev cX11_first : ByteArray := prog_13_method_10_code
def yX11_first : MethodName := ⟨RX11, "first", "()V"⟩
abbrev cX11_setIndividuals : ByteArray := prog_13_method_11_code
def yX11_setIndividuals : MethodName := ⟨RX11, "setIndividuals", "(I)I"⟩
abbrev cX11_setPredicate : ByteArray := prog_13_method_12_code
def yX11_setPredicate : MethodName := ⟨RX11, "setPredicate", "(II)I"⟩
abbrev cX11_setPair : ByteArray := prog_13_method_13_code
def yX11_setPair : MethodName := ⟨RX11, "setPair", "(IIII)I"⟩
abbrev cX11_individuals : ByteArray := prog_13_method_14_code
def yX11_individuals : MethodName := ⟨RX11, "individuals", "()I"⟩
abbrev cX11_predicate : ByteArray := prog_13_method_15_code
def yX11_predicate : MethodName := ⟨RX11, "predicate", "(I)I"⟩
abbrev cX11_holds : ByteArray := prog_13_method_16_code
def yX11_holds : MethodName := ⟨RX11, "holds", "(III)Z"⟩
abbrev cX11_relationHolds : ByteArray := prog_13_method_17_code
def yX11_relationHolds : MethodName := ⟨RX11, "relationHolds", "(III)I"⟩
abbrev cX11_type : ByteArray := prog_13_method_18_code
def yX11_type : MethodName := ⟨RX11, "type", "(I)I"⟩
abbrev cX11_clearText : ByteArray := prog_13_method_19_code
def yX11_clearText : MethodName := ⟨RX11, "clearText", "()I"⟩
abbrev cX11_pushes : ByteArray := prog_13_method_20_code
def yX11_pushes : MethodName := ⟨RX11, "pushes", "(I)V"⟩
abbrev cX11_pushesTest : ByteArray := prog_13_method_21_code
def yX11_pushesTest : MethodName := ⟨RX11, "pushesTest", "(Z)V"⟩
abbrev cX11_leads : ByteArray := prog_13_method_22_code
def yX11_leads : MethodName := ⟨RX11, "leads", "(I)V"⟩
abbrev cX11_hasResults : ByteArray := prog_13_method_23_code
def yX11_hasResults : MethodName := ⟨RX11, "hasResults", "(I)V"⟩
abbrev cX11_turns : ByteArray := prog_13_method_24_code
def yX11_turns : MethodName := ⟨RX11, "turns", "(I)V"⟩
abbrev cX11_next : ByteArray := prog_13_method_25_code
def yX11_next : MethodName := ⟨RX11, "next", "()I"⟩
abbrev cX11_opens : ByteArray := prog_13_method_26_code
def yX11_opens : MethodName := ⟨RX11, "opens", "(I)V"⟩
abbrev cX11_finds : ByteArray := prog_13_method_27_code
def yX11_finds : MethodName := ⟨RX11, "finds", "(I)V"⟩
abbrev cX11_variable : ByteArray := prog_13_method_28_code
def yX11_variable : MethodName := ⟨RX11, "variable", "(Z)I"⟩
abbrev cX11_ones : ByteArray := prog_13_method_29_code
def yX11_ones : MethodName := ⟨RX11, "ones", "(I)I"⟩
abbrev cX11_isSo : ByteArray := prog_13_method_30_code
def yX11_isSo : MethodName := ⟨RX11, "isSo", "(III)Z"⟩
abbrev cX11_tests : ByteArray := prog_13_method_31_code
def yX11_tests : MethodName := ⟨RX11, "tests", "(III)Z"⟩
abbrev cX11_readsUnit : ByteArray := prog_13_method_32_code
def yX11_readsUnit : MethodName := ⟨RX11, "readsUnit", "()Z"⟩
abbrev cX11_endsUnit : ByteArray := prog_13_method_33_code
def yX11_endsUnit : MethodName := ⟨RX11, "endsUnit", "()V"⟩
abbrev cX11_endsRow : ByteArray := prog_13_method_34_code
def yX11_endsRow : MethodName := ⟨RX11, "endsRow", "()V"⟩
abbrev cX11_endsChoice : ByteArray := prog_13_method_35_code
def yX11_endsChoice : MethodName := ⟨RX11, "endsChoice", "()V"⟩
abbrev cX11_endsFormula : ByteArray := prog_13_method_36_code
def yX11_endsFormula : MethodName := ⟨RX11, "endsFormula", "()V"⟩
abbrev cX11_under : ByteArray := prog_13_method_37_code
def yX11_under : MethodName := ⟨RX11, "under", "()I"⟩
abbrev cX11_readsFormula : ByteArray := prog_13_method_38_code
def yX11_readsFormula : MethodName := ⟨RX11, "readsFormula", "()Z"⟩
abbrev cX11_isSupported : ByteArray := prog_13_method_39_code
def yX11_isSupported : MethodName := ⟨RX11, "isSupported", "(I)Z"⟩
abbrev cX11_inContext : ByteArray := prog_13_method_40_code
def yX11_inContext : MethodName := ⟨RX11, "inContext", "()I"⟩
abbrev cX11_takes : ByteArray := prog_13_method_41_code
def yX11_takes : MethodName := ⟨RX11, "takes", "(IZI)Z"⟩
abbrev cX11_reads : ByteArray := prog_13_method_42_code
def yX11_reads : MethodName := ⟨RX11, "reads", "(II)Z"⟩
abbrev cX11_takesContext : ByteArray := prog_13_method_43_code
def yX11_takesContext : MethodName := ⟨RX11, "takesContext", "(Z)V"⟩
abbrev cX11_error : ByteArray := prog_13_method_44_code
def yX11_error : MethodName := ⟨RX11, "error", "(I)I"⟩
abbrev cX11_syntaxFault : ByteArray := prog_13_method_45_code
def yX11_syntaxFault : MethodName := ⟨RX11, "syntaxFault", "()I"⟩
abbrev cX11_unknownVariable : ByteArray := prog_13_method_46_code
def yX11_unknownVariable : MethodName := ⟨RX11, "unknownVariable", "()I"⟩
abbrev cX11_unknownDepth : ByteArray := prog_13_method_47_code
def yX11_unknownDepth : MethodName := ⟨RX11, "unknownDepth", "()I"⟩
abbrev cX11_partCount : ByteArray := prog_13_method_48_code
def yX11_partCount : MethodName := ⟨RX11, "partCount", "()I"⟩
abbrev cX11_contextSize : ByteArray := prog_13_method_49_code
def yX11_contextSize : MethodName := ⟨RX11, "contextSize", "()I"⟩
abbrev cX11_known : ByteArray := prog_13_method_50_code
def yX11_known : MethodName := ⟨RX11, "known", "()I"⟩
abbrev cX11_isKnown : ByteArray := prog_13_method_51_code
def yX11_isKnown : MethodName := ⟨RX11, "isKnown", "(I)Z"⟩
abbrev cX11_objects : ByteArray := prog_13_method_52_code
def yX11_objects : MethodName := ⟨RX11, "objects", "(I)I"⟩
abbrev cX11_together : ByteArray := prog_13_method_53_code
def yX11_together : MethodName := ⟨RX11, "together", "(IIII)I"⟩
abbrev cX11_resetContext : ByteArray := prog_13_method_54_code
def yX11_resetContext : MethodName := ⟨RX11, "resetContext", "()I"⟩
abbrev cX11_setAccommodation : ByteArray := prog_13_method_55_code
def yX11_setAccommodation : MethodName := ⟨RX11, "setAccommodation", "(I)I"⟩
abbrev cX11_tries : ByteArray := prog_13_method_56_code
def yX11_tries : MethodName := ⟨RX11, "tries", "()I"⟩
abbrev cX11_accept : ByteArray := prog_13_method_57_code
def yX11_accept : MethodName := ⟨RX11, "accept", "()I"⟩
abbrev cX11_acceptable : ByteArray := prog_13_method_58_code
def yX11_acceptable : MethodName := ⟨RX11, "acceptable", "()I"⟩
abbrev cX11_failingAt : ByteArray := prog_13_method_59_code
def yX11_failingAt : MethodName := ⟨RX11, "failingAt", "()I"⟩
abbrev cX11_accommodated : ByteArray := prog_13_method_60_code
def yX11_accommodated : MethodName := ⟨RX11, "accommodated", "()I"⟩
abbrev cX11_accommodatedPart : ByteArray := prog_13_method_61_code
def yX11_accommodatedPart : MethodName := ⟨RX11, "accommodatedPart", "(I)I"⟩
abbrev cX11_sizeBehind : ByteArray := prog_13_method_62_code
def yX11_sizeBehind : MethodName := ⟨RX11, "sizeBehind", "(I)I"⟩
abbrev cX11_isAllSupported : ByteArray := prog_13_method_63_code
def yX11_isAllSupported : MethodName := ⟨RX11, "isAllSupported", "(I)Z"⟩
abbrev cX11_supports : ByteArray := prog_13_method_64_code
def yX11_supports : MethodName := ⟨RX11, "supports", "()I"⟩
abbrev cX11_worldsTrue : ByteArray := prog_13_method_65_code
def yX11_worldsTrue : MethodName := ⟨RX11, "worldsTrue", "()I"⟩
abbrev cX11_historySize : ByteArray := prog_13_method_66_code
def yX11_historySize : MethodName := ⟨RX11, "historySize", "()I"⟩
abbrev cX11_undo : ByteArray := prog_13_method_67_code
def yX11_undo : MethodName := ⟨RX11, "undo", "()I"⟩
def RJ6 : String := "java/lang/Integer"
def TJ6 : u_T := fun k => match k with
  | _ => ("", "", "", false)
def tyJ6 : Nat → FieldType := fun k => match k with
  | _ => .int
abbrev wsJ60 : List Cond := u_ws RJ6 TJ6 0
theorem nmJ6 : ∀ a, a < 0 → ∀ b, b < 0 → a ≠ b → (TJ6 a).2.1 ≠ (TJ6 b).2.1 := by decide +kernel
theorem tyJ6_ok : ∀ k, k < 0 → parseFieldDescriptor (TJ6 k).2.2.1 = some (tyJ6 k) := by decide +kernel
abbrev cJ6_bitCount_0f7a4 : ByteArray := prog_14_method_49_code
def yJ6_bitCount_0f7a4 : MethodName := ⟨RJ6, "bitCount", "(I)I"⟩
def RJ13 : String := "java/lang/Long"
def TJ13 : u_T := fun k => match k with
  | _ => ("", "", "", false)
def tyJ13 : Nat → FieldType := fun k => match k with
  | _ => .int
abbrev wsJ130 : List Cond := u_ws RJ13 TJ13 0
theorem nmJ13 : ∀ a, a < 0 → ∀ b, b < 0 → a ≠ b → (TJ13 a).2.1 ≠ (TJ13 b).2.1 := by decide +kernel
theorem tyJ13_ok : ∀ k, k < 0 → parseFieldDescriptor (TJ13 k).2.2.1 = some (tyJ13 k) := by decide +kernel
abbrev cJ13_bitCount_95d88 : ByteArray := prog_15_method_50_code
def yJ13_bitCount_95d88 : MethodName := ⟨RJ13, "bitCount", "(J)I"⟩
def RJ9 : String := "java/lang/Math"
def TJ9 : u_T := fun k => match k with
  | _ => ("", "", "", false)
def tyJ9 : Nat → FieldType := fun k => match k with
  | _ => .int
abbrev wsJ90 : List Cond := u_ws RJ9 TJ9 0
theorem nmJ9 : ∀ a, a < 0 → ∀ b, b < 0 → a ≠ b → (TJ9 a).2.1 ≠ (TJ9 b).2.1 := by decide +kernel
theorem tyJ9_ok : ∀ k, k < 0 → parseFieldDescriptor (TJ9 k).2.2.1 = some (tyJ9 k) := by decide +kernel
abbrev cJ9_min_7cf53 : ByteArray := prog_16_method_69_code
def yJ9_min_7cf53 : MethodName := ⟨RJ9, "min", "(II)I"⟩
def RL : String := "DiscourseContextsLaw"
abbrev cL_law : ByteArray := code
def yL_law : MethodName := ⟨RL, "law", "([I)Z"⟩
end
section
theorem dX0_init_0 : decode cX0_init 0 = .ok (.aload_n 0, 1) := by decide +kernel
theorem dX0_init_1 : decode cX0_init 1 = .ok (.invokespecial 3, 3) := by decide +kernel
theorem dX0_init_4 : decode cX0_init 4 = .ok (.aload_n 0, 1) := by decide +kernel
theorem dX0_init_5 : decode cX0_init 5 = .ok (.new 9, 3) := by decide +kernel
theorem dX0_init_8 : decode cX0_init 8 = .ok (.dup, 1) := by decide +kernel
theorem dX0_init_9 : decode cX0_init 9 = .ok (.invokespecial 11, 3) := by decide +kernel
theorem dX0_init_12 : decode cX0_init 12 = .ok (.putfield 12, 3) := by decide +kernel
theorem dX0_init_15 : decode cX0_init 15 = .ok (.aload_n 0, 1) := by decide +kernel
theorem dX0_init_16 : decode cX0_init 16 = .ok (.new 9, 3) := by decide +kernel
theorem dX0_init_19 : decode cX0_init 19 = .ok (.dup, 1) := by decide +kernel
theorem dX0_init_20 : decode cX0_init 20 = .ok (.invokespecial 11, 3) := by decide +kernel
theorem dX0_init_23 : decode cX0_init 23 = .ok (.putfield 18, 3) := by decide +kernel
theorem dX0_init_26 : decode cX0_init 26 = .ok (.aload_n 0, 1) := by decide +kernel
theorem dX0_init_27 : decode cX0_init 27 = .ok (.aload_n 1, 1) := by decide +kernel
theorem dX0_init_28 : decode cX0_init 28 = .ok (.putfield 21, 3) := by decide +kernel
theorem dX0_init_31 : decode cX0_init 31 = .ok (.return_, 1) := by decide +kernel
theorem dX0_succeeds_0 : decode cX0_succeeds 0 = .ok (.iconst 0, 1) := by decide +kernel
theorem dX0_succeeds_1 : decode cX0_succeeds 1 = .ok (.istore_n 3, 1) := by decide +kernel
theorem dX0_succeeds_2 : decode cX0_succeeds 2 = .ok (.aload_n 0, 1) := by decide +kernel
theorem dX0_succeeds_3 : decode cX0_succeeds 3 = .ok (.getfield 12, 3) := by decide +kernel
theorem dX0_succeeds_6 : decode cX0_succeeds 6 = .ok (.aload_n 2, 1) := by decide +kernel
theorem dX0_succeeds_7 : decode cX0_succeeds 7 = .ok (.getfield 25, 3) := by decide +kernel
theorem dX0_succeeds_10 : decode cX0_succeeds 10 = .ok (.invokevirtual 28, 3) := by decide +kernel
theorem dX0_succeeds_13 : decode cX0_succeeds 13 = .ok (.aload_n 0, 1) := by decide +kernel
theorem dX0_succeeds_14 : decode cX0_succeeds 14 = .ok (.lconst 0, 1) := by decide +kernel
theorem dX0_succeeds_15 : decode cX0_succeeds 15 = .ok (.putfield 32, 3) := by decide +kernel
theorem dX0_succeeds_18 : decode cX0_succeeds 18 = .ok (.aload_n 0, 1) := by decide +kernel
theorem dX0_succeeds_19 : decode cX0_succeeds 19 = .ok (.bipush (-7), 2) := by decide +kernel
theorem dX0_succeeds_21 : decode cX0_succeeds 21 = .ok (.putfield 36, 3) := by decide +kernel
theorem dX0_succeeds_24 : decode cX0_succeeds 24 = .ok (.aload_n 1, 1) := by decide +kernel
theorem dX0_succeeds_25 : decode cX0_succeeds 25 = .ok (.getfield 40, 3) := by decide +kernel
theorem dX0_succeeds_28 : decode cX0_succeeds 28 = .ok (.astore 4, 2) := by decide +kernel
theorem dX0_succeeds_30 : decode cX0_succeeds 30 = .ok (.aload 4, 2) := by decide +kernel
theorem dX0_succeeds_32 : decode cX0_succeeds 32 = .ok (.ifnull 122, 3) := by decide +kernel
theorem dX0_succeeds_35 : decode cX0_succeeds 35 = .ok (.iconst 1, 1) := by decide +kernel
theorem dX0_succeeds_36 : decode cX0_succeeds 36 = .ok (.istore 5, 2) := by decide +kernel
theorem dX0_succeeds_38 : decode cX0_succeeds 38 = .ok (.aload 4, 2) := by decide +kernel
theorem dX0_succeeds_40 : decode cX0_succeeds 40 = .ok (.getfield 46, 3) := by decide +kernel
theorem dX0_succeeds_43 : decode cX0_succeeds 43 = .ok (.iconst 1, 1) := by decide +kernel
theorem dX0_succeeds_44 : decode cX0_succeeds 44 = .ok (.if_icmp .ne 29, 3) := by decide +kernel
theorem dX0_succeeds_47 : decode cX0_succeeds 47 = .ok (.aload_n 0, 1) := by decide +kernel
theorem dX0_succeeds_48 : decode cX0_succeeds 48 = .ok (.getfield 21, 3) := by decide +kernel
theorem dX0_succeeds_51 : decode cX0_succeeds 51 = .ok (.aload 4, 2) := by decide +kernel
theorem dX0_succeeds_53 : decode cX0_succeeds 53 = .ok (.aload_n 0, 1) := by decide +kernel
theorem dX0_succeeds_54 : decode cX0_succeeds 54 = .ok (.getfield 18, 3) := by decide +kernel
theorem dX0_succeeds_57 : decode cX0_succeeds 57 = .ok (.invokevirtual 49, 3) := by decide +kernel
theorem dX0_succeeds_60 : decode cX0_succeeds 60 = .ok (.aload_n 0, 1) := by decide +kernel
theorem dX0_succeeds_61 : decode cX0_succeeds 61 = .ok (.getfield 12, 3) := by decide +kernel
theorem dX0_succeeds_64 : decode cX0_succeeds 64 = .ok (.aload_n 0, 1) := by decide +kernel
theorem dX0_succeeds_65 : decode cX0_succeeds 65 = .ok (.getfield 18, 3) := by decide +kernel
theorem dX0_succeeds_68 : decode cX0_succeeds 68 = .ok (.invokevirtual 55, 3) := by decide +kernel
theorem dX0_succeeds_71 : decode cX0_succeeds 71 = .ok (.istore 5, 2) := by decide +kernel
theorem dX0_succeeds_73 : decode cX0_succeeds 73 = .ok (.aload_n 0, 1) := by decide +kernel
theorem dX0_succeeds_74 : decode cX0_succeeds 74 = .ok (.getfield 21, 3) := by decide +kernel
theorem dX0_succeeds_77 : decode cX0_succeeds 77 = .ok (.aload 4, 2) := by decide +kernel
theorem dX0_succeeds_79 : decode cX0_succeeds 79 = .ok (.aload_n 0, 1) := by decide +kernel
theorem dX0_succeeds_80 : decode cX0_succeeds 80 = .ok (.getfield 12, 3) := by decide +kernel
theorem dX0_succeeds_83 : decode cX0_succeeds 83 = .ok (.iconst 0, 1) := by decide +kernel
theorem dX0_succeeds_84 : decode cX0_succeeds 84 = .ok (.invokevirtual 59, 3) := by decide +kernel
theorem dX0_succeeds_87 : decode cX0_succeeds 87 = .ok (.iload 5, 2) := by decide +kernel
theorem dX0_succeeds_89 : decode cX0_succeeds 89 = .ok (.ifCond .ne 31, 3) := by decide +kernel
theorem dX0_succeeds_92 : decode cX0_succeeds 92 = .ok (.aload_n 2, 1) := by decide +kernel
theorem dX0_succeeds_93 : decode cX0_succeeds 93 = .ok (.getfield 63, 3) := by decide +kernel
theorem dX0_succeeds_96 : decode cX0_succeeds 96 = .ok (.ifCond .eq 13, 3) := by decide +kernel
theorem dX0_succeeds_99 : decode cX0_succeeds 99 = .ok (.aload_n 0, 1) := by decide +kernel
theorem dX0_succeeds_100 : decode cX0_succeeds 100 = .ok (.getfield 12, 3) := by decide +kernel
theorem dX0_succeeds_103 : decode cX0_succeeds 103 = .ok (.invokevirtual 67, 3) := by decide +kernel
theorem dX0_succeeds_106 : decode cX0_succeeds 106 = .ok (.ifCond .eq 14, 3) := by decide +kernel
theorem dX0_succeeds_109 : decode cX0_succeeds 109 = .ok (.aload_n 0, 1) := by decide +kernel
theorem dX0_succeeds_110 : decode cX0_succeeds 110 = .ok (.aload 4, 2) := by decide +kernel
theorem dX0_succeeds_112 : decode cX0_succeeds 112 = .ok (.getfield 71, 3) := by decide +kernel
theorem dX0_succeeds_115 : decode cX0_succeeds 115 = .ok (.putfield 36, 3) := by decide +kernel
theorem dX0_succeeds_118 : decode cX0_succeeds 118 = .ok (.iconst 0, 1) := by decide +kernel
theorem dX0_succeeds_119 : decode cX0_succeeds 119 = .ok (.ireturn, 1) := by decide +kernel
theorem dX0_succeeds_120 : decode cX0_succeeds 120 = .ok (.aload_n 0, 1) := by decide +kernel
theorem dX0_succeeds_121 : decode cX0_succeeds 121 = .ok (.dup, 1) := by decide +kernel
theorem dX0_succeeds_122 : decode cX0_succeeds 122 = .ok (.getfield 32, 3) := by decide +kernel
theorem dX0_succeeds_125 : decode cX0_succeeds 125 = .ok (.iload 5, 2) := by decide +kernel
theorem dX0_succeeds_127 : decode cX0_succeeds 127 = .ok (.ifCond .eq 7, 3) := by decide +kernel
theorem dX0_succeeds_130 : decode cX0_succeeds 130 = .ok (.lconst 0, 1) := by decide +kernel
theorem dX0_succeeds_131 : decode cX0_succeeds 131 = .ok (.goto 6, 3) := by decide +kernel
theorem dX0_succeeds_134 : decode cX0_succeeds 134 = .ok (.lconst 1, 1) := by decide +kernel
theorem dX0_succeeds_135 : decode cX0_succeeds 135 = .ok (.iload_n 3, 1) := by decide +kernel
theorem dX0_succeeds_136 : decode cX0_succeeds 136 = .ok (.lshl, 1) := by decide +kernel
theorem dX0_succeeds_137 : decode cX0_succeeds 137 = .ok (.lor, 1) := by decide +kernel
theorem dX0_succeeds_138 : decode cX0_succeeds 138 = .ok (.putfield 32, 3) := by decide +kernel
theorem dX0_succeeds_141 : decode cX0_succeeds 141 = .ok (.iinc 3 1, 3) := by decide +kernel
theorem dX0_succeeds_144 : decode cX0_succeeds 144 = .ok (.aload 4, 2) := by decide +kernel
theorem dX0_succeeds_146 : decode cX0_succeeds 146 = .ok (.getfield 74, 3) := by decide +kernel
theorem dX0_succeeds_149 : decode cX0_succeeds 149 = .ok (.astore 4, 2) := by decide +kernel
theorem dX0_succeeds_151 : decode cX0_succeeds 151 = .ok (.goto (-121), 3) := by decide +kernel
theorem dX0_succeeds_154 : decode cX0_succeeds 154 = .ok (.iconst 1, 1) := by decide +kernel
theorem dX0_succeeds_155 : decode cX0_succeeds 155 = .ok (.ireturn, 1) := by decide +kernel
theorem dX1_init_0 : decode cX1_init 0 = .ok (.aload_n 0, 1) := by decide +kernel
theorem dX1_init_1 : decode cX1_init 1 = .ok (.invokespecial 3, 3) := by decide +kernel
theorem dX1_init_4 : decode cX1_init 4 = .ok (.aload_n 0, 1) := by decide +kernel
theorem dX1_init_5 : decode cX1_init 5 = .ok (.bipush 8, 2) := by decide +kernel
theorem dX1_init_7 : decode cX1_init 7 = .ok (.newarray .long, 2) := by decide +kernel
theorem dX1_init_9 : decode cX1_init 9 = .ok (.putfield 11, 3) := by decide +kernel
theorem dX1_init_12 : decode cX1_init 12 = .ok (.return_, 1) := by decide +kernel
theorem dX1_makeFirst_0 : decode cX1_makeFirst 0 = .ok (.aload_n 0, 1) := by decide +kernel
theorem dX1_makeFirst_1 : decode cX1_makeFirst 1 = .ok (.lconst 0, 1) := by decide +kernel
theorem dX1_makeFirst_2 : decode cX1_makeFirst 2 = .ok (.invokevirtual 15, 3) := by decide +kernel
theorem dX1_makeFirst_5 : decode cX1_makeFirst 5 = .ok (.aload_n 0, 1) := by decide +kernel
theorem dX1_makeFirst_6 : decode cX1_makeFirst 6 = .ok (.getfield 11, 3) := by decide +kernel
theorem dX1_makeFirst_9 : decode cX1_makeFirst 9 = .ok (.iconst 0, 1) := by decide +kernel
theorem dX1_makeFirst_10 : decode cX1_makeFirst 10 = .ok (.lconst 1, 1) := by decide +kernel
theorem dX1_makeFirst_11 : decode cX1_makeFirst 11 = .ok (.lastore, 1) := by decide +kernel
theorem dX1_makeFirst_12 : decode cX1_makeFirst 12 = .ok (.return_, 1) := by decide +kernel
theorem dX1_fill_0 : decode cX1_fill 0 = .ok (.iconst 0, 1) := by decide +kernel
theorem dX1_fill_1 : decode cX1_fill 1 = .ok (.istore_n 3, 1) := by decide +kernel
theorem dX1_fill_2 : decode cX1_fill 2 = .ok (.iload_n 3, 1) := by decide +kernel
theorem dX1_fill_3 : decode cX1_fill 3 = .ok (.bipush 8, 2) := by decide +kernel
theorem dX1_fill_5 : decode cX1_fill 5 = .ok (.if_icmp .ge 16, 3) := by decide +kernel
theorem dX1_fill_8 : decode cX1_fill 8 = .ok (.aload_n 0, 1) := by decide +kernel
theorem dX1_fill_9 : decode cX1_fill 9 = .ok (.getfield 11, 3) := by decide +kernel
theorem dX1_fill_12 : decode cX1_fill 12 = .ok (.iload_n 3, 1) := by decide +kernel
theorem dX1_fill_13 : decode cX1_fill 13 = .ok (.lload_n 1, 1) := by decide +kernel
theorem dX1_fill_14 : decode cX1_fill 14 = .ok (.lastore, 1) := by decide +kernel
theorem dX1_fill_15 : decode cX1_fill 15 = .ok (.iinc 3 1, 3) := by decide +kernel
theorem dX1_fill_18 : decode cX1_fill 18 = .ok (.goto (-16), 3) := by decide +kernel
theorem dX1_fill_21 : decode cX1_fill 21 = .ok (.return_, 1) := by decide +kernel
theorem dX1_copyFrom_0 : decode cX1_copyFrom 0 = .ok (.iconst 0, 1) := by decide +kernel
theorem dX1_copyFrom_1 : decode cX1_copyFrom 1 = .ok (.istore_n 2, 1) := by decide +kernel
theorem dX1_copyFrom_2 : decode cX1_copyFrom 2 = .ok (.iload_n 2, 1) := by decide +kernel
theorem dX1_copyFrom_3 : decode cX1_copyFrom 3 = .ok (.bipush 8, 2) := by decide +kernel
theorem dX1_copyFrom_5 : decode cX1_copyFrom 5 = .ok (.if_icmp .ge 21, 3) := by decide +kernel
theorem dX1_copyFrom_8 : decode cX1_copyFrom 8 = .ok (.aload_n 0, 1) := by decide +kernel
theorem dX1_copyFrom_9 : decode cX1_copyFrom 9 = .ok (.getfield 11, 3) := by decide +kernel
theorem dX1_copyFrom_12 : decode cX1_copyFrom 12 = .ok (.iload_n 2, 1) := by decide +kernel
theorem dX1_copyFrom_13 : decode cX1_copyFrom 13 = .ok (.aload_n 1, 1) := by decide +kernel
theorem dX1_copyFrom_14 : decode cX1_copyFrom 14 = .ok (.getfield 11, 3) := by decide +kernel
theorem dX1_copyFrom_17 : decode cX1_copyFrom 17 = .ok (.iload_n 2, 1) := by decide +kernel
theorem dX1_copyFrom_18 : decode cX1_copyFrom 18 = .ok (.laload, 1) := by decide +kernel
theorem dX1_copyFrom_19 : decode cX1_copyFrom 19 = .ok (.lastore, 1) := by decide +kernel
theorem dX1_copyFrom_20 : decode cX1_copyFrom 20 = .ok (.iinc 2 1, 3) := by decide +kernel
theorem dX1_copyFrom_23 : decode cX1_copyFrom 23 = .ok (.goto (-21), 3) := by decide +kernel
theorem dX1_copyFrom_26 : decode cX1_copyFrom 26 = .ok (.return_, 1) := by decide +kernel
theorem dX1_unite_0 : decode cX1_unite 0 = .ok (.iconst 0, 1) := by decide +kernel
theorem dX1_unite_1 : decode cX1_unite 1 = .ok (.istore_n 2, 1) := by decide +kernel
theorem dX1_unite_2 : decode cX1_unite 2 = .ok (.iload_n 2, 1) := by decide +kernel
theorem dX1_unite_3 : decode cX1_unite 3 = .ok (.bipush 8, 2) := by decide +kernel
theorem dX1_unite_5 : decode cX1_unite 5 = .ok (.if_icmp .ge 24, 3) := by decide +kernel
theorem dX1_unite_8 : decode cX1_unite 8 = .ok (.aload_n 0, 1) := by decide +kernel
theorem dX1_unite_9 : decode cX1_unite 9 = .ok (.getfield 11, 3) := by decide +kernel
theorem dX1_unite_12 : decode cX1_unite 12 = .ok (.iload_n 2, 1) := by decide +kernel
theorem dX1_unite_13 : decode cX1_unite 13 = .ok (.dup2, 1) := by decide +kernel
theorem dX1_unite_14 : decode cX1_unite 14 = .ok (.laload, 1) := by decide +kernel
theorem dX1_unite_15 : decode cX1_unite 15 = .ok (.aload_n 1, 1) := by decide +kernel
theorem dX1_unite_16 : decode cX1_unite 16 = .ok (.getfield 11, 3) := by decide +kernel
theorem dX1_unite_19 : decode cX1_unite 19 = .ok (.iload_n 2, 1) := by decide +kernel
theorem dX1_unite_20 : decode cX1_unite 20 = .ok (.laload, 1) := by decide +kernel
theorem dX1_unite_21 : decode cX1_unite 21 = .ok (.lor, 1) := by decide +kernel
theorem dX1_unite_22 : decode cX1_unite 22 = .ok (.lastore, 1) := by decide +kernel
theorem dX1_unite_23 : decode cX1_unite 23 = .ok (.iinc 2 1, 3) := by decide +kernel
theorem dX1_unite_26 : decode cX1_unite 26 = .ok (.goto (-24), 3) := by decide +kernel
theorem dX1_unite_29 : decode cX1_unite 29 = .ok (.return_, 1) := by decide +kernel
theorem dX1_keep_0 : decode cX1_keep 0 = .ok (.iconst 0, 1) := by decide +kernel
theorem dX1_keep_1 : decode cX1_keep 1 = .ok (.istore_n 2, 1) := by decide +kernel
theorem dX1_keep_2 : decode cX1_keep 2 = .ok (.iload_n 2, 1) := by decide +kernel
theorem dX1_keep_3 : decode cX1_keep 3 = .ok (.bipush 8, 2) := by decide +kernel
theorem dX1_keep_5 : decode cX1_keep 5 = .ok (.if_icmp .ge 24, 3) := by decide +kernel
theorem dX1_keep_8 : decode cX1_keep 8 = .ok (.aload_n 0, 1) := by decide +kernel
theorem dX1_keep_9 : decode cX1_keep 9 = .ok (.getfield 11, 3) := by decide +kernel
theorem dX1_keep_12 : decode cX1_keep 12 = .ok (.iload_n 2, 1) := by decide +kernel
theorem dX1_keep_13 : decode cX1_keep 13 = .ok (.dup2, 1) := by decide +kernel
theorem dX1_keep_14 : decode cX1_keep 14 = .ok (.laload, 1) := by decide +kernel
theorem dX1_keep_15 : decode cX1_keep 15 = .ok (.aload_n 1, 1) := by decide +kernel
theorem dX1_keep_16 : decode cX1_keep 16 = .ok (.getfield 11, 3) := by decide +kernel
theorem dX1_keep_19 : decode cX1_keep 19 = .ok (.iload_n 2, 1) := by decide +kernel
theorem dX1_keep_20 : decode cX1_keep 20 = .ok (.laload, 1) := by decide +kernel
theorem dX1_keep_21 : decode cX1_keep 21 = .ok (.land, 1) := by decide +kernel
theorem dX1_keep_22 : decode cX1_keep 22 = .ok (.lastore, 1) := by decide +kernel
theorem dX1_keep_23 : decode cX1_keep 23 = .ok (.iinc 2 1, 3) := by decide +kernel
theorem dX1_keep_26 : decode cX1_keep 26 = .ok (.goto (-24), 3) := by decide +kernel
theorem dX1_keep_29 : decode cX1_keep 29 = .ok (.return_, 1) := by decide +kernel
theorem dX1_remove_0 : decode cX1_remove 0 = .ok (.iconst 0, 1) := by decide +kernel
theorem dX1_remove_1 : decode cX1_remove 1 = .ok (.istore_n 2, 1) := by decide +kernel
theorem dX1_remove_2 : decode cX1_remove 2 = .ok (.iload_n 2, 1) := by decide +kernel
theorem dX1_remove_3 : decode cX1_remove 3 = .ok (.bipush 8, 2) := by decide +kernel
theorem dX1_remove_5 : decode cX1_remove 5 = .ok (.if_icmp .ge 28, 3) := by decide +kernel
theorem dX1_remove_8 : decode cX1_remove 8 = .ok (.aload_n 0, 1) := by decide +kernel
theorem dX1_remove_9 : decode cX1_remove 9 = .ok (.getfield 11, 3) := by decide +kernel
theorem dX1_remove_12 : decode cX1_remove 12 = .ok (.iload_n 2, 1) := by decide +kernel
theorem dX1_remove_13 : decode cX1_remove 13 = .ok (.dup2, 1) := by decide +kernel
theorem dX1_remove_14 : decode cX1_remove 14 = .ok (.laload, 1) := by decide +kernel
theorem dX1_remove_15 : decode cX1_remove 15 = .ok (.aload_n 1, 1) := by decide +kernel
theorem dX1_remove_16 : decode cX1_remove 16 = .ok (.getfield 11, 3) := by decide +kernel
theorem dX1_remove_19 : decode cX1_remove 19 = .ok (.iload_n 2, 1) := by decide +kernel
theorem dX1_remove_20 : decode cX1_remove 20 = .ok (.laload, 1) := by decide +kernel
theorem dX1_remove_21 : decode cX1_remove 21 = .ok (.ldc2_w 19, 3) := by decide +kernel
theorem dX1_remove_24 : decode cX1_remove 24 = .ok (.lxor, 1) := by decide +kernel
theorem dX1_remove_25 : decode cX1_remove 25 = .ok (.land, 1) := by decide +kernel
theorem dX1_remove_26 : decode cX1_remove 26 = .ok (.lastore, 1) := by decide +kernel
theorem dX1_remove_27 : decode cX1_remove 27 = .ok (.iinc 2 1, 3) := by decide +kernel
theorem dX1_remove_30 : decode cX1_remove 30 = .ok (.goto (-28), 3) := by decide +kernel
theorem dX1_remove_33 : decode cX1_remove 33 = .ok (.return_, 1) := by decide +kernel
theorem dX1_complement_0 : decode cX1_complement 0 = .ok (.iconst 0, 1) := by decide +kernel
theorem dX1_complement_1 : decode cX1_complement 1 = .ok (.istore_n 1, 1) := by decide +kernel
theorem dX1_complement_2 : decode cX1_complement 2 = .ok (.iload_n 1, 1) := by decide +kernel
theorem dX1_complement_3 : decode cX1_complement 3 = .ok (.bipush 8, 2) := by decide +kernel
theorem dX1_complement_5 : decode cX1_complement 5 = .ok (.if_icmp .ge 25, 3) := by decide +kernel
theorem dX1_complement_8 : decode cX1_complement 8 = .ok (.aload_n 0, 1) := by decide +kernel
theorem dX1_complement_9 : decode cX1_complement 9 = .ok (.getfield 11, 3) := by decide +kernel
theorem dX1_complement_12 : decode cX1_complement 12 = .ok (.iload_n 1, 1) := by decide +kernel
theorem dX1_complement_13 : decode cX1_complement 13 = .ok (.aload_n 0, 1) := by decide +kernel
theorem dX1_complement_14 : decode cX1_complement 14 = .ok (.getfield 11, 3) := by decide +kernel
theorem dX1_complement_17 : decode cX1_complement 17 = .ok (.iload_n 1, 1) := by decide +kernel
theorem dX1_complement_18 : decode cX1_complement 18 = .ok (.laload, 1) := by decide +kernel
theorem dX1_complement_19 : decode cX1_complement 19 = .ok (.ldc2_w 19, 3) := by decide +kernel
theorem dX1_complement_22 : decode cX1_complement 22 = .ok (.lxor, 1) := by decide +kernel
theorem dX1_complement_23 : decode cX1_complement 23 = .ok (.lastore, 1) := by decide +kernel
theorem dX1_complement_24 : decode cX1_complement 24 = .ok (.iinc 1 1, 3) := by decide +kernel
theorem dX1_complement_27 : decode cX1_complement 27 = .ok (.goto (-25), 3) := by decide +kernel
theorem dX1_complement_30 : decode cX1_complement 30 = .ok (.return_, 1) := by decide +kernel
theorem dX1_isWithin_0 : decode cX1_isWithin 0 = .ok (.iconst 0, 1) := by decide +kernel
theorem dX1_isWithin_1 : decode cX1_isWithin 1 = .ok (.istore_n 2, 1) := by decide +kernel
theorem dX1_isWithin_2 : decode cX1_isWithin 2 = .ok (.iload_n 2, 1) := by decide +kernel
theorem dX1_isWithin_3 : decode cX1_isWithin 3 = .ok (.bipush 8, 2) := by decide +kernel
theorem dX1_isWithin_5 : decode cX1_isWithin 5 = .ok (.if_icmp .ge 33, 3) := by decide +kernel
theorem dX1_isWithin_8 : decode cX1_isWithin 8 = .ok (.aload_n 0, 1) := by decide +kernel
theorem dX1_isWithin_9 : decode cX1_isWithin 9 = .ok (.getfield 11, 3) := by decide +kernel
theorem dX1_isWithin_12 : decode cX1_isWithin 12 = .ok (.iload_n 2, 1) := by decide +kernel
theorem dX1_isWithin_13 : decode cX1_isWithin 13 = .ok (.laload, 1) := by decide +kernel
theorem dX1_isWithin_14 : decode cX1_isWithin 14 = .ok (.aload_n 1, 1) := by decide +kernel
theorem dX1_isWithin_15 : decode cX1_isWithin 15 = .ok (.getfield 11, 3) := by decide +kernel
theorem dX1_isWithin_18 : decode cX1_isWithin 18 = .ok (.iload_n 2, 1) := by decide +kernel
theorem dX1_isWithin_19 : decode cX1_isWithin 19 = .ok (.laload, 1) := by decide +kernel
theorem dX1_isWithin_20 : decode cX1_isWithin 20 = .ok (.ldc2_w 19, 3) := by decide +kernel
theorem dX1_isWithin_23 : decode cX1_isWithin 23 = .ok (.lxor, 1) := by decide +kernel
theorem dX1_isWithin_24 : decode cX1_isWithin 24 = .ok (.land, 1) := by decide +kernel
theorem dX1_isWithin_25 : decode cX1_isWithin 25 = .ok (.lconst 0, 1) := by decide +kernel
theorem dX1_isWithin_26 : decode cX1_isWithin 26 = .ok (.lcmp, 1) := by decide +kernel
theorem dX1_isWithin_27 : decode cX1_isWithin 27 = .ok (.ifCond .eq 5, 3) := by decide +kernel
theorem dX1_isWithin_30 : decode cX1_isWithin 30 = .ok (.iconst 0, 1) := by decide +kernel
theorem dX1_isWithin_31 : decode cX1_isWithin 31 = .ok (.ireturn, 1) := by decide +kernel
theorem dX1_isWithin_32 : decode cX1_isWithin 32 = .ok (.iinc 2 1, 3) := by decide +kernel
theorem dX1_isWithin_35 : decode cX1_isWithin 35 = .ok (.goto (-33), 3) := by decide +kernel
theorem dX1_isWithin_38 : decode cX1_isWithin 38 = .ok (.iconst 1, 1) := by decide +kernel
theorem dX1_isWithin_39 : decode cX1_isWithin 39 = .ok (.ireturn, 1) := by decide +kernel
theorem dX1_isEmpty_0 : decode cX1_isEmpty 0 = .ok (.aload_n 0, 1) := by decide +kernel
theorem dX1_isEmpty_1 : decode cX1_isEmpty 1 = .ok (.invokevirtual 21, 3) := by decide +kernel
theorem dX1_isEmpty_4 : decode cX1_isEmpty 4 = .ok (.ifCond .ne 7, 3) := by decide +kernel
theorem dX1_isEmpty_7 : decode cX1_isEmpty 7 = .ok (.iconst 1, 1) := by decide +kernel
theorem dX1_isEmpty_8 : decode cX1_isEmpty 8 = .ok (.goto 4, 3) := by decide +kernel
theorem dX1_isEmpty_11 : decode cX1_isEmpty 11 = .ok (.iconst 0, 1) := by decide +kernel
theorem dX1_isEmpty_12 : decode cX1_isEmpty 12 = .ok (.ireturn, 1) := by decide +kernel
theorem dX1_size_0 : decode cX1_size 0 = .ok (.iconst 0, 1) := by decide +kernel
theorem dX1_size_1 : decode cX1_size 1 = .ok (.istore_n 1, 1) := by decide +kernel
theorem dX1_size_2 : decode cX1_size 2 = .ok (.iconst 0, 1) := by decide +kernel
theorem dX1_size_3 : decode cX1_size 3 = .ok (.istore_n 2, 1) := by decide +kernel
theorem dX1_size_4 : decode cX1_size 4 = .ok (.iload_n 2, 1) := by decide +kernel
theorem dX1_size_5 : decode cX1_size 5 = .ok (.bipush 8, 2) := by decide +kernel
theorem dX1_size_7 : decode cX1_size 7 = .ok (.if_icmp .ge 21, 3) := by decide +kernel
theorem dX1_size_10 : decode cX1_size 10 = .ok (.iload_n 1, 1) := by decide +kernel
theorem dX1_size_11 : decode cX1_size 11 = .ok (.aload_n 0, 1) := by decide +kernel
theorem dX1_size_12 : decode cX1_size 12 = .ok (.getfield 11, 3) := by decide +kernel
theorem dX1_size_15 : decode cX1_size 15 = .ok (.iload_n 2, 1) := by decide +kernel
theorem dX1_size_16 : decode cX1_size 16 = .ok (.laload, 1) := by decide +kernel
theorem dX1_size_17 : decode cX1_size 17 = .ok (.invokestatic 25, 3) := by decide +kernel
theorem dX1_size_20 : decode cX1_size 20 = .ok (.iadd, 1) := by decide +kernel
theorem dX1_size_21 : decode cX1_size 21 = .ok (.istore_n 1, 1) := by decide +kernel
theorem dX1_size_22 : decode cX1_size 22 = .ok (.iinc 2 1, 3) := by decide +kernel
theorem dX1_size_25 : decode cX1_size 25 = .ok (.goto (-21), 3) := by decide +kernel
theorem dX1_size_28 : decode cX1_size 28 = .ok (.iload_n 1, 1) := by decide +kernel
theorem dX1_size_29 : decode cX1_size 29 = .ok (.ireturn, 1) := by decide +kernel
theorem dX1_countOf_0 : decode cX1_countOf 0 = .ok (.iconst 0, 1) := by decide +kernel
theorem dX1_countOf_1 : decode cX1_countOf 1 = .ok (.istore 5, 2) := by decide +kernel
theorem dX1_countOf_3 : decode cX1_countOf 3 = .ok (.iconst 0, 1) := by decide +kernel
theorem dX1_countOf_4 : decode cX1_countOf 4 = .ok (.istore 6, 2) := by decide +kernel
theorem dX1_countOf_6 : decode cX1_countOf 6 = .ok (.iload 6, 2) := by decide +kernel
theorem dX1_countOf_8 : decode cX1_countOf 8 = .ok (.bipush 8, 2) := by decide +kernel
theorem dX1_countOf_10 : decode cX1_countOf 10 = .ok (.if_icmp .ge 45, 3) := by decide +kernel
theorem dX1_countOf_13 : decode cX1_countOf 13 = .ok (.iload 5, 2) := by decide +kernel
theorem dX1_countOf_15 : decode cX1_countOf 15 = .ok (.aload_n 0, 1) := by decide +kernel
theorem dX1_countOf_16 : decode cX1_countOf 16 = .ok (.getfield 11, 3) := by decide +kernel
theorem dX1_countOf_19 : decode cX1_countOf 19 = .ok (.iload 6, 2) := by decide +kernel
theorem dX1_countOf_21 : decode cX1_countOf 21 = .ok (.laload, 1) := by decide +kernel
theorem dX1_countOf_22 : decode cX1_countOf 22 = .ok (.iload_n 1, 1) := by decide +kernel
theorem dX1_countOf_23 : decode cX1_countOf 23 = .ok (.iconst 1, 1) := by decide +kernel
theorem dX1_countOf_24 : decode cX1_countOf 24 = .ok (.iload_n 2, 1) := by decide +kernel
theorem dX1_countOf_25 : decode cX1_countOf 25 = .ok (.ishl, 1) := by decide +kernel
theorem dX1_countOf_26 : decode cX1_countOf 26 = .ok (.iload 6, 2) := by decide +kernel
theorem dX1_countOf_28 : decode cX1_countOf 28 = .ok (.invokestatic 31, 3) := by decide +kernel
theorem dX1_countOf_31 : decode cX1_countOf 31 = .ok (.land, 1) := by decide +kernel
theorem dX1_countOf_32 : decode cX1_countOf 32 = .ok (.iload_n 3, 1) := by decide +kernel
theorem dX1_countOf_33 : decode cX1_countOf 33 = .ok (.iconst 1, 1) := by decide +kernel
theorem dX1_countOf_34 : decode cX1_countOf 34 = .ok (.iload 4, 2) := by decide +kernel
theorem dX1_countOf_36 : decode cX1_countOf 36 = .ok (.ishl, 1) := by decide +kernel
theorem dX1_countOf_37 : decode cX1_countOf 37 = .ok (.iload 6, 2) := by decide +kernel
theorem dX1_countOf_39 : decode cX1_countOf 39 = .ok (.invokestatic 31, 3) := by decide +kernel
theorem dX1_countOf_42 : decode cX1_countOf 42 = .ok (.land, 1) := by decide +kernel
theorem dX1_countOf_43 : decode cX1_countOf 43 = .ok (.invokestatic 25, 3) := by decide +kernel
theorem dX1_countOf_46 : decode cX1_countOf 46 = .ok (.iadd, 1) := by decide +kernel
theorem dX1_countOf_47 : decode cX1_countOf 47 = .ok (.istore 5, 2) := by decide +kernel
theorem dX1_countOf_49 : decode cX1_countOf 49 = .ok (.iinc 6 1, 3) := by decide +kernel
theorem dX1_countOf_52 : decode cX1_countOf 52 = .ok (.goto (-46), 3) := by decide +kernel
theorem dX1_countOf_55 : decode cX1_countOf 55 = .ok (.iload 5, 2) := by decide +kernel
theorem dX1_countOf_57 : decode cX1_countOf 57 = .ok (.ireturn, 1) := by decide +kernel
theorem dX1_valuesOf_0 : decode cX1_valuesOf 0 = .ok (.iconst 0, 1) := by decide +kernel
theorem dX1_valuesOf_1 : decode cX1_valuesOf 1 = .ok (.istore_n 2, 1) := by decide +kernel
theorem dX1_valuesOf_2 : decode cX1_valuesOf 2 = .ok (.iconst 1, 1) := by decide +kernel
theorem dX1_valuesOf_3 : decode cX1_valuesOf 3 = .ok (.istore_n 3, 1) := by decide +kernel
theorem dX1_valuesOf_4 : decode cX1_valuesOf 4 = .ok (.iload_n 3, 1) := by decide +kernel
theorem dX1_valuesOf_5 : decode cX1_valuesOf 5 = .ok (.bipush 7, 2) := by decide +kernel
theorem dX1_valuesOf_7 : decode cX1_valuesOf 7 = .ok (.if_icmp .gt 26, 3) := by decide +kernel
theorem dX1_valuesOf_10 : decode cX1_valuesOf 10 = .ok (.aload_n 0, 1) := by decide +kernel
theorem dX1_valuesOf_11 : decode cX1_valuesOf 11 = .ok (.iload_n 1, 1) := by decide +kernel
theorem dX1_valuesOf_12 : decode cX1_valuesOf 12 = .ok (.iload_n 3, 1) := by decide +kernel
theorem dX1_valuesOf_13 : decode cX1_valuesOf 13 = .ok (.iload_n 1, 1) := by decide +kernel
theorem dX1_valuesOf_14 : decode cX1_valuesOf 14 = .ok (.iload_n 3, 1) := by decide +kernel
theorem dX1_valuesOf_15 : decode cX1_valuesOf 15 = .ok (.invokevirtual 35, 3) := by decide +kernel
theorem dX1_valuesOf_18 : decode cX1_valuesOf 18 = .ok (.ifCond .le 9, 3) := by decide +kernel
theorem dX1_valuesOf_21 : decode cX1_valuesOf 21 = .ok (.iload_n 2, 1) := by decide +kernel
theorem dX1_valuesOf_22 : decode cX1_valuesOf 22 = .ok (.iconst 1, 1) := by decide +kernel
theorem dX1_valuesOf_23 : decode cX1_valuesOf 23 = .ok (.iload_n 3, 1) := by decide +kernel
theorem dX1_valuesOf_24 : decode cX1_valuesOf 24 = .ok (.ishl, 1) := by decide +kernel
theorem dX1_valuesOf_25 : decode cX1_valuesOf 25 = .ok (.ior, 1) := by decide +kernel
theorem dX1_valuesOf_26 : decode cX1_valuesOf 26 = .ok (.istore_n 2, 1) := by decide +kernel
theorem dX1_valuesOf_27 : decode cX1_valuesOf 27 = .ok (.iinc 3 1, 3) := by decide +kernel
theorem dX1_valuesOf_30 : decode cX1_valuesOf 30 = .ok (.goto (-26), 3) := by decide +kernel
theorem dX1_valuesOf_33 : decode cX1_valuesOf 33 = .ok (.iload_n 2, 1) := by decide +kernel
theorem dX1_valuesOf_34 : decode cX1_valuesOf 34 = .ok (.ireturn, 1) := by decide +kernel
theorem dX1_keepValues_0 : decode cX1_keepValues 0 = .ok (.iconst 0, 1) := by decide +kernel
theorem dX1_keepValues_1 : decode cX1_keepValues 1 = .ok (.istore_n 3, 1) := by decide +kernel
theorem dX1_keepValues_2 : decode cX1_keepValues 2 = .ok (.iload_n 3, 1) := by decide +kernel
theorem dX1_keepValues_3 : decode cX1_keepValues 3 = .ok (.bipush 8, 2) := by decide +kernel
theorem dX1_keepValues_5 : decode cX1_keepValues 5 = .ok (.if_icmp .ge 24, 3) := by decide +kernel
theorem dX1_keepValues_8 : decode cX1_keepValues 8 = .ok (.aload_n 0, 1) := by decide +kernel
theorem dX1_keepValues_9 : decode cX1_keepValues 9 = .ok (.getfield 11, 3) := by decide +kernel
theorem dX1_keepValues_12 : decode cX1_keepValues 12 = .ok (.iload_n 3, 1) := by decide +kernel
theorem dX1_keepValues_13 : decode cX1_keepValues 13 = .ok (.dup2, 1) := by decide +kernel
theorem dX1_keepValues_14 : decode cX1_keepValues 14 = .ok (.laload, 1) := by decide +kernel
theorem dX1_keepValues_15 : decode cX1_keepValues 15 = .ok (.iload_n 1, 1) := by decide +kernel
theorem dX1_keepValues_16 : decode cX1_keepValues 16 = .ok (.iload_n 2, 1) := by decide +kernel
theorem dX1_keepValues_17 : decode cX1_keepValues 17 = .ok (.iload_n 3, 1) := by decide +kernel
theorem dX1_keepValues_18 : decode cX1_keepValues 18 = .ok (.invokestatic 31, 3) := by decide +kernel
theorem dX1_keepValues_21 : decode cX1_keepValues 21 = .ok (.land, 1) := by decide +kernel
theorem dX1_keepValues_22 : decode cX1_keepValues 22 = .ok (.lastore, 1) := by decide +kernel
theorem dX1_keepValues_23 : decode cX1_keepValues 23 = .ok (.iinc 3 1, 3) := by decide +kernel
theorem dX1_keepValues_26 : decode cX1_keepValues 26 = .ok (.goto (-24), 3) := by decide +kernel
theorem dX1_keepValues_29 : decode cX1_keepValues 29 = .ok (.return_, 1) := by decide +kernel
theorem dX1_keepPartners_0 : decode cX1_keepPartners 0 = .ok (.iconst 0, 1) := by decide +kernel
theorem dX1_keepPartners_1 : decode cX1_keepPartners 1 = .ok (.istore 5, 2) := by decide +kernel
theorem dX1_keepPartners_3 : decode cX1_keepPartners 3 = .ok (.iload 5, 2) := by decide +kernel
theorem dX1_keepPartners_5 : decode cX1_keepPartners 5 = .ok (.bipush 8, 2) := by decide +kernel
theorem dX1_keepPartners_7 : decode cX1_keepPartners 7 = .ok (.if_icmp .ge 41, 3) := by decide +kernel
theorem dX1_keepPartners_10 : decode cX1_keepPartners 10 = .ok (.aload_n 0, 1) := by decide +kernel
theorem dX1_keepPartners_11 : decode cX1_keepPartners 11 = .ok (.getfield 11, 3) := by decide +kernel
theorem dX1_keepPartners_14 : decode cX1_keepPartners 14 = .ok (.iload 5, 2) := by decide +kernel
theorem dX1_keepPartners_16 : decode cX1_keepPartners 16 = .ok (.dup2, 1) := by decide +kernel
theorem dX1_keepPartners_17 : decode cX1_keepPartners 17 = .ok (.laload, 1) := by decide +kernel
theorem dX1_keepPartners_18 : decode cX1_keepPartners 18 = .ok (.iload_n 1, 1) := by decide +kernel
theorem dX1_keepPartners_19 : decode cX1_keepPartners 19 = .ok (.iconst 1, 1) := by decide +kernel
theorem dX1_keepPartners_20 : decode cX1_keepPartners 20 = .ok (.iload_n 2, 1) := by decide +kernel
theorem dX1_keepPartners_21 : decode cX1_keepPartners 21 = .ok (.ishl, 1) := by decide +kernel
theorem dX1_keepPartners_22 : decode cX1_keepPartners 22 = .ok (.iload 5, 2) := by decide +kernel
theorem dX1_keepPartners_24 : decode cX1_keepPartners 24 = .ok (.invokestatic 31, 3) := by decide +kernel
theorem dX1_keepPartners_27 : decode cX1_keepPartners 27 = .ok (.ldc2_w 19, 3) := by decide +kernel
theorem dX1_keepPartners_30 : decode cX1_keepPartners 30 = .ok (.lxor, 1) := by decide +kernel
theorem dX1_keepPartners_31 : decode cX1_keepPartners 31 = .ok (.iload_n 3, 1) := by decide +kernel
theorem dX1_keepPartners_32 : decode cX1_keepPartners 32 = .ok (.iload 4, 2) := by decide +kernel
theorem dX1_keepPartners_34 : decode cX1_keepPartners 34 = .ok (.iload 5, 2) := by decide +kernel
theorem dX1_keepPartners_36 : decode cX1_keepPartners 36 = .ok (.invokestatic 31, 3) := by decide +kernel
theorem dX1_keepPartners_39 : decode cX1_keepPartners 39 = .ok (.lor, 1) := by decide +kernel
theorem dX1_keepPartners_40 : decode cX1_keepPartners 40 = .ok (.land, 1) := by decide +kernel
theorem dX1_keepPartners_41 : decode cX1_keepPartners 41 = .ok (.lastore, 1) := by decide +kernel
theorem dX1_keepPartners_42 : decode cX1_keepPartners 42 = .ok (.iinc 5 1, 3) := by decide +kernel
theorem dX1_keepPartners_45 : decode cX1_keepPartners 45 = .ok (.goto (-42), 3) := by decide +kernel
theorem dX1_keepPartners_48 : decode cX1_keepPartners 48 = .ok (.return_, 1) := by decide +kernel
theorem dX1_vary_0 : decode cX1_vary 0 = .ok (.iload_n 1, 1) := by decide +kernel
theorem dX1_vary_1 : decode cX1_vary 1 = .ok (.iconst 2, 1) := by decide +kernel
theorem dX1_vary_2 : decode cX1_vary 2 = .ok (.if_icmp .ne 10, 3) := by decide +kernel
theorem dX1_vary_5 : decode cX1_vary 5 = .ok (.aload_n 0, 1) := by decide +kernel
theorem dX1_vary_6 : decode cX1_vary 6 = .ok (.iload_n 2, 1) := by decide +kernel
theorem dX1_vary_7 : decode cX1_vary 7 = .ok (.iload_n 3, 1) := by decide +kernel
theorem dX1_vary_8 : decode cX1_vary 8 = .ok (.invokevirtual 39, 3) := by decide +kernel
theorem dX1_vary_11 : decode cX1_vary 11 = .ok (.return_, 1) := by decide +kernel
theorem dX1_vary_12 : decode cX1_vary 12 = .ok (.iload_n 1, 1) := by decide +kernel
theorem dX1_vary_13 : decode cX1_vary 13 = .ok (.ifCond .ne 7, 3) := by decide +kernel
theorem dX1_vary_16 : decode cX1_vary 16 = .ok (.iconst 1, 1) := by decide +kernel
theorem dX1_vary_17 : decode cX1_vary 17 = .ok (.goto 5, 3) := by decide +kernel
theorem dX1_vary_20 : decode cX1_vary 20 = .ok (.bipush 8, 2) := by decide +kernel
theorem dX1_vary_22 : decode cX1_vary 22 = .ok (.istore 4, 2) := by decide +kernel
theorem dX1_vary_24 : decode cX1_vary 24 = .ok (.iload_n 1, 1) := by decide +kernel
theorem dX1_vary_25 : decode cX1_vary 25 = .ok (.ifCond .ne 9, 3) := by decide +kernel
theorem dX1_vary_28 : decode cX1_vary 28 = .ok (.ldc2_w 43, 3) := by decide +kernel
theorem dX1_vary_31 : decode cX1_vary 31 = .ok (.goto 6, 3) := by decide +kernel
theorem dX1_vary_34 : decode cX1_vary 34 = .ok (.ldc2_w 45, 3) := by decide +kernel
theorem dX1_vary_37 : decode cX1_vary 37 = .ok (.lstore 5, 2) := by decide +kernel
theorem dX1_vary_39 : decode cX1_vary 39 = .ok (.iconst 0, 1) := by decide +kernel
theorem dX1_vary_40 : decode cX1_vary 40 = .ok (.istore 7, 2) := by decide +kernel
theorem dX1_vary_42 : decode cX1_vary 42 = .ok (.iload 7, 2) := by decide +kernel
theorem dX1_vary_44 : decode cX1_vary 44 = .ok (.bipush 8, 2) := by decide +kernel
theorem dX1_vary_46 : decode cX1_vary 46 = .ok (.if_icmp .ge 32, 3) := by decide +kernel
theorem dX1_vary_49 : decode cX1_vary 49 = .ok (.aload_n 0, 1) := by decide +kernel
theorem dX1_vary_50 : decode cX1_vary 50 = .ok (.getfield 11, 3) := by decide +kernel
theorem dX1_vary_53 : decode cX1_vary 53 = .ok (.iload 7, 2) := by decide +kernel
theorem dX1_vary_55 : decode cX1_vary 55 = .ok (.aload_n 0, 1) := by decide +kernel
theorem dX1_vary_56 : decode cX1_vary 56 = .ok (.getfield 11, 3) := by decide +kernel
theorem dX1_vary_59 : decode cX1_vary 59 = .ok (.iload 7, 2) := by decide +kernel
theorem dX1_vary_61 : decode cX1_vary 61 = .ok (.laload, 1) := by decide +kernel
theorem dX1_vary_62 : decode cX1_vary 62 = .ok (.iload 4, 2) := by decide +kernel
theorem dX1_vary_64 : decode cX1_vary 64 = .ok (.lload 5, 2) := by decide +kernel
theorem dX1_vary_66 : decode cX1_vary 66 = .ok (.iload_n 2, 1) := by decide +kernel
theorem dX1_vary_67 : decode cX1_vary 67 = .ok (.iload_n 3, 1) := by decide +kernel
theorem dX1_vary_68 : decode cX1_vary 68 = .ok (.invokestatic 47, 3) := by decide +kernel
theorem dX1_vary_71 : decode cX1_vary 71 = .ok (.lastore, 1) := by decide +kernel
theorem dX1_vary_72 : decode cX1_vary 72 = .ok (.iinc 7 1, 3) := by decide +kernel
theorem dX1_vary_75 : decode cX1_vary 75 = .ok (.goto (-33), 3) := by decide +kernel
theorem dX1_vary_78 : decode cX1_vary 78 = .ok (.return_, 1) := by decide +kernel
theorem dX1_varyWords_0 : decode cX1_varyWords 0 = .ok (.lconst 0, 1) := by decide +kernel
theorem dX1_varyWords_1 : decode cX1_varyWords 1 = .ok (.lstore_n 3, 1) := by decide +kernel
theorem dX1_varyWords_2 : decode cX1_varyWords 2 = .ok (.iconst 0, 1) := by decide +kernel
theorem dX1_varyWords_3 : decode cX1_varyWords 3 = .ok (.istore 5, 2) := by decide +kernel
theorem dX1_varyWords_5 : decode cX1_varyWords 5 = .ok (.iload 5, 2) := by decide +kernel
theorem dX1_varyWords_7 : decode cX1_varyWords 7 = .ok (.bipush 8, 2) := by decide +kernel
theorem dX1_varyWords_9 : decode cX1_varyWords 9 = .ok (.if_icmp .ge 32, 3) := by decide +kernel
theorem dX1_varyWords_12 : decode cX1_varyWords 12 = .ok (.lload_n 3, 1) := by decide +kernel
theorem dX1_varyWords_13 : decode cX1_varyWords 13 = .ok (.iload_n 1, 1) := by decide +kernel
theorem dX1_varyWords_14 : decode cX1_varyWords 14 = .ok (.iload 5, 2) := by decide +kernel
theorem dX1_varyWords_16 : decode cX1_varyWords 16 = .ok (.iushr, 1) := by decide +kernel
theorem dX1_varyWords_17 : decode cX1_varyWords 17 = .ok (.iconst 1, 1) := by decide +kernel
theorem dX1_varyWords_18 : decode cX1_varyWords 18 = .ok (.iand, 1) := by decide +kernel
theorem dX1_varyWords_19 : decode cX1_varyWords 19 = .ok (.ifCond .eq 13, 3) := by decide +kernel
theorem dX1_varyWords_22 : decode cX1_varyWords 22 = .ok (.aload_n 0, 1) := by decide +kernel
theorem dX1_varyWords_23 : decode cX1_varyWords 23 = .ok (.getfield 11, 3) := by decide +kernel
theorem dX1_varyWords_26 : decode cX1_varyWords 26 = .ok (.iload 5, 2) := by decide +kernel
theorem dX1_varyWords_28 : decode cX1_varyWords 28 = .ok (.laload, 1) := by decide +kernel
theorem dX1_varyWords_29 : decode cX1_varyWords 29 = .ok (.goto 4, 3) := by decide +kernel
theorem dX1_varyWords_32 : decode cX1_varyWords 32 = .ok (.lconst 0, 1) := by decide +kernel
theorem dX1_varyWords_33 : decode cX1_varyWords 33 = .ok (.lor, 1) := by decide +kernel
theorem dX1_varyWords_34 : decode cX1_varyWords 34 = .ok (.lstore_n 3, 1) := by decide +kernel
theorem dX1_varyWords_35 : decode cX1_varyWords 35 = .ok (.iinc 5 1, 3) := by decide +kernel
theorem dX1_varyWords_38 : decode cX1_varyWords 38 = .ok (.goto (-33), 3) := by decide +kernel
theorem dX1_varyWords_41 : decode cX1_varyWords 41 = .ok (.iconst 0, 1) := by decide +kernel
theorem dX1_varyWords_42 : decode cX1_varyWords 42 = .ok (.istore 5, 2) := by decide +kernel
theorem dX1_varyWords_44 : decode cX1_varyWords 44 = .ok (.iload 5, 2) := by decide +kernel
theorem dX1_varyWords_46 : decode cX1_varyWords 46 = .ok (.bipush 8, 2) := by decide +kernel
theorem dX1_varyWords_48 : decode cX1_varyWords 48 = .ok (.if_icmp .ge 30, 3) := by decide +kernel
theorem dX1_varyWords_51 : decode cX1_varyWords 51 = .ok (.aload_n 0, 1) := by decide +kernel
theorem dX1_varyWords_52 : decode cX1_varyWords 52 = .ok (.getfield 11, 3) := by decide +kernel
theorem dX1_varyWords_55 : decode cX1_varyWords 55 = .ok (.iload 5, 2) := by decide +kernel
theorem dX1_varyWords_57 : decode cX1_varyWords 57 = .ok (.iload_n 2, 1) := by decide +kernel
theorem dX1_varyWords_58 : decode cX1_varyWords 58 = .ok (.iload 5, 2) := by decide +kernel
theorem dX1_varyWords_60 : decode cX1_varyWords 60 = .ok (.iushr, 1) := by decide +kernel
theorem dX1_varyWords_61 : decode cX1_varyWords 61 = .ok (.iconst 1, 1) := by decide +kernel
theorem dX1_varyWords_62 : decode cX1_varyWords 62 = .ok (.iand, 1) := by decide +kernel
theorem dX1_varyWords_63 : decode cX1_varyWords 63 = .ok (.ifCond .eq 7, 3) := by decide +kernel
theorem dX1_varyWords_66 : decode cX1_varyWords 66 = .ok (.lload_n 3, 1) := by decide +kernel
theorem dX1_varyWords_67 : decode cX1_varyWords 67 = .ok (.goto 4, 3) := by decide +kernel
theorem dX1_varyWords_70 : decode cX1_varyWords 70 = .ok (.lconst 0, 1) := by decide +kernel
theorem dX1_varyWords_71 : decode cX1_varyWords 71 = .ok (.lastore, 1) := by decide +kernel
theorem dX1_varyWords_72 : decode cX1_varyWords 72 = .ok (.iinc 5 1, 3) := by decide +kernel
theorem dX1_varyWords_75 : decode cX1_varyWords 75 = .ok (.goto (-31), 3) := by decide +kernel
theorem dX1_varyWords_78 : decode cX1_varyWords 78 = .ok (.return_, 1) := by decide +kernel
theorem dX1_varied_0 : decode cX1_varied 0 = .ok (.lconst 0, 1) := by decide +kernel
theorem dX1_varied_1 : decode cX1_varied 1 = .ok (.lstore 7, 2) := by decide +kernel
theorem dX1_varied_3 : decode cX1_varied 3 = .ok (.iconst 0, 1) := by decide +kernel
theorem dX1_varied_4 : decode cX1_varied 4 = .ok (.istore 9, 2) := by decide +kernel
theorem dX1_varied_6 : decode cX1_varied 6 = .ok (.iload 9, 2) := by decide +kernel
theorem dX1_varied_8 : decode cX1_varied 8 = .ok (.bipush 8, 2) := by decide +kernel
theorem dX1_varied_10 : decode cX1_varied 10 = .ok (.if_icmp .ge 36, 3) := by decide +kernel
theorem dX1_varied_13 : decode cX1_varied 13 = .ok (.lload 7, 2) := by decide +kernel
theorem dX1_varied_15 : decode cX1_varied 15 = .ok (.iload 5, 2) := by decide +kernel
theorem dX1_varied_17 : decode cX1_varied 17 = .ok (.iload 9, 2) := by decide +kernel
theorem dX1_varied_19 : decode cX1_varied 19 = .ok (.iushr, 1) := by decide +kernel
theorem dX1_varied_20 : decode cX1_varied 20 = .ok (.iconst 1, 1) := by decide +kernel
theorem dX1_varied_21 : decode cX1_varied 21 = .ok (.iand, 1) := by decide +kernel
theorem dX1_varied_22 : decode cX1_varied 22 = .ok (.ifCond .eq 14, 3) := by decide +kernel
theorem dX1_varied_25 : decode cX1_varied 25 = .ok (.lload_n 0, 1) := by decide +kernel
theorem dX1_varied_26 : decode cX1_varied 26 = .ok (.iload 9, 2) := by decide +kernel
theorem dX1_varied_28 : decode cX1_varied 28 = .ok (.iload_n 2, 1) := by decide +kernel
theorem dX1_varied_29 : decode cX1_varied 29 = .ok (.imul, 1) := by decide +kernel
theorem dX1_varied_30 : decode cX1_varied 30 = .ok (.lushr, 1) := by decide +kernel
theorem dX1_varied_31 : decode cX1_varied 31 = .ok (.lload_n 3, 1) := by decide +kernel
theorem dX1_varied_32 : decode cX1_varied 32 = .ok (.land, 1) := by decide +kernel
theorem dX1_varied_33 : decode cX1_varied 33 = .ok (.goto 4, 3) := by decide +kernel
theorem dX1_varied_36 : decode cX1_varied 36 = .ok (.lconst 0, 1) := by decide +kernel
theorem dX1_varied_37 : decode cX1_varied 37 = .ok (.lor, 1) := by decide +kernel
theorem dX1_varied_38 : decode cX1_varied 38 = .ok (.lstore 7, 2) := by decide +kernel
theorem dX1_varied_40 : decode cX1_varied 40 = .ok (.iinc 9 1, 3) := by decide +kernel
theorem dX1_varied_43 : decode cX1_varied 43 = .ok (.goto (-37), 3) := by decide +kernel
theorem dX1_varied_46 : decode cX1_varied 46 = .ok (.lconst 0, 1) := by decide +kernel
theorem dX1_varied_47 : decode cX1_varied 47 = .ok (.lstore 9, 2) := by decide +kernel
theorem dX1_varied_49 : decode cX1_varied 49 = .ok (.iconst 0, 1) := by decide +kernel
theorem dX1_varied_50 : decode cX1_varied 50 = .ok (.istore 11, 2) := by decide +kernel
theorem dX1_varied_52 : decode cX1_varied 52 = .ok (.iload 11, 2) := by decide +kernel
theorem dX1_varied_54 : decode cX1_varied 54 = .ok (.bipush 8, 2) := by decide +kernel
theorem dX1_varied_56 : decode cX1_varied 56 = .ok (.if_icmp .ge 35, 3) := by decide +kernel
theorem dX1_varied_59 : decode cX1_varied 59 = .ok (.lload 9, 2) := by decide +kernel
theorem dX1_varied_61 : decode cX1_varied 61 = .ok (.iload 6, 2) := by decide +kernel
theorem dX1_varied_63 : decode cX1_varied 63 = .ok (.iload 11, 2) := by decide +kernel
theorem dX1_varied_65 : decode cX1_varied 65 = .ok (.iushr, 1) := by decide +kernel
theorem dX1_varied_66 : decode cX1_varied 66 = .ok (.iconst 1, 1) := by decide +kernel
theorem dX1_varied_67 : decode cX1_varied 67 = .ok (.iand, 1) := by decide +kernel
theorem dX1_varied_68 : decode cX1_varied 68 = .ok (.ifCond .eq 13, 3) := by decide +kernel
theorem dX1_varied_71 : decode cX1_varied 71 = .ok (.lload 7, 2) := by decide +kernel
theorem dX1_varied_73 : decode cX1_varied 73 = .ok (.iload 11, 2) := by decide +kernel
theorem dX1_varied_75 : decode cX1_varied 75 = .ok (.iload_n 2, 1) := by decide +kernel
theorem dX1_varied_76 : decode cX1_varied 76 = .ok (.imul, 1) := by decide +kernel
theorem dX1_varied_77 : decode cX1_varied 77 = .ok (.lshl, 1) := by decide +kernel
theorem dX1_varied_78 : decode cX1_varied 78 = .ok (.goto 4, 3) := by decide +kernel
theorem dX1_varied_81 : decode cX1_varied 81 = .ok (.lconst 0, 1) := by decide +kernel
theorem dX1_varied_82 : decode cX1_varied 82 = .ok (.lor, 1) := by decide +kernel
theorem dX1_varied_83 : decode cX1_varied 83 = .ok (.lstore 9, 2) := by decide +kernel
theorem dX1_varied_85 : decode cX1_varied 85 = .ok (.iinc 11 1, 3) := by decide +kernel
theorem dX1_varied_88 : decode cX1_varied 88 = .ok (.goto (-36), 3) := by decide +kernel
theorem dX1_varied_91 : decode cX1_varied 91 = .ok (.lload 9, 2) := by decide +kernel
theorem dX1_varied_93 : decode cX1_varied 93 = .ok (.lreturn, 1) := by decide +kernel
theorem dX1_mask_0 : decode cX1_mask 0 = .ok (.iload_n 0, 1) := by decide +kernel
theorem dX1_mask_1 : decode cX1_mask 1 = .ok (.ifCond .ne 10, 3) := by decide +kernel
theorem dX1_mask_4 : decode cX1_mask 4 = .ok (.iload_n 1, 1) := by decide +kernel
theorem dX1_mask_5 : decode cX1_mask 5 = .ok (.i2l, 1) := by decide +kernel
theorem dX1_mask_6 : decode cX1_mask 6 = .ok (.ldc2_w 43, 3) := by decide +kernel
theorem dX1_mask_9 : decode cX1_mask 9 = .ok (.lmul, 1) := by decide +kernel
theorem dX1_mask_10 : decode cX1_mask 10 = .ok (.lreturn, 1) := by decide +kernel
theorem dX1_mask_11 : decode cX1_mask 11 = .ok (.iload_n 0, 1) := by decide +kernel
theorem dX1_mask_12 : decode cX1_mask 12 = .ok (.iconst 2, 1) := by decide +kernel
theorem dX1_mask_13 : decode cX1_mask 13 = .ok (.if_icmp .ne 19, 3) := by decide +kernel
theorem dX1_mask_16 : decode cX1_mask 16 = .ok (.iload_n 1, 1) := by decide +kernel
theorem dX1_mask_17 : decode cX1_mask 17 = .ok (.iload_n 2, 1) := by decide +kernel
theorem dX1_mask_18 : decode cX1_mask 18 = .ok (.iushr, 1) := by decide +kernel
theorem dX1_mask_19 : decode cX1_mask 19 = .ok (.iconst 1, 1) := by decide +kernel
theorem dX1_mask_20 : decode cX1_mask 20 = .ok (.iand, 1) := by decide +kernel
theorem dX1_mask_21 : decode cX1_mask 21 = .ok (.ifCond .eq 9, 3) := by decide +kernel
theorem dX1_mask_24 : decode cX1_mask 24 = .ok (.ldc2_w 19, 3) := by decide +kernel
theorem dX1_mask_27 : decode cX1_mask 27 = .ok (.goto 4, 3) := by decide +kernel
theorem dX1_mask_30 : decode cX1_mask 30 = .ok (.lconst 0, 1) := by decide +kernel
theorem dX1_mask_31 : decode cX1_mask 31 = .ok (.lreturn, 1) := by decide +kernel
theorem dX1_mask_32 : decode cX1_mask 32 = .ok (.iload_n 1, 1) := by decide +kernel
theorem dX1_mask_33 : decode cX1_mask 33 = .ok (.i2l, 1) := by decide +kernel
theorem dX1_mask_34 : decode cX1_mask 34 = .ok (.ldc2_w 51, 3) := by decide +kernel
theorem dX1_mask_37 : decode cX1_mask 37 = .ok (.lmul, 1) := by decide +kernel
theorem dX1_mask_38 : decode cX1_mask 38 = .ok (.ldc2_w 43, 3) := by decide +kernel
theorem dX1_mask_41 : decode cX1_mask 41 = .ok (.land, 1) := by decide +kernel
theorem dX1_mask_42 : decode cX1_mask 42 = .ok (.ldc2_w 45, 3) := by decide +kernel
theorem dX1_mask_45 : decode cX1_mask 45 = .ok (.lmul, 1) := by decide +kernel
theorem dX1_mask_46 : decode cX1_mask 46 = .ok (.lreturn, 1) := by decide +kernel
theorem dX2_init_0 : decode cX2_init 0 = .ok (.aload_n 0, 1) := by decide +kernel
theorem dX2_init_1 : decode cX2_init 1 = .ok (.invokespecial 3, 3) := by decide +kernel
theorem dX2_init_4 : decode cX2_init 4 = .ok (.aload_n 0, 1) := by decide +kernel
theorem dX2_init_5 : decode cX2_init 5 = .ok (.iconst 5, 1) := by decide +kernel
theorem dX2_init_6 : decode cX2_init 6 = .ok (.anewarray 9, 3) := by decide +kernel
theorem dX2_init_9 : decode cX2_init 9 = .ok (.putfield 11, 3) := by decide +kernel
theorem dX2_init_12 : decode cX2_init 12 = .ok (.iconst 0, 1) := by decide +kernel
theorem dX2_init_13 : decode cX2_init 13 = .ok (.istore_n 1, 1) := by decide +kernel
theorem dX2_init_14 : decode cX2_init 14 = .ok (.iload_n 1, 1) := by decide +kernel
theorem dX2_init_15 : decode cX2_init 15 = .ok (.iconst 5, 1) := by decide +kernel
theorem dX2_init_16 : decode cX2_init 16 = .ok (.if_icmp .ge 22, 3) := by decide +kernel
theorem dX2_init_19 : decode cX2_init 19 = .ok (.aload_n 0, 1) := by decide +kernel
theorem dX2_init_20 : decode cX2_init 20 = .ok (.getfield 11, 3) := by decide +kernel
theorem dX2_init_23 : decode cX2_init 23 = .ok (.iload_n 1, 1) := by decide +kernel
theorem dX2_init_24 : decode cX2_init 24 = .ok (.new 9, 3) := by decide +kernel
theorem dX2_init_27 : decode cX2_init 27 = .ok (.dup, 1) := by decide +kernel
theorem dX2_init_28 : decode cX2_init 28 = .ok (.invokespecial 17, 3) := by decide +kernel
theorem dX2_init_31 : decode cX2_init 31 = .ok (.aastore, 1) := by decide +kernel
theorem dX2_init_32 : decode cX2_init 32 = .ok (.iinc 1 1, 3) := by decide +kernel
theorem dX2_init_35 : decode cX2_init 35 = .ok (.goto (-21), 3) := by decide +kernel
theorem dX2_init_38 : decode cX2_init 38 = .ok (.return_, 1) := by decide +kernel
theorem dX2_record_0 : decode cX2_record 0 = .ok (.aload_n 0, 1) := by decide +kernel
theorem dX2_record_1 : decode cX2_record 1 = .ok (.getfield 18, 3) := by decide +kernel
theorem dX2_record_4 : decode cX2_record 4 = .ok (.ifCond .lt 23, 3) := by decide +kernel
theorem dX2_record_7 : decode cX2_record 7 = .ok (.aload_n 0, 1) := by decide +kernel
theorem dX2_record_8 : decode cX2_record 8 = .ok (.getfield 18, 3) := by decide +kernel
theorem dX2_record_11 : decode cX2_record 11 = .ok (.iconst 5, 1) := by decide +kernel
theorem dX2_record_12 : decode cX2_record 12 = .ok (.if_icmp .ge 15, 3) := by decide +kernel
theorem dX2_record_15 : decode cX2_record 15 = .ok (.aload_n 0, 1) := by decide +kernel
theorem dX2_record_16 : decode cX2_record 16 = .ok (.getfield 11, 3) := by decide +kernel
theorem dX2_record_19 : decode cX2_record 19 = .ok (.aload_n 0, 1) := by decide +kernel
theorem dX2_record_20 : decode cX2_record 20 = .ok (.getfield 18, 3) := by decide +kernel
theorem dX2_record_23 : decode cX2_record 23 = .ok (.aaload, 1) := by decide +kernel
theorem dX2_record_24 : decode cX2_record 24 = .ok (.ifnonnull 4, 3) := by decide +kernel
theorem dX2_record_27 : decode cX2_record 27 = .ok (.return_, 1) := by decide +kernel
theorem dX2_record_28 : decode cX2_record 28 = .ok (.aload_n 0, 1) := by decide +kernel
theorem dX2_record_29 : decode cX2_record 29 = .ok (.getfield 11, 3) := by decide +kernel
theorem dX2_record_32 : decode cX2_record 32 = .ok (.aload_n 0, 1) := by decide +kernel
theorem dX2_record_33 : decode cX2_record 33 = .ok (.getfield 18, 3) := by decide +kernel
theorem dX2_record_36 : decode cX2_record 36 = .ok (.aaload, 1) := by decide +kernel
theorem dX2_record_37 : decode cX2_record 37 = .ok (.aload_n 1, 1) := by decide +kernel
theorem dX2_record_38 : decode cX2_record 38 = .ok (.invokevirtual 22, 3) := by decide +kernel
theorem dX2_record_41 : decode cX2_record 41 = .ok (.aload_n 0, 1) := by decide +kernel
theorem dX2_record_42 : decode cX2_record 42 = .ok (.aload_n 0, 1) := by decide +kernel
theorem dX2_record_43 : decode cX2_record 43 = .ok (.getfield 18, 3) := by decide +kernel
theorem dX2_record_46 : decode cX2_record 46 = .ok (.iconst 1, 1) := by decide +kernel
theorem dX2_record_47 : decode cX2_record 47 = .ok (.iadd, 1) := by decide +kernel
theorem dX2_record_48 : decode cX2_record 48 = .ok (.iconst 5, 1) := by decide +kernel
theorem dX2_record_49 : decode cX2_record 49 = .ok (.if_icmp .ge 12, 3) := by decide +kernel
theorem dX2_record_52 : decode cX2_record 52 = .ok (.aload_n 0, 1) := by decide +kernel
theorem dX2_record_53 : decode cX2_record 53 = .ok (.getfield 18, 3) := by decide +kernel
theorem dX2_record_56 : decode cX2_record 56 = .ok (.iconst 1, 1) := by decide +kernel
theorem dX2_record_57 : decode cX2_record 57 = .ok (.iadd, 1) := by decide +kernel
theorem dX2_record_58 : decode cX2_record 58 = .ok (.goto 4, 3) := by decide +kernel
theorem dX2_record_61 : decode cX2_record 61 = .ok (.iconst 0, 1) := by decide +kernel
theorem dX2_record_62 : decode cX2_record 62 = .ok (.putfield 18, 3) := by decide +kernel
theorem dX2_record_65 : decode cX2_record 65 = .ok (.aload_n 0, 1) := by decide +kernel
theorem dX2_record_66 : decode cX2_record 66 = .ok (.aload_n 0, 1) := by decide +kernel
theorem dX2_record_67 : decode cX2_record 67 = .ok (.getfield 26, 3) := by decide +kernel
theorem dX2_record_70 : decode cX2_record 70 = .ok (.iconst 1, 1) := by decide +kernel
theorem dX2_record_71 : decode cX2_record 71 = .ok (.iadd, 1) := by decide +kernel
theorem dX2_record_72 : decode cX2_record 72 = .ok (.iconst 5, 1) := by decide +kernel
theorem dX2_record_73 : decode cX2_record 73 = .ok (.invokestatic 29, 3) := by decide +kernel
theorem dX2_record_76 : decode cX2_record 76 = .ok (.putfield 26, 3) := by decide +kernel
theorem dX2_record_79 : decode cX2_record 79 = .ok (.return_, 1) := by decide +kernel
theorem dX2_restore_0 : decode cX2_restore 0 = .ok (.aload_n 0, 1) := by decide +kernel
theorem dX2_restore_1 : decode cX2_restore 1 = .ok (.getfield 18, 3) := by decide +kernel
theorem dX2_restore_4 : decode cX2_restore 4 = .ok (.ifCond .le 12, 3) := by decide +kernel
theorem dX2_restore_7 : decode cX2_restore 7 = .ok (.aload_n 0, 1) := by decide +kernel
theorem dX2_restore_8 : decode cX2_restore 8 = .ok (.getfield 18, 3) := by decide +kernel
theorem dX2_restore_11 : decode cX2_restore 11 = .ok (.iconst 1, 1) := by decide +kernel
theorem dX2_restore_12 : decode cX2_restore 12 = .ok (.isub, 1) := by decide +kernel
theorem dX2_restore_13 : decode cX2_restore 13 = .ok (.goto 4, 3) := by decide +kernel
theorem dX2_restore_16 : decode cX2_restore 16 = .ok (.iconst 4, 1) := by decide +kernel
theorem dX2_restore_17 : decode cX2_restore 17 = .ok (.istore_n 2, 1) := by decide +kernel
theorem dX2_restore_18 : decode cX2_restore 18 = .ok (.aload_n 0, 1) := by decide +kernel
theorem dX2_restore_19 : decode cX2_restore 19 = .ok (.getfield 26, 3) := by decide +kernel
theorem dX2_restore_22 : decode cX2_restore 22 = .ok (.ifCond .eq 17, 3) := by decide +kernel
theorem dX2_restore_25 : decode cX2_restore 25 = .ok (.iload_n 2, 1) := by decide +kernel
theorem dX2_restore_26 : decode cX2_restore 26 = .ok (.iconst 5, 1) := by decide +kernel
theorem dX2_restore_27 : decode cX2_restore 27 = .ok (.if_icmp .ge 12, 3) := by decide +kernel
theorem dX2_restore_30 : decode cX2_restore 30 = .ok (.aload_n 0, 1) := by decide +kernel
theorem dX2_restore_31 : decode cX2_restore 31 = .ok (.getfield 11, 3) := by decide +kernel
theorem dX2_restore_34 : decode cX2_restore 34 = .ok (.iload_n 2, 1) := by decide +kernel
theorem dX2_restore_35 : decode cX2_restore 35 = .ok (.aaload, 1) := by decide +kernel
theorem dX2_restore_36 : decode cX2_restore 36 = .ok (.ifnonnull 5, 3) := by decide +kernel
theorem dX2_restore_39 : decode cX2_restore 39 = .ok (.iconst 0, 1) := by decide +kernel
theorem dX2_restore_40 : decode cX2_restore 40 = .ok (.ireturn, 1) := by decide +kernel
theorem dX2_restore_41 : decode cX2_restore 41 = .ok (.aload_n 1, 1) := by decide +kernel
theorem dX2_restore_42 : decode cX2_restore 42 = .ok (.aload_n 0, 1) := by decide +kernel
theorem dX2_restore_43 : decode cX2_restore 43 = .ok (.getfield 11, 3) := by decide +kernel
theorem dX2_restore_46 : decode cX2_restore 46 = .ok (.iload_n 2, 1) := by decide +kernel
theorem dX2_restore_47 : decode cX2_restore 47 = .ok (.aaload, 1) := by decide +kernel
theorem dX2_restore_48 : decode cX2_restore 48 = .ok (.invokevirtual 22, 3) := by decide +kernel
theorem dX2_restore_51 : decode cX2_restore 51 = .ok (.aload_n 0, 1) := by decide +kernel
theorem dX2_restore_52 : decode cX2_restore 52 = .ok (.iload_n 2, 1) := by decide +kernel
theorem dX2_restore_53 : decode cX2_restore 53 = .ok (.putfield 18, 3) := by decide +kernel
theorem dX2_restore_56 : decode cX2_restore 56 = .ok (.aload_n 0, 1) := by decide +kernel
theorem dX2_restore_57 : decode cX2_restore 57 = .ok (.dup, 1) := by decide +kernel
theorem dX2_restore_58 : decode cX2_restore 58 = .ok (.getfield 26, 3) := by decide +kernel
theorem dX2_restore_61 : decode cX2_restore 61 = .ok (.iconst 1, 1) := by decide +kernel
theorem dX2_restore_62 : decode cX2_restore 62 = .ok (.isub, 1) := by decide +kernel
theorem dX2_restore_63 : decode cX2_restore 63 = .ok (.putfield 26, 3) := by decide +kernel
theorem dX2_restore_66 : decode cX2_restore 66 = .ok (.iconst 1, 1) := by decide +kernel
theorem dX2_restore_67 : decode cX2_restore 67 = .ok (.ireturn, 1) := by decide +kernel
theorem dX3_init_0 : decode cX3_init 0 = .ok (.aload_n 0, 1) := by decide +kernel
theorem dX3_init_1 : decode cX3_init 1 = .ok (.invokespecial 3, 3) := by decide +kernel
theorem dX3_init_4 : decode cX3_init 4 = .ok (.return_, 1) := by decide +kernel
theorem dX3_suffices_0 : decode cX3_suffices 0 = .ok (.aload_n 0, 1) := by decide +kernel
theorem dX3_suffices_1 : decode cX3_suffices 1 = .ok (.bipush (-7), 2) := by decide +kernel
theorem dX3_suffices_3 : decode cX3_suffices 3 = .ok (.putfield 9, 3) := by decide +kernel
theorem dX3_suffices_6 : decode cX3_suffices 6 = .ok (.aload_n 0, 1) := by decide +kernel
theorem dX3_suffices_7 : decode cX3_suffices 7 = .ok (.bipush (-7), 2) := by decide +kernel
theorem dX3_suffices_9 : decode cX3_suffices 9 = .ok (.putfield 15, 3) := by decide +kernel
theorem dX3_suffices_12 : decode cX3_suffices 12 = .ok (.aload_n 0, 1) := by decide +kernel
theorem dX3_suffices_13 : decode cX3_suffices 13 = .ok (.aload_n 0, 1) := by decide +kernel
theorem dX3_suffices_14 : decode cX3_suffices 14 = .ok (.aload_n 1, 1) := by decide +kernel
theorem dX3_suffices_15 : decode cX3_suffices 15 = .ok (.iload_n 2, 1) := by decide +kernel
theorem dX3_suffices_16 : decode cX3_suffices 16 = .ok (.iconst 0, 1) := by decide +kernel
theorem dX3_suffices_17 : decode cX3_suffices 17 = .ok (.invokevirtual 18, 3) := by decide +kernel
theorem dX3_suffices_20 : decode cX3_suffices 20 = .ok (.putfield 22, 3) := by decide +kernel
theorem dX3_suffices_23 : decode cX3_suffices 23 = .ok (.aload_n 0, 1) := by decide +kernel
theorem dX3_suffices_24 : decode cX3_suffices 24 = .ok (.getfield 9, 3) := by decide +kernel
theorem dX3_suffices_27 : decode cX3_suffices 27 = .ok (.bipush (-7), 2) := by decide +kernel
theorem dX3_suffices_29 : decode cX3_suffices 29 = .ok (.if_icmp .ne 7, 3) := by decide +kernel
theorem dX3_suffices_32 : decode cX3_suffices 32 = .ok (.iconst 1, 1) := by decide +kernel
theorem dX3_suffices_33 : decode cX3_suffices 33 = .ok (.goto 4, 3) := by decide +kernel
theorem dX3_suffices_36 : decode cX3_suffices 36 = .ok (.iconst 0, 1) := by decide +kernel
theorem dX3_suffices_37 : decode cX3_suffices 37 = .ok (.ireturn, 1) := by decide +kernel
theorem dX3_readOver_0 : decode cX3_readOver 0 = .ok (.aload_n 1, 1) := by decide +kernel
theorem dX3_readOver_1 : decode cX3_readOver 1 = .ok (.ifnonnull 5, 3) := by decide +kernel
theorem dX3_readOver_4 : decode cX3_readOver 4 = .ok (.iload_n 2, 1) := by decide +kernel
theorem dX3_readOver_5 : decode cX3_readOver 5 = .ok (.ireturn, 1) := by decide +kernel
theorem dX3_readOver_6 : decode cX3_readOver 6 = .ok (.aload_n 1, 1) := by decide +kernel
theorem dX3_readOver_7 : decode cX3_readOver 7 = .ok (.getfield 25, 3) := by decide +kernel
theorem dX3_readOver_10 : decode cX3_readOver 10 = .ok (.tableswitch 82 0 6 #[42, 42, 42, 62, 50, 62, 73], 42) := by decide +kernel
theorem dX3_readOver_52 : decode cX3_readOver 52 = .ok (.aload_n 0, 1) := by decide +kernel
theorem dX3_readOver_53 : decode cX3_readOver 53 = .ok (.aload_n 1, 1) := by decide +kernel
theorem dX3_readOver_54 : decode cX3_readOver 54 = .ok (.iload_n 2, 1) := by decide +kernel
theorem dX3_readOver_55 : decode cX3_readOver 55 = .ok (.iload_n 3, 1) := by decide +kernel
theorem dX3_readOver_56 : decode cX3_readOver 56 = .ok (.invokevirtual 30, 3) := by decide +kernel
theorem dX3_readOver_59 : decode cX3_readOver 59 = .ok (.ireturn, 1) := by decide +kernel
theorem dX3_readOver_60 : decode cX3_readOver 60 = .ok (.aload_n 0, 1) := by decide +kernel
theorem dX3_readOver_61 : decode cX3_readOver 61 = .ok (.aload_n 1, 1) := by decide +kernel
theorem dX3_readOver_62 : decode cX3_readOver 62 = .ok (.iload_n 2, 1) := by decide +kernel
theorem dX3_readOver_63 : decode cX3_readOver 63 = .ok (.iload_n 3, 1) := by decide +kernel
theorem dX3_readOver_64 : decode cX3_readOver 64 = .ok (.iconst 1, 1) := by decide +kernel
theorem dX3_readOver_65 : decode cX3_readOver 65 = .ok (.iadd, 1) := by decide +kernel
theorem dX3_readOver_66 : decode cX3_readOver 66 = .ok (.invokevirtual 30, 3) := by decide +kernel
theorem dX3_readOver_69 : decode cX3_readOver 69 = .ok (.pop, 1) := by decide +kernel
theorem dX3_readOver_70 : decode cX3_readOver 70 = .ok (.iload_n 2, 1) := by decide +kernel
theorem dX3_readOver_71 : decode cX3_readOver 71 = .ok (.ireturn, 1) := by decide +kernel
theorem dX3_readOver_72 : decode cX3_readOver 72 = .ok (.aload_n 0, 1) := by decide +kernel
theorem dX3_readOver_73 : decode cX3_readOver 73 = .ok (.aload_n 1, 1) := by decide +kernel
theorem dX3_readOver_74 : decode cX3_readOver 74 = .ok (.iload_n 2, 1) := by decide +kernel
theorem dX3_readOver_75 : decode cX3_readOver 75 = .ok (.iload_n 3, 1) := by decide +kernel
theorem dX3_readOver_76 : decode cX3_readOver 76 = .ok (.iconst 1, 1) := by decide +kernel
theorem dX3_readOver_77 : decode cX3_readOver 77 = .ok (.iadd, 1) := by decide +kernel
theorem dX3_readOver_78 : decode cX3_readOver 78 = .ok (.invokevirtual 33, 3) := by decide +kernel
theorem dX3_readOver_81 : decode cX3_readOver 81 = .ok (.iload_n 2, 1) := by decide +kernel
theorem dX3_readOver_82 : decode cX3_readOver 82 = .ok (.ireturn, 1) := by decide +kernel
theorem dX3_readOver_83 : decode cX3_readOver 83 = .ok (.iload_n 2, 1) := by decide +kernel
theorem dX3_readOver_84 : decode cX3_readOver 84 = .ok (.iconst 1, 1) := by decide +kernel
theorem dX3_readOver_85 : decode cX3_readOver 85 = .ok (.aload_n 1, 1) := by decide +kernel
theorem dX3_readOver_86 : decode cX3_readOver 86 = .ok (.getfield 37, 3) := by decide +kernel
theorem dX3_readOver_89 : decode cX3_readOver 89 = .ok (.ishl, 1) := by decide +kernel
theorem dX3_readOver_90 : decode cX3_readOver 90 = .ok (.ior, 1) := by decide +kernel
theorem dX3_readOver_91 : decode cX3_readOver 91 = .ok (.ireturn, 1) := by decide +kernel
theorem dX3_readOver_92 : decode cX3_readOver 92 = .ok (.aload_n 0, 1) := by decide +kernel
theorem dX3_readOver_93 : decode cX3_readOver 93 = .ok (.aload_n 1, 1) := by decide +kernel
theorem dX3_readOver_94 : decode cX3_readOver 94 = .ok (.getfield 37, 3) := by decide +kernel
theorem dX3_readOver_97 : decode cX3_readOver 97 = .ok (.aload_n 1, 1) := by decide +kernel
theorem dX3_readOver_98 : decode cX3_readOver 98 = .ok (.getfield 40, 3) := by decide +kernel
theorem dX3_readOver_101 : decode cX3_readOver 101 = .ok (.iload_n 2, 1) := by decide +kernel
theorem dX3_readOver_102 : decode cX3_readOver 102 = .ok (.iload_n 3, 1) := by decide +kernel
theorem dX3_readOver_103 : decode cX3_readOver 103 = .ok (.invokevirtual 43, 3) := by decide +kernel
theorem dX3_readOver_106 : decode cX3_readOver 106 = .ok (.aload_n 0, 1) := by decide +kernel
theorem dX3_readOver_107 : decode cX3_readOver 107 = .ok (.aload_n 1, 1) := by decide +kernel
theorem dX3_readOver_108 : decode cX3_readOver 108 = .ok (.getfield 47, 3) := by decide +kernel
theorem dX3_readOver_111 : decode cX3_readOver 111 = .ok (.aload_n 1, 1) := by decide +kernel
theorem dX3_readOver_112 : decode cX3_readOver 112 = .ok (.getfield 50, 3) := by decide +kernel
theorem dX3_readOver_115 : decode cX3_readOver 115 = .ok (.iload_n 2, 1) := by decide +kernel
theorem dX3_readOver_116 : decode cX3_readOver 116 = .ok (.iload_n 3, 1) := by decide +kernel
theorem dX3_readOver_117 : decode cX3_readOver 117 = .ok (.invokevirtual 43, 3) := by decide +kernel
theorem dX3_readOver_120 : decode cX3_readOver 120 = .ok (.iload_n 2, 1) := by decide +kernel
theorem dX3_readOver_121 : decode cX3_readOver 121 = .ok (.ireturn, 1) := by decide +kernel
theorem dX3_readChain_0 : decode cX3_readChain 0 = .ok (.iload_n 2, 1) := by decide +kernel
theorem dX3_readChain_1 : decode cX3_readChain 1 = .ok (.istore 4, 2) := by decide +kernel
theorem dX3_readChain_3 : decode cX3_readChain 3 = .ok (.aload_n 1, 1) := by decide +kernel
theorem dX3_readChain_4 : decode cX3_readChain 4 = .ok (.getfield 53, 3) := by decide +kernel
theorem dX3_readChain_7 : decode cX3_readChain 7 = .ok (.astore 5, 2) := by decide +kernel
theorem dX3_readChain_9 : decode cX3_readChain 9 = .ok (.aload 5, 2) := by decide +kernel
theorem dX3_readChain_11 : decode cX3_readChain 11 = .ok (.ifnull 24, 3) := by decide +kernel
theorem dX3_readChain_14 : decode cX3_readChain 14 = .ok (.aload_n 0, 1) := by decide +kernel
theorem dX3_readChain_15 : decode cX3_readChain 15 = .ok (.aload 5, 2) := by decide +kernel
theorem dX3_readChain_17 : decode cX3_readChain 17 = .ok (.iload 4, 2) := by decide +kernel
theorem dX3_readChain_19 : decode cX3_readChain 19 = .ok (.iload_n 3, 1) := by decide +kernel
theorem dX3_readChain_20 : decode cX3_readChain 20 = .ok (.invokevirtual 18, 3) := by decide +kernel
theorem dX3_readChain_23 : decode cX3_readChain 23 = .ok (.istore 4, 2) := by decide +kernel
theorem dX3_readChain_25 : decode cX3_readChain 25 = .ok (.aload 5, 2) := by decide +kernel
theorem dX3_readChain_27 : decode cX3_readChain 27 = .ok (.getfield 57, 3) := by decide +kernel
theorem dX3_readChain_30 : decode cX3_readChain 30 = .ok (.astore 5, 2) := by decide +kernel
theorem dX3_readChain_32 : decode cX3_readChain 32 = .ok (.goto (-23), 3) := by decide +kernel
theorem dX3_readChain_35 : decode cX3_readChain 35 = .ok (.iload 4, 2) := by decide +kernel
theorem dX3_readChain_37 : decode cX3_readChain 37 = .ok (.ireturn, 1) := by decide +kernel
theorem dX3_readEach_0 : decode cX3_readEach 0 = .ok (.aload_n 1, 1) := by decide +kernel
theorem dX3_readEach_1 : decode cX3_readEach 1 = .ok (.getfield 53, 3) := by decide +kernel
theorem dX3_readEach_4 : decode cX3_readEach 4 = .ok (.astore 4, 2) := by decide +kernel
theorem dX3_readEach_6 : decode cX3_readEach 6 = .ok (.aload 4, 2) := by decide +kernel
theorem dX3_readEach_8 : decode cX3_readEach 8 = .ok (.ifnull 22, 3) := by decide +kernel
theorem dX3_readEach_11 : decode cX3_readEach 11 = .ok (.aload_n 0, 1) := by decide +kernel
theorem dX3_readEach_12 : decode cX3_readEach 12 = .ok (.aload 4, 2) := by decide +kernel
theorem dX3_readEach_14 : decode cX3_readEach 14 = .ok (.iload_n 2, 1) := by decide +kernel
theorem dX3_readEach_15 : decode cX3_readEach 15 = .ok (.iload_n 3, 1) := by decide +kernel
theorem dX3_readEach_16 : decode cX3_readEach 16 = .ok (.invokevirtual 18, 3) := by decide +kernel
theorem dX3_readEach_19 : decode cX3_readEach 19 = .ok (.pop, 1) := by decide +kernel
theorem dX3_readEach_20 : decode cX3_readEach 20 = .ok (.aload 4, 2) := by decide +kernel
theorem dX3_readEach_22 : decode cX3_readEach 22 = .ok (.getfield 57, 3) := by decide +kernel
theorem dX3_readEach_25 : decode cX3_readEach 25 = .ok (.astore 4, 2) := by decide +kernel
theorem dX3_readEach_27 : decode cX3_readEach 27 = .ok (.goto (-21), 3) := by decide +kernel
theorem dX3_readEach_30 : decode cX3_readEach 30 = .ok (.return_, 1) := by decide +kernel
theorem dX3_look_0 : decode cX3_look 0 = .ok (.aload_n 0, 1) := by decide +kernel
theorem dX3_look_1 : decode cX3_look 1 = .ok (.getfield 9, 3) := by decide +kernel
theorem dX3_look_4 : decode cX3_look 4 = .ok (.bipush (-7), 2) := by decide +kernel
theorem dX3_look_6 : decode cX3_look 6 = .ok (.if_icmp .ne 22, 3) := by decide +kernel
theorem dX3_look_9 : decode cX3_look 9 = .ok (.iload_n 3, 1) := by decide +kernel
theorem dX3_look_10 : decode cX3_look 10 = .ok (.iload_n 1, 1) := by decide +kernel
theorem dX3_look_11 : decode cX3_look 11 = .ok (.iushr, 1) := by decide +kernel
theorem dX3_look_12 : decode cX3_look 12 = .ok (.iconst 1, 1) := by decide +kernel
theorem dX3_look_13 : decode cX3_look 13 = .ok (.iand, 1) := by decide +kernel
theorem dX3_look_14 : decode cX3_look 14 = .ok (.ifCond .ne 14, 3) := by decide +kernel
theorem dX3_look_17 : decode cX3_look 17 = .ok (.aload_n 0, 1) := by decide +kernel
theorem dX3_look_18 : decode cX3_look 18 = .ok (.iload_n 2, 1) := by decide +kernel
theorem dX3_look_19 : decode cX3_look 19 = .ok (.putfield 9, 3) := by decide +kernel
theorem dX3_look_22 : decode cX3_look 22 = .ok (.aload_n 0, 1) := by decide +kernel
theorem dX3_look_23 : decode cX3_look 23 = .ok (.iload 4, 2) := by decide +kernel
theorem dX3_look_25 : decode cX3_look 25 = .ok (.putfield 15, 3) := by decide +kernel
theorem dX3_look_28 : decode cX3_look 28 = .ok (.return_, 1) := by decide +kernel
theorem dX4_init_0 : decode cX4_init 0 = .ok (.aload_n 0, 1) := by decide +kernel
theorem dX4_init_1 : decode cX4_init 1 = .ok (.invokespecial 3, 3) := by decide +kernel
theorem dX4_init_4 : decode cX4_init 4 = .ok (.aload_n 0, 1) := by decide +kernel
theorem dX4_init_5 : decode cX4_init 5 = .ok (.aload_n 1, 1) := by decide +kernel
theorem dX4_init_6 : decode cX4_init 6 = .ok (.putfield 9, 3) := by decide +kernel
theorem dX4_init_9 : decode cX4_init 9 = .ok (.return_, 1) := by decide +kernel
theorem dX4_turn_0 : decode cX4_turn 0 = .ok (.aload_n 1, 1) := by decide +kernel
theorem dX4_turn_1 : decode cX4_turn 1 = .ok (.ifnonnull 4, 3) := by decide +kernel
theorem dX4_turn_4 : decode cX4_turn 4 = .ok (.return_, 1) := by decide +kernel
theorem dX4_turn_5 : decode cX4_turn 5 = .ok (.aload_n 1, 1) := by decide +kernel
theorem dX4_turn_6 : decode cX4_turn 6 = .ok (.getfield 15, 3) := by decide +kernel
theorem dX4_turn_9 : decode cX4_turn 9 = .ok (.tableswitch 133 0 11 #[63, 63, 63, 106, 115, 83, 73, 124, 133, 133, 133, 124], 63) := by decide +kernel
theorem dX4_turn_72 : decode cX4_turn 72 = .ok (.aload_n 0, 1) := by decide +kernel
theorem dX4_turn_73 : decode cX4_turn 73 = .ok (.aload_n 1, 1) := by decide +kernel
theorem dX4_turn_74 : decode cX4_turn 74 = .ok (.aload_n 2, 1) := by decide +kernel
theorem dX4_turn_75 : decode cX4_turn 75 = .ok (.iload_n 3, 1) := by decide +kernel
theorem dX4_turn_76 : decode cX4_turn 76 = .ok (.invokevirtual 21, 3) := by decide +kernel
theorem dX4_turn_79 : decode cX4_turn 79 = .ok (.goto 69, 3) := by decide +kernel
theorem dX4_turn_82 : decode cX4_turn 82 = .ok (.aload_n 0, 1) := by decide +kernel
theorem dX4_turn_83 : decode cX4_turn 83 = .ok (.aload_n 1, 1) := by decide +kernel
theorem dX4_turn_84 : decode cX4_turn 84 = .ok (.aload_n 2, 1) := by decide +kernel
theorem dX4_turn_85 : decode cX4_turn 85 = .ok (.iload_n 3, 1) := by decide +kernel
theorem dX4_turn_86 : decode cX4_turn 86 = .ok (.invokevirtual 25, 3) := by decide +kernel
theorem dX4_turn_89 : decode cX4_turn 89 = .ok (.goto 59, 3) := by decide +kernel
theorem dX4_turn_92 : decode cX4_turn 92 = .ok (.aload_n 0, 1) := by decide +kernel
theorem dX4_turn_93 : decode cX4_turn 93 = .ok (.aload_n 1, 1) := by decide +kernel
theorem dX4_turn_94 : decode cX4_turn 94 = .ok (.getfield 28, 3) := by decide +kernel
theorem dX4_turn_97 : decode cX4_turn 97 = .ok (.aload_n 1, 1) := by decide +kernel
theorem dX4_turn_98 : decode cX4_turn 98 = .ok (.getfield 32, 3) := by decide +kernel
theorem dX4_turn_101 : decode cX4_turn 101 = .ok (.invokevirtual 36, 3) := by decide +kernel
theorem dX4_turn_104 : decode cX4_turn 104 = .ok (.aload_n 2, 1) := by decide +kernel
theorem dX4_turn_105 : decode cX4_turn 105 = .ok (.aload_n 1, 1) := by decide +kernel
theorem dX4_turn_106 : decode cX4_turn 106 = .ok (.getfield 32, 3) := by decide +kernel
theorem dX4_turn_109 : decode cX4_turn 109 = .ok (.invokevirtual 40, 3) := by decide +kernel
theorem dX4_turn_112 : decode cX4_turn 112 = .ok (.goto 36, 3) := by decide +kernel
theorem dX4_turn_115 : decode cX4_turn 115 = .ok (.aload_n 0, 1) := by decide +kernel
theorem dX4_turn_116 : decode cX4_turn 116 = .ok (.aload_n 1, 1) := by decide +kernel
theorem dX4_turn_117 : decode cX4_turn 117 = .ok (.aload_n 2, 1) := by decide +kernel
theorem dX4_turn_118 : decode cX4_turn 118 = .ok (.invokevirtual 46, 3) := by decide +kernel
theorem dX4_turn_121 : decode cX4_turn 121 = .ok (.goto 27, 3) := by decide +kernel
theorem dX4_turn_124 : decode cX4_turn 124 = .ok (.aload_n 0, 1) := by decide +kernel
theorem dX4_turn_125 : decode cX4_turn 125 = .ok (.aload_n 1, 1) := by decide +kernel
theorem dX4_turn_126 : decode cX4_turn 126 = .ok (.aload_n 2, 1) := by decide +kernel
theorem dX4_turn_127 : decode cX4_turn 127 = .ok (.invokevirtual 49, 3) := by decide +kernel
theorem dX4_turn_130 : decode cX4_turn 130 = .ok (.goto 18, 3) := by decide +kernel
theorem dX4_turn_133 : decode cX4_turn 133 = .ok (.aload_n 0, 1) := by decide +kernel
theorem dX4_turn_134 : decode cX4_turn 134 = .ok (.aload_n 1, 1) := by decide +kernel
theorem dX4_turn_135 : decode cX4_turn 135 = .ok (.aload_n 2, 1) := by decide +kernel
theorem dX4_turn_136 : decode cX4_turn 136 = .ok (.invokevirtual 52, 3) := by decide +kernel
theorem dX4_turn_139 : decode cX4_turn 139 = .ok (.goto 9, 3) := by decide +kernel
theorem dX4_turn_142 : decode cX4_turn 142 = .ok (.aload_n 0, 1) := by decide +kernel
theorem dX4_turn_143 : decode cX4_turn 143 = .ok (.aload_n 1, 1) := by decide +kernel
theorem dX4_turn_144 : decode cX4_turn 144 = .ok (.aload_n 2, 1) := by decide +kernel
theorem dX4_turn_145 : decode cX4_turn 145 = .ok (.invokevirtual 55, 3) := by decide +kernel
theorem dX4_turn_148 : decode cX4_turn 148 = .ok (.return_, 1) := by decide +kernel
theorem dX4_findSupporting_0 : decode cX4_findSupporting 0 = .ok (.aload_n 2, 1) := by decide +kernel
theorem dX4_findSupporting_1 : decode cX4_findSupporting 1 = .ok (.ldc2_w 58, 3) := by decide +kernel
theorem dX4_findSupporting_4 : decode cX4_findSupporting 4 = .ok (.invokevirtual 60, 3) := by decide +kernel
theorem dX4_findSupporting_7 : decode cX4_findSupporting 7 = .ok (.aload_n 0, 1) := by decide +kernel
theorem dX4_findSupporting_8 : decode cX4_findSupporting 8 = .ok (.aload_n 1, 1) := by decide +kernel
theorem dX4_findSupporting_9 : decode cX4_findSupporting 9 = .ok (.aload_n 2, 1) := by decide +kernel
theorem dX4_findSupporting_10 : decode cX4_findSupporting 10 = .ok (.iconst 1, 1) := by decide +kernel
theorem dX4_findSupporting_11 : decode cX4_findSupporting 11 = .ok (.invokevirtual 64, 3) := by decide +kernel
theorem dX4_findSupporting_14 : decode cX4_findSupporting 14 = .ok (.return_, 1) := by decide +kernel
theorem dX4_turnByChain_0 : decode cX4_turnByChain 0 = .ok (.iload_n 3, 1) := by decide +kernel
theorem dX4_turnByChain_1 : decode cX4_turnByChain 1 = .ok (.ifCond .eq 10, 3) := by decide +kernel
theorem dX4_turnByChain_4 : decode cX4_turnByChain 4 = .ok (.aload_n 1, 1) := by decide +kernel
theorem dX4_turnByChain_5 : decode cX4_turnByChain 5 = .ok (.getfield 67, 3) := by decide +kernel
theorem dX4_turnByChain_8 : decode cX4_turnByChain 8 = .ok (.goto 7, 3) := by decide +kernel
theorem dX4_turnByChain_11 : decode cX4_turnByChain 11 = .ok (.aload_n 1, 1) := by decide +kernel
theorem dX4_turnByChain_12 : decode cX4_turnByChain 12 = .ok (.getfield 28, 3) := by decide +kernel
theorem dX4_turnByChain_15 : decode cX4_turnByChain 15 = .ok (.astore 4, 2) := by decide +kernel
theorem dX4_turnByChain_17 : decode cX4_turnByChain 17 = .ok (.aload 4, 2) := by decide +kernel
theorem dX4_turnByChain_19 : decode cX4_turnByChain 19 = .ok (.ifnull 33, 3) := by decide +kernel
theorem dX4_turnByChain_22 : decode cX4_turnByChain 22 = .ok (.aload_n 0, 1) := by decide +kernel
theorem dX4_turnByChain_23 : decode cX4_turnByChain 23 = .ok (.aload 4, 2) := by decide +kernel
theorem dX4_turnByChain_25 : decode cX4_turnByChain 25 = .ok (.aload_n 2, 1) := by decide +kernel
theorem dX4_turnByChain_26 : decode cX4_turnByChain 26 = .ok (.iload_n 3, 1) := by decide +kernel
theorem dX4_turnByChain_27 : decode cX4_turnByChain 27 = .ok (.invokevirtual 64, 3) := by decide +kernel
theorem dX4_turnByChain_30 : decode cX4_turnByChain 30 = .ok (.iload_n 3, 1) := by decide +kernel
theorem dX4_turnByChain_31 : decode cX4_turnByChain 31 = .ok (.ifCond .eq 11, 3) := by decide +kernel
theorem dX4_turnByChain_34 : decode cX4_turnByChain 34 = .ok (.aload 4, 2) := by decide +kernel
theorem dX4_turnByChain_36 : decode cX4_turnByChain 36 = .ok (.getfield 70, 3) := by decide +kernel
theorem dX4_turnByChain_39 : decode cX4_turnByChain 39 = .ok (.goto 8, 3) := by decide +kernel
theorem dX4_turnByChain_42 : decode cX4_turnByChain 42 = .ok (.aload 4, 2) := by decide +kernel
theorem dX4_turnByChain_44 : decode cX4_turnByChain 44 = .ok (.getfield 73, 3) := by decide +kernel
theorem dX4_turnByChain_47 : decode cX4_turnByChain 47 = .ok (.astore 4, 2) := by decide +kernel
theorem dX4_turnByChain_49 : decode cX4_turnByChain 49 = .ok (.goto (-32), 3) := by decide +kernel
theorem dX4_turnByChain_52 : decode cX4_turnByChain 52 = .ok (.return_, 1) := by decide +kernel
theorem dX4_turnBySome_0 : decode cX4_turnBySome 0 = .ok (.iconst 1, 1) := by decide +kernel
theorem dX4_turnBySome_1 : decode cX4_turnBySome 1 = .ok (.aload_n 0, 1) := by decide +kernel
theorem dX4_turnBySome_2 : decode cX4_turnBySome 2 = .ok (.getfield 9, 3) := by decide +kernel
theorem dX4_turnBySome_5 : decode cX4_turnBySome 5 = .ok (.invokevirtual 76, 3) := by decide +kernel
theorem dX4_turnBySome_8 : decode cX4_turnBySome 8 = .ok (.iconst 1, 1) := by decide +kernel
theorem dX4_turnBySome_9 : decode cX4_turnBySome 9 = .ok (.iadd, 1) := by decide +kernel
theorem dX4_turnBySome_10 : decode cX4_turnBySome 10 = .ok (.ishl, 1) := by decide +kernel
theorem dX4_turnBySome_11 : decode cX4_turnBySome 11 = .ok (.iconst 2, 1) := by decide +kernel
theorem dX4_turnBySome_12 : decode cX4_turnBySome 12 = .ok (.isub, 1) := by decide +kernel
theorem dX4_turnBySome_13 : decode cX4_turnBySome 13 = .ok (.istore 4, 2) := by decide +kernel
theorem dX4_turnBySome_15 : decode cX4_turnBySome 15 = .ok (.iload_n 3, 1) := by decide +kernel
theorem dX4_turnBySome_16 : decode cX4_turnBySome 16 = .ok (.ifCond .eq 8, 3) := by decide +kernel
theorem dX4_turnBySome_19 : decode cX4_turnBySome 19 = .ok (.iload 4, 2) := by decide +kernel
theorem dX4_turnBySome_21 : decode cX4_turnBySome 21 = .ok (.goto 6, 3) := by decide +kernel
theorem dX4_turnBySome_24 : decode cX4_turnBySome 24 = .ok (.sipush 255, 3) := by decide +kernel
theorem dX4_turnBySome_27 : decode cX4_turnBySome 27 = .ok (.istore 5, 2) := by decide +kernel
theorem dX4_turnBySome_29 : decode cX4_turnBySome 29 = .ok (.iload_n 3, 1) := by decide +kernel
theorem dX4_turnBySome_30 : decode cX4_turnBySome 30 = .ok (.ifCond .eq 9, 3) := by decide +kernel
theorem dX4_turnBySome_33 : decode cX4_turnBySome 33 = .ok (.sipush 255, 3) := by decide +kernel
theorem dX4_turnBySome_36 : decode cX4_turnBySome 36 = .ok (.goto 5, 3) := by decide +kernel
theorem dX4_turnBySome_39 : decode cX4_turnBySome 39 = .ok (.iload 4, 2) := by decide +kernel
theorem dX4_turnBySome_41 : decode cX4_turnBySome 41 = .ok (.istore 6, 2) := by decide +kernel
theorem dX4_turnBySome_43 : decode cX4_turnBySome 43 = .ok (.aload_n 2, 1) := by decide +kernel
theorem dX4_turnBySome_44 : decode cX4_turnBySome 44 = .ok (.aload_n 1, 1) := by decide +kernel
theorem dX4_turnBySome_45 : decode cX4_turnBySome 45 = .ok (.getfield 82, 3) := by decide +kernel
theorem dX4_turnBySome_48 : decode cX4_turnBySome 48 = .ok (.iload 5, 2) := by decide +kernel
theorem dX4_turnBySome_50 : decode cX4_turnBySome 50 = .ok (.iload 6, 2) := by decide +kernel
theorem dX4_turnBySome_52 : decode cX4_turnBySome 52 = .ok (.invokevirtual 85, 3) := by decide +kernel
theorem dX4_turnBySome_55 : decode cX4_turnBySome 55 = .ok (.return_, 1) := by decide +kernel
theorem dX4_keepByChoice_0 : decode cX4_keepByChoice 0 = .ok (.aload_n 1, 1) := by decide +kernel
theorem dX4_keepByChoice_1 : decode cX4_keepByChoice 1 = .ok (.getfield 32, 3) := by decide +kernel
theorem dX4_keepByChoice_4 : decode cX4_keepByChoice 4 = .ok (.lconst 0, 1) := by decide +kernel
theorem dX4_keepByChoice_5 : decode cX4_keepByChoice 5 = .ok (.invokevirtual 60, 3) := by decide +kernel
theorem dX4_keepByChoice_8 : decode cX4_keepByChoice 8 = .ok (.aload_n 1, 1) := by decide +kernel
theorem dX4_keepByChoice_9 : decode cX4_keepByChoice 9 = .ok (.getfield 28, 3) := by decide +kernel
theorem dX4_keepByChoice_12 : decode cX4_keepByChoice 12 = .ok (.astore_n 3, 1) := by decide +kernel
theorem dX4_keepByChoice_13 : decode cX4_keepByChoice 13 = .ok (.aload_n 3, 1) := by decide +kernel
theorem dX4_keepByChoice_14 : decode cX4_keepByChoice 14 = .ok (.ifnull 31, 3) := by decide +kernel
theorem dX4_keepByChoice_17 : decode cX4_keepByChoice 17 = .ok (.aload_n 0, 1) := by decide +kernel
theorem dX4_keepByChoice_18 : decode cX4_keepByChoice 18 = .ok (.aload_n 3, 1) := by decide +kernel
theorem dX4_keepByChoice_19 : decode cX4_keepByChoice 19 = .ok (.aload_n 1, 1) := by decide +kernel
theorem dX4_keepByChoice_20 : decode cX4_keepByChoice 20 = .ok (.getfield 89, 3) := by decide +kernel
theorem dX4_keepByChoice_23 : decode cX4_keepByChoice 23 = .ok (.invokevirtual 36, 3) := by decide +kernel
theorem dX4_keepByChoice_26 : decode cX4_keepByChoice 26 = .ok (.aload_n 1, 1) := by decide +kernel
theorem dX4_keepByChoice_27 : decode cX4_keepByChoice 27 = .ok (.getfield 32, 3) := by decide +kernel
theorem dX4_keepByChoice_30 : decode cX4_keepByChoice 30 = .ok (.aload_n 1, 1) := by decide +kernel
theorem dX4_keepByChoice_31 : decode cX4_keepByChoice 31 = .ok (.getfield 89, 3) := by decide +kernel
theorem dX4_keepByChoice_34 : decode cX4_keepByChoice 34 = .ok (.invokevirtual 92, 3) := by decide +kernel
theorem dX4_keepByChoice_37 : decode cX4_keepByChoice 37 = .ok (.aload_n 3, 1) := by decide +kernel
theorem dX4_keepByChoice_38 : decode cX4_keepByChoice 38 = .ok (.getfield 73, 3) := by decide +kernel
theorem dX4_keepByChoice_41 : decode cX4_keepByChoice 41 = .ok (.astore_n 3, 1) := by decide +kernel
theorem dX4_keepByChoice_42 : decode cX4_keepByChoice 42 = .ok (.goto (-29), 3) := by decide +kernel
theorem dX4_keepByChoice_45 : decode cX4_keepByChoice 45 = .ok (.aload_n 2, 1) := by decide +kernel
theorem dX4_keepByChoice_46 : decode cX4_keepByChoice 46 = .ok (.aload_n 1, 1) := by decide +kernel
theorem dX4_keepByChoice_47 : decode cX4_keepByChoice 47 = .ok (.getfield 32, 3) := by decide +kernel
theorem dX4_keepByChoice_50 : decode cX4_keepByChoice 50 = .ok (.invokevirtual 95, 3) := by decide +kernel
theorem dX4_keepByChoice_53 : decode cX4_keepByChoice 53 = .ok (.return_, 1) := by decide +kernel
theorem dX4_keepByCondition_0 : decode cX4_keepByCondition 0 = .ok (.aload_n 1, 1) := by decide +kernel
theorem dX4_keepByCondition_1 : decode cX4_keepByCondition 1 = .ok (.getfield 32, 3) := by decide +kernel
theorem dX4_keepByCondition_4 : decode cX4_keepByCondition 4 = .ok (.astore_n 3, 1) := by decide +kernel
theorem dX4_keepByCondition_5 : decode cX4_keepByCondition 5 = .ok (.aload_n 0, 1) := by decide +kernel
theorem dX4_keepByCondition_6 : decode cX4_keepByCondition 6 = .ok (.aload_n 1, 1) := by decide +kernel
theorem dX4_keepByCondition_7 : decode cX4_keepByCondition 7 = .ok (.getfield 67, 3) := by decide +kernel
theorem dX4_keepByCondition_10 : decode cX4_keepByCondition 10 = .ok (.aload_n 3, 1) := by decide +kernel
theorem dX4_keepByCondition_11 : decode cX4_keepByCondition 11 = .ok (.invokevirtual 36, 3) := by decide +kernel
theorem dX4_keepByCondition_14 : decode cX4_keepByCondition 14 = .ok (.aload_n 3, 1) := by decide +kernel
theorem dX4_keepByCondition_15 : decode cX4_keepByCondition 15 = .ok (.invokevirtual 98, 3) := by decide +kernel
theorem dX4_keepByCondition_18 : decode cX4_keepByCondition 18 = .ok (.aload_n 0, 1) := by decide +kernel
theorem dX4_keepByCondition_19 : decode cX4_keepByCondition 19 = .ok (.aload_n 1, 1) := by decide +kernel
theorem dX4_keepByCondition_20 : decode cX4_keepByCondition 20 = .ok (.getfield 28, 3) := by decide +kernel
theorem dX4_keepByCondition_23 : decode cX4_keepByCondition 23 = .ok (.aload_n 3, 1) := by decide +kernel
theorem dX4_keepByCondition_24 : decode cX4_keepByCondition 24 = .ok (.iconst 1, 1) := by decide +kernel
theorem dX4_keepByCondition_25 : decode cX4_keepByCondition 25 = .ok (.invokevirtual 64, 3) := by decide +kernel
theorem dX4_keepByCondition_28 : decode cX4_keepByCondition 28 = .ok (.aload_n 2, 1) := by decide +kernel
theorem dX4_keepByCondition_29 : decode cX4_keepByCondition 29 = .ok (.aload_n 3, 1) := by decide +kernel
theorem dX4_keepByCondition_30 : decode cX4_keepByCondition 30 = .ok (.invokevirtual 40, 3) := by decide +kernel
theorem dX4_keepByCondition_33 : decode cX4_keepByCondition 33 = .ok (.return_, 1) := by decide +kernel
theorem dX4_keepByOne_0 : decode cX4_keepByOne 0 = .ok (.iconst 0, 1) := by decide +kernel
theorem dX4_keepByOne_1 : decode cX4_keepByOne 1 = .ok (.istore_n 3, 1) := by decide +kernel
theorem dX4_keepByOne_2 : decode cX4_keepByOne 2 = .ok (.aload_n 0, 1) := by decide +kernel
theorem dX4_keepByOne_3 : decode cX4_keepByOne 3 = .ok (.getfield 9, 3) := by decide +kernel
theorem dX4_keepByOne_6 : decode cX4_keepByOne 6 = .ok (.invokevirtual 76, 3) := by decide +kernel
theorem dX4_keepByOne_9 : decode cX4_keepByOne 9 = .ok (.istore 4, 2) := by decide +kernel
theorem dX4_keepByOne_11 : decode cX4_keepByOne 11 = .ok (.iconst 1, 1) := by decide +kernel
theorem dX4_keepByOne_12 : decode cX4_keepByOne 12 = .ok (.istore 5, 2) := by decide +kernel
theorem dX4_keepByOne_14 : decode cX4_keepByOne 14 = .ok (.iload 5, 2) := by decide +kernel
theorem dX4_keepByOne_16 : decode cX4_keepByOne 16 = .ok (.iload 4, 2) := by decide +kernel
theorem dX4_keepByOne_18 : decode cX4_keepByOne 18 = .ok (.if_icmp .gt 32, 3) := by decide +kernel
theorem dX4_keepByOne_21 : decode cX4_keepByOne 21 = .ok (.iload_n 3, 1) := by decide +kernel
theorem dX4_keepByOne_22 : decode cX4_keepByOne 22 = .ok (.aload_n 0, 1) := by decide +kernel
theorem dX4_keepByOne_23 : decode cX4_keepByOne 23 = .ok (.aload_n 1, 1) := by decide +kernel
theorem dX4_keepByOne_24 : decode cX4_keepByOne 24 = .ok (.iload 5, 2) := by decide +kernel
theorem dX4_keepByOne_26 : decode cX4_keepByOne 26 = .ok (.iload 5, 2) := by decide +kernel
theorem dX4_keepByOne_28 : decode cX4_keepByOne 28 = .ok (.invokevirtual 101, 3) := by decide +kernel
theorem dX4_keepByOne_31 : decode cX4_keepByOne 31 = .ok (.ifCond .eq 10, 3) := by decide +kernel
theorem dX4_keepByOne_34 : decode cX4_keepByOne 34 = .ok (.iconst 1, 1) := by decide +kernel
theorem dX4_keepByOne_35 : decode cX4_keepByOne 35 = .ok (.iload 5, 2) := by decide +kernel
theorem dX4_keepByOne_37 : decode cX4_keepByOne 37 = .ok (.ishl, 1) := by decide +kernel
theorem dX4_keepByOne_38 : decode cX4_keepByOne 38 = .ok (.goto 4, 3) := by decide +kernel
theorem dX4_keepByOne_41 : decode cX4_keepByOne 41 = .ok (.iconst 0, 1) := by decide +kernel
theorem dX4_keepByOne_42 : decode cX4_keepByOne 42 = .ok (.ior, 1) := by decide +kernel
theorem dX4_keepByOne_43 : decode cX4_keepByOne 43 = .ok (.istore_n 3, 1) := by decide +kernel
theorem dX4_keepByOne_44 : decode cX4_keepByOne 44 = .ok (.iinc 5 1, 3) := by decide +kernel
theorem dX4_keepByOne_47 : decode cX4_keepByOne 47 = .ok (.goto (-33), 3) := by decide +kernel
theorem dX4_keepByOne_50 : decode cX4_keepByOne 50 = .ok (.aload_n 2, 1) := by decide +kernel
theorem dX4_keepByOne_51 : decode cX4_keepByOne 51 = .ok (.aload_n 1, 1) := by decide +kernel
theorem dX4_keepByOne_52 : decode cX4_keepByOne 52 = .ok (.getfield 82, 3) := by decide +kernel
theorem dX4_keepByOne_55 : decode cX4_keepByOne 55 = .ok (.iload_n 3, 1) := by decide +kernel
theorem dX4_keepByOne_56 : decode cX4_keepByOne 56 = .ok (.invokevirtual 105, 3) := by decide +kernel
theorem dX4_keepByOne_59 : decode cX4_keepByOne 59 = .ok (.return_, 1) := by decide +kernel
theorem dX4_keepByTwo_0 : decode cX4_keepByTwo 0 = .ok (.aload_n 0, 1) := by decide +kernel
theorem dX4_keepByTwo_1 : decode cX4_keepByTwo 1 = .ok (.getfield 9, 3) := by decide +kernel
theorem dX4_keepByTwo_4 : decode cX4_keepByTwo 4 = .ok (.invokevirtual 76, 3) := by decide +kernel
theorem dX4_keepByTwo_7 : decode cX4_keepByTwo 7 = .ok (.istore_n 3, 1) := by decide +kernel
theorem dX4_keepByTwo_8 : decode cX4_keepByTwo 8 = .ok (.iconst 1, 1) := by decide +kernel
theorem dX4_keepByTwo_9 : decode cX4_keepByTwo 9 = .ok (.istore 4, 2) := by decide +kernel
theorem dX4_keepByTwo_11 : decode cX4_keepByTwo 11 = .ok (.iload 4, 2) := by decide +kernel
theorem dX4_keepByTwo_13 : decode cX4_keepByTwo 13 = .ok (.iload_n 3, 1) := by decide +kernel
theorem dX4_keepByTwo_14 : decode cX4_keepByTwo 14 = .ok (.if_icmp .gt 68, 3) := by decide +kernel
theorem dX4_keepByTwo_17 : decode cX4_keepByTwo 17 = .ok (.iconst 0, 1) := by decide +kernel
theorem dX4_keepByTwo_18 : decode cX4_keepByTwo 18 = .ok (.istore 5, 2) := by decide +kernel
theorem dX4_keepByTwo_20 : decode cX4_keepByTwo 20 = .ok (.iconst 1, 1) := by decide +kernel
theorem dX4_keepByTwo_21 : decode cX4_keepByTwo 21 = .ok (.istore 6, 2) := by decide +kernel
theorem dX4_keepByTwo_23 : decode cX4_keepByTwo 23 = .ok (.iload 6, 2) := by decide +kernel
theorem dX4_keepByTwo_25 : decode cX4_keepByTwo 25 = .ok (.iload_n 3, 1) := by decide +kernel
theorem dX4_keepByTwo_26 : decode cX4_keepByTwo 26 = .ok (.if_icmp .gt 34, 3) := by decide +kernel
theorem dX4_keepByTwo_29 : decode cX4_keepByTwo 29 = .ok (.iload 5, 2) := by decide +kernel
theorem dX4_keepByTwo_31 : decode cX4_keepByTwo 31 = .ok (.aload_n 0, 1) := by decide +kernel
theorem dX4_keepByTwo_32 : decode cX4_keepByTwo 32 = .ok (.aload_n 1, 1) := by decide +kernel
theorem dX4_keepByTwo_33 : decode cX4_keepByTwo 33 = .ok (.iload 4, 2) := by decide +kernel
theorem dX4_keepByTwo_35 : decode cX4_keepByTwo 35 = .ok (.iload 6, 2) := by decide +kernel
theorem dX4_keepByTwo_37 : decode cX4_keepByTwo 37 = .ok (.invokevirtual 101, 3) := by decide +kernel
theorem dX4_keepByTwo_40 : decode cX4_keepByTwo 40 = .ok (.ifCond .eq 10, 3) := by decide +kernel
theorem dX4_keepByTwo_43 : decode cX4_keepByTwo 43 = .ok (.iconst 1, 1) := by decide +kernel
theorem dX4_keepByTwo_44 : decode cX4_keepByTwo 44 = .ok (.iload 6, 2) := by decide +kernel
theorem dX4_keepByTwo_46 : decode cX4_keepByTwo 46 = .ok (.ishl, 1) := by decide +kernel
theorem dX4_keepByTwo_47 : decode cX4_keepByTwo 47 = .ok (.goto 4, 3) := by decide +kernel
theorem dX4_keepByTwo_50 : decode cX4_keepByTwo 50 = .ok (.iconst 0, 1) := by decide +kernel
theorem dX4_keepByTwo_51 : decode cX4_keepByTwo 51 = .ok (.ior, 1) := by decide +kernel
theorem dX4_keepByTwo_52 : decode cX4_keepByTwo 52 = .ok (.istore 5, 2) := by decide +kernel
theorem dX4_keepByTwo_54 : decode cX4_keepByTwo 54 = .ok (.iinc 6 1, 3) := by decide +kernel
theorem dX4_keepByTwo_57 : decode cX4_keepByTwo 57 = .ok (.goto (-34), 3) := by decide +kernel
theorem dX4_keepByTwo_60 : decode cX4_keepByTwo 60 = .ok (.aload_n 2, 1) := by decide +kernel
theorem dX4_keepByTwo_61 : decode cX4_keepByTwo 61 = .ok (.aload_n 1, 1) := by decide +kernel
theorem dX4_keepByTwo_62 : decode cX4_keepByTwo 62 = .ok (.getfield 82, 3) := by decide +kernel
theorem dX4_keepByTwo_65 : decode cX4_keepByTwo 65 = .ok (.iload 4, 2) := by decide +kernel
theorem dX4_keepByTwo_67 : decode cX4_keepByTwo 67 = .ok (.aload_n 1, 1) := by decide +kernel
theorem dX4_keepByTwo_68 : decode cX4_keepByTwo 68 = .ok (.getfield 109, 3) := by decide +kernel
theorem dX4_keepByTwo_71 : decode cX4_keepByTwo 71 = .ok (.iload 5, 2) := by decide +kernel
theorem dX4_keepByTwo_73 : decode cX4_keepByTwo 73 = .ok (.invokevirtual 112, 3) := by decide +kernel
theorem dX4_keepByTwo_76 : decode cX4_keepByTwo 76 = .ok (.iinc 4 1, 3) := by decide +kernel
theorem dX4_keepByTwo_79 : decode cX4_keepByTwo 79 = .ok (.goto (-68), 3) := by decide +kernel
theorem dX4_keepByTwo_82 : decode cX4_keepByTwo 82 = .ok (.return_, 1) := by decide +kernel
theorem dX4_holds_0 : decode cX4_holds 0 = .ok (.aload_n 1, 1) := by decide +kernel
theorem dX4_holds_1 : decode cX4_holds 1 = .ok (.getfield 15, 3) := by decide +kernel
theorem dX4_holds_4 : decode cX4_holds 4 = .ok (.tableswitch 116 7 11 #[36, 60, 74, 85, 99], 36) := by decide +kernel
theorem dX4_holds_40 : decode cX4_holds 40 = .ok (.iload_n 2, 1) := by decide +kernel
theorem dX4_holds_41 : decode cX4_holds 41 = .ok (.aload_n 0, 1) := by decide +kernel
theorem dX4_holds_42 : decode cX4_holds 42 = .ok (.getfield 9, 3) := by decide +kernel
theorem dX4_holds_45 : decode cX4_holds 45 = .ok (.aload_n 1, 1) := by decide +kernel
theorem dX4_holds_46 : decode cX4_holds 46 = .ok (.getfield 116, 3) := by decide +kernel
theorem dX4_holds_49 : decode cX4_holds 49 = .ok (.invokevirtual 119, 3) := by decide +kernel
theorem dX4_holds_52 : decode cX4_holds 52 = .ok (.iconst (-1), 1) := by decide +kernel
theorem dX4_holds_53 : decode cX4_holds 53 = .ok (.ixor, 1) := by decide +kernel
theorem dX4_holds_54 : decode cX4_holds 54 = .ok (.iand, 1) := by decide +kernel
theorem dX4_holds_55 : decode cX4_holds 55 = .ok (.ifCond .ne 7, 3) := by decide +kernel
theorem dX4_holds_58 : decode cX4_holds 58 = .ok (.iconst 1, 1) := by decide +kernel
theorem dX4_holds_59 : decode cX4_holds 59 = .ok (.goto 4, 3) := by decide +kernel
theorem dX4_holds_62 : decode cX4_holds 62 = .ok (.iconst 0, 1) := by decide +kernel
theorem dX4_holds_63 : decode cX4_holds 63 = .ok (.ireturn, 1) := by decide +kernel
theorem dX4_holds_64 : decode cX4_holds 64 = .ok (.aload_n 0, 1) := by decide +kernel
theorem dX4_holds_65 : decode cX4_holds 65 = .ok (.getfield 9, 3) := by decide +kernel
theorem dX4_holds_68 : decode cX4_holds 68 = .ok (.aload_n 1, 1) := by decide +kernel
theorem dX4_holds_69 : decode cX4_holds 69 = .ok (.getfield 116, 3) := by decide +kernel
theorem dX4_holds_72 : decode cX4_holds 72 = .ok (.iload_n 2, 1) := by decide +kernel
theorem dX4_holds_73 : decode cX4_holds 73 = .ok (.iload_n 3, 1) := by decide +kernel
theorem dX4_holds_74 : decode cX4_holds 74 = .ok (.invokevirtual 123, 3) := by decide +kernel
theorem dX4_holds_77 : decode cX4_holds 77 = .ok (.ireturn, 1) := by decide +kernel
theorem dX4_holds_78 : decode cX4_holds 78 = .ok (.iload_n 2, 1) := by decide +kernel
theorem dX4_holds_79 : decode cX4_holds 79 = .ok (.iload_n 3, 1) := by decide +kernel
theorem dX4_holds_80 : decode cX4_holds 80 = .ok (.if_icmp .ne 7, 3) := by decide +kernel
theorem dX4_holds_83 : decode cX4_holds 83 = .ok (.iconst 1, 1) := by decide +kernel
theorem dX4_holds_84 : decode cX4_holds 84 = .ok (.goto 4, 3) := by decide +kernel
theorem dX4_holds_87 : decode cX4_holds 87 = .ok (.iconst 0, 1) := by decide +kernel
theorem dX4_holds_88 : decode cX4_holds 88 = .ok (.ireturn, 1) := by decide +kernel
theorem dX4_holds_89 : decode cX4_holds 89 = .ok (.iload_n 2, 1) := by decide +kernel
theorem dX4_holds_90 : decode cX4_holds 90 = .ok (.iload_n 3, 1) := by decide +kernel
theorem dX4_holds_91 : decode cX4_holds 91 = .ok (.iconst (-1), 1) := by decide +kernel
theorem dX4_holds_92 : decode cX4_holds 92 = .ok (.ixor, 1) := by decide +kernel
theorem dX4_holds_93 : decode cX4_holds 93 = .ok (.iand, 1) := by decide +kernel
theorem dX4_holds_94 : decode cX4_holds 94 = .ok (.ifCond .ne 7, 3) := by decide +kernel
theorem dX4_holds_97 : decode cX4_holds 97 = .ok (.iconst 1, 1) := by decide +kernel
theorem dX4_holds_98 : decode cX4_holds 98 = .ok (.goto 4, 3) := by decide +kernel
theorem dX4_holds_101 : decode cX4_holds 101 = .ok (.iconst 0, 1) := by decide +kernel
theorem dX4_holds_102 : decode cX4_holds 102 = .ok (.ireturn, 1) := by decide +kernel
theorem dX4_holds_103 : decode cX4_holds 103 = .ok (.iload_n 2, 1) := by decide +kernel
theorem dX4_holds_104 : decode cX4_holds 104 = .ok (.invokestatic 127, 3) := by decide +kernel
theorem dX4_holds_107 : decode cX4_holds 107 = .ok (.aload_n 1, 1) := by decide +kernel
theorem dX4_holds_108 : decode cX4_holds 108 = .ok (.getfield 116, 3) := by decide +kernel
theorem dX4_holds_111 : decode cX4_holds 111 = .ok (.if_icmp .ne 7, 3) := by decide +kernel
theorem dX4_holds_114 : decode cX4_holds 114 = .ok (.iconst 1, 1) := by decide +kernel
theorem dX4_holds_115 : decode cX4_holds 115 = .ok (.goto 4, 3) := by decide +kernel
theorem dX4_holds_118 : decode cX4_holds 118 = .ok (.iconst 0, 1) := by decide +kernel
theorem dX4_holds_119 : decode cX4_holds 119 = .ok (.ireturn, 1) := by decide +kernel
theorem dX4_holds_120 : decode cX4_holds 120 = .ok (.iconst 0, 1) := by decide +kernel
theorem dX4_holds_121 : decode cX4_holds 121 = .ok (.ireturn, 1) := by decide +kernel
theorem dX5_init_0 : decode cX5_init 0 = .ok (.aload_n 0, 1) := by decide +kernel
theorem dX5_init_1 : decode cX5_init 1 = .ok (.invokespecial 1, 3) := by decide +kernel
theorem dX5_init_4 : decode cX5_init 4 = .ok (.aload_n 0, 1) := by decide +kernel
theorem dX5_init_5 : decode cX5_init 5 = .ok (.new 7, 3) := by decide +kernel
theorem dX5_init_8 : decode cX5_init 8 = .ok (.dup, 1) := by decide +kernel
theorem dX5_init_9 : decode cX5_init 9 = .ok (.invokespecial 9, 3) := by decide +kernel
theorem dX5_init_12 : decode cX5_init 12 = .ok (.putfield 10, 3) := by decide +kernel
theorem dX5_init_15 : decode cX5_init 15 = .ok (.aload_n 0, 1) := by decide +kernel
theorem dX5_init_16 : decode cX5_init 16 = .ok (.new 7, 3) := by decide +kernel
theorem dX5_init_19 : decode cX5_init 19 = .ok (.dup, 1) := by decide +kernel
theorem dX5_init_20 : decode cX5_init 20 = .ok (.invokespecial 9, 3) := by decide +kernel
theorem dX5_init_23 : decode cX5_init 23 = .ok (.putfield 16, 3) := by decide +kernel
theorem dX5_init_26 : decode cX5_init 26 = .ok (.return_, 1) := by decide +kernel
theorem dX5_add_0 : decode cX5_add 0 = .ok (.aload_n 1, 1) := by decide +kernel
theorem dX5_add_1 : decode cX5_add 1 = .ok (.aload_n 0, 1) := by decide +kernel
theorem dX5_add_2 : decode cX5_add 2 = .ok (.getfield 19, 3) := by decide +kernel
theorem dX5_add_5 : decode cX5_add 5 = .ok (.putfield 23, 3) := by decide +kernel
theorem dX5_add_8 : decode cX5_add 8 = .ok (.aload_n 0, 1) := by decide +kernel
theorem dX5_add_9 : decode cX5_add 9 = .ok (.getfield 19, 3) := by decide +kernel
theorem dX5_add_12 : decode cX5_add 12 = .ok (.ifnonnull 11, 3) := by decide +kernel
theorem dX5_add_15 : decode cX5_add 15 = .ok (.aload_n 0, 1) := by decide +kernel
theorem dX5_add_16 : decode cX5_add 16 = .ok (.aload_n 1, 1) := by decide +kernel
theorem dX5_add_17 : decode cX5_add 17 = .ok (.putfield 26, 3) := by decide +kernel
theorem dX5_add_20 : decode cX5_add 20 = .ok (.goto 11, 3) := by decide +kernel
theorem dX5_add_23 : decode cX5_add 23 = .ok (.aload_n 0, 1) := by decide +kernel
theorem dX5_add_24 : decode cX5_add 24 = .ok (.getfield 19, 3) := by decide +kernel
theorem dX5_add_27 : decode cX5_add 27 = .ok (.aload_n 1, 1) := by decide +kernel
theorem dX5_add_28 : decode cX5_add 28 = .ok (.putfield 29, 3) := by decide +kernel
theorem dX5_add_31 : decode cX5_add 31 = .ok (.aload_n 0, 1) := by decide +kernel
theorem dX5_add_32 : decode cX5_add 32 = .ok (.aload_n 1, 1) := by decide +kernel
theorem dX5_add_33 : decode cX5_add 33 = .ok (.putfield 19, 3) := by decide +kernel
theorem dX5_add_36 : decode cX5_add 36 = .ok (.return_, 1) := by decide +kernel
theorem dX6_init_0 : decode cX6_init 0 = .ok (.aload_n 0, 1) := by decide +kernel
theorem dX6_init_1 : decode cX6_init 1 = .ok (.invokespecial 3, 3) := by decide +kernel
theorem dX6_init_4 : decode cX6_init 4 = .ok (.aload_n 0, 1) := by decide +kernel
theorem dX6_init_5 : decode cX6_init 5 = .ok (.bipush 62, 2) := by decide +kernel
theorem dX6_init_7 : decode cX6_init 7 = .ok (.anewarray 11, 3) := by decide +kernel
theorem dX6_init_10 : decode cX6_init 10 = .ok (.putfield 13, 3) := by decide +kernel
theorem dX6_init_13 : decode cX6_init 13 = .ok (.aload_n 0, 1) := by decide +kernel
theorem dX6_init_14 : decode cX6_init 14 = .ok (.aload_n 1, 1) := by decide +kernel
theorem dX6_init_15 : decode cX6_init 15 = .ok (.putfield 17, 3) := by decide +kernel
theorem dX6_init_18 : decode cX6_init 18 = .ok (.iconst 0, 1) := by decide +kernel
theorem dX6_init_19 : decode cX6_init 19 = .ok (.istore_n 2, 1) := by decide +kernel
theorem dX6_init_20 : decode cX6_init 20 = .ok (.iload_n 2, 1) := by decide +kernel
theorem dX6_init_21 : decode cX6_init 21 = .ok (.bipush 62, 2) := by decide +kernel
theorem dX6_init_23 : decode cX6_init 23 = .ok (.if_icmp .ge 22, 3) := by decide +kernel
theorem dX6_init_26 : decode cX6_init 26 = .ok (.aload_n 0, 1) := by decide +kernel
theorem dX6_init_27 : decode cX6_init 27 = .ok (.getfield 13, 3) := by decide +kernel
theorem dX6_init_30 : decode cX6_init 30 = .ok (.iload_n 2, 1) := by decide +kernel
theorem dX6_init_31 : decode cX6_init 31 = .ok (.new 11, 3) := by decide +kernel
theorem dX6_init_34 : decode cX6_init 34 = .ok (.dup, 1) := by decide +kernel
theorem dX6_init_35 : decode cX6_init 35 = .ok (.invokespecial 21, 3) := by decide +kernel
theorem dX6_init_38 : decode cX6_init 38 = .ok (.aastore, 1) := by decide +kernel
theorem dX6_init_39 : decode cX6_init 39 = .ok (.iinc 2 1, 3) := by decide +kernel
theorem dX6_init_42 : decode cX6_init 42 = .ok (.goto (-22), 3) := by decide +kernel
theorem dX6_init_45 : decode cX6_init 45 = .ok (.return_, 1) := by decide +kernel
theorem dX6_discourse_0 : decode cX6_discourse 0 = .ok (.aload_n 0, 1) := by decide +kernel
theorem dX6_discourse_1 : decode cX6_discourse 1 = .ok (.iconst 0, 1) := by decide +kernel
theorem dX6_discourse_2 : decode cX6_discourse 2 = .ok (.putfield 22, 3) := by decide +kernel
theorem dX6_discourse_5 : decode cX6_discourse 5 = .ok (.aload_n 0, 1) := by decide +kernel
theorem dX6_discourse_6 : decode cX6_discourse 6 = .ok (.iconst 0, 1) := by decide +kernel
theorem dX6_discourse_7 : decode cX6_discourse 7 = .ok (.putfield 26, 3) := by decide +kernel
theorem dX6_discourse_10 : decode cX6_discourse 10 = .ok (.aload_n 0, 1) := by decide +kernel
theorem dX6_discourse_11 : decode cX6_discourse 11 = .ok (.iconst 0, 1) := by decide +kernel
theorem dX6_discourse_12 : decode cX6_discourse 12 = .ok (.putfield 29, 3) := by decide +kernel
theorem dX6_discourse_15 : decode cX6_discourse 15 = .ok (.aload_n 0, 1) := by decide +kernel
theorem dX6_discourse_16 : decode cX6_discourse 16 = .ok (.iconst 2, 1) := by decide +kernel
theorem dX6_discourse_17 : decode cX6_discourse 17 = .ok (.aload_n 0, 1) := by decide +kernel
theorem dX6_discourse_18 : decode cX6_discourse 18 = .ok (.invokevirtual 32, 3) := by decide +kernel
theorem dX6_discourse_21 : decode cX6_discourse 21 = .ok (.invokevirtual 36, 3) := by decide +kernel
theorem dX6_discourse_24 : decode cX6_discourse 24 = .ok (.astore_n 1, 1) := by decide +kernel
theorem dX6_discourse_25 : decode cX6_discourse 25 = .ok (.iconst 0, 1) := by decide +kernel
theorem dX6_discourse_26 : decode cX6_discourse 26 = .ok (.istore_n 2, 1) := by decide +kernel
theorem dX6_discourse_27 : decode cX6_discourse 27 = .ok (.iload_n 2, 1) := by decide +kernel
theorem dX6_discourse_28 : decode cX6_discourse 28 = .ok (.bipush 60, 2) := by decide +kernel
theorem dX6_discourse_30 : decode cX6_discourse 30 = .ok (.if_icmp .ge 32, 3) := by decide +kernel
theorem dX6_discourse_33 : decode cX6_discourse 33 = .ok (.aload_n 1, 1) := by decide +kernel
theorem dX6_discourse_34 : decode cX6_discourse 34 = .ok (.ifnull 28, 3) := by decide +kernel
theorem dX6_discourse_37 : decode cX6_discourse 37 = .ok (.aload_n 0, 1) := by decide +kernel
theorem dX6_discourse_38 : decode cX6_discourse 38 = .ok (.bipush 59, 2) := by decide +kernel
theorem dX6_discourse_40 : decode cX6_discourse 40 = .ok (.invokevirtual 40, 3) := by decide +kernel
theorem dX6_discourse_43 : decode cX6_discourse 43 = .ok (.ifCond .eq 19, 3) := by decide +kernel
theorem dX6_discourse_46 : decode cX6_discourse 46 = .ok (.aload_n 0, 1) := by decide +kernel
theorem dX6_discourse_47 : decode cX6_discourse 47 = .ok (.aload_n 1, 1) := by decide +kernel
theorem dX6_discourse_48 : decode cX6_discourse 48 = .ok (.aload_n 0, 1) := by decide +kernel
theorem dX6_discourse_49 : decode cX6_discourse 49 = .ok (.invokevirtual 32, 3) := by decide +kernel
theorem dX6_discourse_52 : decode cX6_discourse 52 = .ok (.invokevirtual 44, 3) := by decide +kernel
theorem dX6_discourse_55 : decode cX6_discourse 55 = .ok (.astore_n 1, 1) := by decide +kernel
theorem dX6_discourse_56 : decode cX6_discourse 56 = .ok (.iinc 2 1, 3) := by decide +kernel
theorem dX6_discourse_59 : decode cX6_discourse 59 = .ok (.goto (-32), 3) := by decide +kernel
theorem dX6_discourse_62 : decode cX6_discourse 62 = .ok (.aload_n 0, 1) := by decide +kernel
theorem dX6_discourse_63 : decode cX6_discourse 63 = .ok (.getfield 29, 3) := by decide +kernel
theorem dX6_discourse_66 : decode cX6_discourse 66 = .ok (.aload_n 0, 1) := by decide +kernel
theorem dX6_discourse_67 : decode cX6_discourse 67 = .ok (.getfield 17, 3) := by decide +kernel
theorem dX6_discourse_70 : decode cX6_discourse 70 = .ok (.getfield 48, 3) := by decide +kernel
theorem dX6_discourse_73 : decode cX6_discourse 73 = .ok (.if_icmp .ne 7, 3) := by decide +kernel
theorem dX6_discourse_76 : decode cX6_discourse 76 = .ok (.aload_n 1, 1) := by decide +kernel
theorem dX6_discourse_77 : decode cX6_discourse 77 = .ok (.goto 4, 3) := by decide +kernel
theorem dX6_discourse_80 : decode cX6_discourse 80 = .ok (.aconst_null, 1) := by decide +kernel
theorem dX6_discourse_81 : decode cX6_discourse 81 = .ok (.areturn, 1) := by decide +kernel
theorem dX6_part_0 : decode cX6_part 0 = .ok (.aload_n 0, 1) := by decide +kernel
theorem dX6_part_1 : decode cX6_part 1 = .ok (.getfield 29, 3) := by decide +kernel
theorem dX6_part_4 : decode cX6_part 4 = .ok (.istore_n 1, 1) := by decide +kernel
theorem dX6_part_5 : decode cX6_part 5 = .ok (.aload_n 0, 1) := by decide +kernel
theorem dX6_part_6 : decode cX6_part 6 = .ok (.bipush 91, 2) := by decide +kernel
theorem dX6_part_8 : decode cX6_part 8 = .ok (.invokevirtual 40, 3) := by decide +kernel
theorem dX6_part_11 : decode cX6_part 11 = .ok (.istore_n 2, 1) := by decide +kernel
theorem dX6_part_12 : decode cX6_part 12 = .ok (.aload_n 0, 1) := by decide +kernel
theorem dX6_part_13 : decode cX6_part 13 = .ok (.invokevirtual 53, 3) := by decide +kernel
theorem dX6_part_16 : decode cX6_part 16 = .ok (.astore_n 3, 1) := by decide +kernel
theorem dX6_part_17 : decode cX6_part 17 = .ok (.aload_n 3, 1) := by decide +kernel
theorem dX6_part_18 : decode cX6_part 18 = .ok (.ifnull 16, 3) := by decide +kernel
theorem dX6_part_21 : decode cX6_part 21 = .ok (.iload_n 2, 1) := by decide +kernel
theorem dX6_part_22 : decode cX6_part 22 = .ok (.ifCond .eq 14, 3) := by decide +kernel
theorem dX6_part_25 : decode cX6_part 25 = .ok (.aload_n 0, 1) := by decide +kernel
theorem dX6_part_26 : decode cX6_part 26 = .ok (.bipush 93, 2) := by decide +kernel
theorem dX6_part_28 : decode cX6_part 28 = .ok (.invokevirtual 40, 3) := by decide +kernel
theorem dX6_part_31 : decode cX6_part 31 = .ok (.ifCond .ne 5, 3) := by decide +kernel
theorem dX6_part_34 : decode cX6_part 34 = .ok (.aconst_null, 1) := by decide +kernel
theorem dX6_part_35 : decode cX6_part 35 = .ok (.areturn, 1) := by decide +kernel
theorem dX6_part_36 : decode cX6_part 36 = .ok (.aload_n 0, 1) := by decide +kernel
theorem dX6_part_37 : decode cX6_part 37 = .ok (.iload_n 2, 1) := by decide +kernel
theorem dX6_part_38 : decode cX6_part 38 = .ok (.ifCond .eq 7, 3) := by decide +kernel
theorem dX6_part_41 : decode cX6_part 41 = .ok (.iconst 1, 1) := by decide +kernel
theorem dX6_part_42 : decode cX6_part 42 = .ok (.goto 4, 3) := by decide +kernel
theorem dX6_part_45 : decode cX6_part 45 = .ok (.iconst 0, 1) := by decide +kernel
theorem dX6_part_46 : decode cX6_part 46 = .ok (.aload_n 3, 1) := by decide +kernel
theorem dX6_part_47 : decode cX6_part 47 = .ok (.invokevirtual 36, 3) := by decide +kernel
theorem dX6_part_50 : decode cX6_part 50 = .ok (.astore 4, 2) := by decide +kernel
theorem dX6_part_52 : decode cX6_part 52 = .ok (.aload 4, 2) := by decide +kernel
theorem dX6_part_54 : decode cX6_part 54 = .ok (.ifnull 9, 3) := by decide +kernel
theorem dX6_part_57 : decode cX6_part 57 = .ok (.aload 4, 2) := by decide +kernel
theorem dX6_part_59 : decode cX6_part 59 = .ok (.iload_n 1, 1) := by decide +kernel
theorem dX6_part_60 : decode cX6_part 60 = .ok (.putfield 56, 3) := by decide +kernel
theorem dX6_part_63 : decode cX6_part 63 = .ok (.aload 4, 2) := by decide +kernel
theorem dX6_part_65 : decode cX6_part 65 = .ok (.areturn, 1) := by decide +kernel
theorem dX6_formula_0 : decode cX6_formula 0 = .ok (.aload_n 0, 1) := by decide +kernel
theorem dX6_formula_1 : decode cX6_formula 1 = .ok (.invokevirtual 59, 3) := by decide +kernel
theorem dX6_formula_4 : decode cX6_formula 4 = .ok (.astore_n 1, 1) := by decide +kernel
theorem dX6_formula_5 : decode cX6_formula 5 = .ok (.aload_n 1, 1) := by decide +kernel
theorem dX6_formula_6 : decode cX6_formula 6 = .ok (.ifnull 19, 3) := by decide +kernel
theorem dX6_formula_9 : decode cX6_formula 9 = .ok (.aload_n 0, 1) := by decide +kernel
theorem dX6_formula_10 : decode cX6_formula 10 = .ok (.getfield 17, 3) := by decide +kernel
theorem dX6_formula_13 : decode cX6_formula 13 = .ok (.aload_n 0, 1) := by decide +kernel
theorem dX6_formula_14 : decode cX6_formula 14 = .ok (.getfield 29, 3) := by decide +kernel
theorem dX6_formula_17 : decode cX6_formula 17 = .ok (.invokevirtual 62, 3) := by decide +kernel
theorem dX6_formula_20 : decode cX6_formula 20 = .ok (.bipush 62, 2) := by decide +kernel
theorem dX6_formula_22 : decode cX6_formula 22 = .ok (.if_icmp .eq 5, 3) := by decide +kernel
theorem dX6_formula_25 : decode cX6_formula 25 = .ok (.aload_n 1, 1) := by decide +kernel
theorem dX6_formula_26 : decode cX6_formula 26 = .ok (.areturn, 1) := by decide +kernel
theorem dX6_formula_27 : decode cX6_formula 27 = .ok (.aload_n 0, 1) := by decide +kernel
theorem dX6_formula_28 : decode cX6_formula 28 = .ok (.invokevirtual 66, 3) := by decide +kernel
theorem dX6_formula_31 : decode cX6_formula 31 = .ok (.ifCond .ne 5, 3) := by decide +kernel
theorem dX6_formula_34 : decode cX6_formula 34 = .ok (.aconst_null, 1) := by decide +kernel
theorem dX6_formula_35 : decode cX6_formula 35 = .ok (.areturn, 1) := by decide +kernel
theorem dX6_formula_36 : decode cX6_formula 36 = .ok (.aload_n 0, 1) := by decide +kernel
theorem dX6_formula_37 : decode cX6_formula 37 = .ok (.invokevirtual 53, 3) := by decide +kernel
theorem dX6_formula_40 : decode cX6_formula 40 = .ok (.astore_n 2, 1) := by decide +kernel
theorem dX6_formula_41 : decode cX6_formula 41 = .ok (.aload_n 0, 1) := by decide +kernel
theorem dX6_formula_42 : decode cX6_formula 42 = .ok (.dup, 1) := by decide +kernel
theorem dX6_formula_43 : decode cX6_formula 43 = .ok (.getfield 26, 3) := by decide +kernel
theorem dX6_formula_46 : decode cX6_formula 46 = .ok (.iconst 1, 1) := by decide +kernel
theorem dX6_formula_47 : decode cX6_formula 47 = .ok (.isub, 1) := by decide +kernel
theorem dX6_formula_48 : decode cX6_formula 48 = .ok (.putfield 26, 3) := by decide +kernel
theorem dX6_formula_51 : decode cX6_formula 51 = .ok (.aload_n 0, 1) := by decide +kernel
theorem dX6_formula_52 : decode cX6_formula 52 = .ok (.aload_n 0, 1) := by decide +kernel
theorem dX6_formula_53 : decode cX6_formula 53 = .ok (.iconst 4, 1) := by decide +kernel
theorem dX6_formula_54 : decode cX6_formula 54 = .ok (.aload_n 1, 1) := by decide +kernel
theorem dX6_formula_55 : decode cX6_formula 55 = .ok (.invokevirtual 36, 3) := by decide +kernel
theorem dX6_formula_58 : decode cX6_formula 58 = .ok (.aload_n 2, 1) := by decide +kernel
theorem dX6_formula_59 : decode cX6_formula 59 = .ok (.invokevirtual 44, 3) := by decide +kernel
theorem dX6_formula_62 : decode cX6_formula 62 = .ok (.areturn, 1) := by decide +kernel
theorem dX6_choice_0 : decode cX6_choice 0 = .ok (.aload_n 0, 1) := by decide +kernel
theorem dX6_choice_1 : decode cX6_choice 1 = .ok (.invokevirtual 70, 3) := by decide +kernel
theorem dX6_choice_4 : decode cX6_choice 4 = .ok (.astore_n 1, 1) := by decide +kernel
theorem dX6_choice_5 : decode cX6_choice 5 = .ok (.aload_n 0, 1) := by decide +kernel
theorem dX6_choice_6 : decode cX6_choice 6 = .ok (.getfield 17, 3) := by decide +kernel
theorem dX6_choice_9 : decode cX6_choice 9 = .ok (.aload_n 0, 1) := by decide +kernel
theorem dX6_choice_10 : decode cX6_choice 10 = .ok (.getfield 29, 3) := by decide +kernel
theorem dX6_choice_13 : decode cX6_choice 13 = .ok (.invokevirtual 62, 3) := by decide +kernel
theorem dX6_choice_16 : decode cX6_choice 16 = .ok (.bipush 124, 2) := by decide +kernel
theorem dX6_choice_18 : decode cX6_choice 18 = .ok (.if_icmp .ne 10, 3) := by decide +kernel
theorem dX6_choice_21 : decode cX6_choice 21 = .ok (.aload_n 0, 1) := by decide +kernel
theorem dX6_choice_22 : decode cX6_choice 22 = .ok (.iconst 3, 1) := by decide +kernel
theorem dX6_choice_23 : decode cX6_choice 23 = .ok (.aload_n 1, 1) := by decide +kernel
theorem dX6_choice_24 : decode cX6_choice 24 = .ok (.invokevirtual 36, 3) := by decide +kernel
theorem dX6_choice_27 : decode cX6_choice 27 = .ok (.astore_n 1, 1) := by decide +kernel
theorem dX6_choice_28 : decode cX6_choice 28 = .ok (.iconst 0, 1) := by decide +kernel
theorem dX6_choice_29 : decode cX6_choice 29 = .ok (.istore_n 2, 1) := by decide +kernel
theorem dX6_choice_30 : decode cX6_choice 30 = .ok (.iload_n 2, 1) := by decide +kernel
theorem dX6_choice_31 : decode cX6_choice 31 = .ok (.bipush 60, 2) := by decide +kernel
theorem dX6_choice_33 : decode cX6_choice 33 = .ok (.if_icmp .ge 32, 3) := by decide +kernel
theorem dX6_choice_36 : decode cX6_choice 36 = .ok (.aload_n 1, 1) := by decide +kernel
theorem dX6_choice_37 : decode cX6_choice 37 = .ok (.ifnull 28, 3) := by decide +kernel
theorem dX6_choice_40 : decode cX6_choice 40 = .ok (.aload_n 0, 1) := by decide +kernel
theorem dX6_choice_41 : decode cX6_choice 41 = .ok (.bipush 124, 2) := by decide +kernel
theorem dX6_choice_43 : decode cX6_choice 43 = .ok (.invokevirtual 40, 3) := by decide +kernel
theorem dX6_choice_46 : decode cX6_choice 46 = .ok (.ifCond .eq 19, 3) := by decide +kernel
theorem dX6_choice_49 : decode cX6_choice 49 = .ok (.aload_n 0, 1) := by decide +kernel
theorem dX6_choice_50 : decode cX6_choice 50 = .ok (.aload_n 1, 1) := by decide +kernel
theorem dX6_choice_51 : decode cX6_choice 51 = .ok (.aload_n 0, 1) := by decide +kernel
theorem dX6_choice_52 : decode cX6_choice 52 = .ok (.invokevirtual 70, 3) := by decide +kernel
theorem dX6_choice_55 : decode cX6_choice 55 = .ok (.invokevirtual 44, 3) := by decide +kernel
theorem dX6_choice_58 : decode cX6_choice 58 = .ok (.astore_n 1, 1) := by decide +kernel
theorem dX6_choice_59 : decode cX6_choice 59 = .ok (.iinc 2 1, 3) := by decide +kernel
theorem dX6_choice_62 : decode cX6_choice 62 = .ok (.goto (-32), 3) := by decide +kernel
theorem dX6_choice_65 : decode cX6_choice 65 = .ok (.aload_n 1, 1) := by decide +kernel
theorem dX6_choice_66 : decode cX6_choice 66 = .ok (.areturn, 1) := by decide +kernel
theorem dX6_row_0 : decode cX6_row 0 = .ok (.aload_n 0, 1) := by decide +kernel
theorem dX6_row_1 : decode cX6_row 1 = .ok (.invokevirtual 73, 3) := by decide +kernel
theorem dX6_row_4 : decode cX6_row 4 = .ok (.astore_n 1, 1) := by decide +kernel
theorem dX6_row_5 : decode cX6_row 5 = .ok (.aload_n 0, 1) := by decide +kernel
theorem dX6_row_6 : decode cX6_row 6 = .ok (.getfield 17, 3) := by decide +kernel
theorem dX6_row_9 : decode cX6_row 9 = .ok (.aload_n 0, 1) := by decide +kernel
theorem dX6_row_10 : decode cX6_row 10 = .ok (.getfield 29, 3) := by decide +kernel
theorem dX6_row_13 : decode cX6_row 13 = .ok (.invokevirtual 62, 3) := by decide +kernel
theorem dX6_row_16 : decode cX6_row 16 = .ok (.bipush 38, 2) := by decide +kernel
theorem dX6_row_18 : decode cX6_row 18 = .ok (.if_icmp .ne 10, 3) := by decide +kernel
theorem dX6_row_21 : decode cX6_row 21 = .ok (.aload_n 0, 1) := by decide +kernel
theorem dX6_row_22 : decode cX6_row 22 = .ok (.iconst 2, 1) := by decide +kernel
theorem dX6_row_23 : decode cX6_row 23 = .ok (.aload_n 1, 1) := by decide +kernel
theorem dX6_row_24 : decode cX6_row 24 = .ok (.invokevirtual 36, 3) := by decide +kernel
theorem dX6_row_27 : decode cX6_row 27 = .ok (.astore_n 1, 1) := by decide +kernel
theorem dX6_row_28 : decode cX6_row 28 = .ok (.iconst 0, 1) := by decide +kernel
theorem dX6_row_29 : decode cX6_row 29 = .ok (.istore_n 2, 1) := by decide +kernel
theorem dX6_row_30 : decode cX6_row 30 = .ok (.iload_n 2, 1) := by decide +kernel
theorem dX6_row_31 : decode cX6_row 31 = .ok (.bipush 60, 2) := by decide +kernel
theorem dX6_row_33 : decode cX6_row 33 = .ok (.if_icmp .ge 32, 3) := by decide +kernel
theorem dX6_row_36 : decode cX6_row 36 = .ok (.aload_n 1, 1) := by decide +kernel
theorem dX6_row_37 : decode cX6_row 37 = .ok (.ifnull 28, 3) := by decide +kernel
theorem dX6_row_40 : decode cX6_row 40 = .ok (.aload_n 0, 1) := by decide +kernel
theorem dX6_row_41 : decode cX6_row 41 = .ok (.bipush 38, 2) := by decide +kernel
theorem dX6_row_43 : decode cX6_row 43 = .ok (.invokevirtual 40, 3) := by decide +kernel
theorem dX6_row_46 : decode cX6_row 46 = .ok (.ifCond .eq 19, 3) := by decide +kernel
theorem dX6_row_49 : decode cX6_row 49 = .ok (.aload_n 0, 1) := by decide +kernel
theorem dX6_row_50 : decode cX6_row 50 = .ok (.aload_n 1, 1) := by decide +kernel
theorem dX6_row_51 : decode cX6_row 51 = .ok (.aload_n 0, 1) := by decide +kernel
theorem dX6_row_52 : decode cX6_row 52 = .ok (.invokevirtual 73, 3) := by decide +kernel
theorem dX6_row_55 : decode cX6_row 55 = .ok (.invokevirtual 44, 3) := by decide +kernel
theorem dX6_row_58 : decode cX6_row 58 = .ok (.astore_n 1, 1) := by decide +kernel
theorem dX6_row_59 : decode cX6_row 59 = .ok (.iinc 2 1, 3) := by decide +kernel
theorem dX6_row_62 : decode cX6_row 62 = .ok (.goto (-32), 3) := by decide +kernel
theorem dX6_row_65 : decode cX6_row 65 = .ok (.aload_n 1, 1) := by decide +kernel
theorem dX6_row_66 : decode cX6_row 66 = .ok (.areturn, 1) := by decide +kernel
theorem dX6_unit_0 : decode cX6_unit 0 = .ok (.aload_n 0, 1) := by decide +kernel
theorem dX6_unit_1 : decode cX6_unit 1 = .ok (.getfield 17, 3) := by decide +kernel
theorem dX6_unit_4 : decode cX6_unit 4 = .ok (.aload_n 0, 1) := by decide +kernel
theorem dX6_unit_5 : decode cX6_unit 5 = .ok (.getfield 29, 3) := by decide +kernel
theorem dX6_unit_8 : decode cX6_unit 8 = .ok (.invokevirtual 62, 3) := by decide +kernel
theorem dX6_unit_11 : decode cX6_unit 11 = .ok (.istore_n 1, 1) := by decide +kernel
theorem dX6_unit_12 : decode cX6_unit 12 = .ok (.iload_n 1, 1) := by decide +kernel
theorem dX6_unit_13 : decode cX6_unit 13 = .ok (.lookupswitch 180 #[(33, 83), (35, 151), (40, 88), (69, 93), (112, 111), (113, 111), (114, 111), (115, 132), (116, 132)], 83) := by decide +kernel
theorem dX6_unit_96 : decode cX6_unit 96 = .ok (.aload_n 0, 1) := by decide +kernel
theorem dX6_unit_97 : decode cX6_unit 97 = .ok (.invokevirtual 76, 3) := by decide +kernel
theorem dX6_unit_100 : decode cX6_unit 100 = .ok (.areturn, 1) := by decide +kernel
theorem dX6_unit_101 : decode cX6_unit 101 = .ok (.aload_n 0, 1) := by decide +kernel
theorem dX6_unit_102 : decode cX6_unit 102 = .ok (.invokevirtual 79, 3) := by decide +kernel
theorem dX6_unit_105 : decode cX6_unit 105 = .ok (.areturn, 1) := by decide +kernel
theorem dX6_unit_106 : decode cX6_unit 106 = .ok (.aload_n 0, 1) := by decide +kernel
theorem dX6_unit_107 : decode cX6_unit 107 = .ok (.dup, 1) := by decide +kernel
theorem dX6_unit_108 : decode cX6_unit 108 = .ok (.getfield 29, 3) := by decide +kernel
theorem dX6_unit_111 : decode cX6_unit 111 = .ok (.iconst 1, 1) := by decide +kernel
theorem dX6_unit_112 : decode cX6_unit 112 = .ok (.iadd, 1) := by decide +kernel
theorem dX6_unit_113 : decode cX6_unit 113 = .ok (.putfield 29, 3) := by decide +kernel
theorem dX6_unit_116 : decode cX6_unit 116 = .ok (.aload_n 0, 1) := by decide +kernel
theorem dX6_unit_117 : decode cX6_unit 117 = .ok (.bipush 6, 2) := by decide +kernel
theorem dX6_unit_119 : decode cX6_unit 119 = .ok (.iconst 0, 1) := by decide +kernel
theorem dX6_unit_120 : decode cX6_unit 120 = .ok (.invokevirtual 82, 3) := by decide +kernel
theorem dX6_unit_123 : decode cX6_unit 123 = .ok (.areturn, 1) := by decide +kernel
theorem dX6_unit_124 : decode cX6_unit 124 = .ok (.aload_n 0, 1) := by decide +kernel
theorem dX6_unit_125 : decode cX6_unit 125 = .ok (.dup, 1) := by decide +kernel
theorem dX6_unit_126 : decode cX6_unit 126 = .ok (.getfield 29, 3) := by decide +kernel
theorem dX6_unit_129 : decode cX6_unit 129 = .ok (.iconst 1, 1) := by decide +kernel
theorem dX6_unit_130 : decode cX6_unit 130 = .ok (.iadd, 1) := by decide +kernel
theorem dX6_unit_131 : decode cX6_unit 131 = .ok (.putfield 29, 3) := by decide +kernel
theorem dX6_unit_134 : decode cX6_unit 134 = .ok (.aload_n 0, 1) := by decide +kernel
theorem dX6_unit_135 : decode cX6_unit 135 = .ok (.bipush 7, 2) := by decide +kernel
theorem dX6_unit_137 : decode cX6_unit 137 = .ok (.iload_n 1, 1) := by decide +kernel
theorem dX6_unit_138 : decode cX6_unit 138 = .ok (.bipush 112, 2) := by decide +kernel
theorem dX6_unit_140 : decode cX6_unit 140 = .ok (.isub, 1) := by decide +kernel
theorem dX6_unit_141 : decode cX6_unit 141 = .ok (.invokevirtual 82, 3) := by decide +kernel
theorem dX6_unit_144 : decode cX6_unit 144 = .ok (.areturn, 1) := by decide +kernel
theorem dX6_unit_145 : decode cX6_unit 145 = .ok (.aload_n 0, 1) := by decide +kernel
theorem dX6_unit_146 : decode cX6_unit 146 = .ok (.dup, 1) := by decide +kernel
theorem dX6_unit_147 : decode cX6_unit 147 = .ok (.getfield 29, 3) := by decide +kernel
theorem dX6_unit_150 : decode cX6_unit 150 = .ok (.iconst 1, 1) := by decide +kernel
theorem dX6_unit_151 : decode cX6_unit 151 = .ok (.iadd, 1) := by decide +kernel
theorem dX6_unit_152 : decode cX6_unit 152 = .ok (.putfield 29, 3) := by decide +kernel
theorem dX6_unit_155 : decode cX6_unit 155 = .ok (.aload_n 0, 1) := by decide +kernel
theorem dX6_unit_156 : decode cX6_unit 156 = .ok (.iload_n 1, 1) := by decide +kernel
theorem dX6_unit_157 : decode cX6_unit 157 = .ok (.bipush 115, 2) := by decide +kernel
theorem dX6_unit_159 : decode cX6_unit 159 = .ok (.isub, 1) := by decide +kernel
theorem dX6_unit_160 : decode cX6_unit 160 = .ok (.invokevirtual 86, 3) := by decide +kernel
theorem dX6_unit_163 : decode cX6_unit 163 = .ok (.areturn, 1) := by decide +kernel
theorem dX6_unit_164 : decode cX6_unit 164 = .ok (.aload_n 0, 1) := by decide +kernel
theorem dX6_unit_165 : decode cX6_unit 165 = .ok (.dup, 1) := by decide +kernel
theorem dX6_unit_166 : decode cX6_unit 166 = .ok (.getfield 29, 3) := by decide +kernel
theorem dX6_unit_169 : decode cX6_unit 169 = .ok (.iconst 1, 1) := by decide +kernel
theorem dX6_unit_170 : decode cX6_unit 170 = .ok (.iadd, 1) := by decide +kernel
theorem dX6_unit_171 : decode cX6_unit 171 = .ok (.putfield 29, 3) := by decide +kernel
theorem dX6_unit_174 : decode cX6_unit 174 = .ok (.aload_n 0, 1) := by decide +kernel
theorem dX6_unit_175 : decode cX6_unit 175 = .ok (.aload_n 0, 1) := by decide +kernel
theorem dX6_unit_176 : decode cX6_unit 176 = .ok (.getfield 17, 3) := by decide +kernel
theorem dX6_unit_179 : decode cX6_unit 179 = .ok (.aload_n 0, 1) := by decide +kernel
theorem dX6_unit_180 : decode cX6_unit 180 = .ok (.getfield 29, 3) := by decide +kernel
theorem dX6_unit_183 : decode cX6_unit 183 = .ok (.invokevirtual 62, 3) := by decide +kernel
theorem dX6_unit_186 : decode cX6_unit 186 = .ok (.bipush 48, 2) := by decide +kernel
theorem dX6_unit_188 : decode cX6_unit 188 = .ok (.isub, 1) := by decide +kernel
theorem dX6_unit_189 : decode cX6_unit 189 = .ok (.invokevirtual 90, 3) := by decide +kernel
theorem dX6_unit_192 : decode cX6_unit 192 = .ok (.areturn, 1) := by decide +kernel
theorem dX6_unit_193 : decode cX6_unit 193 = .ok (.aload_n 0, 1) := by decide +kernel
theorem dX6_unit_194 : decode cX6_unit 194 = .ok (.invokevirtual 93, 3) := by decide +kernel
theorem dX6_unit_197 : decode cX6_unit 197 = .ok (.areturn, 1) := by decide +kernel
theorem dX6_negation_0 : decode cX6_negation 0 = .ok (.aload_n 0, 1) := by decide +kernel
theorem dX6_negation_1 : decode cX6_negation 1 = .ok (.invokevirtual 66, 3) := by decide +kernel
theorem dX6_negation_4 : decode cX6_negation 4 = .ok (.ifCond .ne 5, 3) := by decide +kernel
theorem dX6_negation_7 : decode cX6_negation 7 = .ok (.aconst_null, 1) := by decide +kernel
theorem dX6_negation_8 : decode cX6_negation 8 = .ok (.areturn, 1) := by decide +kernel
theorem dX6_negation_9 : decode cX6_negation 9 = .ok (.aload_n 0, 1) := by decide +kernel
theorem dX6_negation_10 : decode cX6_negation 10 = .ok (.invokevirtual 73, 3) := by decide +kernel
theorem dX6_negation_13 : decode cX6_negation 13 = .ok (.astore_n 1, 1) := by decide +kernel
theorem dX6_negation_14 : decode cX6_negation 14 = .ok (.aload_n 0, 1) := by decide +kernel
theorem dX6_negation_15 : decode cX6_negation 15 = .ok (.dup, 1) := by decide +kernel
theorem dX6_negation_16 : decode cX6_negation 16 = .ok (.getfield 26, 3) := by decide +kernel
theorem dX6_negation_19 : decode cX6_negation 19 = .ok (.iconst 1, 1) := by decide +kernel
theorem dX6_negation_20 : decode cX6_negation 20 = .ok (.isub, 1) := by decide +kernel
theorem dX6_negation_21 : decode cX6_negation 21 = .ok (.putfield 26, 3) := by decide +kernel
theorem dX6_negation_24 : decode cX6_negation 24 = .ok (.aload_n 0, 1) := by decide +kernel
theorem dX6_negation_25 : decode cX6_negation 25 = .ok (.iconst 5, 1) := by decide +kernel
theorem dX6_negation_26 : decode cX6_negation 26 = .ok (.aload_n 1, 1) := by decide +kernel
theorem dX6_negation_27 : decode cX6_negation 27 = .ok (.invokevirtual 36, 3) := by decide +kernel
theorem dX6_negation_30 : decode cX6_negation 30 = .ok (.areturn, 1) := by decide +kernel
theorem dX6_group_0 : decode cX6_group 0 = .ok (.aload_n 0, 1) := by decide +kernel
theorem dX6_group_1 : decode cX6_group 1 = .ok (.invokevirtual 66, 3) := by decide +kernel
theorem dX6_group_4 : decode cX6_group 4 = .ok (.ifCond .ne 5, 3) := by decide +kernel
theorem dX6_group_7 : decode cX6_group 7 = .ok (.aconst_null, 1) := by decide +kernel
theorem dX6_group_8 : decode cX6_group 8 = .ok (.areturn, 1) := by decide +kernel
theorem dX6_group_9 : decode cX6_group 9 = .ok (.aload_n 0, 1) := by decide +kernel
theorem dX6_group_10 : decode cX6_group 10 = .ok (.invokevirtual 53, 3) := by decide +kernel
theorem dX6_group_13 : decode cX6_group 13 = .ok (.astore_n 1, 1) := by decide +kernel
theorem dX6_group_14 : decode cX6_group 14 = .ok (.aload_n 0, 1) := by decide +kernel
theorem dX6_group_15 : decode cX6_group 15 = .ok (.dup, 1) := by decide +kernel
theorem dX6_group_16 : decode cX6_group 16 = .ok (.getfield 26, 3) := by decide +kernel
theorem dX6_group_19 : decode cX6_group 19 = .ok (.iconst 1, 1) := by decide +kernel
theorem dX6_group_20 : decode cX6_group 20 = .ok (.isub, 1) := by decide +kernel
theorem dX6_group_21 : decode cX6_group 21 = .ok (.putfield 26, 3) := by decide +kernel
theorem dX6_group_24 : decode cX6_group 24 = .ok (.aload_n 1, 1) := by decide +kernel
theorem dX6_group_25 : decode cX6_group 25 = .ok (.ifnull 16, 3) := by decide +kernel
theorem dX6_group_28 : decode cX6_group 28 = .ok (.aload_n 0, 1) := by decide +kernel
theorem dX6_group_29 : decode cX6_group 29 = .ok (.bipush 41, 2) := by decide +kernel
theorem dX6_group_31 : decode cX6_group 31 = .ok (.invokevirtual 40, 3) := by decide +kernel
theorem dX6_group_34 : decode cX6_group 34 = .ok (.ifCond .eq 7, 3) := by decide +kernel
theorem dX6_group_37 : decode cX6_group 37 = .ok (.aload_n 1, 1) := by decide +kernel
theorem dX6_group_38 : decode cX6_group 38 = .ok (.goto 4, 3) := by decide +kernel
theorem dX6_group_41 : decode cX6_group 41 = .ok (.aconst_null, 1) := by decide +kernel
theorem dX6_group_42 : decode cX6_group 42 = .ok (.areturn, 1) := by decide +kernel
theorem dX6_aboutOne_0 : decode cX6_aboutOne 0 = .ok (.aload_n 0, 1) := by decide +kernel
theorem dX6_aboutOne_1 : decode cX6_aboutOne 1 = .ok (.getfield 29, 3) := by decide +kernel
theorem dX6_aboutOne_4 : decode cX6_aboutOne 4 = .ok (.istore_n 3, 1) := by decide +kernel
theorem dX6_aboutOne_5 : decode cX6_aboutOne 5 = .ok (.aload_n 0, 1) := by decide +kernel
theorem dX6_aboutOne_6 : decode cX6_aboutOne 6 = .ok (.invokevirtual 96, 3) := by decide +kernel
theorem dX6_aboutOne_9 : decode cX6_aboutOne 9 = .ok (.ifCond .eq 14, 3) := by decide +kernel
theorem dX6_aboutOne_12 : decode cX6_aboutOne 12 = .ok (.aload_n 0, 1) := by decide +kernel
theorem dX6_aboutOne_13 : decode cX6_aboutOne 13 = .ok (.iload_n 1, 1) := by decide +kernel
theorem dX6_aboutOne_14 : decode cX6_aboutOne 14 = .ok (.iload_n 2, 1) := by decide +kernel
theorem dX6_aboutOne_15 : decode cX6_aboutOne 15 = .ok (.iload_n 3, 1) := by decide +kernel
theorem dX6_aboutOne_16 : decode cX6_aboutOne 16 = .ok (.iload_n 3, 1) := by decide +kernel
theorem dX6_aboutOne_17 : decode cX6_aboutOne 17 = .ok (.invokevirtual 99, 3) := by decide +kernel
theorem dX6_aboutOne_20 : decode cX6_aboutOne 20 = .ok (.goto 4, 3) := by decide +kernel
theorem dX6_aboutOne_23 : decode cX6_aboutOne 23 = .ok (.aconst_null, 1) := by decide +kernel
theorem dX6_aboutOne_24 : decode cX6_aboutOne 24 = .ok (.areturn, 1) := by decide +kernel
theorem dX6_aboutTwo_0 : decode cX6_aboutTwo 0 = .ok (.aload_n 0, 1) := by decide +kernel
theorem dX6_aboutTwo_1 : decode cX6_aboutTwo 1 = .ok (.getfield 29, 3) := by decide +kernel
theorem dX6_aboutTwo_4 : decode cX6_aboutTwo 4 = .ok (.istore_n 2, 1) := by decide +kernel
theorem dX6_aboutTwo_5 : decode cX6_aboutTwo 5 = .ok (.aload_n 0, 1) := by decide +kernel
theorem dX6_aboutTwo_6 : decode cX6_aboutTwo 6 = .ok (.invokevirtual 96, 3) := by decide +kernel
theorem dX6_aboutTwo_9 : decode cX6_aboutTwo 9 = .ok (.ifCond .eq 24, 3) := by decide +kernel
theorem dX6_aboutTwo_12 : decode cX6_aboutTwo 12 = .ok (.aload_n 0, 1) := by decide +kernel
theorem dX6_aboutTwo_13 : decode cX6_aboutTwo 13 = .ok (.invokevirtual 96, 3) := by decide +kernel
theorem dX6_aboutTwo_16 : decode cX6_aboutTwo 16 = .ok (.ifCond .eq 17, 3) := by decide +kernel
theorem dX6_aboutTwo_19 : decode cX6_aboutTwo 19 = .ok (.aload_n 0, 1) := by decide +kernel
theorem dX6_aboutTwo_20 : decode cX6_aboutTwo 20 = .ok (.bipush 8, 2) := by decide +kernel
theorem dX6_aboutTwo_22 : decode cX6_aboutTwo 22 = .ok (.iload_n 1, 1) := by decide +kernel
theorem dX6_aboutTwo_23 : decode cX6_aboutTwo 23 = .ok (.iload_n 2, 1) := by decide +kernel
theorem dX6_aboutTwo_24 : decode cX6_aboutTwo 24 = .ok (.iload_n 2, 1) := by decide +kernel
theorem dX6_aboutTwo_25 : decode cX6_aboutTwo 25 = .ok (.iconst 1, 1) := by decide +kernel
theorem dX6_aboutTwo_26 : decode cX6_aboutTwo 26 = .ok (.iadd, 1) := by decide +kernel
theorem dX6_aboutTwo_27 : decode cX6_aboutTwo 27 = .ok (.invokevirtual 99, 3) := by decide +kernel
theorem dX6_aboutTwo_30 : decode cX6_aboutTwo 30 = .ok (.goto 4, 3) := by decide +kernel
theorem dX6_aboutTwo_33 : decode cX6_aboutTwo 33 = .ok (.aconst_null, 1) := by decide +kernel
theorem dX6_aboutTwo_34 : decode cX6_aboutTwo 34 = .ok (.areturn, 1) := by decide +kernel
theorem dX6_count_0 : decode cX6_count 0 = .ok (.iload_n 1, 1) := by decide +kernel
theorem dX6_count_1 : decode cX6_count 1 = .ok (.iconst 1, 1) := by decide +kernel
theorem dX6_count_2 : decode cX6_count 2 = .ok (.if_icmp .lt 8, 3) := by decide +kernel
theorem dX6_count_5 : decode cX6_count 5 = .ok (.iload_n 1, 1) := by decide +kernel
theorem dX6_count_6 : decode cX6_count 6 = .ok (.iconst 3, 1) := by decide +kernel
theorem dX6_count_7 : decode cX6_count 7 = .ok (.if_icmp .le 5, 3) := by decide +kernel
theorem dX6_count_10 : decode cX6_count 10 = .ok (.aconst_null, 1) := by decide +kernel
theorem dX6_count_11 : decode cX6_count 11 = .ok (.areturn, 1) := by decide +kernel
theorem dX6_count_12 : decode cX6_count 12 = .ok (.aload_n 0, 1) := by decide +kernel
theorem dX6_count_13 : decode cX6_count 13 = .ok (.dup, 1) := by decide +kernel
theorem dX6_count_14 : decode cX6_count 14 = .ok (.getfield 29, 3) := by decide +kernel
theorem dX6_count_17 : decode cX6_count 17 = .ok (.iconst 1, 1) := by decide +kernel
theorem dX6_count_18 : decode cX6_count 18 = .ok (.iadd, 1) := by decide +kernel
theorem dX6_count_19 : decode cX6_count 19 = .ok (.putfield 29, 3) := by decide +kernel
theorem dX6_count_22 : decode cX6_count 22 = .ok (.aload_n 0, 1) := by decide +kernel
theorem dX6_count_23 : decode cX6_count 23 = .ok (.bipush 11, 2) := by decide +kernel
theorem dX6_count_25 : decode cX6_count 25 = .ok (.iload_n 1, 1) := by decide +kernel
theorem dX6_count_26 : decode cX6_count 26 = .ok (.invokevirtual 82, 3) := by decide +kernel
theorem dX6_count_29 : decode cX6_count 29 = .ok (.areturn, 1) := by decide +kernel
theorem dX6_comparison_0 : decode cX6_comparison 0 = .ok (.aload_n 0, 1) := by decide +kernel
theorem dX6_comparison_1 : decode cX6_comparison 1 = .ok (.getfield 29, 3) := by decide +kernel
theorem dX6_comparison_4 : decode cX6_comparison 4 = .ok (.istore_n 1, 1) := by decide +kernel
theorem dX6_comparison_5 : decode cX6_comparison 5 = .ok (.aload_n 0, 1) := by decide +kernel
theorem dX6_comparison_6 : decode cX6_comparison 6 = .ok (.invokevirtual 96, 3) := by decide +kernel
theorem dX6_comparison_9 : decode cX6_comparison 9 = .ok (.ifCond .ne 5, 3) := by decide +kernel
theorem dX6_comparison_12 : decode cX6_comparison 12 = .ok (.aconst_null, 1) := by decide +kernel
theorem dX6_comparison_13 : decode cX6_comparison 13 = .ok (.areturn, 1) := by decide +kernel
theorem dX6_comparison_14 : decode cX6_comparison 14 = .ok (.aload_n 0, 1) := by decide +kernel
theorem dX6_comparison_15 : decode cX6_comparison 15 = .ok (.getfield 17, 3) := by decide +kernel
theorem dX6_comparison_18 : decode cX6_comparison 18 = .ok (.aload_n 0, 1) := by decide +kernel
theorem dX6_comparison_19 : decode cX6_comparison 19 = .ok (.getfield 29, 3) := by decide +kernel
theorem dX6_comparison_22 : decode cX6_comparison 22 = .ok (.invokevirtual 62, 3) := by decide +kernel
theorem dX6_comparison_25 : decode cX6_comparison 25 = .ok (.bipush 61, 2) := by decide +kernel
theorem dX6_comparison_27 : decode cX6_comparison 27 = .ok (.if_icmp .ne 8, 3) := by decide +kernel
theorem dX6_comparison_30 : decode cX6_comparison 30 = .ok (.bipush 9, 2) := by decide +kernel
theorem dX6_comparison_32 : decode cX6_comparison 32 = .ok (.goto 5, 3) := by decide +kernel
theorem dX6_comparison_35 : decode cX6_comparison 35 = .ok (.bipush 10, 2) := by decide +kernel
theorem dX6_comparison_37 : decode cX6_comparison 37 = .ok (.istore_n 2, 1) := by decide +kernel
theorem dX6_comparison_38 : decode cX6_comparison 38 = .ok (.aload_n 0, 1) := by decide +kernel
end
section
theorem dX6_comparison_39 : decode cX6_comparison 39 = .ok (.bipush 61, 2) := by decide +kernel
theorem dX6_comparison_41 : decode cX6_comparison 41 = .ok (.invokevirtual 40, 3) := by decide +kernel
theorem dX6_comparison_44 : decode cX6_comparison 44 = .ok (.ifCond .ne 14, 3) := by decide +kernel
theorem dX6_comparison_47 : decode cX6_comparison 47 = .ok (.aload_n 0, 1) := by decide +kernel
theorem dX6_comparison_48 : decode cX6_comparison 48 = .ok (.bipush 60, 2) := by decide +kernel
theorem dX6_comparison_50 : decode cX6_comparison 50 = .ok (.invokevirtual 40, 3) := by decide +kernel
theorem dX6_comparison_53 : decode cX6_comparison 53 = .ok (.ifCond .ne 5, 3) := by decide +kernel
theorem dX6_comparison_56 : decode cX6_comparison 56 = .ok (.aconst_null, 1) := by decide +kernel
theorem dX6_comparison_57 : decode cX6_comparison 57 = .ok (.areturn, 1) := by decide +kernel
theorem dX6_comparison_58 : decode cX6_comparison 58 = .ok (.aload_n 0, 1) := by decide +kernel
theorem dX6_comparison_59 : decode cX6_comparison 59 = .ok (.invokevirtual 96, 3) := by decide +kernel
theorem dX6_comparison_62 : decode cX6_comparison 62 = .ok (.ifCond .eq 16, 3) := by decide +kernel
theorem dX6_comparison_65 : decode cX6_comparison 65 = .ok (.aload_n 0, 1) := by decide +kernel
theorem dX6_comparison_66 : decode cX6_comparison 66 = .ok (.iload_n 2, 1) := by decide +kernel
theorem dX6_comparison_67 : decode cX6_comparison 67 = .ok (.iconst 0, 1) := by decide +kernel
theorem dX6_comparison_68 : decode cX6_comparison 68 = .ok (.iload_n 1, 1) := by decide +kernel
theorem dX6_comparison_69 : decode cX6_comparison 69 = .ok (.iload_n 1, 1) := by decide +kernel
theorem dX6_comparison_70 : decode cX6_comparison 70 = .ok (.iconst 2, 1) := by decide +kernel
theorem dX6_comparison_71 : decode cX6_comparison 71 = .ok (.iadd, 1) := by decide +kernel
theorem dX6_comparison_72 : decode cX6_comparison 72 = .ok (.invokevirtual 99, 3) := by decide +kernel
theorem dX6_comparison_75 : decode cX6_comparison 75 = .ok (.goto 4, 3) := by decide +kernel
theorem dX6_comparison_78 : decode cX6_comparison 78 = .ok (.aconst_null, 1) := by decide +kernel
theorem dX6_comparison_79 : decode cX6_comparison 79 = .ok (.areturn, 1) := by decide +kernel
theorem dX6_simple_0 : decode cX6_simple 0 = .ok (.aload_n 0, 1) := by decide +kernel
theorem dX6_simple_1 : decode cX6_simple 1 = .ok (.iload_n 1, 1) := by decide +kernel
theorem dX6_simple_2 : decode cX6_simple 2 = .ok (.invokevirtual 103, 3) := by decide +kernel
theorem dX6_simple_5 : decode cX6_simple 5 = .ok (.astore 5, 2) := by decide +kernel
theorem dX6_simple_7 : decode cX6_simple 7 = .ok (.aload 5, 2) := by decide +kernel
theorem dX6_simple_9 : decode cX6_simple 9 = .ok (.ifnull 55, 3) := by decide +kernel
theorem dX6_simple_12 : decode cX6_simple 12 = .ok (.aload 5, 2) := by decide +kernel
theorem dX6_simple_14 : decode cX6_simple 14 = .ok (.iload_n 2, 1) := by decide +kernel
theorem dX6_simple_15 : decode cX6_simple 15 = .ok (.putfield 106, 3) := by decide +kernel
theorem dX6_simple_18 : decode cX6_simple 18 = .ok (.aload 5, 2) := by decide +kernel
theorem dX6_simple_20 : decode cX6_simple 20 = .ok (.iload_n 3, 1) := by decide +kernel
theorem dX6_simple_21 : decode cX6_simple 21 = .ok (.putfield 56, 3) := by decide +kernel
theorem dX6_simple_24 : decode cX6_simple 24 = .ok (.aload 5, 2) := by decide +kernel
theorem dX6_simple_26 : decode cX6_simple 26 = .ok (.iload 4, 2) := by decide +kernel
theorem dX6_simple_28 : decode cX6_simple 28 = .ok (.putfield 109, 3) := by decide +kernel
theorem dX6_simple_31 : decode cX6_simple 31 = .ok (.aload 5, 2) := by decide +kernel
theorem dX6_simple_33 : decode cX6_simple 33 = .ok (.aload_n 0, 1) := by decide +kernel
theorem dX6_simple_34 : decode cX6_simple 34 = .ok (.getfield 17, 3) := by decide +kernel
theorem dX6_simple_37 : decode cX6_simple 37 = .ok (.iload_n 3, 1) := by decide +kernel
theorem dX6_simple_38 : decode cX6_simple 38 = .ok (.invokevirtual 62, 3) := by decide +kernel
theorem dX6_simple_41 : decode cX6_simple 41 = .ok (.bipush 120, 2) := by decide +kernel
theorem dX6_simple_43 : decode cX6_simple 43 = .ok (.isub, 1) := by decide +kernel
theorem dX6_simple_44 : decode cX6_simple 44 = .ok (.putfield 112, 3) := by decide +kernel
theorem dX6_simple_47 : decode cX6_simple 47 = .ok (.aload 5, 2) := by decide +kernel
theorem dX6_simple_49 : decode cX6_simple 49 = .ok (.aload_n 0, 1) := by decide +kernel
theorem dX6_simple_50 : decode cX6_simple 50 = .ok (.getfield 17, 3) := by decide +kernel
theorem dX6_simple_53 : decode cX6_simple 53 = .ok (.iload 4, 2) := by decide +kernel
theorem dX6_simple_55 : decode cX6_simple 55 = .ok (.invokevirtual 62, 3) := by decide +kernel
theorem dX6_simple_58 : decode cX6_simple 58 = .ok (.bipush 120, 2) := by decide +kernel
theorem dX6_simple_60 : decode cX6_simple 60 = .ok (.isub, 1) := by decide +kernel
theorem dX6_simple_61 : decode cX6_simple 61 = .ok (.putfield 115, 3) := by decide +kernel
theorem dX6_simple_64 : decode cX6_simple 64 = .ok (.aload 5, 2) := by decide +kernel
theorem dX6_simple_66 : decode cX6_simple 66 = .ok (.areturn, 1) := by decide +kernel
theorem dX6_holding_0 : decode cX6_holding 0 = .ok (.aload_n 2, 1) := by decide +kernel
theorem dX6_holding_1 : decode cX6_holding 1 = .ok (.ifnonnull 7, 3) := by decide +kernel
theorem dX6_holding_4 : decode cX6_holding 4 = .ok (.aconst_null, 1) := by decide +kernel
theorem dX6_holding_5 : decode cX6_holding 5 = .ok (.goto 13, 3) := by decide +kernel
theorem dX6_holding_8 : decode cX6_holding 8 = .ok (.aload_n 0, 1) := by decide +kernel
theorem dX6_holding_9 : decode cX6_holding 9 = .ok (.aload_n 0, 1) := by decide +kernel
theorem dX6_holding_10 : decode cX6_holding 10 = .ok (.iload_n 1, 1) := by decide +kernel
theorem dX6_holding_11 : decode cX6_holding 11 = .ok (.invokevirtual 103, 3) := by decide +kernel
theorem dX6_holding_14 : decode cX6_holding 14 = .ok (.aload_n 2, 1) := by decide +kernel
theorem dX6_holding_15 : decode cX6_holding 15 = .ok (.invokevirtual 44, 3) := by decide +kernel
theorem dX6_holding_18 : decode cX6_holding 18 = .ok (.areturn, 1) := by decide +kernel
theorem dX6_joined_0 : decode cX6_joined 0 = .ok (.aload_n 1, 1) := by decide +kernel
theorem dX6_joined_1 : decode cX6_joined 1 = .ok (.ifnull 7, 3) := by decide +kernel
theorem dX6_joined_4 : decode cX6_joined 4 = .ok (.aload_n 2, 1) := by decide +kernel
theorem dX6_joined_5 : decode cX6_joined 5 = .ok (.ifnonnull 5, 3) := by decide +kernel
theorem dX6_joined_8 : decode cX6_joined 8 = .ok (.aconst_null, 1) := by decide +kernel
theorem dX6_joined_9 : decode cX6_joined 9 = .ok (.areturn, 1) := by decide +kernel
theorem dX6_joined_10 : decode cX6_joined 10 = .ok (.aload_n 1, 1) := by decide +kernel
theorem dX6_joined_11 : decode cX6_joined 11 = .ok (.aload_n 2, 1) := by decide +kernel
theorem dX6_joined_12 : decode cX6_joined 12 = .ok (.invokevirtual 118, 3) := by decide +kernel
theorem dX6_joined_15 : decode cX6_joined 15 = .ok (.aload_n 1, 1) := by decide +kernel
theorem dX6_joined_16 : decode cX6_joined 16 = .ok (.areturn, 1) := by decide +kernel
theorem dX6_taken_0 : decode cX6_taken 0 = .ok (.aload_n 0, 1) := by decide +kernel
theorem dX6_taken_1 : decode cX6_taken 1 = .ok (.getfield 22, 3) := by decide +kernel
theorem dX6_taken_4 : decode cX6_taken 4 = .ok (.ifCond .lt 24, 3) := by decide +kernel
theorem dX6_taken_7 : decode cX6_taken 7 = .ok (.aload_n 0, 1) := by decide +kernel
theorem dX6_taken_8 : decode cX6_taken 8 = .ok (.getfield 22, 3) := by decide +kernel
theorem dX6_taken_11 : decode cX6_taken 11 = .ok (.bipush 62, 2) := by decide +kernel
theorem dX6_taken_13 : decode cX6_taken 13 = .ok (.if_icmp .ge 15, 3) := by decide +kernel
theorem dX6_taken_16 : decode cX6_taken 16 = .ok (.aload_n 0, 1) := by decide +kernel
theorem dX6_taken_17 : decode cX6_taken 17 = .ok (.getfield 13, 3) := by decide +kernel
theorem dX6_taken_20 : decode cX6_taken 20 = .ok (.aload_n 0, 1) := by decide +kernel
theorem dX6_taken_21 : decode cX6_taken 21 = .ok (.getfield 22, 3) := by decide +kernel
theorem dX6_taken_24 : decode cX6_taken 24 = .ok (.aaload, 1) := by decide +kernel
theorem dX6_taken_25 : decode cX6_taken 25 = .ok (.ifnonnull 5, 3) := by decide +kernel
theorem dX6_taken_28 : decode cX6_taken 28 = .ok (.aconst_null, 1) := by decide +kernel
theorem dX6_taken_29 : decode cX6_taken 29 = .ok (.areturn, 1) := by decide +kernel
theorem dX6_taken_30 : decode cX6_taken 30 = .ok (.aload_n 0, 1) := by decide +kernel
theorem dX6_taken_31 : decode cX6_taken 31 = .ok (.getfield 13, 3) := by decide +kernel
theorem dX6_taken_34 : decode cX6_taken 34 = .ok (.aload_n 0, 1) := by decide +kernel
theorem dX6_taken_35 : decode cX6_taken 35 = .ok (.getfield 22, 3) := by decide +kernel
theorem dX6_taken_38 : decode cX6_taken 38 = .ok (.aaload, 1) := by decide +kernel
theorem dX6_taken_39 : decode cX6_taken 39 = .ok (.astore_n 2, 1) := by decide +kernel
theorem dX6_taken_40 : decode cX6_taken 40 = .ok (.aload_n 0, 1) := by decide +kernel
theorem dX6_taken_41 : decode cX6_taken 41 = .ok (.dup, 1) := by decide +kernel
theorem dX6_taken_42 : decode cX6_taken 42 = .ok (.getfield 22, 3) := by decide +kernel
theorem dX6_taken_45 : decode cX6_taken 45 = .ok (.iconst 1, 1) := by decide +kernel
theorem dX6_taken_46 : decode cX6_taken 46 = .ok (.iadd, 1) := by decide +kernel
theorem dX6_taken_47 : decode cX6_taken 47 = .ok (.putfield 22, 3) := by decide +kernel
theorem dX6_taken_50 : decode cX6_taken 50 = .ok (.aload_n 2, 1) := by decide +kernel
theorem dX6_taken_51 : decode cX6_taken 51 = .ok (.iload_n 1, 1) := by decide +kernel
theorem dX6_taken_52 : decode cX6_taken 52 = .ok (.putfield 122, 3) := by decide +kernel
theorem dX6_taken_55 : decode cX6_taken 55 = .ok (.aload_n 2, 1) := by decide +kernel
theorem dX6_taken_56 : decode cX6_taken 56 = .ok (.aconst_null, 1) := by decide +kernel
theorem dX6_taken_57 : decode cX6_taken 57 = .ok (.putfield 125, 3) := by decide +kernel
theorem dX6_taken_60 : decode cX6_taken 60 = .ok (.aload_n 2, 1) := by decide +kernel
theorem dX6_taken_61 : decode cX6_taken 61 = .ok (.aconst_null, 1) := by decide +kernel
theorem dX6_taken_62 : decode cX6_taken 62 = .ok (.putfield 129, 3) := by decide +kernel
theorem dX6_taken_65 : decode cX6_taken 65 = .ok (.aload_n 2, 1) := by decide +kernel
theorem dX6_taken_66 : decode cX6_taken 66 = .ok (.aconst_null, 1) := by decide +kernel
theorem dX6_taken_67 : decode cX6_taken 67 = .ok (.putfield 132, 3) := by decide +kernel
theorem dX6_taken_70 : decode cX6_taken 70 = .ok (.aload_n 2, 1) := by decide +kernel
theorem dX6_taken_71 : decode cX6_taken 71 = .ok (.aconst_null, 1) := by decide +kernel
theorem dX6_taken_72 : decode cX6_taken 72 = .ok (.putfield 135, 3) := by decide +kernel
theorem dX6_taken_75 : decode cX6_taken 75 = .ok (.aload_n 2, 1) := by decide +kernel
theorem dX6_taken_76 : decode cX6_taken 76 = .ok (.areturn, 1) := by decide +kernel
theorem dX6_skip_0 : decode cX6_skip 0 = .ok (.aload_n 0, 1) := by decide +kernel
theorem dX6_skip_1 : decode cX6_skip 1 = .ok (.getfield 17, 3) := by decide +kernel
theorem dX6_skip_4 : decode cX6_skip 4 = .ok (.aload_n 0, 1) := by decide +kernel
theorem dX6_skip_5 : decode cX6_skip 5 = .ok (.getfield 29, 3) := by decide +kernel
theorem dX6_skip_8 : decode cX6_skip 8 = .ok (.invokevirtual 62, 3) := by decide +kernel
theorem dX6_skip_11 : decode cX6_skip 11 = .ok (.iload_n 1, 1) := by decide +kernel
theorem dX6_skip_12 : decode cX6_skip 12 = .ok (.if_icmp .eq 5, 3) := by decide +kernel
theorem dX6_skip_15 : decode cX6_skip 15 = .ok (.iconst 0, 1) := by decide +kernel
theorem dX6_skip_16 : decode cX6_skip 16 = .ok (.ireturn, 1) := by decide +kernel
theorem dX6_skip_17 : decode cX6_skip 17 = .ok (.aload_n 0, 1) := by decide +kernel
theorem dX6_skip_18 : decode cX6_skip 18 = .ok (.dup, 1) := by decide +kernel
theorem dX6_skip_19 : decode cX6_skip 19 = .ok (.getfield 29, 3) := by decide +kernel
theorem dX6_skip_22 : decode cX6_skip 22 = .ok (.iconst 1, 1) := by decide +kernel
theorem dX6_skip_23 : decode cX6_skip 23 = .ok (.iadd, 1) := by decide +kernel
theorem dX6_skip_24 : decode cX6_skip 24 = .ok (.putfield 29, 3) := by decide +kernel
theorem dX6_skip_27 : decode cX6_skip 27 = .ok (.iconst 1, 1) := by decide +kernel
theorem dX6_skip_28 : decode cX6_skip 28 = .ok (.ireturn, 1) := by decide +kernel
theorem dX6_skipVariable_0 : decode cX6_skipVariable 0 = .ok (.aload_n 0, 1) := by decide +kernel
theorem dX6_skipVariable_1 : decode cX6_skipVariable 1 = .ok (.getfield 17, 3) := by decide +kernel
theorem dX6_skipVariable_4 : decode cX6_skipVariable 4 = .ok (.aload_n 0, 1) := by decide +kernel
theorem dX6_skipVariable_5 : decode cX6_skipVariable 5 = .ok (.getfield 29, 3) := by decide +kernel
theorem dX6_skipVariable_8 : decode cX6_skipVariable 8 = .ok (.invokevirtual 62, 3) := by decide +kernel
theorem dX6_skipVariable_11 : decode cX6_skipVariable 11 = .ok (.istore_n 1, 1) := by decide +kernel
theorem dX6_skipVariable_12 : decode cX6_skipVariable 12 = .ok (.iload_n 1, 1) := by decide +kernel
theorem dX6_skipVariable_13 : decode cX6_skipVariable 13 = .ok (.bipush 120, 2) := by decide +kernel
theorem dX6_skipVariable_15 : decode cX6_skipVariable 15 = .ok (.if_icmp .lt 9, 3) := by decide +kernel
theorem dX6_skipVariable_18 : decode cX6_skipVariable 18 = .ok (.iload_n 1, 1) := by decide +kernel
theorem dX6_skipVariable_19 : decode cX6_skipVariable 19 = .ok (.bipush 122, 2) := by decide +kernel
theorem dX6_skipVariable_21 : decode cX6_skipVariable 21 = .ok (.if_icmp .le 5, 3) := by decide +kernel
theorem dX6_skipVariable_24 : decode cX6_skipVariable 24 = .ok (.iconst 0, 1) := by decide +kernel
theorem dX6_skipVariable_25 : decode cX6_skipVariable 25 = .ok (.ireturn, 1) := by decide +kernel
theorem dX6_skipVariable_26 : decode cX6_skipVariable 26 = .ok (.aload_n 0, 1) := by decide +kernel
theorem dX6_skipVariable_27 : decode cX6_skipVariable 27 = .ok (.dup, 1) := by decide +kernel
theorem dX6_skipVariable_28 : decode cX6_skipVariable 28 = .ok (.getfield 29, 3) := by decide +kernel
theorem dX6_skipVariable_31 : decode cX6_skipVariable 31 = .ok (.iconst 1, 1) := by decide +kernel
theorem dX6_skipVariable_32 : decode cX6_skipVariable 32 = .ok (.iadd, 1) := by decide +kernel
theorem dX6_skipVariable_33 : decode cX6_skipVariable 33 = .ok (.putfield 29, 3) := by decide +kernel
theorem dX6_skipVariable_36 : decode cX6_skipVariable 36 = .ok (.iconst 1, 1) := by decide +kernel
theorem dX6_skipVariable_37 : decode cX6_skipVariable 37 = .ok (.ireturn, 1) := by decide +kernel
theorem dX6_openSign_0 : decode cX6_openSign 0 = .ok (.aload_n 0, 1) := by decide +kernel
theorem dX6_openSign_1 : decode cX6_openSign 1 = .ok (.getfield 26, 3) := by decide +kernel
theorem dX6_openSign_4 : decode cX6_openSign 4 = .ok (.bipush 8, 2) := by decide +kernel
theorem dX6_openSign_6 : decode cX6_openSign 6 = .ok (.if_icmp .lt 5, 3) := by decide +kernel
theorem dX6_openSign_9 : decode cX6_openSign 9 = .ok (.iconst 0, 1) := by decide +kernel
theorem dX6_openSign_10 : decode cX6_openSign 10 = .ok (.ireturn, 1) := by decide +kernel
theorem dX6_openSign_11 : decode cX6_openSign 11 = .ok (.aload_n 0, 1) := by decide +kernel
theorem dX6_openSign_12 : decode cX6_openSign 12 = .ok (.dup, 1) := by decide +kernel
theorem dX6_openSign_13 : decode cX6_openSign 13 = .ok (.getfield 26, 3) := by decide +kernel
theorem dX6_openSign_16 : decode cX6_openSign 16 = .ok (.iconst 1, 1) := by decide +kernel
theorem dX6_openSign_17 : decode cX6_openSign 17 = .ok (.iadd, 1) := by decide +kernel
theorem dX6_openSign_18 : decode cX6_openSign 18 = .ok (.putfield 26, 3) := by decide +kernel
theorem dX6_openSign_21 : decode cX6_openSign 21 = .ok (.aload_n 0, 1) := by decide +kernel
theorem dX6_openSign_22 : decode cX6_openSign 22 = .ok (.dup, 1) := by decide +kernel
theorem dX6_openSign_23 : decode cX6_openSign 23 = .ok (.getfield 29, 3) := by decide +kernel
theorem dX6_openSign_26 : decode cX6_openSign 26 = .ok (.iconst 1, 1) := by decide +kernel
theorem dX6_openSign_27 : decode cX6_openSign 27 = .ok (.iadd, 1) := by decide +kernel
theorem dX6_openSign_28 : decode cX6_openSign 28 = .ok (.putfield 29, 3) := by decide +kernel
theorem dX6_openSign_31 : decode cX6_openSign 31 = .ok (.iconst 1, 1) := by decide +kernel
theorem dX6_openSign_32 : decode cX6_openSign 32 = .ok (.ireturn, 1) := by decide +kernel
theorem dX7_init_0 : decode cX7_init 0 = .ok (.aload_n 0, 1) := by decide +kernel
theorem dX7_init_1 : decode cX7_init 1 = .ok (.invokespecial 1, 3) := by decide +kernel
theorem dX7_init_4 : decode cX7_init 4 = .ok (.aload_n 0, 1) := by decide +kernel
theorem dX7_init_5 : decode cX7_init 5 = .ok (.new 7, 3) := by decide +kernel
theorem dX7_init_8 : decode cX7_init 8 = .ok (.dup, 1) := by decide +kernel
theorem dX7_init_9 : decode cX7_init 9 = .ok (.invokespecial 9, 3) := by decide +kernel
theorem dX7_init_12 : decode cX7_init 12 = .ok (.putfield 10, 3) := by decide +kernel
theorem dX7_init_15 : decode cX7_init 15 = .ok (.aload_n 0, 1) := by decide +kernel
theorem dX7_init_16 : decode cX7_init 16 = .ok (.new 16, 3) := by decide +kernel
theorem dX7_init_19 : decode cX7_init 19 = .ok (.dup, 1) := by decide +kernel
theorem dX7_init_20 : decode cX7_init 20 = .ok (.invokespecial 18, 3) := by decide +kernel
theorem dX7_init_23 : decode cX7_init 23 = .ok (.putfield 19, 3) := by decide +kernel
theorem dX7_init_26 : decode cX7_init 26 = .ok (.aload_n 0, 1) := by decide +kernel
theorem dX7_init_27 : decode cX7_init 27 = .ok (.getfield 19, 3) := by decide +kernel
theorem dX7_init_30 : decode cX7_init 30 = .ok (.invokevirtual 23, 3) := by decide +kernel
theorem dX7_init_33 : decode cX7_init 33 = .ok (.return_, 1) := by decide +kernel
theorem dX7_forgetContext_0 : decode cX7_forgetContext 0 = .ok (.aload_n 0, 1) := by decide +kernel
theorem dX7_forgetContext_1 : decode cX7_forgetContext 1 = .ok (.getfield 19, 3) := by decide +kernel
theorem dX7_forgetContext_4 : decode cX7_forgetContext 4 = .ok (.invokevirtual 23, 3) := by decide +kernel
theorem dX7_forgetContext_7 : decode cX7_forgetContext 7 = .ok (.aload_n 0, 1) := by decide +kernel
theorem dX7_forgetContext_8 : decode cX7_forgetContext 8 = .ok (.iconst 0, 1) := by decide +kernel
theorem dX7_forgetContext_9 : decode cX7_forgetContext 9 = .ok (.putfield 26, 3) := by decide +kernel
theorem dX7_forgetContext_12 : decode cX7_forgetContext 12 = .ok (.return_, 1) := by decide +kernel
theorem dX7_knows_0 : decode cX7_knows 0 = .ok (.aload_n 0, 1) := by decide +kernel
theorem dX7_knows_1 : decode cX7_knows 1 = .ok (.getfield 26, 3) := by decide +kernel
theorem dX7_knows_4 : decode cX7_knows 4 = .ok (.iload_n 1, 1) := by decide +kernel
theorem dX7_knows_5 : decode cX7_knows 5 = .ok (.iushr, 1) := by decide +kernel
theorem dX7_knows_6 : decode cX7_knows 6 = .ok (.iconst 1, 1) := by decide +kernel
theorem dX7_knows_7 : decode cX7_knows 7 = .ok (.iand, 1) := by decide +kernel
theorem dX7_knows_8 : decode cX7_knows 8 = .ok (.ifCond .eq 7, 3) := by decide +kernel
theorem dX7_knows_11 : decode cX7_knows 11 = .ok (.iconst 1, 1) := by decide +kernel
theorem dX7_knows_12 : decode cX7_knows 12 = .ok (.goto 4, 3) := by decide +kernel
theorem dX7_knows_15 : decode cX7_knows 15 = .ok (.iconst 0, 1) := by decide +kernel
theorem dX7_knows_16 : decode cX7_knows 16 = .ok (.ireturn, 1) := by decide +kernel
theorem dX7_copyFrom_0 : decode cX7_copyFrom 0 = .ok (.aload_n 0, 1) := by decide +kernel
theorem dX7_copyFrom_1 : decode cX7_copyFrom 1 = .ok (.getfield 10, 3) := by decide +kernel
theorem dX7_copyFrom_4 : decode cX7_copyFrom 4 = .ok (.aload_n 1, 1) := by decide +kernel
theorem dX7_copyFrom_5 : decode cX7_copyFrom 5 = .ok (.getfield 10, 3) := by decide +kernel
theorem dX7_copyFrom_8 : decode cX7_copyFrom 8 = .ok (.invokevirtual 30, 3) := by decide +kernel
theorem dX7_copyFrom_11 : decode cX7_copyFrom 11 = .ok (.aload_n 0, 1) := by decide +kernel
theorem dX7_copyFrom_12 : decode cX7_copyFrom 12 = .ok (.getfield 19, 3) := by decide +kernel
theorem dX7_copyFrom_15 : decode cX7_copyFrom 15 = .ok (.aload_n 1, 1) := by decide +kernel
theorem dX7_copyFrom_16 : decode cX7_copyFrom 16 = .ok (.getfield 19, 3) := by decide +kernel
theorem dX7_copyFrom_19 : decode cX7_copyFrom 19 = .ok (.invokevirtual 34, 3) := by decide +kernel
theorem dX7_copyFrom_22 : decode cX7_copyFrom 22 = .ok (.aload_n 0, 1) := by decide +kernel
theorem dX7_copyFrom_23 : decode cX7_copyFrom 23 = .ok (.aload_n 1, 1) := by decide +kernel
theorem dX7_copyFrom_24 : decode cX7_copyFrom 24 = .ok (.getfield 26, 3) := by decide +kernel
theorem dX7_copyFrom_27 : decode cX7_copyFrom 27 = .ok (.putfield 26, 3) := by decide +kernel
theorem dX7_copyFrom_30 : decode cX7_copyFrom 30 = .ok (.aload_n 0, 1) := by decide +kernel
theorem dX7_copyFrom_31 : decode cX7_copyFrom 31 = .ok (.aload_n 1, 1) := by decide +kernel
theorem dX7_copyFrom_32 : decode cX7_copyFrom 32 = .ok (.getfield 37, 3) := by decide +kernel
theorem dX7_copyFrom_35 : decode cX7_copyFrom 35 = .ok (.putfield 37, 3) := by decide +kernel
theorem dX7_copyFrom_38 : decode cX7_copyFrom 38 = .ok (.aload_n 0, 1) := by decide +kernel
theorem dX7_copyFrom_39 : decode cX7_copyFrom 39 = .ok (.aload_n 1, 1) := by decide +kernel
theorem dX7_copyFrom_40 : decode cX7_copyFrom 40 = .ok (.getfield 41, 3) := by decide +kernel
theorem dX7_copyFrom_43 : decode cX7_copyFrom 43 = .ok (.putfield 41, 3) := by decide +kernel
theorem dX7_copyFrom_46 : decode cX7_copyFrom 46 = .ok (.return_, 1) := by decide +kernel
theorem dX8_init_0 : decode cX8_init 0 = .ok (.aload_n 0, 1) := by decide +kernel
theorem dX8_init_1 : decode cX8_init 1 = .ok (.invokespecial 3, 3) := by decide +kernel
theorem dX8_init_4 : decode cX8_init 4 = .ok (.aload_n 0, 1) := by decide +kernel
theorem dX8_init_5 : decode cX8_init 5 = .ok (.bipush 60, 2) := by decide +kernel
theorem dX8_init_7 : decode cX8_init 7 = .ok (.newarray .char, 2) := by decide +kernel
theorem dX8_init_9 : decode cX8_init 9 = .ok (.putfield 9, 3) := by decide +kernel
theorem dX8_init_12 : decode cX8_init 12 = .ok (.return_, 1) := by decide +kernel
theorem dX8_append_0 : decode cX8_append 0 = .ok (.aload_n 0, 1) := by decide +kernel
theorem dX8_append_1 : decode cX8_append 1 = .ok (.getfield 15, 3) := by decide +kernel
theorem dX8_append_4 : decode cX8_append 4 = .ok (.ifCond .lt 12, 3) := by decide +kernel
theorem dX8_append_7 : decode cX8_append 7 = .ok (.aload_n 0, 1) := by decide +kernel
theorem dX8_append_8 : decode cX8_append 8 = .ok (.getfield 15, 3) := by decide +kernel
theorem dX8_append_11 : decode cX8_append 11 = .ok (.bipush 60, 2) := by decide +kernel
theorem dX8_append_13 : decode cX8_append 13 = .ok (.if_icmp .lt 5, 3) := by decide +kernel
theorem dX8_append_16 : decode cX8_append 16 = .ok (.iconst 0, 1) := by decide +kernel
theorem dX8_append_17 : decode cX8_append 17 = .ok (.ireturn, 1) := by decide +kernel
theorem dX8_append_18 : decode cX8_append 18 = .ok (.aload_n 0, 1) := by decide +kernel
theorem dX8_append_19 : decode cX8_append 19 = .ok (.getfield 9, 3) := by decide +kernel
theorem dX8_append_22 : decode cX8_append 22 = .ok (.aload_n 0, 1) := by decide +kernel
theorem dX8_append_23 : decode cX8_append 23 = .ok (.getfield 15, 3) := by decide +kernel
theorem dX8_append_26 : decode cX8_append 26 = .ok (.iload_n 1, 1) := by decide +kernel
theorem dX8_append_27 : decode cX8_append 27 = .ok (.castore, 1) := by decide +kernel
theorem dX8_append_28 : decode cX8_append 28 = .ok (.aload_n 0, 1) := by decide +kernel
theorem dX8_append_29 : decode cX8_append 29 = .ok (.dup, 1) := by decide +kernel
theorem dX8_append_30 : decode cX8_append 30 = .ok (.getfield 15, 3) := by decide +kernel
theorem dX8_append_33 : decode cX8_append 33 = .ok (.iconst 1, 1) := by decide +kernel
theorem dX8_append_34 : decode cX8_append 34 = .ok (.iadd, 1) := by decide +kernel
theorem dX8_append_35 : decode cX8_append 35 = .ok (.putfield 15, 3) := by decide +kernel
theorem dX8_append_38 : decode cX8_append 38 = .ok (.iconst 1, 1) := by decide +kernel
theorem dX8_append_39 : decode cX8_append 39 = .ok (.ireturn, 1) := by decide +kernel
theorem dX8_at_0 : decode cX8_at 0 = .ok (.iload_n 1, 1) := by decide +kernel
theorem dX8_at_1 : decode cX8_at 1 = .ok (.ifCond .lt 26, 3) := by decide +kernel
theorem dX8_at_4 : decode cX8_at 4 = .ok (.iload_n 1, 1) := by decide +kernel
theorem dX8_at_5 : decode cX8_at 5 = .ok (.aload_n 0, 1) := by decide +kernel
theorem dX8_at_6 : decode cX8_at 6 = .ok (.getfield 15, 3) := by decide +kernel
theorem dX8_at_9 : decode cX8_at 9 = .ok (.if_icmp .ge 18, 3) := by decide +kernel
theorem dX8_at_12 : decode cX8_at 12 = .ok (.iload_n 1, 1) := by decide +kernel
theorem dX8_at_13 : decode cX8_at 13 = .ok (.bipush 60, 2) := by decide +kernel
theorem dX8_at_15 : decode cX8_at 15 = .ok (.if_icmp .ge 12, 3) := by decide +kernel
theorem dX8_at_18 : decode cX8_at 18 = .ok (.aload_n 0, 1) := by decide +kernel
theorem dX8_at_19 : decode cX8_at 19 = .ok (.getfield 9, 3) := by decide +kernel
theorem dX8_at_22 : decode cX8_at 22 = .ok (.iload_n 1, 1) := by decide +kernel
theorem dX8_at_23 : decode cX8_at 23 = .ok (.caload, 1) := by decide +kernel
theorem dX8_at_24 : decode cX8_at 24 = .ok (.goto 4, 3) := by decide +kernel
theorem dX8_at_27 : decode cX8_at 27 = .ok (.iconst 0, 1) := by decide +kernel
theorem dX8_at_28 : decode cX8_at 28 = .ok (.ireturn, 1) := by decide +kernel
theorem dX9_init_0 : decode cX9_init 0 = .ok (.aload_n 0, 1) := by decide +kernel
theorem dX9_init_1 : decode cX9_init 1 = .ok (.invokespecial 3, 3) := by decide +kernel
theorem dX9_init_4 : decode cX9_init 4 = .ok (.aload_n 0, 1) := by decide +kernel
theorem dX9_init_5 : decode cX9_init 5 = .ok (.iconst 2, 1) := by decide +kernel
theorem dX9_init_6 : decode cX9_init 6 = .ok (.putfield 9, 3) := by decide +kernel
theorem dX9_init_9 : decode cX9_init 9 = .ok (.aload_n 0, 1) := by decide +kernel
theorem dX9_init_10 : decode cX9_init 10 = .ok (.iconst 3, 1) := by decide +kernel
theorem dX9_init_11 : decode cX9_init 11 = .ok (.newarray .int, 2) := by decide +kernel
theorem dX9_init_13 : decode cX9_init 13 = .ok (.putfield 15, 3) := by decide +kernel
theorem dX9_init_16 : decode cX9_init 16 = .ok (.aload_n 0, 1) := by decide +kernel
theorem dX9_init_17 : decode cX9_init 17 = .ok (.iconst 2, 1) := by decide +kernel
theorem dX9_init_18 : decode cX9_init 18 = .ok (.newarray .int, 2) := by decide +kernel
theorem dX9_init_20 : decode cX9_init 20 = .ok (.putfield 19, 3) := by decide +kernel
theorem dX9_init_23 : decode cX9_init 23 = .ok (.return_, 1) := by decide +kernel
theorem dX9_begin_0 : decode cX9_begin 0 = .ok (.aload_n 0, 1) := by decide +kernel
theorem dX9_begin_1 : decode cX9_begin 1 = .ok (.iload_n 1, 1) := by decide +kernel
theorem dX9_begin_2 : decode cX9_begin 2 = .ok (.putfield 9, 3) := by decide +kernel
theorem dX9_begin_5 : decode cX9_begin 5 = .ok (.iconst 0, 1) := by decide +kernel
theorem dX9_begin_6 : decode cX9_begin 6 = .ok (.istore_n 2, 1) := by decide +kernel
theorem dX9_begin_7 : decode cX9_begin 7 = .ok (.iload_n 2, 1) := by decide +kernel
theorem dX9_begin_8 : decode cX9_begin 8 = .ok (.iconst 3, 1) := by decide +kernel
theorem dX9_begin_9 : decode cX9_begin 9 = .ok (.if_icmp .ge 16, 3) := by decide +kernel
theorem dX9_begin_12 : decode cX9_begin 12 = .ok (.aload_n 0, 1) := by decide +kernel
theorem dX9_begin_13 : decode cX9_begin 13 = .ok (.getfield 15, 3) := by decide +kernel
theorem dX9_begin_16 : decode cX9_begin 16 = .ok (.iload_n 2, 1) := by decide +kernel
theorem dX9_begin_17 : decode cX9_begin 17 = .ok (.iconst 0, 1) := by decide +kernel
theorem dX9_begin_18 : decode cX9_begin 18 = .ok (.iastore, 1) := by decide +kernel
theorem dX9_begin_19 : decode cX9_begin 19 = .ok (.iinc 2 1, 3) := by decide +kernel
theorem dX9_begin_22 : decode cX9_begin 22 = .ok (.goto (-15), 3) := by decide +kernel
theorem dX9_begin_25 : decode cX9_begin 25 = .ok (.iconst 0, 1) := by decide +kernel
theorem dX9_begin_26 : decode cX9_begin 26 = .ok (.istore_n 2, 1) := by decide +kernel
theorem dX9_begin_27 : decode cX9_begin 27 = .ok (.iload_n 2, 1) := by decide +kernel
theorem dX9_begin_28 : decode cX9_begin 28 = .ok (.iconst 2, 1) := by decide +kernel
theorem dX9_begin_29 : decode cX9_begin 29 = .ok (.if_icmp .ge 16, 3) := by decide +kernel
theorem dX9_begin_32 : decode cX9_begin 32 = .ok (.aload_n 0, 1) := by decide +kernel
theorem dX9_begin_33 : decode cX9_begin 33 = .ok (.getfield 19, 3) := by decide +kernel
theorem dX9_begin_36 : decode cX9_begin 36 = .ok (.iload_n 2, 1) := by decide +kernel
theorem dX9_begin_37 : decode cX9_begin 37 = .ok (.iconst 0, 1) := by decide +kernel
theorem dX9_begin_38 : decode cX9_begin 38 = .ok (.iastore, 1) := by decide +kernel
theorem dX9_begin_39 : decode cX9_begin 39 = .ok (.iinc 2 1, 3) := by decide +kernel
theorem dX9_begin_42 : decode cX9_begin 42 = .ok (.goto (-15), 3) := by decide +kernel
theorem dX9_begin_45 : decode cX9_begin 45 = .ok (.return_, 1) := by decide +kernel
theorem dX9_copyFrom_0 : decode cX9_copyFrom 0 = .ok (.aload_n 0, 1) := by decide +kernel
theorem dX9_copyFrom_1 : decode cX9_copyFrom 1 = .ok (.aload_n 1, 1) := by decide +kernel
theorem dX9_copyFrom_2 : decode cX9_copyFrom 2 = .ok (.getfield 9, 3) := by decide +kernel
theorem dX9_copyFrom_5 : decode cX9_copyFrom 5 = .ok (.putfield 9, 3) := by decide +kernel
theorem dX9_copyFrom_8 : decode cX9_copyFrom 8 = .ok (.iconst 0, 1) := by decide +kernel
theorem dX9_copyFrom_9 : decode cX9_copyFrom 9 = .ok (.istore_n 2, 1) := by decide +kernel
theorem dX9_copyFrom_10 : decode cX9_copyFrom 10 = .ok (.iload_n 2, 1) := by decide +kernel
theorem dX9_copyFrom_11 : decode cX9_copyFrom 11 = .ok (.iconst 3, 1) := by decide +kernel
theorem dX9_copyFrom_12 : decode cX9_copyFrom 12 = .ok (.if_icmp .ge 21, 3) := by decide +kernel
theorem dX9_copyFrom_15 : decode cX9_copyFrom 15 = .ok (.aload_n 0, 1) := by decide +kernel
theorem dX9_copyFrom_16 : decode cX9_copyFrom 16 = .ok (.getfield 15, 3) := by decide +kernel
theorem dX9_copyFrom_19 : decode cX9_copyFrom 19 = .ok (.iload_n 2, 1) := by decide +kernel
theorem dX9_copyFrom_20 : decode cX9_copyFrom 20 = .ok (.aload_n 1, 1) := by decide +kernel
theorem dX9_copyFrom_21 : decode cX9_copyFrom 21 = .ok (.getfield 15, 3) := by decide +kernel
theorem dX9_copyFrom_24 : decode cX9_copyFrom 24 = .ok (.iload_n 2, 1) := by decide +kernel
theorem dX9_copyFrom_25 : decode cX9_copyFrom 25 = .ok (.iaload, 1) := by decide +kernel
theorem dX9_copyFrom_26 : decode cX9_copyFrom 26 = .ok (.iastore, 1) := by decide +kernel
theorem dX9_copyFrom_27 : decode cX9_copyFrom 27 = .ok (.iinc 2 1, 3) := by decide +kernel
theorem dX9_copyFrom_30 : decode cX9_copyFrom 30 = .ok (.goto (-20), 3) := by decide +kernel
theorem dX9_copyFrom_33 : decode cX9_copyFrom 33 = .ok (.iconst 0, 1) := by decide +kernel
theorem dX9_copyFrom_34 : decode cX9_copyFrom 34 = .ok (.istore_n 2, 1) := by decide +kernel
theorem dX9_copyFrom_35 : decode cX9_copyFrom 35 = .ok (.iload_n 2, 1) := by decide +kernel
theorem dX9_copyFrom_36 : decode cX9_copyFrom 36 = .ok (.iconst 2, 1) := by decide +kernel
theorem dX9_copyFrom_37 : decode cX9_copyFrom 37 = .ok (.if_icmp .ge 21, 3) := by decide +kernel
theorem dX9_copyFrom_40 : decode cX9_copyFrom 40 = .ok (.aload_n 0, 1) := by decide +kernel
theorem dX9_copyFrom_41 : decode cX9_copyFrom 41 = .ok (.getfield 19, 3) := by decide +kernel
theorem dX9_copyFrom_44 : decode cX9_copyFrom 44 = .ok (.iload_n 2, 1) := by decide +kernel
theorem dX9_copyFrom_45 : decode cX9_copyFrom 45 = .ok (.aload_n 1, 1) := by decide +kernel
theorem dX9_copyFrom_46 : decode cX9_copyFrom 46 = .ok (.getfield 19, 3) := by decide +kernel
theorem dX9_copyFrom_49 : decode cX9_copyFrom 49 = .ok (.iload_n 2, 1) := by decide +kernel
theorem dX9_copyFrom_50 : decode cX9_copyFrom 50 = .ok (.iaload, 1) := by decide +kernel
theorem dX9_copyFrom_51 : decode cX9_copyFrom 51 = .ok (.iastore, 1) := by decide +kernel
theorem dX9_copyFrom_52 : decode cX9_copyFrom 52 = .ok (.iinc 2 1, 3) := by decide +kernel
theorem dX9_copyFrom_55 : decode cX9_copyFrom 55 = .ok (.goto (-20), 3) := by decide +kernel
theorem dX9_copyFrom_58 : decode cX9_copyFrom 58 = .ok (.return_, 1) := by decide +kernel
theorem dX9_everybody_0 : decode cX9_everybody 0 = .ok (.iconst 1, 1) := by decide +kernel
theorem dX9_everybody_1 : decode cX9_everybody 1 = .ok (.aload_n 0, 1) := by decide +kernel
theorem dX9_everybody_2 : decode cX9_everybody 2 = .ok (.getfield 9, 3) := by decide +kernel
theorem dX9_everybody_5 : decode cX9_everybody 5 = .ok (.ishl, 1) := by decide +kernel
theorem dX9_everybody_6 : decode cX9_everybody 6 = .ok (.iconst 1, 1) := by decide +kernel
theorem dX9_everybody_7 : decode cX9_everybody 7 = .ok (.isub, 1) := by decide +kernel
theorem dX9_everybody_8 : decode cX9_everybody 8 = .ok (.ireturn, 1) := by decide +kernel
theorem dX9_setOf_0 : decode cX9_setOf 0 = .ok (.iload_n 1, 1) := by decide +kernel
theorem dX9_setOf_1 : decode cX9_setOf 1 = .ok (.invokestatic 22, 3) := by decide +kernel
theorem dX9_setOf_4 : decode cX9_setOf 4 = .ok (.ifCond .eq 12, 3) := by decide +kernel
theorem dX9_setOf_7 : decode cX9_setOf 7 = .ok (.aload_n 0, 1) := by decide +kernel
theorem dX9_setOf_8 : decode cX9_setOf 8 = .ok (.getfield 15, 3) := by decide +kernel
theorem dX9_setOf_11 : decode cX9_setOf 11 = .ok (.iload_n 1, 1) := by decide +kernel
theorem dX9_setOf_12 : decode cX9_setOf 12 = .ok (.iaload, 1) := by decide +kernel
theorem dX9_setOf_13 : decode cX9_setOf 13 = .ok (.goto 4, 3) := by decide +kernel
theorem dX9_setOf_16 : decode cX9_setOf 16 = .ok (.iconst 0, 1) := by decide +kernel
theorem dX9_setOf_17 : decode cX9_setOf 17 = .ok (.ireturn, 1) := by decide +kernel
theorem dX9_giveSet_0 : decode cX9_giveSet 0 = .ok (.iload_n 1, 1) := by decide +kernel
theorem dX9_giveSet_1 : decode cX9_giveSet 1 = .ok (.invokestatic 22, 3) := by decide +kernel
theorem dX9_giveSet_4 : decode cX9_giveSet 4 = .ok (.ifCond .eq 10, 3) := by decide +kernel
theorem dX9_giveSet_7 : decode cX9_giveSet 7 = .ok (.aload_n 0, 1) := by decide +kernel
theorem dX9_giveSet_8 : decode cX9_giveSet 8 = .ok (.getfield 15, 3) := by decide +kernel
theorem dX9_giveSet_11 : decode cX9_giveSet 11 = .ok (.iload_n 1, 1) := by decide +kernel
theorem dX9_giveSet_12 : decode cX9_giveSet 12 = .ok (.iload_n 2, 1) := by decide +kernel
theorem dX9_giveSet_13 : decode cX9_giveSet 13 = .ok (.iastore, 1) := by decide +kernel
theorem dX9_giveSet_14 : decode cX9_giveSet 14 = .ok (.return_, 1) := by decide +kernel
theorem dX9_hasPair_0 : decode cX9_hasPair 0 = .ok (.iload_n 1, 1) := by decide +kernel
theorem dX9_hasPair_1 : decode cX9_hasPair 1 = .ok (.invokestatic 26, 3) := by decide +kernel
theorem dX9_hasPair_4 : decode cX9_hasPair 4 = .ok (.ifCond .eq 24, 3) := by decide +kernel
theorem dX9_hasPair_7 : decode cX9_hasPair 7 = .ok (.aload_n 0, 1) := by decide +kernel
theorem dX9_hasPair_8 : decode cX9_hasPair 8 = .ok (.getfield 19, 3) := by decide +kernel
theorem dX9_hasPair_11 : decode cX9_hasPair 11 = .ok (.iload_n 1, 1) := by decide +kernel
theorem dX9_hasPair_12 : decode cX9_hasPair 12 = .ok (.iaload, 1) := by decide +kernel
theorem dX9_hasPair_13 : decode cX9_hasPair 13 = .ok (.iconst 3, 1) := by decide +kernel
theorem dX9_hasPair_14 : decode cX9_hasPair 14 = .ok (.iload_n 2, 1) := by decide +kernel
theorem dX9_hasPair_15 : decode cX9_hasPair 15 = .ok (.imul, 1) := by decide +kernel
theorem dX9_hasPair_16 : decode cX9_hasPair 16 = .ok (.iload_n 3, 1) := by decide +kernel
theorem dX9_hasPair_17 : decode cX9_hasPair 17 = .ok (.iadd, 1) := by decide +kernel
theorem dX9_hasPair_18 : decode cX9_hasPair 18 = .ok (.iushr, 1) := by decide +kernel
theorem dX9_hasPair_19 : decode cX9_hasPair 19 = .ok (.iconst 1, 1) := by decide +kernel
theorem dX9_hasPair_20 : decode cX9_hasPair 20 = .ok (.iand, 1) := by decide +kernel
theorem dX9_hasPair_21 : decode cX9_hasPair 21 = .ok (.ifCond .eq 7, 3) := by decide +kernel
theorem dX9_hasPair_24 : decode cX9_hasPair 24 = .ok (.iconst 1, 1) := by decide +kernel
theorem dX9_hasPair_25 : decode cX9_hasPair 25 = .ok (.goto 4, 3) := by decide +kernel
theorem dX9_hasPair_28 : decode cX9_hasPair 28 = .ok (.iconst 0, 1) := by decide +kernel
theorem dX9_hasPair_29 : decode cX9_hasPair 29 = .ok (.ireturn, 1) := by decide +kernel
theorem dX9_putPair_0 : decode cX9_putPair 0 = .ok (.iload_n 1, 1) := by decide +kernel
theorem dX9_putPair_1 : decode cX9_putPair 1 = .ok (.invokestatic 26, 3) := by decide +kernel
theorem dX9_putPair_4 : decode cX9_putPair 4 = .ok (.ifCond .eq 46, 3) := by decide +kernel
theorem dX9_putPair_7 : decode cX9_putPair 7 = .ok (.iconst 1, 1) := by decide +kernel
theorem dX9_putPair_8 : decode cX9_putPair 8 = .ok (.iconst 3, 1) := by decide +kernel
theorem dX9_putPair_9 : decode cX9_putPair 9 = .ok (.iload_n 2, 1) := by decide +kernel
theorem dX9_putPair_10 : decode cX9_putPair 10 = .ok (.imul, 1) := by decide +kernel
theorem dX9_putPair_11 : decode cX9_putPair 11 = .ok (.iload_n 3, 1) := by decide +kernel
theorem dX9_putPair_12 : decode cX9_putPair 12 = .ok (.iadd, 1) := by decide +kernel
theorem dX9_putPair_13 : decode cX9_putPair 13 = .ok (.ishl, 1) := by decide +kernel
theorem dX9_putPair_14 : decode cX9_putPair 14 = .ok (.istore 5, 2) := by decide +kernel
theorem dX9_putPair_16 : decode cX9_putPair 16 = .ok (.aload_n 0, 1) := by decide +kernel
theorem dX9_putPair_17 : decode cX9_putPair 17 = .ok (.getfield 19, 3) := by decide +kernel
theorem dX9_putPair_20 : decode cX9_putPair 20 = .ok (.iload_n 1, 1) := by decide +kernel
theorem dX9_putPair_21 : decode cX9_putPair 21 = .ok (.iload 4, 2) := by decide +kernel
theorem dX9_putPair_23 : decode cX9_putPair 23 = .ok (.ifCond .eq 15, 3) := by decide +kernel
theorem dX9_putPair_26 : decode cX9_putPair 26 = .ok (.aload_n 0, 1) := by decide +kernel
theorem dX9_putPair_27 : decode cX9_putPair 27 = .ok (.getfield 19, 3) := by decide +kernel
theorem dX9_putPair_30 : decode cX9_putPair 30 = .ok (.iload_n 1, 1) := by decide +kernel
theorem dX9_putPair_31 : decode cX9_putPair 31 = .ok (.iaload, 1) := by decide +kernel
theorem dX9_putPair_32 : decode cX9_putPair 32 = .ok (.iload 5, 2) := by decide +kernel
theorem dX9_putPair_34 : decode cX9_putPair 34 = .ok (.ior, 1) := by decide +kernel
theorem dX9_putPair_35 : decode cX9_putPair 35 = .ok (.goto 14, 3) := by decide +kernel
theorem dX9_putPair_38 : decode cX9_putPair 38 = .ok (.aload_n 0, 1) := by decide +kernel
theorem dX9_putPair_39 : decode cX9_putPair 39 = .ok (.getfield 19, 3) := by decide +kernel
theorem dX9_putPair_42 : decode cX9_putPair 42 = .ok (.iload_n 1, 1) := by decide +kernel
theorem dX9_putPair_43 : decode cX9_putPair 43 = .ok (.iaload, 1) := by decide +kernel
theorem dX9_putPair_44 : decode cX9_putPair 44 = .ok (.iload 5, 2) := by decide +kernel
theorem dX9_putPair_46 : decode cX9_putPair 46 = .ok (.iconst (-1), 1) := by decide +kernel
theorem dX9_putPair_47 : decode cX9_putPair 47 = .ok (.ixor, 1) := by decide +kernel
theorem dX9_putPair_48 : decode cX9_putPair 48 = .ok (.iand, 1) := by decide +kernel
theorem dX9_putPair_49 : decode cX9_putPair 49 = .ok (.iastore, 1) := by decide +kernel
theorem dX9_putPair_50 : decode cX9_putPair 50 = .ok (.return_, 1) := by decide +kernel
theorem dX9_relates_0 : decode cX9_relates 0 = .ok (.iload_n 1, 1) := by decide +kernel
theorem dX9_relates_1 : decode cX9_relates 1 = .ok (.invokestatic 26, 3) := by decide +kernel
theorem dX9_relates_4 : decode cX9_relates 4 = .ok (.ifCond .ne 5, 3) := by decide +kernel
theorem dX9_relates_7 : decode cX9_relates 7 = .ok (.iconst 0, 1) := by decide +kernel
theorem dX9_relates_8 : decode cX9_relates 8 = .ok (.ireturn, 1) := by decide +kernel
theorem dX9_relates_9 : decode cX9_relates 9 = .ok (.iconst 0, 1) := by decide +kernel
theorem dX9_relates_10 : decode cX9_relates 10 = .ok (.istore 4, 2) := by decide +kernel
theorem dX9_relates_12 : decode cX9_relates 12 = .ok (.iconst 0, 1) := by decide +kernel
theorem dX9_relates_13 : decode cX9_relates 13 = .ok (.istore 5, 2) := by decide +kernel
theorem dX9_relates_15 : decode cX9_relates 15 = .ok (.iload 5, 2) := by decide +kernel
theorem dX9_relates_17 : decode cX9_relates 17 = .ok (.iconst 3, 1) := by decide +kernel
theorem dX9_relates_18 : decode cX9_relates 18 = .ok (.if_icmp .ge 47, 3) := by decide +kernel
theorem dX9_relates_21 : decode cX9_relates 21 = .ok (.iload_n 2, 1) := by decide +kernel
theorem dX9_relates_22 : decode cX9_relates 22 = .ok (.iload 5, 2) := by decide +kernel
theorem dX9_relates_24 : decode cX9_relates 24 = .ok (.iushr, 1) := by decide +kernel
theorem dX9_relates_25 : decode cX9_relates 25 = .ok (.iconst 1, 1) := by decide +kernel
theorem dX9_relates_26 : decode cX9_relates 26 = .ok (.iand, 1) := by decide +kernel
theorem dX9_relates_27 : decode cX9_relates 27 = .ok (.ifCond .eq 32, 3) := by decide +kernel
theorem dX9_relates_30 : decode cX9_relates 30 = .ok (.aload_n 0, 1) := by decide +kernel
theorem dX9_relates_31 : decode cX9_relates 31 = .ok (.getfield 19, 3) := by decide +kernel
theorem dX9_relates_34 : decode cX9_relates 34 = .ok (.iload_n 1, 1) := by decide +kernel
theorem dX9_relates_35 : decode cX9_relates 35 = .ok (.iaload, 1) := by decide +kernel
theorem dX9_relates_36 : decode cX9_relates 36 = .ok (.iconst 3, 1) := by decide +kernel
theorem dX9_relates_37 : decode cX9_relates 37 = .ok (.iload 5, 2) := by decide +kernel
theorem dX9_relates_39 : decode cX9_relates 39 = .ok (.imul, 1) := by decide +kernel
theorem dX9_relates_40 : decode cX9_relates 40 = .ok (.iushr, 1) := by decide +kernel
theorem dX9_relates_41 : decode cX9_relates 41 = .ok (.iload_n 3, 1) := by decide +kernel
theorem dX9_relates_42 : decode cX9_relates 42 = .ok (.iand, 1) := by decide +kernel
theorem dX9_relates_43 : decode cX9_relates 43 = .ok (.istore 6, 2) := by decide +kernel
theorem dX9_relates_45 : decode cX9_relates 45 = .ok (.iload 6, 2) := by decide +kernel
theorem dX9_relates_47 : decode cX9_relates 47 = .ok (.ifCond .ne 5, 3) := by decide +kernel
theorem dX9_relates_50 : decode cX9_relates 50 = .ok (.iconst 0, 1) := by decide +kernel
theorem dX9_relates_51 : decode cX9_relates 51 = .ok (.ireturn, 1) := by decide +kernel
theorem dX9_relates_52 : decode cX9_relates 52 = .ok (.iload 4, 2) := by decide +kernel
theorem dX9_relates_54 : decode cX9_relates 54 = .ok (.iload 6, 2) := by decide +kernel
theorem dX9_relates_56 : decode cX9_relates 56 = .ok (.ior, 1) := by decide +kernel
theorem dX9_relates_57 : decode cX9_relates 57 = .ok (.istore 4, 2) := by decide +kernel
theorem dX9_relates_59 : decode cX9_relates 59 = .ok (.iinc 5 1, 3) := by decide +kernel
theorem dX9_relates_62 : decode cX9_relates 62 = .ok (.goto (-47), 3) := by decide +kernel
theorem dX9_relates_65 : decode cX9_relates 65 = .ok (.iload 4, 2) := by decide +kernel
theorem dX9_relates_67 : decode cX9_relates 67 = .ok (.iload_n 3, 1) := by decide +kernel
theorem dX9_relates_68 : decode cX9_relates 68 = .ok (.if_icmp .ne 7, 3) := by decide +kernel
theorem dX9_relates_71 : decode cX9_relates 71 = .ok (.iconst 1, 1) := by decide +kernel
theorem dX9_relates_72 : decode cX9_relates 72 = .ok (.goto 4, 3) := by decide +kernel
theorem dX9_relates_75 : decode cX9_relates 75 = .ok (.iconst 0, 1) := by decide +kernel
theorem dX9_relates_76 : decode cX9_relates 76 = .ok (.ireturn, 1) := by decide +kernel
theorem dX10_init_0 : decode cX10_init 0 = .ok (.aload_n 0, 1) := by decide +kernel
theorem dX10_init_1 : decode cX10_init 1 = .ok (.invokespecial 1, 3) := by decide +kernel
theorem dX10_init_4 : decode cX10_init 4 = .ok (.aload_n 0, 1) := by decide +kernel
theorem dX10_init_5 : decode cX10_init 5 = .ok (.new 7, 3) := by decide +kernel
theorem dX10_init_8 : decode cX10_init 8 = .ok (.dup, 1) := by decide +kernel
theorem dX10_init_9 : decode cX10_init 9 = .ok (.invokespecial 9, 3) := by decide +kernel
theorem dX10_init_12 : decode cX10_init 12 = .ok (.putfield 10, 3) := by decide +kernel
theorem dX10_init_15 : decode cX10_init 15 = .ok (.aload_n 0, 1) := by decide +kernel
theorem dX10_init_16 : decode cX10_init 16 = .ok (.new 16, 3) := by decide +kernel
theorem dX10_init_19 : decode cX10_init 19 = .ok (.dup, 1) := by decide +kernel
theorem dX10_init_20 : decode cX10_init 20 = .ok (.invokespecial 18, 3) := by decide +kernel
theorem dX10_init_23 : decode cX10_init 23 = .ok (.putfield 19, 3) := by decide +kernel
theorem dX10_init_26 : decode cX10_init 26 = .ok (.aload_n 0, 1) := by decide +kernel
theorem dX10_init_27 : decode cX10_init 27 = .ok (.new 23, 3) := by decide +kernel
theorem dX10_init_30 : decode cX10_init 30 = .ok (.dup, 1) := by decide +kernel
theorem dX10_init_31 : decode cX10_init 31 = .ok (.invokespecial 25, 3) := by decide +kernel
theorem dX10_init_34 : decode cX10_init 34 = .ok (.putfield 26, 3) := by decide +kernel
theorem dX10_init_37 : decode cX10_init 37 = .ok (.aload_n 0, 1) := by decide +kernel
theorem dX10_init_38 : decode cX10_init 38 = .ok (.new 30, 3) := by decide +kernel
theorem dX10_init_41 : decode cX10_init 41 = .ok (.dup, 1) := by decide +kernel
theorem dX10_init_42 : decode cX10_init 42 = .ok (.aload_n 0, 1) := by decide +kernel
theorem dX10_init_43 : decode cX10_init 43 = .ok (.getfield 26, 3) := by decide +kernel
theorem dX10_init_46 : decode cX10_init 46 = .ok (.invokespecial 32, 3) := by decide +kernel
theorem dX10_init_49 : decode cX10_init 49 = .ok (.putfield 35, 3) := by decide +kernel
theorem dX10_init_52 : decode cX10_init 52 = .ok (.aload_n 0, 1) := by decide +kernel
theorem dX10_init_53 : decode cX10_init 53 = .ok (.new 39, 3) := by decide +kernel
theorem dX10_init_56 : decode cX10_init 56 = .ok (.dup, 1) := by decide +kernel
theorem dX10_init_57 : decode cX10_init 57 = .ok (.invokespecial 41, 3) := by decide +kernel
theorem dX10_init_60 : decode cX10_init 60 = .ok (.putfield 42, 3) := by decide +kernel
theorem dX10_init_63 : decode cX10_init 63 = .ok (.aload_n 0, 1) := by decide +kernel
theorem dX10_init_64 : decode cX10_init 64 = .ok (.new 46, 3) := by decide +kernel
theorem dX10_init_67 : decode cX10_init 67 = .ok (.dup, 1) := by decide +kernel
theorem dX10_init_68 : decode cX10_init 68 = .ok (.aload_n 0, 1) := by decide +kernel
theorem dX10_init_69 : decode cX10_init 69 = .ok (.getfield 10, 3) := by decide +kernel
theorem dX10_init_72 : decode cX10_init 72 = .ok (.getfield 48, 3) := by decide +kernel
theorem dX10_init_75 : decode cX10_init 75 = .ok (.invokespecial 52, 3) := by decide +kernel
theorem dX10_init_78 : decode cX10_init 78 = .ok (.putfield 55, 3) := by decide +kernel
theorem dX10_init_81 : decode cX10_init 81 = .ok (.aload_n 0, 1) := by decide +kernel
theorem dX10_init_82 : decode cX10_init 82 = .ok (.new 59, 3) := by decide +kernel
theorem dX10_init_85 : decode cX10_init 85 = .ok (.dup, 1) := by decide +kernel
theorem dX10_init_86 : decode cX10_init 86 = .ok (.aload_n 0, 1) := by decide +kernel
theorem dX10_init_87 : decode cX10_init 87 = .ok (.getfield 55, 3) := by decide +kernel
theorem dX10_init_90 : decode cX10_init 90 = .ok (.invokespecial 61, 3) := by decide +kernel
theorem dX10_init_93 : decode cX10_init 93 = .ok (.putfield 64, 3) := by decide +kernel
theorem dX10_init_96 : decode cX10_init 96 = .ok (.aload_n 0, 1) := by decide +kernel
theorem dX10_init_97 : decode cX10_init 97 = .ok (.new 68, 3) := by decide +kernel
theorem dX10_init_100 : decode cX10_init 100 = .ok (.dup, 1) := by decide +kernel
theorem dX10_init_101 : decode cX10_init 101 = .ok (.invokespecial 70, 3) := by decide +kernel
theorem dX10_init_104 : decode cX10_init 104 = .ok (.putfield 71, 3) := by decide +kernel
theorem dX10_init_107 : decode cX10_init 107 = .ok (.aload_n 0, 1) := by decide +kernel
theorem dX10_init_108 : decode cX10_init 108 = .ok (.new 46, 3) := by decide +kernel
theorem dX10_init_111 : decode cX10_init 111 = .ok (.dup, 1) := by decide +kernel
theorem dX10_init_112 : decode cX10_init 112 = .ok (.aload_n 0, 1) := by decide +kernel
theorem dX10_init_113 : decode cX10_init 113 = .ok (.getfield 71, 3) := by decide +kernel
theorem dX10_init_116 : decode cX10_init 116 = .ok (.invokespecial 52, 3) := by decide +kernel
theorem dX10_init_119 : decode cX10_init 119 = .ok (.putfield 74, 3) := by decide +kernel
theorem dX10_init_122 : decode cX10_init 122 = .ok (.aload_n 0, 1) := by decide +kernel
theorem dX10_init_123 : decode cX10_init 123 = .ok (.new 77, 3) := by decide +kernel
theorem dX10_init_126 : decode cX10_init 126 = .ok (.dup, 1) := by decide +kernel
theorem dX10_init_127 : decode cX10_init 127 = .ok (.invokespecial 79, 3) := by decide +kernel
theorem dX10_init_130 : decode cX10_init 130 = .ok (.putfield 80, 3) := by decide +kernel
theorem dX10_init_133 : decode cX10_init 133 = .ok (.return_, 1) := by decide +kernel
theorem dX10_setIndividuals_0 : decode cX10_setIndividuals 0 = .ok (.iload_n 1, 1) := by decide +kernel
theorem dX10_setIndividuals_1 : decode cX10_setIndividuals 1 = .ok (.iconst 1, 1) := by decide +kernel
theorem dX10_setIndividuals_2 : decode cX10_setIndividuals 2 = .ok (.if_icmp .lt 8, 3) := by decide +kernel
theorem dX10_setIndividuals_5 : decode cX10_setIndividuals 5 = .ok (.iload_n 1, 1) := by decide +kernel
theorem dX10_setIndividuals_6 : decode cX10_setIndividuals 6 = .ok (.iconst 3, 1) := by decide +kernel
theorem dX10_setIndividuals_7 : decode cX10_setIndividuals 7 = .ok (.if_icmp .le 5, 3) := by decide +kernel
theorem dX10_setIndividuals_10 : decode cX10_setIndividuals 10 = .ok (.iconst (-1), 1) := by decide +kernel
theorem dX10_setIndividuals_11 : decode cX10_setIndividuals 11 = .ok (.ireturn, 1) := by decide +kernel
theorem dX10_setIndividuals_12 : decode cX10_setIndividuals 12 = .ok (.aload_n 0, 1) := by decide +kernel
theorem dX10_setIndividuals_13 : decode cX10_setIndividuals 13 = .ok (.getfield 10, 3) := by decide +kernel
theorem dX10_setIndividuals_16 : decode cX10_setIndividuals 16 = .ok (.getfield 48, 3) := by decide +kernel
theorem dX10_setIndividuals_19 : decode cX10_setIndividuals 19 = .ok (.getfield 84, 3) := by decide +kernel
theorem dX10_setIndividuals_22 : decode cX10_setIndividuals 22 = .ok (.istore_n 2, 1) := by decide +kernel
theorem dX10_setIndividuals_23 : decode cX10_setIndividuals 23 = .ok (.aload_n 0, 1) := by decide +kernel
theorem dX10_setIndividuals_24 : decode cX10_setIndividuals 24 = .ok (.getfield 19, 3) := by decide +kernel
theorem dX10_setIndividuals_27 : decode cX10_setIndividuals 27 = .ok (.aload_n 0, 1) := by decide +kernel
theorem dX10_setIndividuals_28 : decode cX10_setIndividuals 28 = .ok (.getfield 10, 3) := by decide +kernel
theorem dX10_setIndividuals_31 : decode cX10_setIndividuals 31 = .ok (.invokevirtual 88, 3) := by decide +kernel
theorem dX10_setIndividuals_34 : decode cX10_setIndividuals 34 = .ok (.aload_n 0, 1) := by decide +kernel
theorem dX10_setIndividuals_35 : decode cX10_setIndividuals 35 = .ok (.getfield 10, 3) := by decide +kernel
theorem dX10_setIndividuals_38 : decode cX10_setIndividuals 38 = .ok (.getfield 48, 3) := by decide +kernel
theorem dX10_setIndividuals_41 : decode cX10_setIndividuals 41 = .ok (.iload_n 1, 1) := by decide +kernel
theorem dX10_setIndividuals_42 : decode cX10_setIndividuals 42 = .ok (.invokevirtual 92, 3) := by decide +kernel
theorem dX10_setIndividuals_45 : decode cX10_setIndividuals 45 = .ok (.aload_n 0, 1) := by decide +kernel
theorem dX10_setIndividuals_46 : decode cX10_setIndividuals 46 = .ok (.getfield 10, 3) := by decide +kernel
theorem dX10_setIndividuals_49 : decode cX10_setIndividuals 49 = .ok (.invokevirtual 96, 3) := by decide +kernel
theorem dX10_setIndividuals_52 : decode cX10_setIndividuals 52 = .ok (.iload_n 2, 1) := by decide +kernel
theorem dX10_setIndividuals_53 : decode cX10_setIndividuals 53 = .ok (.ireturn, 1) := by decide +kernel
theorem dX10_setPredicate_0 : decode cX10_setPredicate 0 = .ok (.iload_n 1, 1) := by decide +kernel
theorem dX10_setPredicate_1 : decode cX10_setPredicate 1 = .ok (.invokestatic 99, 3) := by decide +kernel
theorem dX10_setPredicate_4 : decode cX10_setPredicate 4 = .ok (.ifCond .eq 21, 3) := by decide +kernel
theorem dX10_setPredicate_7 : decode cX10_setPredicate 7 = .ok (.iload_n 2, 1) := by decide +kernel
theorem dX10_setPredicate_8 : decode cX10_setPredicate 8 = .ok (.ifCond .lt 17, 3) := by decide +kernel
theorem dX10_setPredicate_11 : decode cX10_setPredicate 11 = .ok (.iload_n 2, 1) := by decide +kernel
theorem dX10_setPredicate_12 : decode cX10_setPredicate 12 = .ok (.aload_n 0, 1) := by decide +kernel
theorem dX10_setPredicate_13 : decode cX10_setPredicate 13 = .ok (.getfield 10, 3) := by decide +kernel
theorem dX10_setPredicate_16 : decode cX10_setPredicate 16 = .ok (.getfield 48, 3) := by decide +kernel
theorem dX10_setPredicate_19 : decode cX10_setPredicate 19 = .ok (.invokevirtual 103, 3) := by decide +kernel
theorem dX10_setPredicate_22 : decode cX10_setPredicate 22 = .ok (.if_icmp .le 5, 3) := by decide +kernel
theorem dX10_setPredicate_25 : decode cX10_setPredicate 25 = .ok (.iconst (-1), 1) := by decide +kernel
theorem dX10_setPredicate_26 : decode cX10_setPredicate 26 = .ok (.ireturn, 1) := by decide +kernel
theorem dX10_setPredicate_27 : decode cX10_setPredicate 27 = .ok (.aload_n 0, 1) := by decide +kernel
theorem dX10_setPredicate_28 : decode cX10_setPredicate 28 = .ok (.getfield 10, 3) := by decide +kernel
theorem dX10_setPredicate_31 : decode cX10_setPredicate 31 = .ok (.getfield 48, 3) := by decide +kernel
theorem dX10_setPredicate_34 : decode cX10_setPredicate 34 = .ok (.iload_n 1, 1) := by decide +kernel
theorem dX10_setPredicate_35 : decode cX10_setPredicate 35 = .ok (.invokevirtual 107, 3) := by decide +kernel
theorem dX10_setPredicate_38 : decode cX10_setPredicate 38 = .ok (.istore_n 3, 1) := by decide +kernel
theorem dX10_setPredicate_39 : decode cX10_setPredicate 39 = .ok (.aload_n 0, 1) := by decide +kernel
theorem dX10_setPredicate_40 : decode cX10_setPredicate 40 = .ok (.getfield 19, 3) := by decide +kernel
theorem dX10_setPredicate_43 : decode cX10_setPredicate 43 = .ok (.aload_n 0, 1) := by decide +kernel
theorem dX10_setPredicate_44 : decode cX10_setPredicate 44 = .ok (.getfield 10, 3) := by decide +kernel
theorem dX10_setPredicate_47 : decode cX10_setPredicate 47 = .ok (.invokevirtual 88, 3) := by decide +kernel
theorem dX10_setPredicate_50 : decode cX10_setPredicate 50 = .ok (.aload_n 0, 1) := by decide +kernel
theorem dX10_setPredicate_51 : decode cX10_setPredicate 51 = .ok (.getfield 10, 3) := by decide +kernel
theorem dX10_setPredicate_54 : decode cX10_setPredicate 54 = .ok (.getfield 48, 3) := by decide +kernel
theorem dX10_setPredicate_57 : decode cX10_setPredicate 57 = .ok (.iload_n 1, 1) := by decide +kernel
theorem dX10_setPredicate_58 : decode cX10_setPredicate 58 = .ok (.iload_n 2, 1) := by decide +kernel
theorem dX10_setPredicate_59 : decode cX10_setPredicate 59 = .ok (.invokevirtual 111, 3) := by decide +kernel
theorem dX10_setPredicate_62 : decode cX10_setPredicate 62 = .ok (.iload_n 3, 1) := by decide +kernel
theorem dX10_setPredicate_63 : decode cX10_setPredicate 63 = .ok (.ireturn, 1) := by decide +kernel
theorem dX10_setPair_0 : decode cX10_setPair 0 = .ok (.iload_n 1, 1) := by decide +kernel
theorem dX10_setPair_1 : decode cX10_setPair 1 = .ok (.invokestatic 115, 3) := by decide +kernel
theorem dX10_setPair_4 : decode cX10_setPair 4 = .ok (.ifCond .eq 27, 3) := by decide +kernel
theorem dX10_setPair_7 : decode cX10_setPair 7 = .ok (.aload_n 0, 1) := by decide +kernel
theorem dX10_setPair_8 : decode cX10_setPair 8 = .ok (.iload_n 2, 1) := by decide +kernel
theorem dX10_setPair_9 : decode cX10_setPair 9 = .ok (.invokevirtual 118, 3) := by decide +kernel
theorem dX10_setPair_12 : decode cX10_setPair 12 = .ok (.ifCond .eq 19, 3) := by decide +kernel
theorem dX10_setPair_15 : decode cX10_setPair 15 = .ok (.aload_n 0, 1) := by decide +kernel
theorem dX10_setPair_16 : decode cX10_setPair 16 = .ok (.iload_n 3, 1) := by decide +kernel
theorem dX10_setPair_17 : decode cX10_setPair 17 = .ok (.invokevirtual 118, 3) := by decide +kernel
theorem dX10_setPair_20 : decode cX10_setPair 20 = .ok (.ifCond .eq 11, 3) := by decide +kernel
theorem dX10_setPair_23 : decode cX10_setPair 23 = .ok (.iload 4, 2) := by decide +kernel
theorem dX10_setPair_25 : decode cX10_setPair 25 = .ok (.invokestatic 121, 3) := by decide +kernel
theorem dX10_setPair_28 : decode cX10_setPair 28 = .ok (.ifCond .ne 5, 3) := by decide +kernel
theorem dX10_setPair_31 : decode cX10_setPair 31 = .ok (.iconst (-1), 1) := by decide +kernel
theorem dX10_setPair_32 : decode cX10_setPair 32 = .ok (.ireturn, 1) := by decide +kernel
theorem dX10_setPair_33 : decode cX10_setPair 33 = .ok (.aload_n 0, 1) := by decide +kernel
theorem dX10_setPair_34 : decode cX10_setPair 34 = .ok (.getfield 10, 3) := by decide +kernel
theorem dX10_setPair_37 : decode cX10_setPair 37 = .ok (.getfield 48, 3) := by decide +kernel
theorem dX10_setPair_40 : decode cX10_setPair 40 = .ok (.iload_n 1, 1) := by decide +kernel
theorem dX10_setPair_41 : decode cX10_setPair 41 = .ok (.iload_n 2, 1) := by decide +kernel
theorem dX10_setPair_42 : decode cX10_setPair 42 = .ok (.iload_n 3, 1) := by decide +kernel
theorem dX10_setPair_43 : decode cX10_setPair 43 = .ok (.invokevirtual 124, 3) := by decide +kernel
theorem dX10_setPair_46 : decode cX10_setPair 46 = .ok (.ifCond .eq 7, 3) := by decide +kernel
theorem dX10_setPair_49 : decode cX10_setPair 49 = .ok (.iconst 1, 1) := by decide +kernel
theorem dX10_setPair_50 : decode cX10_setPair 50 = .ok (.goto 4, 3) := by decide +kernel
theorem dX10_setPair_53 : decode cX10_setPair 53 = .ok (.iconst 0, 1) := by decide +kernel
theorem dX10_setPair_54 : decode cX10_setPair 54 = .ok (.istore 5, 2) := by decide +kernel
theorem dX10_setPair_56 : decode cX10_setPair 56 = .ok (.aload_n 0, 1) := by decide +kernel
theorem dX10_setPair_57 : decode cX10_setPair 57 = .ok (.getfield 19, 3) := by decide +kernel
theorem dX10_setPair_60 : decode cX10_setPair 60 = .ok (.aload_n 0, 1) := by decide +kernel
theorem dX10_setPair_61 : decode cX10_setPair 61 = .ok (.getfield 10, 3) := by decide +kernel
theorem dX10_setPair_64 : decode cX10_setPair 64 = .ok (.invokevirtual 88, 3) := by decide +kernel
theorem dX10_setPair_67 : decode cX10_setPair 67 = .ok (.aload_n 0, 1) := by decide +kernel
theorem dX10_setPair_68 : decode cX10_setPair 68 = .ok (.getfield 10, 3) := by decide +kernel
theorem dX10_setPair_71 : decode cX10_setPair 71 = .ok (.getfield 48, 3) := by decide +kernel
theorem dX10_setPair_74 : decode cX10_setPair 74 = .ok (.iload_n 1, 1) := by decide +kernel
theorem dX10_setPair_75 : decode cX10_setPair 75 = .ok (.iload_n 2, 1) := by decide +kernel
theorem dX10_setPair_76 : decode cX10_setPair 76 = .ok (.iload_n 3, 1) := by decide +kernel
theorem dX10_setPair_77 : decode cX10_setPair 77 = .ok (.iload 4, 2) := by decide +kernel
theorem dX10_setPair_79 : decode cX10_setPair 79 = .ok (.iconst 1, 1) := by decide +kernel
theorem dX10_setPair_80 : decode cX10_setPair 80 = .ok (.if_icmp .ne 7, 3) := by decide +kernel
theorem dX10_setPair_83 : decode cX10_setPair 83 = .ok (.iconst 1, 1) := by decide +kernel
theorem dX10_setPair_84 : decode cX10_setPair 84 = .ok (.goto 4, 3) := by decide +kernel
theorem dX10_setPair_87 : decode cX10_setPair 87 = .ok (.iconst 0, 1) := by decide +kernel
theorem dX10_setPair_88 : decode cX10_setPair 88 = .ok (.invokevirtual 128, 3) := by decide +kernel
theorem dX10_setPair_91 : decode cX10_setPair 91 = .ok (.iload 5, 2) := by decide +kernel
theorem dX10_setPair_93 : decode cX10_setPair 93 = .ok (.ireturn, 1) := by decide +kernel
theorem dX10_individuals_0 : decode cX10_individuals 0 = .ok (.aload_n 0, 1) := by decide +kernel
theorem dX10_individuals_1 : decode cX10_individuals 1 = .ok (.getfield 10, 3) := by decide +kernel
theorem dX10_individuals_4 : decode cX10_individuals 4 = .ok (.getfield 48, 3) := by decide +kernel
theorem dX10_individuals_7 : decode cX10_individuals 7 = .ok (.getfield 84, 3) := by decide +kernel
theorem dX10_individuals_10 : decode cX10_individuals 10 = .ok (.ireturn, 1) := by decide +kernel
theorem dX10_predicate_0 : decode cX10_predicate 0 = .ok (.iload_n 1, 1) := by decide +kernel
theorem dX10_predicate_1 : decode cX10_predicate 1 = .ok (.invokestatic 99, 3) := by decide +kernel
theorem dX10_predicate_4 : decode cX10_predicate 4 = .ok (.ifCond .eq 17, 3) := by decide +kernel
theorem dX10_predicate_7 : decode cX10_predicate 7 = .ok (.aload_n 0, 1) := by decide +kernel
theorem dX10_predicate_8 : decode cX10_predicate 8 = .ok (.getfield 10, 3) := by decide +kernel
theorem dX10_predicate_11 : decode cX10_predicate 11 = .ok (.getfield 48, 3) := by decide +kernel
theorem dX10_predicate_14 : decode cX10_predicate 14 = .ok (.iload_n 1, 1) := by decide +kernel
theorem dX10_predicate_15 : decode cX10_predicate 15 = .ok (.invokevirtual 107, 3) := by decide +kernel
theorem dX10_predicate_18 : decode cX10_predicate 18 = .ok (.goto 4, 3) := by decide +kernel
theorem dX10_predicate_21 : decode cX10_predicate 21 = .ok (.iconst (-1), 1) := by decide +kernel
theorem dX10_predicate_22 : decode cX10_predicate 22 = .ok (.ireturn, 1) := by decide +kernel
theorem dX10_relationHolds_0 : decode cX10_relationHolds 0 = .ok (.iload_n 1, 1) := by decide +kernel
theorem dX10_relationHolds_1 : decode cX10_relationHolds 1 = .ok (.invokestatic 115, 3) := by decide +kernel
theorem dX10_relationHolds_4 : decode cX10_relationHolds 4 = .ok (.ifCond .eq 19, 3) := by decide +kernel
theorem dX10_relationHolds_7 : decode cX10_relationHolds 7 = .ok (.aload_n 0, 1) := by decide +kernel
theorem dX10_relationHolds_8 : decode cX10_relationHolds 8 = .ok (.iload_n 2, 1) := by decide +kernel
theorem dX10_relationHolds_9 : decode cX10_relationHolds 9 = .ok (.invokevirtual 132, 3) := by decide +kernel
theorem dX10_relationHolds_12 : decode cX10_relationHolds 12 = .ok (.ifCond .eq 11, 3) := by decide +kernel
theorem dX10_relationHolds_15 : decode cX10_relationHolds 15 = .ok (.aload_n 0, 1) := by decide +kernel
theorem dX10_relationHolds_16 : decode cX10_relationHolds 16 = .ok (.iload_n 3, 1) := by decide +kernel
theorem dX10_relationHolds_17 : decode cX10_relationHolds 17 = .ok (.invokevirtual 132, 3) := by decide +kernel
theorem dX10_relationHolds_20 : decode cX10_relationHolds 20 = .ok (.ifCond .ne 5, 3) := by decide +kernel
theorem dX10_relationHolds_23 : decode cX10_relationHolds 23 = .ok (.iconst (-1), 1) := by decide +kernel
theorem dX10_relationHolds_24 : decode cX10_relationHolds 24 = .ok (.ireturn, 1) := by decide +kernel
theorem dX10_relationHolds_25 : decode cX10_relationHolds 25 = .ok (.aload_n 0, 1) := by decide +kernel
theorem dX10_relationHolds_26 : decode cX10_relationHolds 26 = .ok (.getfield 10, 3) := by decide +kernel
theorem dX10_relationHolds_29 : decode cX10_relationHolds 29 = .ok (.getfield 48, 3) := by decide +kernel
theorem dX10_relationHolds_32 : decode cX10_relationHolds 32 = .ok (.iload_n 1, 1) := by decide +kernel
theorem dX10_relationHolds_33 : decode cX10_relationHolds 33 = .ok (.iload_n 2, 1) := by decide +kernel
theorem dX10_relationHolds_34 : decode cX10_relationHolds 34 = .ok (.iload_n 3, 1) := by decide +kernel
theorem dX10_relationHolds_35 : decode cX10_relationHolds 35 = .ok (.invokevirtual 135, 3) := by decide +kernel
theorem dX10_relationHolds_38 : decode cX10_relationHolds 38 = .ok (.ifCond .eq 7, 3) := by decide +kernel
theorem dX10_relationHolds_41 : decode cX10_relationHolds 41 = .ok (.iconst 1, 1) := by decide +kernel
theorem dX10_relationHolds_42 : decode cX10_relationHolds 42 = .ok (.goto 4, 3) := by decide +kernel
theorem dX10_relationHolds_45 : decode cX10_relationHolds 45 = .ok (.iconst 0, 1) := by decide +kernel
theorem dX10_relationHolds_46 : decode cX10_relationHolds 46 = .ok (.ireturn, 1) := by decide +kernel
theorem dX10_type_0 : decode cX10_type 0 = .ok (.iload_n 1, 1) := by decide +kernel
theorem dX10_type_1 : decode cX10_type 1 = .ok (.bipush 32, 2) := by decide +kernel
theorem dX10_type_3 : decode cX10_type 3 = .ok (.if_icmp .lt 9, 3) := by decide +kernel
theorem dX10_type_6 : decode cX10_type 6 = .ok (.iload_n 1, 1) := by decide +kernel
theorem dX10_type_7 : decode cX10_type 7 = .ok (.bipush 126, 2) := by decide +kernel
theorem dX10_type_9 : decode cX10_type 9 = .ok (.if_icmp .le 5, 3) := by decide +kernel
theorem dX10_type_12 : decode cX10_type 12 = .ok (.iconst (-1), 1) := by decide +kernel
theorem dX10_type_13 : decode cX10_type 13 = .ok (.ireturn, 1) := by decide +kernel
theorem dX10_type_14 : decode cX10_type 14 = .ok (.aload_n 0, 1) := by decide +kernel
theorem dX10_type_15 : decode cX10_type 15 = .ok (.getfield 26, 3) := by decide +kernel
theorem dX10_type_18 : decode cX10_type 18 = .ok (.iload_n 1, 1) := by decide +kernel
theorem dX10_type_19 : decode cX10_type 19 = .ok (.i2c, 1) := by decide +kernel
theorem dX10_type_20 : decode cX10_type 20 = .ok (.invokevirtual 138, 3) := by decide +kernel
theorem dX10_type_23 : decode cX10_type 23 = .ok (.ifCond .eq 13, 3) := by decide +kernel
theorem dX10_type_26 : decode cX10_type 26 = .ok (.aload_n 0, 1) := by decide +kernel
theorem dX10_type_27 : decode cX10_type 27 = .ok (.getfield 26, 3) := by decide +kernel
theorem dX10_type_30 : decode cX10_type 30 = .ok (.getfield 142, 3) := by decide +kernel
theorem dX10_type_33 : decode cX10_type 33 = .ok (.goto 5, 3) := by decide +kernel
theorem dX10_type_36 : decode cX10_type 36 = .ok (.bipush (-5), 2) := by decide +kernel
theorem dX10_type_38 : decode cX10_type 38 = .ok (.ireturn, 1) := by decide +kernel
theorem dX10_clearText_0 : decode cX10_clearText 0 = .ok (.aload_n 0, 1) := by decide +kernel
theorem dX10_clearText_1 : decode cX10_clearText 1 = .ok (.getfield 26, 3) := by decide +kernel
theorem dX10_clearText_4 : decode cX10_clearText 4 = .ok (.getfield 142, 3) := by decide +kernel
theorem dX10_clearText_7 : decode cX10_clearText 7 = .ok (.istore_n 1, 1) := by decide +kernel
theorem dX10_clearText_8 : decode cX10_clearText 8 = .ok (.aload_n 0, 1) := by decide +kernel
theorem dX10_clearText_9 : decode cX10_clearText 9 = .ok (.getfield 26, 3) := by decide +kernel
theorem dX10_clearText_12 : decode cX10_clearText 12 = .ok (.iconst 0, 1) := by decide +kernel
theorem dX10_clearText_13 : decode cX10_clearText 13 = .ok (.putfield 142, 3) := by decide +kernel
theorem dX10_clearText_16 : decode cX10_clearText 16 = .ok (.iload_n 1, 1) := by decide +kernel
theorem dX10_clearText_17 : decode cX10_clearText 17 = .ok (.ireturn, 1) := by decide +kernel
theorem dX10_syntaxFault_0 : decode cX10_syntaxFault 0 = .ok (.aload_n 0, 1) := by decide +kernel
theorem dX10_syntaxFault_1 : decode cX10_syntaxFault 1 = .ok (.getfield 35, 3) := by decide +kernel
theorem dX10_syntaxFault_4 : decode cX10_syntaxFault 4 = .ok (.invokevirtual 145, 3) := by decide +kernel
theorem dX10_syntaxFault_7 : decode cX10_syntaxFault 7 = .ok (.ifnonnull 13, 3) := by decide +kernel
theorem dX10_syntaxFault_10 : decode cX10_syntaxFault 10 = .ok (.aload_n 0, 1) := by decide +kernel
theorem dX10_syntaxFault_11 : decode cX10_syntaxFault 11 = .ok (.getfield 35, 3) := by decide +kernel
theorem dX10_syntaxFault_14 : decode cX10_syntaxFault 14 = .ok (.getfield 149, 3) := by decide +kernel
theorem dX10_syntaxFault_17 : decode cX10_syntaxFault 17 = .ok (.goto 5, 3) := by decide +kernel
theorem dX10_syntaxFault_20 : decode cX10_syntaxFault 20 = .ok (.bipush (-7), 2) := by decide +kernel
theorem dX10_syntaxFault_22 : decode cX10_syntaxFault 22 = .ok (.ireturn, 1) := by decide +kernel
theorem dX10_unknownVariable_0 : decode cX10_unknownVariable 0 = .ok (.aload_n 0, 1) := by decide +kernel
theorem dX10_unknownVariable_1 : decode cX10_unknownVariable 1 = .ok (.getfield 35, 3) := by decide +kernel
theorem dX10_unknownVariable_4 : decode cX10_unknownVariable 4 = .ok (.invokevirtual 145, 3) := by decide +kernel
theorem dX10_unknownVariable_7 : decode cX10_unknownVariable 7 = .ok (.astore_n 1, 1) := by decide +kernel
theorem dX10_unknownVariable_8 : decode cX10_unknownVariable 8 = .ok (.aload_n 1, 1) := by decide +kernel
theorem dX10_unknownVariable_9 : decode cX10_unknownVariable 9 = .ok (.ifnonnull 6, 3) := by decide +kernel
theorem dX10_unknownVariable_12 : decode cX10_unknownVariable 12 = .ok (.bipush (-2), 2) := by decide +kernel
theorem dX10_unknownVariable_14 : decode cX10_unknownVariable 14 = .ok (.ireturn, 1) := by decide +kernel
theorem dX10_unknownVariable_15 : decode cX10_unknownVariable 15 = .ok (.aload_n 0, 1) := by decide +kernel
theorem dX10_unknownVariable_16 : decode cX10_unknownVariable 16 = .ok (.getfield 42, 3) := by decide +kernel
theorem dX10_unknownVariable_19 : decode cX10_unknownVariable 19 = .ok (.aload_n 1, 1) := by decide +kernel
theorem dX10_unknownVariable_20 : decode cX10_unknownVariable 20 = .ok (.aload_n 0, 1) := by decide +kernel
theorem dX10_unknownVariable_21 : decode cX10_unknownVariable 21 = .ok (.getfield 10, 3) := by decide +kernel
theorem dX10_unknownVariable_24 : decode cX10_unknownVariable 24 = .ok (.getfield 152, 3) := by decide +kernel
theorem dX10_unknownVariable_27 : decode cX10_unknownVariable 27 = .ok (.invokevirtual 155, 3) := by decide +kernel
theorem dX10_unknownVariable_30 : decode cX10_unknownVariable 30 = .ok (.ifCond .eq 8, 3) := by decide +kernel
theorem dX10_unknownVariable_33 : decode cX10_unknownVariable 33 = .ok (.bipush (-7), 2) := by decide +kernel
theorem dX10_unknownVariable_35 : decode cX10_unknownVariable 35 = .ok (.goto 10, 3) := by decide +kernel
theorem dX10_unknownVariable_38 : decode cX10_unknownVariable 38 = .ok (.aload_n 0, 1) := by decide +kernel
theorem dX10_unknownVariable_39 : decode cX10_unknownVariable 39 = .ok (.getfield 42, 3) := by decide +kernel
theorem dX10_unknownVariable_42 : decode cX10_unknownVariable 42 = .ok (.getfield 159, 3) := by decide +kernel
theorem dX10_unknownVariable_45 : decode cX10_unknownVariable 45 = .ok (.ireturn, 1) := by decide +kernel
theorem dX10_unknownDepth_0 : decode cX10_unknownDepth 0 = .ok (.aload_n 0, 1) := by decide +kernel
theorem dX10_unknownDepth_1 : decode cX10_unknownDepth 1 = .ok (.getfield 35, 3) := by decide +kernel
theorem dX10_unknownDepth_4 : decode cX10_unknownDepth 4 = .ok (.invokevirtual 145, 3) := by decide +kernel
theorem dX10_unknownDepth_7 : decode cX10_unknownDepth 7 = .ok (.astore_n 1, 1) := by decide +kernel
theorem dX10_unknownDepth_8 : decode cX10_unknownDepth 8 = .ok (.aload_n 1, 1) := by decide +kernel
theorem dX10_unknownDepth_9 : decode cX10_unknownDepth 9 = .ok (.ifnonnull 6, 3) := by decide +kernel
theorem dX10_unknownDepth_12 : decode cX10_unknownDepth 12 = .ok (.bipush (-2), 2) := by decide +kernel
theorem dX10_unknownDepth_14 : decode cX10_unknownDepth 14 = .ok (.ireturn, 1) := by decide +kernel
theorem dX10_unknownDepth_15 : decode cX10_unknownDepth 15 = .ok (.aload_n 0, 1) := by decide +kernel
theorem dX10_unknownDepth_16 : decode cX10_unknownDepth 16 = .ok (.getfield 42, 3) := by decide +kernel
theorem dX10_unknownDepth_19 : decode cX10_unknownDepth 19 = .ok (.aload_n 1, 1) := by decide +kernel
theorem dX10_unknownDepth_20 : decode cX10_unknownDepth 20 = .ok (.aload_n 0, 1) := by decide +kernel
theorem dX10_unknownDepth_21 : decode cX10_unknownDepth 21 = .ok (.getfield 10, 3) := by decide +kernel
theorem dX10_unknownDepth_24 : decode cX10_unknownDepth 24 = .ok (.getfield 152, 3) := by decide +kernel
theorem dX10_unknownDepth_27 : decode cX10_unknownDepth 27 = .ok (.invokevirtual 155, 3) := by decide +kernel
theorem dX10_unknownDepth_30 : decode cX10_unknownDepth 30 = .ok (.ifCond .eq 8, 3) := by decide +kernel
theorem dX10_unknownDepth_33 : decode cX10_unknownDepth 33 = .ok (.bipush (-7), 2) := by decide +kernel
theorem dX10_unknownDepth_35 : decode cX10_unknownDepth 35 = .ok (.goto 10, 3) := by decide +kernel
theorem dX10_unknownDepth_38 : decode cX10_unknownDepth 38 = .ok (.aload_n 0, 1) := by decide +kernel
theorem dX10_unknownDepth_39 : decode cX10_unknownDepth 39 = .ok (.getfield 42, 3) := by decide +kernel
theorem dX10_unknownDepth_42 : decode cX10_unknownDepth 42 = .ok (.getfield 162, 3) := by decide +kernel
theorem dX10_unknownDepth_45 : decode cX10_unknownDepth 45 = .ok (.ireturn, 1) := by decide +kernel
theorem dX10_partCount_0 : decode cX10_partCount 0 = .ok (.aload_n 0, 1) := by decide +kernel
theorem dX10_partCount_1 : decode cX10_partCount 1 = .ok (.getfield 35, 3) := by decide +kernel
theorem dX10_partCount_4 : decode cX10_partCount 4 = .ok (.invokevirtual 145, 3) := by decide +kernel
theorem dX10_partCount_7 : decode cX10_partCount 7 = .ok (.astore_n 1, 1) := by decide +kernel
theorem dX10_partCount_8 : decode cX10_partCount 8 = .ok (.aload_n 1, 1) := by decide +kernel
theorem dX10_partCount_9 : decode cX10_partCount 9 = .ok (.ifnonnull 6, 3) := by decide +kernel
theorem dX10_partCount_12 : decode cX10_partCount 12 = .ok (.bipush (-2), 2) := by decide +kernel
theorem dX10_partCount_14 : decode cX10_partCount 14 = .ok (.ireturn, 1) := by decide +kernel
theorem dX10_partCount_15 : decode cX10_partCount 15 = .ok (.iconst 0, 1) := by decide +kernel
theorem dX10_partCount_16 : decode cX10_partCount 16 = .ok (.istore_n 2, 1) := by decide +kernel
theorem dX10_partCount_17 : decode cX10_partCount 17 = .ok (.aload_n 1, 1) := by decide +kernel
theorem dX10_partCount_18 : decode cX10_partCount 18 = .ok (.getfield 165, 3) := by decide +kernel
theorem dX10_partCount_21 : decode cX10_partCount 21 = .ok (.astore_n 3, 1) := by decide +kernel
theorem dX10_partCount_22 : decode cX10_partCount 22 = .ok (.aload_n 3, 1) := by decide +kernel
theorem dX10_partCount_23 : decode cX10_partCount 23 = .ok (.ifnull 14, 3) := by decide +kernel
theorem dX10_partCount_26 : decode cX10_partCount 26 = .ok (.iinc 2 1, 3) := by decide +kernel
theorem dX10_partCount_29 : decode cX10_partCount 29 = .ok (.aload_n 3, 1) := by decide +kernel
theorem dX10_partCount_30 : decode cX10_partCount 30 = .ok (.getfield 171, 3) := by decide +kernel
theorem dX10_partCount_33 : decode cX10_partCount 33 = .ok (.astore_n 3, 1) := by decide +kernel
theorem dX10_partCount_34 : decode cX10_partCount 34 = .ok (.goto (-12), 3) := by decide +kernel
theorem dX10_partCount_37 : decode cX10_partCount 37 = .ok (.iload_n 2, 1) := by decide +kernel
theorem dX10_partCount_38 : decode cX10_partCount 38 = .ok (.ireturn, 1) := by decide +kernel
theorem dX10_contextSize_0 : decode cX10_contextSize 0 = .ok (.aload_n 0, 1) := by decide +kernel
theorem dX10_contextSize_1 : decode cX10_contextSize 1 = .ok (.getfield 10, 3) := by decide +kernel
theorem dX10_contextSize_4 : decode cX10_contextSize 4 = .ok (.getfield 174, 3) := by decide +kernel
theorem dX10_contextSize_7 : decode cX10_contextSize 7 = .ok (.invokevirtual 177, 3) := by decide +kernel
theorem dX10_contextSize_10 : decode cX10_contextSize 10 = .ok (.ireturn, 1) := by decide +kernel
theorem dX10_known_0 : decode cX10_known 0 = .ok (.aload_n 0, 1) := by decide +kernel
theorem dX10_known_1 : decode cX10_known 1 = .ok (.getfield 10, 3) := by decide +kernel
theorem dX10_known_4 : decode cX10_known 4 = .ok (.getfield 152, 3) := by decide +kernel
theorem dX10_known_7 : decode cX10_known 7 = .ok (.ireturn, 1) := by decide +kernel
theorem dX10_objects_0 : decode cX10_objects 0 = .ok (.iload_n 1, 1) := by decide +kernel
theorem dX10_objects_1 : decode cX10_objects 1 = .ok (.invokestatic 180, 3) := by decide +kernel
theorem dX10_objects_4 : decode cX10_objects 4 = .ok (.ifCond .ne 5, 3) := by decide +kernel
theorem dX10_objects_7 : decode cX10_objects 7 = .ok (.iconst (-1), 1) := by decide +kernel
theorem dX10_objects_8 : decode cX10_objects 8 = .ok (.ireturn, 1) := by decide +kernel
theorem dX10_objects_9 : decode cX10_objects 9 = .ok (.aload_n 0, 1) := by decide +kernel
theorem dX10_objects_10 : decode cX10_objects 10 = .ok (.getfield 10, 3) := by decide +kernel
theorem dX10_objects_13 : decode cX10_objects 13 = .ok (.iload_n 1, 1) := by decide +kernel
theorem dX10_objects_14 : decode cX10_objects 14 = .ok (.invokevirtual 183, 3) := by decide +kernel
theorem dX10_objects_17 : decode cX10_objects 17 = .ok (.ifCond .eq 17, 3) := by decide +kernel
theorem dX10_objects_20 : decode cX10_objects 20 = .ok (.aload_n 0, 1) := by decide +kernel
theorem dX10_objects_21 : decode cX10_objects 21 = .ok (.getfield 10, 3) := by decide +kernel
theorem dX10_objects_24 : decode cX10_objects 24 = .ok (.getfield 174, 3) := by decide +kernel
theorem dX10_objects_27 : decode cX10_objects 27 = .ok (.iload_n 1, 1) := by decide +kernel
theorem dX10_objects_28 : decode cX10_objects 28 = .ok (.invokevirtual 186, 3) := by decide +kernel
theorem dX10_objects_31 : decode cX10_objects 31 = .ok (.goto 5, 3) := by decide +kernel
theorem dX10_objects_34 : decode cX10_objects 34 = .ok (.bipush (-7), 2) := by decide +kernel
theorem dX10_objects_36 : decode cX10_objects 36 = .ok (.ireturn, 1) := by decide +kernel
theorem dX10_together_0 : decode cX10_together 0 = .ok (.iload_n 1, 1) := by decide +kernel
theorem dX10_together_1 : decode cX10_together 1 = .ok (.invokestatic 180, 3) := by decide +kernel
theorem dX10_together_4 : decode cX10_together 4 = .ok (.ifCond .eq 27, 3) := by decide +kernel
theorem dX10_together_7 : decode cX10_together 7 = .ok (.aload_n 0, 1) := by decide +kernel
theorem dX10_together_8 : decode cX10_together 8 = .ok (.iload_n 2, 1) := by decide +kernel
theorem dX10_together_9 : decode cX10_together 9 = .ok (.invokevirtual 132, 3) := by decide +kernel
theorem dX10_together_12 : decode cX10_together 12 = .ok (.ifCond .eq 19, 3) := by decide +kernel
theorem dX10_together_15 : decode cX10_together 15 = .ok (.iload_n 3, 1) := by decide +kernel
theorem dX10_together_16 : decode cX10_together 16 = .ok (.invokestatic 180, 3) := by decide +kernel
theorem dX10_together_19 : decode cX10_together 19 = .ok (.ifCond .eq 12, 3) := by decide +kernel
theorem dX10_together_22 : decode cX10_together 22 = .ok (.aload_n 0, 1) := by decide +kernel
theorem dX10_together_23 : decode cX10_together 23 = .ok (.iload 4, 2) := by decide +kernel
theorem dX10_together_25 : decode cX10_together 25 = .ok (.invokevirtual 132, 3) := by decide +kernel
theorem dX10_together_28 : decode cX10_together 28 = .ok (.ifCond .ne 5, 3) := by decide +kernel
theorem dX10_together_31 : decode cX10_together 31 = .ok (.iconst (-1), 1) := by decide +kernel
theorem dX10_together_32 : decode cX10_together 32 = .ok (.ireturn, 1) := by decide +kernel
theorem dX10_together_33 : decode cX10_together 33 = .ok (.aload_n 0, 1) := by decide +kernel
theorem dX10_together_34 : decode cX10_together 34 = .ok (.getfield 10, 3) := by decide +kernel
theorem dX10_together_37 : decode cX10_together 37 = .ok (.iload_n 1, 1) := by decide +kernel
theorem dX10_together_38 : decode cX10_together 38 = .ok (.invokevirtual 183, 3) := by decide +kernel
theorem dX10_together_41 : decode cX10_together 41 = .ok (.ifCond .eq 14, 3) := by decide +kernel
theorem dX10_together_44 : decode cX10_together 44 = .ok (.aload_n 0, 1) := by decide +kernel
theorem dX10_together_45 : decode cX10_together 45 = .ok (.getfield 10, 3) := by decide +kernel
theorem dX10_together_48 : decode cX10_together 48 = .ok (.iload_n 3, 1) := by decide +kernel
theorem dX10_together_49 : decode cX10_together 49 = .ok (.invokevirtual 183, 3) := by decide +kernel
theorem dX10_together_52 : decode cX10_together 52 = .ok (.ifCond .ne 6, 3) := by decide +kernel
theorem dX10_together_55 : decode cX10_together 55 = .ok (.bipush (-7), 2) := by decide +kernel
theorem dX10_together_57 : decode cX10_together 57 = .ok (.ireturn, 1) := by decide +kernel
theorem dX10_together_58 : decode cX10_together 58 = .ok (.aload_n 0, 1) := by decide +kernel
theorem dX10_together_59 : decode cX10_together 59 = .ok (.getfield 10, 3) := by decide +kernel
theorem dX10_together_62 : decode cX10_together 62 = .ok (.getfield 174, 3) := by decide +kernel
theorem dX10_together_65 : decode cX10_together 65 = .ok (.iload_n 1, 1) := by decide +kernel
theorem dX10_together_66 : decode cX10_together 66 = .ok (.iload_n 2, 1) := by decide +kernel
theorem dX10_together_67 : decode cX10_together 67 = .ok (.iload_n 3, 1) := by decide +kernel
theorem dX10_together_68 : decode cX10_together 68 = .ok (.iload 4, 2) := by decide +kernel
theorem dX10_together_70 : decode cX10_together 70 = .ok (.invokevirtual 189, 3) := by decide +kernel
theorem dX10_together_73 : decode cX10_together 73 = .ok (.ireturn, 1) := by decide +kernel
theorem dX10_resetContext_0 : decode cX10_resetContext 0 = .ok (.aload_n 0, 1) := by decide +kernel
theorem dX10_resetContext_1 : decode cX10_resetContext 1 = .ok (.getfield 10, 3) := by decide +kernel
theorem dX10_resetContext_4 : decode cX10_resetContext 4 = .ok (.getfield 174, 3) := by decide +kernel
theorem dX10_resetContext_7 : decode cX10_resetContext 7 = .ok (.invokevirtual 177, 3) := by decide +kernel
theorem dX10_resetContext_10 : decode cX10_resetContext 10 = .ok (.istore_n 1, 1) := by decide +kernel
theorem dX10_resetContext_11 : decode cX10_resetContext 11 = .ok (.aload_n 0, 1) := by decide +kernel
theorem dX10_resetContext_12 : decode cX10_resetContext 12 = .ok (.getfield 19, 3) := by decide +kernel
theorem dX10_resetContext_15 : decode cX10_resetContext 15 = .ok (.aload_n 0, 1) := by decide +kernel
theorem dX10_resetContext_16 : decode cX10_resetContext 16 = .ok (.getfield 10, 3) := by decide +kernel
theorem dX10_resetContext_19 : decode cX10_resetContext 19 = .ok (.invokevirtual 88, 3) := by decide +kernel
theorem dX10_resetContext_22 : decode cX10_resetContext 22 = .ok (.aload_n 0, 1) := by decide +kernel
theorem dX10_resetContext_23 : decode cX10_resetContext 23 = .ok (.getfield 10, 3) := by decide +kernel
theorem dX10_resetContext_26 : decode cX10_resetContext 26 = .ok (.invokevirtual 96, 3) := by decide +kernel
theorem dX10_resetContext_29 : decode cX10_resetContext 29 = .ok (.iload_n 1, 1) := by decide +kernel
theorem dX10_resetContext_30 : decode cX10_resetContext 30 = .ok (.ireturn, 1) := by decide +kernel
theorem dX10_setAccommodation_0 : decode cX10_setAccommodation 0 = .ok (.iload_n 1, 1) := by decide +kernel
theorem dX10_setAccommodation_1 : decode cX10_setAccommodation 1 = .ok (.invokestatic 121, 3) := by decide +kernel
theorem dX10_setAccommodation_4 : decode cX10_setAccommodation 4 = .ok (.ifCond .ne 5, 3) := by decide +kernel
theorem dX10_setAccommodation_7 : decode cX10_setAccommodation 7 = .ok (.iconst (-1), 1) := by decide +kernel
theorem dX10_setAccommodation_8 : decode cX10_setAccommodation 8 = .ok (.ireturn, 1) := by decide +kernel
theorem dX10_setAccommodation_9 : decode cX10_setAccommodation 9 = .ok (.aload_n 0, 1) := by decide +kernel
theorem dX10_setAccommodation_10 : decode cX10_setAccommodation 10 = .ok (.getfield 10, 3) := by decide +kernel
theorem dX10_setAccommodation_13 : decode cX10_setAccommodation 13 = .ok (.getfield 193, 3) := by decide +kernel
theorem dX10_setAccommodation_16 : decode cX10_setAccommodation 16 = .ok (.ifCond .eq 7, 3) := by decide +kernel
theorem dX10_setAccommodation_19 : decode cX10_setAccommodation 19 = .ok (.iconst 1, 1) := by decide +kernel
theorem dX10_setAccommodation_20 : decode cX10_setAccommodation 20 = .ok (.goto 4, 3) := by decide +kernel
theorem dX10_setAccommodation_23 : decode cX10_setAccommodation 23 = .ok (.iconst 0, 1) := by decide +kernel
theorem dX10_setAccommodation_24 : decode cX10_setAccommodation 24 = .ok (.istore_n 2, 1) := by decide +kernel
theorem dX10_setAccommodation_25 : decode cX10_setAccommodation 25 = .ok (.aload_n 0, 1) := by decide +kernel
theorem dX10_setAccommodation_26 : decode cX10_setAccommodation 26 = .ok (.getfield 19, 3) := by decide +kernel
theorem dX10_setAccommodation_29 : decode cX10_setAccommodation 29 = .ok (.aload_n 0, 1) := by decide +kernel
theorem dX10_setAccommodation_30 : decode cX10_setAccommodation 30 = .ok (.getfield 10, 3) := by decide +kernel
theorem dX10_setAccommodation_33 : decode cX10_setAccommodation 33 = .ok (.invokevirtual 88, 3) := by decide +kernel
theorem dX10_setAccommodation_36 : decode cX10_setAccommodation 36 = .ok (.aload_n 0, 1) := by decide +kernel
theorem dX10_setAccommodation_37 : decode cX10_setAccommodation 37 = .ok (.getfield 10, 3) := by decide +kernel
theorem dX10_setAccommodation_40 : decode cX10_setAccommodation 40 = .ok (.iload_n 1, 1) := by decide +kernel
theorem dX10_setAccommodation_41 : decode cX10_setAccommodation 41 = .ok (.iconst 1, 1) := by decide +kernel
theorem dX10_setAccommodation_42 : decode cX10_setAccommodation 42 = .ok (.if_icmp .ne 7, 3) := by decide +kernel
theorem dX10_setAccommodation_45 : decode cX10_setAccommodation 45 = .ok (.iconst 1, 1) := by decide +kernel
theorem dX10_setAccommodation_46 : decode cX10_setAccommodation 46 = .ok (.goto 4, 3) := by decide +kernel
theorem dX10_setAccommodation_49 : decode cX10_setAccommodation 49 = .ok (.iconst 0, 1) := by decide +kernel
theorem dX10_setAccommodation_50 : decode cX10_setAccommodation 50 = .ok (.putfield 193, 3) := by decide +kernel
theorem dX10_setAccommodation_53 : decode cX10_setAccommodation 53 = .ok (.iload_n 2, 1) := by decide +kernel
theorem dX10_setAccommodation_54 : decode cX10_setAccommodation 54 = .ok (.ireturn, 1) := by decide +kernel
theorem dX10_accept_0 : decode cX10_accept 0 = .ok (.aload_n 0, 1) := by decide +kernel
theorem dX10_accept_1 : decode cX10_accept 1 = .ok (.aload_n 0, 1) := by decide +kernel
theorem dX10_accept_2 : decode cX10_accept 2 = .ok (.getfield 35, 3) := by decide +kernel
theorem dX10_accept_5 : decode cX10_accept 5 = .ok (.invokevirtual 145, 3) := by decide +kernel
theorem dX10_accept_8 : decode cX10_accept 8 = .ok (.invokevirtual 197, 3) := by decide +kernel
theorem dX10_accept_11 : decode cX10_accept 11 = .ok (.istore_n 1, 1) := by decide +kernel
theorem dX10_accept_12 : decode cX10_accept 12 = .ok (.iload_n 1, 1) := by decide +kernel
theorem dX10_accept_13 : decode cX10_accept 13 = .ok (.ifCond .ge 5, 3) := by decide +kernel
theorem dX10_accept_16 : decode cX10_accept 16 = .ok (.iload_n 1, 1) := by decide +kernel
theorem dX10_accept_17 : decode cX10_accept 17 = .ok (.ireturn, 1) := by decide +kernel
theorem dX10_accept_18 : decode cX10_accept 18 = .ok (.aload_n 0, 1) := by decide +kernel
theorem dX10_accept_19 : decode cX10_accept 19 = .ok (.getfield 19, 3) := by decide +kernel
theorem dX10_accept_22 : decode cX10_accept 22 = .ok (.aload_n 0, 1) := by decide +kernel
theorem dX10_accept_23 : decode cX10_accept 23 = .ok (.getfield 10, 3) := by decide +kernel
theorem dX10_accept_26 : decode cX10_accept 26 = .ok (.invokevirtual 88, 3) := by decide +kernel
theorem dX10_accept_29 : decode cX10_accept 29 = .ok (.aload_n 0, 1) := by decide +kernel
theorem dX10_accept_30 : decode cX10_accept 30 = .ok (.getfield 10, 3) := by decide +kernel
theorem dX10_accept_33 : decode cX10_accept 33 = .ok (.getfield 174, 3) := by decide +kernel
theorem dX10_accept_36 : decode cX10_accept 36 = .ok (.aload_n 0, 1) := by decide +kernel
theorem dX10_accept_37 : decode cX10_accept 37 = .ok (.getfield 64, 3) := by decide +kernel
theorem dX10_accept_40 : decode cX10_accept 40 = .ok (.getfield 201, 3) := by decide +kernel
theorem dX10_accept_43 : decode cX10_accept 43 = .ok (.invokevirtual 202, 3) := by decide +kernel
theorem dX10_accept_46 : decode cX10_accept 46 = .ok (.aload_n 0, 1) := by decide +kernel
theorem dX10_accept_47 : decode cX10_accept 47 = .ok (.getfield 10, 3) := by decide +kernel
theorem dX10_accept_50 : decode cX10_accept 50 = .ok (.aload_n 0, 1) := by decide +kernel
theorem dX10_accept_51 : decode cX10_accept 51 = .ok (.getfield 42, 3) := by decide +kernel
theorem dX10_accept_54 : decode cX10_accept 54 = .ok (.getfield 206, 3) := by decide +kernel
theorem dX10_accept_57 : decode cX10_accept 57 = .ok (.putfield 152, 3) := by decide +kernel
theorem dX10_accept_60 : decode cX10_accept 60 = .ok (.aload_n 0, 1) := by decide +kernel
theorem dX10_accept_61 : decode cX10_accept 61 = .ok (.getfield 10, 3) := by decide +kernel
theorem dX10_accept_64 : decode cX10_accept 64 = .ok (.aload_n 0, 1) := by decide +kernel
theorem dX10_accept_65 : decode cX10_accept 65 = .ok (.getfield 64, 3) := by decide +kernel
theorem dX10_accept_68 : decode cX10_accept 68 = .ok (.getfield 209, 3) := by decide +kernel
theorem dX10_accept_71 : decode cX10_accept 71 = .ok (.putfield 213, 3) := by decide +kernel
theorem dX10_accept_74 : decode cX10_accept 74 = .ok (.iload_n 1, 1) := by decide +kernel
theorem dX10_accept_75 : decode cX10_accept 75 = .ok (.ireturn, 1) := by decide +kernel
theorem dX10_acceptable_0 : decode cX10_acceptable 0 = .ok (.aload_n 0, 1) := by decide +kernel
theorem dX10_acceptable_1 : decode cX10_acceptable 1 = .ok (.aload_n 0, 1) := by decide +kernel
theorem dX10_acceptable_2 : decode cX10_acceptable 2 = .ok (.getfield 35, 3) := by decide +kernel
theorem dX10_acceptable_5 : decode cX10_acceptable 5 = .ok (.invokevirtual 145, 3) := by decide +kernel
theorem dX10_acceptable_8 : decode cX10_acceptable 8 = .ok (.invokevirtual 197, 3) := by decide +kernel
theorem dX10_acceptable_11 : decode cX10_acceptable 11 = .ok (.ireturn, 1) := by decide +kernel
theorem dX10_failingAt_0 : decode cX10_failingAt 0 = .ok (.aload_n 0, 1) := by decide +kernel
theorem dX10_failingAt_1 : decode cX10_failingAt 1 = .ok (.aload_n 0, 1) := by decide +kernel
theorem dX10_failingAt_2 : decode cX10_failingAt 2 = .ok (.getfield 35, 3) := by decide +kernel
theorem dX10_failingAt_5 : decode cX10_failingAt 5 = .ok (.invokevirtual 145, 3) := by decide +kernel
theorem dX10_failingAt_8 : decode cX10_failingAt 8 = .ok (.invokevirtual 197, 3) := by decide +kernel
theorem dX10_failingAt_11 : decode cX10_failingAt 11 = .ok (.istore_n 1, 1) := by decide +kernel
theorem dX10_failingAt_12 : decode cX10_failingAt 12 = .ok (.iload_n 1, 1) := by decide +kernel
theorem dX10_failingAt_13 : decode cX10_failingAt 13 = .ok (.bipush (-4), 2) := by decide +kernel
theorem dX10_failingAt_15 : decode cX10_failingAt 15 = .ok (.if_icmp .ne 11, 3) := by decide +kernel
theorem dX10_failingAt_18 : decode cX10_failingAt 18 = .ok (.aload_n 0, 1) := by decide +kernel
theorem dX10_failingAt_19 : decode cX10_failingAt 19 = .ok (.getfield 64, 3) := by decide +kernel
theorem dX10_failingAt_22 : decode cX10_failingAt 22 = .ok (.getfield 214, 3) := by decide +kernel
theorem dX10_failingAt_25 : decode cX10_failingAt 25 = .ok (.ireturn, 1) := by decide +kernel
theorem dX10_failingAt_26 : decode cX10_failingAt 26 = .ok (.iload_n 1, 1) := by decide +kernel
theorem dX10_failingAt_27 : decode cX10_failingAt 27 = .ok (.ifCond .ge 7, 3) := by decide +kernel
theorem dX10_failingAt_30 : decode cX10_failingAt 30 = .ok (.iload_n 1, 1) := by decide +kernel
theorem dX10_failingAt_31 : decode cX10_failingAt 31 = .ok (.goto 5, 3) := by decide +kernel
theorem dX10_failingAt_34 : decode cX10_failingAt 34 = .ok (.bipush (-7), 2) := by decide +kernel
theorem dX10_failingAt_36 : decode cX10_failingAt 36 = .ok (.ireturn, 1) := by decide +kernel
theorem dX10_accommodated_0 : decode cX10_accommodated 0 = .ok (.aload_n 0, 1) := by decide +kernel
theorem dX10_accommodated_1 : decode cX10_accommodated 1 = .ok (.getfield 10, 3) := by decide +kernel
theorem dX10_accommodated_4 : decode cX10_accommodated 4 = .ok (.getfield 213, 3) := by decide +kernel
theorem dX10_accommodated_7 : decode cX10_accommodated 7 = .ok (.invokestatic 217, 3) := by decide +kernel
theorem dX10_accommodated_10 : decode cX10_accommodated 10 = .ok (.ireturn, 1) := by decide +kernel
theorem dX10_accommodatedPart_0 : decode cX10_accommodatedPart 0 = .ok (.iload_n 1, 1) := by decide +kernel
theorem dX10_accommodatedPart_1 : decode cX10_accommodatedPart 1 = .ok (.ifCond .ge 5, 3) := by decide +kernel
theorem dX10_accommodatedPart_4 : decode cX10_accommodatedPart 4 = .ok (.iconst (-1), 1) := by decide +kernel
theorem dX10_accommodatedPart_5 : decode cX10_accommodatedPart 5 = .ok (.ireturn, 1) := by decide +kernel
theorem dX10_accommodatedPart_6 : decode cX10_accommodatedPart 6 = .ok (.iconst 0, 1) := by decide +kernel
theorem dX10_accommodatedPart_7 : decode cX10_accommodatedPart 7 = .ok (.istore_n 2, 1) := by decide +kernel
theorem dX10_accommodatedPart_8 : decode cX10_accommodatedPart 8 = .ok (.iconst 0, 1) := by decide +kernel
theorem dX10_accommodatedPart_9 : decode cX10_accommodatedPart 9 = .ok (.istore_n 3, 1) := by decide +kernel
theorem dX10_accommodatedPart_10 : decode cX10_accommodatedPart 10 = .ok (.iload_n 3, 1) := by decide +kernel
theorem dX10_accommodatedPart_11 : decode cX10_accommodatedPart 11 = .ok (.bipush 60, 2) := by decide +kernel
theorem dX10_accommodatedPart_13 : decode cX10_accommodatedPart 13 = .ok (.if_icmp .ge 35, 3) := by decide +kernel
theorem dX10_accommodatedPart_16 : decode cX10_accommodatedPart 16 = .ok (.aload_n 0, 1) := by decide +kernel
theorem dX10_accommodatedPart_17 : decode cX10_accommodatedPart 17 = .ok (.getfield 10, 3) := by decide +kernel
theorem dX10_accommodatedPart_20 : decode cX10_accommodatedPart 20 = .ok (.getfield 213, 3) := by decide +kernel
theorem dX10_accommodatedPart_23 : decode cX10_accommodatedPart 23 = .ok (.iload_n 3, 1) := by decide +kernel
theorem dX10_accommodatedPart_24 : decode cX10_accommodatedPart 24 = .ok (.lushr, 1) := by decide +kernel
theorem dX10_accommodatedPart_25 : decode cX10_accommodatedPart 25 = .ok (.lconst 1, 1) := by decide +kernel
theorem dX10_accommodatedPart_26 : decode cX10_accommodatedPart 26 = .ok (.land, 1) := by decide +kernel
theorem dX10_accommodatedPart_27 : decode cX10_accommodatedPart 27 = .ok (.lconst 0, 1) := by decide +kernel
theorem dX10_accommodatedPart_28 : decode cX10_accommodatedPart 28 = .ok (.lcmp, 1) := by decide +kernel
theorem dX10_accommodatedPart_29 : decode cX10_accommodatedPart 29 = .ok (.ifCond .eq 13, 3) := by decide +kernel
theorem dX10_accommodatedPart_32 : decode cX10_accommodatedPart 32 = .ok (.iload_n 2, 1) := by decide +kernel
theorem dX10_accommodatedPart_33 : decode cX10_accommodatedPart 33 = .ok (.iload_n 1, 1) := by decide +kernel
theorem dX10_accommodatedPart_34 : decode cX10_accommodatedPart 34 = .ok (.if_icmp .ne 5, 3) := by decide +kernel
theorem dX10_accommodatedPart_37 : decode cX10_accommodatedPart 37 = .ok (.iload_n 3, 1) := by decide +kernel
theorem dX10_accommodatedPart_38 : decode cX10_accommodatedPart 38 = .ok (.ireturn, 1) := by decide +kernel
theorem dX10_accommodatedPart_39 : decode cX10_accommodatedPart 39 = .ok (.iinc 2 1, 3) := by decide +kernel
theorem dX10_accommodatedPart_42 : decode cX10_accommodatedPart 42 = .ok (.iinc 3 1, 3) := by decide +kernel
theorem dX10_accommodatedPart_45 : decode cX10_accommodatedPart 45 = .ok (.goto (-35), 3) := by decide +kernel
theorem dX10_accommodatedPart_48 : decode cX10_accommodatedPart 48 = .ok (.bipush (-7), 2) := by decide +kernel
theorem dX10_accommodatedPart_50 : decode cX10_accommodatedPart 50 = .ok (.ireturn, 1) := by decide +kernel
theorem dX10_sizeBehind_0 : decode cX10_sizeBehind 0 = .ok (.iload_n 1, 1) := by decide +kernel
theorem dX10_sizeBehind_1 : decode cX10_sizeBehind 1 = .ok (.ifCond .ge 5, 3) := by decide +kernel
theorem dX10_sizeBehind_4 : decode cX10_sizeBehind 4 = .ok (.iconst (-1), 1) := by decide +kernel
theorem dX10_sizeBehind_5 : decode cX10_sizeBehind 5 = .ok (.ireturn, 1) := by decide +kernel
theorem dX10_sizeBehind_6 : decode cX10_sizeBehind 6 = .ok (.aload_n 0, 1) := by decide +kernel
theorem dX10_sizeBehind_7 : decode cX10_sizeBehind 7 = .ok (.getfield 35, 3) := by decide +kernel
theorem dX10_sizeBehind_10 : decode cX10_sizeBehind 10 = .ok (.invokevirtual 145, 3) := by decide +kernel
theorem dX10_sizeBehind_13 : decode cX10_sizeBehind 13 = .ok (.astore_n 2, 1) := by decide +kernel
theorem dX10_sizeBehind_14 : decode cX10_sizeBehind 14 = .ok (.aload_n 2, 1) := by decide +kernel
theorem dX10_sizeBehind_15 : decode cX10_sizeBehind 15 = .ok (.ifnonnull 6, 3) := by decide +kernel
theorem dX10_sizeBehind_18 : decode cX10_sizeBehind 18 = .ok (.bipush (-2), 2) := by decide +kernel
theorem dX10_sizeBehind_20 : decode cX10_sizeBehind 20 = .ok (.ireturn, 1) := by decide +kernel
theorem dX10_sizeBehind_21 : decode cX10_sizeBehind 21 = .ok (.aload_n 0, 1) := by decide +kernel
theorem dX10_sizeBehind_22 : decode cX10_sizeBehind 22 = .ok (.getfield 42, 3) := by decide +kernel
theorem dX10_sizeBehind_25 : decode cX10_sizeBehind 25 = .ok (.aload_n 2, 1) := by decide +kernel
theorem dX10_sizeBehind_26 : decode cX10_sizeBehind 26 = .ok (.aload_n 0, 1) := by decide +kernel
theorem dX10_sizeBehind_27 : decode cX10_sizeBehind 27 = .ok (.getfield 10, 3) := by decide +kernel
theorem dX10_sizeBehind_30 : decode cX10_sizeBehind 30 = .ok (.getfield 152, 3) := by decide +kernel
theorem dX10_sizeBehind_33 : decode cX10_sizeBehind 33 = .ok (.invokevirtual 155, 3) := by decide +kernel
theorem dX10_sizeBehind_36 : decode cX10_sizeBehind 36 = .ok (.ifCond .ne 6, 3) := by decide +kernel
theorem dX10_sizeBehind_39 : decode cX10_sizeBehind 39 = .ok (.bipush (-3), 2) := by decide +kernel
theorem dX10_sizeBehind_41 : decode cX10_sizeBehind 41 = .ok (.ireturn, 1) := by decide +kernel
theorem dX10_sizeBehind_42 : decode cX10_sizeBehind 42 = .ok (.iconst 0, 1) := by decide +kernel
theorem dX10_sizeBehind_43 : decode cX10_sizeBehind 43 = .ok (.istore_n 3, 1) := by decide +kernel
theorem dX10_sizeBehind_44 : decode cX10_sizeBehind 44 = .ok (.aload_n 0, 1) := by decide +kernel
theorem dX10_sizeBehind_45 : decode cX10_sizeBehind 45 = .ok (.getfield 80, 3) := by decide +kernel
theorem dX10_sizeBehind_48 : decode cX10_sizeBehind 48 = .ok (.aload_n 0, 1) := by decide +kernel
theorem dX10_sizeBehind_49 : decode cX10_sizeBehind 49 = .ok (.getfield 10, 3) := by decide +kernel
theorem dX10_sizeBehind_52 : decode cX10_sizeBehind 52 = .ok (.getfield 174, 3) := by decide +kernel
theorem dX10_sizeBehind_55 : decode cX10_sizeBehind 55 = .ok (.invokevirtual 202, 3) := by decide +kernel
theorem dX10_sizeBehind_58 : decode cX10_sizeBehind 58 = .ok (.aload_n 2, 1) := by decide +kernel
theorem dX10_sizeBehind_59 : decode cX10_sizeBehind 59 = .ok (.getfield 165, 3) := by decide +kernel
theorem dX10_sizeBehind_62 : decode cX10_sizeBehind 62 = .ok (.astore 4, 2) := by decide +kernel
theorem dX10_sizeBehind_64 : decode cX10_sizeBehind 64 = .ok (.aload 4, 2) := by decide +kernel
theorem dX10_sizeBehind_66 : decode cX10_sizeBehind 66 = .ok (.ifnull 35, 3) := by decide +kernel
theorem dX10_sizeBehind_69 : decode cX10_sizeBehind 69 = .ok (.iload_n 3, 1) := by decide +kernel
theorem dX10_sizeBehind_70 : decode cX10_sizeBehind 70 = .ok (.iload_n 1, 1) := by decide +kernel
theorem dX10_sizeBehind_71 : decode cX10_sizeBehind 71 = .ok (.if_icmp .ge 30, 3) := by decide +kernel
theorem dX10_sizeBehind_74 : decode cX10_sizeBehind 74 = .ok (.aload_n 0, 1) := by decide +kernel
theorem dX10_sizeBehind_75 : decode cX10_sizeBehind 75 = .ok (.getfield 55, 3) := by decide +kernel
theorem dX10_sizeBehind_78 : decode cX10_sizeBehind 78 = .ok (.aload 4, 2) := by decide +kernel
theorem dX10_sizeBehind_80 : decode cX10_sizeBehind 80 = .ok (.aload_n 0, 1) := by decide +kernel
theorem dX10_sizeBehind_81 : decode cX10_sizeBehind 81 = .ok (.getfield 80, 3) := by decide +kernel
theorem dX10_sizeBehind_84 : decode cX10_sizeBehind 84 = .ok (.iconst 0, 1) := by decide +kernel
theorem dX10_sizeBehind_85 : decode cX10_sizeBehind 85 = .ok (.invokevirtual 223, 3) := by decide +kernel
theorem dX10_sizeBehind_88 : decode cX10_sizeBehind 88 = .ok (.iinc 3 1, 3) := by decide +kernel
theorem dX10_sizeBehind_91 : decode cX10_sizeBehind 91 = .ok (.aload 4, 2) := by decide +kernel
theorem dX10_sizeBehind_93 : decode cX10_sizeBehind 93 = .ok (.getfield 171, 3) := by decide +kernel
theorem dX10_sizeBehind_96 : decode cX10_sizeBehind 96 = .ok (.astore 4, 2) := by decide +kernel
theorem dX10_sizeBehind_98 : decode cX10_sizeBehind 98 = .ok (.goto (-34), 3) := by decide +kernel
theorem dX10_sizeBehind_101 : decode cX10_sizeBehind 101 = .ok (.iload_n 3, 1) := by decide +kernel
theorem dX10_sizeBehind_102 : decode cX10_sizeBehind 102 = .ok (.iload_n 1, 1) := by decide +kernel
theorem dX10_sizeBehind_103 : decode cX10_sizeBehind 103 = .ok (.if_icmp .ne 13, 3) := by decide +kernel
theorem dX10_sizeBehind_106 : decode cX10_sizeBehind 106 = .ok (.aload_n 0, 1) := by decide +kernel
theorem dX10_sizeBehind_107 : decode cX10_sizeBehind 107 = .ok (.getfield 80, 3) := by decide +kernel
theorem dX10_sizeBehind_110 : decode cX10_sizeBehind 110 = .ok (.invokevirtual 177, 3) := by decide +kernel
theorem dX10_sizeBehind_113 : decode cX10_sizeBehind 113 = .ok (.goto 5, 3) := by decide +kernel
theorem dX10_sizeBehind_116 : decode cX10_sizeBehind 116 = .ok (.bipush (-7), 2) := by decide +kernel
theorem dX10_sizeBehind_118 : decode cX10_sizeBehind 118 = .ok (.ireturn, 1) := by decide +kernel
theorem dX10_supports_0 : decode cX10_supports 0 = .ok (.aload_n 0, 1) := by decide +kernel
theorem dX10_supports_1 : decode cX10_supports 1 = .ok (.getfield 35, 3) := by decide +kernel
theorem dX10_supports_4 : decode cX10_supports 4 = .ok (.invokevirtual 145, 3) := by decide +kernel
theorem dX10_supports_7 : decode cX10_supports 7 = .ok (.astore_n 1, 1) := by decide +kernel
theorem dX10_supports_8 : decode cX10_supports 8 = .ok (.aload_n 1, 1) := by decide +kernel
theorem dX10_supports_9 : decode cX10_supports 9 = .ok (.ifnonnull 6, 3) := by decide +kernel
theorem dX10_supports_12 : decode cX10_supports 12 = .ok (.bipush (-2), 2) := by decide +kernel
theorem dX10_supports_14 : decode cX10_supports 14 = .ok (.ireturn, 1) := by decide +kernel
theorem dX10_supports_15 : decode cX10_supports 15 = .ok (.aload_n 0, 1) := by decide +kernel
theorem dX10_supports_16 : decode cX10_supports 16 = .ok (.getfield 42, 3) := by decide +kernel
theorem dX10_supports_19 : decode cX10_supports 19 = .ok (.aload_n 1, 1) := by decide +kernel
theorem dX10_supports_20 : decode cX10_supports 20 = .ok (.aload_n 0, 1) := by decide +kernel
theorem dX10_supports_21 : decode cX10_supports 21 = .ok (.getfield 10, 3) := by decide +kernel
theorem dX10_supports_24 : decode cX10_supports 24 = .ok (.getfield 152, 3) := by decide +kernel
theorem dX10_supports_27 : decode cX10_supports 27 = .ok (.invokevirtual 155, 3) := by decide +kernel
theorem dX10_supports_30 : decode cX10_supports 30 = .ok (.ifCond .ne 6, 3) := by decide +kernel
theorem dX10_supports_33 : decode cX10_supports 33 = .ok (.bipush (-3), 2) := by decide +kernel
theorem dX10_supports_35 : decode cX10_supports 35 = .ok (.ireturn, 1) := by decide +kernel
theorem dX10_supports_36 : decode cX10_supports 36 = .ok (.aload_n 0, 1) := by decide +kernel
theorem dX10_supports_37 : decode cX10_supports 37 = .ok (.getfield 55, 3) := by decide +kernel
theorem dX10_supports_40 : decode cX10_supports 40 = .ok (.aload_n 1, 1) := by decide +kernel
theorem dX10_supports_41 : decode cX10_supports 41 = .ok (.aload_n 0, 1) := by decide +kernel
theorem dX10_supports_42 : decode cX10_supports 42 = .ok (.getfield 80, 3) := by decide +kernel
theorem dX10_supports_45 : decode cX10_supports 45 = .ok (.invokevirtual 227, 3) := by decide +kernel
theorem dX10_supports_48 : decode cX10_supports 48 = .ok (.aload_n 0, 1) := by decide +kernel
theorem dX10_supports_49 : decode cX10_supports 49 = .ok (.getfield 10, 3) := by decide +kernel
theorem dX10_supports_52 : decode cX10_supports 52 = .ok (.getfield 174, 3) := by decide +kernel
theorem dX10_supports_55 : decode cX10_supports 55 = .ok (.aload_n 0, 1) := by decide +kernel
theorem dX10_supports_56 : decode cX10_supports 56 = .ok (.getfield 80, 3) := by decide +kernel
theorem dX10_supports_59 : decode cX10_supports 59 = .ok (.invokevirtual 231, 3) := by decide +kernel
theorem dX10_supports_62 : decode cX10_supports 62 = .ok (.ifCond .eq 7, 3) := by decide +kernel
theorem dX10_supports_65 : decode cX10_supports 65 = .ok (.iconst 1, 1) := by decide +kernel
theorem dX10_supports_66 : decode cX10_supports 66 = .ok (.goto 4, 3) := by decide +kernel
theorem dX10_supports_69 : decode cX10_supports 69 = .ok (.iconst 0, 1) := by decide +kernel
theorem dX10_supports_70 : decode cX10_supports 70 = .ok (.ireturn, 1) := by decide +kernel
theorem dX10_worldsTrue_0 : decode cX10_worldsTrue 0 = .ok (.aload_n 0, 1) := by decide +kernel
theorem dX10_worldsTrue_1 : decode cX10_worldsTrue 1 = .ok (.getfield 35, 3) := by decide +kernel
theorem dX10_worldsTrue_4 : decode cX10_worldsTrue 4 = .ok (.invokevirtual 145, 3) := by decide +kernel
theorem dX10_worldsTrue_7 : decode cX10_worldsTrue 7 = .ok (.astore_n 1, 1) := by decide +kernel
theorem dX10_worldsTrue_8 : decode cX10_worldsTrue 8 = .ok (.aload_n 1, 1) := by decide +kernel
theorem dX10_worldsTrue_9 : decode cX10_worldsTrue 9 = .ok (.ifnonnull 6, 3) := by decide +kernel
theorem dX10_worldsTrue_12 : decode cX10_worldsTrue 12 = .ok (.bipush (-2), 2) := by decide +kernel
theorem dX10_worldsTrue_14 : decode cX10_worldsTrue 14 = .ok (.ireturn, 1) := by decide +kernel
theorem dX10_worldsTrue_15 : decode cX10_worldsTrue 15 = .ok (.aload_n 0, 1) := by decide +kernel
theorem dX10_worldsTrue_16 : decode cX10_worldsTrue 16 = .ok (.getfield 42, 3) := by decide +kernel
theorem dX10_worldsTrue_19 : decode cX10_worldsTrue 19 = .ok (.aload_n 1, 1) := by decide +kernel
theorem dX10_worldsTrue_20 : decode cX10_worldsTrue 20 = .ok (.iconst 0, 1) := by decide +kernel
theorem dX10_worldsTrue_21 : decode cX10_worldsTrue 21 = .ok (.invokevirtual 155, 3) := by decide +kernel
theorem dX10_worldsTrue_24 : decode cX10_worldsTrue 24 = .ok (.ifCond .ne 6, 3) := by decide +kernel
theorem dX10_worldsTrue_27 : decode cX10_worldsTrue 27 = .ok (.bipush (-3), 2) := by decide +kernel
theorem dX10_worldsTrue_29 : decode cX10_worldsTrue 29 = .ok (.ireturn, 1) := by decide +kernel
theorem dX10_worldsTrue_30 : decode cX10_worldsTrue 30 = .ok (.iconst 0, 1) := by decide +kernel
theorem dX10_worldsTrue_31 : decode cX10_worldsTrue 31 = .ok (.istore_n 2, 1) := by decide +kernel
theorem dX10_worldsTrue_32 : decode cX10_worldsTrue 32 = .ok (.aload_n 0, 1) := by decide +kernel
theorem dX10_worldsTrue_33 : decode cX10_worldsTrue 33 = .ok (.getfield 10, 3) := by decide +kernel
theorem dX10_worldsTrue_36 : decode cX10_worldsTrue 36 = .ok (.getfield 48, 3) := by decide +kernel
theorem dX10_worldsTrue_39 : decode cX10_worldsTrue 39 = .ok (.invokevirtual 103, 3) := by decide +kernel
theorem dX10_worldsTrue_42 : decode cX10_worldsTrue 42 = .ok (.istore_n 3, 1) := by decide +kernel
theorem dX10_worldsTrue_43 : decode cX10_worldsTrue 43 = .ok (.aload_n 0, 1) := by decide +kernel
theorem dX10_worldsTrue_44 : decode cX10_worldsTrue 44 = .ok (.getfield 71, 3) := by decide +kernel
theorem dX10_worldsTrue_47 : decode cX10_worldsTrue 47 = .ok (.aload_n 0, 1) := by decide +kernel
theorem dX10_worldsTrue_48 : decode cX10_worldsTrue 48 = .ok (.getfield 10, 3) := by decide +kernel
theorem dX10_worldsTrue_51 : decode cX10_worldsTrue 51 = .ok (.getfield 48, 3) := by decide +kernel
theorem dX10_worldsTrue_54 : decode cX10_worldsTrue 54 = .ok (.invokevirtual 235, 3) := by decide +kernel
theorem dX10_worldsTrue_57 : decode cX10_worldsTrue 57 = .ok (.iconst 0, 1) := by decide +kernel
theorem dX10_worldsTrue_58 : decode cX10_worldsTrue 58 = .ok (.istore 4, 2) := by decide +kernel
theorem dX10_worldsTrue_60 : decode cX10_worldsTrue 60 = .ok (.iload 4, 2) := by decide +kernel
theorem dX10_worldsTrue_62 : decode cX10_worldsTrue 62 = .ok (.iload_n 3, 1) := by decide +kernel
theorem dX10_worldsTrue_63 : decode cX10_worldsTrue 63 = .ok (.if_icmp .gt 60, 3) := by decide +kernel
theorem dX10_worldsTrue_66 : decode cX10_worldsTrue 66 = .ok (.iconst 0, 1) := by decide +kernel
theorem dX10_worldsTrue_67 : decode cX10_worldsTrue 67 = .ok (.istore 5, 2) := by decide +kernel
theorem dX10_worldsTrue_69 : decode cX10_worldsTrue 69 = .ok (.iload 5, 2) := by decide +kernel
theorem dX10_worldsTrue_71 : decode cX10_worldsTrue 71 = .ok (.iload_n 3, 1) := by decide +kernel
theorem dX10_worldsTrue_72 : decode cX10_worldsTrue 72 = .ok (.if_icmp .gt 45, 3) := by decide +kernel
theorem dX10_worldsTrue_75 : decode cX10_worldsTrue 75 = .ok (.aload_n 0, 1) := by decide +kernel
theorem dX10_worldsTrue_76 : decode cX10_worldsTrue 76 = .ok (.getfield 71, 3) := by decide +kernel
theorem dX10_worldsTrue_79 : decode cX10_worldsTrue 79 = .ok (.iconst 0, 1) := by decide +kernel
theorem dX10_worldsTrue_80 : decode cX10_worldsTrue 80 = .ok (.iload 4, 2) := by decide +kernel
theorem dX10_worldsTrue_82 : decode cX10_worldsTrue 82 = .ok (.invokevirtual 111, 3) := by decide +kernel
theorem dX10_worldsTrue_85 : decode cX10_worldsTrue 85 = .ok (.aload_n 0, 1) := by decide +kernel
theorem dX10_worldsTrue_86 : decode cX10_worldsTrue 86 = .ok (.getfield 71, 3) := by decide +kernel
theorem dX10_worldsTrue_89 : decode cX10_worldsTrue 89 = .ok (.iconst 1, 1) := by decide +kernel
theorem dX10_worldsTrue_90 : decode cX10_worldsTrue 90 = .ok (.iload 5, 2) := by decide +kernel
theorem dX10_worldsTrue_92 : decode cX10_worldsTrue 92 = .ok (.invokevirtual 111, 3) := by decide +kernel
theorem dX10_worldsTrue_95 : decode cX10_worldsTrue 95 = .ok (.iload_n 2, 1) := by decide +kernel
theorem dX10_worldsTrue_96 : decode cX10_worldsTrue 96 = .ok (.aload_n 0, 1) := by decide +kernel
theorem dX10_worldsTrue_97 : decode cX10_worldsTrue 97 = .ok (.aload_n 1, 1) := by decide +kernel
theorem dX10_worldsTrue_98 : decode cX10_worldsTrue 98 = .ok (.invokevirtual 237, 3) := by decide +kernel
theorem dX10_worldsTrue_101 : decode cX10_worldsTrue 101 = .ok (.ifCond .eq 7, 3) := by decide +kernel
theorem dX10_worldsTrue_104 : decode cX10_worldsTrue 104 = .ok (.iconst 1, 1) := by decide +kernel
theorem dX10_worldsTrue_105 : decode cX10_worldsTrue 105 = .ok (.goto 4, 3) := by decide +kernel
theorem dX10_worldsTrue_108 : decode cX10_worldsTrue 108 = .ok (.iconst 0, 1) := by decide +kernel
theorem dX10_worldsTrue_109 : decode cX10_worldsTrue 109 = .ok (.iadd, 1) := by decide +kernel
theorem dX10_worldsTrue_110 : decode cX10_worldsTrue 110 = .ok (.istore_n 2, 1) := by decide +kernel
theorem dX10_worldsTrue_111 : decode cX10_worldsTrue 111 = .ok (.iinc 5 1, 3) := by decide +kernel
theorem dX10_worldsTrue_114 : decode cX10_worldsTrue 114 = .ok (.goto (-45), 3) := by decide +kernel
theorem dX10_worldsTrue_117 : decode cX10_worldsTrue 117 = .ok (.iinc 4 1, 3) := by decide +kernel
theorem dX10_worldsTrue_120 : decode cX10_worldsTrue 120 = .ok (.goto (-60), 3) := by decide +kernel
theorem dX10_worldsTrue_123 : decode cX10_worldsTrue 123 = .ok (.iload_n 2, 1) := by decide +kernel
theorem dX10_worldsTrue_124 : decode cX10_worldsTrue 124 = .ok (.ireturn, 1) := by decide +kernel
theorem dX10_historySize_0 : decode cX10_historySize 0 = .ok (.aload_n 0, 1) := by decide +kernel
theorem dX10_historySize_1 : decode cX10_historySize 1 = .ok (.getfield 19, 3) := by decide +kernel
theorem dX10_historySize_4 : decode cX10_historySize 4 = .ok (.getfield 241, 3) := by decide +kernel
theorem dX10_historySize_7 : decode cX10_historySize 7 = .ok (.ireturn, 1) := by decide +kernel
theorem dX10_undo_0 : decode cX10_undo 0 = .ok (.aload_n 0, 1) := by decide +kernel
theorem dX10_undo_1 : decode cX10_undo 1 = .ok (.getfield 19, 3) := by decide +kernel
theorem dX10_undo_4 : decode cX10_undo 4 = .ok (.aload_n 0, 1) := by decide +kernel
theorem dX10_undo_5 : decode cX10_undo 5 = .ok (.getfield 10, 3) := by decide +kernel
theorem dX10_undo_8 : decode cX10_undo 8 = .ok (.invokevirtual 243, 3) := by decide +kernel
theorem dX10_undo_11 : decode cX10_undo 11 = .ok (.ifCond .eq 13, 3) := by decide +kernel
theorem dX10_undo_14 : decode cX10_undo 14 = .ok (.aload_n 0, 1) := by decide +kernel
theorem dX10_undo_15 : decode cX10_undo 15 = .ok (.getfield 19, 3) := by decide +kernel
theorem dX10_undo_18 : decode cX10_undo 18 = .ok (.getfield 241, 3) := by decide +kernel
theorem dX10_undo_21 : decode cX10_undo 21 = .ok (.goto 5, 3) := by decide +kernel
theorem dX10_undo_24 : decode cX10_undo 24 = .ok (.bipush (-6), 2) := by decide +kernel
theorem dX10_undo_26 : decode cX10_undo 26 = .ok (.ireturn, 1) := by decide +kernel
theorem dX10_tryAccepting_0 : decode cX10_tryAccepting 0 = .ok (.aload_n 1, 1) := by decide +kernel
theorem dX10_tryAccepting_1 : decode cX10_tryAccepting 1 = .ok (.ifnonnull 6, 3) := by decide +kernel
theorem dX10_tryAccepting_4 : decode cX10_tryAccepting 4 = .ok (.bipush (-2), 2) := by decide +kernel
theorem dX10_tryAccepting_6 : decode cX10_tryAccepting 6 = .ok (.ireturn, 1) := by decide +kernel
theorem dX10_tryAccepting_7 : decode cX10_tryAccepting 7 = .ok (.aload_n 0, 1) := by decide +kernel
theorem dX10_tryAccepting_8 : decode cX10_tryAccepting 8 = .ok (.getfield 42, 3) := by decide +kernel
theorem dX10_tryAccepting_11 : decode cX10_tryAccepting 11 = .ok (.aload_n 1, 1) := by decide +kernel
theorem dX10_tryAccepting_12 : decode cX10_tryAccepting 12 = .ok (.aload_n 0, 1) := by decide +kernel
theorem dX10_tryAccepting_13 : decode cX10_tryAccepting 13 = .ok (.getfield 10, 3) := by decide +kernel
theorem dX10_tryAccepting_16 : decode cX10_tryAccepting 16 = .ok (.getfield 152, 3) := by decide +kernel
theorem dX10_tryAccepting_19 : decode cX10_tryAccepting 19 = .ok (.invokevirtual 155, 3) := by decide +kernel
theorem dX10_tryAccepting_22 : decode cX10_tryAccepting 22 = .ok (.ifCond .ne 6, 3) := by decide +kernel
theorem dX10_tryAccepting_25 : decode cX10_tryAccepting 25 = .ok (.bipush (-3), 2) := by decide +kernel
theorem dX10_tryAccepting_27 : decode cX10_tryAccepting 27 = .ok (.ireturn, 1) := by decide +kernel
theorem dX10_tryAccepting_28 : decode cX10_tryAccepting 28 = .ok (.aload_n 0, 1) := by decide +kernel
theorem dX10_tryAccepting_29 : decode cX10_tryAccepting 29 = .ok (.getfield 64, 3) := by decide +kernel
theorem dX10_tryAccepting_32 : decode cX10_tryAccepting 32 = .ok (.aload_n 1, 1) := by decide +kernel
theorem dX10_tryAccepting_33 : decode cX10_tryAccepting 33 = .ok (.aload_n 0, 1) := by decide +kernel
theorem dX10_tryAccepting_34 : decode cX10_tryAccepting 34 = .ok (.getfield 10, 3) := by decide +kernel
theorem dX10_tryAccepting_37 : decode cX10_tryAccepting 37 = .ok (.invokevirtual 247, 3) := by decide +kernel
theorem dX10_tryAccepting_40 : decode cX10_tryAccepting 40 = .ok (.ifCond .eq 16, 3) := by decide +kernel
theorem dX10_tryAccepting_43 : decode cX10_tryAccepting 43 = .ok (.aload_n 0, 1) := by decide +kernel
theorem dX10_tryAccepting_44 : decode cX10_tryAccepting 44 = .ok (.getfield 64, 3) := by decide +kernel
theorem dX10_tryAccepting_47 : decode cX10_tryAccepting 47 = .ok (.getfield 201, 3) := by decide +kernel
theorem dX10_tryAccepting_50 : decode cX10_tryAccepting 50 = .ok (.invokevirtual 177, 3) := by decide +kernel
theorem dX10_tryAccepting_53 : decode cX10_tryAccepting 53 = .ok (.goto 5, 3) := by decide +kernel
theorem dX10_tryAccepting_56 : decode cX10_tryAccepting 56 = .ok (.bipush (-4), 2) := by decide +kernel
theorem dX10_tryAccepting_58 : decode cX10_tryAccepting 58 = .ok (.ireturn, 1) := by decide +kernel
theorem dX10_isTrueInOtherWorld_0 : decode cX10_isTrueInOtherWorld 0 = .ok (.aload_n 0, 1) := by decide +kernel
theorem dX10_isTrueInOtherWorld_1 : decode cX10_isTrueInOtherWorld 1 = .ok (.getfield 80, 3) := by decide +kernel
theorem dX10_isTrueInOtherWorld_4 : decode cX10_isTrueInOtherWorld 4 = .ok (.invokevirtual 251, 3) := by decide +kernel
theorem dX10_isTrueInOtherWorld_7 : decode cX10_isTrueInOtherWorld 7 = .ok (.aload_n 0, 1) := by decide +kernel
theorem dX10_isTrueInOtherWorld_8 : decode cX10_isTrueInOtherWorld 8 = .ok (.getfield 74, 3) := by decide +kernel
theorem dX10_isTrueInOtherWorld_11 : decode cX10_isTrueInOtherWorld 11 = .ok (.aload_n 1, 1) := by decide +kernel
theorem dX10_isTrueInOtherWorld_12 : decode cX10_isTrueInOtherWorld 12 = .ok (.aload_n 0, 1) := by decide +kernel
theorem dX10_isTrueInOtherWorld_13 : decode cX10_isTrueInOtherWorld 13 = .ok (.getfield 80, 3) := by decide +kernel
theorem dX10_isTrueInOtherWorld_16 : decode cX10_isTrueInOtherWorld 16 = .ok (.iconst 0, 1) := by decide +kernel
theorem dX10_isTrueInOtherWorld_17 : decode cX10_isTrueInOtherWorld 17 = .ok (.invokevirtual 223, 3) := by decide +kernel
theorem dX10_isTrueInOtherWorld_20 : decode cX10_isTrueInOtherWorld 20 = .ok (.aload_n 0, 1) := by decide +kernel
theorem dX10_isTrueInOtherWorld_21 : decode cX10_isTrueInOtherWorld 21 = .ok (.getfield 80, 3) := by decide +kernel
theorem dX10_isTrueInOtherWorld_24 : decode cX10_isTrueInOtherWorld 24 = .ok (.invokevirtual 254, 3) := by decide +kernel
theorem dX10_isTrueInOtherWorld_27 : decode cX10_isTrueInOtherWorld 27 = .ok (.ifCond .ne 7, 3) := by decide +kernel
theorem dX10_isTrueInOtherWorld_30 : decode cX10_isTrueInOtherWorld 30 = .ok (.iconst 1, 1) := by decide +kernel
theorem dX10_isTrueInOtherWorld_31 : decode cX10_isTrueInOtherWorld 31 = .ok (.goto 4, 3) := by decide +kernel
theorem dX10_isTrueInOtherWorld_34 : decode cX10_isTrueInOtherWorld 34 = .ok (.iconst 0, 1) := by decide +kernel
theorem dX10_isTrueInOtherWorld_35 : decode cX10_isTrueInOtherWorld 35 = .ok (.ireturn, 1) := by decide +kernel
theorem dX10_isIndividual_0 : decode cX10_isIndividual 0 = .ok (.iload_n 1, 1) := by decide +kernel
theorem dX10_isIndividual_1 : decode cX10_isIndividual 1 = .ok (.ifCond .lt 21, 3) := by decide +kernel
theorem dX10_isIndividual_4 : decode cX10_isIndividual 4 = .ok (.iload_n 1, 1) := by decide +kernel
theorem dX10_isIndividual_5 : decode cX10_isIndividual 5 = .ok (.aload_n 0, 1) := by decide +kernel
theorem dX10_isIndividual_6 : decode cX10_isIndividual 6 = .ok (.getfield 10, 3) := by decide +kernel
theorem dX10_isIndividual_9 : decode cX10_isIndividual 9 = .ok (.getfield 48, 3) := by decide +kernel
theorem dX10_isIndividual_12 : decode cX10_isIndividual 12 = .ok (.getfield 84, 3) := by decide +kernel
theorem dX10_isIndividual_15 : decode cX10_isIndividual 15 = .ok (.if_icmp .ge 7, 3) := by decide +kernel
theorem dX10_isIndividual_18 : decode cX10_isIndividual 18 = .ok (.iconst 1, 1) := by decide +kernel
theorem dX10_isIndividual_19 : decode cX10_isIndividual 19 = .ok (.goto 4, 3) := by decide +kernel
theorem dX10_isIndividual_22 : decode cX10_isIndividual 22 = .ok (.iconst 0, 1) := by decide +kernel
theorem dX10_isIndividual_23 : decode cX10_isIndividual 23 = .ok (.ireturn, 1) := by decide +kernel
theorem dX10_isObject_0 : decode cX10_isObject 0 = .ok (.iload_n 1, 1) := by decide +kernel
theorem dX10_isObject_1 : decode cX10_isObject 1 = .ok (.iconst 1, 1) := by decide +kernel
theorem dX10_isObject_2 : decode cX10_isObject 2 = .ok (.if_icmp .lt 21, 3) := by decide +kernel
theorem dX10_isObject_5 : decode cX10_isObject 5 = .ok (.iload_n 1, 1) := by decide +kernel
theorem dX10_isObject_6 : decode cX10_isObject 6 = .ok (.aload_n 0, 1) := by decide +kernel
theorem dX10_isObject_7 : decode cX10_isObject 7 = .ok (.getfield 10, 3) := by decide +kernel
theorem dX10_isObject_10 : decode cX10_isObject 10 = .ok (.getfield 48, 3) := by decide +kernel
theorem dX10_isObject_13 : decode cX10_isObject 13 = .ok (.invokevirtual 103, 3) := by decide +kernel
theorem dX10_isObject_16 : decode cX10_isObject 16 = .ok (.if_icmp .gt 7, 3) := by decide +kernel
theorem dX10_isObject_19 : decode cX10_isObject 19 = .ok (.iconst 1, 1) := by decide +kernel
theorem dX10_isObject_20 : decode cX10_isObject 20 = .ok (.goto 4, 3) := by decide +kernel
theorem dX10_isObject_23 : decode cX10_isObject 23 = .ok (.iconst 0, 1) := by decide +kernel
theorem dX10_isObject_24 : decode cX10_isObject 24 = .ok (.ireturn, 1) := by decide +kernel
theorem dX10_isPredicate_0 : decode cX10_isPredicate 0 = .ok (.iload_n 0, 1) := by decide +kernel
theorem dX10_isPredicate_1 : decode cX10_isPredicate 1 = .ok (.ifCond .lt 12, 3) := by decide +kernel
theorem dX10_isPredicate_4 : decode cX10_isPredicate 4 = .ok (.iload_n 0, 1) := by decide +kernel
theorem dX10_isPredicate_5 : decode cX10_isPredicate 5 = .ok (.iconst 3, 1) := by decide +kernel
theorem dX10_isPredicate_6 : decode cX10_isPredicate 6 = .ok (.if_icmp .ge 7, 3) := by decide +kernel
theorem dX10_isPredicate_9 : decode cX10_isPredicate 9 = .ok (.iconst 1, 1) := by decide +kernel
theorem dX10_isPredicate_10 : decode cX10_isPredicate 10 = .ok (.goto 4, 3) := by decide +kernel
theorem dX10_isPredicate_13 : decode cX10_isPredicate 13 = .ok (.iconst 0, 1) := by decide +kernel
theorem dX10_isPredicate_14 : decode cX10_isPredicate 14 = .ok (.ireturn, 1) := by decide +kernel
theorem dX10_isRelation_0 : decode cX10_isRelation 0 = .ok (.iload_n 0, 1) := by decide +kernel
theorem dX10_isRelation_1 : decode cX10_isRelation 1 = .ok (.ifCond .lt 12, 3) := by decide +kernel
theorem dX10_isRelation_4 : decode cX10_isRelation 4 = .ok (.iload_n 0, 1) := by decide +kernel
theorem dX10_isRelation_5 : decode cX10_isRelation 5 = .ok (.iconst 2, 1) := by decide +kernel
theorem dX10_isRelation_6 : decode cX10_isRelation 6 = .ok (.if_icmp .ge 7, 3) := by decide +kernel
theorem dX10_isRelation_9 : decode cX10_isRelation 9 = .ok (.iconst 1, 1) := by decide +kernel
theorem dX10_isRelation_10 : decode cX10_isRelation 10 = .ok (.goto 4, 3) := by decide +kernel
theorem dX10_isRelation_13 : decode cX10_isRelation 13 = .ok (.iconst 0, 1) := by decide +kernel
theorem dX10_isRelation_14 : decode cX10_isRelation 14 = .ok (.ireturn, 1) := by decide +kernel
theorem dX10_isVariable_0 : decode cX10_isVariable 0 = .ok (.iload_n 0, 1) := by decide +kernel
theorem dX10_isVariable_1 : decode cX10_isVariable 1 = .ok (.ifCond .lt 12, 3) := by decide +kernel
theorem dX10_isVariable_4 : decode cX10_isVariable 4 = .ok (.iload_n 0, 1) := by decide +kernel
theorem dX10_isVariable_5 : decode cX10_isVariable 5 = .ok (.iconst 3, 1) := by decide +kernel
theorem dX10_isVariable_6 : decode cX10_isVariable 6 = .ok (.if_icmp .ge 7, 3) := by decide +kernel
theorem dX10_isVariable_9 : decode cX10_isVariable 9 = .ok (.iconst 1, 1) := by decide +kernel
theorem dX10_isVariable_10 : decode cX10_isVariable 10 = .ok (.goto 4, 3) := by decide +kernel
theorem dX10_isVariable_13 : decode cX10_isVariable 13 = .ok (.iconst 0, 1) := by decide +kernel
theorem dX10_isVariable_14 : decode cX10_isVariable 14 = .ok (.ireturn, 1) := by decide +kernel
theorem dX10_isSwitch_0 : decode cX10_isSwitch 0 = .ok (.iload_n 0, 1) := by decide +kernel
theorem dX10_isSwitch_1 : decode cX10_isSwitch 1 = .ok (.ifCond .eq 8, 3) := by decide +kernel
theorem dX10_isSwitch_4 : decode cX10_isSwitch 4 = .ok (.iload_n 0, 1) := by decide +kernel
theorem dX10_isSwitch_5 : decode cX10_isSwitch 5 = .ok (.iconst 1, 1) := by decide +kernel
theorem dX10_isSwitch_6 : decode cX10_isSwitch 6 = .ok (.if_icmp .ne 7, 3) := by decide +kernel
theorem dX10_isSwitch_9 : decode cX10_isSwitch 9 = .ok (.iconst 1, 1) := by decide +kernel
theorem dX10_isSwitch_10 : decode cX10_isSwitch 10 = .ok (.goto 4, 3) := by decide +kernel
theorem dX10_isSwitch_13 : decode cX10_isSwitch 13 = .ok (.iconst 0, 1) := by decide +kernel
theorem dX10_isSwitch_14 : decode cX10_isSwitch 14 = .ok (.ireturn, 1) := by decide +kernel
theorem dX11_init_0 : decode cX11_init 0 = .ok (.aload_n 0, 1) := by decide +kernel
theorem dX11_init_1 : decode cX11_init 1 = .ok (.invokespecial 1, 3) := by decide +kernel
theorem dX11_init_4 : decode cX11_init 4 = .ok (.aload_n 0, 1) := by decide +kernel
theorem dX11_init_5 : decode cX11_init 5 = .ok (.bipush 25, 2) := by decide +kernel
theorem dX11_init_7 : decode cX11_init 7 = .ok (.newarray .int, 2) := by decide +kernel
theorem dX11_init_9 : decode cX11_init 9 = .ok (.putfield 7, 3) := by decide +kernel
theorem dX11_init_12 : decode cX11_init 12 = .ok (.aload_n 0, 1) := by decide +kernel
theorem dX11_init_13 : decode cX11_init 13 = .ok (.bipush 125, 2) := by decide +kernel
theorem dX11_init_15 : decode cX11_init 15 = .ok (.newarray .int, 2) := by decide +kernel
theorem dX11_init_17 : decode cX11_init 17 = .ok (.putfield 13, 3) := by decide +kernel
theorem dX11_init_20 : decode cX11_init 20 = .ok (.aload_n 0, 1) := by decide +kernel
theorem dX11_init_21 : decode cX11_init 21 = .ok (.bipush 60, 2) := by decide +kernel
theorem dX11_init_23 : decode cX11_init 23 = .ok (.newarray .int, 2) := by decide +kernel
theorem dX11_init_25 : decode cX11_init 25 = .ok (.putfield 16, 3) := by decide +kernel
theorem dX11_init_28 : decode cX11_init 28 = .ok (.aload_n 0, 1) := by decide +kernel
theorem dX11_init_29 : decode cX11_init 29 = .ok (.bipush 62, 2) := by decide +kernel
theorem dX11_init_31 : decode cX11_init 31 = .ok (.newarray .int, 2) := by decide +kernel
theorem dX11_init_33 : decode cX11_init 33 = .ok (.putfield 19, 3) := by decide +kernel
theorem dX11_init_36 : decode cX11_init 36 = .ok (.aload_n 0, 1) := by decide +kernel
theorem dX11_init_37 : decode cX11_init 37 = .ok (.sipush 31744, 3) := by decide +kernel
theorem dX11_init_40 : decode cX11_init 40 = .ok (.newarray .boolean, 2) := by decide +kernel
theorem dX11_init_42 : decode cX11_init 42 = .ok (.putfield 22, 3) := by decide +kernel
theorem dX11_init_45 : decode cX11_init 45 = .ok (.aload_n 0, 1) := by decide +kernel
theorem dX11_init_46 : decode cX11_init 46 = .ok (.sipush 512, 3) := by decide +kernel
theorem dX11_init_49 : decode cX11_init 49 = .ok (.newarray .boolean, 2) := by decide +kernel
theorem dX11_init_51 : decode cX11_init 51 = .ok (.putfield 26, 3) := by decide +kernel
theorem dX11_init_54 : decode cX11_init 54 = .ok (.aload_n 0, 1) := by decide +kernel
theorem dX11_init_55 : decode cX11_init 55 = .ok (.sipush 512, 3) := by decide +kernel
theorem dX11_init_58 : decode cX11_init 58 = .ok (.newarray .boolean, 2) := by decide +kernel
theorem dX11_init_60 : decode cX11_init 60 = .ok (.putfield 29, 3) := by decide +kernel
theorem dX11_init_63 : decode cX11_init 63 = .ok (.aload_n 0, 1) := by decide +kernel
theorem dX11_init_64 : decode cX11_init 64 = .ok (.sipush 512, 3) := by decide +kernel
theorem dX11_init_67 : decode cX11_init 67 = .ok (.newarray .boolean, 2) := by decide +kernel
theorem dX11_init_69 : decode cX11_init 69 = .ok (.putfield 32, 3) := by decide +kernel
theorem dX11_init_72 : decode cX11_init 72 = .ok (.aload_n 0, 1) := by decide +kernel
theorem dX11_init_73 : decode cX11_init 73 = .ok (.bipush 10, 2) := by decide +kernel
theorem dX11_init_75 : decode cX11_init 75 = .ok (.newarray .int, 2) := by decide +kernel
theorem dX11_init_77 : decode cX11_init 77 = .ok (.putfield 35, 3) := by decide +kernel
theorem dX11_init_80 : decode cX11_init 80 = .ok (.aload_n 0, 1) := by decide +kernel
theorem dX11_init_81 : decode cX11_init 81 = .ok (.bipush 10, 2) := by decide +kernel
theorem dX11_init_83 : decode cX11_init 83 = .ok (.newarray .int, 2) := by decide +kernel
theorem dX11_init_85 : decode cX11_init 85 = .ok (.putfield 38, 3) := by decide +kernel
theorem dX11_init_88 : decode cX11_init 88 = .ok (.aload_n 0, 1) := by decide +kernel
theorem dX11_init_89 : decode cX11_init 89 = .ok (.bipush 10, 2) := by decide +kernel
theorem dX11_init_91 : decode cX11_init 91 = .ok (.newarray .int, 2) := by decide +kernel
theorem dX11_init_93 : decode cX11_init 93 = .ok (.putfield 41, 3) := by decide +kernel
theorem dX11_init_96 : decode cX11_init 96 = .ok (.aload_n 0, 1) := by decide +kernel
theorem dX11_init_97 : decode cX11_init 97 = .ok (.bipush 10, 2) := by decide +kernel
theorem dX11_init_99 : decode cX11_init 99 = .ok (.newarray .int, 2) := by decide +kernel
theorem dX11_init_101 : decode cX11_init 101 = .ok (.putfield 44, 3) := by decide +kernel
theorem dX11_init_104 : decode cX11_init 104 = .ok (.aload_n 0, 1) := by decide +kernel
theorem dX11_init_105 : decode cX11_init 105 = .ok (.bipush 10, 2) := by decide +kernel
theorem dX11_init_107 : decode cX11_init 107 = .ok (.newarray .boolean, 2) := by decide +kernel
theorem dX11_init_109 : decode cX11_init 109 = .ok (.putfield 47, 3) := by decide +kernel
theorem dX11_init_112 : decode cX11_init 112 = .ok (.aload_n 0, 1) := by decide +kernel
theorem dX11_init_113 : decode cX11_init 113 = .ok (.bipush 10, 2) := by decide +kernel
theorem dX11_init_115 : decode cX11_init 115 = .ok (.newarray .boolean, 2) := by decide +kernel
theorem dX11_init_117 : decode cX11_init 117 = .ok (.putfield 50, 3) := by decide +kernel
theorem dX11_init_120 : decode cX11_init 120 = .ok (.aload_n 0, 1) := by decide +kernel
theorem dX11_init_121 : decode cX11_init 121 = .ok (.bipush 10, 2) := by decide +kernel
theorem dX11_init_123 : decode cX11_init 123 = .ok (.newarray .boolean, 2) := by decide +kernel
theorem dX11_init_125 : decode cX11_init 125 = .ok (.putfield 53, 3) := by decide +kernel
theorem dX11_init_128 : decode cX11_init 128 = .ok (.aload_n 0, 1) := by decide +kernel
theorem dX11_init_129 : decode cX11_init 129 = .ok (.sipush 5120, 3) := by decide +kernel
theorem dX11_init_132 : decode cX11_init 132 = .ok (.newarray .boolean, 2) := by decide +kernel
theorem dX11_init_134 : decode cX11_init 134 = .ok (.putfield 56, 3) := by decide +kernel
theorem dX11_init_137 : decode cX11_init 137 = .ok (.aload_n 0, 1) := by decide +kernel
theorem dX11_init_138 : decode cX11_init 138 = .ok (.getfield 7, 3) := by decide +kernel
theorem dX11_init_141 : decode cX11_init 141 = .ok (.iconst 0, 1) := by decide +kernel
theorem dX11_init_142 : decode cX11_init 142 = .ok (.iconst 2, 1) := by decide +kernel
theorem dX11_init_143 : decode cX11_init 143 = .ok (.iastore, 1) := by decide +kernel
theorem dX11_init_144 : decode cX11_init 144 = .ok (.aload_n 0, 1) := by decide +kernel
theorem dX11_init_145 : decode cX11_init 145 = .ok (.getfield 7, 3) := by decide +kernel
theorem dX11_init_148 : decode cX11_init 148 = .ok (.bipush 9, 2) := by decide +kernel
theorem dX11_init_150 : decode cX11_init 150 = .ok (.iconst 1, 1) := by decide +kernel
theorem dX11_init_151 : decode cX11_init 151 = .ok (.iastore, 1) := by decide +kernel
theorem dX11_init_152 : decode cX11_init 152 = .ok (.return_, 1) := by decide +kernel
theorem dX11_in_0 : decode cX11_in 0 = .ok (.iload_n 0, 1) := by decide +kernel
theorem dX11_in_1 : decode cX11_in 1 = .ok (.iload_n 1, 1) := by decide +kernel
theorem dX11_in_2 : decode cX11_in 2 = .ok (.if_icmp .lt 12, 3) := by decide +kernel
theorem dX11_in_5 : decode cX11_in 5 = .ok (.iload_n 0, 1) := by decide +kernel
theorem dX11_in_6 : decode cX11_in 6 = .ok (.iload_n 2, 1) := by decide +kernel
theorem dX11_in_7 : decode cX11_in 7 = .ok (.if_icmp .gt 7, 3) := by decide +kernel
theorem dX11_in_10 : decode cX11_in 10 = .ok (.iconst 1, 1) := by decide +kernel
theorem dX11_in_11 : decode cX11_in 11 = .ok (.goto 4, 3) := by decide +kernel
theorem dX11_in_14 : decode cX11_in 14 = .ok (.iconst 0, 1) := by decide +kernel
theorem dX11_in_15 : decode cX11_in 15 = .ok (.ireturn, 1) := by decide +kernel
theorem dX11_acts_0 : decode cX11_acts 0 = .ok (.aload_n 0, 1) := by decide +kernel
theorem dX11_acts_1 : decode cX11_acts 1 = .ok (.getfield 59, 3) := by decide +kernel
theorem dX11_acts_4 : decode cX11_acts 4 = .ok (.iconst 5, 1) := by decide +kernel
theorem dX11_acts_5 : decode cX11_acts 5 = .ok (.if_icmp .ne 42, 3) := by decide +kernel
theorem dX11_acts_8 : decode cX11_acts 8 = .ok (.iconst 0, 1) := by decide +kernel
theorem dX11_acts_9 : decode cX11_acts 9 = .ok (.istore_n 1, 1) := by decide +kernel
theorem dX11_acts_10 : decode cX11_acts 10 = .ok (.iload_n 1, 1) := by decide +kernel
theorem dX11_acts_11 : decode cX11_acts 11 = .ok (.bipush 100, 2) := by decide +kernel
theorem dX11_acts_13 : decode cX11_acts 13 = .ok (.if_icmp .ge 24, 3) := by decide +kernel
theorem dX11_acts_16 : decode cX11_acts 16 = .ok (.aload_n 0, 1) := by decide +kernel
theorem dX11_acts_17 : decode cX11_acts 17 = .ok (.getfield 13, 3) := by decide +kernel
theorem dX11_acts_20 : decode cX11_acts 20 = .ok (.iload_n 1, 1) := by decide +kernel
theorem dX11_acts_21 : decode cX11_acts 21 = .ok (.aload_n 0, 1) := by decide +kernel
theorem dX11_acts_22 : decode cX11_acts 22 = .ok (.getfield 13, 3) := by decide +kernel
theorem dX11_acts_25 : decode cX11_acts 25 = .ok (.iload_n 1, 1) := by decide +kernel
theorem dX11_acts_26 : decode cX11_acts 26 = .ok (.bipush 25, 2) := by decide +kernel
theorem dX11_acts_28 : decode cX11_acts 28 = .ok (.iadd, 1) := by decide +kernel
theorem dX11_acts_29 : decode cX11_acts 29 = .ok (.iaload, 1) := by decide +kernel
theorem dX11_acts_30 : decode cX11_acts 30 = .ok (.iastore, 1) := by decide +kernel
theorem dX11_acts_31 : decode cX11_acts 31 = .ok (.iinc 1 1, 3) := by decide +kernel
theorem dX11_acts_34 : decode cX11_acts 34 = .ok (.goto (-24), 3) := by decide +kernel
theorem dX11_acts_37 : decode cX11_acts 37 = .ok (.aload_n 0, 1) := by decide +kernel
theorem dX11_acts_38 : decode cX11_acts 38 = .ok (.dup, 1) := by decide +kernel
theorem dX11_acts_39 : decode cX11_acts 39 = .ok (.getfield 59, 3) := by decide +kernel
theorem dX11_acts_42 : decode cX11_acts 42 = .ok (.iconst 1, 1) := by decide +kernel
theorem dX11_acts_43 : decode cX11_acts 43 = .ok (.isub, 1) := by decide +kernel
theorem dX11_acts_44 : decode cX11_acts 44 = .ok (.putfield 59, 3) := by decide +kernel
theorem dX11_acts_47 : decode cX11_acts 47 = .ok (.iconst 0, 1) := by decide +kernel
theorem dX11_acts_48 : decode cX11_acts 48 = .ok (.istore_n 1, 1) := by decide +kernel
theorem dX11_acts_49 : decode cX11_acts 49 = .ok (.iload_n 1, 1) := by decide +kernel
theorem dX11_acts_50 : decode cX11_acts 50 = .ok (.bipush 25, 2) := by decide +kernel
theorem dX11_acts_52 : decode cX11_acts 52 = .ok (.if_icmp .ge 29, 3) := by decide +kernel
theorem dX11_acts_55 : decode cX11_acts 55 = .ok (.aload_n 0, 1) := by decide +kernel
theorem dX11_acts_56 : decode cX11_acts 56 = .ok (.getfield 13, 3) := by decide +kernel
theorem dX11_acts_59 : decode cX11_acts 59 = .ok (.bipush 25, 2) := by decide +kernel
theorem dX11_acts_61 : decode cX11_acts 61 = .ok (.aload_n 0, 1) := by decide +kernel
theorem dX11_acts_62 : decode cX11_acts 62 = .ok (.getfield 59, 3) := by decide +kernel
theorem dX11_acts_65 : decode cX11_acts 65 = .ok (.imul, 1) := by decide +kernel
theorem dX11_acts_66 : decode cX11_acts 66 = .ok (.iload_n 1, 1) := by decide +kernel
theorem dX11_acts_67 : decode cX11_acts 67 = .ok (.iadd, 1) := by decide +kernel
theorem dX11_acts_68 : decode cX11_acts 68 = .ok (.aload_n 0, 1) := by decide +kernel
theorem dX11_acts_69 : decode cX11_acts 69 = .ok (.getfield 7, 3) := by decide +kernel
theorem dX11_acts_72 : decode cX11_acts 72 = .ok (.iload_n 1, 1) := by decide +kernel
theorem dX11_acts_73 : decode cX11_acts 73 = .ok (.iaload, 1) := by decide +kernel
theorem dX11_acts_74 : decode cX11_acts 74 = .ok (.iastore, 1) := by decide +kernel
theorem dX11_acts_75 : decode cX11_acts 75 = .ok (.iinc 1 1, 3) := by decide +kernel
theorem dX11_acts_78 : decode cX11_acts 78 = .ok (.goto (-29), 3) := by decide +kernel
theorem dX11_acts_81 : decode cX11_acts 81 = .ok (.aload_n 0, 1) := by decide +kernel
theorem dX11_acts_82 : decode cX11_acts 82 = .ok (.dup, 1) := by decide +kernel
theorem dX11_acts_83 : decode cX11_acts 83 = .ok (.getfield 59, 3) := by decide +kernel
theorem dX11_acts_86 : decode cX11_acts 86 = .ok (.iconst 1, 1) := by decide +kernel
theorem dX11_acts_87 : decode cX11_acts 87 = .ok (.iadd, 1) := by decide +kernel
theorem dX11_acts_88 : decode cX11_acts 88 = .ok (.putfield 59, 3) := by decide +kernel
theorem dX11_acts_91 : decode cX11_acts 91 = .ok (.return_, 1) := by decide +kernel
theorem dX11_full_0 : decode cX11_full 0 = .ok (.iconst 1, 1) := by decide +kernel
theorem dX11_full_1 : decode cX11_full 1 = .ok (.aload_n 0, 1) := by decide +kernel
theorem dX11_full_2 : decode cX11_full 2 = .ok (.getfield 7, 3) := by decide +kernel
theorem dX11_full_5 : decode cX11_full 5 = .ok (.iconst 0, 1) := by decide +kernel
end
section
theorem dX11_full_6 : decode cX11_full 6 = .ok (.iaload, 1) := by decide +kernel
theorem dX11_full_7 : decode cX11_full 7 = .ok (.ishl, 1) := by decide +kernel
theorem dX11_full_8 : decode cX11_full 8 = .ok (.iconst 1, 1) := by decide +kernel
theorem dX11_full_9 : decode cX11_full 9 = .ok (.isub, 1) := by decide +kernel
theorem dX11_full_10 : decode cX11_full 10 = .ok (.ireturn, 1) := by decide +kernel
theorem dX11_isObject_0 : decode cX11_isObject 0 = .ok (.iload_n 1, 1) := by decide +kernel
theorem dX11_isObject_1 : decode cX11_isObject 1 = .ok (.iconst 1, 1) := by decide +kernel
theorem dX11_isObject_2 : decode cX11_isObject 2 = .ok (.aload_n 0, 1) := by decide +kernel
theorem dX11_isObject_3 : decode cX11_isObject 3 = .ok (.invokevirtual 63, 3) := by decide +kernel
theorem dX11_isObject_6 : decode cX11_isObject 6 = .ok (.invokestatic 67, 3) := by decide +kernel
theorem dX11_isObject_9 : decode cX11_isObject 9 = .ok (.ireturn, 1) := by decide +kernel
theorem dX11_isThere_0 : decode cX11_isThere 0 = .ok (.aload_n 0, 1) := by decide +kernel
theorem dX11_isThere_1 : decode cX11_isThere 1 = .ok (.getfield 7, 3) := by decide +kernel
theorem dX11_isThere_4 : decode cX11_isThere 4 = .ok (.bipush 9, 2) := by decide +kernel
theorem dX11_isThere_6 : decode cX11_isThere 6 = .ok (.iload_n 1, 1) := by decide +kernel
theorem dX11_isThere_7 : decode cX11_isThere 7 = .ok (.bipush 32, 2) := by decide +kernel
theorem dX11_isThere_9 : decode cX11_isThere 9 = .ok (.idiv, 1) := by decide +kernel
theorem dX11_isThere_10 : decode cX11_isThere 10 = .ok (.iadd, 1) := by decide +kernel
theorem dX11_isThere_11 : decode cX11_isThere 11 = .ok (.iaload, 1) := by decide +kernel
theorem dX11_isThere_12 : decode cX11_isThere 12 = .ok (.iload_n 1, 1) := by decide +kernel
theorem dX11_isThere_13 : decode cX11_isThere 13 = .ok (.bipush 32, 2) := by decide +kernel
theorem dX11_isThere_15 : decode cX11_isThere 15 = .ok (.irem, 1) := by decide +kernel
theorem dX11_isThere_16 : decode cX11_isThere 16 = .ok (.ishr, 1) := by decide +kernel
theorem dX11_isThere_17 : decode cX11_isThere 17 = .ok (.iconst 1, 1) := by decide +kernel
theorem dX11_isThere_18 : decode cX11_isThere 18 = .ok (.iand, 1) := by decide +kernel
theorem dX11_isThere_19 : decode cX11_isThere 19 = .ok (.iconst 1, 1) := by decide +kernel
theorem dX11_isThere_20 : decode cX11_isThere 20 = .ok (.if_icmp .ne 7, 3) := by decide +kernel
theorem dX11_isThere_23 : decode cX11_isThere 23 = .ok (.iconst 1, 1) := by decide +kernel
theorem dX11_isThere_24 : decode cX11_isThere 24 = .ok (.goto 4, 3) := by decide +kernel
theorem dX11_isThere_27 : decode cX11_isThere 27 = .ok (.iconst 0, 1) := by decide +kernel
theorem dX11_isThere_28 : decode cX11_isThere 28 = .ok (.ireturn, 1) := by decide +kernel
theorem dX11_of_0 : decode cX11_of 0 = .ok (.iload_n 0, 1) := by decide +kernel
theorem dX11_of_1 : decode cX11_of 1 = .ok (.iconst 3, 1) := by decide +kernel
theorem dX11_of_2 : decode cX11_of 2 = .ok (.iload_n 1, 1) := by decide +kernel
theorem dX11_of_3 : decode cX11_of 3 = .ok (.imul, 1) := by decide +kernel
theorem dX11_of_4 : decode cX11_of 4 = .ok (.ishr, 1) := by decide +kernel
theorem dX11_of_5 : decode cX11_of 5 = .ok (.bipush 7, 2) := by decide +kernel
theorem dX11_of_7 : decode cX11_of 7 = .ok (.iand, 1) := by decide +kernel
theorem dX11_of_8 : decode cX11_of 8 = .ok (.ireturn, 1) := by decide +kernel
theorem dX11_size_0 : decode cX11_size 0 = .ok (.iconst 0, 1) := by decide +kernel
theorem dX11_size_1 : decode cX11_size 1 = .ok (.istore_n 1, 1) := by decide +kernel
theorem dX11_size_2 : decode cX11_size 2 = .ok (.iconst 0, 1) := by decide +kernel
theorem dX11_size_3 : decode cX11_size 3 = .ok (.istore_n 2, 1) := by decide +kernel
theorem dX11_size_4 : decode cX11_size 4 = .ok (.iload_n 2, 1) := by decide +kernel
theorem dX11_size_5 : decode cX11_size 5 = .ok (.sipush 512, 3) := by decide +kernel
theorem dX11_size_8 : decode cX11_size 8 = .ok (.if_icmp .ge 25, 3) := by decide +kernel
theorem dX11_size_11 : decode cX11_size 11 = .ok (.iload_n 1, 1) := by decide +kernel
theorem dX11_size_12 : decode cX11_size 12 = .ok (.aload_n 0, 1) := by decide +kernel
theorem dX11_size_13 : decode cX11_size 13 = .ok (.iload_n 2, 1) := by decide +kernel
theorem dX11_size_14 : decode cX11_size 14 = .ok (.invokevirtual 71, 3) := by decide +kernel
theorem dX11_size_17 : decode cX11_size 17 = .ok (.ifCond .eq 7, 3) := by decide +kernel
theorem dX11_size_20 : decode cX11_size 20 = .ok (.iconst 1, 1) := by decide +kernel
theorem dX11_size_21 : decode cX11_size 21 = .ok (.goto 4, 3) := by decide +kernel
theorem dX11_size_24 : decode cX11_size 24 = .ok (.iconst 0, 1) := by decide +kernel
theorem dX11_size_25 : decode cX11_size 25 = .ok (.iadd, 1) := by decide +kernel
theorem dX11_size_26 : decode cX11_size 26 = .ok (.istore_n 1, 1) := by decide +kernel
theorem dX11_size_27 : decode cX11_size 27 = .ok (.iinc 2 1, 3) := by decide +kernel
theorem dX11_size_30 : decode cX11_size 30 = .ok (.goto (-26), 3) := by decide +kernel
theorem dX11_size_33 : decode cX11_size 33 = .ok (.iload_n 1, 1) := by decide +kernel
theorem dX11_size_34 : decode cX11_size 34 = .ok (.ireturn, 1) := by decide +kernel
theorem dX11_first_0 : decode cX11_first 0 = .ok (.aload_n 0, 1) := by decide +kernel
theorem dX11_first_1 : decode cX11_first 1 = .ok (.getfield 7, 3) := by decide +kernel
theorem dX11_first_4 : decode cX11_first 4 = .ok (.bipush 7, 2) := by decide +kernel
theorem dX11_first_6 : decode cX11_first 6 = .ok (.iconst 0, 1) := by decide +kernel
theorem dX11_first_7 : decode cX11_first 7 = .ok (.iastore, 1) := by decide +kernel
theorem dX11_first_8 : decode cX11_first 8 = .ok (.iconst 0, 1) := by decide +kernel
theorem dX11_first_9 : decode cX11_first 9 = .ok (.istore_n 1, 1) := by decide +kernel
theorem dX11_first_10 : decode cX11_first 10 = .ok (.iload_n 1, 1) := by decide +kernel
theorem dX11_first_11 : decode cX11_first 11 = .ok (.bipush 16, 2) := by decide +kernel
theorem dX11_first_13 : decode cX11_first 13 = .ok (.if_icmp .ge 27, 3) := by decide +kernel
theorem dX11_first_16 : decode cX11_first 16 = .ok (.aload_n 0, 1) := by decide +kernel
theorem dX11_first_17 : decode cX11_first 17 = .ok (.getfield 7, 3) := by decide +kernel
theorem dX11_first_20 : decode cX11_first 20 = .ok (.bipush 9, 2) := by decide +kernel
theorem dX11_first_22 : decode cX11_first 22 = .ok (.iload_n 1, 1) := by decide +kernel
theorem dX11_first_23 : decode cX11_first 23 = .ok (.iadd, 1) := by decide +kernel
theorem dX11_first_24 : decode cX11_first 24 = .ok (.iload_n 1, 1) := by decide +kernel
theorem dX11_first_25 : decode cX11_first 25 = .ok (.ifCond .ne 7, 3) := by decide +kernel
theorem dX11_first_28 : decode cX11_first 28 = .ok (.iconst 1, 1) := by decide +kernel
theorem dX11_first_29 : decode cX11_first 29 = .ok (.goto 4, 3) := by decide +kernel
theorem dX11_first_32 : decode cX11_first 32 = .ok (.iconst 0, 1) := by decide +kernel
theorem dX11_first_33 : decode cX11_first 33 = .ok (.iastore, 1) := by decide +kernel
theorem dX11_first_34 : decode cX11_first 34 = .ok (.iinc 1 1, 3) := by decide +kernel
theorem dX11_first_37 : decode cX11_first 37 = .ok (.goto (-27), 3) := by decide +kernel
theorem dX11_first_40 : decode cX11_first 40 = .ok (.return_, 1) := by decide +kernel
theorem dX11_setIndividuals_0 : decode cX11_setIndividuals 0 = .ok (.iload_n 1, 1) := by decide +kernel
theorem dX11_setIndividuals_1 : decode cX11_setIndividuals 1 = .ok (.iconst 1, 1) := by decide +kernel
theorem dX11_setIndividuals_2 : decode cX11_setIndividuals 2 = .ok (.iconst 3, 1) := by decide +kernel
theorem dX11_setIndividuals_3 : decode cX11_setIndividuals 3 = .ok (.invokestatic 67, 3) := by decide +kernel
theorem dX11_setIndividuals_6 : decode cX11_setIndividuals 6 = .ok (.ifCond .ne 5, 3) := by decide +kernel
theorem dX11_setIndividuals_9 : decode cX11_setIndividuals 9 = .ok (.iconst (-1), 1) := by decide +kernel
theorem dX11_setIndividuals_10 : decode cX11_setIndividuals 10 = .ok (.ireturn, 1) := by decide +kernel
theorem dX11_setIndividuals_11 : decode cX11_setIndividuals 11 = .ok (.aload_n 0, 1) := by decide +kernel
theorem dX11_setIndividuals_12 : decode cX11_setIndividuals 12 = .ok (.invokevirtual 75, 3) := by decide +kernel
theorem dX11_setIndividuals_15 : decode cX11_setIndividuals 15 = .ok (.aload_n 0, 1) := by decide +kernel
theorem dX11_setIndividuals_16 : decode cX11_setIndividuals 16 = .ok (.getfield 7, 3) := by decide +kernel
theorem dX11_setIndividuals_19 : decode cX11_setIndividuals 19 = .ok (.iconst 0, 1) := by decide +kernel
theorem dX11_setIndividuals_20 : decode cX11_setIndividuals 20 = .ok (.iaload, 1) := by decide +kernel
theorem dX11_setIndividuals_21 : decode cX11_setIndividuals 21 = .ok (.istore_n 2, 1) := by decide +kernel
theorem dX11_setIndividuals_22 : decode cX11_setIndividuals 22 = .ok (.aload_n 0, 1) := by decide +kernel
theorem dX11_setIndividuals_23 : decode cX11_setIndividuals 23 = .ok (.getfield 7, 3) := by decide +kernel
theorem dX11_setIndividuals_26 : decode cX11_setIndividuals 26 = .ok (.iconst 0, 1) := by decide +kernel
theorem dX11_setIndividuals_27 : decode cX11_setIndividuals 27 = .ok (.iload_n 1, 1) := by decide +kernel
theorem dX11_setIndividuals_28 : decode cX11_setIndividuals 28 = .ok (.iastore, 1) := by decide +kernel
theorem dX11_setIndividuals_29 : decode cX11_setIndividuals 29 = .ok (.iconst 1, 1) := by decide +kernel
theorem dX11_setIndividuals_30 : decode cX11_setIndividuals 30 = .ok (.istore_n 3, 1) := by decide +kernel
theorem dX11_setIndividuals_31 : decode cX11_setIndividuals 31 = .ok (.iload_n 3, 1) := by decide +kernel
theorem dX11_setIndividuals_32 : decode cX11_setIndividuals 32 = .ok (.bipush 6, 2) := by decide +kernel
theorem dX11_setIndividuals_34 : decode cX11_setIndividuals 34 = .ok (.if_icmp .ge 16, 3) := by decide +kernel
theorem dX11_setIndividuals_37 : decode cX11_setIndividuals 37 = .ok (.aload_n 0, 1) := by decide +kernel
theorem dX11_setIndividuals_38 : decode cX11_setIndividuals 38 = .ok (.getfield 7, 3) := by decide +kernel
theorem dX11_setIndividuals_41 : decode cX11_setIndividuals 41 = .ok (.iload_n 3, 1) := by decide +kernel
theorem dX11_setIndividuals_42 : decode cX11_setIndividuals 42 = .ok (.iconst 0, 1) := by decide +kernel
theorem dX11_setIndividuals_43 : decode cX11_setIndividuals 43 = .ok (.iastore, 1) := by decide +kernel
theorem dX11_setIndividuals_44 : decode cX11_setIndividuals 44 = .ok (.iinc 3 1, 3) := by decide +kernel
theorem dX11_setIndividuals_47 : decode cX11_setIndividuals 47 = .ok (.goto (-16), 3) := by decide +kernel
theorem dX11_setIndividuals_50 : decode cX11_setIndividuals 50 = .ok (.aload_n 0, 1) := by decide +kernel
theorem dX11_setIndividuals_51 : decode cX11_setIndividuals 51 = .ok (.invokevirtual 78, 3) := by decide +kernel
theorem dX11_setIndividuals_54 : decode cX11_setIndividuals 54 = .ok (.iload_n 2, 1) := by decide +kernel
theorem dX11_setIndividuals_55 : decode cX11_setIndividuals 55 = .ok (.ireturn, 1) := by decide +kernel
theorem dX11_setPredicate_0 : decode cX11_setPredicate 0 = .ok (.iload_n 1, 1) := by decide +kernel
theorem dX11_setPredicate_1 : decode cX11_setPredicate 1 = .ok (.iconst 0, 1) := by decide +kernel
theorem dX11_setPredicate_2 : decode cX11_setPredicate 2 = .ok (.iconst 2, 1) := by decide +kernel
theorem dX11_setPredicate_3 : decode cX11_setPredicate 3 = .ok (.invokestatic 67, 3) := by decide +kernel
theorem dX11_setPredicate_6 : decode cX11_setPredicate 6 = .ok (.ifCond .eq 15, 3) := by decide +kernel
theorem dX11_setPredicate_9 : decode cX11_setPredicate 9 = .ok (.iload_n 2, 1) := by decide +kernel
theorem dX11_setPredicate_10 : decode cX11_setPredicate 10 = .ok (.iconst 0, 1) := by decide +kernel
theorem dX11_setPredicate_11 : decode cX11_setPredicate 11 = .ok (.aload_n 0, 1) := by decide +kernel
theorem dX11_setPredicate_12 : decode cX11_setPredicate 12 = .ok (.invokevirtual 63, 3) := by decide +kernel
theorem dX11_setPredicate_15 : decode cX11_setPredicate 15 = .ok (.invokestatic 67, 3) := by decide +kernel
theorem dX11_setPredicate_18 : decode cX11_setPredicate 18 = .ok (.ifCond .ne 5, 3) := by decide +kernel
theorem dX11_setPredicate_21 : decode cX11_setPredicate 21 = .ok (.iconst (-1), 1) := by decide +kernel
theorem dX11_setPredicate_22 : decode cX11_setPredicate 22 = .ok (.ireturn, 1) := by decide +kernel
theorem dX11_setPredicate_23 : decode cX11_setPredicate 23 = .ok (.aload_n 0, 1) := by decide +kernel
theorem dX11_setPredicate_24 : decode cX11_setPredicate 24 = .ok (.invokevirtual 75, 3) := by decide +kernel
theorem dX11_setPredicate_27 : decode cX11_setPredicate 27 = .ok (.aload_n 0, 1) := by decide +kernel
theorem dX11_setPredicate_28 : decode cX11_setPredicate 28 = .ok (.getfield 7, 3) := by decide +kernel
theorem dX11_setPredicate_31 : decode cX11_setPredicate 31 = .ok (.iconst 1, 1) := by decide +kernel
theorem dX11_setPredicate_32 : decode cX11_setPredicate 32 = .ok (.iload_n 1, 1) := by decide +kernel
theorem dX11_setPredicate_33 : decode cX11_setPredicate 33 = .ok (.iadd, 1) := by decide +kernel
theorem dX11_setPredicate_34 : decode cX11_setPredicate 34 = .ok (.iaload, 1) := by decide +kernel
theorem dX11_setPredicate_35 : decode cX11_setPredicate 35 = .ok (.istore_n 3, 1) := by decide +kernel
theorem dX11_setPredicate_36 : decode cX11_setPredicate 36 = .ok (.aload_n 0, 1) := by decide +kernel
theorem dX11_setPredicate_37 : decode cX11_setPredicate 37 = .ok (.getfield 7, 3) := by decide +kernel
theorem dX11_setPredicate_40 : decode cX11_setPredicate 40 = .ok (.iconst 1, 1) := by decide +kernel
theorem dX11_setPredicate_41 : decode cX11_setPredicate 41 = .ok (.iload_n 1, 1) := by decide +kernel
theorem dX11_setPredicate_42 : decode cX11_setPredicate 42 = .ok (.iadd, 1) := by decide +kernel
theorem dX11_setPredicate_43 : decode cX11_setPredicate 43 = .ok (.iload_n 2, 1) := by decide +kernel
theorem dX11_setPredicate_44 : decode cX11_setPredicate 44 = .ok (.iastore, 1) := by decide +kernel
theorem dX11_setPredicate_45 : decode cX11_setPredicate 45 = .ok (.iload_n 3, 1) := by decide +kernel
theorem dX11_setPredicate_46 : decode cX11_setPredicate 46 = .ok (.ireturn, 1) := by decide +kernel
theorem dX11_setPair_0 : decode cX11_setPair 0 = .ok (.iload_n 1, 1) := by decide +kernel
theorem dX11_setPair_1 : decode cX11_setPair 1 = .ok (.iconst 0, 1) := by decide +kernel
theorem dX11_setPair_2 : decode cX11_setPair 2 = .ok (.iconst 1, 1) := by decide +kernel
theorem dX11_setPair_3 : decode cX11_setPair 3 = .ok (.invokestatic 67, 3) := by decide +kernel
theorem dX11_setPair_6 : decode cX11_setPair 6 = .ok (.ifCond .eq 45, 3) := by decide +kernel
theorem dX11_setPair_9 : decode cX11_setPair 9 = .ok (.iload_n 2, 1) := by decide +kernel
theorem dX11_setPair_10 : decode cX11_setPair 10 = .ok (.iconst 0, 1) := by decide +kernel
theorem dX11_setPair_11 : decode cX11_setPair 11 = .ok (.aload_n 0, 1) := by decide +kernel
theorem dX11_setPair_12 : decode cX11_setPair 12 = .ok (.getfield 7, 3) := by decide +kernel
theorem dX11_setPair_15 : decode cX11_setPair 15 = .ok (.iconst 0, 1) := by decide +kernel
theorem dX11_setPair_16 : decode cX11_setPair 16 = .ok (.iaload, 1) := by decide +kernel
theorem dX11_setPair_17 : decode cX11_setPair 17 = .ok (.iconst 1, 1) := by decide +kernel
theorem dX11_setPair_18 : decode cX11_setPair 18 = .ok (.isub, 1) := by decide +kernel
theorem dX11_setPair_19 : decode cX11_setPair 19 = .ok (.invokestatic 67, 3) := by decide +kernel
theorem dX11_setPair_22 : decode cX11_setPair 22 = .ok (.ifCond .eq 29, 3) := by decide +kernel
theorem dX11_setPair_25 : decode cX11_setPair 25 = .ok (.iload_n 3, 1) := by decide +kernel
theorem dX11_setPair_26 : decode cX11_setPair 26 = .ok (.iconst 0, 1) := by decide +kernel
theorem dX11_setPair_27 : decode cX11_setPair 27 = .ok (.aload_n 0, 1) := by decide +kernel
theorem dX11_setPair_28 : decode cX11_setPair 28 = .ok (.getfield 7, 3) := by decide +kernel
theorem dX11_setPair_31 : decode cX11_setPair 31 = .ok (.iconst 0, 1) := by decide +kernel
theorem dX11_setPair_32 : decode cX11_setPair 32 = .ok (.iaload, 1) := by decide +kernel
theorem dX11_setPair_33 : decode cX11_setPair 33 = .ok (.iconst 1, 1) := by decide +kernel
theorem dX11_setPair_34 : decode cX11_setPair 34 = .ok (.isub, 1) := by decide +kernel
theorem dX11_setPair_35 : decode cX11_setPair 35 = .ok (.invokestatic 67, 3) := by decide +kernel
theorem dX11_setPair_38 : decode cX11_setPair 38 = .ok (.ifCond .eq 13, 3) := by decide +kernel
theorem dX11_setPair_41 : decode cX11_setPair 41 = .ok (.iload 4, 2) := by decide +kernel
theorem dX11_setPair_43 : decode cX11_setPair 43 = .ok (.iconst 0, 1) := by decide +kernel
theorem dX11_setPair_44 : decode cX11_setPair 44 = .ok (.iconst 1, 1) := by decide +kernel
theorem dX11_setPair_45 : decode cX11_setPair 45 = .ok (.invokestatic 67, 3) := by decide +kernel
theorem dX11_setPair_48 : decode cX11_setPair 48 = .ok (.ifCond .ne 5, 3) := by decide +kernel
theorem dX11_setPair_51 : decode cX11_setPair 51 = .ok (.iconst (-1), 1) := by decide +kernel
theorem dX11_setPair_52 : decode cX11_setPair 52 = .ok (.ireturn, 1) := by decide +kernel
theorem dX11_setPair_53 : decode cX11_setPair 53 = .ok (.aload_n 0, 1) := by decide +kernel
theorem dX11_setPair_54 : decode cX11_setPair 54 = .ok (.invokevirtual 75, 3) := by decide +kernel
theorem dX11_setPair_57 : decode cX11_setPair 57 = .ok (.iconst 3, 1) := by decide +kernel
theorem dX11_setPair_58 : decode cX11_setPair 58 = .ok (.iload_n 2, 1) := by decide +kernel
theorem dX11_setPair_59 : decode cX11_setPair 59 = .ok (.imul, 1) := by decide +kernel
theorem dX11_setPair_60 : decode cX11_setPair 60 = .ok (.iload_n 3, 1) := by decide +kernel
theorem dX11_setPair_61 : decode cX11_setPair 61 = .ok (.iadd, 1) := by decide +kernel
theorem dX11_setPair_62 : decode cX11_setPair 62 = .ok (.istore 5, 2) := by decide +kernel
theorem dX11_setPair_64 : decode cX11_setPair 64 = .ok (.aload_n 0, 1) := by decide +kernel
theorem dX11_setPair_65 : decode cX11_setPair 65 = .ok (.getfield 7, 3) := by decide +kernel
theorem dX11_setPair_68 : decode cX11_setPair 68 = .ok (.iconst 4, 1) := by decide +kernel
theorem dX11_setPair_69 : decode cX11_setPair 69 = .ok (.iload_n 1, 1) := by decide +kernel
theorem dX11_setPair_70 : decode cX11_setPair 70 = .ok (.iadd, 1) := by decide +kernel
theorem dX11_setPair_71 : decode cX11_setPair 71 = .ok (.iaload, 1) := by decide +kernel
theorem dX11_setPair_72 : decode cX11_setPair 72 = .ok (.iload 5, 2) := by decide +kernel
theorem dX11_setPair_74 : decode cX11_setPair 74 = .ok (.ishr, 1) := by decide +kernel
theorem dX11_setPair_75 : decode cX11_setPair 75 = .ok (.iconst 1, 1) := by decide +kernel
theorem dX11_setPair_76 : decode cX11_setPair 76 = .ok (.iand, 1) := by decide +kernel
theorem dX11_setPair_77 : decode cX11_setPair 77 = .ok (.istore 6, 2) := by decide +kernel
theorem dX11_setPair_79 : decode cX11_setPair 79 = .ok (.aload_n 0, 1) := by decide +kernel
theorem dX11_setPair_80 : decode cX11_setPair 80 = .ok (.getfield 7, 3) := by decide +kernel
theorem dX11_setPair_83 : decode cX11_setPair 83 = .ok (.iconst 4, 1) := by decide +kernel
theorem dX11_setPair_84 : decode cX11_setPair 84 = .ok (.iload_n 1, 1) := by decide +kernel
theorem dX11_setPair_85 : decode cX11_setPair 85 = .ok (.iadd, 1) := by decide +kernel
theorem dX11_setPair_86 : decode cX11_setPair 86 = .ok (.aload_n 0, 1) := by decide +kernel
theorem dX11_setPair_87 : decode cX11_setPair 87 = .ok (.getfield 7, 3) := by decide +kernel
theorem dX11_setPair_90 : decode cX11_setPair 90 = .ok (.iconst 4, 1) := by decide +kernel
theorem dX11_setPair_91 : decode cX11_setPair 91 = .ok (.iload_n 1, 1) := by decide +kernel
theorem dX11_setPair_92 : decode cX11_setPair 92 = .ok (.iadd, 1) := by decide +kernel
theorem dX11_setPair_93 : decode cX11_setPair 93 = .ok (.iaload, 1) := by decide +kernel
theorem dX11_setPair_94 : decode cX11_setPair 94 = .ok (.iconst 1, 1) := by decide +kernel
theorem dX11_setPair_95 : decode cX11_setPair 95 = .ok (.iload 5, 2) := by decide +kernel
theorem dX11_setPair_97 : decode cX11_setPair 97 = .ok (.ishl, 1) := by decide +kernel
theorem dX11_setPair_98 : decode cX11_setPair 98 = .ok (.iconst (-1), 1) := by decide +kernel
theorem dX11_setPair_99 : decode cX11_setPair 99 = .ok (.ixor, 1) := by decide +kernel
theorem dX11_setPair_100 : decode cX11_setPair 100 = .ok (.iand, 1) := by decide +kernel
theorem dX11_setPair_101 : decode cX11_setPair 101 = .ok (.iload 4, 2) := by decide +kernel
theorem dX11_setPair_103 : decode cX11_setPair 103 = .ok (.iload 5, 2) := by decide +kernel
theorem dX11_setPair_105 : decode cX11_setPair 105 = .ok (.ishl, 1) := by decide +kernel
theorem dX11_setPair_106 : decode cX11_setPair 106 = .ok (.ior, 1) := by decide +kernel
theorem dX11_setPair_107 : decode cX11_setPair 107 = .ok (.iastore, 1) := by decide +kernel
theorem dX11_setPair_108 : decode cX11_setPair 108 = .ok (.iload 6, 2) := by decide +kernel
theorem dX11_setPair_110 : decode cX11_setPair 110 = .ok (.ireturn, 1) := by decide +kernel
theorem dX11_individuals_0 : decode cX11_individuals 0 = .ok (.aload_n 0, 1) := by decide +kernel
theorem dX11_individuals_1 : decode cX11_individuals 1 = .ok (.getfield 7, 3) := by decide +kernel
theorem dX11_individuals_4 : decode cX11_individuals 4 = .ok (.iconst 0, 1) := by decide +kernel
theorem dX11_individuals_5 : decode cX11_individuals 5 = .ok (.iaload, 1) := by decide +kernel
theorem dX11_individuals_6 : decode cX11_individuals 6 = .ok (.ireturn, 1) := by decide +kernel
theorem dX11_predicate_0 : decode cX11_predicate 0 = .ok (.iload_n 1, 1) := by decide +kernel
theorem dX11_predicate_1 : decode cX11_predicate 1 = .ok (.iconst 0, 1) := by decide +kernel
theorem dX11_predicate_2 : decode cX11_predicate 2 = .ok (.iconst 2, 1) := by decide +kernel
theorem dX11_predicate_3 : decode cX11_predicate 3 = .ok (.invokestatic 67, 3) := by decide +kernel
theorem dX11_predicate_6 : decode cX11_predicate 6 = .ok (.ifCond .eq 14, 3) := by decide +kernel
theorem dX11_predicate_9 : decode cX11_predicate 9 = .ok (.aload_n 0, 1) := by decide +kernel
theorem dX11_predicate_10 : decode cX11_predicate 10 = .ok (.getfield 7, 3) := by decide +kernel
theorem dX11_predicate_13 : decode cX11_predicate 13 = .ok (.iconst 1, 1) := by decide +kernel
theorem dX11_predicate_14 : decode cX11_predicate 14 = .ok (.iload_n 1, 1) := by decide +kernel
theorem dX11_predicate_15 : decode cX11_predicate 15 = .ok (.iadd, 1) := by decide +kernel
theorem dX11_predicate_16 : decode cX11_predicate 16 = .ok (.iaload, 1) := by decide +kernel
theorem dX11_predicate_17 : decode cX11_predicate 17 = .ok (.goto 4, 3) := by decide +kernel
theorem dX11_predicate_20 : decode cX11_predicate 20 = .ok (.iconst (-1), 1) := by decide +kernel
theorem dX11_predicate_21 : decode cX11_predicate 21 = .ok (.ireturn, 1) := by decide +kernel
theorem dX11_holds_0 : decode cX11_holds 0 = .ok (.iconst 0, 1) := by decide +kernel
theorem dX11_holds_1 : decode cX11_holds 1 = .ok (.istore 4, 2) := by decide +kernel
theorem dX11_holds_3 : decode cX11_holds 3 = .ok (.iconst 1, 1) := by decide +kernel
theorem dX11_holds_4 : decode cX11_holds 4 = .ok (.istore 5, 2) := by decide +kernel
theorem dX11_holds_6 : decode cX11_holds 6 = .ok (.iconst 0, 1) := by decide +kernel
theorem dX11_holds_7 : decode cX11_holds 7 = .ok (.istore 6, 2) := by decide +kernel
theorem dX11_holds_9 : decode cX11_holds 9 = .ok (.iload 6, 2) := by decide +kernel
theorem dX11_holds_11 : decode cX11_holds 11 = .ok (.iconst 3, 1) := by decide +kernel
theorem dX11_holds_12 : decode cX11_holds 12 = .ok (.if_icmp .ge 137, 3) := by decide +kernel
theorem dX11_holds_15 : decode cX11_holds 15 = .ok (.iconst 0, 1) := by decide +kernel
theorem dX11_holds_16 : decode cX11_holds 16 = .ok (.istore 7, 2) := by decide +kernel
theorem dX11_holds_18 : decode cX11_holds 18 = .ok (.iconst 0, 1) := by decide +kernel
theorem dX11_holds_19 : decode cX11_holds 19 = .ok (.istore 8, 2) := by decide +kernel
theorem dX11_holds_21 : decode cX11_holds 21 = .ok (.iload 8, 2) := by decide +kernel
theorem dX11_holds_23 : decode cX11_holds 23 = .ok (.iconst 3, 1) := by decide +kernel
theorem dX11_holds_24 : decode cX11_holds 24 = .ok (.if_icmp .ge 93, 3) := by decide +kernel
theorem dX11_holds_27 : decode cX11_holds 27 = .ok (.iload_n 2, 1) := by decide +kernel
theorem dX11_holds_28 : decode cX11_holds 28 = .ok (.iload 6, 2) := by decide +kernel
theorem dX11_holds_30 : decode cX11_holds 30 = .ok (.ishr, 1) := by decide +kernel
theorem dX11_holds_31 : decode cX11_holds 31 = .ok (.iconst 1, 1) := by decide +kernel
theorem dX11_holds_32 : decode cX11_holds 32 = .ok (.iand, 1) := by decide +kernel
theorem dX11_holds_33 : decode cX11_holds 33 = .ok (.iconst 1, 1) := by decide +kernel
theorem dX11_holds_34 : decode cX11_holds 34 = .ok (.if_icmp .ne 83, 3) := by decide +kernel
theorem dX11_holds_37 : decode cX11_holds 37 = .ok (.iload_n 3, 1) := by decide +kernel
theorem dX11_holds_38 : decode cX11_holds 38 = .ok (.iload 8, 2) := by decide +kernel
theorem dX11_holds_40 : decode cX11_holds 40 = .ok (.ishr, 1) := by decide +kernel
theorem dX11_holds_41 : decode cX11_holds 41 = .ok (.iconst 1, 1) := by decide +kernel
theorem dX11_holds_42 : decode cX11_holds 42 = .ok (.iand, 1) := by decide +kernel
theorem dX11_holds_43 : decode cX11_holds 43 = .ok (.iconst 1, 1) := by decide +kernel
theorem dX11_holds_44 : decode cX11_holds 44 = .ok (.if_icmp .ne 29, 3) := by decide +kernel
theorem dX11_holds_47 : decode cX11_holds 47 = .ok (.aload_n 0, 1) := by decide +kernel
theorem dX11_holds_48 : decode cX11_holds 48 = .ok (.getfield 7, 3) := by decide +kernel
theorem dX11_holds_51 : decode cX11_holds 51 = .ok (.iconst 4, 1) := by decide +kernel
theorem dX11_holds_52 : decode cX11_holds 52 = .ok (.iload_n 1, 1) := by decide +kernel
theorem dX11_holds_53 : decode cX11_holds 53 = .ok (.iadd, 1) := by decide +kernel
theorem dX11_holds_54 : decode cX11_holds 54 = .ok (.iaload, 1) := by decide +kernel
theorem dX11_holds_55 : decode cX11_holds 55 = .ok (.iconst 3, 1) := by decide +kernel
theorem dX11_holds_56 : decode cX11_holds 56 = .ok (.iload 6, 2) := by decide +kernel
theorem dX11_holds_58 : decode cX11_holds 58 = .ok (.imul, 1) := by decide +kernel
theorem dX11_holds_59 : decode cX11_holds 59 = .ok (.iload 8, 2) := by decide +kernel
theorem dX11_holds_61 : decode cX11_holds 61 = .ok (.iadd, 1) := by decide +kernel
theorem dX11_holds_62 : decode cX11_holds 62 = .ok (.ishr, 1) := by decide +kernel
theorem dX11_holds_63 : decode cX11_holds 63 = .ok (.iconst 1, 1) := by decide +kernel
theorem dX11_holds_64 : decode cX11_holds 64 = .ok (.iand, 1) := by decide +kernel
theorem dX11_holds_65 : decode cX11_holds 65 = .ok (.iconst 1, 1) := by decide +kernel
theorem dX11_holds_66 : decode cX11_holds 66 = .ok (.if_icmp .ne 7, 3) := by decide +kernel
theorem dX11_holds_69 : decode cX11_holds 69 = .ok (.iconst 1, 1) := by decide +kernel
theorem dX11_holds_70 : decode cX11_holds 70 = .ok (.goto 4, 3) := by decide +kernel
theorem dX11_holds_73 : decode cX11_holds 73 = .ok (.iconst 0, 1) := by decide +kernel
theorem dX11_holds_74 : decode cX11_holds 74 = .ok (.istore 9, 2) := by decide +kernel
theorem dX11_holds_76 : decode cX11_holds 76 = .ok (.iload 7, 2) := by decide +kernel
theorem dX11_holds_78 : decode cX11_holds 78 = .ok (.ifCond .ne 8, 3) := by decide +kernel
theorem dX11_holds_81 : decode cX11_holds 81 = .ok (.iload 9, 2) := by decide +kernel
theorem dX11_holds_83 : decode cX11_holds 83 = .ok (.ifCond .eq 7, 3) := by decide +kernel
theorem dX11_holds_86 : decode cX11_holds 86 = .ok (.iconst 1, 1) := by decide +kernel
theorem dX11_holds_87 : decode cX11_holds 87 = .ok (.goto 4, 3) := by decide +kernel
theorem dX11_holds_90 : decode cX11_holds 90 = .ok (.iconst 0, 1) := by decide +kernel
theorem dX11_holds_91 : decode cX11_holds 91 = .ok (.istore 7, 2) := by decide +kernel
theorem dX11_holds_93 : decode cX11_holds 93 = .ok (.iload 4, 2) := by decide +kernel
theorem dX11_holds_95 : decode cX11_holds 95 = .ok (.iload 9, 2) := by decide +kernel
theorem dX11_holds_97 : decode cX11_holds 97 = .ok (.ifCond .eq 10, 3) := by decide +kernel
theorem dX11_holds_100 : decode cX11_holds 100 = .ok (.iconst 1, 1) := by decide +kernel
theorem dX11_holds_101 : decode cX11_holds 101 = .ok (.iload 8, 2) := by decide +kernel
theorem dX11_holds_103 : decode cX11_holds 103 = .ok (.ishl, 1) := by decide +kernel
theorem dX11_holds_104 : decode cX11_holds 104 = .ok (.goto 4, 3) := by decide +kernel
theorem dX11_holds_107 : decode cX11_holds 107 = .ok (.iconst 0, 1) := by decide +kernel
theorem dX11_holds_108 : decode cX11_holds 108 = .ok (.ior, 1) := by decide +kernel
theorem dX11_holds_109 : decode cX11_holds 109 = .ok (.istore 4, 2) := by decide +kernel
theorem dX11_holds_111 : decode cX11_holds 111 = .ok (.iinc 8 1, 3) := by decide +kernel
theorem dX11_holds_114 : decode cX11_holds 114 = .ok (.goto (-93), 3) := by decide +kernel
theorem dX11_holds_117 : decode cX11_holds 117 = .ok (.iload 5, 2) := by decide +kernel
theorem dX11_holds_119 : decode cX11_holds 119 = .ok (.ifCond .eq 21, 3) := by decide +kernel
theorem dX11_holds_122 : decode cX11_holds 122 = .ok (.iload 7, 2) := by decide +kernel
theorem dX11_holds_124 : decode cX11_holds 124 = .ok (.ifCond .ne 12, 3) := by decide +kernel
theorem dX11_holds_127 : decode cX11_holds 127 = .ok (.iload_n 2, 1) := by decide +kernel
theorem dX11_holds_128 : decode cX11_holds 128 = .ok (.iload 6, 2) := by decide +kernel
theorem dX11_holds_130 : decode cX11_holds 130 = .ok (.ishr, 1) := by decide +kernel
theorem dX11_holds_131 : decode cX11_holds 131 = .ok (.iconst 1, 1) := by decide +kernel
theorem dX11_holds_132 : decode cX11_holds 132 = .ok (.iand, 1) := by decide +kernel
theorem dX11_holds_133 : decode cX11_holds 133 = .ok (.ifCond .ne 7, 3) := by decide +kernel
theorem dX11_holds_136 : decode cX11_holds 136 = .ok (.iconst 1, 1) := by decide +kernel
theorem dX11_holds_137 : decode cX11_holds 137 = .ok (.goto 4, 3) := by decide +kernel
theorem dX11_holds_140 : decode cX11_holds 140 = .ok (.iconst 0, 1) := by decide +kernel
theorem dX11_holds_141 : decode cX11_holds 141 = .ok (.istore 5, 2) := by decide +kernel
theorem dX11_holds_143 : decode cX11_holds 143 = .ok (.iinc 6 1, 3) := by decide +kernel
theorem dX11_holds_146 : decode cX11_holds 146 = .ok (.goto (-137), 3) := by decide +kernel
theorem dX11_holds_149 : decode cX11_holds 149 = .ok (.iload 5, 2) := by decide +kernel
theorem dX11_holds_151 : decode cX11_holds 151 = .ok (.ifCond .eq 13, 3) := by decide +kernel
theorem dX11_holds_154 : decode cX11_holds 154 = .ok (.iload 4, 2) := by decide +kernel
theorem dX11_holds_156 : decode cX11_holds 156 = .ok (.iload_n 3, 1) := by decide +kernel
theorem dX11_holds_157 : decode cX11_holds 157 = .ok (.if_icmp .ne 7, 3) := by decide +kernel
theorem dX11_holds_160 : decode cX11_holds 160 = .ok (.iconst 1, 1) := by decide +kernel
theorem dX11_holds_161 : decode cX11_holds 161 = .ok (.goto 4, 3) := by decide +kernel
theorem dX11_holds_164 : decode cX11_holds 164 = .ok (.iconst 0, 1) := by decide +kernel
theorem dX11_holds_165 : decode cX11_holds 165 = .ok (.ireturn, 1) := by decide +kernel
theorem dX11_relationHolds_0 : decode cX11_relationHolds 0 = .ok (.iload_n 1, 1) := by decide +kernel
theorem dX11_relationHolds_1 : decode cX11_relationHolds 1 = .ok (.iconst 0, 1) := by decide +kernel
theorem dX11_relationHolds_2 : decode cX11_relationHolds 2 = .ok (.iconst 1, 1) := by decide +kernel
theorem dX11_relationHolds_3 : decode cX11_relationHolds 3 = .ok (.invokestatic 67, 3) := by decide +kernel
theorem dX11_relationHolds_6 : decode cX11_relationHolds 6 = .ok (.ifCond .eq 19, 3) := by decide +kernel
theorem dX11_relationHolds_9 : decode cX11_relationHolds 9 = .ok (.aload_n 0, 1) := by decide +kernel
theorem dX11_relationHolds_10 : decode cX11_relationHolds 10 = .ok (.iload_n 2, 1) := by decide +kernel
theorem dX11_relationHolds_11 : decode cX11_relationHolds 11 = .ok (.invokevirtual 81, 3) := by decide +kernel
theorem dX11_relationHolds_14 : decode cX11_relationHolds 14 = .ok (.ifCond .eq 11, 3) := by decide +kernel
theorem dX11_relationHolds_17 : decode cX11_relationHolds 17 = .ok (.aload_n 0, 1) := by decide +kernel
theorem dX11_relationHolds_18 : decode cX11_relationHolds 18 = .ok (.iload_n 3, 1) := by decide +kernel
theorem dX11_relationHolds_19 : decode cX11_relationHolds 19 = .ok (.invokevirtual 81, 3) := by decide +kernel
theorem dX11_relationHolds_22 : decode cX11_relationHolds 22 = .ok (.ifCond .ne 5, 3) := by decide +kernel
theorem dX11_relationHolds_25 : decode cX11_relationHolds 25 = .ok (.iconst (-1), 1) := by decide +kernel
theorem dX11_relationHolds_26 : decode cX11_relationHolds 26 = .ok (.ireturn, 1) := by decide +kernel
theorem dX11_relationHolds_27 : decode cX11_relationHolds 27 = .ok (.aload_n 0, 1) := by decide +kernel
theorem dX11_relationHolds_28 : decode cX11_relationHolds 28 = .ok (.iload_n 1, 1) := by decide +kernel
theorem dX11_relationHolds_29 : decode cX11_relationHolds 29 = .ok (.iload_n 2, 1) := by decide +kernel
theorem dX11_relationHolds_30 : decode cX11_relationHolds 30 = .ok (.iload_n 3, 1) := by decide +kernel
theorem dX11_relationHolds_31 : decode cX11_relationHolds 31 = .ok (.invokevirtual 84, 3) := by decide +kernel
theorem dX11_relationHolds_34 : decode cX11_relationHolds 34 = .ok (.ifCond .eq 7, 3) := by decide +kernel
theorem dX11_relationHolds_37 : decode cX11_relationHolds 37 = .ok (.iconst 1, 1) := by decide +kernel
theorem dX11_relationHolds_38 : decode cX11_relationHolds 38 = .ok (.goto 4, 3) := by decide +kernel
theorem dX11_relationHolds_41 : decode cX11_relationHolds 41 = .ok (.iconst 0, 1) := by decide +kernel
theorem dX11_relationHolds_42 : decode cX11_relationHolds 42 = .ok (.ireturn, 1) := by decide +kernel
theorem dX11_type_0 : decode cX11_type 0 = .ok (.iload_n 1, 1) := by decide +kernel
theorem dX11_type_1 : decode cX11_type 1 = .ok (.bipush 32, 2) := by decide +kernel
theorem dX11_type_3 : decode cX11_type 3 = .ok (.bipush 126, 2) := by decide +kernel
theorem dX11_type_5 : decode cX11_type 5 = .ok (.invokestatic 67, 3) := by decide +kernel
theorem dX11_type_8 : decode cX11_type 8 = .ok (.ifCond .ne 5, 3) := by decide +kernel
theorem dX11_type_11 : decode cX11_type 11 = .ok (.iconst (-1), 1) := by decide +kernel
theorem dX11_type_12 : decode cX11_type 12 = .ok (.ireturn, 1) := by decide +kernel
theorem dX11_type_13 : decode cX11_type 13 = .ok (.aload_n 0, 1) := by decide +kernel
theorem dX11_type_14 : decode cX11_type 14 = .ok (.getfield 87, 3) := by decide +kernel
theorem dX11_type_17 : decode cX11_type 17 = .ok (.bipush 60, 2) := by decide +kernel
theorem dX11_type_19 : decode cX11_type 19 = .ok (.if_icmp .ne 6, 3) := by decide +kernel
theorem dX11_type_22 : decode cX11_type 22 = .ok (.bipush (-5), 2) := by decide +kernel
theorem dX11_type_24 : decode cX11_type 24 = .ok (.ireturn, 1) := by decide +kernel
theorem dX11_type_25 : decode cX11_type 25 = .ok (.aload_n 0, 1) := by decide +kernel
theorem dX11_type_26 : decode cX11_type 26 = .ok (.getfield 16, 3) := by decide +kernel
theorem dX11_type_29 : decode cX11_type 29 = .ok (.aload_n 0, 1) := by decide +kernel
theorem dX11_type_30 : decode cX11_type 30 = .ok (.getfield 87, 3) := by decide +kernel
theorem dX11_type_33 : decode cX11_type 33 = .ok (.iload_n 1, 1) := by decide +kernel
theorem dX11_type_34 : decode cX11_type 34 = .ok (.iastore, 1) := by decide +kernel
theorem dX11_type_35 : decode cX11_type 35 = .ok (.aload_n 0, 1) := by decide +kernel
theorem dX11_type_36 : decode cX11_type 36 = .ok (.dup, 1) := by decide +kernel
theorem dX11_type_37 : decode cX11_type 37 = .ok (.getfield 87, 3) := by decide +kernel
theorem dX11_type_40 : decode cX11_type 40 = .ok (.iconst 1, 1) := by decide +kernel
theorem dX11_type_41 : decode cX11_type 41 = .ok (.iadd, 1) := by decide +kernel
theorem dX11_type_42 : decode cX11_type 42 = .ok (.putfield 87, 3) := by decide +kernel
theorem dX11_type_45 : decode cX11_type 45 = .ok (.aload_n 0, 1) := by decide +kernel
theorem dX11_type_46 : decode cX11_type 46 = .ok (.getfield 87, 3) := by decide +kernel
theorem dX11_type_49 : decode cX11_type 49 = .ok (.ireturn, 1) := by decide +kernel
theorem dX11_clearText_0 : decode cX11_clearText 0 = .ok (.aload_n 0, 1) := by decide +kernel
theorem dX11_clearText_1 : decode cX11_clearText 1 = .ok (.getfield 87, 3) := by decide +kernel
theorem dX11_clearText_4 : decode cX11_clearText 4 = .ok (.istore_n 1, 1) := by decide +kernel
theorem dX11_clearText_5 : decode cX11_clearText 5 = .ok (.aload_n 0, 1) := by decide +kernel
theorem dX11_clearText_6 : decode cX11_clearText 6 = .ok (.iconst 0, 1) := by decide +kernel
theorem dX11_clearText_7 : decode cX11_clearText 7 = .ok (.putfield 87, 3) := by decide +kernel
theorem dX11_clearText_10 : decode cX11_clearText 10 = .ok (.iload_n 1, 1) := by decide +kernel
theorem dX11_clearText_11 : decode cX11_clearText 11 = .ok (.ireturn, 1) := by decide +kernel
theorem dX11_pushes_0 : decode cX11_pushes 0 = .ok (.aload_n 0, 1) := by decide +kernel
theorem dX11_pushes_1 : decode cX11_pushes 1 = .ok (.getfield 19, 3) := by decide +kernel
theorem dX11_pushes_4 : decode cX11_pushes 4 = .ok (.aload_n 0, 1) := by decide +kernel
theorem dX11_pushes_5 : decode cX11_pushes 5 = .ok (.getfield 90, 3) := by decide +kernel
theorem dX11_pushes_8 : decode cX11_pushes 8 = .ok (.iload_n 1, 1) := by decide +kernel
theorem dX11_pushes_9 : decode cX11_pushes 9 = .ok (.iastore, 1) := by decide +kernel
theorem dX11_pushes_10 : decode cX11_pushes 10 = .ok (.aload_n 0, 1) := by decide +kernel
theorem dX11_pushes_11 : decode cX11_pushes 11 = .ok (.dup, 1) := by decide +kernel
theorem dX11_pushes_12 : decode cX11_pushes 12 = .ok (.getfield 90, 3) := by decide +kernel
theorem dX11_pushes_15 : decode cX11_pushes 15 = .ok (.iconst 1, 1) := by decide +kernel
theorem dX11_pushes_16 : decode cX11_pushes 16 = .ok (.iadd, 1) := by decide +kernel
theorem dX11_pushes_17 : decode cX11_pushes 17 = .ok (.putfield 90, 3) := by decide +kernel
theorem dX11_pushes_20 : decode cX11_pushes 20 = .ok (.return_, 1) := by decide +kernel
theorem dX11_pushesTest_0 : decode cX11_pushesTest 0 = .ok (.iconst 0, 1) := by decide +kernel
theorem dX11_pushesTest_1 : decode cX11_pushesTest 1 = .ok (.istore_n 2, 1) := by decide +kernel
theorem dX11_pushesTest_2 : decode cX11_pushesTest 2 = .ok (.iload_n 2, 1) := by decide +kernel
theorem dX11_pushesTest_3 : decode cX11_pushesTest 3 = .ok (.sipush 512, 3) := by decide +kernel
theorem dX11_pushesTest_6 : decode cX11_pushesTest 6 = .ok (.if_icmp .ge 46, 3) := by decide +kernel
theorem dX11_pushesTest_9 : decode cX11_pushesTest 9 = .ok (.aload_n 0, 1) := by decide +kernel
theorem dX11_pushesTest_10 : decode cX11_pushesTest 10 = .ok (.getfield 93, 3) := by decide +kernel
theorem dX11_pushesTest_13 : decode cX11_pushesTest 13 = .ok (.ifCond .eq 39, 3) := by decide +kernel
theorem dX11_pushesTest_16 : decode cX11_pushesTest 16 = .ok (.aload_n 0, 1) := by decide +kernel
theorem dX11_pushesTest_17 : decode cX11_pushesTest 17 = .ok (.getfield 22, 3) := by decide +kernel
theorem dX11_pushesTest_20 : decode cX11_pushesTest 20 = .ok (.sipush 512, 3) := by decide +kernel
theorem dX11_pushesTest_23 : decode cX11_pushesTest 23 = .ok (.aload_n 0, 1) := by decide +kernel
theorem dX11_pushesTest_24 : decode cX11_pushesTest 24 = .ok (.getfield 90, 3) := by decide +kernel
theorem dX11_pushesTest_27 : decode cX11_pushesTest 27 = .ok (.imul, 1) := by decide +kernel
theorem dX11_pushesTest_28 : decode cX11_pushesTest 28 = .ok (.iload_n 2, 1) := by decide +kernel
theorem dX11_pushesTest_29 : decode cX11_pushesTest 29 = .ok (.iadd, 1) := by decide +kernel
theorem dX11_pushesTest_30 : decode cX11_pushesTest 30 = .ok (.aload_n 0, 1) := by decide +kernel
theorem dX11_pushesTest_31 : decode cX11_pushesTest 31 = .ok (.getfield 26, 3) := by decide +kernel
theorem dX11_pushesTest_34 : decode cX11_pushesTest 34 = .ok (.iload_n 2, 1) := by decide +kernel
theorem dX11_pushesTest_35 : decode cX11_pushesTest 35 = .ok (.baload, 1) := by decide +kernel
theorem dX11_pushesTest_36 : decode cX11_pushesTest 36 = .ok (.iload_n 1, 1) := by decide +kernel
theorem dX11_pushesTest_37 : decode cX11_pushesTest 37 = .ok (.if_icmp .eq 7, 3) := by decide +kernel
theorem dX11_pushesTest_40 : decode cX11_pushesTest 40 = .ok (.iconst 1, 1) := by decide +kernel
theorem dX11_pushesTest_41 : decode cX11_pushesTest 41 = .ok (.goto 4, 3) := by decide +kernel
theorem dX11_pushesTest_44 : decode cX11_pushesTest 44 = .ok (.iconst 0, 1) := by decide +kernel
theorem dX11_pushesTest_45 : decode cX11_pushesTest 45 = .ok (.bastore, 1) := by decide +kernel
theorem dX11_pushesTest_46 : decode cX11_pushesTest 46 = .ok (.iinc 2 1, 3) := by decide +kernel
theorem dX11_pushesTest_49 : decode cX11_pushesTest 49 = .ok (.goto (-47), 3) := by decide +kernel
theorem dX11_pushesTest_52 : decode cX11_pushesTest 52 = .ok (.aload_n 0, 1) := by decide +kernel
theorem dX11_pushesTest_53 : decode cX11_pushesTest 53 = .ok (.iconst 3, 1) := by decide +kernel
theorem dX11_pushesTest_54 : decode cX11_pushesTest 54 = .ok (.invokevirtual 97, 3) := by decide +kernel
theorem dX11_pushesTest_57 : decode cX11_pushesTest 57 = .ok (.return_, 1) := by decide +kernel
theorem dX11_leads_0 : decode cX11_leads 0 = .ok (.aload_n 0, 1) := by decide +kernel
theorem dX11_leads_1 : decode cX11_leads 1 = .ok (.getfield 90, 3) := by decide +kernel
theorem dX11_leads_4 : decode cX11_leads 4 = .ok (.iconst 1, 1) := by decide +kernel
theorem dX11_leads_5 : decode cX11_leads 5 = .ok (.isub, 1) := by decide +kernel
theorem dX11_leads_6 : decode cX11_leads 6 = .ok (.istore_n 2, 1) := by decide +kernel
theorem dX11_leads_7 : decode cX11_leads 7 = .ok (.iload_n 2, 1) := by decide +kernel
theorem dX11_leads_8 : decode cX11_leads 8 = .ok (.iload_n 1, 1) := by decide +kernel
theorem dX11_leads_9 : decode cX11_leads 9 = .ok (.if_icmp .lt 182, 3) := by decide +kernel
theorem dX11_leads_12 : decode cX11_leads 12 = .ok (.aload_n 0, 1) := by decide +kernel
theorem dX11_leads_13 : decode cX11_leads 13 = .ok (.getfield 93, 3) := by decide +kernel
theorem dX11_leads_16 : decode cX11_leads 16 = .ok (.ifCond .eq 175, 3) := by decide +kernel
theorem dX11_leads_19 : decode cX11_leads 19 = .ok (.iconst 0, 1) := by decide +kernel
theorem dX11_leads_20 : decode cX11_leads 20 = .ok (.istore_n 3, 1) := by decide +kernel
theorem dX11_leads_21 : decode cX11_leads 21 = .ok (.iload_n 3, 1) := by decide +kernel
theorem dX11_leads_22 : decode cX11_leads 22 = .ok (.sipush 512, 3) := by decide +kernel
theorem dX11_leads_25 : decode cX11_leads 25 = .ok (.if_icmp .ge 21, 3) := by decide +kernel
theorem dX11_leads_28 : decode cX11_leads 28 = .ok (.aload_n 0, 1) := by decide +kernel
theorem dX11_leads_29 : decode cX11_leads 29 = .ok (.getfield 29, 3) := by decide +kernel
theorem dX11_leads_32 : decode cX11_leads 32 = .ok (.iload_n 3, 1) := by decide +kernel
theorem dX11_leads_33 : decode cX11_leads 33 = .ok (.aload_n 0, 1) := by decide +kernel
theorem dX11_leads_34 : decode cX11_leads 34 = .ok (.getfield 26, 3) := by decide +kernel
theorem dX11_leads_37 : decode cX11_leads 37 = .ok (.iload_n 3, 1) := by decide +kernel
theorem dX11_leads_38 : decode cX11_leads 38 = .ok (.baload, 1) := by decide +kernel
theorem dX11_leads_39 : decode cX11_leads 39 = .ok (.bastore, 1) := by decide +kernel
theorem dX11_leads_40 : decode cX11_leads 40 = .ok (.iinc 3 1, 3) := by decide +kernel
theorem dX11_leads_43 : decode cX11_leads 43 = .ok (.goto (-22), 3) := by decide +kernel
theorem dX11_leads_46 : decode cX11_leads 46 = .ok (.iconst 0, 1) := by decide +kernel
theorem dX11_leads_47 : decode cX11_leads 47 = .ok (.istore_n 3, 1) := by decide +kernel
theorem dX11_leads_48 : decode cX11_leads 48 = .ok (.iload_n 3, 1) := by decide +kernel
theorem dX11_leads_49 : decode cX11_leads 49 = .ok (.sipush 512, 3) := by decide +kernel
theorem dX11_leads_52 : decode cX11_leads 52 = .ok (.if_icmp .ge 133, 3) := by decide +kernel
theorem dX11_leads_55 : decode cX11_leads 55 = .ok (.aload_n 0, 1) := by decide +kernel
theorem dX11_leads_56 : decode cX11_leads 56 = .ok (.getfield 19, 3) := by decide +kernel
theorem dX11_leads_59 : decode cX11_leads 59 = .ok (.iload_n 2, 1) := by decide +kernel
theorem dX11_leads_60 : decode cX11_leads 60 = .ok (.iaload, 1) := by decide +kernel
theorem dX11_leads_61 : decode cX11_leads 61 = .ok (.iconst 3, 1) := by decide +kernel
theorem dX11_leads_62 : decode cX11_leads 62 = .ok (.if_icmp .ne 41, 3) := by decide +kernel
theorem dX11_leads_65 : decode cX11_leads 65 = .ok (.aload_n 0, 1) := by decide +kernel
theorem dX11_leads_66 : decode cX11_leads 66 = .ok (.getfield 26, 3) := by decide +kernel
theorem dX11_leads_69 : decode cX11_leads 69 = .ok (.iload_n 3, 1) := by decide +kernel
theorem dX11_leads_70 : decode cX11_leads 70 = .ok (.aload_n 0, 1) := by decide +kernel
theorem dX11_leads_71 : decode cX11_leads 71 = .ok (.getfield 29, 3) := by decide +kernel
theorem dX11_leads_74 : decode cX11_leads 74 = .ok (.iload_n 3, 1) := by decide +kernel
theorem dX11_leads_75 : decode cX11_leads 75 = .ok (.baload, 1) := by decide +kernel
theorem dX11_leads_76 : decode cX11_leads 76 = .ok (.ifCond .eq 22, 3) := by decide +kernel
theorem dX11_leads_79 : decode cX11_leads 79 = .ok (.aload_n 0, 1) := by decide +kernel
theorem dX11_leads_80 : decode cX11_leads 80 = .ok (.getfield 22, 3) := by decide +kernel
theorem dX11_leads_83 : decode cX11_leads 83 = .ok (.sipush 512, 3) := by decide +kernel
theorem dX11_leads_86 : decode cX11_leads 86 = .ok (.iload_n 2, 1) := by decide +kernel
theorem dX11_leads_87 : decode cX11_leads 87 = .ok (.imul, 1) := by decide +kernel
theorem dX11_leads_88 : decode cX11_leads 88 = .ok (.iload_n 3, 1) := by decide +kernel
theorem dX11_leads_89 : decode cX11_leads 89 = .ok (.iadd, 1) := by decide +kernel
theorem dX11_leads_90 : decode cX11_leads 90 = .ok (.baload, 1) := by decide +kernel
theorem dX11_leads_91 : decode cX11_leads 91 = .ok (.ifCond .eq 7, 3) := by decide +kernel
theorem dX11_leads_94 : decode cX11_leads 94 = .ok (.iconst 1, 1) := by decide +kernel
theorem dX11_leads_95 : decode cX11_leads 95 = .ok (.goto 4, 3) := by decide +kernel
theorem dX11_leads_98 : decode cX11_leads 98 = .ok (.iconst 0, 1) := by decide +kernel
theorem dX11_leads_99 : decode cX11_leads 99 = .ok (.bastore, 1) := by decide +kernel
theorem dX11_leads_100 : decode cX11_leads 100 = .ok (.goto 79, 3) := by decide +kernel
theorem dX11_leads_103 : decode cX11_leads 103 = .ok (.iconst 0, 1) := by decide +kernel
theorem dX11_leads_104 : decode cX11_leads 104 = .ok (.istore 4, 2) := by decide +kernel
theorem dX11_leads_106 : decode cX11_leads 106 = .ok (.iconst 1, 1) := by decide +kernel
theorem dX11_leads_107 : decode cX11_leads 107 = .ok (.istore 5, 2) := by decide +kernel
theorem dX11_leads_109 : decode cX11_leads 109 = .ok (.iload 5, 2) := by decide +kernel
theorem dX11_leads_111 : decode cX11_leads 111 = .ok (.aload_n 0, 1) := by decide +kernel
theorem dX11_leads_112 : decode cX11_leads 112 = .ok (.invokevirtual 63, 3) := by decide +kernel
theorem dX11_leads_115 : decode cX11_leads 115 = .ok (.if_icmp .gt 56, 3) := by decide +kernel
theorem dX11_leads_118 : decode cX11_leads 118 = .ok (.iload 4, 2) := by decide +kernel
theorem dX11_leads_120 : decode cX11_leads 120 = .ok (.ifCond .ne 38, 3) := by decide +kernel
theorem dX11_leads_123 : decode cX11_leads 123 = .ok (.aload_n 0, 1) := by decide +kernel
theorem dX11_leads_124 : decode cX11_leads 124 = .ok (.getfield 29, 3) := by decide +kernel
theorem dX11_leads_127 : decode cX11_leads 127 = .ok (.iload_n 3, 1) := by decide +kernel
theorem dX11_leads_128 : decode cX11_leads 128 = .ok (.bipush 7, 2) := by decide +kernel
theorem dX11_leads_130 : decode cX11_leads 130 = .ok (.iconst 3, 1) := by decide +kernel
theorem dX11_leads_131 : decode cX11_leads 131 = .ok (.aload_n 0, 1) := by decide +kernel
theorem dX11_leads_132 : decode cX11_leads 132 = .ok (.getfield 19, 3) := by decide +kernel
theorem dX11_leads_135 : decode cX11_leads 135 = .ok (.iload_n 2, 1) := by decide +kernel
theorem dX11_leads_136 : decode cX11_leads 136 = .ok (.iaload, 1) := by decide +kernel
theorem dX11_leads_137 : decode cX11_leads 137 = .ok (.imul, 1) := by decide +kernel
theorem dX11_leads_138 : decode cX11_leads 138 = .ok (.ishl, 1) := by decide +kernel
theorem dX11_leads_139 : decode cX11_leads 139 = .ok (.iconst (-1), 1) := by decide +kernel
theorem dX11_leads_140 : decode cX11_leads 140 = .ok (.ixor, 1) := by decide +kernel
theorem dX11_leads_141 : decode cX11_leads 141 = .ok (.iand, 1) := by decide +kernel
theorem dX11_leads_142 : decode cX11_leads 142 = .ok (.iload 5, 2) := by decide +kernel
theorem dX11_leads_144 : decode cX11_leads 144 = .ok (.iconst 3, 1) := by decide +kernel
theorem dX11_leads_145 : decode cX11_leads 145 = .ok (.aload_n 0, 1) := by decide +kernel
theorem dX11_leads_146 : decode cX11_leads 146 = .ok (.getfield 19, 3) := by decide +kernel
theorem dX11_leads_149 : decode cX11_leads 149 = .ok (.iload_n 2, 1) := by decide +kernel
theorem dX11_leads_150 : decode cX11_leads 150 = .ok (.iaload, 1) := by decide +kernel
theorem dX11_leads_151 : decode cX11_leads 151 = .ok (.imul, 1) := by decide +kernel
theorem dX11_leads_152 : decode cX11_leads 152 = .ok (.ishl, 1) := by decide +kernel
theorem dX11_leads_153 : decode cX11_leads 153 = .ok (.ior, 1) := by decide +kernel
theorem dX11_leads_154 : decode cX11_leads 154 = .ok (.baload, 1) := by decide +kernel
theorem dX11_leads_155 : decode cX11_leads 155 = .ok (.ifCond .eq 7, 3) := by decide +kernel
theorem dX11_leads_158 : decode cX11_leads 158 = .ok (.iconst 1, 1) := by decide +kernel
theorem dX11_leads_159 : decode cX11_leads 159 = .ok (.goto 4, 3) := by decide +kernel
theorem dX11_leads_162 : decode cX11_leads 162 = .ok (.iconst 0, 1) := by decide +kernel
theorem dX11_leads_163 : decode cX11_leads 163 = .ok (.istore 4, 2) := by decide +kernel
theorem dX11_leads_165 : decode cX11_leads 165 = .ok (.iinc 5 1, 3) := by decide +kernel
theorem dX11_leads_168 : decode cX11_leads 168 = .ok (.goto (-59), 3) := by decide +kernel
theorem dX11_leads_171 : decode cX11_leads 171 = .ok (.aload_n 0, 1) := by decide +kernel
theorem dX11_leads_172 : decode cX11_leads 172 = .ok (.getfield 26, 3) := by decide +kernel
theorem dX11_leads_175 : decode cX11_leads 175 = .ok (.iload_n 3, 1) := by decide +kernel
theorem dX11_leads_176 : decode cX11_leads 176 = .ok (.iload 4, 2) := by decide +kernel
theorem dX11_leads_178 : decode cX11_leads 178 = .ok (.bastore, 1) := by decide +kernel
theorem dX11_leads_179 : decode cX11_leads 179 = .ok (.iinc 3 1, 3) := by decide +kernel
theorem dX11_leads_182 : decode cX11_leads 182 = .ok (.goto (-134), 3) := by decide +kernel
theorem dX11_leads_185 : decode cX11_leads 185 = .ok (.iinc 2 (-1), 3) := by decide +kernel
theorem dX11_leads_188 : decode cX11_leads 188 = .ok (.goto (-181), 3) := by decide +kernel
theorem dX11_leads_191 : decode cX11_leads 191 = .ok (.return_, 1) := by decide +kernel
theorem dX11_hasResults_0 : decode cX11_hasResults 0 = .ok (.iconst 0, 1) := by decide +kernel
theorem dX11_hasResults_1 : decode cX11_hasResults 1 = .ok (.istore_n 2, 1) := by decide +kernel
theorem dX11_hasResults_2 : decode cX11_hasResults 2 = .ok (.iload_n 2, 1) := by decide +kernel
theorem dX11_hasResults_3 : decode cX11_hasResults 3 = .ok (.sipush 512, 3) := by decide +kernel
theorem dX11_hasResults_6 : decode cX11_hasResults 6 = .ok (.if_icmp .ge 23, 3) := by decide +kernel
theorem dX11_hasResults_9 : decode cX11_hasResults 9 = .ok (.aload_n 0, 1) := by decide +kernel
theorem dX11_hasResults_10 : decode cX11_hasResults 10 = .ok (.getfield 93, 3) := by decide +kernel
theorem dX11_hasResults_13 : decode cX11_hasResults 13 = .ok (.ifCond .eq 16, 3) := by decide +kernel
theorem dX11_hasResults_16 : decode cX11_hasResults 16 = .ok (.aload_n 0, 1) := by decide +kernel
theorem dX11_hasResults_17 : decode cX11_hasResults 17 = .ok (.getfield 26, 3) := by decide +kernel
theorem dX11_hasResults_20 : decode cX11_hasResults 20 = .ok (.iload_n 2, 1) := by decide +kernel
theorem dX11_hasResults_21 : decode cX11_hasResults 21 = .ok (.iconst 1, 1) := by decide +kernel
theorem dX11_hasResults_22 : decode cX11_hasResults 22 = .ok (.bastore, 1) := by decide +kernel
theorem dX11_hasResults_23 : decode cX11_hasResults 23 = .ok (.iinc 2 1, 3) := by decide +kernel
theorem dX11_hasResults_26 : decode cX11_hasResults 26 = .ok (.goto (-24), 3) := by decide +kernel
theorem dX11_hasResults_29 : decode cX11_hasResults 29 = .ok (.aload_n 0, 1) := by decide +kernel
theorem dX11_hasResults_30 : decode cX11_hasResults 30 = .ok (.iload_n 1, 1) := by decide +kernel
theorem dX11_hasResults_31 : decode cX11_hasResults 31 = .ok (.invokevirtual 101, 3) := by decide +kernel
theorem dX11_hasResults_34 : decode cX11_hasResults 34 = .ok (.return_, 1) := by decide +kernel
theorem dX11_turns_0 : decode cX11_turns 0 = .ok (.iload_n 1, 1) := by decide +kernel
theorem dX11_turns_1 : decode cX11_turns 1 = .ok (.istore_n 2, 1) := by decide +kernel
theorem dX11_turns_2 : decode cX11_turns 2 = .ok (.iload_n 2, 1) := by decide +kernel
theorem dX11_turns_3 : decode cX11_turns 3 = .ok (.aload_n 0, 1) := by decide +kernel
theorem dX11_turns_4 : decode cX11_turns 4 = .ok (.getfield 90, 3) := by decide +kernel
theorem dX11_turns_7 : decode cX11_turns 7 = .ok (.if_icmp .ge 166, 3) := by decide +kernel
theorem dX11_turns_10 : decode cX11_turns 10 = .ok (.iconst 0, 1) := by decide +kernel
theorem dX11_turns_11 : decode cX11_turns 11 = .ok (.istore_n 3, 1) := by decide +kernel
theorem dX11_turns_12 : decode cX11_turns 12 = .ok (.iload_n 3, 1) := by decide +kernel
theorem dX11_turns_13 : decode cX11_turns 13 = .ok (.sipush 512, 3) := by decide +kernel
theorem dX11_turns_16 : decode cX11_turns 16 = .ok (.if_icmp .ge 66, 3) := by decide +kernel
theorem dX11_turns_19 : decode cX11_turns 19 = .ok (.aload_n 0, 1) := by decide +kernel
theorem dX11_turns_20 : decode cX11_turns 20 = .ok (.getfield 29, 3) := by decide +kernel
theorem dX11_turns_23 : decode cX11_turns 23 = .ok (.iload_n 3, 1) := by decide +kernel
theorem dX11_turns_24 : decode cX11_turns 24 = .ok (.aload_n 0, 1) := by decide +kernel
theorem dX11_turns_25 : decode cX11_turns 25 = .ok (.getfield 32, 3) := by decide +kernel
theorem dX11_turns_28 : decode cX11_turns 28 = .ok (.iload_n 3, 1) := by decide +kernel
theorem dX11_turns_29 : decode cX11_turns 29 = .ok (.baload, 1) := by decide +kernel
theorem dX11_turns_30 : decode cX11_turns 30 = .ok (.bastore, 1) := by decide +kernel
theorem dX11_turns_31 : decode cX11_turns 31 = .ok (.aload_n 0, 1) := by decide +kernel
theorem dX11_turns_32 : decode cX11_turns 32 = .ok (.getfield 32, 3) := by decide +kernel
theorem dX11_turns_35 : decode cX11_turns 35 = .ok (.iload_n 3, 1) := by decide +kernel
theorem dX11_turns_36 : decode cX11_turns 36 = .ok (.aload_n 0, 1) := by decide +kernel
theorem dX11_turns_37 : decode cX11_turns 37 = .ok (.getfield 19, 3) := by decide +kernel
theorem dX11_turns_40 : decode cX11_turns 40 = .ok (.iload_n 2, 1) := by decide +kernel
theorem dX11_turns_41 : decode cX11_turns 41 = .ok (.iaload, 1) := by decide +kernel
theorem dX11_turns_42 : decode cX11_turns 42 = .ok (.iconst 3, 1) := by decide +kernel
theorem dX11_turns_43 : decode cX11_turns 43 = .ok (.if_icmp .ne 31, 3) := by decide +kernel
theorem dX11_turns_46 : decode cX11_turns 46 = .ok (.aload_n 0, 1) := by decide +kernel
theorem dX11_turns_47 : decode cX11_turns 47 = .ok (.getfield 29, 3) := by decide +kernel
theorem dX11_turns_50 : decode cX11_turns 50 = .ok (.iload_n 3, 1) := by decide +kernel
theorem dX11_turns_51 : decode cX11_turns 51 = .ok (.baload, 1) := by decide +kernel
theorem dX11_turns_52 : decode cX11_turns 52 = .ok (.ifCond .eq 22, 3) := by decide +kernel
theorem dX11_turns_55 : decode cX11_turns 55 = .ok (.aload_n 0, 1) := by decide +kernel
theorem dX11_turns_56 : decode cX11_turns 56 = .ok (.getfield 22, 3) := by decide +kernel
theorem dX11_turns_59 : decode cX11_turns 59 = .ok (.sipush 512, 3) := by decide +kernel
theorem dX11_turns_62 : decode cX11_turns 62 = .ok (.iload_n 2, 1) := by decide +kernel
theorem dX11_turns_63 : decode cX11_turns 63 = .ok (.imul, 1) := by decide +kernel
theorem dX11_turns_64 : decode cX11_turns 64 = .ok (.iload_n 3, 1) := by decide +kernel
theorem dX11_turns_65 : decode cX11_turns 65 = .ok (.iadd, 1) := by decide +kernel
theorem dX11_turns_66 : decode cX11_turns 66 = .ok (.baload, 1) := by decide +kernel
theorem dX11_turns_67 : decode cX11_turns 67 = .ok (.ifCond .eq 7, 3) := by decide +kernel
theorem dX11_turns_70 : decode cX11_turns 70 = .ok (.iconst 1, 1) := by decide +kernel
theorem dX11_turns_71 : decode cX11_turns 71 = .ok (.goto 4, 3) := by decide +kernel
theorem dX11_turns_74 : decode cX11_turns 74 = .ok (.iconst 0, 1) := by decide +kernel
theorem dX11_turns_75 : decode cX11_turns 75 = .ok (.bastore, 1) := by decide +kernel
theorem dX11_turns_76 : decode cX11_turns 76 = .ok (.iinc 3 1, 3) := by decide +kernel
theorem dX11_turns_79 : decode cX11_turns 79 = .ok (.goto (-67), 3) := by decide +kernel
theorem dX11_turns_82 : decode cX11_turns 82 = .ok (.iconst 0, 1) := by decide +kernel
theorem dX11_turns_83 : decode cX11_turns 83 = .ok (.istore_n 3, 1) := by decide +kernel
theorem dX11_turns_84 : decode cX11_turns 84 = .ok (.iload_n 3, 1) := by decide +kernel
theorem dX11_turns_85 : decode cX11_turns 85 = .ok (.sipush 512, 3) := by decide +kernel
theorem dX11_turns_88 : decode cX11_turns 88 = .ok (.if_icmp .ge 79, 3) := by decide +kernel
theorem dX11_turns_91 : decode cX11_turns 91 = .ok (.aload_n 0, 1) := by decide +kernel
theorem dX11_turns_92 : decode cX11_turns 92 = .ok (.getfield 19, 3) := by decide +kernel
theorem dX11_turns_95 : decode cX11_turns 95 = .ok (.iload_n 2, 1) := by decide +kernel
theorem dX11_turns_96 : decode cX11_turns 96 = .ok (.iaload, 1) := by decide +kernel
theorem dX11_turns_97 : decode cX11_turns 97 = .ok (.iconst 3, 1) := by decide +kernel
theorem dX11_turns_98 : decode cX11_turns 98 = .ok (.if_icmp .eq 69, 3) := by decide +kernel
theorem dX11_turns_101 : decode cX11_turns 101 = .ok (.iconst 1, 1) := by decide +kernel
theorem dX11_turns_102 : decode cX11_turns 102 = .ok (.istore 4, 2) := by decide +kernel
theorem dX11_turns_104 : decode cX11_turns 104 = .ok (.iload 4, 2) := by decide +kernel
theorem dX11_turns_106 : decode cX11_turns 106 = .ok (.aload_n 0, 1) := by decide +kernel
theorem dX11_turns_107 : decode cX11_turns 107 = .ok (.invokevirtual 63, 3) := by decide +kernel
theorem dX11_turns_110 : decode cX11_turns 110 = .ok (.if_icmp .gt 51, 3) := by decide +kernel
theorem dX11_turns_113 : decode cX11_turns 113 = .ok (.aload_n 0, 1) := by decide +kernel
theorem dX11_turns_114 : decode cX11_turns 114 = .ok (.getfield 29, 3) := by decide +kernel
theorem dX11_turns_117 : decode cX11_turns 117 = .ok (.iload_n 3, 1) := by decide +kernel
theorem dX11_turns_118 : decode cX11_turns 118 = .ok (.baload, 1) := by decide +kernel
theorem dX11_turns_119 : decode cX11_turns 119 = .ok (.ifCond .eq 42, 3) := by decide +kernel
theorem dX11_turns_122 : decode cX11_turns 122 = .ok (.aload_n 0, 1) := by decide +kernel
theorem dX11_turns_123 : decode cX11_turns 123 = .ok (.getfield 32, 3) := by decide +kernel
theorem dX11_turns_126 : decode cX11_turns 126 = .ok (.iload_n 3, 1) := by decide +kernel
theorem dX11_turns_127 : decode cX11_turns 127 = .ok (.bipush 7, 2) := by decide +kernel
theorem dX11_turns_129 : decode cX11_turns 129 = .ok (.iconst 3, 1) := by decide +kernel
theorem dX11_turns_130 : decode cX11_turns 130 = .ok (.aload_n 0, 1) := by decide +kernel
theorem dX11_turns_131 : decode cX11_turns 131 = .ok (.getfield 19, 3) := by decide +kernel
theorem dX11_turns_134 : decode cX11_turns 134 = .ok (.iload_n 2, 1) := by decide +kernel
theorem dX11_turns_135 : decode cX11_turns 135 = .ok (.iaload, 1) := by decide +kernel
theorem dX11_turns_136 : decode cX11_turns 136 = .ok (.imul, 1) := by decide +kernel
theorem dX11_turns_137 : decode cX11_turns 137 = .ok (.ishl, 1) := by decide +kernel
theorem dX11_turns_138 : decode cX11_turns 138 = .ok (.iconst (-1), 1) := by decide +kernel
theorem dX11_turns_139 : decode cX11_turns 139 = .ok (.ixor, 1) := by decide +kernel
theorem dX11_turns_140 : decode cX11_turns 140 = .ok (.iand, 1) := by decide +kernel
theorem dX11_turns_141 : decode cX11_turns 141 = .ok (.iload 4, 2) := by decide +kernel
theorem dX11_turns_143 : decode cX11_turns 143 = .ok (.iconst 3, 1) := by decide +kernel
theorem dX11_turns_144 : decode cX11_turns 144 = .ok (.aload_n 0, 1) := by decide +kernel
theorem dX11_turns_145 : decode cX11_turns 145 = .ok (.getfield 19, 3) := by decide +kernel
theorem dX11_turns_148 : decode cX11_turns 148 = .ok (.iload_n 2, 1) := by decide +kernel
theorem dX11_turns_149 : decode cX11_turns 149 = .ok (.iaload, 1) := by decide +kernel
theorem dX11_turns_150 : decode cX11_turns 150 = .ok (.imul, 1) := by decide +kernel
theorem dX11_turns_151 : decode cX11_turns 151 = .ok (.ishl, 1) := by decide +kernel
theorem dX11_turns_152 : decode cX11_turns 152 = .ok (.ior, 1) := by decide +kernel
theorem dX11_turns_153 : decode cX11_turns 153 = .ok (.iconst 1, 1) := by decide +kernel
theorem dX11_turns_154 : decode cX11_turns 154 = .ok (.bastore, 1) := by decide +kernel
theorem dX11_turns_155 : decode cX11_turns 155 = .ok (.iinc 4 1, 3) := by decide +kernel
theorem dX11_turns_158 : decode cX11_turns 158 = .ok (.goto (-54), 3) := by decide +kernel
theorem dX11_turns_161 : decode cX11_turns 161 = .ok (.iinc 3 1, 3) := by decide +kernel
theorem dX11_turns_164 : decode cX11_turns 164 = .ok (.goto (-80), 3) := by decide +kernel
theorem dX11_turns_167 : decode cX11_turns 167 = .ok (.iinc 2 1, 3) := by decide +kernel
theorem dX11_turns_170 : decode cX11_turns 170 = .ok (.goto (-168), 3) := by decide +kernel
theorem dX11_turns_173 : decode cX11_turns 173 = .ok (.return_, 1) := by decide +kernel
theorem dX11_next_0 : decode cX11_next 0 = .ok (.aload_n 0, 1) := by decide +kernel
theorem dX11_next_1 : decode cX11_next 1 = .ok (.getfield 104, 3) := by decide +kernel
theorem dX11_next_4 : decode cX11_next 4 = .ok (.aload_n 0, 1) := by decide +kernel
theorem dX11_next_5 : decode cX11_next 5 = .ok (.getfield 87, 3) := by decide +kernel
theorem dX11_next_8 : decode cX11_next 8 = .ok (.if_icmp .ge 15, 3) := by decide +kernel
theorem dX11_next_11 : decode cX11_next 11 = .ok (.aload_n 0, 1) := by decide +kernel
theorem dX11_next_12 : decode cX11_next 12 = .ok (.getfield 16, 3) := by decide +kernel
theorem dX11_next_15 : decode cX11_next 15 = .ok (.aload_n 0, 1) := by decide +kernel
theorem dX11_next_16 : decode cX11_next 16 = .ok (.getfield 104, 3) := by decide +kernel
theorem dX11_next_19 : decode cX11_next 19 = .ok (.iaload, 1) := by decide +kernel
theorem dX11_next_20 : decode cX11_next 20 = .ok (.goto 5, 3) := by decide +kernel
theorem dX11_next_23 : decode cX11_next 23 = .ok (.bipush (-7), 2) := by decide +kernel
theorem dX11_next_25 : decode cX11_next 25 = .ok (.ireturn, 1) := by decide +kernel
theorem dX11_opens_0 : decode cX11_opens 0 = .ok (.aload_n 0, 1) := by decide +kernel
theorem dX11_opens_1 : decode cX11_opens 1 = .ok (.dup, 1) := by decide +kernel
theorem dX11_opens_2 : decode cX11_opens 2 = .ok (.getfield 107, 3) := by decide +kernel
theorem dX11_opens_5 : decode cX11_opens 5 = .ok (.iconst 1, 1) := by decide +kernel
theorem dX11_opens_6 : decode cX11_opens 6 = .ok (.iadd, 1) := by decide +kernel
theorem dX11_opens_7 : decode cX11_opens 7 = .ok (.putfield 107, 3) := by decide +kernel
theorem dX11_opens_10 : decode cX11_opens 10 = .ok (.aload_n 0, 1) := by decide +kernel
theorem dX11_opens_11 : decode cX11_opens 11 = .ok (.getfield 35, 3) := by decide +kernel
theorem dX11_opens_14 : decode cX11_opens 14 = .ok (.aload_n 0, 1) := by decide +kernel
theorem dX11_opens_15 : decode cX11_opens 15 = .ok (.getfield 107, 3) := by decide +kernel
theorem dX11_opens_18 : decode cX11_opens 18 = .ok (.iload_n 1, 1) := by decide +kernel
theorem dX11_opens_19 : decode cX11_opens 19 = .ok (.iastore, 1) := by decide +kernel
theorem dX11_opens_20 : decode cX11_opens 20 = .ok (.aload_n 0, 1) := by decide +kernel
theorem dX11_opens_21 : decode cX11_opens 21 = .ok (.getfield 38, 3) := by decide +kernel
theorem dX11_opens_24 : decode cX11_opens 24 = .ok (.aload_n 0, 1) := by decide +kernel
theorem dX11_opens_25 : decode cX11_opens 25 = .ok (.getfield 107, 3) := by decide +kernel
theorem dX11_opens_28 : decode cX11_opens 28 = .ok (.aload_n 0, 1) := by decide +kernel
theorem dX11_opens_29 : decode cX11_opens 29 = .ok (.getfield 90, 3) := by decide +kernel
theorem dX11_opens_32 : decode cX11_opens 32 = .ok (.iastore, 1) := by decide +kernel
theorem dX11_opens_33 : decode cX11_opens 33 = .ok (.aload_n 0, 1) := by decide +kernel
theorem dX11_opens_34 : decode cX11_opens 34 = .ok (.getfield 41, 3) := by decide +kernel
theorem dX11_opens_37 : decode cX11_opens 37 = .ok (.aload_n 0, 1) := by decide +kernel
theorem dX11_opens_38 : decode cX11_opens 38 = .ok (.getfield 107, 3) := by decide +kernel
theorem dX11_opens_41 : decode cX11_opens 41 = .ok (.aload_n 0, 1) := by decide +kernel
theorem dX11_opens_42 : decode cX11_opens 42 = .ok (.getfield 110, 3) := by decide +kernel
theorem dX11_opens_45 : decode cX11_opens 45 = .ok (.iastore, 1) := by decide +kernel
theorem dX11_opens_46 : decode cX11_opens 46 = .ok (.aload_n 0, 1) := by decide +kernel
theorem dX11_opens_47 : decode cX11_opens 47 = .ok (.getfield 44, 3) := by decide +kernel
theorem dX11_opens_50 : decode cX11_opens 50 = .ok (.aload_n 0, 1) := by decide +kernel
theorem dX11_opens_51 : decode cX11_opens 51 = .ok (.getfield 107, 3) := by decide +kernel
theorem dX11_opens_54 : decode cX11_opens 54 = .ok (.iconst 0, 1) := by decide +kernel
theorem dX11_opens_55 : decode cX11_opens 55 = .ok (.iastore, 1) := by decide +kernel
theorem dX11_opens_56 : decode cX11_opens 56 = .ok (.aload_n 0, 1) := by decide +kernel
theorem dX11_opens_57 : decode cX11_opens 57 = .ok (.getfield 47, 3) := by decide +kernel
theorem dX11_opens_60 : decode cX11_opens 60 = .ok (.aload_n 0, 1) := by decide +kernel
theorem dX11_opens_61 : decode cX11_opens 61 = .ok (.getfield 107, 3) := by decide +kernel
theorem dX11_opens_64 : decode cX11_opens 64 = .ok (.iconst 0, 1) := by decide +kernel
theorem dX11_opens_65 : decode cX11_opens 65 = .ok (.bastore, 1) := by decide +kernel
theorem dX11_opens_66 : decode cX11_opens 66 = .ok (.aload_n 0, 1) := by decide +kernel
theorem dX11_opens_67 : decode cX11_opens 67 = .ok (.getfield 50, 3) := by decide +kernel
theorem dX11_opens_70 : decode cX11_opens 70 = .ok (.aload_n 0, 1) := by decide +kernel
theorem dX11_opens_71 : decode cX11_opens 71 = .ok (.getfield 107, 3) := by decide +kernel
theorem dX11_opens_74 : decode cX11_opens 74 = .ok (.iconst 0, 1) := by decide +kernel
theorem dX11_opens_75 : decode cX11_opens 75 = .ok (.bastore, 1) := by decide +kernel
theorem dX11_opens_76 : decode cX11_opens 76 = .ok (.aload_n 0, 1) := by decide +kernel
theorem dX11_opens_77 : decode cX11_opens 77 = .ok (.getfield 53, 3) := by decide +kernel
theorem dX11_opens_80 : decode cX11_opens 80 = .ok (.aload_n 0, 1) := by decide +kernel
theorem dX11_opens_81 : decode cX11_opens 81 = .ok (.getfield 107, 3) := by decide +kernel
theorem dX11_opens_84 : decode cX11_opens 84 = .ok (.iconst 0, 1) := by decide +kernel
theorem dX11_opens_85 : decode cX11_opens 85 = .ok (.bastore, 1) := by decide +kernel
theorem dX11_opens_86 : decode cX11_opens 86 = .ok (.return_, 1) := by decide +kernel
theorem dX11_finds_0 : decode cX11_finds 0 = .ok (.aload_n 0, 1) := by decide +kernel
theorem dX11_finds_1 : decode cX11_finds 1 = .ok (.iload_n 1, 1) := by decide +kernel
theorem dX11_finds_2 : decode cX11_finds 2 = .ok (.putfield 113, 3) := by decide +kernel
theorem dX11_finds_5 : decode cX11_finds 5 = .ok (.iconst 0, 1) := by decide +kernel
theorem dX11_finds_6 : decode cX11_finds 6 = .ok (.istore_n 2, 1) := by decide +kernel
theorem dX11_finds_7 : decode cX11_finds 7 = .ok (.iload_n 2, 1) := by decide +kernel
theorem dX11_finds_8 : decode cX11_finds 8 = .ok (.aload_n 0, 1) := by decide +kernel
theorem dX11_finds_9 : decode cX11_finds 9 = .ok (.getfield 107, 3) := by decide +kernel
theorem dX11_finds_12 : decode cX11_finds 12 = .ok (.if_icmp .gt 111, 3) := by decide +kernel
theorem dX11_finds_15 : decode cX11_finds 15 = .ok (.aload_n 0, 1) := by decide +kernel
theorem dX11_finds_16 : decode cX11_finds 16 = .ok (.getfield 35, 3) := by decide +kernel
theorem dX11_finds_19 : decode cX11_finds 19 = .ok (.iload_n 2, 1) := by decide +kernel
theorem dX11_finds_20 : decode cX11_finds 20 = .ok (.iaload, 1) := by decide +kernel
theorem dX11_finds_21 : decode cX11_finds 21 = .ok (.iconst 2, 1) := by decide +kernel
theorem dX11_finds_22 : decode cX11_finds 22 = .ok (.if_icmp .eq 16, 3) := by decide +kernel
theorem dX11_finds_25 : decode cX11_finds 25 = .ok (.aload_n 0, 1) := by decide +kernel
theorem dX11_finds_26 : decode cX11_finds 26 = .ok (.getfield 53, 3) := by decide +kernel
theorem dX11_finds_29 : decode cX11_finds 29 = .ok (.iload_n 2, 1) := by decide +kernel
theorem dX11_finds_30 : decode cX11_finds 30 = .ok (.baload, 1) := by decide +kernel
theorem dX11_finds_31 : decode cX11_finds 31 = .ok (.ifCond .ne 7, 3) := by decide +kernel
theorem dX11_finds_34 : decode cX11_finds 34 = .ok (.iconst 1, 1) := by decide +kernel
theorem dX11_finds_35 : decode cX11_finds 35 = .ok (.goto 4, 3) := by decide +kernel
theorem dX11_finds_38 : decode cX11_finds 38 = .ok (.iconst 0, 1) := by decide +kernel
theorem dX11_finds_39 : decode cX11_finds 39 = .ok (.istore_n 3, 1) := by decide +kernel
theorem dX11_finds_40 : decode cX11_finds 40 = .ok (.aload_n 0, 1) := by decide +kernel
theorem dX11_finds_41 : decode cX11_finds 41 = .ok (.dup, 1) := by decide +kernel
theorem dX11_finds_42 : decode cX11_finds 42 = .ok (.getfield 116, 3) := by decide +kernel
theorem dX11_finds_45 : decode cX11_finds 45 = .ok (.aload_n 0, 1) := by decide +kernel
theorem dX11_finds_46 : decode cX11_finds 46 = .ok (.getfield 35, 3) := by decide +kernel
theorem dX11_finds_49 : decode cX11_finds 49 = .ok (.iload_n 2, 1) := by decide +kernel
theorem dX11_finds_50 : decode cX11_finds 50 = .ok (.iaload, 1) := by decide +kernel
theorem dX11_finds_51 : decode cX11_finds 51 = .ok (.iconst 2, 1) := by decide +kernel
theorem dX11_finds_52 : decode cX11_finds 52 = .ok (.if_icmp .eq 25, 3) := by decide +kernel
theorem dX11_finds_55 : decode cX11_finds 55 = .ok (.aload_n 0, 1) := by decide +kernel
theorem dX11_finds_56 : decode cX11_finds 56 = .ok (.getfield 53, 3) := by decide +kernel
theorem dX11_finds_59 : decode cX11_finds 59 = .ok (.iload_n 2, 1) := by decide +kernel
theorem dX11_finds_60 : decode cX11_finds 60 = .ok (.baload, 1) := by decide +kernel
theorem dX11_finds_61 : decode cX11_finds 61 = .ok (.ifCond .ne 16, 3) := by decide +kernel
theorem dX11_finds_64 : decode cX11_finds 64 = .ok (.iload_n 3, 1) := by decide +kernel
theorem dX11_finds_65 : decode cX11_finds 65 = .ok (.ifCond .eq 16, 3) := by decide +kernel
theorem dX11_finds_68 : decode cX11_finds 68 = .ok (.aload_n 0, 1) := by decide +kernel
theorem dX11_finds_69 : decode cX11_finds 69 = .ok (.getfield 44, 3) := by decide +kernel
theorem dX11_finds_72 : decode cX11_finds 72 = .ok (.iload_n 2, 1) := by decide +kernel
theorem dX11_finds_73 : decode cX11_finds 73 = .ok (.iaload, 1) := by decide +kernel
theorem dX11_finds_74 : decode cX11_finds 74 = .ok (.ifCond .le 7, 3) := by decide +kernel
theorem dX11_finds_77 : decode cX11_finds 77 = .ok (.iconst 1, 1) := by decide +kernel
theorem dX11_finds_78 : decode cX11_finds 78 = .ok (.goto 4, 3) := by decide +kernel
theorem dX11_finds_81 : decode cX11_finds 81 = .ok (.iconst 0, 1) := by decide +kernel
theorem dX11_finds_82 : decode cX11_finds 82 = .ok (.iadd, 1) := by decide +kernel
theorem dX11_finds_83 : decode cX11_finds 83 = .ok (.putfield 116, 3) := by decide +kernel
theorem dX11_finds_86 : decode cX11_finds 86 = .ok (.aload_n 0, 1) := by decide +kernel
theorem dX11_finds_87 : decode cX11_finds 87 = .ok (.getfield 47, 3) := by decide +kernel
theorem dX11_finds_90 : decode cX11_finds 90 = .ok (.iload_n 2, 1) := by decide +kernel
theorem dX11_finds_91 : decode cX11_finds 91 = .ok (.iload_n 3, 1) := by decide +kernel
theorem dX11_finds_92 : decode cX11_finds 92 = .ok (.ifCond .eq 16, 3) := by decide +kernel
theorem dX11_finds_95 : decode cX11_finds 95 = .ok (.aload_n 0, 1) := by decide +kernel
theorem dX11_finds_96 : decode cX11_finds 96 = .ok (.getfield 44, 3) := by decide +kernel
theorem dX11_finds_99 : decode cX11_finds 99 = .ok (.iload_n 2, 1) := by decide +kernel
theorem dX11_finds_100 : decode cX11_finds 100 = .ok (.iaload, 1) := by decide +kernel
theorem dX11_finds_101 : decode cX11_finds 101 = .ok (.ifCond .ne 7, 3) := by decide +kernel
theorem dX11_finds_104 : decode cX11_finds 104 = .ok (.iconst 1, 1) := by decide +kernel
theorem dX11_finds_105 : decode cX11_finds 105 = .ok (.goto 4, 3) := by decide +kernel
theorem dX11_finds_108 : decode cX11_finds 108 = .ok (.iconst 0, 1) := by decide +kernel
theorem dX11_finds_109 : decode cX11_finds 109 = .ok (.bastore, 1) := by decide +kernel
theorem dX11_finds_110 : decode cX11_finds 110 = .ok (.aload_n 0, 1) := by decide +kernel
theorem dX11_finds_111 : decode cX11_finds 111 = .ok (.getfield 50, 3) := by decide +kernel
theorem dX11_finds_114 : decode cX11_finds 114 = .ok (.iload_n 2, 1) := by decide +kernel
theorem dX11_finds_115 : decode cX11_finds 115 = .ok (.iload_n 3, 1) := by decide +kernel
theorem dX11_finds_116 : decode cX11_finds 116 = .ok (.bastore, 1) := by decide +kernel
theorem dX11_finds_117 : decode cX11_finds 117 = .ok (.iinc 2 1, 3) := by decide +kernel
theorem dX11_finds_120 : decode cX11_finds 120 = .ok (.goto (-113), 3) := by decide +kernel
theorem dX11_finds_123 : decode cX11_finds 123 = .ok (.return_, 1) := by decide +kernel
theorem dX11_variable_0 : decode cX11_variable 0 = .ok (.aload_n 0, 1) := by decide +kernel
theorem dX11_variable_1 : decode cX11_variable 1 = .ok (.invokevirtual 119, 3) := by decide +kernel
theorem dX11_variable_4 : decode cX11_variable 4 = .ok (.bipush 120, 2) := by decide +kernel
theorem dX11_variable_6 : decode cX11_variable 6 = .ok (.isub, 1) := by decide +kernel
theorem dX11_variable_7 : decode cX11_variable 7 = .ok (.istore_n 2, 1) := by decide +kernel
theorem dX11_variable_8 : decode cX11_variable 8 = .ok (.iload_n 2, 1) := by decide +kernel
theorem dX11_variable_9 : decode cX11_variable 9 = .ok (.iconst 0, 1) := by decide +kernel
theorem dX11_variable_10 : decode cX11_variable 10 = .ok (.iconst 2, 1) := by decide +kernel
theorem dX11_variable_11 : decode cX11_variable 11 = .ok (.invokestatic 67, 3) := by decide +kernel
theorem dX11_variable_14 : decode cX11_variable 14 = .ok (.ifCond .ne 6, 3) := by decide +kernel
theorem dX11_variable_17 : decode cX11_variable 17 = .ok (.bipush (-7), 2) := by decide +kernel
theorem dX11_variable_19 : decode cX11_variable 19 = .ok (.ireturn, 1) := by decide +kernel
theorem dX11_variable_20 : decode cX11_variable 20 = .ok (.iload_n 1, 1) := by decide +kernel
theorem dX11_variable_21 : decode cX11_variable 21 = .ok (.ifCond .eq 31, 3) := by decide +kernel
theorem dX11_variable_24 : decode cX11_variable 24 = .ok (.aload_n 0, 1) := by decide +kernel
theorem dX11_variable_25 : decode cX11_variable 25 = .ok (.getfield 110, 3) := by decide +kernel
theorem dX11_variable_28 : decode cX11_variable 28 = .ok (.iload_n 2, 1) := by decide +kernel
theorem dX11_variable_29 : decode cX11_variable 29 = .ok (.ishr, 1) := by decide +kernel
theorem dX11_variable_30 : decode cX11_variable 30 = .ok (.iconst 1, 1) := by decide +kernel
theorem dX11_variable_31 : decode cX11_variable 31 = .ok (.iand, 1) := by decide +kernel
theorem dX11_variable_32 : decode cX11_variable 32 = .ok (.ifCond .ne 20, 3) := by decide +kernel
theorem dX11_variable_35 : decode cX11_variable 35 = .ok (.aload_n 0, 1) := by decide +kernel
theorem dX11_variable_36 : decode cX11_variable 36 = .ok (.getfield 113, 3) := by decide +kernel
theorem dX11_variable_39 : decode cX11_variable 39 = .ok (.bipush (-7), 2) := by decide +kernel
theorem dX11_variable_41 : decode cX11_variable 41 = .ok (.if_icmp .ne 11, 3) := by decide +kernel
theorem dX11_variable_44 : decode cX11_variable 44 = .ok (.aload_n 0, 1) := by decide +kernel
theorem dX11_variable_45 : decode cX11_variable 45 = .ok (.aload_n 0, 1) := by decide +kernel
theorem dX11_variable_46 : decode cX11_variable 46 = .ok (.getfield 104, 3) := by decide +kernel
theorem dX11_variable_49 : decode cX11_variable 49 = .ok (.invokevirtual 122, 3) := by decide +kernel
theorem dX11_variable_52 : decode cX11_variable 52 = .ok (.aload_n 0, 1) := by decide +kernel
theorem dX11_variable_53 : decode cX11_variable 53 = .ok (.dup, 1) := by decide +kernel
theorem dX11_variable_54 : decode cX11_variable 54 = .ok (.getfield 104, 3) := by decide +kernel
theorem dX11_variable_57 : decode cX11_variable 57 = .ok (.iconst 1, 1) := by decide +kernel
theorem dX11_variable_58 : decode cX11_variable 58 = .ok (.iadd, 1) := by decide +kernel
theorem dX11_variable_59 : decode cX11_variable 59 = .ok (.putfield 104, 3) := by decide +kernel
theorem dX11_variable_62 : decode cX11_variable 62 = .ok (.iload_n 2, 1) := by decide +kernel
theorem dX11_variable_63 : decode cX11_variable 63 = .ok (.ireturn, 1) := by decide +kernel
theorem dX11_ones_0 : decode cX11_ones 0 = .ok (.iload_n 0, 1) := by decide +kernel
theorem dX11_ones_1 : decode cX11_ones 1 = .ok (.iconst 1, 1) := by decide +kernel
theorem dX11_ones_2 : decode cX11_ones 2 = .ok (.iand, 1) := by decide +kernel
theorem dX11_ones_3 : decode cX11_ones 3 = .ok (.iload_n 0, 1) := by decide +kernel
theorem dX11_ones_4 : decode cX11_ones 4 = .ok (.iconst 1, 1) := by decide +kernel
theorem dX11_ones_5 : decode cX11_ones 5 = .ok (.ishr, 1) := by decide +kernel
theorem dX11_ones_6 : decode cX11_ones 6 = .ok (.iconst 1, 1) := by decide +kernel
theorem dX11_ones_7 : decode cX11_ones 7 = .ok (.iand, 1) := by decide +kernel
theorem dX11_ones_8 : decode cX11_ones 8 = .ok (.iadd, 1) := by decide +kernel
theorem dX11_ones_9 : decode cX11_ones 9 = .ok (.iload_n 0, 1) := by decide +kernel
theorem dX11_ones_10 : decode cX11_ones 10 = .ok (.iconst 2, 1) := by decide +kernel
theorem dX11_ones_11 : decode cX11_ones 11 = .ok (.ishr, 1) := by decide +kernel
theorem dX11_ones_12 : decode cX11_ones 12 = .ok (.iconst 1, 1) := by decide +kernel
theorem dX11_ones_13 : decode cX11_ones 13 = .ok (.iand, 1) := by decide +kernel
theorem dX11_ones_14 : decode cX11_ones 14 = .ok (.iadd, 1) := by decide +kernel
theorem dX11_ones_15 : decode cX11_ones 15 = .ok (.ireturn, 1) := by decide +kernel
theorem dX11_isSo_0 : decode cX11_isSo 0 = .ok (.iload_n 1, 1) := by decide +kernel
theorem dX11_isSo_1 : decode cX11_isSo 1 = .ok (.lookupswitch 127 #[(60, 113), (61, 102), (112, 67), (113, 67), (114, 67), (115, 91), (116, 91)], 67) := by decide +kernel
theorem dX11_isSo_68 : decode cX11_isSo 68 = .ok (.iload_n 2, 1) := by decide +kernel
theorem dX11_isSo_69 : decode cX11_isSo 69 = .ok (.aload_n 0, 1) := by decide +kernel
theorem dX11_isSo_70 : decode cX11_isSo 70 = .ok (.getfield 7, 3) := by decide +kernel
theorem dX11_isSo_73 : decode cX11_isSo 73 = .ok (.iconst 1, 1) := by decide +kernel
theorem dX11_isSo_74 : decode cX11_isSo 74 = .ok (.iload_n 1, 1) := by decide +kernel
theorem dX11_isSo_75 : decode cX11_isSo 75 = .ok (.iadd, 1) := by decide +kernel
theorem dX11_isSo_76 : decode cX11_isSo 76 = .ok (.bipush 112, 2) := by decide +kernel
theorem dX11_isSo_78 : decode cX11_isSo 78 = .ok (.isub, 1) := by decide +kernel
theorem dX11_isSo_79 : decode cX11_isSo 79 = .ok (.iaload, 1) := by decide +kernel
theorem dX11_isSo_80 : decode cX11_isSo 80 = .ok (.iconst (-1), 1) := by decide +kernel
theorem dX11_isSo_81 : decode cX11_isSo 81 = .ok (.ixor, 1) := by decide +kernel
theorem dX11_isSo_82 : decode cX11_isSo 82 = .ok (.iand, 1) := by decide +kernel
theorem dX11_isSo_83 : decode cX11_isSo 83 = .ok (.ifCond .ne 7, 3) := by decide +kernel
theorem dX11_isSo_86 : decode cX11_isSo 86 = .ok (.iconst 1, 1) := by decide +kernel
theorem dX11_isSo_87 : decode cX11_isSo 87 = .ok (.goto 4, 3) := by decide +kernel
theorem dX11_isSo_90 : decode cX11_isSo 90 = .ok (.iconst 0, 1) := by decide +kernel
theorem dX11_isSo_91 : decode cX11_isSo 91 = .ok (.ireturn, 1) := by decide +kernel
theorem dX11_isSo_92 : decode cX11_isSo 92 = .ok (.aload_n 0, 1) := by decide +kernel
theorem dX11_isSo_93 : decode cX11_isSo 93 = .ok (.iload_n 1, 1) := by decide +kernel
theorem dX11_isSo_94 : decode cX11_isSo 94 = .ok (.bipush 115, 2) := by decide +kernel
theorem dX11_isSo_96 : decode cX11_isSo 96 = .ok (.isub, 1) := by decide +kernel
theorem dX11_isSo_97 : decode cX11_isSo 97 = .ok (.iload_n 2, 1) := by decide +kernel
theorem dX11_isSo_98 : decode cX11_isSo 98 = .ok (.iload_n 3, 1) := by decide +kernel
theorem dX11_isSo_99 : decode cX11_isSo 99 = .ok (.invokevirtual 84, 3) := by decide +kernel
theorem dX11_isSo_102 : decode cX11_isSo 102 = .ok (.ireturn, 1) := by decide +kernel
theorem dX11_isSo_103 : decode cX11_isSo 103 = .ok (.iload_n 2, 1) := by decide +kernel
theorem dX11_isSo_104 : decode cX11_isSo 104 = .ok (.iload_n 3, 1) := by decide +kernel
theorem dX11_isSo_105 : decode cX11_isSo 105 = .ok (.if_icmp .ne 7, 3) := by decide +kernel
theorem dX11_isSo_108 : decode cX11_isSo 108 = .ok (.iconst 1, 1) := by decide +kernel
theorem dX11_isSo_109 : decode cX11_isSo 109 = .ok (.goto 4, 3) := by decide +kernel
theorem dX11_isSo_112 : decode cX11_isSo 112 = .ok (.iconst 0, 1) := by decide +kernel
theorem dX11_isSo_113 : decode cX11_isSo 113 = .ok (.ireturn, 1) := by decide +kernel
theorem dX11_isSo_114 : decode cX11_isSo 114 = .ok (.iload_n 2, 1) := by decide +kernel
theorem dX11_isSo_115 : decode cX11_isSo 115 = .ok (.iload_n 3, 1) := by decide +kernel
theorem dX11_isSo_116 : decode cX11_isSo 116 = .ok (.iconst (-1), 1) := by decide +kernel
theorem dX11_isSo_117 : decode cX11_isSo 117 = .ok (.ixor, 1) := by decide +kernel
theorem dX11_isSo_118 : decode cX11_isSo 118 = .ok (.iand, 1) := by decide +kernel
theorem dX11_isSo_119 : decode cX11_isSo 119 = .ok (.ifCond .ne 7, 3) := by decide +kernel
theorem dX11_isSo_122 : decode cX11_isSo 122 = .ok (.iconst 1, 1) := by decide +kernel
theorem dX11_isSo_123 : decode cX11_isSo 123 = .ok (.goto 4, 3) := by decide +kernel
theorem dX11_isSo_126 : decode cX11_isSo 126 = .ok (.iconst 0, 1) := by decide +kernel
theorem dX11_isSo_127 : decode cX11_isSo 127 = .ok (.ireturn, 1) := by decide +kernel
theorem dX11_isSo_128 : decode cX11_isSo 128 = .ok (.iload_n 2, 1) := by decide +kernel
theorem dX11_isSo_129 : decode cX11_isSo 129 = .ok (.invokestatic 125, 3) := by decide +kernel
theorem dX11_isSo_132 : decode cX11_isSo 132 = .ok (.iload_n 1, 1) := by decide +kernel
theorem dX11_isSo_133 : decode cX11_isSo 133 = .ok (.bipush 48, 2) := by decide +kernel
theorem dX11_isSo_135 : decode cX11_isSo 135 = .ok (.isub, 1) := by decide +kernel
theorem dX11_isSo_136 : decode cX11_isSo 136 = .ok (.if_icmp .ne 7, 3) := by decide +kernel
theorem dX11_isSo_139 : decode cX11_isSo 139 = .ok (.iconst 1, 1) := by decide +kernel
theorem dX11_isSo_140 : decode cX11_isSo 140 = .ok (.goto 4, 3) := by decide +kernel
theorem dX11_isSo_143 : decode cX11_isSo 143 = .ok (.iconst 0, 1) := by decide +kernel
theorem dX11_isSo_144 : decode cX11_isSo 144 = .ok (.ireturn, 1) := by decide +kernel
theorem dX11_tests_0 : decode cX11_tests 0 = .ok (.iload_n 2, 1) := by decide +kernel
theorem dX11_tests_1 : decode cX11_tests 1 = .ok (.ifCond .lt 7, 3) := by decide +kernel
theorem dX11_tests_4 : decode cX11_tests 4 = .ok (.iload_n 3, 1) := by decide +kernel
theorem dX11_tests_5 : decode cX11_tests 5 = .ok (.ifCond .ge 5, 3) := by decide +kernel
theorem dX11_tests_8 : decode cX11_tests 8 = .ok (.iconst 0, 1) := by decide +kernel
theorem dX11_tests_9 : decode cX11_tests 9 = .ok (.ireturn, 1) := by decide +kernel
theorem dX11_tests_10 : decode cX11_tests 10 = .ok (.iconst 0, 1) := by decide +kernel
theorem dX11_tests_11 : decode cX11_tests 11 = .ok (.istore 4, 2) := by decide +kernel
theorem dX11_tests_13 : decode cX11_tests 13 = .ok (.iload 4, 2) := by decide +kernel
theorem dX11_tests_15 : decode cX11_tests 15 = .ok (.sipush 512, 3) := by decide +kernel
theorem dX11_tests_18 : decode cX11_tests 18 = .ok (.if_icmp .ge 40, 3) := by decide +kernel
theorem dX11_tests_21 : decode cX11_tests 21 = .ok (.aload_n 0, 1) := by decide +kernel
theorem dX11_tests_22 : decode cX11_tests 22 = .ok (.getfield 93, 3) := by decide +kernel
theorem dX11_tests_25 : decode cX11_tests 25 = .ok (.ifCond .eq 33, 3) := by decide +kernel
theorem dX11_tests_28 : decode cX11_tests 28 = .ok (.aload_n 0, 1) := by decide +kernel
theorem dX11_tests_29 : decode cX11_tests 29 = .ok (.getfield 26, 3) := by decide +kernel
theorem dX11_tests_32 : decode cX11_tests 32 = .ok (.iload 4, 2) := by decide +kernel
theorem dX11_tests_34 : decode cX11_tests 34 = .ok (.aload_n 0, 1) := by decide +kernel
theorem dX11_tests_35 : decode cX11_tests 35 = .ok (.iload_n 1, 1) := by decide +kernel
theorem dX11_tests_36 : decode cX11_tests 36 = .ok (.iload 4, 2) := by decide +kernel
theorem dX11_tests_38 : decode cX11_tests 38 = .ok (.iload_n 2, 1) := by decide +kernel
theorem dX11_tests_39 : decode cX11_tests 39 = .ok (.invokestatic 129, 3) := by decide +kernel
theorem dX11_tests_42 : decode cX11_tests 42 = .ok (.iload 4, 2) := by decide +kernel
theorem dX11_tests_44 : decode cX11_tests 44 = .ok (.iload_n 3, 1) := by decide +kernel
theorem dX11_tests_45 : decode cX11_tests 45 = .ok (.invokestatic 129, 3) := by decide +kernel
theorem dX11_tests_48 : decode cX11_tests 48 = .ok (.invokevirtual 133, 3) := by decide +kernel
theorem dX11_tests_51 : decode cX11_tests 51 = .ok (.bastore, 1) := by decide +kernel
theorem dX11_tests_52 : decode cX11_tests 52 = .ok (.iinc 4 1, 3) := by decide +kernel
theorem dX11_tests_55 : decode cX11_tests 55 = .ok (.goto (-42), 3) := by decide +kernel
theorem dX11_tests_58 : decode cX11_tests 58 = .ok (.aload_n 0, 1) := by decide +kernel
theorem dX11_tests_59 : decode cX11_tests 59 = .ok (.iconst 0, 1) := by decide +kernel
theorem dX11_tests_60 : decode cX11_tests 60 = .ok (.invokevirtual 136, 3) := by decide +kernel
theorem dX11_tests_63 : decode cX11_tests 63 = .ok (.iconst 1, 1) := by decide +kernel
theorem dX11_tests_64 : decode cX11_tests 64 = .ok (.ireturn, 1) := by decide +kernel
theorem dX11_readsUnit_0 : decode cX11_readsUnit 0 = .ok (.aload_n 0, 1) := by decide +kernel
theorem dX11_readsUnit_1 : decode cX11_readsUnit 1 = .ok (.invokevirtual 119, 3) := by decide +kernel
theorem dX11_readsUnit_4 : decode cX11_readsUnit 4 = .ok (.istore_n 1, 1) := by decide +kernel
theorem dX11_readsUnit_5 : decode cX11_readsUnit 5 = .ok (.iload_n 1, 1) := by decide +kernel
theorem dX11_readsUnit_6 : decode cX11_readsUnit 6 = .ok (.bipush 69, 2) := by decide +kernel
theorem dX11_readsUnit_8 : decode cX11_readsUnit 8 = .ok (.if_icmp .ne 54, 3) := by decide +kernel
theorem dX11_readsUnit_11 : decode cX11_readsUnit 11 = .ok (.aload_n 0, 1) := by decide +kernel
theorem dX11_readsUnit_12 : decode cX11_readsUnit 12 = .ok (.dup, 1) := by decide +kernel
theorem dX11_readsUnit_13 : decode cX11_readsUnit 13 = .ok (.getfield 104, 3) := by decide +kernel
theorem dX11_readsUnit_16 : decode cX11_readsUnit 16 = .ok (.iconst 1, 1) := by decide +kernel
theorem dX11_readsUnit_17 : decode cX11_readsUnit 17 = .ok (.iadd, 1) := by decide +kernel
theorem dX11_readsUnit_18 : decode cX11_readsUnit 18 = .ok (.putfield 104, 3) := by decide +kernel
theorem dX11_readsUnit_21 : decode cX11_readsUnit 21 = .ok (.aload_n 0, 1) := by decide +kernel
theorem dX11_readsUnit_22 : decode cX11_readsUnit 22 = .ok (.iconst 0, 1) := by decide +kernel
theorem dX11_readsUnit_23 : decode cX11_readsUnit 23 = .ok (.invokevirtual 140, 3) := by decide +kernel
theorem dX11_readsUnit_26 : decode cX11_readsUnit 26 = .ok (.istore_n 2, 1) := by decide +kernel
theorem dX11_readsUnit_27 : decode cX11_readsUnit 27 = .ok (.aload_n 0, 1) := by decide +kernel
theorem dX11_readsUnit_28 : decode cX11_readsUnit 28 = .ok (.dup, 1) := by decide +kernel
theorem dX11_readsUnit_29 : decode cX11_readsUnit 29 = .ok (.getfield 110, 3) := by decide +kernel
theorem dX11_readsUnit_32 : decode cX11_readsUnit 32 = .ok (.iload_n 2, 1) := by decide +kernel
theorem dX11_readsUnit_33 : decode cX11_readsUnit 33 = .ok (.ifCond .ge 7, 3) := by decide +kernel
theorem dX11_readsUnit_36 : decode cX11_readsUnit 36 = .ok (.iconst 0, 1) := by decide +kernel
theorem dX11_readsUnit_37 : decode cX11_readsUnit 37 = .ok (.goto 6, 3) := by decide +kernel
theorem dX11_readsUnit_40 : decode cX11_readsUnit 40 = .ok (.iconst 1, 1) := by decide +kernel
theorem dX11_readsUnit_41 : decode cX11_readsUnit 41 = .ok (.iload_n 2, 1) := by decide +kernel
theorem dX11_readsUnit_42 : decode cX11_readsUnit 42 = .ok (.ishl, 1) := by decide +kernel
theorem dX11_readsUnit_43 : decode cX11_readsUnit 43 = .ok (.ior, 1) := by decide +kernel
theorem dX11_readsUnit_44 : decode cX11_readsUnit 44 = .ok (.putfield 110, 3) := by decide +kernel
theorem dX11_readsUnit_47 : decode cX11_readsUnit 47 = .ok (.aload_n 0, 1) := by decide +kernel
theorem dX11_readsUnit_48 : decode cX11_readsUnit 48 = .ok (.iload_n 2, 1) := by decide +kernel
theorem dX11_readsUnit_49 : decode cX11_readsUnit 49 = .ok (.invokevirtual 97, 3) := by decide +kernel
theorem dX11_readsUnit_52 : decode cX11_readsUnit 52 = .ok (.iload_n 2, 1) := by decide +kernel
theorem dX11_readsUnit_53 : decode cX11_readsUnit 53 = .ok (.ifCond .lt 7, 3) := by decide +kernel
theorem dX11_readsUnit_56 : decode cX11_readsUnit 56 = .ok (.iconst 1, 1) := by decide +kernel
theorem dX11_readsUnit_57 : decode cX11_readsUnit 57 = .ok (.goto 4, 3) := by decide +kernel
theorem dX11_readsUnit_60 : decode cX11_readsUnit 60 = .ok (.iconst 0, 1) := by decide +kernel
theorem dX11_readsUnit_61 : decode cX11_readsUnit 61 = .ok (.ireturn, 1) := by decide +kernel
theorem dX11_readsUnit_62 : decode cX11_readsUnit 62 = .ok (.iload_n 1, 1) := by decide +kernel
theorem dX11_readsUnit_63 : decode cX11_readsUnit 63 = .ok (.bipush 112, 2) := by decide +kernel
theorem dX11_readsUnit_65 : decode cX11_readsUnit 65 = .ok (.bipush 116, 2) := by decide +kernel
theorem dX11_readsUnit_67 : decode cX11_readsUnit 67 = .ok (.invokestatic 67, 3) := by decide +kernel
theorem dX11_readsUnit_70 : decode cX11_readsUnit 70 = .ok (.ifCond .eq 45, 3) := by decide +kernel
theorem dX11_readsUnit_73 : decode cX11_readsUnit 73 = .ok (.aload_n 0, 1) := by decide +kernel
theorem dX11_readsUnit_74 : decode cX11_readsUnit 74 = .ok (.dup, 1) := by decide +kernel
theorem dX11_readsUnit_75 : decode cX11_readsUnit 75 = .ok (.getfield 104, 3) := by decide +kernel
theorem dX11_readsUnit_78 : decode cX11_readsUnit 78 = .ok (.iconst 1, 1) := by decide +kernel
theorem dX11_readsUnit_79 : decode cX11_readsUnit 79 = .ok (.iadd, 1) := by decide +kernel
theorem dX11_readsUnit_80 : decode cX11_readsUnit 80 = .ok (.putfield 104, 3) := by decide +kernel
theorem dX11_readsUnit_83 : decode cX11_readsUnit 83 = .ok (.aload_n 0, 1) := by decide +kernel
theorem dX11_readsUnit_84 : decode cX11_readsUnit 84 = .ok (.iconst 1, 1) := by decide +kernel
theorem dX11_readsUnit_85 : decode cX11_readsUnit 85 = .ok (.invokevirtual 140, 3) := by decide +kernel
theorem dX11_readsUnit_88 : decode cX11_readsUnit 88 = .ok (.istore_n 2, 1) := by decide +kernel
theorem dX11_readsUnit_89 : decode cX11_readsUnit 89 = .ok (.aload_n 0, 1) := by decide +kernel
theorem dX11_readsUnit_90 : decode cX11_readsUnit 90 = .ok (.iload_n 1, 1) := by decide +kernel
theorem dX11_readsUnit_91 : decode cX11_readsUnit 91 = .ok (.iload_n 2, 1) := by decide +kernel
theorem dX11_readsUnit_92 : decode cX11_readsUnit 92 = .ok (.iload_n 1, 1) := by decide +kernel
theorem dX11_readsUnit_93 : decode cX11_readsUnit 93 = .ok (.bipush 115, 2) := by decide +kernel
theorem dX11_readsUnit_95 : decode cX11_readsUnit 95 = .ok (.if_icmp .lt 7, 3) := by decide +kernel
theorem dX11_readsUnit_98 : decode cX11_readsUnit 98 = .ok (.iload_n 2, 1) := by decide +kernel
theorem dX11_readsUnit_99 : decode cX11_readsUnit 99 = .ok (.ifCond .ge 7, 3) := by decide +kernel
theorem dX11_readsUnit_102 : decode cX11_readsUnit 102 = .ok (.iload_n 2, 1) := by decide +kernel
theorem dX11_readsUnit_103 : decode cX11_readsUnit 103 = .ok (.goto 8, 3) := by decide +kernel
theorem dX11_readsUnit_106 : decode cX11_readsUnit 106 = .ok (.aload_n 0, 1) := by decide +kernel
theorem dX11_readsUnit_107 : decode cX11_readsUnit 107 = .ok (.iconst 1, 1) := by decide +kernel
theorem dX11_readsUnit_108 : decode cX11_readsUnit 108 = .ok (.invokevirtual 140, 3) := by decide +kernel
theorem dX11_readsUnit_111 : decode cX11_readsUnit 111 = .ok (.invokevirtual 144, 3) := by decide +kernel
theorem dX11_readsUnit_114 : decode cX11_readsUnit 114 = .ok (.ireturn, 1) := by decide +kernel
theorem dX11_readsUnit_115 : decode cX11_readsUnit 115 = .ok (.iload_n 1, 1) := by decide +kernel
theorem dX11_readsUnit_116 : decode cX11_readsUnit 116 = .ok (.bipush 35, 2) := by decide +kernel
theorem dX11_readsUnit_118 : decode cX11_readsUnit 118 = .ok (.if_icmp .ne 55, 3) := by decide +kernel
theorem dX11_readsUnit_121 : decode cX11_readsUnit 121 = .ok (.aload_n 0, 1) := by decide +kernel
theorem dX11_readsUnit_122 : decode cX11_readsUnit 122 = .ok (.dup, 1) := by decide +kernel
theorem dX11_readsUnit_123 : decode cX11_readsUnit 123 = .ok (.getfield 104, 3) := by decide +kernel
theorem dX11_readsUnit_126 : decode cX11_readsUnit 126 = .ok (.iconst 1, 1) := by decide +kernel
theorem dX11_readsUnit_127 : decode cX11_readsUnit 127 = .ok (.iadd, 1) := by decide +kernel
theorem dX11_readsUnit_128 : decode cX11_readsUnit 128 = .ok (.putfield 104, 3) := by decide +kernel
theorem dX11_readsUnit_131 : decode cX11_readsUnit 131 = .ok (.aload_n 0, 1) := by decide +kernel
theorem dX11_readsUnit_132 : decode cX11_readsUnit 132 = .ok (.invokevirtual 119, 3) := by decide +kernel
theorem dX11_readsUnit_135 : decode cX11_readsUnit 135 = .ok (.istore_n 3, 1) := by decide +kernel
theorem dX11_readsUnit_136 : decode cX11_readsUnit 136 = .ok (.iload_n 3, 1) := by decide +kernel
theorem dX11_readsUnit_137 : decode cX11_readsUnit 137 = .ok (.bipush 49, 2) := by decide +kernel
theorem dX11_readsUnit_139 : decode cX11_readsUnit 139 = .ok (.bipush 51, 2) := by decide +kernel
theorem dX11_readsUnit_141 : decode cX11_readsUnit 141 = .ok (.invokestatic 67, 3) := by decide +kernel
theorem dX11_readsUnit_144 : decode cX11_readsUnit 144 = .ok (.ifCond .ne 5, 3) := by decide +kernel
theorem dX11_readsUnit_147 : decode cX11_readsUnit 147 = .ok (.iconst 0, 1) := by decide +kernel
theorem dX11_readsUnit_148 : decode cX11_readsUnit 148 = .ok (.ireturn, 1) := by decide +kernel
theorem dX11_readsUnit_149 : decode cX11_readsUnit 149 = .ok (.aload_n 0, 1) := by decide +kernel
theorem dX11_readsUnit_150 : decode cX11_readsUnit 150 = .ok (.dup, 1) := by decide +kernel
theorem dX11_readsUnit_151 : decode cX11_readsUnit 151 = .ok (.getfield 104, 3) := by decide +kernel
theorem dX11_readsUnit_154 : decode cX11_readsUnit 154 = .ok (.iconst 1, 1) := by decide +kernel
theorem dX11_readsUnit_155 : decode cX11_readsUnit 155 = .ok (.iadd, 1) := by decide +kernel
theorem dX11_readsUnit_156 : decode cX11_readsUnit 156 = .ok (.putfield 104, 3) := by decide +kernel
theorem dX11_readsUnit_159 : decode cX11_readsUnit 159 = .ok (.aload_n 0, 1) := by decide +kernel
theorem dX11_readsUnit_160 : decode cX11_readsUnit 160 = .ok (.iconst 1, 1) := by decide +kernel
theorem dX11_readsUnit_161 : decode cX11_readsUnit 161 = .ok (.invokevirtual 140, 3) := by decide +kernel
theorem dX11_readsUnit_164 : decode cX11_readsUnit 164 = .ok (.istore_n 2, 1) := by decide +kernel
theorem dX11_readsUnit_165 : decode cX11_readsUnit 165 = .ok (.aload_n 0, 1) := by decide +kernel
theorem dX11_readsUnit_166 : decode cX11_readsUnit 166 = .ok (.iload_n 3, 1) := by decide +kernel
theorem dX11_readsUnit_167 : decode cX11_readsUnit 167 = .ok (.iload_n 2, 1) := by decide +kernel
theorem dX11_readsUnit_168 : decode cX11_readsUnit 168 = .ok (.iload_n 2, 1) := by decide +kernel
theorem dX11_readsUnit_169 : decode cX11_readsUnit 169 = .ok (.invokevirtual 144, 3) := by decide +kernel
theorem dX11_readsUnit_172 : decode cX11_readsUnit 172 = .ok (.ireturn, 1) := by decide +kernel
theorem dX11_readsUnit_173 : decode cX11_readsUnit 173 = .ok (.aload_n 0, 1) := by decide +kernel
theorem dX11_readsUnit_174 : decode cX11_readsUnit 174 = .ok (.iconst 1, 1) := by decide +kernel
theorem dX11_readsUnit_175 : decode cX11_readsUnit 175 = .ok (.invokevirtual 140, 3) := by decide +kernel
theorem dX11_readsUnit_178 : decode cX11_readsUnit 178 = .ok (.istore_n 2, 1) := by decide +kernel
theorem dX11_readsUnit_179 : decode cX11_readsUnit 179 = .ok (.aload_n 0, 1) := by decide +kernel
theorem dX11_readsUnit_180 : decode cX11_readsUnit 180 = .ok (.invokevirtual 119, 3) := by decide +kernel
theorem dX11_readsUnit_183 : decode cX11_readsUnit 183 = .ok (.istore_n 3, 1) := by decide +kernel
theorem dX11_readsUnit_184 : decode cX11_readsUnit 184 = .ok (.iload_n 2, 1) := by decide +kernel
theorem dX11_readsUnit_185 : decode cX11_readsUnit 185 = .ok (.ifCond .lt 15, 3) := by decide +kernel
theorem dX11_readsUnit_188 : decode cX11_readsUnit 188 = .ok (.iload_n 3, 1) := by decide +kernel
theorem dX11_readsUnit_189 : decode cX11_readsUnit 189 = .ok (.bipush 61, 2) := by decide +kernel
theorem dX11_readsUnit_191 : decode cX11_readsUnit 191 = .ok (.if_icmp .eq 11, 3) := by decide +kernel
theorem dX11_readsUnit_194 : decode cX11_readsUnit 194 = .ok (.iload_n 3, 1) := by decide +kernel
theorem dX11_readsUnit_195 : decode cX11_readsUnit 195 = .ok (.bipush 60, 2) := by decide +kernel
theorem dX11_readsUnit_197 : decode cX11_readsUnit 197 = .ok (.if_icmp .eq 5, 3) := by decide +kernel
theorem dX11_readsUnit_200 : decode cX11_readsUnit 200 = .ok (.iconst 0, 1) := by decide +kernel
theorem dX11_readsUnit_201 : decode cX11_readsUnit 201 = .ok (.ireturn, 1) := by decide +kernel
theorem dX11_readsUnit_202 : decode cX11_readsUnit 202 = .ok (.aload_n 0, 1) := by decide +kernel
theorem dX11_readsUnit_203 : decode cX11_readsUnit 203 = .ok (.dup, 1) := by decide +kernel
theorem dX11_readsUnit_204 : decode cX11_readsUnit 204 = .ok (.getfield 104, 3) := by decide +kernel
theorem dX11_readsUnit_207 : decode cX11_readsUnit 207 = .ok (.iconst 1, 1) := by decide +kernel
theorem dX11_readsUnit_208 : decode cX11_readsUnit 208 = .ok (.iadd, 1) := by decide +kernel
theorem dX11_readsUnit_209 : decode cX11_readsUnit 209 = .ok (.putfield 104, 3) := by decide +kernel
theorem dX11_readsUnit_212 : decode cX11_readsUnit 212 = .ok (.aload_n 0, 1) := by decide +kernel
theorem dX11_readsUnit_213 : decode cX11_readsUnit 213 = .ok (.iload_n 3, 1) := by decide +kernel
theorem dX11_readsUnit_214 : decode cX11_readsUnit 214 = .ok (.iload_n 2, 1) := by decide +kernel
theorem dX11_readsUnit_215 : decode cX11_readsUnit 215 = .ok (.aload_n 0, 1) := by decide +kernel
theorem dX11_readsUnit_216 : decode cX11_readsUnit 216 = .ok (.iconst 1, 1) := by decide +kernel
theorem dX11_readsUnit_217 : decode cX11_readsUnit 217 = .ok (.invokevirtual 140, 3) := by decide +kernel
theorem dX11_readsUnit_220 : decode cX11_readsUnit 220 = .ok (.invokevirtual 144, 3) := by decide +kernel
theorem dX11_readsUnit_223 : decode cX11_readsUnit 223 = .ok (.ireturn, 1) := by decide +kernel
theorem dX11_endsUnit_0 : decode cX11_endsUnit 0 = .ok (.aload_n 0, 1) := by decide +kernel
theorem dX11_endsUnit_1 : decode cX11_endsUnit 1 = .ok (.getfield 35, 3) := by decide +kernel
theorem dX11_endsUnit_4 : decode cX11_endsUnit 4 = .ok (.aload_n 0, 1) := by decide +kernel
theorem dX11_endsUnit_5 : decode cX11_endsUnit 5 = .ok (.getfield 107, 3) := by decide +kernel
theorem dX11_endsUnit_8 : decode cX11_endsUnit 8 = .ok (.iaload, 1) := by decide +kernel
theorem dX11_endsUnit_9 : decode cX11_endsUnit 9 = .ok (.iconst 2, 1) := by decide +kernel
theorem dX11_endsUnit_10 : decode cX11_endsUnit 10 = .ok (.if_icmp .ne 60, 3) := by decide +kernel
theorem dX11_endsUnit_13 : decode cX11_endsUnit 13 = .ok (.aload_n 0, 1) := by decide +kernel
theorem dX11_endsUnit_14 : decode cX11_endsUnit 14 = .ok (.aload_n 0, 1) := by decide +kernel
theorem dX11_endsUnit_15 : decode cX11_endsUnit 15 = .ok (.getfield 38, 3) := by decide +kernel
theorem dX11_endsUnit_18 : decode cX11_endsUnit 18 = .ok (.aload_n 0, 1) := by decide +kernel
theorem dX11_endsUnit_19 : decode cX11_endsUnit 19 = .ok (.getfield 107, 3) := by decide +kernel
theorem dX11_endsUnit_22 : decode cX11_endsUnit 22 = .ok (.iaload, 1) := by decide +kernel
theorem dX11_endsUnit_23 : decode cX11_endsUnit 23 = .ok (.invokevirtual 147, 3) := by decide +kernel
theorem dX11_endsUnit_26 : decode cX11_endsUnit 26 = .ok (.aload_n 0, 1) := by decide +kernel
theorem dX11_endsUnit_27 : decode cX11_endsUnit 27 = .ok (.aload_n 0, 1) := by decide +kernel
theorem dX11_endsUnit_28 : decode cX11_endsUnit 28 = .ok (.getfield 38, 3) := by decide +kernel
theorem dX11_endsUnit_31 : decode cX11_endsUnit 31 = .ok (.aload_n 0, 1) := by decide +kernel
theorem dX11_endsUnit_32 : decode cX11_endsUnit 32 = .ok (.getfield 107, 3) := by decide +kernel
theorem dX11_endsUnit_35 : decode cX11_endsUnit 35 = .ok (.iaload, 1) := by decide +kernel
theorem dX11_endsUnit_36 : decode cX11_endsUnit 36 = .ok (.putfield 90, 3) := by decide +kernel
theorem dX11_endsUnit_39 : decode cX11_endsUnit 39 = .ok (.aload_n 0, 1) := by decide +kernel
theorem dX11_endsUnit_40 : decode cX11_endsUnit 40 = .ok (.iconst 1, 1) := by decide +kernel
theorem dX11_endsUnit_41 : decode cX11_endsUnit 41 = .ok (.invokevirtual 136, 3) := by decide +kernel
theorem dX11_endsUnit_44 : decode cX11_endsUnit 44 = .ok (.aload_n 0, 1) := by decide +kernel
theorem dX11_endsUnit_45 : decode cX11_endsUnit 45 = .ok (.aload_n 0, 1) := by decide +kernel
theorem dX11_endsUnit_46 : decode cX11_endsUnit 46 = .ok (.getfield 41, 3) := by decide +kernel
theorem dX11_endsUnit_49 : decode cX11_endsUnit 49 = .ok (.aload_n 0, 1) := by decide +kernel
theorem dX11_endsUnit_50 : decode cX11_endsUnit 50 = .ok (.getfield 107, 3) := by decide +kernel
theorem dX11_endsUnit_53 : decode cX11_endsUnit 53 = .ok (.iaload, 1) := by decide +kernel
theorem dX11_endsUnit_54 : decode cX11_endsUnit 54 = .ok (.putfield 110, 3) := by decide +kernel
theorem dX11_endsUnit_57 : decode cX11_endsUnit 57 = .ok (.aload_n 0, 1) := by decide +kernel
theorem dX11_endsUnit_58 : decode cX11_endsUnit 58 = .ok (.dup, 1) := by decide +kernel
theorem dX11_endsUnit_59 : decode cX11_endsUnit 59 = .ok (.getfield 107, 3) := by decide +kernel
theorem dX11_endsUnit_62 : decode cX11_endsUnit 62 = .ok (.iconst 1, 1) := by decide +kernel
theorem dX11_endsUnit_63 : decode cX11_endsUnit 63 = .ok (.isub, 1) := by decide +kernel
theorem dX11_endsUnit_64 : decode cX11_endsUnit 64 = .ok (.putfield 107, 3) := by decide +kernel
theorem dX11_endsUnit_67 : decode cX11_endsUnit 67 = .ok (.goto (-67), 3) := by decide +kernel
theorem dX11_endsUnit_70 : decode cX11_endsUnit 70 = .ok (.return_, 1) := by decide +kernel
theorem dX11_endsRow_0 : decode cX11_endsRow 0 = .ok (.aload_n 0, 1) := by decide +kernel
theorem dX11_endsRow_1 : decode cX11_endsRow 1 = .ok (.aload_n 0, 1) := by decide +kernel
theorem dX11_endsRow_2 : decode cX11_endsRow 2 = .ok (.getfield 38, 3) := by decide +kernel
theorem dX11_endsRow_5 : decode cX11_endsRow 5 = .ok (.aload_n 0, 1) := by decide +kernel
theorem dX11_endsRow_6 : decode cX11_endsRow 6 = .ok (.getfield 107, 3) := by decide +kernel
theorem dX11_endsRow_9 : decode cX11_endsRow 9 = .ok (.iaload, 1) := by decide +kernel
theorem dX11_endsRow_10 : decode cX11_endsRow 10 = .ok (.invokevirtual 147, 3) := by decide +kernel
theorem dX11_endsRow_13 : decode cX11_endsRow 13 = .ok (.iconst 0, 1) := by decide +kernel
theorem dX11_endsRow_14 : decode cX11_endsRow 14 = .ok (.istore_n 1, 1) := by decide +kernel
theorem dX11_endsRow_15 : decode cX11_endsRow 15 = .ok (.iload_n 1, 1) := by decide +kernel
theorem dX11_endsRow_16 : decode cX11_endsRow 16 = .ok (.sipush 512, 3) := by decide +kernel
theorem dX11_endsRow_19 : decode cX11_endsRow 19 = .ok (.if_icmp .ge 75, 3) := by decide +kernel
theorem dX11_endsRow_22 : decode cX11_endsRow 22 = .ok (.aload_n 0, 1) := by decide +kernel
theorem dX11_endsRow_23 : decode cX11_endsRow 23 = .ok (.getfield 93, 3) := by decide +kernel
theorem dX11_endsRow_26 : decode cX11_endsRow 26 = .ok (.ifCond .eq 68, 3) := by decide +kernel
theorem dX11_endsRow_29 : decode cX11_endsRow 29 = .ok (.aload_n 0, 1) := by decide +kernel
theorem dX11_endsRow_30 : decode cX11_endsRow 30 = .ok (.getfield 56, 3) := by decide +kernel
theorem dX11_endsRow_33 : decode cX11_endsRow 33 = .ok (.sipush 512, 3) := by decide +kernel
theorem dX11_endsRow_36 : decode cX11_endsRow 36 = .ok (.aload_n 0, 1) := by decide +kernel
theorem dX11_endsRow_37 : decode cX11_endsRow 37 = .ok (.getfield 107, 3) := by decide +kernel
theorem dX11_endsRow_40 : decode cX11_endsRow 40 = .ok (.imul, 1) := by decide +kernel
theorem dX11_endsRow_41 : decode cX11_endsRow 41 = .ok (.iload_n 1, 1) := by decide +kernel
theorem dX11_endsRow_42 : decode cX11_endsRow 42 = .ok (.iadd, 1) := by decide +kernel
theorem dX11_endsRow_43 : decode cX11_endsRow 43 = .ok (.aload_n 0, 1) := by decide +kernel
theorem dX11_endsRow_44 : decode cX11_endsRow 44 = .ok (.getfield 26, 3) := by decide +kernel
theorem dX11_endsRow_47 : decode cX11_endsRow 47 = .ok (.iload_n 1, 1) := by decide +kernel
theorem dX11_endsRow_48 : decode cX11_endsRow 48 = .ok (.baload, 1) := by decide +kernel
theorem dX11_endsRow_49 : decode cX11_endsRow 49 = .ok (.ifCond .ne 33, 3) := by decide +kernel
theorem dX11_endsRow_52 : decode cX11_endsRow 52 = .ok (.aload_n 0, 1) := by decide +kernel
theorem dX11_endsRow_53 : decode cX11_endsRow 53 = .ok (.getfield 44, 3) := by decide +kernel
theorem dX11_endsRow_56 : decode cX11_endsRow 56 = .ok (.aload_n 0, 1) := by decide +kernel
theorem dX11_endsRow_57 : decode cX11_endsRow 57 = .ok (.getfield 107, 3) := by decide +kernel
theorem dX11_endsRow_60 : decode cX11_endsRow 60 = .ok (.iaload, 1) := by decide +kernel
theorem dX11_endsRow_61 : decode cX11_endsRow 61 = .ok (.ifCond .le 25, 3) := by decide +kernel
theorem dX11_endsRow_64 : decode cX11_endsRow 64 = .ok (.aload_n 0, 1) := by decide +kernel
theorem dX11_endsRow_65 : decode cX11_endsRow 65 = .ok (.getfield 56, 3) := by decide +kernel
theorem dX11_endsRow_68 : decode cX11_endsRow 68 = .ok (.sipush 512, 3) := by decide +kernel
theorem dX11_endsRow_71 : decode cX11_endsRow 71 = .ok (.aload_n 0, 1) := by decide +kernel
theorem dX11_endsRow_72 : decode cX11_endsRow 72 = .ok (.getfield 107, 3) := by decide +kernel
theorem dX11_endsRow_75 : decode cX11_endsRow 75 = .ok (.imul, 1) := by decide +kernel
theorem dX11_endsRow_76 : decode cX11_endsRow 76 = .ok (.iload_n 1, 1) := by decide +kernel
theorem dX11_endsRow_77 : decode cX11_endsRow 77 = .ok (.iadd, 1) := by decide +kernel
theorem dX11_endsRow_78 : decode cX11_endsRow 78 = .ok (.baload, 1) := by decide +kernel
theorem dX11_endsRow_79 : decode cX11_endsRow 79 = .ok (.ifCond .eq 7, 3) := by decide +kernel
theorem dX11_endsRow_82 : decode cX11_endsRow 82 = .ok (.iconst 1, 1) := by decide +kernel
theorem dX11_endsRow_83 : decode cX11_endsRow 83 = .ok (.goto 4, 3) := by decide +kernel
theorem dX11_endsRow_86 : decode cX11_endsRow 86 = .ok (.iconst 0, 1) := by decide +kernel
theorem dX11_endsRow_87 : decode cX11_endsRow 87 = .ok (.bastore, 1) := by decide +kernel
theorem dX11_endsRow_88 : decode cX11_endsRow 88 = .ok (.iinc 1 1, 3) := by decide +kernel
theorem dX11_endsRow_91 : decode cX11_endsRow 91 = .ok (.goto (-76), 3) := by decide +kernel
theorem dX11_endsRow_94 : decode cX11_endsRow 94 = .ok (.aload_n 0, 1) := by decide +kernel
theorem dX11_endsRow_95 : decode cX11_endsRow 95 = .ok (.aload_n 0, 1) := by decide +kernel
theorem dX11_endsRow_96 : decode cX11_endsRow 96 = .ok (.getfield 38, 3) := by decide +kernel
theorem dX11_endsRow_99 : decode cX11_endsRow 99 = .ok (.aload_n 0, 1) := by decide +kernel
theorem dX11_endsRow_100 : decode cX11_endsRow 100 = .ok (.getfield 107, 3) := by decide +kernel
theorem dX11_endsRow_103 : decode cX11_endsRow 103 = .ok (.iaload, 1) := by decide +kernel
theorem dX11_endsRow_104 : decode cX11_endsRow 104 = .ok (.putfield 90, 3) := by decide +kernel
theorem dX11_endsRow_107 : decode cX11_endsRow 107 = .ok (.aload_n 0, 1) := by decide +kernel
theorem dX11_endsRow_108 : decode cX11_endsRow 108 = .ok (.aload_n 0, 1) := by decide +kernel
theorem dX11_endsRow_109 : decode cX11_endsRow 109 = .ok (.getfield 41, 3) := by decide +kernel
theorem dX11_endsRow_112 : decode cX11_endsRow 112 = .ok (.aload_n 0, 1) := by decide +kernel
theorem dX11_endsRow_113 : decode cX11_endsRow 113 = .ok (.getfield 107, 3) := by decide +kernel
theorem dX11_endsRow_116 : decode cX11_endsRow 116 = .ok (.iaload, 1) := by decide +kernel
theorem dX11_endsRow_117 : decode cX11_endsRow 117 = .ok (.putfield 110, 3) := by decide +kernel
theorem dX11_endsRow_120 : decode cX11_endsRow 120 = .ok (.aload_n 0, 1) := by decide +kernel
theorem dX11_endsRow_121 : decode cX11_endsRow 121 = .ok (.getfield 44, 3) := by decide +kernel
theorem dX11_endsRow_124 : decode cX11_endsRow 124 = .ok (.aload_n 0, 1) := by decide +kernel
theorem dX11_endsRow_125 : decode cX11_endsRow 125 = .ok (.getfield 107, 3) := by decide +kernel
theorem dX11_endsRow_128 : decode cX11_endsRow 128 = .ok (.dup2, 1) := by decide +kernel
theorem dX11_endsRow_129 : decode cX11_endsRow 129 = .ok (.iaload, 1) := by decide +kernel
theorem dX11_endsRow_130 : decode cX11_endsRow 130 = .ok (.iconst 1, 1) := by decide +kernel
theorem dX11_endsRow_131 : decode cX11_endsRow 131 = .ok (.iadd, 1) := by decide +kernel
theorem dX11_endsRow_132 : decode cX11_endsRow 132 = .ok (.iastore, 1) := by decide +kernel
theorem dX11_endsRow_133 : decode cX11_endsRow 133 = .ok (.return_, 1) := by decide +kernel
theorem dX11_endsChoice_0 : decode cX11_endsChoice 0 = .ok (.aload_n 0, 1) := by decide +kernel
theorem dX11_endsChoice_1 : decode cX11_endsChoice 1 = .ok (.getfield 44, 3) := by decide +kernel
theorem dX11_endsChoice_4 : decode cX11_endsChoice 4 = .ok (.aload_n 0, 1) := by decide +kernel
theorem dX11_endsChoice_5 : decode cX11_endsChoice 5 = .ok (.getfield 107, 3) := by decide +kernel
theorem dX11_endsChoice_8 : decode cX11_endsChoice 8 = .ok (.iaload, 1) := by decide +kernel
theorem dX11_endsChoice_9 : decode cX11_endsChoice 9 = .ok (.ifCond .le 65, 3) := by decide +kernel
theorem dX11_endsChoice_12 : decode cX11_endsChoice 12 = .ok (.aload_n 0, 1) := by decide +kernel
theorem dX11_endsChoice_13 : decode cX11_endsChoice 13 = .ok (.invokevirtual 150, 3) := by decide +kernel
theorem dX11_endsChoice_16 : decode cX11_endsChoice 16 = .ok (.iconst 0, 1) := by decide +kernel
theorem dX11_endsChoice_17 : decode cX11_endsChoice 17 = .ok (.istore_n 1, 1) := by decide +kernel
theorem dX11_endsChoice_18 : decode cX11_endsChoice 18 = .ok (.iload_n 1, 1) := by decide +kernel
theorem dX11_endsChoice_19 : decode cX11_endsChoice 19 = .ok (.sipush 512, 3) := by decide +kernel
theorem dX11_endsChoice_22 : decode cX11_endsChoice 22 = .ok (.if_icmp .ge 37, 3) := by decide +kernel
theorem dX11_endsChoice_25 : decode cX11_endsChoice 25 = .ok (.aload_n 0, 1) := by decide +kernel
theorem dX11_endsChoice_26 : decode cX11_endsChoice 26 = .ok (.getfield 93, 3) := by decide +kernel
theorem dX11_endsChoice_29 : decode cX11_endsChoice 29 = .ok (.ifCond .eq 30, 3) := by decide +kernel
theorem dX11_endsChoice_32 : decode cX11_endsChoice 32 = .ok (.aload_n 0, 1) := by decide +kernel
theorem dX11_endsChoice_33 : decode cX11_endsChoice 33 = .ok (.getfield 26, 3) := by decide +kernel
theorem dX11_endsChoice_36 : decode cX11_endsChoice 36 = .ok (.iload_n 1, 1) := by decide +kernel
theorem dX11_endsChoice_37 : decode cX11_endsChoice 37 = .ok (.aload_n 0, 1) := by decide +kernel
theorem dX11_endsChoice_38 : decode cX11_endsChoice 38 = .ok (.getfield 56, 3) := by decide +kernel
theorem dX11_endsChoice_41 : decode cX11_endsChoice 41 = .ok (.sipush 512, 3) := by decide +kernel
theorem dX11_endsChoice_44 : decode cX11_endsChoice 44 = .ok (.aload_n 0, 1) := by decide +kernel
theorem dX11_endsChoice_45 : decode cX11_endsChoice 45 = .ok (.getfield 107, 3) := by decide +kernel
theorem dX11_endsChoice_48 : decode cX11_endsChoice 48 = .ok (.imul, 1) := by decide +kernel
theorem dX11_endsChoice_49 : decode cX11_endsChoice 49 = .ok (.iload_n 1, 1) := by decide +kernel
theorem dX11_endsChoice_50 : decode cX11_endsChoice 50 = .ok (.iadd, 1) := by decide +kernel
theorem dX11_endsChoice_51 : decode cX11_endsChoice 51 = .ok (.baload, 1) := by decide +kernel
theorem dX11_endsChoice_52 : decode cX11_endsChoice 52 = .ok (.bastore, 1) := by decide +kernel
theorem dX11_endsChoice_53 : decode cX11_endsChoice 53 = .ok (.iinc 1 1, 3) := by decide +kernel
theorem dX11_endsChoice_56 : decode cX11_endsChoice 56 = .ok (.goto (-38), 3) := by decide +kernel
theorem dX11_endsChoice_59 : decode cX11_endsChoice 59 = .ok (.aload_n 0, 1) := by decide +kernel
theorem dX11_endsChoice_60 : decode cX11_endsChoice 60 = .ok (.iconst 0, 1) := by decide +kernel
theorem dX11_endsChoice_61 : decode cX11_endsChoice 61 = .ok (.invokevirtual 136, 3) := by decide +kernel
theorem dX11_endsChoice_64 : decode cX11_endsChoice 64 = .ok (.aload_n 0, 1) := by decide +kernel
theorem dX11_endsChoice_65 : decode cX11_endsChoice 65 = .ok (.getfield 44, 3) := by decide +kernel
theorem dX11_endsChoice_68 : decode cX11_endsChoice 68 = .ok (.aload_n 0, 1) := by decide +kernel
theorem dX11_endsChoice_69 : decode cX11_endsChoice 69 = .ok (.getfield 107, 3) := by decide +kernel
theorem dX11_endsChoice_72 : decode cX11_endsChoice 72 = .ok (.iconst 0, 1) := by decide +kernel
theorem dX11_endsChoice_73 : decode cX11_endsChoice 73 = .ok (.iastore, 1) := by decide +kernel
theorem dX11_endsChoice_74 : decode cX11_endsChoice 74 = .ok (.aload_n 0, 1) := by decide +kernel
theorem dX11_endsChoice_75 : decode cX11_endsChoice 75 = .ok (.getfield 47, 3) := by decide +kernel
theorem dX11_endsChoice_78 : decode cX11_endsChoice 78 = .ok (.aload_n 0, 1) := by decide +kernel
theorem dX11_endsChoice_79 : decode cX11_endsChoice 79 = .ok (.getfield 107, 3) := by decide +kernel
theorem dX11_endsChoice_82 : decode cX11_endsChoice 82 = .ok (.iconst 0, 1) := by decide +kernel
theorem dX11_endsChoice_83 : decode cX11_endsChoice 83 = .ok (.bastore, 1) := by decide +kernel
theorem dX11_endsChoice_84 : decode cX11_endsChoice 84 = .ok (.return_, 1) := by decide +kernel
theorem dX11_endsFormula_0 : decode cX11_endsFormula 0 = .ok (.aload_n 0, 1) := by decide +kernel
theorem dX11_endsFormula_1 : decode cX11_endsFormula 1 = .ok (.invokevirtual 153, 3) := by decide +kernel
theorem dX11_endsFormula_4 : decode cX11_endsFormula 4 = .ok (.aload_n 0, 1) := by decide +kernel
theorem dX11_endsFormula_5 : decode cX11_endsFormula 5 = .ok (.getfield 35, 3) := by decide +kernel
theorem dX11_endsFormula_8 : decode cX11_endsFormula 8 = .ok (.aload_n 0, 1) := by decide +kernel
theorem dX11_endsFormula_9 : decode cX11_endsFormula 9 = .ok (.getfield 107, 3) := by decide +kernel
theorem dX11_endsFormula_12 : decode cX11_endsFormula 12 = .ok (.iaload, 1) := by decide +kernel
theorem dX11_endsFormula_13 : decode cX11_endsFormula 13 = .ok (.iconst 3, 1) := by decide +kernel
theorem dX11_endsFormula_14 : decode cX11_endsFormula 14 = .ok (.if_icmp .ne 128, 3) := by decide +kernel
theorem dX11_endsFormula_17 : decode cX11_endsFormula 17 = .ok (.aload_n 0, 1) := by decide +kernel
theorem dX11_endsFormula_18 : decode cX11_endsFormula 18 = .ok (.aload_n 0, 1) := by decide +kernel
theorem dX11_endsFormula_19 : decode cX11_endsFormula 19 = .ok (.getfield 38, 3) := by decide +kernel
theorem dX11_endsFormula_22 : decode cX11_endsFormula 22 = .ok (.aload_n 0, 1) := by decide +kernel
theorem dX11_endsFormula_23 : decode cX11_endsFormula 23 = .ok (.getfield 107, 3) := by decide +kernel
theorem dX11_endsFormula_26 : decode cX11_endsFormula 26 = .ok (.iaload, 1) := by decide +kernel
theorem dX11_endsFormula_27 : decode cX11_endsFormula 27 = .ok (.invokevirtual 147, 3) := by decide +kernel
theorem dX11_endsFormula_30 : decode cX11_endsFormula 30 = .ok (.iconst 0, 1) := by decide +kernel
theorem dX11_endsFormula_31 : decode cX11_endsFormula 31 = .ok (.istore_n 1, 1) := by decide +kernel
theorem dX11_endsFormula_32 : decode cX11_endsFormula 32 = .ok (.iload_n 1, 1) := by decide +kernel
theorem dX11_endsFormula_33 : decode cX11_endsFormula 33 = .ok (.sipush 512, 3) := by decide +kernel
theorem dX11_endsFormula_36 : decode cX11_endsFormula 36 = .ok (.if_icmp .ge 36, 3) := by decide +kernel
theorem dX11_endsFormula_39 : decode cX11_endsFormula 39 = .ok (.aload_n 0, 1) := by decide +kernel
theorem dX11_endsFormula_40 : decode cX11_endsFormula 40 = .ok (.getfield 93, 3) := by decide +kernel
theorem dX11_endsFormula_43 : decode cX11_endsFormula 43 = .ok (.ifCond .eq 29, 3) := by decide +kernel
theorem dX11_endsFormula_46 : decode cX11_endsFormula 46 = .ok (.aload_n 0, 1) := by decide +kernel
theorem dX11_endsFormula_47 : decode cX11_endsFormula 47 = .ok (.getfield 26, 3) := by decide +kernel
theorem dX11_endsFormula_50 : decode cX11_endsFormula 50 = .ok (.iload_n 1, 1) := by decide +kernel
theorem dX11_endsFormula_51 : decode cX11_endsFormula 51 = .ok (.aload_n 0, 1) := by decide +kernel
theorem dX11_endsFormula_52 : decode cX11_endsFormula 52 = .ok (.getfield 26, 3) := by decide +kernel
theorem dX11_endsFormula_55 : decode cX11_endsFormula 55 = .ok (.iload_n 1, 1) := by decide +kernel
theorem dX11_endsFormula_56 : decode cX11_endsFormula 56 = .ok (.baload, 1) := by decide +kernel
theorem dX11_endsFormula_57 : decode cX11_endsFormula 57 = .ok (.ifCond .ne 7, 3) := by decide +kernel
theorem dX11_endsFormula_60 : decode cX11_endsFormula 60 = .ok (.iconst 1, 1) := by decide +kernel
theorem dX11_endsFormula_61 : decode cX11_endsFormula 61 = .ok (.goto 4, 3) := by decide +kernel
theorem dX11_endsFormula_64 : decode cX11_endsFormula 64 = .ok (.iconst 0, 1) := by decide +kernel
theorem dX11_endsFormula_65 : decode cX11_endsFormula 65 = .ok (.bastore, 1) := by decide +kernel
theorem dX11_endsFormula_66 : decode cX11_endsFormula 66 = .ok (.iinc 1 1, 3) := by decide +kernel
theorem dX11_endsFormula_69 : decode cX11_endsFormula 69 = .ok (.goto (-37), 3) := by decide +kernel
theorem dX11_endsFormula_72 : decode cX11_endsFormula 72 = .ok (.aload_n 0, 1) := by decide +kernel
theorem dX11_endsFormula_73 : decode cX11_endsFormula 73 = .ok (.aload_n 0, 1) := by decide +kernel
theorem dX11_endsFormula_74 : decode cX11_endsFormula 74 = .ok (.getfield 38, 3) := by decide +kernel
theorem dX11_endsFormula_77 : decode cX11_endsFormula 77 = .ok (.aload_n 0, 1) := by decide +kernel
theorem dX11_endsFormula_78 : decode cX11_endsFormula 78 = .ok (.getfield 107, 3) := by decide +kernel
theorem dX11_endsFormula_81 : decode cX11_endsFormula 81 = .ok (.iaload, 1) := by decide +kernel
theorem dX11_endsFormula_82 : decode cX11_endsFormula 82 = .ok (.putfield 90, 3) := by decide +kernel
theorem dX11_endsFormula_85 : decode cX11_endsFormula 85 = .ok (.aload_n 0, 1) := by decide +kernel
theorem dX11_endsFormula_86 : decode cX11_endsFormula 86 = .ok (.dup, 1) := by decide +kernel
theorem dX11_endsFormula_87 : decode cX11_endsFormula 87 = .ok (.getfield 107, 3) := by decide +kernel
theorem dX11_endsFormula_90 : decode cX11_endsFormula 90 = .ok (.iconst 1, 1) := by decide +kernel
theorem dX11_endsFormula_91 : decode cX11_endsFormula 91 = .ok (.isub, 1) := by decide +kernel
theorem dX11_endsFormula_92 : decode cX11_endsFormula 92 = .ok (.putfield 107, 3) := by decide +kernel
theorem dX11_endsFormula_95 : decode cX11_endsFormula 95 = .ok (.aload_n 0, 1) := by decide +kernel
theorem dX11_endsFormula_96 : decode cX11_endsFormula 96 = .ok (.aload_n 0, 1) := by decide +kernel
theorem dX11_endsFormula_97 : decode cX11_endsFormula 97 = .ok (.getfield 38, 3) := by decide +kernel
theorem dX11_endsFormula_100 : decode cX11_endsFormula 100 = .ok (.aload_n 0, 1) := by decide +kernel
theorem dX11_endsFormula_101 : decode cX11_endsFormula 101 = .ok (.getfield 107, 3) := by decide +kernel
theorem dX11_endsFormula_104 : decode cX11_endsFormula 104 = .ok (.iaload, 1) := by decide +kernel
theorem dX11_endsFormula_105 : decode cX11_endsFormula 105 = .ok (.invokevirtual 101, 3) := by decide +kernel
theorem dX11_endsFormula_108 : decode cX11_endsFormula 108 = .ok (.aload_n 0, 1) := by decide +kernel
theorem dX11_endsFormula_109 : decode cX11_endsFormula 109 = .ok (.aload_n 0, 1) := by decide +kernel
theorem dX11_endsFormula_110 : decode cX11_endsFormula 110 = .ok (.getfield 38, 3) := by decide +kernel
theorem dX11_endsFormula_113 : decode cX11_endsFormula 113 = .ok (.aload_n 0, 1) := by decide +kernel
theorem dX11_endsFormula_114 : decode cX11_endsFormula 114 = .ok (.getfield 107, 3) := by decide +kernel
theorem dX11_endsFormula_117 : decode cX11_endsFormula 117 = .ok (.iaload, 1) := by decide +kernel
theorem dX11_endsFormula_118 : decode cX11_endsFormula 118 = .ok (.putfield 90, 3) := by decide +kernel
theorem dX11_endsFormula_121 : decode cX11_endsFormula 121 = .ok (.aload_n 0, 1) := by decide +kernel
theorem dX11_endsFormula_122 : decode cX11_endsFormula 122 = .ok (.iconst 1, 1) := by decide +kernel
theorem dX11_endsFormula_123 : decode cX11_endsFormula 123 = .ok (.invokevirtual 136, 3) := by decide +kernel
theorem dX11_endsFormula_126 : decode cX11_endsFormula 126 = .ok (.aload_n 0, 1) := by decide +kernel
theorem dX11_endsFormula_127 : decode cX11_endsFormula 127 = .ok (.aload_n 0, 1) := by decide +kernel
theorem dX11_endsFormula_128 : decode cX11_endsFormula 128 = .ok (.getfield 41, 3) := by decide +kernel
theorem dX11_endsFormula_131 : decode cX11_endsFormula 131 = .ok (.aload_n 0, 1) := by decide +kernel
theorem dX11_endsFormula_132 : decode cX11_endsFormula 132 = .ok (.getfield 107, 3) := by decide +kernel
theorem dX11_endsFormula_135 : decode cX11_endsFormula 135 = .ok (.iaload, 1) := by decide +kernel
theorem dX11_endsFormula_136 : decode cX11_endsFormula 136 = .ok (.putfield 110, 3) := by decide +kernel
theorem dX11_endsFormula_139 : decode cX11_endsFormula 139 = .ok (.goto (-135), 3) := by decide +kernel
theorem dX11_endsFormula_142 : decode cX11_endsFormula 142 = .ok (.return_, 1) := by decide +kernel
theorem dX11_under_0 : decode cX11_under 0 = .ok (.aload_n 0, 1) := by decide +kernel
theorem dX11_under_1 : decode cX11_under 1 = .ok (.getfield 107, 3) := by decide +kernel
theorem dX11_under_4 : decode cX11_under 4 = .ok (.istore_n 1, 1) := by decide +kernel
theorem dX11_under_5 : decode cX11_under 5 = .ok (.aload_n 0, 1) := by decide +kernel
theorem dX11_under_6 : decode cX11_under 6 = .ok (.getfield 35, 3) := by decide +kernel
theorem dX11_under_9 : decode cX11_under 9 = .ok (.iload_n 1, 1) := by decide +kernel
theorem dX11_under_10 : decode cX11_under 10 = .ok (.iaload, 1) := by decide +kernel
theorem dX11_under_11 : decode cX11_under 11 = .ok (.iconst 3, 1) := by decide +kernel
theorem dX11_under_12 : decode cX11_under 12 = .ok (.if_icmp .ne 9, 3) := by decide +kernel
theorem dX11_under_15 : decode cX11_under 15 = .ok (.iinc 1 (-1), 3) := by decide +kernel
theorem dX11_under_18 : decode cX11_under 18 = .ok (.goto (-13), 3) := by decide +kernel
theorem dX11_under_21 : decode cX11_under 21 = .ok (.aload_n 0, 1) := by decide +kernel
theorem dX11_under_22 : decode cX11_under 22 = .ok (.getfield 35, 3) := by decide +kernel
theorem dX11_under_25 : decode cX11_under 25 = .ok (.iload_n 1, 1) := by decide +kernel
theorem dX11_under_26 : decode cX11_under 26 = .ok (.iaload, 1) := by decide +kernel
theorem dX11_under_27 : decode cX11_under 27 = .ok (.ireturn, 1) := by decide +kernel
theorem dX11_readsFormula_0 : decode cX11_readsFormula 0 = .ok (.iconst 1, 1) := by decide +kernel
theorem dX11_readsFormula_1 : decode cX11_readsFormula 1 = .ok (.istore_n 1, 1) := by decide +kernel
theorem dX11_readsFormula_2 : decode cX11_readsFormula 2 = .ok (.aload_n 0, 1) := by decide +kernel
theorem dX11_readsFormula_3 : decode cX11_readsFormula 3 = .ok (.invokevirtual 119, 3) := by decide +kernel
theorem dX11_readsFormula_6 : decode cX11_readsFormula 6 = .ok (.istore_n 2, 1) := by decide +kernel
theorem dX11_readsFormula_7 : decode cX11_readsFormula 7 = .ok (.iload_n 1, 1) := by decide +kernel
theorem dX11_readsFormula_8 : decode cX11_readsFormula 8 = .ok (.ifCond .eq 54, 3) := by decide +kernel
theorem dX11_readsFormula_11 : decode cX11_readsFormula 11 = .ok (.iload_n 2, 1) := by decide +kernel
theorem dX11_readsFormula_12 : decode cX11_readsFormula 12 = .ok (.bipush 33, 2) := by decide +kernel
theorem dX11_readsFormula_14 : decode cX11_readsFormula 14 = .ok (.if_icmp .eq 9, 3) := by decide +kernel
theorem dX11_readsFormula_17 : decode cX11_readsFormula 17 = .ok (.iload_n 2, 1) := by decide +kernel
theorem dX11_readsFormula_18 : decode cX11_readsFormula 18 = .ok (.bipush 40, 2) := by decide +kernel
theorem dX11_readsFormula_20 : decode cX11_readsFormula 20 = .ok (.if_icmp .ne 42, 3) := by decide +kernel
theorem dX11_readsFormula_23 : decode cX11_readsFormula 23 = .ok (.aload_n 0, 1) := by decide +kernel
theorem dX11_readsFormula_24 : decode cX11_readsFormula 24 = .ok (.getfield 107, 3) := by decide +kernel
theorem dX11_readsFormula_27 : decode cX11_readsFormula 27 = .ok (.bipush 8, 2) := by decide +kernel
theorem dX11_readsFormula_29 : decode cX11_readsFormula 29 = .ok (.if_icmp .ne 5, 3) := by decide +kernel
theorem dX11_readsFormula_32 : decode cX11_readsFormula 32 = .ok (.iconst 0, 1) := by decide +kernel
theorem dX11_readsFormula_33 : decode cX11_readsFormula 33 = .ok (.ireturn, 1) := by decide +kernel
theorem dX11_readsFormula_34 : decode cX11_readsFormula 34 = .ok (.aload_n 0, 1) := by decide +kernel
theorem dX11_readsFormula_35 : decode cX11_readsFormula 35 = .ok (.iload_n 2, 1) := by decide +kernel
theorem dX11_readsFormula_36 : decode cX11_readsFormula 36 = .ok (.bipush 33, 2) := by decide +kernel
theorem dX11_readsFormula_38 : decode cX11_readsFormula 38 = .ok (.if_icmp .ne 7, 3) := by decide +kernel
theorem dX11_readsFormula_41 : decode cX11_readsFormula 41 = .ok (.iconst 2, 1) := by decide +kernel
theorem dX11_readsFormula_42 : decode cX11_readsFormula 42 = .ok (.goto 4, 3) := by decide +kernel
theorem dX11_readsFormula_45 : decode cX11_readsFormula 45 = .ok (.iconst 1, 1) := by decide +kernel
theorem dX11_readsFormula_46 : decode cX11_readsFormula 46 = .ok (.invokevirtual 156, 3) := by decide +kernel
theorem dX11_readsFormula_49 : decode cX11_readsFormula 49 = .ok (.aload_n 0, 1) := by decide +kernel
theorem dX11_readsFormula_50 : decode cX11_readsFormula 50 = .ok (.dup, 1) := by decide +kernel
theorem dX11_readsFormula_51 : decode cX11_readsFormula 51 = .ok (.getfield 104, 3) := by decide +kernel
theorem dX11_readsFormula_54 : decode cX11_readsFormula 54 = .ok (.iconst 1, 1) := by decide +kernel
theorem dX11_readsFormula_55 : decode cX11_readsFormula 55 = .ok (.iadd, 1) := by decide +kernel
theorem dX11_readsFormula_56 : decode cX11_readsFormula 56 = .ok (.putfield 104, 3) := by decide +kernel
theorem dX11_readsFormula_59 : decode cX11_readsFormula 59 = .ok (.goto 234, 3) := by decide +kernel
theorem dX11_readsFormula_62 : decode cX11_readsFormula 62 = .ok (.iload_n 1, 1) := by decide +kernel
theorem dX11_readsFormula_63 : decode cX11_readsFormula 63 = .ok (.ifCond .eq 21, 3) := by decide +kernel
theorem dX11_readsFormula_66 : decode cX11_readsFormula 66 = .ok (.aload_n 0, 1) := by decide +kernel
theorem dX11_readsFormula_67 : decode cX11_readsFormula 67 = .ok (.invokevirtual 159, 3) := by decide +kernel
theorem dX11_readsFormula_70 : decode cX11_readsFormula 70 = .ok (.ifCond .ne 5, 3) := by decide +kernel
theorem dX11_readsFormula_73 : decode cX11_readsFormula 73 = .ok (.iconst 0, 1) := by decide +kernel
theorem dX11_readsFormula_74 : decode cX11_readsFormula 74 = .ok (.ireturn, 1) := by decide +kernel
theorem dX11_readsFormula_75 : decode cX11_readsFormula 75 = .ok (.aload_n 0, 1) := by decide +kernel
theorem dX11_readsFormula_76 : decode cX11_readsFormula 76 = .ok (.invokevirtual 163, 3) := by decide +kernel
theorem dX11_readsFormula_79 : decode cX11_readsFormula 79 = .ok (.iconst 0, 1) := by decide +kernel
theorem dX11_readsFormula_80 : decode cX11_readsFormula 80 = .ok (.istore_n 1, 1) := by decide +kernel
theorem dX11_readsFormula_81 : decode cX11_readsFormula 81 = .ok (.goto 212, 3) := by decide +kernel
theorem dX11_readsFormula_84 : decode cX11_readsFormula 84 = .ok (.iload_n 2, 1) := by decide +kernel
theorem dX11_readsFormula_85 : decode cX11_readsFormula 85 = .ok (.bipush 38, 2) := by decide +kernel
theorem dX11_readsFormula_87 : decode cX11_readsFormula 87 = .ok (.if_icmp .eq 9, 3) := by decide +kernel
theorem dX11_readsFormula_90 : decode cX11_readsFormula 90 = .ok (.iload_n 2, 1) := by decide +kernel
theorem dX11_readsFormula_91 : decode cX11_readsFormula 91 = .ok (.bipush 124, 2) := by decide +kernel
theorem dX11_readsFormula_93 : decode cX11_readsFormula 93 = .ok (.if_icmp .ne 64, 3) := by decide +kernel
theorem dX11_readsFormula_96 : decode cX11_readsFormula 96 = .ok (.iload_n 2, 1) := by decide +kernel
theorem dX11_readsFormula_97 : decode cX11_readsFormula 97 = .ok (.bipush 124, 2) := by decide +kernel
theorem dX11_readsFormula_99 : decode cX11_readsFormula 99 = .ok (.if_icmp .ne 43, 3) := by decide +kernel
theorem dX11_readsFormula_102 : decode cX11_readsFormula 102 = .ok (.aload_n 0, 1) := by decide +kernel
theorem dX11_readsFormula_103 : decode cX11_readsFormula 103 = .ok (.dup, 1) := by decide +kernel
theorem dX11_readsFormula_104 : decode cX11_readsFormula 104 = .ok (.getfield 116, 3) := by decide +kernel
theorem dX11_readsFormula_107 : decode cX11_readsFormula 107 = .ok (.aload_n 0, 1) := by decide +kernel
theorem dX11_readsFormula_108 : decode cX11_readsFormula 108 = .ok (.getfield 47, 3) := by decide +kernel
theorem dX11_readsFormula_111 : decode cX11_readsFormula 111 = .ok (.aload_n 0, 1) := by decide +kernel
theorem dX11_readsFormula_112 : decode cX11_readsFormula 112 = .ok (.getfield 107, 3) := by decide +kernel
theorem dX11_readsFormula_115 : decode cX11_readsFormula 115 = .ok (.baload, 1) := by decide +kernel
theorem dX11_readsFormula_116 : decode cX11_readsFormula 116 = .ok (.ifCond .eq 7, 3) := by decide +kernel
theorem dX11_readsFormula_119 : decode cX11_readsFormula 119 = .ok (.iconst 1, 1) := by decide +kernel
theorem dX11_readsFormula_120 : decode cX11_readsFormula 120 = .ok (.goto 4, 3) := by decide +kernel
theorem dX11_readsFormula_123 : decode cX11_readsFormula 123 = .ok (.iconst 0, 1) := by decide +kernel
theorem dX11_readsFormula_124 : decode cX11_readsFormula 124 = .ok (.iadd, 1) := by decide +kernel
theorem dX11_readsFormula_125 : decode cX11_readsFormula 125 = .ok (.putfield 116, 3) := by decide +kernel
theorem dX11_readsFormula_128 : decode cX11_readsFormula 128 = .ok (.aload_n 0, 1) := by decide +kernel
theorem dX11_readsFormula_129 : decode cX11_readsFormula 129 = .ok (.getfield 47, 3) := by decide +kernel
theorem dX11_readsFormula_132 : decode cX11_readsFormula 132 = .ok (.aload_n 0, 1) := by decide +kernel
theorem dX11_readsFormula_133 : decode cX11_readsFormula 133 = .ok (.getfield 107, 3) := by decide +kernel
theorem dX11_readsFormula_136 : decode cX11_readsFormula 136 = .ok (.iconst 0, 1) := by decide +kernel
theorem dX11_readsFormula_137 : decode cX11_readsFormula 137 = .ok (.bastore, 1) := by decide +kernel
theorem dX11_readsFormula_138 : decode cX11_readsFormula 138 = .ok (.aload_n 0, 1) := by decide +kernel
theorem dX11_readsFormula_139 : decode cX11_readsFormula 139 = .ok (.invokevirtual 150, 3) := by decide +kernel
theorem dX11_readsFormula_142 : decode cX11_readsFormula 142 = .ok (.aload_n 0, 1) := by decide +kernel
theorem dX11_readsFormula_143 : decode cX11_readsFormula 143 = .ok (.dup, 1) := by decide +kernel
theorem dX11_readsFormula_144 : decode cX11_readsFormula 144 = .ok (.getfield 104, 3) := by decide +kernel
theorem dX11_readsFormula_147 : decode cX11_readsFormula 147 = .ok (.iconst 1, 1) := by decide +kernel
theorem dX11_readsFormula_148 : decode cX11_readsFormula 148 = .ok (.iadd, 1) := by decide +kernel
theorem dX11_readsFormula_149 : decode cX11_readsFormula 149 = .ok (.putfield 104, 3) := by decide +kernel
theorem dX11_readsFormula_152 : decode cX11_readsFormula 152 = .ok (.iconst 1, 1) := by decide +kernel
theorem dX11_readsFormula_153 : decode cX11_readsFormula 153 = .ok (.istore_n 1, 1) := by decide +kernel
theorem dX11_readsFormula_154 : decode cX11_readsFormula 154 = .ok (.goto 139, 3) := by decide +kernel
theorem dX11_readsFormula_157 : decode cX11_readsFormula 157 = .ok (.iload_n 2, 1) := by decide +kernel
theorem dX11_readsFormula_158 : decode cX11_readsFormula 158 = .ok (.bipush 62, 2) := by decide +kernel
theorem dX11_readsFormula_160 : decode cX11_readsFormula 160 = .ok (.if_icmp .ne 84, 3) := by decide +kernel
theorem dX11_readsFormula_163 : decode cX11_readsFormula 163 = .ok (.aload_n 0, 1) := by decide +kernel
theorem dX11_readsFormula_164 : decode cX11_readsFormula 164 = .ok (.getfield 107, 3) := by decide +kernel
theorem dX11_readsFormula_167 : decode cX11_readsFormula 167 = .ok (.bipush 8, 2) := by decide +kernel
theorem dX11_readsFormula_169 : decode cX11_readsFormula 169 = .ok (.if_icmp .ne 5, 3) := by decide +kernel
theorem dX11_readsFormula_172 : decode cX11_readsFormula 172 = .ok (.iconst 0, 1) := by decide +kernel
theorem dX11_readsFormula_173 : decode cX11_readsFormula 173 = .ok (.ireturn, 1) := by decide +kernel
theorem dX11_readsFormula_174 : decode cX11_readsFormula 174 = .ok (.aload_n 0, 1) := by decide +kernel
theorem dX11_readsFormula_175 : decode cX11_readsFormula 175 = .ok (.dup, 1) := by decide +kernel
theorem dX11_readsFormula_176 : decode cX11_readsFormula 176 = .ok (.getfield 116, 3) := by decide +kernel
theorem dX11_readsFormula_179 : decode cX11_readsFormula 179 = .ok (.aload_n 0, 1) := by decide +kernel
theorem dX11_readsFormula_180 : decode cX11_readsFormula 180 = .ok (.getfield 50, 3) := by decide +kernel
theorem dX11_readsFormula_183 : decode cX11_readsFormula 183 = .ok (.aload_n 0, 1) := by decide +kernel
theorem dX11_readsFormula_184 : decode cX11_readsFormula 184 = .ok (.getfield 107, 3) := by decide +kernel
theorem dX11_readsFormula_187 : decode cX11_readsFormula 187 = .ok (.baload, 1) := by decide +kernel
theorem dX11_readsFormula_188 : decode cX11_readsFormula 188 = .ok (.ifCond .eq 7, 3) := by decide +kernel
theorem dX11_readsFormula_191 : decode cX11_readsFormula 191 = .ok (.iconst 1, 1) := by decide +kernel
theorem dX11_readsFormula_192 : decode cX11_readsFormula 192 = .ok (.goto 4, 3) := by decide +kernel
theorem dX11_readsFormula_195 : decode cX11_readsFormula 195 = .ok (.iconst 0, 1) := by decide +kernel
theorem dX11_readsFormula_196 : decode cX11_readsFormula 196 = .ok (.iadd, 1) := by decide +kernel
theorem dX11_readsFormula_197 : decode cX11_readsFormula 197 = .ok (.putfield 116, 3) := by decide +kernel
end
section
theorem dX11_readsFormula_200 : decode cX11_readsFormula 200 = .ok (.aload_n 0, 1) := by decide +kernel
theorem dX11_readsFormula_201 : decode cX11_readsFormula 201 = .ok (.getfield 50, 3) := by decide +kernel
theorem dX11_readsFormula_204 : decode cX11_readsFormula 204 = .ok (.aload_n 0, 1) := by decide +kernel
theorem dX11_readsFormula_205 : decode cX11_readsFormula 205 = .ok (.getfield 107, 3) := by decide +kernel
theorem dX11_readsFormula_208 : decode cX11_readsFormula 208 = .ok (.iconst 0, 1) := by decide +kernel
theorem dX11_readsFormula_209 : decode cX11_readsFormula 209 = .ok (.bastore, 1) := by decide +kernel
theorem dX11_readsFormula_210 : decode cX11_readsFormula 210 = .ok (.aload_n 0, 1) := by decide +kernel
theorem dX11_readsFormula_211 : decode cX11_readsFormula 211 = .ok (.getfield 53, 3) := by decide +kernel
theorem dX11_readsFormula_214 : decode cX11_readsFormula 214 = .ok (.aload_n 0, 1) := by decide +kernel
theorem dX11_readsFormula_215 : decode cX11_readsFormula 215 = .ok (.getfield 107, 3) := by decide +kernel
theorem dX11_readsFormula_218 : decode cX11_readsFormula 218 = .ok (.iconst 1, 1) := by decide +kernel
theorem dX11_readsFormula_219 : decode cX11_readsFormula 219 = .ok (.bastore, 1) := by decide +kernel
theorem dX11_readsFormula_220 : decode cX11_readsFormula 220 = .ok (.aload_n 0, 1) := by decide +kernel
theorem dX11_readsFormula_221 : decode cX11_readsFormula 221 = .ok (.invokevirtual 153, 3) := by decide +kernel
theorem dX11_readsFormula_224 : decode cX11_readsFormula 224 = .ok (.aload_n 0, 1) := by decide +kernel
theorem dX11_readsFormula_225 : decode cX11_readsFormula 225 = .ok (.iconst 3, 1) := by decide +kernel
theorem dX11_readsFormula_226 : decode cX11_readsFormula 226 = .ok (.invokevirtual 156, 3) := by decide +kernel
theorem dX11_readsFormula_229 : decode cX11_readsFormula 229 = .ok (.aload_n 0, 1) := by decide +kernel
theorem dX11_readsFormula_230 : decode cX11_readsFormula 230 = .ok (.dup, 1) := by decide +kernel
theorem dX11_readsFormula_231 : decode cX11_readsFormula 231 = .ok (.getfield 104, 3) := by decide +kernel
theorem dX11_readsFormula_234 : decode cX11_readsFormula 234 = .ok (.iconst 1, 1) := by decide +kernel
theorem dX11_readsFormula_235 : decode cX11_readsFormula 235 = .ok (.iadd, 1) := by decide +kernel
theorem dX11_readsFormula_236 : decode cX11_readsFormula 236 = .ok (.putfield 104, 3) := by decide +kernel
theorem dX11_readsFormula_239 : decode cX11_readsFormula 239 = .ok (.iconst 1, 1) := by decide +kernel
theorem dX11_readsFormula_240 : decode cX11_readsFormula 240 = .ok (.istore_n 1, 1) := by decide +kernel
theorem dX11_readsFormula_241 : decode cX11_readsFormula 241 = .ok (.goto 52, 3) := by decide +kernel
theorem dX11_readsFormula_244 : decode cX11_readsFormula 244 = .ok (.aload_n 0, 1) := by decide +kernel
theorem dX11_readsFormula_245 : decode cX11_readsFormula 245 = .ok (.invokevirtual 166, 3) := by decide +kernel
theorem dX11_readsFormula_248 : decode cX11_readsFormula 248 = .ok (.ifCond .ne 9, 3) := by decide +kernel
theorem dX11_readsFormula_251 : decode cX11_readsFormula 251 = .ok (.aload_n 0, 1) := by decide +kernel
theorem dX11_readsFormula_252 : decode cX11_readsFormula 252 = .ok (.invokevirtual 169, 3) := by decide +kernel
theorem dX11_readsFormula_255 : decode cX11_readsFormula 255 = .ok (.iconst 1, 1) := by decide +kernel
theorem dX11_readsFormula_256 : decode cX11_readsFormula 256 = .ok (.ireturn, 1) := by decide +kernel
theorem dX11_readsFormula_257 : decode cX11_readsFormula 257 = .ok (.iload_n 2, 1) := by decide +kernel
theorem dX11_readsFormula_258 : decode cX11_readsFormula 258 = .ok (.bipush 41, 2) := by decide +kernel
theorem dX11_readsFormula_260 : decode cX11_readsFormula 260 = .ok (.if_icmp .eq 5, 3) := by decide +kernel
theorem dX11_readsFormula_263 : decode cX11_readsFormula 263 = .ok (.iconst 0, 1) := by decide +kernel
theorem dX11_readsFormula_264 : decode cX11_readsFormula 264 = .ok (.ireturn, 1) := by decide +kernel
theorem dX11_readsFormula_265 : decode cX11_readsFormula 265 = .ok (.aload_n 0, 1) := by decide +kernel
theorem dX11_readsFormula_266 : decode cX11_readsFormula 266 = .ok (.invokevirtual 169, 3) := by decide +kernel
theorem dX11_readsFormula_269 : decode cX11_readsFormula 269 = .ok (.aload_n 0, 1) := by decide +kernel
theorem dX11_readsFormula_270 : decode cX11_readsFormula 270 = .ok (.dup, 1) := by decide +kernel
theorem dX11_readsFormula_271 : decode cX11_readsFormula 271 = .ok (.getfield 107, 3) := by decide +kernel
theorem dX11_readsFormula_274 : decode cX11_readsFormula 274 = .ok (.iconst 1, 1) := by decide +kernel
theorem dX11_readsFormula_275 : decode cX11_readsFormula 275 = .ok (.isub, 1) := by decide +kernel
theorem dX11_readsFormula_276 : decode cX11_readsFormula 276 = .ok (.putfield 107, 3) := by decide +kernel
theorem dX11_readsFormula_279 : decode cX11_readsFormula 279 = .ok (.aload_n 0, 1) := by decide +kernel
theorem dX11_readsFormula_280 : decode cX11_readsFormula 280 = .ok (.dup, 1) := by decide +kernel
theorem dX11_readsFormula_281 : decode cX11_readsFormula 281 = .ok (.getfield 104, 3) := by decide +kernel
theorem dX11_readsFormula_284 : decode cX11_readsFormula 284 = .ok (.iconst 1, 1) := by decide +kernel
theorem dX11_readsFormula_285 : decode cX11_readsFormula 285 = .ok (.iadd, 1) := by decide +kernel
theorem dX11_readsFormula_286 : decode cX11_readsFormula 286 = .ok (.putfield 104, 3) := by decide +kernel
theorem dX11_readsFormula_289 : decode cX11_readsFormula 289 = .ok (.aload_n 0, 1) := by decide +kernel
theorem dX11_readsFormula_290 : decode cX11_readsFormula 290 = .ok (.invokevirtual 163, 3) := by decide +kernel
theorem dX11_readsFormula_293 : decode cX11_readsFormula 293 = .ok (.goto (-291), 3) := by decide +kernel
theorem dX11_isSupported_0 : decode cX11_isSupported 0 = .ok (.aload_n 0, 1) := by decide +kernel
theorem dX11_isSupported_1 : decode cX11_isSupported 1 = .ok (.iload_n 1, 1) := by decide +kernel
theorem dX11_isSupported_2 : decode cX11_isSupported 2 = .ok (.invokevirtual 147, 3) := by decide +kernel
theorem dX11_isSupported_5 : decode cX11_isSupported 5 = .ok (.iconst 1, 1) := by decide +kernel
theorem dX11_isSupported_6 : decode cX11_isSupported 6 = .ok (.istore_n 2, 1) := by decide +kernel
theorem dX11_isSupported_7 : decode cX11_isSupported 7 = .ok (.iconst 0, 1) := by decide +kernel
theorem dX11_isSupported_8 : decode cX11_isSupported 8 = .ok (.istore_n 3, 1) := by decide +kernel
theorem dX11_isSupported_9 : decode cX11_isSupported 9 = .ok (.iload_n 3, 1) := by decide +kernel
theorem dX11_isSupported_10 : decode cX11_isSupported 10 = .ok (.sipush 512, 3) := by decide +kernel
theorem dX11_isSupported_13 : decode cX11_isSupported 13 = .ok (.if_icmp .ge 37, 3) := by decide +kernel
theorem dX11_isSupported_16 : decode cX11_isSupported 16 = .ok (.iload_n 2, 1) := by decide +kernel
theorem dX11_isSupported_17 : decode cX11_isSupported 17 = .ok (.ifCond .eq 25, 3) := by decide +kernel
theorem dX11_isSupported_20 : decode cX11_isSupported 20 = .ok (.aload_n 0, 1) := by decide +kernel
theorem dX11_isSupported_21 : decode cX11_isSupported 21 = .ok (.getfield 32, 3) := by decide +kernel
theorem dX11_isSupported_24 : decode cX11_isSupported 24 = .ok (.iload_n 3, 1) := by decide +kernel
theorem dX11_isSupported_25 : decode cX11_isSupported 25 = .ok (.baload, 1) := by decide +kernel
theorem dX11_isSupported_26 : decode cX11_isSupported 26 = .ok (.ifCond .eq 12, 3) := by decide +kernel
theorem dX11_isSupported_29 : decode cX11_isSupported 29 = .ok (.aload_n 0, 1) := by decide +kernel
theorem dX11_isSupported_30 : decode cX11_isSupported 30 = .ok (.getfield 26, 3) := by decide +kernel
theorem dX11_isSupported_33 : decode cX11_isSupported 33 = .ok (.iload_n 3, 1) := by decide +kernel
theorem dX11_isSupported_34 : decode cX11_isSupported 34 = .ok (.baload, 1) := by decide +kernel
theorem dX11_isSupported_35 : decode cX11_isSupported 35 = .ok (.ifCond .eq 7, 3) := by decide +kernel
theorem dX11_isSupported_38 : decode cX11_isSupported 38 = .ok (.iconst 1, 1) := by decide +kernel
theorem dX11_isSupported_39 : decode cX11_isSupported 39 = .ok (.goto 4, 3) := by decide +kernel
theorem dX11_isSupported_42 : decode cX11_isSupported 42 = .ok (.iconst 0, 1) := by decide +kernel
theorem dX11_isSupported_43 : decode cX11_isSupported 43 = .ok (.istore_n 2, 1) := by decide +kernel
theorem dX11_isSupported_44 : decode cX11_isSupported 44 = .ok (.iinc 3 1, 3) := by decide +kernel
theorem dX11_isSupported_47 : decode cX11_isSupported 47 = .ok (.goto (-38), 3) := by decide +kernel
theorem dX11_isSupported_50 : decode cX11_isSupported 50 = .ok (.iload_n 2, 1) := by decide +kernel
theorem dX11_isSupported_51 : decode cX11_isSupported 51 = .ok (.ireturn, 1) := by decide +kernel
theorem dX11_inContext_0 : decode cX11_inContext 0 = .ok (.iconst 0, 1) := by decide +kernel
theorem dX11_inContext_1 : decode cX11_inContext 1 = .ok (.istore_n 1, 1) := by decide +kernel
theorem dX11_inContext_2 : decode cX11_inContext 2 = .ok (.iconst 0, 1) := by decide +kernel
theorem dX11_inContext_3 : decode cX11_inContext 3 = .ok (.istore_n 2, 1) := by decide +kernel
theorem dX11_inContext_4 : decode cX11_inContext 4 = .ok (.iload_n 2, 1) := by decide +kernel
theorem dX11_inContext_5 : decode cX11_inContext 5 = .ok (.sipush 512, 3) := by decide +kernel
theorem dX11_inContext_8 : decode cX11_inContext 8 = .ok (.if_icmp .ge 26, 3) := by decide +kernel
theorem dX11_inContext_11 : decode cX11_inContext 11 = .ok (.iload_n 1, 1) := by decide +kernel
theorem dX11_inContext_12 : decode cX11_inContext 12 = .ok (.aload_n 0, 1) := by decide +kernel
theorem dX11_inContext_13 : decode cX11_inContext 13 = .ok (.getfield 32, 3) := by decide +kernel
theorem dX11_inContext_16 : decode cX11_inContext 16 = .ok (.iload_n 2, 1) := by decide +kernel
theorem dX11_inContext_17 : decode cX11_inContext 17 = .ok (.baload, 1) := by decide +kernel
theorem dX11_inContext_18 : decode cX11_inContext 18 = .ok (.ifCond .eq 7, 3) := by decide +kernel
theorem dX11_inContext_21 : decode cX11_inContext 21 = .ok (.iconst 1, 1) := by decide +kernel
theorem dX11_inContext_22 : decode cX11_inContext 22 = .ok (.goto 4, 3) := by decide +kernel
theorem dX11_inContext_25 : decode cX11_inContext 25 = .ok (.iconst 0, 1) := by decide +kernel
theorem dX11_inContext_26 : decode cX11_inContext 26 = .ok (.iadd, 1) := by decide +kernel
theorem dX11_inContext_27 : decode cX11_inContext 27 = .ok (.istore_n 1, 1) := by decide +kernel
theorem dX11_inContext_28 : decode cX11_inContext 28 = .ok (.iinc 2 1, 3) := by decide +kernel
theorem dX11_inContext_31 : decode cX11_inContext 31 = .ok (.goto (-27), 3) := by decide +kernel
theorem dX11_inContext_34 : decode cX11_inContext 34 = .ok (.iload_n 1, 1) := by decide +kernel
theorem dX11_inContext_35 : decode cX11_inContext 35 = .ok (.ireturn, 1) := by decide +kernel
theorem dX11_takes_0 : decode cX11_takes 0 = .ok (.iload_n 1, 1) := by decide +kernel
theorem dX11_takes_1 : decode cX11_takes 1 = .ok (.iconst 1, 1) := by decide +kernel
theorem dX11_takes_2 : decode cX11_takes 2 = .ok (.if_icmp .ne 15, 3) := by decide +kernel
theorem dX11_takes_5 : decode cX11_takes 5 = .ok (.iload_n 2, 1) := by decide +kernel
theorem dX11_takes_6 : decode cX11_takes 6 = .ok (.ifCond .eq 11, 3) := by decide +kernel
theorem dX11_takes_9 : decode cX11_takes 9 = .ok (.aload_n 0, 1) := by decide +kernel
theorem dX11_takes_10 : decode cX11_takes 10 = .ok (.iconst 0, 1) := by decide +kernel
theorem dX11_takes_11 : decode cX11_takes 11 = .ok (.invokevirtual 172, 3) := by decide +kernel
theorem dX11_takes_14 : decode cX11_takes 14 = .ok (.ifCond .eq 7, 3) := by decide +kernel
theorem dX11_takes_17 : decode cX11_takes 17 = .ok (.iconst 1, 1) := by decide +kernel
theorem dX11_takes_18 : decode cX11_takes 18 = .ok (.goto 4, 3) := by decide +kernel
theorem dX11_takes_21 : decode cX11_takes 21 = .ok (.iconst 0, 1) := by decide +kernel
theorem dX11_takes_22 : decode cX11_takes 22 = .ok (.istore 4, 2) := by decide +kernel
theorem dX11_takes_24 : decode cX11_takes 24 = .ok (.iload_n 1, 1) := by decide +kernel
theorem dX11_takes_25 : decode cX11_takes 25 = .ok (.iconst 1, 1) := by decide +kernel
theorem dX11_takes_26 : decode cX11_takes 26 = .ok (.if_icmp .eq 19, 3) := by decide +kernel
theorem dX11_takes_29 : decode cX11_takes 29 = .ok (.iload_n 1, 1) := by decide +kernel
theorem dX11_takes_30 : decode cX11_takes 30 = .ok (.iconst 2, 1) := by decide +kernel
theorem dX11_takes_31 : decode cX11_takes 31 = .ok (.if_icmp .ne 19, 3) := by decide +kernel
theorem dX11_takes_34 : decode cX11_takes 34 = .ok (.aload_n 0, 1) := by decide +kernel
theorem dX11_takes_35 : decode cX11_takes 35 = .ok (.getfield 175, 3) := by decide +kernel
theorem dX11_takes_38 : decode cX11_takes 38 = .ok (.aload_n 0, 1) := by decide +kernel
theorem dX11_takes_39 : decode cX11_takes 39 = .ok (.getfield 178, 3) := by decide +kernel
theorem dX11_takes_42 : decode cX11_takes 42 = .ok (.if_icmp .ge 8, 3) := by decide +kernel
theorem dX11_takes_45 : decode cX11_takes 45 = .ok (.aload_n 0, 1) := by decide +kernel
theorem dX11_takes_46 : decode cX11_takes 46 = .ok (.iconst 0, 1) := by decide +kernel
theorem dX11_takes_47 : decode cX11_takes 47 = .ok (.invokevirtual 181, 3) := by decide +kernel
theorem dX11_takes_50 : decode cX11_takes 50 = .ok (.iload 4, 2) := by decide +kernel
theorem dX11_takes_52 : decode cX11_takes 52 = .ok (.ifCond .ne 24, 3) := by decide +kernel
theorem dX11_takes_55 : decode cX11_takes 55 = .ok (.aload_n 0, 1) := by decide +kernel
theorem dX11_takes_56 : decode cX11_takes 56 = .ok (.getfield 7, 3) := by decide +kernel
theorem dX11_takes_59 : decode cX11_takes 59 = .ok (.bipush 6, 2) := by decide +kernel
theorem dX11_takes_61 : decode cX11_takes 61 = .ok (.iaload, 1) := by decide +kernel
theorem dX11_takes_62 : decode cX11_takes 62 = .ok (.ifCond .eq 10, 3) := by decide +kernel
theorem dX11_takes_65 : decode cX11_takes 65 = .ok (.aload_n 0, 1) := by decide +kernel
theorem dX11_takes_66 : decode cX11_takes 66 = .ok (.invokevirtual 184, 3) := by decide +kernel
theorem dX11_takes_69 : decode cX11_takes 69 = .ok (.ifCond .ne 7, 3) := by decide +kernel
theorem dX11_takes_72 : decode cX11_takes 72 = .ok (.iconst 1, 1) := by decide +kernel
theorem dX11_takes_73 : decode cX11_takes 73 = .ok (.goto 4, 3) := by decide +kernel
theorem dX11_takes_76 : decode cX11_takes 76 = .ok (.iconst 0, 1) := by decide +kernel
theorem dX11_takes_77 : decode cX11_takes 77 = .ok (.istore 5, 2) := by decide +kernel
theorem dX11_takes_79 : decode cX11_takes 79 = .ok (.aload_n 0, 1) := by decide +kernel
theorem dX11_takes_80 : decode cX11_takes 80 = .ok (.iload 5, 2) := by decide +kernel
theorem dX11_takes_82 : decode cX11_takes 82 = .ok (.ifCond .eq 7, 3) := by decide +kernel
theorem dX11_takes_85 : decode cX11_takes 85 = .ok (.iload_n 3, 1) := by decide +kernel
theorem dX11_takes_86 : decode cX11_takes 86 = .ok (.goto 5, 3) := by decide +kernel
theorem dX11_takes_89 : decode cX11_takes 89 = .ok (.bipush (-7), 2) := by decide +kernel
theorem dX11_takes_91 : decode cX11_takes 91 = .ok (.putfield 187, 3) := by decide +kernel
theorem dX11_takes_94 : decode cX11_takes 94 = .ok (.aload_n 0, 1) := by decide +kernel
theorem dX11_takes_95 : decode cX11_takes 95 = .ok (.dup, 1) := by decide +kernel
theorem dX11_takes_96 : decode cX11_takes 96 = .ok (.getfield 190, 3) := by decide +kernel
theorem dX11_takes_99 : decode cX11_takes 99 = .ok (.iload 4, 2) := by decide +kernel
theorem dX11_takes_101 : decode cX11_takes 101 = .ok (.ifCond .eq 7, 3) := by decide +kernel
theorem dX11_takes_104 : decode cX11_takes 104 = .ok (.iconst 0, 1) := by decide +kernel
theorem dX11_takes_105 : decode cX11_takes 105 = .ok (.goto 9, 3) := by decide +kernel
theorem dX11_takes_108 : decode cX11_takes 108 = .ok (.iconst 1, 1) := by decide +kernel
theorem dX11_takes_109 : decode cX11_takes 109 = .ok (.aload_n 0, 1) := by decide +kernel
theorem dX11_takes_110 : decode cX11_takes 110 = .ok (.getfield 175, 3) := by decide +kernel
theorem dX11_takes_113 : decode cX11_takes 113 = .ok (.ishl, 1) := by decide +kernel
theorem dX11_takes_114 : decode cX11_takes 114 = .ok (.ior, 1) := by decide +kernel
theorem dX11_takes_115 : decode cX11_takes 115 = .ok (.putfield 190, 3) := by decide +kernel
theorem dX11_takes_118 : decode cX11_takes 118 = .ok (.aload_n 0, 1) := by decide +kernel
theorem dX11_takes_119 : decode cX11_takes 119 = .ok (.iload_n 1, 1) := by decide +kernel
theorem dX11_takes_120 : decode cX11_takes 120 = .ok (.iconst 3, 1) := by decide +kernel
theorem dX11_takes_121 : decode cX11_takes 121 = .ok (.if_icmp .ne 10, 3) := by decide +kernel
theorem dX11_takes_124 : decode cX11_takes 124 = .ok (.aload_n 0, 1) := by decide +kernel
theorem dX11_takes_125 : decode cX11_takes 125 = .ok (.getfield 90, 3) := by decide +kernel
theorem dX11_takes_128 : decode cX11_takes 128 = .ok (.goto 4, 3) := by decide +kernel
theorem dX11_takes_131 : decode cX11_takes 131 = .ok (.iconst 0, 1) := by decide +kernel
theorem dX11_takes_132 : decode cX11_takes 132 = .ok (.putfield 90, 3) := by decide +kernel
theorem dX11_takes_135 : decode cX11_takes 135 = .ok (.iload 5, 2) := by decide +kernel
theorem dX11_takes_137 : decode cX11_takes 137 = .ok (.ifCond .ne 7, 3) := by decide +kernel
theorem dX11_takes_140 : decode cX11_takes 140 = .ok (.iconst 1, 1) := by decide +kernel
theorem dX11_takes_141 : decode cX11_takes 141 = .ok (.goto 4, 3) := by decide +kernel
theorem dX11_takes_144 : decode cX11_takes 144 = .ok (.iconst 0, 1) := by decide +kernel
theorem dX11_takes_145 : decode cX11_takes 145 = .ok (.ireturn, 1) := by decide +kernel
theorem dX11_reads_0 : decode cX11_reads 0 = .ok (.aload_n 0, 1) := by decide +kernel
theorem dX11_reads_1 : decode cX11_reads 1 = .ok (.iload_n 1, 1) := by decide +kernel
theorem dX11_reads_2 : decode cX11_reads 2 = .ok (.ifCond .eq 7, 3) := by decide +kernel
theorem dX11_reads_5 : decode cX11_reads 5 = .ok (.iconst 1, 1) := by decide +kernel
theorem dX11_reads_6 : decode cX11_reads 6 = .ok (.goto 4, 3) := by decide +kernel
theorem dX11_reads_9 : decode cX11_reads 9 = .ok (.iconst 0, 1) := by decide +kernel
theorem dX11_reads_10 : decode cX11_reads 10 = .ok (.putfield 93, 3) := by decide +kernel
theorem dX11_reads_13 : decode cX11_reads 13 = .ok (.aload_n 0, 1) := by decide +kernel
theorem dX11_reads_14 : decode cX11_reads 14 = .ok (.iconst 0, 1) := by decide +kernel
theorem dX11_reads_15 : decode cX11_reads 15 = .ok (.putfield 104, 3) := by decide +kernel
theorem dX11_reads_18 : decode cX11_reads 18 = .ok (.aload_n 0, 1) := by decide +kernel
theorem dX11_reads_19 : decode cX11_reads 19 = .ok (.iconst 0, 1) := by decide +kernel
theorem dX11_reads_20 : decode cX11_reads 20 = .ok (.putfield 90, 3) := by decide +kernel
theorem dX11_reads_23 : decode cX11_reads 23 = .ok (.aload_n 0, 1) := by decide +kernel
theorem dX11_reads_24 : decode cX11_reads 24 = .ok (.iload_n 2, 1) := by decide +kernel
theorem dX11_reads_25 : decode cX11_reads 25 = .ok (.putfield 110, 3) := by decide +kernel
theorem dX11_reads_28 : decode cX11_reads 28 = .ok (.aload_n 0, 1) := by decide +kernel
theorem dX11_reads_29 : decode cX11_reads 29 = .ok (.bipush (-7), 2) := by decide +kernel
theorem dX11_reads_31 : decode cX11_reads 31 = .ok (.putfield 113, 3) := by decide +kernel
theorem dX11_reads_34 : decode cX11_reads 34 = .ok (.aload_n 0, 1) := by decide +kernel
theorem dX11_reads_35 : decode cX11_reads 35 = .ok (.iconst 0, 1) := by decide +kernel
theorem dX11_reads_36 : decode cX11_reads 36 = .ok (.putfield 116, 3) := by decide +kernel
theorem dX11_reads_39 : decode cX11_reads 39 = .ok (.aload_n 0, 1) := by decide +kernel
theorem dX11_reads_40 : decode cX11_reads 40 = .ok (.iconst 0, 1) := by decide +kernel
theorem dX11_reads_41 : decode cX11_reads 41 = .ok (.putfield 175, 3) := by decide +kernel
theorem dX11_reads_44 : decode cX11_reads 44 = .ok (.aload_n 0, 1) := by decide +kernel
theorem dX11_reads_45 : decode cX11_reads 45 = .ok (.iconst 0, 1) := by decide +kernel
theorem dX11_reads_46 : decode cX11_reads 46 = .ok (.putfield 190, 3) := by decide +kernel
theorem dX11_reads_49 : decode cX11_reads 49 = .ok (.aload_n 0, 1) := by decide +kernel
theorem dX11_reads_50 : decode cX11_reads 50 = .ok (.bipush (-7), 2) := by decide +kernel
theorem dX11_reads_52 : decode cX11_reads 52 = .ok (.putfield 187, 3) := by decide +kernel
theorem dX11_reads_55 : decode cX11_reads 55 = .ok (.iconst 1, 1) := by decide +kernel
theorem dX11_reads_56 : decode cX11_reads 56 = .ok (.istore_n 3, 1) := by decide +kernel
theorem dX11_reads_57 : decode cX11_reads 57 = .ok (.iload_n 3, 1) := by decide +kernel
theorem dX11_reads_58 : decode cX11_reads 58 = .ok (.ifCond .eq 182, 3) := by decide +kernel
theorem dX11_reads_61 : decode cX11_reads 61 = .ok (.aload_n 0, 1) := by decide +kernel
theorem dX11_reads_62 : decode cX11_reads 62 = .ok (.getfield 104, 3) := by decide +kernel
theorem dX11_reads_65 : decode cX11_reads 65 = .ok (.istore 4, 2) := by decide +kernel
theorem dX11_reads_67 : decode cX11_reads 67 = .ok (.aload_n 0, 1) := by decide +kernel
theorem dX11_reads_68 : decode cX11_reads 68 = .ok (.invokevirtual 119, 3) := by decide +kernel
theorem dX11_reads_71 : decode cX11_reads 71 = .ok (.bipush 91, 2) := by decide +kernel
theorem dX11_reads_73 : decode cX11_reads 73 = .ok (.if_icmp .ne 7, 3) := by decide +kernel
theorem dX11_reads_76 : decode cX11_reads 76 = .ok (.iconst 1, 1) := by decide +kernel
theorem dX11_reads_77 : decode cX11_reads 77 = .ok (.goto 4, 3) := by decide +kernel
theorem dX11_reads_80 : decode cX11_reads 80 = .ok (.iconst 0, 1) := by decide +kernel
theorem dX11_reads_81 : decode cX11_reads 81 = .ok (.istore 5, 2) := by decide +kernel
theorem dX11_reads_83 : decode cX11_reads 83 = .ok (.aload_n 0, 1) := by decide +kernel
theorem dX11_reads_84 : decode cX11_reads 84 = .ok (.dup, 1) := by decide +kernel
theorem dX11_reads_85 : decode cX11_reads 85 = .ok (.getfield 104, 3) := by decide +kernel
theorem dX11_reads_88 : decode cX11_reads 88 = .ok (.iload 5, 2) := by decide +kernel
theorem dX11_reads_90 : decode cX11_reads 90 = .ok (.ifCond .eq 7, 3) := by decide +kernel
theorem dX11_reads_93 : decode cX11_reads 93 = .ok (.iconst 1, 1) := by decide +kernel
theorem dX11_reads_94 : decode cX11_reads 94 = .ok (.goto 4, 3) := by decide +kernel
theorem dX11_reads_97 : decode cX11_reads 97 = .ok (.iconst 0, 1) := by decide +kernel
theorem dX11_reads_98 : decode cX11_reads 98 = .ok (.iadd, 1) := by decide +kernel
theorem dX11_reads_99 : decode cX11_reads 99 = .ok (.putfield 104, 3) := by decide +kernel
theorem dX11_reads_102 : decode cX11_reads 102 = .ok (.aload_n 0, 1) := by decide +kernel
theorem dX11_reads_103 : decode cX11_reads 103 = .ok (.iconst (-1), 1) := by decide +kernel
theorem dX11_reads_104 : decode cX11_reads 104 = .ok (.putfield 107, 3) := by decide +kernel
theorem dX11_reads_107 : decode cX11_reads 107 = .ok (.aload_n 0, 1) := by decide +kernel
theorem dX11_reads_108 : decode cX11_reads 108 = .ok (.iconst 0, 1) := by decide +kernel
theorem dX11_reads_109 : decode cX11_reads 109 = .ok (.invokevirtual 156, 3) := by decide +kernel
theorem dX11_reads_112 : decode cX11_reads 112 = .ok (.aload_n 0, 1) := by decide +kernel
theorem dX11_reads_113 : decode cX11_reads 113 = .ok (.invokevirtual 193, 3) := by decide +kernel
theorem dX11_reads_116 : decode cX11_reads 116 = .ok (.ifCond .eq 17, 3) := by decide +kernel
theorem dX11_reads_119 : decode cX11_reads 119 = .ok (.iload 5, 2) := by decide +kernel
theorem dX11_reads_121 : decode cX11_reads 121 = .ok (.ifCond .eq 14, 3) := by decide +kernel
theorem dX11_reads_124 : decode cX11_reads 124 = .ok (.aload_n 0, 1) := by decide +kernel
theorem dX11_reads_125 : decode cX11_reads 125 = .ok (.invokevirtual 119, 3) := by decide +kernel
theorem dX11_reads_128 : decode cX11_reads 128 = .ok (.bipush 93, 2) := by decide +kernel
theorem dX11_reads_130 : decode cX11_reads 130 = .ok (.if_icmp .eq 5, 3) := by decide +kernel
theorem dX11_reads_133 : decode cX11_reads 133 = .ok (.iconst 0, 1) := by decide +kernel
theorem dX11_reads_134 : decode cX11_reads 134 = .ok (.ireturn, 1) := by decide +kernel
theorem dX11_reads_135 : decode cX11_reads 135 = .ok (.aload_n 0, 1) := by decide +kernel
theorem dX11_reads_136 : decode cX11_reads 136 = .ok (.dup, 1) := by decide +kernel
theorem dX11_reads_137 : decode cX11_reads 137 = .ok (.getfield 104, 3) := by decide +kernel
theorem dX11_reads_140 : decode cX11_reads 140 = .ok (.iload 5, 2) := by decide +kernel
theorem dX11_reads_142 : decode cX11_reads 142 = .ok (.ifCond .eq 7, 3) := by decide +kernel
theorem dX11_reads_145 : decode cX11_reads 145 = .ok (.iconst 1, 1) := by decide +kernel
theorem dX11_reads_146 : decode cX11_reads 146 = .ok (.goto 4, 3) := by decide +kernel
theorem dX11_reads_149 : decode cX11_reads 149 = .ok (.iconst 0, 1) := by decide +kernel
theorem dX11_reads_150 : decode cX11_reads 150 = .ok (.iadd, 1) := by decide +kernel
theorem dX11_reads_151 : decode cX11_reads 151 = .ok (.putfield 104, 3) := by decide +kernel
theorem dX11_reads_154 : decode cX11_reads 154 = .ok (.aload_n 0, 1) := by decide +kernel
theorem dX11_reads_155 : decode cX11_reads 155 = .ok (.getfield 93, 3) := by decide +kernel
theorem dX11_reads_158 : decode cX11_reads 158 = .ok (.ifCond .eq 17, 3) := by decide +kernel
theorem dX11_reads_161 : decode cX11_reads 161 = .ok (.aload_n 0, 1) := by decide +kernel
theorem dX11_reads_162 : decode cX11_reads 162 = .ok (.iload_n 1, 1) := by decide +kernel
theorem dX11_reads_163 : decode cX11_reads 163 = .ok (.iload 5, 2) := by decide +kernel
theorem dX11_reads_165 : decode cX11_reads 165 = .ok (.iload 4, 2) := by decide +kernel
theorem dX11_reads_167 : decode cX11_reads 167 = .ok (.invokevirtual 196, 3) := by decide +kernel
theorem dX11_reads_170 : decode cX11_reads 170 = .ok (.ifCond .ne 5, 3) := by decide +kernel
theorem dX11_reads_173 : decode cX11_reads 173 = .ok (.iconst 1, 1) := by decide +kernel
theorem dX11_reads_174 : decode cX11_reads 174 = .ok (.ireturn, 1) := by decide +kernel
theorem dX11_reads_175 : decode cX11_reads 175 = .ok (.aload_n 0, 1) := by decide +kernel
theorem dX11_reads_176 : decode cX11_reads 176 = .ok (.aload_n 0, 1) := by decide +kernel
theorem dX11_reads_177 : decode cX11_reads 177 = .ok (.getfield 93, 3) := by decide +kernel
theorem dX11_reads_180 : decode cX11_reads 180 = .ok (.ifCond .eq 10, 3) := by decide +kernel
theorem dX11_reads_183 : decode cX11_reads 183 = .ok (.aload_n 0, 1) := by decide +kernel
theorem dX11_reads_184 : decode cX11_reads 184 = .ok (.getfield 90, 3) := by decide +kernel
theorem dX11_reads_187 : decode cX11_reads 187 = .ok (.goto 4, 3) := by decide +kernel
theorem dX11_reads_190 : decode cX11_reads 190 = .ok (.iconst 0, 1) := by decide +kernel
theorem dX11_reads_191 : decode cX11_reads 191 = .ok (.putfield 90, 3) := by decide +kernel
theorem dX11_reads_194 : decode cX11_reads 194 = .ok (.aload_n 0, 1) := by decide +kernel
theorem dX11_reads_195 : decode cX11_reads 195 = .ok (.dup, 1) := by decide +kernel
theorem dX11_reads_196 : decode cX11_reads 196 = .ok (.getfield 175, 3) := by decide +kernel
theorem dX11_reads_199 : decode cX11_reads 199 = .ok (.iconst 1, 1) := by decide +kernel
theorem dX11_reads_200 : decode cX11_reads 200 = .ok (.iadd, 1) := by decide +kernel
theorem dX11_reads_201 : decode cX11_reads 201 = .ok (.putfield 175, 3) := by decide +kernel
theorem dX11_reads_204 : decode cX11_reads 204 = .ok (.aload_n 0, 1) := by decide +kernel
theorem dX11_reads_205 : decode cX11_reads 205 = .ok (.invokevirtual 119, 3) := by decide +kernel
theorem dX11_reads_208 : decode cX11_reads 208 = .ok (.bipush 59, 2) := by decide +kernel
theorem dX11_reads_210 : decode cX11_reads 210 = .ok (.if_icmp .ne 7, 3) := by decide +kernel
theorem dX11_reads_213 : decode cX11_reads 213 = .ok (.iconst 1, 1) := by decide +kernel
theorem dX11_reads_214 : decode cX11_reads 214 = .ok (.goto 4, 3) := by decide +kernel
theorem dX11_reads_217 : decode cX11_reads 217 = .ok (.iconst 0, 1) := by decide +kernel
theorem dX11_reads_218 : decode cX11_reads 218 = .ok (.istore_n 3, 1) := by decide +kernel
theorem dX11_reads_219 : decode cX11_reads 219 = .ok (.aload_n 0, 1) := by decide +kernel
theorem dX11_reads_220 : decode cX11_reads 220 = .ok (.dup, 1) := by decide +kernel
theorem dX11_reads_221 : decode cX11_reads 221 = .ok (.getfield 104, 3) := by decide +kernel
theorem dX11_reads_224 : decode cX11_reads 224 = .ok (.iload_n 3, 1) := by decide +kernel
theorem dX11_reads_225 : decode cX11_reads 225 = .ok (.ifCond .eq 7, 3) := by decide +kernel
theorem dX11_reads_228 : decode cX11_reads 228 = .ok (.iconst 1, 1) := by decide +kernel
theorem dX11_reads_229 : decode cX11_reads 229 = .ok (.goto 4, 3) := by decide +kernel
theorem dX11_reads_232 : decode cX11_reads 232 = .ok (.iconst 0, 1) := by decide +kernel
theorem dX11_reads_233 : decode cX11_reads 233 = .ok (.iadd, 1) := by decide +kernel
theorem dX11_reads_234 : decode cX11_reads 234 = .ok (.putfield 104, 3) := by decide +kernel
theorem dX11_reads_237 : decode cX11_reads 237 = .ok (.goto (-180), 3) := by decide +kernel
theorem dX11_reads_240 : decode cX11_reads 240 = .ok (.aload_n 0, 1) := by decide +kernel
theorem dX11_reads_241 : decode cX11_reads 241 = .ok (.getfield 104, 3) := by decide +kernel
theorem dX11_reads_244 : decode cX11_reads 244 = .ok (.aload_n 0, 1) := by decide +kernel
theorem dX11_reads_245 : decode cX11_reads 245 = .ok (.getfield 87, 3) := by decide +kernel
theorem dX11_reads_248 : decode cX11_reads 248 = .ok (.if_icmp .ne 7, 3) := by decide +kernel
theorem dX11_reads_251 : decode cX11_reads 251 = .ok (.iconst 1, 1) := by decide +kernel
theorem dX11_reads_252 : decode cX11_reads 252 = .ok (.goto 4, 3) := by decide +kernel
theorem dX11_reads_255 : decode cX11_reads 255 = .ok (.iconst 0, 1) := by decide +kernel
theorem dX11_reads_256 : decode cX11_reads 256 = .ok (.ireturn, 1) := by decide +kernel
theorem dX11_takesContext_0 : decode cX11_takesContext 0 = .ok (.iconst 0, 1) := by decide +kernel
theorem dX11_takesContext_1 : decode cX11_takesContext 1 = .ok (.istore_n 2, 1) := by decide +kernel
theorem dX11_takesContext_2 : decode cX11_takesContext 2 = .ok (.iload_n 2, 1) := by decide +kernel
theorem dX11_takesContext_3 : decode cX11_takesContext 3 = .ok (.sipush 512, 3) := by decide +kernel
theorem dX11_takesContext_6 : decode cX11_takesContext 6 = .ok (.if_icmp .ge 36, 3) := by decide +kernel
theorem dX11_takesContext_9 : decode cX11_takesContext 9 = .ok (.aload_n 0, 1) := by decide +kernel
theorem dX11_takesContext_10 : decode cX11_takesContext 10 = .ok (.getfield 32, 3) := by decide +kernel
theorem dX11_takesContext_13 : decode cX11_takesContext 13 = .ok (.iload_n 2, 1) := by decide +kernel
theorem dX11_takesContext_14 : decode cX11_takesContext 14 = .ok (.iload_n 1, 1) := by decide +kernel
theorem dX11_takesContext_15 : decode cX11_takesContext 15 = .ok (.ifCond .eq 15, 3) := by decide +kernel
theorem dX11_takesContext_18 : decode cX11_takesContext 18 = .ok (.iload_n 2, 1) := by decide +kernel
theorem dX11_takesContext_19 : decode cX11_takesContext 19 = .ok (.ifCond .ne 7, 3) := by decide +kernel
theorem dX11_takesContext_22 : decode cX11_takesContext 22 = .ok (.iconst 1, 1) := by decide +kernel
theorem dX11_takesContext_23 : decode cX11_takesContext 23 = .ok (.goto 12, 3) := by decide +kernel
theorem dX11_takesContext_26 : decode cX11_takesContext 26 = .ok (.iconst 0, 1) := by decide +kernel
theorem dX11_takesContext_27 : decode cX11_takesContext 27 = .ok (.goto 8, 3) := by decide +kernel
theorem dX11_takesContext_30 : decode cX11_takesContext 30 = .ok (.aload_n 0, 1) := by decide +kernel
theorem dX11_takesContext_31 : decode cX11_takesContext 31 = .ok (.iload_n 2, 1) := by decide +kernel
theorem dX11_takesContext_32 : decode cX11_takesContext 32 = .ok (.invokevirtual 71, 3) := by decide +kernel
theorem dX11_takesContext_35 : decode cX11_takesContext 35 = .ok (.bastore, 1) := by decide +kernel
theorem dX11_takesContext_36 : decode cX11_takesContext 36 = .ok (.iinc 2 1, 3) := by decide +kernel
theorem dX11_takesContext_39 : decode cX11_takesContext 39 = .ok (.goto (-37), 3) := by decide +kernel
theorem dX11_takesContext_42 : decode cX11_takesContext 42 = .ok (.return_, 1) := by decide +kernel
theorem dX11_error_0 : decode cX11_error 0 = .ok (.aload_n 0, 1) := by decide +kernel
theorem dX11_error_1 : decode cX11_error 1 = .ok (.iconst 0, 1) := by decide +kernel
theorem dX11_error_2 : decode cX11_error 2 = .ok (.iload_n 1, 1) := by decide +kernel
theorem dX11_error_3 : decode cX11_error 3 = .ok (.invokevirtual 200, 3) := by decide +kernel
theorem dX11_error_6 : decode cX11_error 6 = .ok (.ifCond .ne 8, 3) := by decide +kernel
theorem dX11_error_9 : decode cX11_error 9 = .ok (.bipush (-2), 2) := by decide +kernel
theorem dX11_error_11 : decode cX11_error 11 = .ok (.goto 18, 3) := by decide +kernel
theorem dX11_error_14 : decode cX11_error 14 = .ok (.aload_n 0, 1) := by decide +kernel
theorem dX11_error_15 : decode cX11_error 15 = .ok (.getfield 113, 3) := by decide +kernel
theorem dX11_error_18 : decode cX11_error 18 = .ok (.bipush (-7), 2) := by decide +kernel
theorem dX11_error_20 : decode cX11_error 20 = .ok (.if_icmp .eq 8, 3) := by decide +kernel
theorem dX11_error_23 : decode cX11_error 23 = .ok (.bipush (-3), 2) := by decide +kernel
theorem dX11_error_25 : decode cX11_error 25 = .ok (.goto 4, 3) := by decide +kernel
theorem dX11_error_28 : decode cX11_error 28 = .ok (.iconst 0, 1) := by decide +kernel
theorem dX11_error_29 : decode cX11_error 29 = .ok (.ireturn, 1) := by decide +kernel
theorem dX11_syntaxFault_0 : decode cX11_syntaxFault 0 = .ok (.aload_n 0, 1) := by decide +kernel
theorem dX11_syntaxFault_1 : decode cX11_syntaxFault 1 = .ok (.iconst 0, 1) := by decide +kernel
theorem dX11_syntaxFault_2 : decode cX11_syntaxFault 2 = .ok (.iconst 0, 1) := by decide +kernel
theorem dX11_syntaxFault_3 : decode cX11_syntaxFault 3 = .ok (.invokevirtual 200, 3) := by decide +kernel
theorem dX11_syntaxFault_6 : decode cX11_syntaxFault 6 = .ok (.ifCond .eq 8, 3) := by decide +kernel
theorem dX11_syntaxFault_9 : decode cX11_syntaxFault 9 = .ok (.bipush (-7), 2) := by decide +kernel
theorem dX11_syntaxFault_11 : decode cX11_syntaxFault 11 = .ok (.goto 7, 3) := by decide +kernel
theorem dX11_syntaxFault_14 : decode cX11_syntaxFault 14 = .ok (.aload_n 0, 1) := by decide +kernel
theorem dX11_syntaxFault_15 : decode cX11_syntaxFault 15 = .ok (.getfield 104, 3) := by decide +kernel
theorem dX11_syntaxFault_18 : decode cX11_syntaxFault 18 = .ok (.ireturn, 1) := by decide +kernel
theorem dX11_unknownVariable_0 : decode cX11_unknownVariable 0 = .ok (.aload_n 0, 1) := by decide +kernel
theorem dX11_unknownVariable_1 : decode cX11_unknownVariable 1 = .ok (.iconst 0, 1) := by decide +kernel
theorem dX11_unknownVariable_2 : decode cX11_unknownVariable 2 = .ok (.aload_n 0, 1) := by decide +kernel
theorem dX11_unknownVariable_3 : decode cX11_unknownVariable 3 = .ok (.getfield 7, 3) := by decide +kernel
theorem dX11_unknownVariable_6 : decode cX11_unknownVariable 6 = .ok (.bipush 7, 2) := by decide +kernel
theorem dX11_unknownVariable_8 : decode cX11_unknownVariable 8 = .ok (.iaload, 1) := by decide +kernel
theorem dX11_unknownVariable_9 : decode cX11_unknownVariable 9 = .ok (.invokevirtual 200, 3) := by decide +kernel
theorem dX11_unknownVariable_12 : decode cX11_unknownVariable 12 = .ok (.ifCond .eq 10, 3) := by decide +kernel
theorem dX11_unknownVariable_15 : decode cX11_unknownVariable 15 = .ok (.aload_n 0, 1) := by decide +kernel
theorem dX11_unknownVariable_16 : decode cX11_unknownVariable 16 = .ok (.getfield 113, 3) := by decide +kernel
theorem dX11_unknownVariable_19 : decode cX11_unknownVariable 19 = .ok (.goto 5, 3) := by decide +kernel
theorem dX11_unknownVariable_22 : decode cX11_unknownVariable 22 = .ok (.bipush (-2), 2) := by decide +kernel
theorem dX11_unknownVariable_24 : decode cX11_unknownVariable 24 = .ok (.ireturn, 1) := by decide +kernel
theorem dX11_unknownDepth_0 : decode cX11_unknownDepth 0 = .ok (.aload_n 0, 1) := by decide +kernel
theorem dX11_unknownDepth_1 : decode cX11_unknownDepth 1 = .ok (.iconst 0, 1) := by decide +kernel
theorem dX11_unknownDepth_2 : decode cX11_unknownDepth 2 = .ok (.aload_n 0, 1) := by decide +kernel
theorem dX11_unknownDepth_3 : decode cX11_unknownDepth 3 = .ok (.getfield 7, 3) := by decide +kernel
theorem dX11_unknownDepth_6 : decode cX11_unknownDepth 6 = .ok (.bipush 7, 2) := by decide +kernel
theorem dX11_unknownDepth_8 : decode cX11_unknownDepth 8 = .ok (.iaload, 1) := by decide +kernel
theorem dX11_unknownDepth_9 : decode cX11_unknownDepth 9 = .ok (.invokevirtual 200, 3) := by decide +kernel
theorem dX11_unknownDepth_12 : decode cX11_unknownDepth 12 = .ok (.ifCond .ne 8, 3) := by decide +kernel
theorem dX11_unknownDepth_15 : decode cX11_unknownDepth 15 = .ok (.bipush (-2), 2) := by decide +kernel
theorem dX11_unknownDepth_17 : decode cX11_unknownDepth 17 = .ok (.goto 21, 3) := by decide +kernel
theorem dX11_unknownDepth_20 : decode cX11_unknownDepth 20 = .ok (.aload_n 0, 1) := by decide +kernel
theorem dX11_unknownDepth_21 : decode cX11_unknownDepth 21 = .ok (.getfield 113, 3) := by decide +kernel
theorem dX11_unknownDepth_24 : decode cX11_unknownDepth 24 = .ok (.bipush (-7), 2) := by decide +kernel
theorem dX11_unknownDepth_26 : decode cX11_unknownDepth 26 = .ok (.if_icmp .ne 8, 3) := by decide +kernel
theorem dX11_unknownDepth_29 : decode cX11_unknownDepth 29 = .ok (.bipush (-7), 2) := by decide +kernel
theorem dX11_unknownDepth_31 : decode cX11_unknownDepth 31 = .ok (.goto 7, 3) := by decide +kernel
theorem dX11_unknownDepth_34 : decode cX11_unknownDepth 34 = .ok (.aload_n 0, 1) := by decide +kernel
theorem dX11_unknownDepth_35 : decode cX11_unknownDepth 35 = .ok (.getfield 116, 3) := by decide +kernel
theorem dX11_unknownDepth_38 : decode cX11_unknownDepth 38 = .ok (.ireturn, 1) := by decide +kernel
theorem dX11_partCount_0 : decode cX11_partCount 0 = .ok (.aload_n 0, 1) := by decide +kernel
theorem dX11_partCount_1 : decode cX11_partCount 1 = .ok (.iconst 0, 1) := by decide +kernel
theorem dX11_partCount_2 : decode cX11_partCount 2 = .ok (.iconst 0, 1) := by decide +kernel
theorem dX11_partCount_3 : decode cX11_partCount 3 = .ok (.invokevirtual 200, 3) := by decide +kernel
theorem dX11_partCount_6 : decode cX11_partCount 6 = .ok (.ifCond .eq 10, 3) := by decide +kernel
theorem dX11_partCount_9 : decode cX11_partCount 9 = .ok (.aload_n 0, 1) := by decide +kernel
theorem dX11_partCount_10 : decode cX11_partCount 10 = .ok (.getfield 175, 3) := by decide +kernel
theorem dX11_partCount_13 : decode cX11_partCount 13 = .ok (.goto 5, 3) := by decide +kernel
theorem dX11_partCount_16 : decode cX11_partCount 16 = .ok (.bipush (-2), 2) := by decide +kernel
theorem dX11_partCount_18 : decode cX11_partCount 18 = .ok (.ireturn, 1) := by decide +kernel
theorem dX11_contextSize_0 : decode cX11_contextSize 0 = .ok (.aload_n 0, 1) := by decide +kernel
theorem dX11_contextSize_1 : decode cX11_contextSize 1 = .ok (.invokevirtual 204, 3) := by decide +kernel
theorem dX11_contextSize_4 : decode cX11_contextSize 4 = .ok (.ireturn, 1) := by decide +kernel
theorem dX11_known_0 : decode cX11_known 0 = .ok (.aload_n 0, 1) := by decide +kernel
theorem dX11_known_1 : decode cX11_known 1 = .ok (.getfield 7, 3) := by decide +kernel
theorem dX11_known_4 : decode cX11_known 4 = .ok (.bipush 7, 2) := by decide +kernel
theorem dX11_known_6 : decode cX11_known 6 = .ok (.iaload, 1) := by decide +kernel
theorem dX11_known_7 : decode cX11_known 7 = .ok (.ireturn, 1) := by decide +kernel
theorem dX11_isKnown_0 : decode cX11_isKnown 0 = .ok (.aload_n 0, 1) := by decide +kernel
theorem dX11_isKnown_1 : decode cX11_isKnown 1 = .ok (.getfield 7, 3) := by decide +kernel
theorem dX11_isKnown_4 : decode cX11_isKnown 4 = .ok (.bipush 7, 2) := by decide +kernel
theorem dX11_isKnown_6 : decode cX11_isKnown 6 = .ok (.iaload, 1) := by decide +kernel
theorem dX11_isKnown_7 : decode cX11_isKnown 7 = .ok (.iload_n 1, 1) := by decide +kernel
theorem dX11_isKnown_8 : decode cX11_isKnown 8 = .ok (.ishr, 1) := by decide +kernel
theorem dX11_isKnown_9 : decode cX11_isKnown 9 = .ok (.iconst 1, 1) := by decide +kernel
theorem dX11_isKnown_10 : decode cX11_isKnown 10 = .ok (.iand, 1) := by decide +kernel
theorem dX11_isKnown_11 : decode cX11_isKnown 11 = .ok (.iconst 1, 1) := by decide +kernel
theorem dX11_isKnown_12 : decode cX11_isKnown 12 = .ok (.if_icmp .ne 7, 3) := by decide +kernel
theorem dX11_isKnown_15 : decode cX11_isKnown 15 = .ok (.iconst 1, 1) := by decide +kernel
theorem dX11_isKnown_16 : decode cX11_isKnown 16 = .ok (.goto 4, 3) := by decide +kernel
theorem dX11_isKnown_19 : decode cX11_isKnown 19 = .ok (.iconst 0, 1) := by decide +kernel
theorem dX11_isKnown_20 : decode cX11_isKnown 20 = .ok (.ireturn, 1) := by decide +kernel
theorem dX11_objects_0 : decode cX11_objects 0 = .ok (.iload_n 1, 1) := by decide +kernel
theorem dX11_objects_1 : decode cX11_objects 1 = .ok (.iconst 0, 1) := by decide +kernel
theorem dX11_objects_2 : decode cX11_objects 2 = .ok (.iconst 2, 1) := by decide +kernel
theorem dX11_objects_3 : decode cX11_objects 3 = .ok (.invokestatic 67, 3) := by decide +kernel
theorem dX11_objects_6 : decode cX11_objects 6 = .ok (.ifCond .ne 5, 3) := by decide +kernel
theorem dX11_objects_9 : decode cX11_objects 9 = .ok (.iconst (-1), 1) := by decide +kernel
theorem dX11_objects_10 : decode cX11_objects 10 = .ok (.ireturn, 1) := by decide +kernel
theorem dX11_objects_11 : decode cX11_objects 11 = .ok (.iconst 0, 1) := by decide +kernel
theorem dX11_objects_12 : decode cX11_objects 12 = .ok (.istore_n 2, 1) := by decide +kernel
theorem dX11_objects_13 : decode cX11_objects 13 = .ok (.iconst 0, 1) := by decide +kernel
theorem dX11_objects_14 : decode cX11_objects 14 = .ok (.istore_n 3, 1) := by decide +kernel
theorem dX11_objects_15 : decode cX11_objects 15 = .ok (.iload_n 3, 1) := by decide +kernel
theorem dX11_objects_16 : decode cX11_objects 16 = .ok (.sipush 512, 3) := by decide +kernel
theorem dX11_objects_19 : decode cX11_objects 19 = .ok (.if_icmp .ge 31, 3) := by decide +kernel
theorem dX11_objects_22 : decode cX11_objects 22 = .ok (.iload_n 2, 1) := by decide +kernel
theorem dX11_objects_23 : decode cX11_objects 23 = .ok (.aload_n 0, 1) := by decide +kernel
theorem dX11_objects_24 : decode cX11_objects 24 = .ok (.iload_n 3, 1) := by decide +kernel
theorem dX11_objects_25 : decode cX11_objects 25 = .ok (.invokevirtual 71, 3) := by decide +kernel
theorem dX11_objects_28 : decode cX11_objects 28 = .ok (.ifCond .eq 13, 3) := by decide +kernel
theorem dX11_objects_31 : decode cX11_objects 31 = .ok (.iconst 1, 1) := by decide +kernel
theorem dX11_objects_32 : decode cX11_objects 32 = .ok (.iload_n 3, 1) := by decide +kernel
theorem dX11_objects_33 : decode cX11_objects 33 = .ok (.iload_n 1, 1) := by decide +kernel
theorem dX11_objects_34 : decode cX11_objects 34 = .ok (.invokestatic 129, 3) := by decide +kernel
theorem dX11_objects_37 : decode cX11_objects 37 = .ok (.ishl, 1) := by decide +kernel
theorem dX11_objects_38 : decode cX11_objects 38 = .ok (.goto 4, 3) := by decide +kernel
theorem dX11_objects_41 : decode cX11_objects 41 = .ok (.iconst 0, 1) := by decide +kernel
theorem dX11_objects_42 : decode cX11_objects 42 = .ok (.ior, 1) := by decide +kernel
theorem dX11_objects_43 : decode cX11_objects 43 = .ok (.istore_n 2, 1) := by decide +kernel
theorem dX11_objects_44 : decode cX11_objects 44 = .ok (.iinc 3 1, 3) := by decide +kernel
theorem dX11_objects_47 : decode cX11_objects 47 = .ok (.goto (-32), 3) := by decide +kernel
theorem dX11_objects_50 : decode cX11_objects 50 = .ok (.aload_n 0, 1) := by decide +kernel
theorem dX11_objects_51 : decode cX11_objects 51 = .ok (.iload_n 1, 1) := by decide +kernel
theorem dX11_objects_52 : decode cX11_objects 52 = .ok (.invokevirtual 207, 3) := by decide +kernel
theorem dX11_objects_55 : decode cX11_objects 55 = .ok (.ifCond .eq 7, 3) := by decide +kernel
theorem dX11_objects_58 : decode cX11_objects 58 = .ok (.iload_n 2, 1) := by decide +kernel
theorem dX11_objects_59 : decode cX11_objects 59 = .ok (.goto 5, 3) := by decide +kernel
theorem dX11_objects_62 : decode cX11_objects 62 = .ok (.bipush (-7), 2) := by decide +kernel
theorem dX11_objects_64 : decode cX11_objects 64 = .ok (.ireturn, 1) := by decide +kernel
theorem dX11_together_0 : decode cX11_together 0 = .ok (.iload_n 1, 1) := by decide +kernel
theorem dX11_together_1 : decode cX11_together 1 = .ok (.iconst 0, 1) := by decide +kernel
theorem dX11_together_2 : decode cX11_together 2 = .ok (.iconst 2, 1) := by decide +kernel
theorem dX11_together_3 : decode cX11_together 3 = .ok (.invokestatic 67, 3) := by decide +kernel
theorem dX11_together_6 : decode cX11_together 6 = .ok (.ifCond .eq 29, 3) := by decide +kernel
theorem dX11_together_9 : decode cX11_together 9 = .ok (.aload_n 0, 1) := by decide +kernel
theorem dX11_together_10 : decode cX11_together 10 = .ok (.iload_n 2, 1) := by decide +kernel
theorem dX11_together_11 : decode cX11_together 11 = .ok (.invokevirtual 81, 3) := by decide +kernel
theorem dX11_together_14 : decode cX11_together 14 = .ok (.ifCond .eq 21, 3) := by decide +kernel
theorem dX11_together_17 : decode cX11_together 17 = .ok (.iload_n 3, 1) := by decide +kernel
theorem dX11_together_18 : decode cX11_together 18 = .ok (.iconst 0, 1) := by decide +kernel
theorem dX11_together_19 : decode cX11_together 19 = .ok (.iconst 2, 1) := by decide +kernel
theorem dX11_together_20 : decode cX11_together 20 = .ok (.invokestatic 67, 3) := by decide +kernel
theorem dX11_together_23 : decode cX11_together 23 = .ok (.ifCond .eq 12, 3) := by decide +kernel
theorem dX11_together_26 : decode cX11_together 26 = .ok (.aload_n 0, 1) := by decide +kernel
theorem dX11_together_27 : decode cX11_together 27 = .ok (.iload 4, 2) := by decide +kernel
theorem dX11_together_29 : decode cX11_together 29 = .ok (.invokevirtual 81, 3) := by decide +kernel
theorem dX11_together_32 : decode cX11_together 32 = .ok (.ifCond .ne 5, 3) := by decide +kernel
theorem dX11_together_35 : decode cX11_together 35 = .ok (.iconst (-1), 1) := by decide +kernel
theorem dX11_together_36 : decode cX11_together 36 = .ok (.ireturn, 1) := by decide +kernel
theorem dX11_together_37 : decode cX11_together 37 = .ok (.iconst 0, 1) := by decide +kernel
theorem dX11_together_38 : decode cX11_together 38 = .ok (.istore 5, 2) := by decide +kernel
theorem dX11_together_40 : decode cX11_together 40 = .ok (.iconst 0, 1) := by decide +kernel
theorem dX11_together_41 : decode cX11_together 41 = .ok (.istore 6, 2) := by decide +kernel
theorem dX11_together_43 : decode cX11_together 43 = .ok (.iload 6, 2) := by decide +kernel
theorem dX11_together_45 : decode cX11_together 45 = .ok (.sipush 512, 3) := by decide +kernel
theorem dX11_together_48 : decode cX11_together 48 = .ok (.if_icmp .ge 49, 3) := by decide +kernel
theorem dX11_together_51 : decode cX11_together 51 = .ok (.iload 5, 2) := by decide +kernel
theorem dX11_together_53 : decode cX11_together 53 = .ok (.aload_n 0, 1) := by decide +kernel
theorem dX11_together_54 : decode cX11_together 54 = .ok (.iload 6, 2) := by decide +kernel
theorem dX11_together_56 : decode cX11_together 56 = .ok (.invokevirtual 71, 3) := by decide +kernel
theorem dX11_together_59 : decode cX11_together 59 = .ok (.ifCond .eq 28, 3) := by decide +kernel
theorem dX11_together_62 : decode cX11_together 62 = .ok (.iload 6, 2) := by decide +kernel
theorem dX11_together_64 : decode cX11_together 64 = .ok (.iload_n 1, 1) := by decide +kernel
theorem dX11_together_65 : decode cX11_together 65 = .ok (.invokestatic 129, 3) := by decide +kernel
theorem dX11_together_68 : decode cX11_together 68 = .ok (.iload_n 2, 1) := by decide +kernel
theorem dX11_together_69 : decode cX11_together 69 = .ok (.if_icmp .ne 18, 3) := by decide +kernel
theorem dX11_together_72 : decode cX11_together 72 = .ok (.iload 6, 2) := by decide +kernel
theorem dX11_together_74 : decode cX11_together 74 = .ok (.iload_n 3, 1) := by decide +kernel
theorem dX11_together_75 : decode cX11_together 75 = .ok (.invokestatic 129, 3) := by decide +kernel
theorem dX11_together_78 : decode cX11_together 78 = .ok (.iload 4, 2) := by decide +kernel
theorem dX11_together_80 : decode cX11_together 80 = .ok (.if_icmp .ne 7, 3) := by decide +kernel
theorem dX11_together_83 : decode cX11_together 83 = .ok (.iconst 1, 1) := by decide +kernel
theorem dX11_together_84 : decode cX11_together 84 = .ok (.goto 4, 3) := by decide +kernel
theorem dX11_together_87 : decode cX11_together 87 = .ok (.iconst 0, 1) := by decide +kernel
theorem dX11_together_88 : decode cX11_together 88 = .ok (.iadd, 1) := by decide +kernel
theorem dX11_together_89 : decode cX11_together 89 = .ok (.istore 5, 2) := by decide +kernel
theorem dX11_together_91 : decode cX11_together 91 = .ok (.iinc 6 1, 3) := by decide +kernel
theorem dX11_together_94 : decode cX11_together 94 = .ok (.goto (-51), 3) := by decide +kernel
theorem dX11_together_97 : decode cX11_together 97 = .ok (.aload_n 0, 1) := by decide +kernel
theorem dX11_together_98 : decode cX11_together 98 = .ok (.iload_n 1, 1) := by decide +kernel
theorem dX11_together_99 : decode cX11_together 99 = .ok (.invokevirtual 207, 3) := by decide +kernel
theorem dX11_together_102 : decode cX11_together 102 = .ok (.ifCond .eq 16, 3) := by decide +kernel
theorem dX11_together_105 : decode cX11_together 105 = .ok (.aload_n 0, 1) := by decide +kernel
theorem dX11_together_106 : decode cX11_together 106 = .ok (.iload_n 3, 1) := by decide +kernel
theorem dX11_together_107 : decode cX11_together 107 = .ok (.invokevirtual 207, 3) := by decide +kernel
theorem dX11_together_110 : decode cX11_together 110 = .ok (.ifCond .eq 8, 3) := by decide +kernel
theorem dX11_together_113 : decode cX11_together 113 = .ok (.iload 5, 2) := by decide +kernel
theorem dX11_together_115 : decode cX11_together 115 = .ok (.goto 5, 3) := by decide +kernel
theorem dX11_together_118 : decode cX11_together 118 = .ok (.bipush (-7), 2) := by decide +kernel
theorem dX11_together_120 : decode cX11_together 120 = .ok (.ireturn, 1) := by decide +kernel
theorem dX11_resetContext_0 : decode cX11_resetContext 0 = .ok (.aload_n 0, 1) := by decide +kernel
theorem dX11_resetContext_1 : decode cX11_resetContext 1 = .ok (.invokevirtual 75, 3) := by decide +kernel
theorem dX11_resetContext_4 : decode cX11_resetContext 4 = .ok (.aload_n 0, 1) := by decide +kernel
theorem dX11_resetContext_5 : decode cX11_resetContext 5 = .ok (.invokevirtual 204, 3) := by decide +kernel
theorem dX11_resetContext_8 : decode cX11_resetContext 8 = .ok (.istore_n 1, 1) := by decide +kernel
theorem dX11_resetContext_9 : decode cX11_resetContext 9 = .ok (.aload_n 0, 1) := by decide +kernel
theorem dX11_resetContext_10 : decode cX11_resetContext 10 = .ok (.invokevirtual 78, 3) := by decide +kernel
theorem dX11_resetContext_13 : decode cX11_resetContext 13 = .ok (.iload_n 1, 1) := by decide +kernel
theorem dX11_resetContext_14 : decode cX11_resetContext 14 = .ok (.ireturn, 1) := by decide +kernel
theorem dX11_setAccommodation_0 : decode cX11_setAccommodation 0 = .ok (.iload_n 1, 1) := by decide +kernel
theorem dX11_setAccommodation_1 : decode cX11_setAccommodation 1 = .ok (.iconst 0, 1) := by decide +kernel
theorem dX11_setAccommodation_2 : decode cX11_setAccommodation 2 = .ok (.iconst 1, 1) := by decide +kernel
theorem dX11_setAccommodation_3 : decode cX11_setAccommodation 3 = .ok (.invokestatic 67, 3) := by decide +kernel
theorem dX11_setAccommodation_6 : decode cX11_setAccommodation 6 = .ok (.ifCond .ne 5, 3) := by decide +kernel
theorem dX11_setAccommodation_9 : decode cX11_setAccommodation 9 = .ok (.iconst (-1), 1) := by decide +kernel
theorem dX11_setAccommodation_10 : decode cX11_setAccommodation 10 = .ok (.ireturn, 1) := by decide +kernel
theorem dX11_setAccommodation_11 : decode cX11_setAccommodation 11 = .ok (.aload_n 0, 1) := by decide +kernel
theorem dX11_setAccommodation_12 : decode cX11_setAccommodation 12 = .ok (.invokevirtual 75, 3) := by decide +kernel
theorem dX11_setAccommodation_15 : decode cX11_setAccommodation 15 = .ok (.aload_n 0, 1) := by decide +kernel
theorem dX11_setAccommodation_16 : decode cX11_setAccommodation 16 = .ok (.getfield 7, 3) := by decide +kernel
theorem dX11_setAccommodation_19 : decode cX11_setAccommodation 19 = .ok (.bipush 6, 2) := by decide +kernel
theorem dX11_setAccommodation_21 : decode cX11_setAccommodation 21 = .ok (.iaload, 1) := by decide +kernel
theorem dX11_setAccommodation_22 : decode cX11_setAccommodation 22 = .ok (.istore_n 2, 1) := by decide +kernel
theorem dX11_setAccommodation_23 : decode cX11_setAccommodation 23 = .ok (.aload_n 0, 1) := by decide +kernel
theorem dX11_setAccommodation_24 : decode cX11_setAccommodation 24 = .ok (.getfield 7, 3) := by decide +kernel
theorem dX11_setAccommodation_27 : decode cX11_setAccommodation 27 = .ok (.bipush 6, 2) := by decide +kernel
theorem dX11_setAccommodation_29 : decode cX11_setAccommodation 29 = .ok (.iload_n 1, 1) := by decide +kernel
theorem dX11_setAccommodation_30 : decode cX11_setAccommodation 30 = .ok (.iastore, 1) := by decide +kernel
theorem dX11_setAccommodation_31 : decode cX11_setAccommodation 31 = .ok (.iload_n 2, 1) := by decide +kernel
theorem dX11_setAccommodation_32 : decode cX11_setAccommodation 32 = .ok (.ireturn, 1) := by decide +kernel
theorem dX11_tries_0 : decode cX11_tries 0 = .ok (.aload_n 0, 1) := by decide +kernel
theorem dX11_tries_1 : decode cX11_tries 1 = .ok (.aload_n 0, 1) := by decide +kernel
theorem dX11_tries_2 : decode cX11_tries 2 = .ok (.getfield 7, 3) := by decide +kernel
theorem dX11_tries_5 : decode cX11_tries 5 = .ok (.bipush 7, 2) := by decide +kernel
theorem dX11_tries_7 : decode cX11_tries 7 = .ok (.iaload, 1) := by decide +kernel
theorem dX11_tries_8 : decode cX11_tries 8 = .ok (.invokevirtual 210, 3) := by decide +kernel
theorem dX11_tries_11 : decode cX11_tries 11 = .ok (.istore_n 1, 1) := by decide +kernel
theorem dX11_tries_12 : decode cX11_tries 12 = .ok (.iload_n 1, 1) := by decide +kernel
theorem dX11_tries_13 : decode cX11_tries 13 = .ok (.ifCond .ge 5, 3) := by decide +kernel
theorem dX11_tries_16 : decode cX11_tries 16 = .ok (.iload_n 1, 1) := by decide +kernel
theorem dX11_tries_17 : decode cX11_tries 17 = .ok (.ireturn, 1) := by decide +kernel
theorem dX11_tries_18 : decode cX11_tries 18 = .ok (.aload_n 0, 1) := by decide +kernel
theorem dX11_tries_19 : decode cX11_tries 19 = .ok (.iconst 0, 1) := by decide +kernel
theorem dX11_tries_20 : decode cX11_tries 20 = .ok (.invokevirtual 213, 3) := by decide +kernel
theorem dX11_tries_23 : decode cX11_tries 23 = .ok (.aload_n 0, 1) := by decide +kernel
theorem dX11_tries_24 : decode cX11_tries 24 = .ok (.iconst 1, 1) := by decide +kernel
theorem dX11_tries_25 : decode cX11_tries 25 = .ok (.aload_n 0, 1) := by decide +kernel
theorem dX11_tries_26 : decode cX11_tries 26 = .ok (.getfield 7, 3) := by decide +kernel
theorem dX11_tries_29 : decode cX11_tries 29 = .ok (.bipush 7, 2) := by decide +kernel
theorem dX11_tries_31 : decode cX11_tries 31 = .ok (.iaload, 1) := by decide +kernel
theorem dX11_tries_32 : decode cX11_tries 32 = .ok (.invokevirtual 200, 3) := by decide +kernel
theorem dX11_tries_35 : decode cX11_tries 35 = .ok (.istore_n 2, 1) := by decide +kernel
theorem dX11_tries_36 : decode cX11_tries 36 = .ok (.iload_n 2, 1) := by decide +kernel
theorem dX11_tries_37 : decode cX11_tries 37 = .ok (.ifCond .eq 19, 3) := by decide +kernel
theorem dX11_tries_40 : decode cX11_tries 40 = .ok (.aload_n 0, 1) := by decide +kernel
theorem dX11_tries_41 : decode cX11_tries 41 = .ok (.getfield 187, 3) := by decide +kernel
theorem dX11_tries_44 : decode cX11_tries 44 = .ok (.bipush (-7), 2) := by decide +kernel
theorem dX11_tries_46 : decode cX11_tries 46 = .ok (.if_icmp .ne 10, 3) := by decide +kernel
theorem dX11_tries_49 : decode cX11_tries 49 = .ok (.aload_n 0, 1) := by decide +kernel
theorem dX11_tries_50 : decode cX11_tries 50 = .ok (.invokevirtual 184, 3) := by decide +kernel
theorem dX11_tries_53 : decode cX11_tries 53 = .ok (.goto 5, 3) := by decide +kernel
theorem dX11_tries_56 : decode cX11_tries 56 = .ok (.bipush (-4), 2) := by decide +kernel
theorem dX11_tries_58 : decode cX11_tries 58 = .ok (.ireturn, 1) := by decide +kernel
theorem dX11_accept_0 : decode cX11_accept 0 = .ok (.aload_n 0, 1) := by decide +kernel
theorem dX11_accept_1 : decode cX11_accept 1 = .ok (.invokevirtual 216, 3) := by decide +kernel
theorem dX11_accept_4 : decode cX11_accept 4 = .ok (.istore_n 1, 1) := by decide +kernel
theorem dX11_accept_5 : decode cX11_accept 5 = .ok (.iload_n 1, 1) := by decide +kernel
theorem dX11_accept_6 : decode cX11_accept 6 = .ok (.ifCond .ge 5, 3) := by decide +kernel
theorem dX11_accept_9 : decode cX11_accept 9 = .ok (.iload_n 1, 1) := by decide +kernel
theorem dX11_accept_10 : decode cX11_accept 10 = .ok (.ireturn, 1) := by decide +kernel
theorem dX11_accept_11 : decode cX11_accept 11 = .ok (.aload_n 0, 1) := by decide +kernel
theorem dX11_accept_12 : decode cX11_accept 12 = .ok (.invokevirtual 75, 3) := by decide +kernel
theorem dX11_accept_15 : decode cX11_accept 15 = .ok (.aload_n 0, 1) := by decide +kernel
theorem dX11_accept_16 : decode cX11_accept 16 = .ok (.getfield 7, 3) := by decide +kernel
theorem dX11_accept_19 : decode cX11_accept 19 = .ok (.bipush 7, 2) := by decide +kernel
theorem dX11_accept_21 : decode cX11_accept 21 = .ok (.aload_n 0, 1) := by decide +kernel
theorem dX11_accept_22 : decode cX11_accept 22 = .ok (.getfield 110, 3) := by decide +kernel
theorem dX11_accept_25 : decode cX11_accept 25 = .ok (.iastore, 1) := by decide +kernel
theorem dX11_accept_26 : decode cX11_accept 26 = .ok (.aload_n 0, 1) := by decide +kernel
theorem dX11_accept_27 : decode cX11_accept 27 = .ok (.getfield 7, 3) := by decide +kernel
theorem dX11_accept_30 : decode cX11_accept 30 = .ok (.bipush 8, 2) := by decide +kernel
theorem dX11_accept_32 : decode cX11_accept 32 = .ok (.aload_n 0, 1) := by decide +kernel
theorem dX11_accept_33 : decode cX11_accept 33 = .ok (.getfield 190, 3) := by decide +kernel
theorem dX11_accept_36 : decode cX11_accept 36 = .ok (.iastore, 1) := by decide +kernel
theorem dX11_accept_37 : decode cX11_accept 37 = .ok (.iconst 0, 1) := by decide +kernel
theorem dX11_accept_38 : decode cX11_accept 38 = .ok (.istore_n 2, 1) := by decide +kernel
theorem dX11_accept_39 : decode cX11_accept 39 = .ok (.iload_n 2, 1) := by decide +kernel
theorem dX11_accept_40 : decode cX11_accept 40 = .ok (.bipush 16, 2) := by decide +kernel
theorem dX11_accept_42 : decode cX11_accept 42 = .ok (.if_icmp .ge 19, 3) := by decide +kernel
theorem dX11_accept_45 : decode cX11_accept 45 = .ok (.aload_n 0, 1) := by decide +kernel
theorem dX11_accept_46 : decode cX11_accept 46 = .ok (.getfield 7, 3) := by decide +kernel
theorem dX11_accept_49 : decode cX11_accept 49 = .ok (.bipush 9, 2) := by decide +kernel
theorem dX11_accept_51 : decode cX11_accept 51 = .ok (.iload_n 2, 1) := by decide +kernel
theorem dX11_accept_52 : decode cX11_accept 52 = .ok (.iadd, 1) := by decide +kernel
theorem dX11_accept_53 : decode cX11_accept 53 = .ok (.iconst 0, 1) := by decide +kernel
theorem dX11_accept_54 : decode cX11_accept 54 = .ok (.iastore, 1) := by decide +kernel
theorem dX11_accept_55 : decode cX11_accept 55 = .ok (.iinc 2 1, 3) := by decide +kernel
theorem dX11_accept_58 : decode cX11_accept 58 = .ok (.goto (-19), 3) := by decide +kernel
theorem dX11_accept_61 : decode cX11_accept 61 = .ok (.iconst 0, 1) := by decide +kernel
theorem dX11_accept_62 : decode cX11_accept 62 = .ok (.istore_n 2, 1) := by decide +kernel
theorem dX11_accept_63 : decode cX11_accept 63 = .ok (.iload_n 2, 1) := by decide +kernel
theorem dX11_accept_64 : decode cX11_accept 64 = .ok (.sipush 512, 3) := by decide +kernel
theorem dX11_accept_67 : decode cX11_accept 67 = .ok (.if_icmp .ge 43, 3) := by decide +kernel
theorem dX11_accept_70 : decode cX11_accept 70 = .ok (.aload_n 0, 1) := by decide +kernel
theorem dX11_accept_71 : decode cX11_accept 71 = .ok (.getfield 7, 3) := by decide +kernel
theorem dX11_accept_74 : decode cX11_accept 74 = .ok (.bipush 9, 2) := by decide +kernel
theorem dX11_accept_76 : decode cX11_accept 76 = .ok (.iload_n 2, 1) := by decide +kernel
theorem dX11_accept_77 : decode cX11_accept 77 = .ok (.bipush 32, 2) := by decide +kernel
theorem dX11_accept_79 : decode cX11_accept 79 = .ok (.idiv, 1) := by decide +kernel
theorem dX11_accept_80 : decode cX11_accept 80 = .ok (.iadd, 1) := by decide +kernel
theorem dX11_accept_81 : decode cX11_accept 81 = .ok (.dup2, 1) := by decide +kernel
theorem dX11_accept_82 : decode cX11_accept 82 = .ok (.iaload, 1) := by decide +kernel
theorem dX11_accept_83 : decode cX11_accept 83 = .ok (.aload_n 0, 1) := by decide +kernel
theorem dX11_accept_84 : decode cX11_accept 84 = .ok (.getfield 32, 3) := by decide +kernel
theorem dX11_accept_87 : decode cX11_accept 87 = .ok (.iload_n 2, 1) := by decide +kernel
theorem dX11_accept_88 : decode cX11_accept 88 = .ok (.baload, 1) := by decide +kernel
theorem dX11_accept_89 : decode cX11_accept 89 = .ok (.ifCond .eq 12, 3) := by decide +kernel
theorem dX11_accept_92 : decode cX11_accept 92 = .ok (.iconst 1, 1) := by decide +kernel
theorem dX11_accept_93 : decode cX11_accept 93 = .ok (.iload_n 2, 1) := by decide +kernel
theorem dX11_accept_94 : decode cX11_accept 94 = .ok (.bipush 32, 2) := by decide +kernel
theorem dX11_accept_96 : decode cX11_accept 96 = .ok (.irem, 1) := by decide +kernel
theorem dX11_accept_97 : decode cX11_accept 97 = .ok (.ishl, 1) := by decide +kernel
theorem dX11_accept_98 : decode cX11_accept 98 = .ok (.goto 4, 3) := by decide +kernel
theorem dX11_accept_101 : decode cX11_accept 101 = .ok (.iconst 0, 1) := by decide +kernel
theorem dX11_accept_102 : decode cX11_accept 102 = .ok (.ior, 1) := by decide +kernel
theorem dX11_accept_103 : decode cX11_accept 103 = .ok (.iastore, 1) := by decide +kernel
theorem dX11_accept_104 : decode cX11_accept 104 = .ok (.iinc 2 1, 3) := by decide +kernel
theorem dX11_accept_107 : decode cX11_accept 107 = .ok (.goto (-44), 3) := by decide +kernel
theorem dX11_accept_110 : decode cX11_accept 110 = .ok (.iload_n 1, 1) := by decide +kernel
theorem dX11_accept_111 : decode cX11_accept 111 = .ok (.ireturn, 1) := by decide +kernel
theorem dX11_acceptable_0 : decode cX11_acceptable 0 = .ok (.aload_n 0, 1) := by decide +kernel
theorem dX11_acceptable_1 : decode cX11_acceptable 1 = .ok (.invokevirtual 216, 3) := by decide +kernel
theorem dX11_acceptable_4 : decode cX11_acceptable 4 = .ok (.ireturn, 1) := by decide +kernel
theorem dX11_failingAt_0 : decode cX11_failingAt 0 = .ok (.aload_n 0, 1) := by decide +kernel
theorem dX11_failingAt_1 : decode cX11_failingAt 1 = .ok (.invokevirtual 216, 3) := by decide +kernel
theorem dX11_failingAt_4 : decode cX11_failingAt 4 = .ok (.istore_n 1, 1) := by decide +kernel
theorem dX11_failingAt_5 : decode cX11_failingAt 5 = .ok (.iload_n 1, 1) := by decide +kernel
theorem dX11_failingAt_6 : decode cX11_failingAt 6 = .ok (.bipush (-2), 2) := by decide +kernel
theorem dX11_failingAt_8 : decode cX11_failingAt 8 = .ok (.if_icmp .eq 9, 3) := by decide +kernel
theorem dX11_failingAt_11 : decode cX11_failingAt 11 = .ok (.iload_n 1, 1) := by decide +kernel
theorem dX11_failingAt_12 : decode cX11_failingAt 12 = .ok (.bipush (-3), 2) := by decide +kernel
theorem dX11_failingAt_14 : decode cX11_failingAt 14 = .ok (.if_icmp .ne 7, 3) := by decide +kernel
theorem dX11_failingAt_17 : decode cX11_failingAt 17 = .ok (.iload_n 1, 1) := by decide +kernel
theorem dX11_failingAt_18 : decode cX11_failingAt 18 = .ok (.goto 18, 3) := by decide +kernel
theorem dX11_failingAt_21 : decode cX11_failingAt 21 = .ok (.iload_n 1, 1) := by decide +kernel
theorem dX11_failingAt_22 : decode cX11_failingAt 22 = .ok (.bipush (-4), 2) := by decide +kernel
theorem dX11_failingAt_24 : decode cX11_failingAt 24 = .ok (.if_icmp .ne 10, 3) := by decide +kernel
theorem dX11_failingAt_27 : decode cX11_failingAt 27 = .ok (.aload_n 0, 1) := by decide +kernel
theorem dX11_failingAt_28 : decode cX11_failingAt 28 = .ok (.getfield 187, 3) := by decide +kernel
theorem dX11_failingAt_31 : decode cX11_failingAt 31 = .ok (.goto 5, 3) := by decide +kernel
theorem dX11_failingAt_34 : decode cX11_failingAt 34 = .ok (.bipush (-7), 2) := by decide +kernel
theorem dX11_failingAt_36 : decode cX11_failingAt 36 = .ok (.ireturn, 1) := by decide +kernel
theorem dX11_accommodated_0 : decode cX11_accommodated 0 = .ok (.iconst 0, 1) := by decide +kernel
theorem dX11_accommodated_1 : decode cX11_accommodated 1 = .ok (.istore_n 1, 1) := by decide +kernel
theorem dX11_accommodated_2 : decode cX11_accommodated 2 = .ok (.iconst 0, 1) := by decide +kernel
theorem dX11_accommodated_3 : decode cX11_accommodated 3 = .ok (.istore_n 2, 1) := by decide +kernel
theorem dX11_accommodated_4 : decode cX11_accommodated 4 = .ok (.iload_n 2, 1) := by decide +kernel
theorem dX11_accommodated_5 : decode cX11_accommodated 5 = .ok (.bipush 30, 2) := by decide +kernel
theorem dX11_accommodated_7 : decode cX11_accommodated 7 = .ok (.if_icmp .ge 23, 3) := by decide +kernel
theorem dX11_accommodated_10 : decode cX11_accommodated 10 = .ok (.iload_n 1, 1) := by decide +kernel
theorem dX11_accommodated_11 : decode cX11_accommodated 11 = .ok (.aload_n 0, 1) := by decide +kernel
theorem dX11_accommodated_12 : decode cX11_accommodated 12 = .ok (.getfield 7, 3) := by decide +kernel
theorem dX11_accommodated_15 : decode cX11_accommodated 15 = .ok (.bipush 8, 2) := by decide +kernel
theorem dX11_accommodated_17 : decode cX11_accommodated 17 = .ok (.iaload, 1) := by decide +kernel
theorem dX11_accommodated_18 : decode cX11_accommodated 18 = .ok (.iload_n 2, 1) := by decide +kernel
theorem dX11_accommodated_19 : decode cX11_accommodated 19 = .ok (.ishr, 1) := by decide +kernel
theorem dX11_accommodated_20 : decode cX11_accommodated 20 = .ok (.iconst 1, 1) := by decide +kernel
theorem dX11_accommodated_21 : decode cX11_accommodated 21 = .ok (.iand, 1) := by decide +kernel
theorem dX11_accommodated_22 : decode cX11_accommodated 22 = .ok (.iadd, 1) := by decide +kernel
theorem dX11_accommodated_23 : decode cX11_accommodated 23 = .ok (.istore_n 1, 1) := by decide +kernel
theorem dX11_accommodated_24 : decode cX11_accommodated 24 = .ok (.iinc 2 1, 3) := by decide +kernel
theorem dX11_accommodated_27 : decode cX11_accommodated 27 = .ok (.goto (-23), 3) := by decide +kernel
theorem dX11_accommodated_30 : decode cX11_accommodated 30 = .ok (.iload_n 1, 1) := by decide +kernel
theorem dX11_accommodated_31 : decode cX11_accommodated 31 = .ok (.ireturn, 1) := by decide +kernel
theorem dX11_accommodatedPart_0 : decode cX11_accommodatedPart 0 = .ok (.iload_n 1, 1) := by decide +kernel
theorem dX11_accommodatedPart_1 : decode cX11_accommodatedPart 1 = .ok (.ifCond .ge 5, 3) := by decide +kernel
theorem dX11_accommodatedPart_4 : decode cX11_accommodatedPart 4 = .ok (.iconst (-1), 1) := by decide +kernel
theorem dX11_accommodatedPart_5 : decode cX11_accommodatedPart 5 = .ok (.ireturn, 1) := by decide +kernel
theorem dX11_accommodatedPart_6 : decode cX11_accommodatedPart 6 = .ok (.iconst 0, 1) := by decide +kernel
theorem dX11_accommodatedPart_7 : decode cX11_accommodatedPart 7 = .ok (.istore_n 2, 1) := by decide +kernel
theorem dX11_accommodatedPart_8 : decode cX11_accommodatedPart 8 = .ok (.iconst 0, 1) := by decide +kernel
theorem dX11_accommodatedPart_9 : decode cX11_accommodatedPart 9 = .ok (.istore_n 3, 1) := by decide +kernel
theorem dX11_accommodatedPart_10 : decode cX11_accommodatedPart 10 = .ok (.iload_n 3, 1) := by decide +kernel
theorem dX11_accommodatedPart_11 : decode cX11_accommodatedPart 11 = .ok (.bipush 30, 2) := by decide +kernel
theorem dX11_accommodatedPart_13 : decode cX11_accommodatedPart 13 = .ok (.if_icmp .ge 56, 3) := by decide +kernel
theorem dX11_accommodatedPart_16 : decode cX11_accommodatedPart 16 = .ok (.aload_n 0, 1) := by decide +kernel
theorem dX11_accommodatedPart_17 : decode cX11_accommodatedPart 17 = .ok (.getfield 7, 3) := by decide +kernel
theorem dX11_accommodatedPart_20 : decode cX11_accommodatedPart 20 = .ok (.bipush 8, 2) := by decide +kernel
theorem dX11_accommodatedPart_22 : decode cX11_accommodatedPart 22 = .ok (.iaload, 1) := by decide +kernel
theorem dX11_accommodatedPart_23 : decode cX11_accommodatedPart 23 = .ok (.iload_n 3, 1) := by decide +kernel
theorem dX11_accommodatedPart_24 : decode cX11_accommodatedPart 24 = .ok (.ishr, 1) := by decide +kernel
theorem dX11_accommodatedPart_25 : decode cX11_accommodatedPart 25 = .ok (.iconst 1, 1) := by decide +kernel
theorem dX11_accommodatedPart_26 : decode cX11_accommodatedPart 26 = .ok (.iand, 1) := by decide +kernel
theorem dX11_accommodatedPart_27 : decode cX11_accommodatedPart 27 = .ok (.iconst 1, 1) := by decide +kernel
theorem dX11_accommodatedPart_28 : decode cX11_accommodatedPart 28 = .ok (.if_icmp .ne 7, 3) := by decide +kernel
theorem dX11_accommodatedPart_31 : decode cX11_accommodatedPart 31 = .ok (.iconst 1, 1) := by decide +kernel
theorem dX11_accommodatedPart_32 : decode cX11_accommodatedPart 32 = .ok (.goto 4, 3) := by decide +kernel
theorem dX11_accommodatedPart_35 : decode cX11_accommodatedPart 35 = .ok (.iconst 0, 1) := by decide +kernel
theorem dX11_accommodatedPart_36 : decode cX11_accommodatedPart 36 = .ok (.istore 4, 2) := by decide +kernel
theorem dX11_accommodatedPart_38 : decode cX11_accommodatedPart 38 = .ok (.iload 4, 2) := by decide +kernel
theorem dX11_accommodatedPart_40 : decode cX11_accommodatedPart 40 = .ok (.ifCond .eq 10, 3) := by decide +kernel
theorem dX11_accommodatedPart_43 : decode cX11_accommodatedPart 43 = .ok (.iload_n 2, 1) := by decide +kernel
theorem dX11_accommodatedPart_44 : decode cX11_accommodatedPart 44 = .ok (.iload_n 1, 1) := by decide +kernel
theorem dX11_accommodatedPart_45 : decode cX11_accommodatedPart 45 = .ok (.if_icmp .ne 5, 3) := by decide +kernel
theorem dX11_accommodatedPart_48 : decode cX11_accommodatedPart 48 = .ok (.iload_n 3, 1) := by decide +kernel
theorem dX11_accommodatedPart_49 : decode cX11_accommodatedPart 49 = .ok (.ireturn, 1) := by decide +kernel
theorem dX11_accommodatedPart_50 : decode cX11_accommodatedPart 50 = .ok (.iload_n 2, 1) := by decide +kernel
theorem dX11_accommodatedPart_51 : decode cX11_accommodatedPart 51 = .ok (.iload 4, 2) := by decide +kernel
theorem dX11_accommodatedPart_53 : decode cX11_accommodatedPart 53 = .ok (.ifCond .eq 7, 3) := by decide +kernel
theorem dX11_accommodatedPart_56 : decode cX11_accommodatedPart 56 = .ok (.iconst 1, 1) := by decide +kernel
theorem dX11_accommodatedPart_57 : decode cX11_accommodatedPart 57 = .ok (.goto 4, 3) := by decide +kernel
theorem dX11_accommodatedPart_60 : decode cX11_accommodatedPart 60 = .ok (.iconst 0, 1) := by decide +kernel
theorem dX11_accommodatedPart_61 : decode cX11_accommodatedPart 61 = .ok (.iadd, 1) := by decide +kernel
theorem dX11_accommodatedPart_62 : decode cX11_accommodatedPart 62 = .ok (.istore_n 2, 1) := by decide +kernel
theorem dX11_accommodatedPart_63 : decode cX11_accommodatedPart 63 = .ok (.iinc 3 1, 3) := by decide +kernel
theorem dX11_accommodatedPart_66 : decode cX11_accommodatedPart 66 = .ok (.goto (-56), 3) := by decide +kernel
theorem dX11_accommodatedPart_69 : decode cX11_accommodatedPart 69 = .ok (.bipush (-7), 2) := by decide +kernel
theorem dX11_accommodatedPart_71 : decode cX11_accommodatedPart 71 = .ok (.ireturn, 1) := by decide +kernel
theorem dX11_sizeBehind_0 : decode cX11_sizeBehind 0 = .ok (.iload_n 1, 1) := by decide +kernel
theorem dX11_sizeBehind_1 : decode cX11_sizeBehind 1 = .ok (.ifCond .ge 5, 3) := by decide +kernel
theorem dX11_sizeBehind_4 : decode cX11_sizeBehind 4 = .ok (.iconst (-1), 1) := by decide +kernel
theorem dX11_sizeBehind_5 : decode cX11_sizeBehind 5 = .ok (.ireturn, 1) := by decide +kernel
theorem dX11_sizeBehind_6 : decode cX11_sizeBehind 6 = .ok (.aload_n 0, 1) := by decide +kernel
theorem dX11_sizeBehind_7 : decode cX11_sizeBehind 7 = .ok (.aload_n 0, 1) := by decide +kernel
theorem dX11_sizeBehind_8 : decode cX11_sizeBehind 8 = .ok (.getfield 7, 3) := by decide +kernel
theorem dX11_sizeBehind_11 : decode cX11_sizeBehind 11 = .ok (.bipush 7, 2) := by decide +kernel
theorem dX11_sizeBehind_13 : decode cX11_sizeBehind 13 = .ok (.iaload, 1) := by decide +kernel
theorem dX11_sizeBehind_14 : decode cX11_sizeBehind 14 = .ok (.invokevirtual 210, 3) := by decide +kernel
theorem dX11_sizeBehind_17 : decode cX11_sizeBehind 17 = .ok (.istore_n 2, 1) := by decide +kernel
theorem dX11_sizeBehind_18 : decode cX11_sizeBehind 18 = .ok (.iload_n 2, 1) := by decide +kernel
theorem dX11_sizeBehind_19 : decode cX11_sizeBehind 19 = .ok (.ifCond .lt 11, 3) := by decide +kernel
theorem dX11_sizeBehind_22 : decode cX11_sizeBehind 22 = .ok (.aload_n 0, 1) := by decide +kernel
theorem dX11_sizeBehind_23 : decode cX11_sizeBehind 23 = .ok (.getfield 175, 3) := by decide +kernel
theorem dX11_sizeBehind_26 : decode cX11_sizeBehind 26 = .ok (.iload_n 1, 1) := by decide +kernel
theorem dX11_sizeBehind_27 : decode cX11_sizeBehind 27 = .ok (.if_icmp .ge 14, 3) := by decide +kernel
theorem dX11_sizeBehind_30 : decode cX11_sizeBehind 30 = .ok (.iload_n 2, 1) := by decide +kernel
theorem dX11_sizeBehind_31 : decode cX11_sizeBehind 31 = .ok (.ifCond .ge 7, 3) := by decide +kernel
theorem dX11_sizeBehind_34 : decode cX11_sizeBehind 34 = .ok (.iload_n 2, 1) := by decide +kernel
theorem dX11_sizeBehind_35 : decode cX11_sizeBehind 35 = .ok (.goto 5, 3) := by decide +kernel
theorem dX11_sizeBehind_38 : decode cX11_sizeBehind 38 = .ok (.bipush (-7), 2) := by decide +kernel
theorem dX11_sizeBehind_40 : decode cX11_sizeBehind 40 = .ok (.ireturn, 1) := by decide +kernel
theorem dX11_sizeBehind_41 : decode cX11_sizeBehind 41 = .ok (.aload_n 0, 1) := by decide +kernel
theorem dX11_sizeBehind_42 : decode cX11_sizeBehind 42 = .ok (.iload_n 1, 1) := by decide +kernel
theorem dX11_sizeBehind_43 : decode cX11_sizeBehind 43 = .ok (.putfield 178, 3) := by decide +kernel
theorem dX11_sizeBehind_46 : decode cX11_sizeBehind 46 = .ok (.aload_n 0, 1) := by decide +kernel
theorem dX11_sizeBehind_47 : decode cX11_sizeBehind 47 = .ok (.iconst 0, 1) := by decide +kernel
theorem dX11_sizeBehind_48 : decode cX11_sizeBehind 48 = .ok (.invokevirtual 213, 3) := by decide +kernel
theorem dX11_sizeBehind_51 : decode cX11_sizeBehind 51 = .ok (.aload_n 0, 1) := by decide +kernel
theorem dX11_sizeBehind_52 : decode cX11_sizeBehind 52 = .ok (.iconst 2, 1) := by decide +kernel
theorem dX11_sizeBehind_53 : decode cX11_sizeBehind 53 = .ok (.aload_n 0, 1) := by decide +kernel
theorem dX11_sizeBehind_54 : decode cX11_sizeBehind 54 = .ok (.getfield 7, 3) := by decide +kernel
theorem dX11_sizeBehind_57 : decode cX11_sizeBehind 57 = .ok (.bipush 7, 2) := by decide +kernel
theorem dX11_sizeBehind_59 : decode cX11_sizeBehind 59 = .ok (.iaload, 1) := by decide +kernel
theorem dX11_sizeBehind_60 : decode cX11_sizeBehind 60 = .ok (.invokevirtual 200, 3) := by decide +kernel
theorem dX11_sizeBehind_63 : decode cX11_sizeBehind 63 = .ok (.ifCond .eq 10, 3) := by decide +kernel
theorem dX11_sizeBehind_66 : decode cX11_sizeBehind 66 = .ok (.aload_n 0, 1) := by decide +kernel
theorem dX11_sizeBehind_67 : decode cX11_sizeBehind 67 = .ok (.invokevirtual 184, 3) := by decide +kernel
theorem dX11_sizeBehind_70 : decode cX11_sizeBehind 70 = .ok (.goto 5, 3) := by decide +kernel
theorem dX11_sizeBehind_73 : decode cX11_sizeBehind 73 = .ok (.bipush (-7), 2) := by decide +kernel
theorem dX11_sizeBehind_75 : decode cX11_sizeBehind 75 = .ok (.ireturn, 1) := by decide +kernel
theorem dX11_isAllSupported_0 : decode cX11_isAllSupported 0 = .ok (.aload_n 0, 1) := by decide +kernel
theorem dX11_isAllSupported_1 : decode cX11_isAllSupported 1 = .ok (.iconst 3, 1) := by decide +kernel
theorem dX11_isAllSupported_2 : decode cX11_isAllSupported 2 = .ok (.iload_n 1, 1) := by decide +kernel
theorem dX11_isAllSupported_3 : decode cX11_isAllSupported 3 = .ok (.invokevirtual 200, 3) := by decide +kernel
theorem dX11_isAllSupported_6 : decode cX11_isAllSupported 6 = .ok (.ifCond .eq 15, 3) := by decide +kernel
theorem dX11_isAllSupported_9 : decode cX11_isAllSupported 9 = .ok (.aload_n 0, 1) := by decide +kernel
theorem dX11_isAllSupported_10 : decode cX11_isAllSupported 10 = .ok (.iconst 0, 1) := by decide +kernel
theorem dX11_isAllSupported_11 : decode cX11_isAllSupported 11 = .ok (.invokevirtual 172, 3) := by decide +kernel
theorem dX11_isAllSupported_14 : decode cX11_isAllSupported 14 = .ok (.ifCond .eq 7, 3) := by decide +kernel
theorem dX11_isAllSupported_17 : decode cX11_isAllSupported 17 = .ok (.iconst 1, 1) := by decide +kernel
theorem dX11_isAllSupported_18 : decode cX11_isAllSupported 18 = .ok (.goto 4, 3) := by decide +kernel
theorem dX11_isAllSupported_21 : decode cX11_isAllSupported 21 = .ok (.iconst 0, 1) := by decide +kernel
theorem dX11_isAllSupported_22 : decode cX11_isAllSupported 22 = .ok (.ireturn, 1) := by decide +kernel
theorem dX11_supports_0 : decode cX11_supports 0 = .ok (.aload_n 0, 1) := by decide +kernel
theorem dX11_supports_1 : decode cX11_supports 1 = .ok (.aload_n 0, 1) := by decide +kernel
theorem dX11_supports_2 : decode cX11_supports 2 = .ok (.getfield 7, 3) := by decide +kernel
theorem dX11_supports_5 : decode cX11_supports 5 = .ok (.bipush 7, 2) := by decide +kernel
theorem dX11_supports_7 : decode cX11_supports 7 = .ok (.iaload, 1) := by decide +kernel
theorem dX11_supports_8 : decode cX11_supports 8 = .ok (.invokevirtual 210, 3) := by decide +kernel
theorem dX11_supports_11 : decode cX11_supports 11 = .ok (.istore_n 1, 1) := by decide +kernel
theorem dX11_supports_12 : decode cX11_supports 12 = .ok (.iload_n 1, 1) := by decide +kernel
theorem dX11_supports_13 : decode cX11_supports 13 = .ok (.ifCond .ge 5, 3) := by decide +kernel
theorem dX11_supports_16 : decode cX11_supports 16 = .ok (.iload_n 1, 1) := by decide +kernel
theorem dX11_supports_17 : decode cX11_supports 17 = .ok (.ireturn, 1) := by decide +kernel
theorem dX11_supports_18 : decode cX11_supports 18 = .ok (.aload_n 0, 1) := by decide +kernel
theorem dX11_supports_19 : decode cX11_supports 19 = .ok (.iconst 0, 1) := by decide +kernel
theorem dX11_supports_20 : decode cX11_supports 20 = .ok (.invokevirtual 213, 3) := by decide +kernel
theorem dX11_supports_23 : decode cX11_supports 23 = .ok (.aload_n 0, 1) := by decide +kernel
theorem dX11_supports_24 : decode cX11_supports 24 = .ok (.aload_n 0, 1) := by decide +kernel
theorem dX11_supports_25 : decode cX11_supports 25 = .ok (.getfield 7, 3) := by decide +kernel
theorem dX11_supports_28 : decode cX11_supports 28 = .ok (.bipush 7, 2) := by decide +kernel
theorem dX11_supports_30 : decode cX11_supports 30 = .ok (.iaload, 1) := by decide +kernel
theorem dX11_supports_31 : decode cX11_supports 31 = .ok (.invokevirtual 219, 3) := by decide +kernel
theorem dX11_supports_34 : decode cX11_supports 34 = .ok (.ifCond .eq 7, 3) := by decide +kernel
theorem dX11_supports_37 : decode cX11_supports 37 = .ok (.iconst 1, 1) := by decide +kernel
theorem dX11_supports_38 : decode cX11_supports 38 = .ok (.goto 4, 3) := by decide +kernel
theorem dX11_supports_41 : decode cX11_supports 41 = .ok (.iconst 0, 1) := by decide +kernel
theorem dX11_supports_42 : decode cX11_supports 42 = .ok (.ireturn, 1) := by decide +kernel
theorem dX11_worldsTrue_0 : decode cX11_worldsTrue 0 = .ok (.aload_n 0, 1) := by decide +kernel
theorem dX11_worldsTrue_1 : decode cX11_worldsTrue 1 = .ok (.iconst 0, 1) := by decide +kernel
theorem dX11_worldsTrue_2 : decode cX11_worldsTrue 2 = .ok (.invokevirtual 210, 3) := by decide +kernel
theorem dX11_worldsTrue_5 : decode cX11_worldsTrue 5 = .ok (.istore_n 1, 1) := by decide +kernel
theorem dX11_worldsTrue_6 : decode cX11_worldsTrue 6 = .ok (.iload_n 1, 1) := by decide +kernel
theorem dX11_worldsTrue_7 : decode cX11_worldsTrue 7 = .ok (.ifCond .ge 5, 3) := by decide +kernel
theorem dX11_worldsTrue_10 : decode cX11_worldsTrue 10 = .ok (.iload_n 1, 1) := by decide +kernel
theorem dX11_worldsTrue_11 : decode cX11_worldsTrue 11 = .ok (.ireturn, 1) := by decide +kernel
theorem dX11_worldsTrue_12 : decode cX11_worldsTrue 12 = .ok (.aload_n 0, 1) := by decide +kernel
theorem dX11_worldsTrue_13 : decode cX11_worldsTrue 13 = .ok (.getfield 7, 3) := by decide +kernel
theorem dX11_worldsTrue_16 : decode cX11_worldsTrue 16 = .ok (.iconst 1, 1) := by decide +kernel
theorem dX11_worldsTrue_17 : decode cX11_worldsTrue 17 = .ok (.iaload, 1) := by decide +kernel
theorem dX11_worldsTrue_18 : decode cX11_worldsTrue 18 = .ok (.istore_n 2, 1) := by decide +kernel
theorem dX11_worldsTrue_19 : decode cX11_worldsTrue 19 = .ok (.aload_n 0, 1) := by decide +kernel
theorem dX11_worldsTrue_20 : decode cX11_worldsTrue 20 = .ok (.getfield 7, 3) := by decide +kernel
theorem dX11_worldsTrue_23 : decode cX11_worldsTrue 23 = .ok (.iconst 2, 1) := by decide +kernel
theorem dX11_worldsTrue_24 : decode cX11_worldsTrue 24 = .ok (.iaload, 1) := by decide +kernel
theorem dX11_worldsTrue_25 : decode cX11_worldsTrue 25 = .ok (.istore_n 3, 1) := by decide +kernel
theorem dX11_worldsTrue_26 : decode cX11_worldsTrue 26 = .ok (.iconst 0, 1) := by decide +kernel
theorem dX11_worldsTrue_27 : decode cX11_worldsTrue 27 = .ok (.istore 4, 2) := by decide +kernel
theorem dX11_worldsTrue_29 : decode cX11_worldsTrue 29 = .ok (.aload_n 0, 1) := by decide +kernel
theorem dX11_worldsTrue_30 : decode cX11_worldsTrue 30 = .ok (.iconst 1, 1) := by decide +kernel
theorem dX11_worldsTrue_31 : decode cX11_worldsTrue 31 = .ok (.invokevirtual 213, 3) := by decide +kernel
theorem dX11_worldsTrue_34 : decode cX11_worldsTrue 34 = .ok (.iconst 0, 1) := by decide +kernel
theorem dX11_worldsTrue_35 : decode cX11_worldsTrue 35 = .ok (.istore 5, 2) := by decide +kernel
theorem dX11_worldsTrue_37 : decode cX11_worldsTrue 37 = .ok (.iload 5, 2) := by decide +kernel
theorem dX11_worldsTrue_39 : decode cX11_worldsTrue 39 = .ok (.iconst 1, 1) := by decide +kernel
theorem dX11_worldsTrue_40 : decode cX11_worldsTrue 40 = .ok (.iconst 2, 1) := by decide +kernel
theorem dX11_worldsTrue_41 : decode cX11_worldsTrue 41 = .ok (.aload_n 0, 1) := by decide +kernel
theorem dX11_worldsTrue_42 : decode cX11_worldsTrue 42 = .ok (.getfield 7, 3) := by decide +kernel
theorem dX11_worldsTrue_45 : decode cX11_worldsTrue 45 = .ok (.iconst 0, 1) := by decide +kernel
theorem dX11_worldsTrue_46 : decode cX11_worldsTrue 46 = .ok (.iaload, 1) := by decide +kernel
theorem dX11_worldsTrue_47 : decode cX11_worldsTrue 47 = .ok (.imul, 1) := by decide +kernel
theorem dX11_worldsTrue_48 : decode cX11_worldsTrue 48 = .ok (.ishl, 1) := by decide +kernel
theorem dX11_worldsTrue_49 : decode cX11_worldsTrue 49 = .ok (.if_icmp .ge 55, 3) := by decide +kernel
theorem dX11_worldsTrue_52 : decode cX11_worldsTrue 52 = .ok (.aload_n 0, 1) := by decide +kernel
theorem dX11_worldsTrue_53 : decode cX11_worldsTrue 53 = .ok (.getfield 7, 3) := by decide +kernel
theorem dX11_worldsTrue_56 : decode cX11_worldsTrue 56 = .ok (.iconst 1, 1) := by decide +kernel
theorem dX11_worldsTrue_57 : decode cX11_worldsTrue 57 = .ok (.iload 5, 2) := by decide +kernel
theorem dX11_worldsTrue_59 : decode cX11_worldsTrue 59 = .ok (.aload_n 0, 1) := by decide +kernel
theorem dX11_worldsTrue_60 : decode cX11_worldsTrue 60 = .ok (.invokevirtual 63, 3) := by decide +kernel
theorem dX11_worldsTrue_63 : decode cX11_worldsTrue 63 = .ok (.iand, 1) := by decide +kernel
theorem dX11_worldsTrue_64 : decode cX11_worldsTrue 64 = .ok (.iastore, 1) := by decide +kernel
theorem dX11_worldsTrue_65 : decode cX11_worldsTrue 65 = .ok (.aload_n 0, 1) := by decide +kernel
theorem dX11_worldsTrue_66 : decode cX11_worldsTrue 66 = .ok (.getfield 7, 3) := by decide +kernel
theorem dX11_worldsTrue_69 : decode cX11_worldsTrue 69 = .ok (.iconst 2, 1) := by decide +kernel
theorem dX11_worldsTrue_70 : decode cX11_worldsTrue 70 = .ok (.iload 5, 2) := by decide +kernel
theorem dX11_worldsTrue_72 : decode cX11_worldsTrue 72 = .ok (.aload_n 0, 1) := by decide +kernel
theorem dX11_worldsTrue_73 : decode cX11_worldsTrue 73 = .ok (.getfield 7, 3) := by decide +kernel
theorem dX11_worldsTrue_76 : decode cX11_worldsTrue 76 = .ok (.iconst 0, 1) := by decide +kernel
theorem dX11_worldsTrue_77 : decode cX11_worldsTrue 77 = .ok (.iaload, 1) := by decide +kernel
theorem dX11_worldsTrue_78 : decode cX11_worldsTrue 78 = .ok (.ishr, 1) := by decide +kernel
theorem dX11_worldsTrue_79 : decode cX11_worldsTrue 79 = .ok (.iastore, 1) := by decide +kernel
theorem dX11_worldsTrue_80 : decode cX11_worldsTrue 80 = .ok (.iload 4, 2) := by decide +kernel
theorem dX11_worldsTrue_82 : decode cX11_worldsTrue 82 = .ok (.aload_n 0, 1) := by decide +kernel
theorem dX11_worldsTrue_83 : decode cX11_worldsTrue 83 = .ok (.iconst 0, 1) := by decide +kernel
theorem dX11_worldsTrue_84 : decode cX11_worldsTrue 84 = .ok (.invokevirtual 219, 3) := by decide +kernel
theorem dX11_worldsTrue_87 : decode cX11_worldsTrue 87 = .ok (.ifCond .eq 7, 3) := by decide +kernel
theorem dX11_worldsTrue_90 : decode cX11_worldsTrue 90 = .ok (.iconst 1, 1) := by decide +kernel
theorem dX11_worldsTrue_91 : decode cX11_worldsTrue 91 = .ok (.goto 4, 3) := by decide +kernel
theorem dX11_worldsTrue_94 : decode cX11_worldsTrue 94 = .ok (.iconst 0, 1) := by decide +kernel
theorem dX11_worldsTrue_95 : decode cX11_worldsTrue 95 = .ok (.iadd, 1) := by decide +kernel
theorem dX11_worldsTrue_96 : decode cX11_worldsTrue 96 = .ok (.istore 4, 2) := by decide +kernel
theorem dX11_worldsTrue_98 : decode cX11_worldsTrue 98 = .ok (.iinc 5 1, 3) := by decide +kernel
theorem dX11_worldsTrue_101 : decode cX11_worldsTrue 101 = .ok (.goto (-64), 3) := by decide +kernel
theorem dX11_worldsTrue_104 : decode cX11_worldsTrue 104 = .ok (.aload_n 0, 1) := by decide +kernel
theorem dX11_worldsTrue_105 : decode cX11_worldsTrue 105 = .ok (.getfield 7, 3) := by decide +kernel
theorem dX11_worldsTrue_108 : decode cX11_worldsTrue 108 = .ok (.iconst 1, 1) := by decide +kernel
theorem dX11_worldsTrue_109 : decode cX11_worldsTrue 109 = .ok (.iload_n 2, 1) := by decide +kernel
theorem dX11_worldsTrue_110 : decode cX11_worldsTrue 110 = .ok (.iastore, 1) := by decide +kernel
theorem dX11_worldsTrue_111 : decode cX11_worldsTrue 111 = .ok (.aload_n 0, 1) := by decide +kernel
theorem dX11_worldsTrue_112 : decode cX11_worldsTrue 112 = .ok (.getfield 7, 3) := by decide +kernel
theorem dX11_worldsTrue_115 : decode cX11_worldsTrue 115 = .ok (.iconst 2, 1) := by decide +kernel
theorem dX11_worldsTrue_116 : decode cX11_worldsTrue 116 = .ok (.iload_n 3, 1) := by decide +kernel
theorem dX11_worldsTrue_117 : decode cX11_worldsTrue 117 = .ok (.iastore, 1) := by decide +kernel
theorem dX11_worldsTrue_118 : decode cX11_worldsTrue 118 = .ok (.iload 4, 2) := by decide +kernel
theorem dX11_worldsTrue_120 : decode cX11_worldsTrue 120 = .ok (.ireturn, 1) := by decide +kernel
theorem dX11_historySize_0 : decode cX11_historySize 0 = .ok (.aload_n 0, 1) := by decide +kernel
theorem dX11_historySize_1 : decode cX11_historySize 1 = .ok (.getfield 59, 3) := by decide +kernel
theorem dX11_historySize_4 : decode cX11_historySize 4 = .ok (.ireturn, 1) := by decide +kernel
theorem dX11_undo_0 : decode cX11_undo 0 = .ok (.aload_n 0, 1) := by decide +kernel
theorem dX11_undo_1 : decode cX11_undo 1 = .ok (.getfield 59, 3) := by decide +kernel
theorem dX11_undo_4 : decode cX11_undo 4 = .ok (.ifCond .ne 6, 3) := by decide +kernel
theorem dX11_undo_7 : decode cX11_undo 7 = .ok (.bipush (-6), 2) := by decide +kernel
theorem dX11_undo_9 : decode cX11_undo 9 = .ok (.ireturn, 1) := by decide +kernel
theorem dX11_undo_10 : decode cX11_undo 10 = .ok (.aload_n 0, 1) := by decide +kernel
theorem dX11_undo_11 : decode cX11_undo 11 = .ok (.dup, 1) := by decide +kernel
theorem dX11_undo_12 : decode cX11_undo 12 = .ok (.getfield 59, 3) := by decide +kernel
theorem dX11_undo_15 : decode cX11_undo 15 = .ok (.iconst 1, 1) := by decide +kernel
theorem dX11_undo_16 : decode cX11_undo 16 = .ok (.isub, 1) := by decide +kernel
theorem dX11_undo_17 : decode cX11_undo 17 = .ok (.putfield 59, 3) := by decide +kernel
theorem dX11_undo_20 : decode cX11_undo 20 = .ok (.iconst 0, 1) := by decide +kernel
theorem dX11_undo_21 : decode cX11_undo 21 = .ok (.istore_n 1, 1) := by decide +kernel
theorem dX11_undo_22 : decode cX11_undo 22 = .ok (.iload_n 1, 1) := by decide +kernel
theorem dX11_undo_23 : decode cX11_undo 23 = .ok (.bipush 25, 2) := by decide +kernel
theorem dX11_undo_25 : decode cX11_undo 25 = .ok (.if_icmp .ge 29, 3) := by decide +kernel
theorem dX11_undo_28 : decode cX11_undo 28 = .ok (.aload_n 0, 1) := by decide +kernel
theorem dX11_undo_29 : decode cX11_undo 29 = .ok (.getfield 7, 3) := by decide +kernel
theorem dX11_undo_32 : decode cX11_undo 32 = .ok (.iload_n 1, 1) := by decide +kernel
theorem dX11_undo_33 : decode cX11_undo 33 = .ok (.aload_n 0, 1) := by decide +kernel
theorem dX11_undo_34 : decode cX11_undo 34 = .ok (.getfield 13, 3) := by decide +kernel
theorem dX11_undo_37 : decode cX11_undo 37 = .ok (.bipush 25, 2) := by decide +kernel
theorem dX11_undo_39 : decode cX11_undo 39 = .ok (.aload_n 0, 1) := by decide +kernel
theorem dX11_undo_40 : decode cX11_undo 40 = .ok (.getfield 59, 3) := by decide +kernel
theorem dX11_undo_43 : decode cX11_undo 43 = .ok (.imul, 1) := by decide +kernel
theorem dX11_undo_44 : decode cX11_undo 44 = .ok (.iload_n 1, 1) := by decide +kernel
theorem dX11_undo_45 : decode cX11_undo 45 = .ok (.iadd, 1) := by decide +kernel
theorem dX11_undo_46 : decode cX11_undo 46 = .ok (.iaload, 1) := by decide +kernel
theorem dX11_undo_47 : decode cX11_undo 47 = .ok (.iastore, 1) := by decide +kernel
theorem dX11_undo_48 : decode cX11_undo 48 = .ok (.iinc 1 1, 3) := by decide +kernel
theorem dX11_undo_51 : decode cX11_undo 51 = .ok (.goto (-29), 3) := by decide +kernel
theorem dX11_undo_54 : decode cX11_undo 54 = .ok (.aload_n 0, 1) := by decide +kernel
theorem dX11_undo_55 : decode cX11_undo 55 = .ok (.getfield 59, 3) := by decide +kernel
theorem dX11_undo_58 : decode cX11_undo 58 = .ok (.ireturn, 1) := by decide +kernel
theorem dJ6_bitCount_0f7a4_0 : decode cJ6_bitCount_0f7a4 0 = .ok (.iload_n 0, 1) := by decide +kernel
theorem dJ6_bitCount_0f7a4_1 : decode cJ6_bitCount_0f7a4 1 = .ok (.iload_n 0, 1) := by decide +kernel
theorem dJ6_bitCount_0f7a4_2 : decode cJ6_bitCount_0f7a4 2 = .ok (.iconst 1, 1) := by decide +kernel
theorem dJ6_bitCount_0f7a4_3 : decode cJ6_bitCount_0f7a4 3 = .ok (.iushr, 1) := by decide +kernel
theorem dJ6_bitCount_0f7a4_4 : decode cJ6_bitCount_0f7a4 4 = .ok (.ldc_w 265, 3) := by decide +kernel
theorem dJ6_bitCount_0f7a4_7 : decode cJ6_bitCount_0f7a4 7 = .ok (.iand, 1) := by decide +kernel
theorem dJ6_bitCount_0f7a4_8 : decode cJ6_bitCount_0f7a4 8 = .ok (.isub, 1) := by decide +kernel
theorem dJ6_bitCount_0f7a4_9 : decode cJ6_bitCount_0f7a4 9 = .ok (.istore_n 0, 1) := by decide +kernel
theorem dJ6_bitCount_0f7a4_10 : decode cJ6_bitCount_0f7a4 10 = .ok (.iload_n 0, 1) := by decide +kernel
theorem dJ6_bitCount_0f7a4_11 : decode cJ6_bitCount_0f7a4 11 = .ok (.ldc_w 266, 3) := by decide +kernel
theorem dJ6_bitCount_0f7a4_14 : decode cJ6_bitCount_0f7a4 14 = .ok (.iand, 1) := by decide +kernel
theorem dJ6_bitCount_0f7a4_15 : decode cJ6_bitCount_0f7a4 15 = .ok (.iload_n 0, 1) := by decide +kernel
theorem dJ6_bitCount_0f7a4_16 : decode cJ6_bitCount_0f7a4 16 = .ok (.iconst 2, 1) := by decide +kernel
theorem dJ6_bitCount_0f7a4_17 : decode cJ6_bitCount_0f7a4 17 = .ok (.iushr, 1) := by decide +kernel
theorem dJ6_bitCount_0f7a4_18 : decode cJ6_bitCount_0f7a4 18 = .ok (.ldc_w 266, 3) := by decide +kernel
theorem dJ6_bitCount_0f7a4_21 : decode cJ6_bitCount_0f7a4 21 = .ok (.iand, 1) := by decide +kernel
theorem dJ6_bitCount_0f7a4_22 : decode cJ6_bitCount_0f7a4 22 = .ok (.iadd, 1) := by decide +kernel
theorem dJ6_bitCount_0f7a4_23 : decode cJ6_bitCount_0f7a4 23 = .ok (.istore_n 0, 1) := by decide +kernel
theorem dJ6_bitCount_0f7a4_24 : decode cJ6_bitCount_0f7a4 24 = .ok (.iload_n 0, 1) := by decide +kernel
theorem dJ6_bitCount_0f7a4_25 : decode cJ6_bitCount_0f7a4 25 = .ok (.iload_n 0, 1) := by decide +kernel
theorem dJ6_bitCount_0f7a4_26 : decode cJ6_bitCount_0f7a4 26 = .ok (.iconst 4, 1) := by decide +kernel
theorem dJ6_bitCount_0f7a4_27 : decode cJ6_bitCount_0f7a4 27 = .ok (.iushr, 1) := by decide +kernel
theorem dJ6_bitCount_0f7a4_28 : decode cJ6_bitCount_0f7a4 28 = .ok (.iadd, 1) := by decide +kernel
theorem dJ6_bitCount_0f7a4_29 : decode cJ6_bitCount_0f7a4 29 = .ok (.ldc_w 267, 3) := by decide +kernel
theorem dJ6_bitCount_0f7a4_32 : decode cJ6_bitCount_0f7a4 32 = .ok (.iand, 1) := by decide +kernel
theorem dJ6_bitCount_0f7a4_33 : decode cJ6_bitCount_0f7a4 33 = .ok (.istore_n 0, 1) := by decide +kernel
theorem dJ6_bitCount_0f7a4_34 : decode cJ6_bitCount_0f7a4 34 = .ok (.iload_n 0, 1) := by decide +kernel
theorem dJ6_bitCount_0f7a4_35 : decode cJ6_bitCount_0f7a4 35 = .ok (.iload_n 0, 1) := by decide +kernel
theorem dJ6_bitCount_0f7a4_36 : decode cJ6_bitCount_0f7a4 36 = .ok (.bipush 8, 2) := by decide +kernel
theorem dJ6_bitCount_0f7a4_38 : decode cJ6_bitCount_0f7a4 38 = .ok (.iushr, 1) := by decide +kernel
theorem dJ6_bitCount_0f7a4_39 : decode cJ6_bitCount_0f7a4 39 = .ok (.iadd, 1) := by decide +kernel
theorem dJ6_bitCount_0f7a4_40 : decode cJ6_bitCount_0f7a4 40 = .ok (.istore_n 0, 1) := by decide +kernel
theorem dJ6_bitCount_0f7a4_41 : decode cJ6_bitCount_0f7a4 41 = .ok (.iload_n 0, 1) := by decide +kernel
theorem dJ6_bitCount_0f7a4_42 : decode cJ6_bitCount_0f7a4 42 = .ok (.iload_n 0, 1) := by decide +kernel
theorem dJ6_bitCount_0f7a4_43 : decode cJ6_bitCount_0f7a4 43 = .ok (.bipush 16, 2) := by decide +kernel
theorem dJ6_bitCount_0f7a4_45 : decode cJ6_bitCount_0f7a4 45 = .ok (.iushr, 1) := by decide +kernel
theorem dJ6_bitCount_0f7a4_46 : decode cJ6_bitCount_0f7a4 46 = .ok (.iadd, 1) := by decide +kernel
theorem dJ6_bitCount_0f7a4_47 : decode cJ6_bitCount_0f7a4 47 = .ok (.istore_n 0, 1) := by decide +kernel
theorem dJ6_bitCount_0f7a4_48 : decode cJ6_bitCount_0f7a4 48 = .ok (.iload_n 0, 1) := by decide +kernel
theorem dJ6_bitCount_0f7a4_49 : decode cJ6_bitCount_0f7a4 49 = .ok (.bipush 63, 2) := by decide +kernel
theorem dJ6_bitCount_0f7a4_51 : decode cJ6_bitCount_0f7a4 51 = .ok (.iand, 1) := by decide +kernel
theorem dJ6_bitCount_0f7a4_52 : decode cJ6_bitCount_0f7a4 52 = .ok (.ireturn, 1) := by decide +kernel
theorem dJ13_bitCount_95d88_0 : decode cJ13_bitCount_95d88 0 = .ok (.lload_n 0, 1) := by decide +kernel
theorem dJ13_bitCount_95d88_1 : decode cJ13_bitCount_95d88 1 = .ok (.lload_n 0, 1) := by decide +kernel
theorem dJ13_bitCount_95d88_2 : decode cJ13_bitCount_95d88 2 = .ok (.iconst 1, 1) := by decide +kernel
theorem dJ13_bitCount_95d88_3 : decode cJ13_bitCount_95d88 3 = .ok (.lushr, 1) := by decide +kernel
theorem dJ13_bitCount_95d88_4 : decode cJ13_bitCount_95d88 4 = .ok (.ldc2_w 314, 3) := by decide +kernel
theorem dJ13_bitCount_95d88_7 : decode cJ13_bitCount_95d88 7 = .ok (.land, 1) := by decide +kernel
theorem dJ13_bitCount_95d88_8 : decode cJ13_bitCount_95d88 8 = .ok (.lsub, 1) := by decide +kernel
theorem dJ13_bitCount_95d88_9 : decode cJ13_bitCount_95d88 9 = .ok (.lstore_n 0, 1) := by decide +kernel
theorem dJ13_bitCount_95d88_10 : decode cJ13_bitCount_95d88 10 = .ok (.lload_n 0, 1) := by decide +kernel
theorem dJ13_bitCount_95d88_11 : decode cJ13_bitCount_95d88 11 = .ok (.ldc2_w 316, 3) := by decide +kernel
theorem dJ13_bitCount_95d88_14 : decode cJ13_bitCount_95d88 14 = .ok (.land, 1) := by decide +kernel
theorem dJ13_bitCount_95d88_15 : decode cJ13_bitCount_95d88 15 = .ok (.lload_n 0, 1) := by decide +kernel
theorem dJ13_bitCount_95d88_16 : decode cJ13_bitCount_95d88 16 = .ok (.iconst 2, 1) := by decide +kernel
theorem dJ13_bitCount_95d88_17 : decode cJ13_bitCount_95d88 17 = .ok (.lushr, 1) := by decide +kernel
theorem dJ13_bitCount_95d88_18 : decode cJ13_bitCount_95d88 18 = .ok (.ldc2_w 316, 3) := by decide +kernel
theorem dJ13_bitCount_95d88_21 : decode cJ13_bitCount_95d88 21 = .ok (.land, 1) := by decide +kernel
theorem dJ13_bitCount_95d88_22 : decode cJ13_bitCount_95d88 22 = .ok (.ladd, 1) := by decide +kernel
theorem dJ13_bitCount_95d88_23 : decode cJ13_bitCount_95d88 23 = .ok (.lstore_n 0, 1) := by decide +kernel
theorem dJ13_bitCount_95d88_24 : decode cJ13_bitCount_95d88 24 = .ok (.lload_n 0, 1) := by decide +kernel
theorem dJ13_bitCount_95d88_25 : decode cJ13_bitCount_95d88 25 = .ok (.lload_n 0, 1) := by decide +kernel
theorem dJ13_bitCount_95d88_26 : decode cJ13_bitCount_95d88 26 = .ok (.iconst 4, 1) := by decide +kernel
theorem dJ13_bitCount_95d88_27 : decode cJ13_bitCount_95d88 27 = .ok (.lushr, 1) := by decide +kernel
theorem dJ13_bitCount_95d88_28 : decode cJ13_bitCount_95d88 28 = .ok (.ladd, 1) := by decide +kernel
theorem dJ13_bitCount_95d88_29 : decode cJ13_bitCount_95d88 29 = .ok (.ldc2_w 318, 3) := by decide +kernel
theorem dJ13_bitCount_95d88_32 : decode cJ13_bitCount_95d88 32 = .ok (.land, 1) := by decide +kernel
theorem dJ13_bitCount_95d88_33 : decode cJ13_bitCount_95d88 33 = .ok (.lstore_n 0, 1) := by decide +kernel
theorem dJ13_bitCount_95d88_34 : decode cJ13_bitCount_95d88 34 = .ok (.lload_n 0, 1) := by decide +kernel
theorem dJ13_bitCount_95d88_35 : decode cJ13_bitCount_95d88 35 = .ok (.lload_n 0, 1) := by decide +kernel
theorem dJ13_bitCount_95d88_36 : decode cJ13_bitCount_95d88 36 = .ok (.bipush 8, 2) := by decide +kernel
theorem dJ13_bitCount_95d88_38 : decode cJ13_bitCount_95d88 38 = .ok (.lushr, 1) := by decide +kernel
theorem dJ13_bitCount_95d88_39 : decode cJ13_bitCount_95d88 39 = .ok (.ladd, 1) := by decide +kernel
theorem dJ13_bitCount_95d88_40 : decode cJ13_bitCount_95d88 40 = .ok (.lstore_n 0, 1) := by decide +kernel
theorem dJ13_bitCount_95d88_41 : decode cJ13_bitCount_95d88 41 = .ok (.lload_n 0, 1) := by decide +kernel
theorem dJ13_bitCount_95d88_42 : decode cJ13_bitCount_95d88 42 = .ok (.lload_n 0, 1) := by decide +kernel
theorem dJ13_bitCount_95d88_43 : decode cJ13_bitCount_95d88 43 = .ok (.bipush 16, 2) := by decide +kernel
theorem dJ13_bitCount_95d88_45 : decode cJ13_bitCount_95d88 45 = .ok (.lushr, 1) := by decide +kernel
theorem dJ13_bitCount_95d88_46 : decode cJ13_bitCount_95d88 46 = .ok (.ladd, 1) := by decide +kernel
theorem dJ13_bitCount_95d88_47 : decode cJ13_bitCount_95d88 47 = .ok (.lstore_n 0, 1) := by decide +kernel
theorem dJ13_bitCount_95d88_48 : decode cJ13_bitCount_95d88 48 = .ok (.lload_n 0, 1) := by decide +kernel
theorem dJ13_bitCount_95d88_49 : decode cJ13_bitCount_95d88 49 = .ok (.lload_n 0, 1) := by decide +kernel
theorem dJ13_bitCount_95d88_50 : decode cJ13_bitCount_95d88 50 = .ok (.bipush 32, 2) := by decide +kernel
theorem dJ13_bitCount_95d88_52 : decode cJ13_bitCount_95d88 52 = .ok (.lushr, 1) := by decide +kernel
theorem dJ13_bitCount_95d88_53 : decode cJ13_bitCount_95d88 53 = .ok (.ladd, 1) := by decide +kernel
theorem dJ13_bitCount_95d88_54 : decode cJ13_bitCount_95d88 54 = .ok (.lstore_n 0, 1) := by decide +kernel
theorem dJ13_bitCount_95d88_55 : decode cJ13_bitCount_95d88 55 = .ok (.lload_n 0, 1) := by decide +kernel
theorem dJ13_bitCount_95d88_56 : decode cJ13_bitCount_95d88 56 = .ok (.l2i, 1) := by decide +kernel
theorem dJ13_bitCount_95d88_57 : decode cJ13_bitCount_95d88 57 = .ok (.bipush 127, 2) := by decide +kernel
theorem dJ13_bitCount_95d88_59 : decode cJ13_bitCount_95d88 59 = .ok (.iand, 1) := by decide +kernel
theorem dJ13_bitCount_95d88_60 : decode cJ13_bitCount_95d88 60 = .ok (.ireturn, 1) := by decide +kernel
theorem dJ9_min_7cf53_0 : decode cJ9_min_7cf53 0 = .ok (.iload_n 0, 1) := by decide +kernel
theorem dJ9_min_7cf53_1 : decode cJ9_min_7cf53 1 = .ok (.iload_n 1, 1) := by decide +kernel
theorem dJ9_min_7cf53_2 : decode cJ9_min_7cf53 2 = .ok (.if_icmp .gt 7, 3) := by decide +kernel
theorem dJ9_min_7cf53_5 : decode cJ9_min_7cf53 5 = .ok (.iload_n 0, 1) := by decide +kernel
theorem dJ9_min_7cf53_6 : decode cJ9_min_7cf53 6 = .ok (.goto 4, 3) := by decide +kernel
theorem dJ9_min_7cf53_9 : decode cJ9_min_7cf53 9 = .ok (.iload_n 1, 1) := by decide +kernel
theorem dJ9_min_7cf53_10 : decode cJ9_min_7cf53 10 = .ok (.ireturn, 1) := by decide +kernel
theorem dL_law_0 : decode cL_law 0 = .ok (.new 7, 3) := by decide +kernel
theorem dL_law_3 : decode cL_law 3 = .ok (.dup, 1) := by decide +kernel
theorem dL_law_4 : decode cL_law 4 = .ok (.invokespecial 9, 3) := by decide +kernel
theorem dL_law_7 : decode cL_law 7 = .ok (.astore_n 1, 1) := by decide +kernel
theorem dL_law_8 : decode cL_law 8 = .ok (.new 10, 3) := by decide +kernel
theorem dL_law_11 : decode cL_law 11 = .ok (.dup, 1) := by decide +kernel
theorem dL_law_12 : decode cL_law 12 = .ok (.invokespecial 12, 3) := by decide +kernel
theorem dL_law_15 : decode cL_law 15 = .ok (.astore_n 2, 1) := by decide +kernel
theorem dL_law_16 : decode cL_law 16 = .ok (.iconst 0, 1) := by decide +kernel
theorem dL_law_17 : decode cL_law 17 = .ok (.istore_n 3, 1) := by decide +kernel
theorem dL_law_18 : decode cL_law 18 = .ok (.iload_n 3, 1) := by decide +kernel
theorem dL_law_19 : decode cL_law 19 = .ok (.aload_n 0, 1) := by decide +kernel
theorem dL_law_20 : decode cL_law 20 = .ok (.arraylength, 1) := by decide +kernel
theorem dL_law_21 : decode cL_law 21 = .ok (.iconst 5, 1) := by decide +kernel
theorem dL_law_22 : decode cL_law 22 = .ok (.isub, 1) := by decide +kernel
theorem dL_law_23 : decode cL_law 23 = .ok (.if_icmp .gt 707, 3) := by decide +kernel
theorem dL_law_26 : decode cL_law 26 = .ok (.aload_n 0, 1) := by decide +kernel
theorem dL_law_27 : decode cL_law 27 = .ok (.iload_n 3, 1) := by decide +kernel
theorem dL_law_28 : decode cL_law 28 = .ok (.iaload, 1) := by decide +kernel
theorem dL_law_29 : decode cL_law 29 = .ok (.bipush 31, 2) := by decide +kernel
theorem dL_law_31 : decode cL_law 31 = .ok (.iand, 1) := by decide +kernel
theorem dL_law_32 : decode cL_law 32 = .ok (.tableswitch 692 0 27 #[128, 151, 184, 237, 250, 273, 316, 339, 352, 365, 378, 391, 404, 417, 430, 453, 506, 519, 542, 555, 568, 581, 594, 617, 640, 653, 666, 679], 128) := by decide +kernel
theorem dL_law_160 : decode cL_law 160 = .ok (.aload_n 1, 1) := by decide +kernel
theorem dL_law_161 : decode cL_law 161 = .ok (.aload_n 0, 1) := by decide +kernel
theorem dL_law_162 : decode cL_law 162 = .ok (.iload_n 3, 1) := by decide +kernel
theorem dL_law_163 : decode cL_law 163 = .ok (.iconst 1, 1) := by decide +kernel
theorem dL_law_164 : decode cL_law 164 = .ok (.iadd, 1) := by decide +kernel
theorem dL_law_165 : decode cL_law 165 = .ok (.iaload, 1) := by decide +kernel
theorem dL_law_166 : decode cL_law 166 = .ok (.invokevirtual 13, 3) := by decide +kernel
theorem dL_law_169 : decode cL_law 169 = .ok (.aload_n 2, 1) := by decide +kernel
theorem dL_law_170 : decode cL_law 170 = .ok (.aload_n 0, 1) := by decide +kernel
theorem dL_law_171 : decode cL_law 171 = .ok (.iload_n 3, 1) := by decide +kernel
theorem dL_law_172 : decode cL_law 172 = .ok (.iconst 1, 1) := by decide +kernel
theorem dL_law_173 : decode cL_law 173 = .ok (.iadd, 1) := by decide +kernel
theorem dL_law_174 : decode cL_law 174 = .ok (.iaload, 1) := by decide +kernel
theorem dL_law_175 : decode cL_law 175 = .ok (.invokevirtual 17, 3) := by decide +kernel
theorem dL_law_178 : decode cL_law 178 = .ok (.if_icmp .eq 546, 3) := by decide +kernel
theorem dL_law_181 : decode cL_law 181 = .ok (.iconst 0, 1) := by decide +kernel
theorem dL_law_182 : decode cL_law 182 = .ok (.ireturn, 1) := by decide +kernel
theorem dL_law_183 : decode cL_law 183 = .ok (.aload_n 1, 1) := by decide +kernel
theorem dL_law_184 : decode cL_law 184 = .ok (.aload_n 0, 1) := by decide +kernel
theorem dL_law_185 : decode cL_law 185 = .ok (.iload_n 3, 1) := by decide +kernel
theorem dL_law_186 : decode cL_law 186 = .ok (.iconst 1, 1) := by decide +kernel
theorem dL_law_187 : decode cL_law 187 = .ok (.iadd, 1) := by decide +kernel
theorem dL_law_188 : decode cL_law 188 = .ok (.iaload, 1) := by decide +kernel
theorem dL_law_189 : decode cL_law 189 = .ok (.aload_n 0, 1) := by decide +kernel
theorem dL_law_190 : decode cL_law 190 = .ok (.iload_n 3, 1) := by decide +kernel
theorem dL_law_191 : decode cL_law 191 = .ok (.iconst 2, 1) := by decide +kernel
theorem dL_law_192 : decode cL_law 192 = .ok (.iadd, 1) := by decide +kernel
theorem dL_law_193 : decode cL_law 193 = .ok (.iaload, 1) := by decide +kernel
theorem dL_law_194 : decode cL_law 194 = .ok (.invokevirtual 18, 3) := by decide +kernel
theorem dL_law_197 : decode cL_law 197 = .ok (.aload_n 2, 1) := by decide +kernel
theorem dL_law_198 : decode cL_law 198 = .ok (.aload_n 0, 1) := by decide +kernel
theorem dL_law_199 : decode cL_law 199 = .ok (.iload_n 3, 1) := by decide +kernel
theorem dL_law_200 : decode cL_law 200 = .ok (.iconst 1, 1) := by decide +kernel
theorem dL_law_201 : decode cL_law 201 = .ok (.iadd, 1) := by decide +kernel
theorem dL_law_202 : decode cL_law 202 = .ok (.iaload, 1) := by decide +kernel
theorem dL_law_203 : decode cL_law 203 = .ok (.aload_n 0, 1) := by decide +kernel
theorem dL_law_204 : decode cL_law 204 = .ok (.iload_n 3, 1) := by decide +kernel
theorem dL_law_205 : decode cL_law 205 = .ok (.iconst 2, 1) := by decide +kernel
theorem dL_law_206 : decode cL_law 206 = .ok (.iadd, 1) := by decide +kernel
theorem dL_law_207 : decode cL_law 207 = .ok (.iaload, 1) := by decide +kernel
theorem dL_law_208 : decode cL_law 208 = .ok (.invokevirtual 22, 3) := by decide +kernel
theorem dL_law_211 : decode cL_law 211 = .ok (.if_icmp .eq 513, 3) := by decide +kernel
theorem dL_law_214 : decode cL_law 214 = .ok (.iconst 0, 1) := by decide +kernel
theorem dL_law_215 : decode cL_law 215 = .ok (.ireturn, 1) := by decide +kernel
theorem dL_law_216 : decode cL_law 216 = .ok (.aload_n 1, 1) := by decide +kernel
theorem dL_law_217 : decode cL_law 217 = .ok (.aload_n 0, 1) := by decide +kernel
theorem dL_law_218 : decode cL_law 218 = .ok (.iload_n 3, 1) := by decide +kernel
theorem dL_law_219 : decode cL_law 219 = .ok (.iconst 1, 1) := by decide +kernel
theorem dL_law_220 : decode cL_law 220 = .ok (.iadd, 1) := by decide +kernel
theorem dL_law_221 : decode cL_law 221 = .ok (.iaload, 1) := by decide +kernel
theorem dL_law_222 : decode cL_law 222 = .ok (.aload_n 0, 1) := by decide +kernel
theorem dL_law_223 : decode cL_law 223 = .ok (.iload_n 3, 1) := by decide +kernel
theorem dL_law_224 : decode cL_law 224 = .ok (.iconst 2, 1) := by decide +kernel
theorem dL_law_225 : decode cL_law 225 = .ok (.iadd, 1) := by decide +kernel
theorem dL_law_226 : decode cL_law 226 = .ok (.iaload, 1) := by decide +kernel
theorem dL_law_227 : decode cL_law 227 = .ok (.aload_n 0, 1) := by decide +kernel
theorem dL_law_228 : decode cL_law 228 = .ok (.iload_n 3, 1) := by decide +kernel
theorem dL_law_229 : decode cL_law 229 = .ok (.iconst 3, 1) := by decide +kernel
theorem dL_law_230 : decode cL_law 230 = .ok (.iadd, 1) := by decide +kernel
theorem dL_law_231 : decode cL_law 231 = .ok (.iaload, 1) := by decide +kernel
theorem dL_law_232 : decode cL_law 232 = .ok (.aload_n 0, 1) := by decide +kernel
theorem dL_law_233 : decode cL_law 233 = .ok (.iload_n 3, 1) := by decide +kernel
theorem dL_law_234 : decode cL_law 234 = .ok (.iconst 4, 1) := by decide +kernel
theorem dL_law_235 : decode cL_law 235 = .ok (.iadd, 1) := by decide +kernel
theorem dL_law_236 : decode cL_law 236 = .ok (.iaload, 1) := by decide +kernel
theorem dL_law_237 : decode cL_law 237 = .ok (.invokevirtual 23, 3) := by decide +kernel
theorem dL_law_240 : decode cL_law 240 = .ok (.aload_n 2, 1) := by decide +kernel
theorem dL_law_241 : decode cL_law 241 = .ok (.aload_n 0, 1) := by decide +kernel
theorem dL_law_242 : decode cL_law 242 = .ok (.iload_n 3, 1) := by decide +kernel
theorem dL_law_243 : decode cL_law 243 = .ok (.iconst 1, 1) := by decide +kernel
theorem dL_law_244 : decode cL_law 244 = .ok (.iadd, 1) := by decide +kernel
theorem dL_law_245 : decode cL_law 245 = .ok (.iaload, 1) := by decide +kernel
theorem dL_law_246 : decode cL_law 246 = .ok (.aload_n 0, 1) := by decide +kernel
theorem dL_law_247 : decode cL_law 247 = .ok (.iload_n 3, 1) := by decide +kernel
theorem dL_law_248 : decode cL_law 248 = .ok (.iconst 2, 1) := by decide +kernel
theorem dL_law_249 : decode cL_law 249 = .ok (.iadd, 1) := by decide +kernel
theorem dL_law_250 : decode cL_law 250 = .ok (.iaload, 1) := by decide +kernel
theorem dL_law_251 : decode cL_law 251 = .ok (.aload_n 0, 1) := by decide +kernel
theorem dL_law_252 : decode cL_law 252 = .ok (.iload_n 3, 1) := by decide +kernel
theorem dL_law_253 : decode cL_law 253 = .ok (.iconst 3, 1) := by decide +kernel
theorem dL_law_254 : decode cL_law 254 = .ok (.iadd, 1) := by decide +kernel
theorem dL_law_255 : decode cL_law 255 = .ok (.iaload, 1) := by decide +kernel
theorem dL_law_256 : decode cL_law 256 = .ok (.aload_n 0, 1) := by decide +kernel
theorem dL_law_257 : decode cL_law 257 = .ok (.iload_n 3, 1) := by decide +kernel
theorem dL_law_258 : decode cL_law 258 = .ok (.iconst 4, 1) := by decide +kernel
theorem dL_law_259 : decode cL_law 259 = .ok (.iadd, 1) := by decide +kernel
theorem dL_law_260 : decode cL_law 260 = .ok (.iaload, 1) := by decide +kernel
theorem dL_law_261 : decode cL_law 261 = .ok (.invokevirtual 27, 3) := by decide +kernel
theorem dL_law_264 : decode cL_law 264 = .ok (.if_icmp .eq 460, 3) := by decide +kernel
theorem dL_law_267 : decode cL_law 267 = .ok (.iconst 0, 1) := by decide +kernel
theorem dL_law_268 : decode cL_law 268 = .ok (.ireturn, 1) := by decide +kernel
theorem dL_law_269 : decode cL_law 269 = .ok (.aload_n 1, 1) := by decide +kernel
theorem dL_law_270 : decode cL_law 270 = .ok (.invokevirtual 28, 3) := by decide +kernel
theorem dL_law_273 : decode cL_law 273 = .ok (.aload_n 2, 1) := by decide +kernel
theorem dL_law_274 : decode cL_law 274 = .ok (.invokevirtual 32, 3) := by decide +kernel
theorem dL_law_277 : decode cL_law 277 = .ok (.if_icmp .eq 447, 3) := by decide +kernel
theorem dL_law_280 : decode cL_law 280 = .ok (.iconst 0, 1) := by decide +kernel
theorem dL_law_281 : decode cL_law 281 = .ok (.ireturn, 1) := by decide +kernel
theorem dL_law_282 : decode cL_law 282 = .ok (.aload_n 1, 1) := by decide +kernel
theorem dL_law_283 : decode cL_law 283 = .ok (.aload_n 0, 1) := by decide +kernel
theorem dL_law_284 : decode cL_law 284 = .ok (.iload_n 3, 1) := by decide +kernel
theorem dL_law_285 : decode cL_law 285 = .ok (.iconst 1, 1) := by decide +kernel
theorem dL_law_286 : decode cL_law 286 = .ok (.iadd, 1) := by decide +kernel
theorem dL_law_287 : decode cL_law 287 = .ok (.iaload, 1) := by decide +kernel
theorem dL_law_288 : decode cL_law 288 = .ok (.invokevirtual 33, 3) := by decide +kernel
theorem dL_law_291 : decode cL_law 291 = .ok (.aload_n 2, 1) := by decide +kernel
theorem dL_law_292 : decode cL_law 292 = .ok (.aload_n 0, 1) := by decide +kernel
theorem dL_law_293 : decode cL_law 293 = .ok (.iload_n 3, 1) := by decide +kernel
theorem dL_law_294 : decode cL_law 294 = .ok (.iconst 1, 1) := by decide +kernel
theorem dL_law_295 : decode cL_law 295 = .ok (.iadd, 1) := by decide +kernel
theorem dL_law_296 : decode cL_law 296 = .ok (.iaload, 1) := by decide +kernel
theorem dL_law_297 : decode cL_law 297 = .ok (.invokevirtual 36, 3) := by decide +kernel
theorem dL_law_300 : decode cL_law 300 = .ok (.if_icmp .eq 424, 3) := by decide +kernel
theorem dL_law_303 : decode cL_law 303 = .ok (.iconst 0, 1) := by decide +kernel
theorem dL_law_304 : decode cL_law 304 = .ok (.ireturn, 1) := by decide +kernel
theorem dL_law_305 : decode cL_law 305 = .ok (.aload_n 1, 1) := by decide +kernel
theorem dL_law_306 : decode cL_law 306 = .ok (.aload_n 0, 1) := by decide +kernel
theorem dL_law_307 : decode cL_law 307 = .ok (.iload_n 3, 1) := by decide +kernel
theorem dL_law_308 : decode cL_law 308 = .ok (.iconst 1, 1) := by decide +kernel
theorem dL_law_309 : decode cL_law 309 = .ok (.iadd, 1) := by decide +kernel
theorem dL_law_310 : decode cL_law 310 = .ok (.iaload, 1) := by decide +kernel
theorem dL_law_311 : decode cL_law 311 = .ok (.aload_n 0, 1) := by decide +kernel
theorem dL_law_312 : decode cL_law 312 = .ok (.iload_n 3, 1) := by decide +kernel
theorem dL_law_313 : decode cL_law 313 = .ok (.iconst 2, 1) := by decide +kernel
theorem dL_law_314 : decode cL_law 314 = .ok (.iadd, 1) := by decide +kernel
theorem dL_law_315 : decode cL_law 315 = .ok (.iaload, 1) := by decide +kernel
theorem dL_law_316 : decode cL_law 316 = .ok (.aload_n 0, 1) := by decide +kernel
theorem dL_law_317 : decode cL_law 317 = .ok (.iload_n 3, 1) := by decide +kernel
theorem dL_law_318 : decode cL_law 318 = .ok (.iconst 3, 1) := by decide +kernel
theorem dL_law_319 : decode cL_law 319 = .ok (.iadd, 1) := by decide +kernel
theorem dL_law_320 : decode cL_law 320 = .ok (.iaload, 1) := by decide +kernel
theorem dL_law_321 : decode cL_law 321 = .ok (.invokevirtual 37, 3) := by decide +kernel
theorem dL_law_324 : decode cL_law 324 = .ok (.aload_n 2, 1) := by decide +kernel
theorem dL_law_325 : decode cL_law 325 = .ok (.aload_n 0, 1) := by decide +kernel
theorem dL_law_326 : decode cL_law 326 = .ok (.iload_n 3, 1) := by decide +kernel
theorem dL_law_327 : decode cL_law 327 = .ok (.iconst 1, 1) := by decide +kernel
theorem dL_law_328 : decode cL_law 328 = .ok (.iadd, 1) := by decide +kernel
theorem dL_law_329 : decode cL_law 329 = .ok (.iaload, 1) := by decide +kernel
theorem dL_law_330 : decode cL_law 330 = .ok (.aload_n 0, 1) := by decide +kernel
theorem dL_law_331 : decode cL_law 331 = .ok (.iload_n 3, 1) := by decide +kernel
theorem dL_law_332 : decode cL_law 332 = .ok (.iconst 2, 1) := by decide +kernel
theorem dL_law_333 : decode cL_law 333 = .ok (.iadd, 1) := by decide +kernel
theorem dL_law_334 : decode cL_law 334 = .ok (.iaload, 1) := by decide +kernel
theorem dL_law_335 : decode cL_law 335 = .ok (.aload_n 0, 1) := by decide +kernel
theorem dL_law_336 : decode cL_law 336 = .ok (.iload_n 3, 1) := by decide +kernel
theorem dL_law_337 : decode cL_law 337 = .ok (.iconst 3, 1) := by decide +kernel
theorem dL_law_338 : decode cL_law 338 = .ok (.iadd, 1) := by decide +kernel
theorem dL_law_339 : decode cL_law 339 = .ok (.iaload, 1) := by decide +kernel
theorem dL_law_340 : decode cL_law 340 = .ok (.invokevirtual 41, 3) := by decide +kernel
theorem dL_law_343 : decode cL_law 343 = .ok (.if_icmp .eq 381, 3) := by decide +kernel
theorem dL_law_346 : decode cL_law 346 = .ok (.iconst 0, 1) := by decide +kernel
theorem dL_law_347 : decode cL_law 347 = .ok (.ireturn, 1) := by decide +kernel
theorem dL_law_348 : decode cL_law 348 = .ok (.aload_n 1, 1) := by decide +kernel
theorem dL_law_349 : decode cL_law 349 = .ok (.aload_n 0, 1) := by decide +kernel
theorem dL_law_350 : decode cL_law 350 = .ok (.iload_n 3, 1) := by decide +kernel
theorem dL_law_351 : decode cL_law 351 = .ok (.iconst 1, 1) := by decide +kernel
theorem dL_law_352 : decode cL_law 352 = .ok (.iadd, 1) := by decide +kernel
theorem dL_law_353 : decode cL_law 353 = .ok (.iaload, 1) := by decide +kernel
theorem dL_law_354 : decode cL_law 354 = .ok (.invokevirtual 42, 3) := by decide +kernel
theorem dL_law_357 : decode cL_law 357 = .ok (.aload_n 2, 1) := by decide +kernel
theorem dL_law_358 : decode cL_law 358 = .ok (.aload_n 0, 1) := by decide +kernel
theorem dL_law_359 : decode cL_law 359 = .ok (.iload_n 3, 1) := by decide +kernel
theorem dL_law_360 : decode cL_law 360 = .ok (.iconst 1, 1) := by decide +kernel
theorem dL_law_361 : decode cL_law 361 = .ok (.iadd, 1) := by decide +kernel
theorem dL_law_362 : decode cL_law 362 = .ok (.iaload, 1) := by decide +kernel
theorem dL_law_363 : decode cL_law 363 = .ok (.invokevirtual 45, 3) := by decide +kernel
theorem dL_law_366 : decode cL_law 366 = .ok (.if_icmp .eq 358, 3) := by decide +kernel
theorem dL_law_369 : decode cL_law 369 = .ok (.iconst 0, 1) := by decide +kernel
theorem dL_law_370 : decode cL_law 370 = .ok (.ireturn, 1) := by decide +kernel
theorem dL_law_371 : decode cL_law 371 = .ok (.aload_n 1, 1) := by decide +kernel
theorem dL_law_372 : decode cL_law 372 = .ok (.invokevirtual 46, 3) := by decide +kernel
theorem dL_law_375 : decode cL_law 375 = .ok (.aload_n 2, 1) := by decide +kernel
theorem dL_law_376 : decode cL_law 376 = .ok (.invokevirtual 49, 3) := by decide +kernel
theorem dL_law_379 : decode cL_law 379 = .ok (.if_icmp .eq 345, 3) := by decide +kernel
theorem dL_law_382 : decode cL_law 382 = .ok (.iconst 0, 1) := by decide +kernel
theorem dL_law_383 : decode cL_law 383 = .ok (.ireturn, 1) := by decide +kernel
theorem dL_law_384 : decode cL_law 384 = .ok (.aload_n 1, 1) := by decide +kernel
theorem dL_law_385 : decode cL_law 385 = .ok (.invokevirtual 50, 3) := by decide +kernel
theorem dL_law_388 : decode cL_law 388 = .ok (.aload_n 2, 1) := by decide +kernel
theorem dL_law_389 : decode cL_law 389 = .ok (.invokevirtual 53, 3) := by decide +kernel
theorem dL_law_392 : decode cL_law 392 = .ok (.if_icmp .eq 332, 3) := by decide +kernel
theorem dL_law_395 : decode cL_law 395 = .ok (.iconst 0, 1) := by decide +kernel
theorem dL_law_396 : decode cL_law 396 = .ok (.ireturn, 1) := by decide +kernel
theorem dL_law_397 : decode cL_law 397 = .ok (.aload_n 1, 1) := by decide +kernel
theorem dL_law_398 : decode cL_law 398 = .ok (.invokevirtual 54, 3) := by decide +kernel
theorem dL_law_401 : decode cL_law 401 = .ok (.aload_n 2, 1) := by decide +kernel
theorem dL_law_402 : decode cL_law 402 = .ok (.invokevirtual 57, 3) := by decide +kernel
theorem dL_law_405 : decode cL_law 405 = .ok (.if_icmp .eq 319, 3) := by decide +kernel
theorem dL_law_408 : decode cL_law 408 = .ok (.iconst 0, 1) := by decide +kernel
theorem dL_law_409 : decode cL_law 409 = .ok (.ireturn, 1) := by decide +kernel
theorem dL_law_410 : decode cL_law 410 = .ok (.aload_n 1, 1) := by decide +kernel
theorem dL_law_411 : decode cL_law 411 = .ok (.invokevirtual 58, 3) := by decide +kernel
theorem dL_law_414 : decode cL_law 414 = .ok (.aload_n 2, 1) := by decide +kernel
theorem dL_law_415 : decode cL_law 415 = .ok (.invokevirtual 61, 3) := by decide +kernel
theorem dL_law_418 : decode cL_law 418 = .ok (.if_icmp .eq 306, 3) := by decide +kernel
theorem dL_law_421 : decode cL_law 421 = .ok (.iconst 0, 1) := by decide +kernel
theorem dL_law_422 : decode cL_law 422 = .ok (.ireturn, 1) := by decide +kernel
theorem dL_law_423 : decode cL_law 423 = .ok (.aload_n 1, 1) := by decide +kernel
theorem dL_law_424 : decode cL_law 424 = .ok (.invokevirtual 62, 3) := by decide +kernel
theorem dL_law_427 : decode cL_law 427 = .ok (.aload_n 2, 1) := by decide +kernel
theorem dL_law_428 : decode cL_law 428 = .ok (.invokevirtual 65, 3) := by decide +kernel
theorem dL_law_431 : decode cL_law 431 = .ok (.if_icmp .eq 293, 3) := by decide +kernel
theorem dL_law_434 : decode cL_law 434 = .ok (.iconst 0, 1) := by decide +kernel
theorem dL_law_435 : decode cL_law 435 = .ok (.ireturn, 1) := by decide +kernel
theorem dL_law_436 : decode cL_law 436 = .ok (.aload_n 1, 1) := by decide +kernel
theorem dL_law_437 : decode cL_law 437 = .ok (.invokevirtual 66, 3) := by decide +kernel
theorem dL_law_440 : decode cL_law 440 = .ok (.aload_n 2, 1) := by decide +kernel
theorem dL_law_441 : decode cL_law 441 = .ok (.invokevirtual 69, 3) := by decide +kernel
theorem dL_law_444 : decode cL_law 444 = .ok (.if_icmp .eq 280, 3) := by decide +kernel
theorem dL_law_447 : decode cL_law 447 = .ok (.iconst 0, 1) := by decide +kernel
theorem dL_law_448 : decode cL_law 448 = .ok (.ireturn, 1) := by decide +kernel
theorem dL_law_449 : decode cL_law 449 = .ok (.aload_n 1, 1) := by decide +kernel
theorem dL_law_450 : decode cL_law 450 = .ok (.invokevirtual 70, 3) := by decide +kernel
theorem dL_law_453 : decode cL_law 453 = .ok (.aload_n 2, 1) := by decide +kernel
theorem dL_law_454 : decode cL_law 454 = .ok (.invokevirtual 73, 3) := by decide +kernel
theorem dL_law_457 : decode cL_law 457 = .ok (.if_icmp .eq 267, 3) := by decide +kernel
theorem dL_law_460 : decode cL_law 460 = .ok (.iconst 0, 1) := by decide +kernel
theorem dL_law_461 : decode cL_law 461 = .ok (.ireturn, 1) := by decide +kernel
theorem dL_law_462 : decode cL_law 462 = .ok (.aload_n 1, 1) := by decide +kernel
theorem dL_law_463 : decode cL_law 463 = .ok (.aload_n 0, 1) := by decide +kernel
theorem dL_law_464 : decode cL_law 464 = .ok (.iload_n 3, 1) := by decide +kernel
theorem dL_law_465 : decode cL_law 465 = .ok (.iconst 1, 1) := by decide +kernel
theorem dL_law_466 : decode cL_law 466 = .ok (.iadd, 1) := by decide +kernel
theorem dL_law_467 : decode cL_law 467 = .ok (.iaload, 1) := by decide +kernel
theorem dL_law_468 : decode cL_law 468 = .ok (.invokevirtual 74, 3) := by decide +kernel
theorem dL_law_471 : decode cL_law 471 = .ok (.aload_n 2, 1) := by decide +kernel
theorem dL_law_472 : decode cL_law 472 = .ok (.aload_n 0, 1) := by decide +kernel
theorem dL_law_473 : decode cL_law 473 = .ok (.iload_n 3, 1) := by decide +kernel
theorem dL_law_474 : decode cL_law 474 = .ok (.iconst 1, 1) := by decide +kernel
theorem dL_law_475 : decode cL_law 475 = .ok (.iadd, 1) := by decide +kernel
theorem dL_law_476 : decode cL_law 476 = .ok (.iaload, 1) := by decide +kernel
theorem dL_law_477 : decode cL_law 477 = .ok (.invokevirtual 77, 3) := by decide +kernel
theorem dL_law_480 : decode cL_law 480 = .ok (.if_icmp .eq 244, 3) := by decide +kernel
theorem dL_law_483 : decode cL_law 483 = .ok (.iconst 0, 1) := by decide +kernel
theorem dL_law_484 : decode cL_law 484 = .ok (.ireturn, 1) := by decide +kernel
theorem dL_law_485 : decode cL_law 485 = .ok (.aload_n 1, 1) := by decide +kernel
theorem dL_law_486 : decode cL_law 486 = .ok (.aload_n 0, 1) := by decide +kernel
theorem dL_law_487 : decode cL_law 487 = .ok (.iload_n 3, 1) := by decide +kernel
theorem dL_law_488 : decode cL_law 488 = .ok (.iconst 1, 1) := by decide +kernel
theorem dL_law_489 : decode cL_law 489 = .ok (.iadd, 1) := by decide +kernel
theorem dL_law_490 : decode cL_law 490 = .ok (.iaload, 1) := by decide +kernel
theorem dL_law_491 : decode cL_law 491 = .ok (.aload_n 0, 1) := by decide +kernel
theorem dL_law_492 : decode cL_law 492 = .ok (.iload_n 3, 1) := by decide +kernel
theorem dL_law_493 : decode cL_law 493 = .ok (.iconst 2, 1) := by decide +kernel
theorem dL_law_494 : decode cL_law 494 = .ok (.iadd, 1) := by decide +kernel
theorem dL_law_495 : decode cL_law 495 = .ok (.iaload, 1) := by decide +kernel
theorem dL_law_496 : decode cL_law 496 = .ok (.aload_n 0, 1) := by decide +kernel
theorem dL_law_497 : decode cL_law 497 = .ok (.iload_n 3, 1) := by decide +kernel
theorem dL_law_498 : decode cL_law 498 = .ok (.iconst 3, 1) := by decide +kernel
theorem dL_law_499 : decode cL_law 499 = .ok (.iadd, 1) := by decide +kernel
theorem dL_law_500 : decode cL_law 500 = .ok (.iaload, 1) := by decide +kernel
theorem dL_law_501 : decode cL_law 501 = .ok (.aload_n 0, 1) := by decide +kernel
theorem dL_law_502 : decode cL_law 502 = .ok (.iload_n 3, 1) := by decide +kernel
theorem dL_law_503 : decode cL_law 503 = .ok (.iconst 4, 1) := by decide +kernel
theorem dL_law_504 : decode cL_law 504 = .ok (.iadd, 1) := by decide +kernel
theorem dL_law_505 : decode cL_law 505 = .ok (.iaload, 1) := by decide +kernel
theorem dL_law_506 : decode cL_law 506 = .ok (.invokevirtual 78, 3) := by decide +kernel
theorem dL_law_509 : decode cL_law 509 = .ok (.aload_n 2, 1) := by decide +kernel
theorem dL_law_510 : decode cL_law 510 = .ok (.aload_n 0, 1) := by decide +kernel
theorem dL_law_511 : decode cL_law 511 = .ok (.iload_n 3, 1) := by decide +kernel
theorem dL_law_512 : decode cL_law 512 = .ok (.iconst 1, 1) := by decide +kernel
theorem dL_law_513 : decode cL_law 513 = .ok (.iadd, 1) := by decide +kernel
theorem dL_law_514 : decode cL_law 514 = .ok (.iaload, 1) := by decide +kernel
theorem dL_law_515 : decode cL_law 515 = .ok (.aload_n 0, 1) := by decide +kernel
theorem dL_law_516 : decode cL_law 516 = .ok (.iload_n 3, 1) := by decide +kernel
theorem dL_law_517 : decode cL_law 517 = .ok (.iconst 2, 1) := by decide +kernel
theorem dL_law_518 : decode cL_law 518 = .ok (.iadd, 1) := by decide +kernel
theorem dL_law_519 : decode cL_law 519 = .ok (.iaload, 1) := by decide +kernel
theorem dL_law_520 : decode cL_law 520 = .ok (.aload_n 0, 1) := by decide +kernel
theorem dL_law_521 : decode cL_law 521 = .ok (.iload_n 3, 1) := by decide +kernel
theorem dL_law_522 : decode cL_law 522 = .ok (.iconst 3, 1) := by decide +kernel
theorem dL_law_523 : decode cL_law 523 = .ok (.iadd, 1) := by decide +kernel
theorem dL_law_524 : decode cL_law 524 = .ok (.iaload, 1) := by decide +kernel
theorem dL_law_525 : decode cL_law 525 = .ok (.aload_n 0, 1) := by decide +kernel
theorem dL_law_526 : decode cL_law 526 = .ok (.iload_n 3, 1) := by decide +kernel
theorem dL_law_527 : decode cL_law 527 = .ok (.iconst 4, 1) := by decide +kernel
theorem dL_law_528 : decode cL_law 528 = .ok (.iadd, 1) := by decide +kernel
theorem dL_law_529 : decode cL_law 529 = .ok (.iaload, 1) := by decide +kernel
theorem dL_law_530 : decode cL_law 530 = .ok (.invokevirtual 81, 3) := by decide +kernel
theorem dL_law_533 : decode cL_law 533 = .ok (.if_icmp .eq 191, 3) := by decide +kernel
theorem dL_law_536 : decode cL_law 536 = .ok (.iconst 0, 1) := by decide +kernel
theorem dL_law_537 : decode cL_law 537 = .ok (.ireturn, 1) := by decide +kernel
theorem dL_law_538 : decode cL_law 538 = .ok (.aload_n 1, 1) := by decide +kernel
theorem dL_law_539 : decode cL_law 539 = .ok (.invokevirtual 82, 3) := by decide +kernel
theorem dL_law_542 : decode cL_law 542 = .ok (.aload_n 2, 1) := by decide +kernel
theorem dL_law_543 : decode cL_law 543 = .ok (.invokevirtual 85, 3) := by decide +kernel
theorem dL_law_546 : decode cL_law 546 = .ok (.if_icmp .eq 178, 3) := by decide +kernel
theorem dL_law_549 : decode cL_law 549 = .ok (.iconst 0, 1) := by decide +kernel
theorem dL_law_550 : decode cL_law 550 = .ok (.ireturn, 1) := by decide +kernel
theorem dL_law_551 : decode cL_law 551 = .ok (.aload_n 1, 1) := by decide +kernel
theorem dL_law_552 : decode cL_law 552 = .ok (.aload_n 0, 1) := by decide +kernel
theorem dL_law_553 : decode cL_law 553 = .ok (.iload_n 3, 1) := by decide +kernel
theorem dL_law_554 : decode cL_law 554 = .ok (.iconst 1, 1) := by decide +kernel
theorem dL_law_555 : decode cL_law 555 = .ok (.iadd, 1) := by decide +kernel
theorem dL_law_556 : decode cL_law 556 = .ok (.iaload, 1) := by decide +kernel
theorem dL_law_557 : decode cL_law 557 = .ok (.invokevirtual 86, 3) := by decide +kernel
theorem dL_law_560 : decode cL_law 560 = .ok (.aload_n 2, 1) := by decide +kernel
theorem dL_law_561 : decode cL_law 561 = .ok (.aload_n 0, 1) := by decide +kernel
theorem dL_law_562 : decode cL_law 562 = .ok (.iload_n 3, 1) := by decide +kernel
theorem dL_law_563 : decode cL_law 563 = .ok (.iconst 1, 1) := by decide +kernel
theorem dL_law_564 : decode cL_law 564 = .ok (.iadd, 1) := by decide +kernel
theorem dL_law_565 : decode cL_law 565 = .ok (.iaload, 1) := by decide +kernel
theorem dL_law_566 : decode cL_law 566 = .ok (.invokevirtual 89, 3) := by decide +kernel
theorem dL_law_569 : decode cL_law 569 = .ok (.if_icmp .eq 155, 3) := by decide +kernel
theorem dL_law_572 : decode cL_law 572 = .ok (.iconst 0, 1) := by decide +kernel
theorem dL_law_573 : decode cL_law 573 = .ok (.ireturn, 1) := by decide +kernel
theorem dL_law_574 : decode cL_law 574 = .ok (.aload_n 1, 1) := by decide +kernel
theorem dL_law_575 : decode cL_law 575 = .ok (.invokevirtual 90, 3) := by decide +kernel
theorem dL_law_578 : decode cL_law 578 = .ok (.aload_n 2, 1) := by decide +kernel
theorem dL_law_579 : decode cL_law 579 = .ok (.invokevirtual 93, 3) := by decide +kernel
theorem dL_law_582 : decode cL_law 582 = .ok (.if_icmp .eq 142, 3) := by decide +kernel
theorem dL_law_585 : decode cL_law 585 = .ok (.iconst 0, 1) := by decide +kernel
theorem dL_law_586 : decode cL_law 586 = .ok (.ireturn, 1) := by decide +kernel
theorem dL_law_587 : decode cL_law 587 = .ok (.aload_n 1, 1) := by decide +kernel
theorem dL_law_588 : decode cL_law 588 = .ok (.invokevirtual 94, 3) := by decide +kernel
theorem dL_law_591 : decode cL_law 591 = .ok (.aload_n 2, 1) := by decide +kernel
theorem dL_law_592 : decode cL_law 592 = .ok (.invokevirtual 97, 3) := by decide +kernel
theorem dL_law_595 : decode cL_law 595 = .ok (.if_icmp .eq 129, 3) := by decide +kernel
theorem dL_law_598 : decode cL_law 598 = .ok (.iconst 0, 1) := by decide +kernel
theorem dL_law_599 : decode cL_law 599 = .ok (.ireturn, 1) := by decide +kernel
theorem dL_law_600 : decode cL_law 600 = .ok (.aload_n 1, 1) := by decide +kernel
theorem dL_law_601 : decode cL_law 601 = .ok (.invokevirtual 98, 3) := by decide +kernel
theorem dL_law_604 : decode cL_law 604 = .ok (.aload_n 2, 1) := by decide +kernel
theorem dL_law_605 : decode cL_law 605 = .ok (.invokevirtual 101, 3) := by decide +kernel
theorem dL_law_608 : decode cL_law 608 = .ok (.if_icmp .eq 116, 3) := by decide +kernel
theorem dL_law_611 : decode cL_law 611 = .ok (.iconst 0, 1) := by decide +kernel
theorem dL_law_612 : decode cL_law 612 = .ok (.ireturn, 1) := by decide +kernel
theorem dL_law_613 : decode cL_law 613 = .ok (.aload_n 1, 1) := by decide +kernel
theorem dL_law_614 : decode cL_law 614 = .ok (.invokevirtual 102, 3) := by decide +kernel
theorem dL_law_617 : decode cL_law 617 = .ok (.aload_n 2, 1) := by decide +kernel
theorem dL_law_618 : decode cL_law 618 = .ok (.invokevirtual 105, 3) := by decide +kernel
theorem dL_law_621 : decode cL_law 621 = .ok (.if_icmp .eq 103, 3) := by decide +kernel
theorem dL_law_624 : decode cL_law 624 = .ok (.iconst 0, 1) := by decide +kernel
theorem dL_law_625 : decode cL_law 625 = .ok (.ireturn, 1) := by decide +kernel
theorem dL_law_626 : decode cL_law 626 = .ok (.aload_n 1, 1) := by decide +kernel
theorem dL_law_627 : decode cL_law 627 = .ok (.aload_n 0, 1) := by decide +kernel
theorem dL_law_628 : decode cL_law 628 = .ok (.iload_n 3, 1) := by decide +kernel
theorem dL_law_629 : decode cL_law 629 = .ok (.iconst 1, 1) := by decide +kernel
theorem dL_law_630 : decode cL_law 630 = .ok (.iadd, 1) := by decide +kernel
theorem dL_law_631 : decode cL_law 631 = .ok (.iaload, 1) := by decide +kernel
theorem dL_law_632 : decode cL_law 632 = .ok (.invokevirtual 106, 3) := by decide +kernel
theorem dL_law_635 : decode cL_law 635 = .ok (.aload_n 2, 1) := by decide +kernel
theorem dL_law_636 : decode cL_law 636 = .ok (.aload_n 0, 1) := by decide +kernel
theorem dL_law_637 : decode cL_law 637 = .ok (.iload_n 3, 1) := by decide +kernel
theorem dL_law_638 : decode cL_law 638 = .ok (.iconst 1, 1) := by decide +kernel
theorem dL_law_639 : decode cL_law 639 = .ok (.iadd, 1) := by decide +kernel
theorem dL_law_640 : decode cL_law 640 = .ok (.iaload, 1) := by decide +kernel
theorem dL_law_641 : decode cL_law 641 = .ok (.invokevirtual 109, 3) := by decide +kernel
theorem dL_law_644 : decode cL_law 644 = .ok (.if_icmp .eq 80, 3) := by decide +kernel
theorem dL_law_647 : decode cL_law 647 = .ok (.iconst 0, 1) := by decide +kernel
theorem dL_law_648 : decode cL_law 648 = .ok (.ireturn, 1) := by decide +kernel
theorem dL_law_649 : decode cL_law 649 = .ok (.aload_n 1, 1) := by decide +kernel
theorem dL_law_650 : decode cL_law 650 = .ok (.aload_n 0, 1) := by decide +kernel
theorem dL_law_651 : decode cL_law 651 = .ok (.iload_n 3, 1) := by decide +kernel
theorem dL_law_652 : decode cL_law 652 = .ok (.iconst 1, 1) := by decide +kernel
theorem dL_law_653 : decode cL_law 653 = .ok (.iadd, 1) := by decide +kernel
theorem dL_law_654 : decode cL_law 654 = .ok (.iaload, 1) := by decide +kernel
theorem dL_law_655 : decode cL_law 655 = .ok (.invokevirtual 110, 3) := by decide +kernel
theorem dL_law_658 : decode cL_law 658 = .ok (.aload_n 2, 1) := by decide +kernel
theorem dL_law_659 : decode cL_law 659 = .ok (.aload_n 0, 1) := by decide +kernel
theorem dL_law_660 : decode cL_law 660 = .ok (.iload_n 3, 1) := by decide +kernel
theorem dL_law_661 : decode cL_law 661 = .ok (.iconst 1, 1) := by decide +kernel
theorem dL_law_662 : decode cL_law 662 = .ok (.iadd, 1) := by decide +kernel
theorem dL_law_663 : decode cL_law 663 = .ok (.iaload, 1) := by decide +kernel
theorem dL_law_664 : decode cL_law 664 = .ok (.invokevirtual 113, 3) := by decide +kernel
theorem dL_law_667 : decode cL_law 667 = .ok (.if_icmp .eq 57, 3) := by decide +kernel
theorem dL_law_670 : decode cL_law 670 = .ok (.iconst 0, 1) := by decide +kernel
theorem dL_law_671 : decode cL_law 671 = .ok (.ireturn, 1) := by decide +kernel
theorem dL_law_672 : decode cL_law 672 = .ok (.aload_n 1, 1) := by decide +kernel
theorem dL_law_673 : decode cL_law 673 = .ok (.invokevirtual 114, 3) := by decide +kernel
theorem dL_law_676 : decode cL_law 676 = .ok (.aload_n 2, 1) := by decide +kernel
theorem dL_law_677 : decode cL_law 677 = .ok (.invokevirtual 117, 3) := by decide +kernel
theorem dL_law_680 : decode cL_law 680 = .ok (.if_icmp .eq 44, 3) := by decide +kernel
theorem dL_law_683 : decode cL_law 683 = .ok (.iconst 0, 1) := by decide +kernel
theorem dL_law_684 : decode cL_law 684 = .ok (.ireturn, 1) := by decide +kernel
theorem dL_law_685 : decode cL_law 685 = .ok (.aload_n 1, 1) := by decide +kernel
theorem dL_law_686 : decode cL_law 686 = .ok (.invokevirtual 118, 3) := by decide +kernel
theorem dL_law_689 : decode cL_law 689 = .ok (.aload_n 2, 1) := by decide +kernel
theorem dL_law_690 : decode cL_law 690 = .ok (.invokevirtual 121, 3) := by decide +kernel
theorem dL_law_693 : decode cL_law 693 = .ok (.if_icmp .eq 31, 3) := by decide +kernel
theorem dL_law_696 : decode cL_law 696 = .ok (.iconst 0, 1) := by decide +kernel
theorem dL_law_697 : decode cL_law 697 = .ok (.ireturn, 1) := by decide +kernel
theorem dL_law_698 : decode cL_law 698 = .ok (.aload_n 1, 1) := by decide +kernel
theorem dL_law_699 : decode cL_law 699 = .ok (.invokevirtual 122, 3) := by decide +kernel
theorem dL_law_702 : decode cL_law 702 = .ok (.aload_n 2, 1) := by decide +kernel
theorem dL_law_703 : decode cL_law 703 = .ok (.invokevirtual 125, 3) := by decide +kernel
theorem dL_law_706 : decode cL_law 706 = .ok (.if_icmp .eq 18, 3) := by decide +kernel
theorem dL_law_709 : decode cL_law 709 = .ok (.iconst 0, 1) := by decide +kernel
theorem dL_law_710 : decode cL_law 710 = .ok (.ireturn, 1) := by decide +kernel
theorem dL_law_711 : decode cL_law 711 = .ok (.aload_n 1, 1) := by decide +kernel
theorem dL_law_712 : decode cL_law 712 = .ok (.invokevirtual 126, 3) := by decide +kernel
theorem dL_law_715 : decode cL_law 715 = .ok (.aload_n 2, 1) := by decide +kernel
theorem dL_law_716 : decode cL_law 716 = .ok (.invokevirtual 129, 3) := by decide +kernel
theorem dL_law_719 : decode cL_law 719 = .ok (.if_icmp .eq 5, 3) := by decide +kernel
theorem dL_law_722 : decode cL_law 722 = .ok (.iconst 0, 1) := by decide +kernel
theorem dL_law_723 : decode cL_law 723 = .ok (.ireturn, 1) := by decide +kernel
theorem dL_law_724 : decode cL_law 724 = .ok (.iinc 3 5, 3) := by decide +kernel
theorem dL_law_727 : decode cL_law 727 = .ok (.goto (-709), 3) := by decide +kernel
theorem dL_law_730 : decode cL_law 730 = .ok (.iconst 1, 1) := by decide +kernel
theorem dL_law_731 : decode cL_law 731 = .ok (.ireturn, 1) := by decide +kernel
end
section
/-! ===== A VIRTUAL MACHINE: values, heap, one step a rule; vm_E is the least predicate that its rules close (a total-correctness judgement). Addresses are numbers from 0 on; the machine's own are these shifted. ===== -/
abbrev vV : Type := Int32 ⊕ (Int64 ⊕ (Option Nat ⊕ Unit))
abbrev vI (x : Int32) : vV := Sum.inl x
abbrev vJ (x : Int64) : vV := Sum.inr (Sum.inl x)
abbrev vR (r : Option Nat) : vV := Sum.inr (Sum.inr (Sum.inl r))
abbrev vX : vV := Sum.inr (Sum.inr (Sum.inr ()))
def vm_c2 : vV → Bool
  | .inr (.inl _) => true
  | _ => false
/-- ints, longs, references by address and place; the cells' kinds (class number, 0; or 20 + array type, length); the script -/
abbrev vH : Type := (Nat → Nat → Int32) × (Nat → Nat → Int64) × (Nat → Nat → Option Nat) × List (Nat × Nat) × (Nat × (Nat → Int32))
def hI (h : vH) : Nat → Nat → Int32 := h.1
def hL (h : vH) : Nat → Nat → Int64 := h.2.1
def hR (h : vH) : Nat → Nat → Option Nat := h.2.2.1
def hK (h : vH) : List (Nat × Nat) := h.2.2.2.1
def hX (h : vH) : Nat × (Nat → Int32) := h.2.2.2.2
def up2 {α : Type} (f : Nat → Nat → α) (a k : Nat) (v : α) : Nat → Nat → α := fun b j => if b = a ∧ j = k then v else f b j
def uI (h : vH) (a k : Nat) (v : Int32) : vH := (up2 (hI h) a k v, h.2)
def uL (h : vH) (a k : Nat) (v : Int64) : vH := (h.1, up2 (hL h) a k v, h.2.2)
def uR (h : vH) (a k : Nat) (v : Option Nat) : vH := (h.1, h.2.1, up2 (hR h) a k v, h.2.2.2)
def up1 {α : Type} (f : Nat → Nat → α) (a : Nat) (v : α) : Nat → Nat → α := fun b j => if b = a then v else f b j
/-- a new cell, all its places empty -/
def uN (h : vH) (kd : Nat × Nat) : vH := (up1 (hI h) (hK h).length 0, up1 (hL h) (hK h).length 0, up1 (hR h) (hK h).length none, hK h ++ [kd], hX h)
theorem up2_s {α : Type} (f : Nat → Nat → α) (a k : Nat) (v : α) : up2 f a k v a k = v := by simp [up2]
theorem up2_n {α : Type} (f : Nat → Nat → α) {a k b j : Nat} (v : α) (hn : ¬ (b = a ∧ j = k)) : up2 f a k v b j = f b j := by simp [up2, hn]
theorem hI_uI (h : vH) (a k : Nat) (v : Int32) (b j : Nat) : hI (uI h a k v) b j = if b = a ∧ j = k then v else hI h b j := rfl
theorem hL_uL (h : vH) (a k : Nat) (v : Int64) (b j : Nat) : hL (uL h a k v) b j = if b = a ∧ j = k then v else hL h b j := rfl
theorem hR_uR (h : vH) (a k : Nat) (v : Option Nat) (b j : Nat) : hR (uR h a k v) b j = if b = a ∧ j = k then v else hR h b j := rfl
theorem hI_uL (h : vH) (a k : Nat) (v : Int64) : hI (uL h a k v) = hI h := rfl
theorem hI_uR (h : vH) (a k : Nat) (v : Option Nat) : hI (uR h a k v) = hI h := rfl
theorem hL_uI (h : vH) (a k : Nat) (v : Int32) : hL (uI h a k v) = hL h := rfl
theorem hL_uR (h : vH) (a k : Nat) (v : Option Nat) : hL (uR h a k v) = hL h := rfl
theorem hR_uI (h : vH) (a k : Nat) (v : Int32) : hR (uI h a k v) = hR h := rfl
theorem hR_uL (h : vH) (a k : Nat) (v : Int64) : hR (uL h a k v) = hR h := rfl
theorem hK_uI (h : vH) (a k : Nat) (v : Int32) : hK (uI h a k v) = hK h := rfl
theorem hK_uL (h : vH) (a k : Nat) (v : Int64) : hK (uL h a k v) = hK h := rfl
theorem hK_uR (h : vH) (a k : Nat) (v : Option Nat) : hK (uR h a k v) = hK h := rfl
theorem hX_uI (h : vH) (a k : Nat) (v : Int32) : hX (uI h a k v) = hX h := rfl
theorem hX_uL (h : vH) (a k : Nat) (v : Int64) : hX (uL h a k v) = hX h := rfl
theorem hX_uR (h : vH) (a k : Nat) (v : Option Nat) : hX (uR h a k v) = hX h := rfl
/-- a method: name, code, its locals, its answer's type, its class, how many arguments (no receiver) -/
abbrev vM : Type := MethodName × ByteArray × Nat × Option FieldType × String × Nat
def mY (M : vM) : MethodName := M.1
def mB (M : vM) : ByteArray := M.2.1
def mL (M : vM) : Nat := M.2.2.1
def mT (M : vM) : Option FieldType := M.2.2.2.1
def mO (M : vM) : String := M.2.2.2.2.1
def mN (M : vM) : Nat := M.2.2.2.2.2
abbrev vCls : List vw_C := [(RX0, TX0, 5), (RX1, TX1, 1), (RX2, TX2, 3), (RX3, TX3, 3), (RX4, TX4, 1), (RX5, TX5, 12), (RX6, TX6, 5), (RX7, TX7, 5), (RX8, TX8, 2), (RX9, TX9, 3), (RX10, TX10, 10), (RX11, TX11, 29)]
def vm_n (ci : Nat) : Nat := match vCls[ci]? with
  | some q => q.2.2
  | none => 0
def vm_ft (ci : Nat) : Nat → FieldType := match ci with
  | 0 => tyX0
  | 1 => tyX1
  | 2 => tyX2
  | 3 => tyX3
  | 4 => tyX4
  | 5 => tyX5
  | 6 => tyX6
  | 7 => tyX7
  | 8 => tyX8
  | 9 => tyX9
  | 10 => tyX10
  | _ => tyX11
def vm_f (h : vH) (a k : Nat) (t : FieldType) : vV := match t with
  | .long => vJ (hL h a k)
  | .object _ => vR (hR h a k)
  | .array _ => vR (hR h a k)
  | _ => vI (hI h a k)
def vm_pf (h : vH) (a k : Nat) (v : vV) : vH := match v with
  | .inl x => uI h a k x
  | .inr (.inl y) => uL h a k y
  | .inr (.inr (.inl r)) => uR h a k r
  | .inr (.inr (.inr _)) => h
def vm_fit (t : FieldType) (v : vV) : Prop := match t, v with
  | .int, .inl _ => True
  | .boolean, .inl x => x = 0 ∨ x = 1
  | .long, .inr (.inl _) => True
  | .object _, .inr (.inr (.inl _)) => True
  | .array _, .inr (.inr (.inl _)) => True
  | _, _ => False
/-- what the tables say that callers hand on, and the words of nest mates -/
def vm_G : List Cond := lw_tbl.filter goodWord
def vm_nw : Cond → Bool
  | .fieldLinkNest .. => true
  | .methodLinkNest .. => true
  | _ => false
def vm_N : List Cond := lw_tbl.filter vm_nw
theorem vm_inG {w : Cond} {i : Nat} (h : lw_tbl[i]? = some w) (g : goodWord w = true) : w ∈ vm_G := List.mem_filter.mpr ⟨List.mem_of_getElem? h, g⟩
theorem vm_inN {w : Cond} {i : Nat} (h : lw_tbl[i]? = some w) (g : vm_nw w = true) : w ∈ vm_N := List.mem_filter.mpr ⟨List.mem_of_getElem? h, g⟩
/-- entry idx of class own's pool is field k of class ci -/
def vm_Fok (own : String) (idx ci k : Nat) : Prop := ∃ q : vw_C, vCls[ci]? = some q ∧ k < q.2.2 ∧ (q.2.1 k).1 = q.1 ∧
  (Cond.fieldLink own idx q.1 (q.2.1 k).2.1 (q.2.1 k).2.2.1 ∈ vm_G ∨ Cond.fieldLinkNest own idx q.1 (q.2.1 k).2.1 (q.2.1 k).2.2.1 "DiscourseContexts" ∈ vm_N)
def vm_fin (ci k : Nat) : Bool := match vCls[ci]? with
  | some q => (q.2.1 k).2.2.2
  | none => false
/-- a method of the tables -/
def vm_Mok (M : vM) : Prop := Cond.code (mY M) (mB M) (mL M) (mT M) ∈ vm_G ∧ Cond.initialized (mY M).cls ∈ vm_G ∧ ((mY M).cls ≠ "java/lang/invoke/MethodHandle" ∧ (mY M).cls ≠ "java/lang/invoke/VarHandle" ∧ (parseMethodDescriptor (mY M).desc).map (fun d => d.parameters.length) = some (mN M)) ∧ plainName (mY M).cls = true ∧ mL M ≤ 40 ∧ mO M = (mY M).cls
def vm_Lok (own : String) (idx : Nat) (y : MethodName) : Prop := Cond.methodLink own idx y ∈ vm_G ∨ Cond.methodLinkNest own idx y "DiscourseContexts" ∈ vm_N
/-- locals -/
def vm_kl (ls : List (Option vV)) (i : Nat) : List (Option vV) := match i with
  | 0 => ls
  | j + 1 => match ls[j]? with
    | some (some (.inr (.inl _))) => ls.set j none
    | _ => ls
def vm_s1 (ls : List (Option vV)) (i : Nat) (v : vV) : Option (List (Option vV)) := match ls[i]? with
  | some _ => some ((vm_kl ls i).set i (some v))
  | none => none
def vm_s2 (ls : List (Option vV)) (i : Nat) (v : vV) : Option (List (Option vV)) := match ls[i + 1]? with
  | some _ => some (((vm_kl ls i).set i (some v)).set (i + 1) none)
  | none => none
def vm_sl : List vV → List (Option vV)
  | [] => []
  | v :: r => bif vm_c2 v then some v :: none :: vm_sl r else some v :: vm_sl r
def vm_ent (nL : Nat) (av : List vV) : List (Option vV) := vm_sl av ++ List.replicate (nL - (vm_sl av).length) none
abbrev vL : Type := List (Option vV)
abbrev vT : Type := List vV
def vm_ld (ls : vL) (st : vT) (i : Nat) (f : vV → Bool) : Option (vL × vT) := match ls[i]? with
  | some (some v) => bif f v then some (ls, v :: st) else none
  | _ => none
def vm_isI : vV → Bool
  | .inl _ => true
  | _ => false
def vm_isJ : vV → Bool
  | .inr (.inl _) => true
  | _ => false
def vm_isR : vV → Bool
  | .inr (.inr _) => true
  | _ => false
def vm_isR0 : vV → Bool
  | .inr (.inr (.inl _)) => true
  | _ => false
def vm_sto (ls : vL) (st : vT) (i : Nat) (f : vV → Bool) (g : vL → Nat → vV → Option vL) : Option (vL × vT) := match st with
  | v :: r => bif f v then (g ls i v).map (fun l => (l, r)) else none
  | [] => none
def vm_ii (f : Int32 → Int32 → Int32) (ls : vL) (st : vT) : Option (vL × vT) := match st with
  | .inl y :: .inl x :: r => some (ls, vI (f x y) :: r)
  | _ => none
def vm_jj (f : Int64 → Int64 → Int64) (ls : vL) (st : vT) : Option (vL × vT) := match st with
  | .inr (.inl y) :: .inr (.inl x) :: r => some (ls, vJ (f x y) :: r)
  | _ => none
def vm_ji (f : Int64 → Int32 → Int64) (ls : vL) (st : vT) : Option (vL × vT) := match st with
  | .inl y :: .inr (.inl x) :: r => some (ls, vJ (f x y) :: r)
  | _ => none
def vm_i (f : Int32 → vV) (ls : vL) (st : vT) : Option (vL × vT) := match st with
  | .inl x :: r => some (ls, f x :: r)
  | _ => none
def vm_inc (ls : vL) (st : vT) (i : Nat) (k : Int) : Option (vL × vT) := match ls[i]? with
  | some (some (.inl x)) => (vm_s1 ls i (vI (x + Int32.ofInt k))).map (fun l => (l, st))
  | _ => none
/-- the instructions that touch locals and stack alone: length and what they do -/
def vm_op : Instr → Option (Nat × (vL → vT → Option (vL × vT)))
  | .iconst k => some (1, fun ls st => some (ls, vI (Int32.ofInt k) :: st))
  | .bipush k => some (2, fun ls st => some (ls, vI (Int8.ofInt k).toInt32 :: st))
  | .sipush k => some (3, fun ls st => some (ls, vI (Int16.ofInt k).toInt32 :: st))
  | .lconst k => some (1, fun ls st => some (ls, vJ (Int64.ofNat k) :: st))
  | .aconst_null => some (1, fun ls st => some (ls, vR none :: st))
  | .iload i => some (2, fun ls st => vm_ld ls st i vm_isI)
  | .iload_n i => some (1, fun ls st => vm_ld ls st i vm_isI)
  | .lload i => some (2, fun ls st => vm_ld ls st i vm_isJ)
  | .lload_n i => some (1, fun ls st => vm_ld ls st i vm_isJ)
  | .aload i => some (2, fun ls st => vm_ld ls st i vm_isR)
  | .aload_n i => some (1, fun ls st => vm_ld ls st i vm_isR)
  | .istore i => some (2, fun ls st => vm_sto ls st i vm_isI vm_s1)
  | .istore_n i => some (1, fun ls st => vm_sto ls st i vm_isI vm_s1)
  | .lstore i => some (2, fun ls st => vm_sto ls st i vm_isJ vm_s2)
  | .lstore_n i => some (1, fun ls st => vm_sto ls st i vm_isJ vm_s2)
  | .astore i => some (2, fun ls st => vm_sto ls st i vm_isR0 vm_s1)
  | .astore_n i => some (1, fun ls st => vm_sto ls st i vm_isR0 vm_s1)
  | .iinc i k => some (3, fun ls st => vm_inc ls st i k)
  | .iadd => some (1, vm_ii (fun x y => x + y))
  | .isub => some (1, vm_ii (fun x y => x - y))
  | .imul => some (1, vm_ii (fun x y => x * y))
  | .iand => some (1, vm_ii (fun x y => x &&& y))
  | .ior => some (1, vm_ii (fun x y => x ||| y))
  | .ixor => some (1, vm_ii (fun x y => x ^^^ y))
  | .ishl => some (1, vm_ii (fun x y => x <<< (y &&& 31)))
  | .ishr => some (1, vm_ii (fun x y => x >>> (y &&& 31)))
  | .iushr => some (1, vm_ii (fun x y => (x.toUInt32 >>> (y.toUInt32 &&& Int32.toUInt32 31)).toInt32))
  | .ladd => some (1, vm_jj (fun x y => x + y))
  | .lsub => some (1, vm_jj (fun x y => x - y))
  | .lmul => some (1, vm_jj (fun x y => x * y))
  | .land => some (1, vm_jj (fun x y => x &&& y))
  | .lor => some (1, vm_jj (fun x y => x ||| y))
  | .lxor => some (1, vm_jj (fun x y => x ^^^ y))
  | .lshl => some (1, vm_ji (fun x y => x <<< (y.toInt64 &&& 63)))
  | .lushr => some (1, vm_ji (fun x y => (x.toUInt64 >>> (y.toInt64.toUInt64 &&& Int64.toUInt64 63)).toInt64))
  | .lcmp => some (1, fun ls st => match st with
      | .inr (.inl y) :: .inr (.inl x) :: r => some (ls, vI (lg_cmp x y) :: r)
      | _ => none)
  | .i2l => some (1, vm_i (fun x => vJ x.toInt64))
  | .i2c => some (1, vm_i (fun x => vI (x.toUInt32 % 65536).toInt32))
  | .l2i => some (1, fun ls st => match st with
      | .inr (.inl x) :: r => some (ls, vI x.toInt32 :: r)
      | _ => none)
  | .dup => some (1, fun ls st => match st with
      | v :: r => bif vm_c2 v then none else some (ls, v :: v :: r)
      | _ => none)
  | .dup2 => some (1, fun ls st => match st with
      | v :: w :: r => bif vm_c2 v || vm_c2 w then none else some (ls, v :: w :: v :: w :: r)
      | _ => none)
  | .pop => some (1, fun ls st => match st with
      | v :: r => bif vm_c2 v then none else some (ls, r)
      | _ => none)
  | _ => none
def vm_opR (ins : Instr) (len : Nat) (ls : vL) (st : vT) : Option (vL × vT) := match vm_op ins with
  | some q => if q.1 = len then q.2 ls st else none
  | none => none
/-- branches over ints: what must hold, the offset, the rest -/
def vm_br (ins : Instr) (st : vT) : Option (Prop × Int × vT) := match ins, st with
  | .ifCond .eq o, .inl x :: r => some (x = 0, o, r)
  | .ifCond .ne o, .inl x :: r => some (¬ x = 0, o, r)
  | .ifCond .lt o, .inl x :: r => some (x < 0, o, r)
  | .ifCond .ge o, .inl x :: r => some (0 ≤ x, o, r)
  | .ifCond .gt o, .inl x :: r => some (0 < x, o, r)
  | .ifCond .le o, .inl x :: r => some (x ≤ 0, o, r)
  | .if_icmp .eq o, .inl y :: .inl x :: r => some (x = y, o, r)
  | .if_icmp .ne o, .inl y :: .inl x :: r => some (¬ x = y, o, r)
  | .if_icmp .lt o, .inl y :: .inl x :: r => some (x < y, o, r)
  | .if_icmp .ge o, .inl y :: .inl x :: r => some (y ≤ x, o, r)
  | .if_icmp .gt o, .inl y :: .inl x :: r => some (y < x, o, r)
  | .if_icmp .le o, .inl y :: .inl x :: r => some (x ≤ y, o, r)
  | .ifnull o, .inr (.inr (.inl a)) :: r => some (a = none, o, r)
  | .ifnonnull o, .inr (.inr (.inl a)) :: r => some (¬ a = none, o, r)
  | _, _ => none
def vm_tsw (x : Int32) (dflt lo hi : Int) (offs : Array Int) : Option Int := if x.toInt < lo ∨ hi < x.toInt then some dflt else offs[(x.toInt - lo).toNat]?
def vm_cats (st : vT) : Nat := match st with
  | [] => 0
  | v :: r => (bif vm_c2 v then 2 else 1) + vm_cats r
def vm_end (v : Option vV) : vT := match v with
  | none => []
  | some x => [x]
/-- a method's end: its instruction, its answer -/
def vm_ret (M : vM) (ins : Instr) (v : Option vV) : Prop := match ins, v with
  | .return_, none => mT M = none
  | .ireturn, some (.inl x) => ∃ ty, mT M = some ty ∧ narrow ty (.int x) = .int x
  | .lreturn, some (.inr (.inl _)) => mT M = some .long
  | .areturn, some (.inr (.inr (.inl _))) => ∃ n, mT M = some (.object n)
  | _, _ => False
abbrev vQ : Type := Option vV → vH → Prop
abbrev vP : Type := vM → Nat → Nat → Nat → Nat → vL → vT → vH → vQ → Prop
section VMR
variable (X : vP)
def vr_op : Prop := ∀ (M : vM) (d c n pc : Nat) (ls : vL) (st : vT) (h : vH) (Q : vQ) (ins : Instr) (len : Nat) (ls' : vL) (st' : vT), decode (mB M) pc = .ok (ins, len) → vm_opR ins len ls st = some (ls', st') → X M d c n (pc + len) ls' st' h Q → X M d c n pc ls st h Q
def vr_div : Prop := ∀ (M : vM) (d c n pc : Nat) (ls : vL) (x y : Int32) (st : vT) (h : vH) (Q : vQ), decode (mB M) pc = .ok (.idiv, 1) → ¬ y = 0 → X M d c n (pc + 1) ls (vI (x / y) :: st) h Q → X M d c n pc ls (vI y :: vI x :: st) h Q
def vr_rem : Prop := ∀ (M : vM) (d c n pc : Nat) (ls : vL) (x y : Int32) (st : vT) (h : vH) (Q : vQ), decode (mB M) pc = .ok (.irem, 1) → ¬ y = 0 → X M d c n (pc + 1) ls (vI (x - x / y * y) :: st) h Q → X M d c n pc ls (vI y :: vI x :: st) h Q
def vr_br : Prop := ∀ (M : vM) (d c n pc : Nat) (ls : vL) (st : vT) (h : vH) (Q : vQ) (ins : Instr) (P : Prop) (o : Int) (r : vT) (tgt : Nat), decode (mB M) pc = .ok (ins, 3) → vm_br ins st = some (P, o, r) → (pc : Int) + o = (tgt : Int) → (P → X M d c n tgt ls r h Q) → (¬ P → X M d c n (pc + 3) ls r h Q) → X M d c n pc ls st h Q
def vr_goto : Prop := ∀ (M : vM) (d c n pc : Nat) (ls : vL) (st : vT) (h : vH) (Q : vQ) (o : Int) (tgt : Nat), decode (mB M) pc = .ok (.goto o, 3) → (pc : Int) + o = (tgt : Int) → X M d c n tgt ls st h Q → X M d c n pc ls st h Q
def vr_tsw : Prop := ∀ (M : vM) (d c n pc : Nat) (ls : vL) (x : Int32) (st : vT) (h : vH) (Q : vQ) (dflt lo hi : Int) (offs : Array Int) (len : Nat) (o : Int) (tgt : Nat), decode (mB M) pc = .ok (.tableswitch dflt lo hi offs, len) → vm_tsw x dflt lo hi offs = some o → (pc : Int) + o = (tgt : Int) → X M d c n tgt ls st h Q → X M d c n pc ls (vI x :: st) h Q
def vr_lsw : Prop := ∀ (M : vM) (d c n pc : Nat) (ls : vL) (x : Int32) (st : vT) (h : vH) (Q : vQ) (dflt : Int) (ps : Array (Int × Int)) (len : Nat) (o : Int) (tgt : Nat), decode (mB M) pc = .ok (.lookupswitch dflt ps, len) → (ps.toList.zip (ps.toList.drop 1)).all (fun (a, next) => a.1 < next.1) = true → Op.lookupswitch.offset ps.toList dflt x.toInt = o → (pc : Int) + o = (tgt : Int) → X M d c n tgt ls st h Q → X M d c n pc ls (vI x :: st) h Q
def vr_ldc : Prop := ∀ (M : vM) (d c n pc : Nat) (ls : vL) (st : vT) (h : vH) (Q : vQ) (idx : Nat) (v : Int32), decode (mB M) pc = .ok (.ldc_w idx, 3) → Cond.constant (mO M) idx v ∈ vm_G → X M d c n (pc + 3) ls (vI v :: st) h Q → X M d c n pc ls st h Q
def vr_ldc2 : Prop := ∀ (M : vM) (d c n pc : Nat) (ls : vL) (st : vT) (h : vH) (Q : vQ) (idx : Nat) (v : Int64), decode (mB M) pc = .ok (.ldc2_w idx, 3) → Cond.constantLong (mO M) idx v ∈ vm_G → X M d c n (pc + 3) ls (vJ v :: st) h Q → X M d c n pc ls st h Q
def vr_get : Prop := ∀ (M : vM) (d c n pc : Nat) (ls : vL) (a : Nat) (st : vT) (h : vH) (Q : vQ) (idx ci k : Nat), decode (mB M) pc = .ok (.getfield idx, 3) → vm_Fok (mO M) idx ci k → (hK h)[a]? = some (ci, 0) → X M d c n (pc + 3) ls (vm_f h a k (vm_ft ci k) :: st) h Q → X M d c n pc ls (vR (some a) :: st) h Q
def vr_put : Prop := ∀ (M : vM) (d c n pc : Nat) (ls : vL) (v : vV) (a : Nat) (st : vT) (h : vH) (Q : vQ) (idx ci k : Nat), decode (mB M) pc = .ok (.putfield idx, 3) → vm_Fok (mO M) idx ci k → vm_fin ci k = false ∨ (mY M).name = "<init>" ∧ (∃ q : vw_C, vCls[ci]? = some q ∧ q.1 = mO M) ∧ (∃ q : vw_C, vCls[ci]? = some q ∧ Cond.fieldLink (mO M) idx q.1 (q.2.1 k).2.1 (q.2.1 k).2.2.1 ∈ vm_G) ∧ vm_fin ci k = true → (hK h)[a]? = some (ci, 0) → vm_fit (vm_ft ci k) v → X M d c n (pc + 3) ls st (vm_pf h a k v) Q → X M d c n pc ls (v :: vR (some a) :: st) h Q
def vr_ald : Prop := ∀ (M : vM) (d c n pc : Nat) (ls : vL) (i : Int32) (a : Nat) (st : vT) (h : vH) (Q : vQ) (ins : Instr) (t len : Nat), decode (mB M) pc = .ok (ins, 1) → (ins = .iaload ∧ t = 20 ∨ ins = .baload ∧ t = 21 ∨ ins = .caload ∧ t = 22) → (hK h)[a]? = some (t, len) → vp_in i len → X M d c n (pc + 1) ls (vI (hI h a i.toNatClampNeg) :: st) h Q → X M d c n pc ls (vI i :: vR (some a) :: st) h Q
def vr_lald : Prop := ∀ (M : vM) (d c n pc : Nat) (ls : vL) (i : Int32) (a : Nat) (st : vT) (h : vH) (Q : vQ) (len : Nat), decode (mB M) pc = .ok (.laload, 1) → (hK h)[a]? = some (23, len) → vp_in i len → X M d c n (pc + 1) ls (vJ (hL h a i.toNatClampNeg) :: st) h Q → X M d c n pc ls (vI i :: vR (some a) :: st) h Q
def vr_aald : Prop := ∀ (M : vM) (d c n pc : Nat) (ls : vL) (i : Int32) (a : Nat) (st : vT) (h : vH) (Q : vQ) (t len : Nat), decode (mB M) pc = .ok (.aaload, 1) → t = 24 ∨ t = 25 → (hK h)[a]? = some (t, len) → vp_in i len → X M d c n (pc + 1) ls (vR (hR h a i.toNatClampNeg) :: st) h Q → X M d c n pc ls (vI i :: vR (some a) :: st) h Q
def vr_ast : Prop := ∀ (M : vM) (d c n pc : Nat) (ls : vL) (x i : Int32) (a : Nat) (st : vT) (h : vH) (Q : vQ) (ins : Instr) (t len : Nat) (x' : Int32), decode (mB M) pc = .ok (ins, 1) → (ins = .iastore ∧ t = 20 ∧ x' = x ∨ ins = .bastore ∧ t = 21 ∧ x' = vp_nar .boolean x ∨ ins = .castore ∧ t = 22 ∧ x' = vp_nar .char x) → (hK h)[a]? = some (t, len) → vp_in i len → X M d c n (pc + 1) ls st (uI h a i.toNatClampNeg x') Q → X M d c n pc ls (vI x :: vI i :: vR (some a) :: st) h Q
def vr_last : Prop := ∀ (M : vM) (d c n pc : Nat) (ls : vL) (x : Int64) (i : Int32) (a : Nat) (st : vT) (h : vH) (Q : vQ) (len : Nat), decode (mB M) pc = .ok (.lastore, 1) → (hK h)[a]? = some (23, len) → vp_in i len → X M d c n (pc + 1) ls st (uL h a i.toNatClampNeg x) Q → X M d c n pc ls (vJ x :: vI i :: vR (some a) :: st) h Q
def vr_aast : Prop := ∀ (M : vM) (d c n pc : Nat) (ls : vL) (b : Nat) (i : Int32) (a : Nat) (st : vT) (h : vH) (Q : vQ) (t ci len : Nat), decode (mB M) pc = .ok (.aastore, 1) → (t = 24 ∧ ci = 7 ∨ t = 25 ∧ ci = 5) → (hK h)[a]? = some (t, len) → vp_in i len → (hK h)[b]? = some (ci, 0) → X M d c n (pc + 1) ls st (uR h a i.toNatClampNeg (some b)) Q → X M d c n pc ls (vR (some b) :: vI i :: vR (some a) :: st) h Q
def vr_sld : Prop := ∀ (M : vM) (d c n pc : Nat) (ls : vL) (i : Int32) (st : vT) (h : vH) (Q : vQ), decode (mB M) pc = .ok (.iaload, 1) → vp_in i (hX h).1 → X M d c n (pc + 1) ls (vI ((hX h).2 i.toNatClampNeg) :: st) h Q → X M d c n pc ls (vI i :: vX :: st) h Q
def vr_slen : Prop := ∀ (M : vM) (d c n pc : Nat) (ls : vL) (st : vT) (h : vH) (Q : vQ), decode (mB M) pc = .ok (.arraylength, 1) → X M d c n (pc + 1) ls (vI (Int32.ofNat (hX h).1) :: st) h Q → X M d c n pc ls (vX :: st) h Q
def vr_new : Prop := ∀ (M : vM) (d c n pc : Nat) (ls : vL) (st : vT) (h : vH) (Q : vQ) (idx ci : Nat) (q : vw_C), decode (mB M) pc = .ok (.new idx, 3) → vCls[ci]? = some q → Cond.classLink (mO M) idx q.1 ∈ vm_G → Cond.instantiable q.1 q.2.2 ∈ vm_G → Cond.initialized q.1 ∈ vm_G → 1 ≤ c → q.2.2 ≤ n → X M d (c - 1) (n - q.2.2) (pc + 3) ls (vR (some (hK h).length) :: st) (uN h (ci, 0)) Q → X M d c n pc ls st h Q
def vr_newa : Prop := ∀ (M : vM) (d c n pc : Nat) (ls : vL) (st : vT) (h : vH) (Q : vQ) (ty : ArrayType) (t N : Nat) (k : Int32), decode (mB M) pc = .ok (.newarray ty, 2) → (ty = .int ∧ t = 20 ∨ ty = .boolean ∧ t = 21 ∨ ty = .char ∧ t = 22 ∨ ty = .long ∧ t = 23) → ¬ k < 0 → k.toNatClampNeg = N → N ≤ 60000000 → 1 ≤ c → N ≤ n → X M d (c - 1) (n - N) (pc + 2) ls (vR (some (hK h).length) :: st) (uN h (t, N)) Q → X M d c n pc ls (vI k :: st) h Q
def vr_anew : Prop := ∀ (M : vM) (d c n pc : Nat) (ls : vL) (st : vT) (h : vH) (Q : vQ) (idx t N : Nat) (C : String) (k : Int32), decode (mB M) pc = .ok (.anewarray idx, 3) → (C = RX7 ∧ t = 24 ∨ C = RX5 ∧ t = 25) → Cond.classLink (mO M) idx C ∈ vm_G → ¬ k < 0 → k.toNatClampNeg = N → N ≤ 60000000 → 1 ≤ c → N ≤ n → X M d (c - 1) (n - N) (pc + 3) ls (vR (some (hK h).length) :: st) (uN h (t, N)) Q → X M d c n pc ls (vI k :: st) h Q
def vr_oin : Prop := ∀ (M : vM) (d c n pc : Nat) (ls : vL) (a : Nat) (st : vT) (h : vH) (Q : vQ) (idx : Nat), decode (mB M) pc = .ok (.invokespecial idx, 3) → Cond.methodLink (mO M) idx Lib.objectInit ∈ vm_G → vm_cats st ≤ 8 → 1 ≤ d → X M d c n (pc + 3) ls st h Q → X M d c n pc ls (vR (some a) :: st) h Q
def vr_inv : Prop := ∀ (M : vM) (d c n pc : Nat) (ls : vL) (a : Nat) (av st : vT) (h : vH) (Q : vQ) (idx ci c1 n1 : Nat) (K : vM) (R : vQ), decode (mB M) pc = .ok (.invokevirtual idx, 3) → vm_Mok K → vm_Lok (mO M) idx (mY K) → Cond.instanceMethod (mY K) ∈ vm_G → Cond.selects (mY K).cls (mY K) (mY K) ∈ vm_G → (∃ q : vw_C, vCls[ci]? = some q ∧ q.1 = (mY K).cls) → (hK h)[a]? = some (ci, 0) → av.length = mN K → (vm_sl (vR (some a) :: av)).length ≤ mL K → vm_cats st ≤ 8 → 1 ≤ d → c1 ≤ c → n1 ≤ n → X K (d - 1) c1 n1 0 (vm_ent (mL K) (vR (some a) :: av)) [] h R → (∀ r h', R r h' → X M d (c - c1) (n - n1) (pc + 3) ls (vm_end r ++ st) h' Q) → X M d c n pc ls (av.reverse ++ vR (some a) :: st) h Q
def vr_invS : Prop := ∀ (M : vM) (d c n pc : Nat) (ls : vL) (av st : vT) (h : vH) (Q : vQ) (idx c1 n1 : Nat) (K : vM) (R : vQ), decode (mB M) pc = .ok (.invokestatic idx, 3) → vm_Mok K → vm_Lok (mO M) idx (mY K) → Cond.static (mY K) ∈ vm_G → av.length = mN K → (vm_sl av).length ≤ mL K → vm_cats st ≤ 8 → 1 ≤ d → c1 ≤ c → n1 ≤ n → X K (d - 1) c1 n1 0 (vm_ent (mL K) av) [] h R → (∀ r h', R r h' → X M d (c - c1) (n - n1) (pc + 3) ls (vm_end r ++ st) h' Q) → X M d c n pc ls (av.reverse ++ st) h Q
def vr_invI : Prop := ∀ (M : vM) (d c n pc : Nat) (ls : vL) (a : Nat) (av st : vT) (h : vH) (Q : vQ) (idx c1 n1 : Nat) (K : vM) (R : vQ), decode (mB M) pc = .ok (.invokespecial idx, 3) → vm_Mok K → mT K = none → (mY K).name = "<init>" → vm_Lok (mO M) idx (mY K) → Cond.instanceMethod (mY K) ∈ vm_G → av.length = mN K → (vm_sl (vR (some a) :: av)).length ≤ mL K → vm_cats st ≤ 8 → 1 ≤ d → c1 ≤ c → n1 ≤ n → X K (d - 1) c1 n1 0 (vm_ent (mL K) (vR (some a) :: av)) [] h R → (∀ r h', R r h' → X M d (c - c1) (n - n1) (pc + 3) ls (vm_end r ++ st) h' Q) → X M d c n pc ls (av.reverse ++ vR (some a) :: st) h Q
def vr_end : Prop := ∀ (M : vM) (d c n pc : Nat) (ls : vL) (h : vH) (Q : vQ) (ins : Instr) (v : Option vV), decode (mB M) pc = .ok (ins, 1) → vm_ret M ins v → Q v h → X M d c n pc ls (vm_end v) h Q
def vr_min : Prop := ∀ (M : vM) (d c n pc : Nat) (ls : vL) (x y : Int32) (st : vT) (h : vH) (Q : vQ) (idx : Nat), decode (mB M) pc = .ok (.invokestatic idx, 3) → Cond.methodLink (mO M) idx Lib.Math.min.name ∈ vm_G → vm_cats st ≤ 8 → 1 ≤ d → X M d c n (pc + 3) ls (vI (if y < x then y else x) :: st) h Q → X M d c n pc ls (vI y :: vI x :: st) h Q
def vm_X : Prop := vr_op X ∧ vr_div X ∧ vr_rem X ∧ vr_br X ∧ vr_goto X ∧ vr_tsw X ∧ vr_lsw X ∧ vr_ldc X ∧ vr_ldc2 X ∧ vr_get X ∧ vr_put X ∧ vr_ald X ∧ vr_lald X ∧ vr_aald X ∧ vr_ast X ∧ vr_last X ∧ vr_aast X ∧ vr_sld X ∧ vr_slen X ∧ vr_new X ∧ vr_newa X ∧ vr_anew X ∧ vr_oin X ∧ vr_inv X ∧ vr_invS X ∧ vr_invI X ∧ vr_end X ∧ vr_min X
end VMR
/-- the machine comes from here to an end with Q -/
def vm_E (M : vM) (d c n pc : Nat) (ls : vL) (st : vT) (h : vH) (Q : vQ) : Prop := ∀ X : vP, vm_X X → X M d c n pc ls st h Q
/-- a call -/
def vm_C (K : vM) (d c n : Nat) (av : vT) (h : vH) (Q : vQ) : Prop := vm_E K d c n 0 (vm_ent (mL K) av) [] h Q
theorem ve_op {M : vM} {d c n pc : Nat} {ls : vL} {st : vT} {h : vH} {Q : vQ} {ins : Instr} {len : Nat} {ls' : vL} {st' : vT} (p0 : decode (mB M) pc = .ok (ins, len)) (p1 : vm_opR ins len ls st = some (ls', st')) (p2 : vm_E M d c n (pc + len) ls' st' h Q) : vm_E M d c n pc ls st h Q := fun X hX => hX.1 _ _ _ _ _ _ _ _ _ _ _ _ _ p0 p1 (p2 X hX)
theorem ve_div {M : vM} {d c n pc : Nat} {ls : vL} {x y : Int32} {st : vT} {h : vH} {Q : vQ} (p0 : decode (mB M) pc = .ok (.idiv, 1)) (p1 : ¬ y = 0) (p2 : vm_E M d c n (pc + 1) ls (vI (x / y) :: st) h Q) : vm_E M d c n pc ls (vI y :: vI x :: st) h Q := fun X hX => hX.2.1 _ _ _ _ _ _ _ _ _ _ _ p0 p1 (p2 X hX)
theorem ve_rem {M : vM} {d c n pc : Nat} {ls : vL} {x y : Int32} {st : vT} {h : vH} {Q : vQ} (p0 : decode (mB M) pc = .ok (.irem, 1)) (p1 : ¬ y = 0) (p2 : vm_E M d c n (pc + 1) ls (vI (x - x / y * y) :: st) h Q) : vm_E M d c n pc ls (vI y :: vI x :: st) h Q := fun X hX => hX.2.2.1 _ _ _ _ _ _ _ _ _ _ _ p0 p1 (p2 X hX)
theorem ve_br {M : vM} {d c n pc : Nat} {ls : vL} {st : vT} {h : vH} {Q : vQ} {ins : Instr} {P : Prop} {o : Int} {r : vT} {tgt : Nat} (p0 : decode (mB M) pc = .ok (ins, 3)) (p1 : vm_br ins st = some (P, o, r)) (p2 : (pc : Int) + o = (tgt : Int)) (p3 : (P → vm_E M d c n tgt ls r h Q)) (p4 : (¬ P → vm_E M d c n (pc + 3) ls r h Q)) : vm_E M d c n pc ls st h Q := fun X hX => hX.2.2.2.1 _ _ _ _ _ _ _ _ _ _ _ _ _ _ p0 p1 p2 (fun hc => p3 hc X hX) (fun hc => p4 hc X hX)
theorem ve_goto {M : vM} {d c n pc : Nat} {ls : vL} {st : vT} {h : vH} {Q : vQ} {o : Int} {tgt : Nat} (p0 : decode (mB M) pc = .ok (.goto o, 3)) (p1 : (pc : Int) + o = (tgt : Int)) (p2 : vm_E M d c n tgt ls st h Q) : vm_E M d c n pc ls st h Q := fun X hX => hX.2.2.2.2.1 _ _ _ _ _ _ _ _ _ _ _ p0 p1 (p2 X hX)
theorem ve_tsw {M : vM} {d c n pc : Nat} {ls : vL} {x : Int32} {st : vT} {h : vH} {Q : vQ} {dflt lo hi : Int} {offs : Array Int} {len : Nat} {o : Int} {tgt : Nat} (p0 : decode (mB M) pc = .ok (.tableswitch dflt lo hi offs, len)) (p1 : vm_tsw x dflt lo hi offs = some o) (p2 : (pc : Int) + o = (tgt : Int)) (p3 : vm_E M d c n tgt ls st h Q) : vm_E M d c n pc ls (vI x :: st) h Q := fun X hX => hX.2.2.2.2.2.1 _ _ _ _ _ _ _ _ _ _ _ _ _ _ _ _ _ p0 p1 p2 (p3 X hX)
theorem ve_lsw {M : vM} {d c n pc : Nat} {ls : vL} {x : Int32} {st : vT} {h : vH} {Q : vQ} {dflt : Int} {ps : Array (Int × Int)} {len : Nat} {o : Int} {tgt : Nat} (p0 : decode (mB M) pc = .ok (.lookupswitch dflt ps, len)) (p1 : (ps.toList.zip (ps.toList.drop 1)).all (fun (a, next) => a.1 < next.1) = true) (p2 : Op.lookupswitch.offset ps.toList dflt x.toInt = o) (p3 : (pc : Int) + o = (tgt : Int)) (p4 : vm_E M d c n tgt ls st h Q) : vm_E M d c n pc ls (vI x :: st) h Q := fun X hX => hX.2.2.2.2.2.2.1 _ _ _ _ _ _ _ _ _ _ _ _ _ _ _ p0 p1 p2 p3 (p4 X hX)
theorem ve_ldc {M : vM} {d c n pc : Nat} {ls : vL} {st : vT} {h : vH} {Q : vQ} {idx : Nat} {v : Int32} (p0 : decode (mB M) pc = .ok (.ldc_w idx, 3)) (p1 : Cond.constant (mO M) idx v ∈ vm_G) (p2 : vm_E M d c n (pc + 3) ls (vI v :: st) h Q) : vm_E M d c n pc ls st h Q := fun X hX => hX.2.2.2.2.2.2.2.1 _ _ _ _ _ _ _ _ _ _ _ p0 p1 (p2 X hX)
theorem ve_ldc2 {M : vM} {d c n pc : Nat} {ls : vL} {st : vT} {h : vH} {Q : vQ} {idx : Nat} {v : Int64} (p0 : decode (mB M) pc = .ok (.ldc2_w idx, 3)) (p1 : Cond.constantLong (mO M) idx v ∈ vm_G) (p2 : vm_E M d c n (pc + 3) ls (vJ v :: st) h Q) : vm_E M d c n pc ls st h Q := fun X hX => hX.2.2.2.2.2.2.2.2.1 _ _ _ _ _ _ _ _ _ _ _ p0 p1 (p2 X hX)
theorem ve_get {M : vM} {d c n pc : Nat} {ls : vL} {a : Nat} {st : vT} {h : vH} {Q : vQ} {idx ci k : Nat} (p0 : decode (mB M) pc = .ok (.getfield idx, 3)) (p1 : vm_Fok (mO M) idx ci k) (p2 : (hK h)[a]? = some (ci, 0)) (p3 : vm_E M d c n (pc + 3) ls (vm_f h a k (vm_ft ci k) :: st) h Q) : vm_E M d c n pc ls (vR (some a) :: st) h Q := fun X hX => hX.2.2.2.2.2.2.2.2.2.1 _ _ _ _ _ _ _ _ _ _ _ _ _ p0 p1 p2 (p3 X hX)
theorem ve_put {M : vM} {d c n pc : Nat} {ls : vL} {v : vV} {a : Nat} {st : vT} {h : vH} {Q : vQ} {idx ci k : Nat} (p0 : decode (mB M) pc = .ok (.putfield idx, 3)) (p1 : vm_Fok (mO M) idx ci k) (p2 : vm_fin ci k = false ∨ (mY M).name = "<init>" ∧ (∃ q : vw_C, vCls[ci]? = some q ∧ q.1 = mO M) ∧ (∃ q : vw_C, vCls[ci]? = some q ∧ Cond.fieldLink (mO M) idx q.1 (q.2.1 k).2.1 (q.2.1 k).2.2.1 ∈ vm_G) ∧ vm_fin ci k = true) (p3 : (hK h)[a]? = some (ci, 0)) (p4 : vm_fit (vm_ft ci k) v) (p5 : vm_E M d c n (pc + 3) ls st (vm_pf h a k v) Q) : vm_E M d c n pc ls (v :: vR (some a) :: st) h Q := fun X hX => hX.2.2.2.2.2.2.2.2.2.2.1 _ _ _ _ _ _ _ _ _ _ _ _ _ _ p0 p1 p2 p3 p4 (p5 X hX)
theorem ve_ald {M : vM} {d c n pc : Nat} {ls : vL} {i : Int32} {a : Nat} {st : vT} {h : vH} {Q : vQ} {ins : Instr} {t len : Nat} (p0 : decode (mB M) pc = .ok (ins, 1)) (p1 : (ins = .iaload ∧ t = 20 ∨ ins = .baload ∧ t = 21 ∨ ins = .caload ∧ t = 22)) (p2 : (hK h)[a]? = some (t, len)) (p3 : vp_in i len) (p4 : vm_E M d c n (pc + 1) ls (vI (hI h a i.toNatClampNeg) :: st) h Q) : vm_E M d c n pc ls (vI i :: vR (some a) :: st) h Q := fun X hX => hX.2.2.2.2.2.2.2.2.2.2.2.1 _ _ _ _ _ _ _ _ _ _ _ _ _ _ p0 p1 p2 p3 (p4 X hX)
theorem ve_lald {M : vM} {d c n pc : Nat} {ls : vL} {i : Int32} {a : Nat} {st : vT} {h : vH} {Q : vQ} {len : Nat} (p0 : decode (mB M) pc = .ok (.laload, 1)) (p1 : (hK h)[a]? = some (23, len)) (p2 : vp_in i len) (p3 : vm_E M d c n (pc + 1) ls (vJ (hL h a i.toNatClampNeg) :: st) h Q) : vm_E M d c n pc ls (vI i :: vR (some a) :: st) h Q := fun X hX => hX.2.2.2.2.2.2.2.2.2.2.2.2.1 _ _ _ _ _ _ _ _ _ _ _ _ p0 p1 p2 (p3 X hX)
theorem ve_aald {M : vM} {d c n pc : Nat} {ls : vL} {i : Int32} {a : Nat} {st : vT} {h : vH} {Q : vQ} {t len : Nat} (p0 : decode (mB M) pc = .ok (.aaload, 1)) (p1 : t = 24 ∨ t = 25) (p2 : (hK h)[a]? = some (t, len)) (p3 : vp_in i len) (p4 : vm_E M d c n (pc + 1) ls (vR (hR h a i.toNatClampNeg) :: st) h Q) : vm_E M d c n pc ls (vI i :: vR (some a) :: st) h Q := fun X hX => hX.2.2.2.2.2.2.2.2.2.2.2.2.2.1 _ _ _ _ _ _ _ _ _ _ _ _ _ p0 p1 p2 p3 (p4 X hX)
theorem ve_ast {M : vM} {d c n pc : Nat} {ls : vL} {x i : Int32} {a : Nat} {st : vT} {h : vH} {Q : vQ} {ins : Instr} {t len : Nat} {x' : Int32} (p0 : decode (mB M) pc = .ok (ins, 1)) (p1 : (ins = .iastore ∧ t = 20 ∧ x' = x ∨ ins = .bastore ∧ t = 21 ∧ x' = vp_nar .boolean x ∨ ins = .castore ∧ t = 22 ∧ x' = vp_nar .char x)) (p2 : (hK h)[a]? = some (t, len)) (p3 : vp_in i len) (p4 : vm_E M d c n (pc + 1) ls st (uI h a i.toNatClampNeg x') Q) : vm_E M d c n pc ls (vI x :: vI i :: vR (some a) :: st) h Q := fun X hX => hX.2.2.2.2.2.2.2.2.2.2.2.2.2.2.1 _ _ _ _ _ _ _ _ _ _ _ _ _ _ _ _ p0 p1 p2 p3 (p4 X hX)
theorem ve_last {M : vM} {d c n pc : Nat} {ls : vL} {x : Int64} {i : Int32} {a : Nat} {st : vT} {h : vH} {Q : vQ} {len : Nat} (p0 : decode (mB M) pc = .ok (.lastore, 1)) (p1 : (hK h)[a]? = some (23, len)) (p2 : vp_in i len) (p3 : vm_E M d c n (pc + 1) ls st (uL h a i.toNatClampNeg x) Q) : vm_E M d c n pc ls (vJ x :: vI i :: vR (some a) :: st) h Q := fun X hX => hX.2.2.2.2.2.2.2.2.2.2.2.2.2.2.2.1 _ _ _ _ _ _ _ _ _ _ _ _ _ p0 p1 p2 (p3 X hX)
theorem ve_aast {M : vM} {d c n pc : Nat} {ls : vL} {b : Nat} {i : Int32} {a : Nat} {st : vT} {h : vH} {Q : vQ} {t ci len : Nat} (p0 : decode (mB M) pc = .ok (.aastore, 1)) (p1 : (t = 24 ∧ ci = 7 ∨ t = 25 ∧ ci = 5)) (p2 : (hK h)[a]? = some (t, len)) (p3 : vp_in i len) (p4 : (hK h)[b]? = some (ci, 0)) (p5 : vm_E M d c n (pc + 1) ls st (uR h a i.toNatClampNeg (some b)) Q) : vm_E M d c n pc ls (vR (some b) :: vI i :: vR (some a) :: st) h Q := fun X hX => hX.2.2.2.2.2.2.2.2.2.2.2.2.2.2.2.2.1 _ _ _ _ _ _ _ _ _ _ _ _ _ _ _ p0 p1 p2 p3 p4 (p5 X hX)
theorem ve_sld {M : vM} {d c n pc : Nat} {ls : vL} {i : Int32} {st : vT} {h : vH} {Q : vQ} (p0 : decode (mB M) pc = .ok (.iaload, 1)) (p1 : vp_in i (hX h).1) (p2 : vm_E M d c n (pc + 1) ls (vI ((hX h).2 i.toNatClampNeg) :: st) h Q) : vm_E M d c n pc ls (vI i :: vX :: st) h Q := fun X hX => hX.2.2.2.2.2.2.2.2.2.2.2.2.2.2.2.2.2.1 _ _ _ _ _ _ _ _ _ _ p0 p1 (p2 X hX)
theorem ve_slen {M : vM} {d c n pc : Nat} {ls : vL} {st : vT} {h : vH} {Q : vQ} (p0 : decode (mB M) pc = .ok (.arraylength, 1)) (p1 : vm_E M d c n (pc + 1) ls (vI (Int32.ofNat (hX h).1) :: st) h Q) : vm_E M d c n pc ls (vX :: st) h Q := fun X hX => hX.2.2.2.2.2.2.2.2.2.2.2.2.2.2.2.2.2.2.1 _ _ _ _ _ _ _ _ _ p0 (p1 X hX)
theorem ve_new {M : vM} {d c n pc : Nat} {ls : vL} {st : vT} {h : vH} {Q : vQ} {idx ci : Nat} {q : vw_C} (p0 : decode (mB M) pc = .ok (.new idx, 3)) (p1 : vCls[ci]? = some q) (p2 : Cond.classLink (mO M) idx q.1 ∈ vm_G) (p3 : Cond.instantiable q.1 q.2.2 ∈ vm_G) (p4 : Cond.initialized q.1 ∈ vm_G) (p5 : 1 ≤ c) (p6 : q.2.2 ≤ n) (p7 : vm_E M d (c - 1) (n - q.2.2) (pc + 3) ls (vR (some (hK h).length) :: st) (uN h (ci, 0)) Q) : vm_E M d c n pc ls st h Q := fun X hX => hX.2.2.2.2.2.2.2.2.2.2.2.2.2.2.2.2.2.2.2.1 _ _ _ _ _ _ _ _ _ _ _ _ p0 p1 p2 p3 p4 p5 p6 (p7 X hX)
theorem ve_newa {M : vM} {d c n pc : Nat} {ls : vL} {st : vT} {h : vH} {Q : vQ} {ty : ArrayType} {t N : Nat} {k : Int32} (p0 : decode (mB M) pc = .ok (.newarray ty, 2)) (p1 : (ty = .int ∧ t = 20 ∨ ty = .boolean ∧ t = 21 ∨ ty = .char ∧ t = 22 ∨ ty = .long ∧ t = 23)) (p2 : ¬ k < 0) (p3 : k.toNatClampNeg = N) (p4 : N ≤ 60000000) (p5 : 1 ≤ c) (p6 : N ≤ n) (p7 : vm_E M d (c - 1) (n - N) (pc + 2) ls (vR (some (hK h).length) :: st) (uN h (t, N)) Q) : vm_E M d c n pc ls (vI k :: st) h Q := fun X hX => hX.2.2.2.2.2.2.2.2.2.2.2.2.2.2.2.2.2.2.2.2.1 _ _ _ _ _ _ _ _ _ _ _ _ _ p0 p1 p2 p3 p4 p5 p6 (p7 X hX)
theorem ve_anew {M : vM} {d c n pc : Nat} {ls : vL} {st : vT} {h : vH} {Q : vQ} {idx t N : Nat} {C : String} {k : Int32} (p0 : decode (mB M) pc = .ok (.anewarray idx, 3)) (p1 : (C = RX7 ∧ t = 24 ∨ C = RX5 ∧ t = 25)) (p2 : Cond.classLink (mO M) idx C ∈ vm_G) (p3 : ¬ k < 0) (p4 : k.toNatClampNeg = N) (p5 : N ≤ 60000000) (p6 : 1 ≤ c) (p7 : N ≤ n) (p8 : vm_E M d (c - 1) (n - N) (pc + 3) ls (vR (some (hK h).length) :: st) (uN h (t, N)) Q) : vm_E M d c n pc ls (vI k :: st) h Q := fun X hX => hX.2.2.2.2.2.2.2.2.2.2.2.2.2.2.2.2.2.2.2.2.2.1 _ _ _ _ _ _ _ _ _ _ _ _ _ _ p0 p1 p2 p3 p4 p5 p6 p7 (p8 X hX)
theorem ve_oin {M : vM} {d c n pc : Nat} {ls : vL} {a : Nat} {st : vT} {h : vH} {Q : vQ} {idx : Nat} (p0 : decode (mB M) pc = .ok (.invokespecial idx, 3)) (p1 : Cond.methodLink (mO M) idx Lib.objectInit ∈ vm_G) (p2 : vm_cats st ≤ 8) (p3 : 1 ≤ d) (p4 : vm_E M d c n (pc + 3) ls st h Q) : vm_E M d c n pc ls (vR (some a) :: st) h Q := fun X hX => hX.2.2.2.2.2.2.2.2.2.2.2.2.2.2.2.2.2.2.2.2.2.2.1 _ _ _ _ _ _ _ _ _ _ _ p0 p1 p2 p3 (p4 X hX)
theorem ve_inv {M : vM} {d c n pc : Nat} {ls : vL} {a : Nat} {av st : vT} {h : vH} {Q : vQ} {idx ci c1 n1 : Nat} {K : vM} {R : vQ} (p0 : decode (mB M) pc = .ok (.invokevirtual idx, 3)) (p1 : vm_Mok K) (p2 : vm_Lok (mO M) idx (mY K)) (p3 : Cond.instanceMethod (mY K) ∈ vm_G) (p4 : Cond.selects (mY K).cls (mY K) (mY K) ∈ vm_G) (p5 : (∃ q : vw_C, vCls[ci]? = some q ∧ q.1 = (mY K).cls)) (p6 : (hK h)[a]? = some (ci, 0)) (p7 : av.length = mN K) (p8 : (vm_sl (vR (some a) :: av)).length ≤ mL K) (p9 : vm_cats st ≤ 8) (p10 : 1 ≤ d) (p11 : c1 ≤ c) (p12 : n1 ≤ n) (p13 : vm_E K (d - 1) c1 n1 0 (vm_ent (mL K) (vR (some a) :: av)) [] h R) (p14 : (∀ r h', R r h' → vm_E M d (c - c1) (n - n1) (pc + 3) ls (vm_end r ++ st) h' Q)) : vm_E M d c n pc ls (av.reverse ++ vR (some a) :: st) h Q := fun X hX => hX.2.2.2.2.2.2.2.2.2.2.2.2.2.2.2.2.2.2.2.2.2.2.2.1 _ _ _ _ _ _ _ _ _ _ _ _ _ _ _ _ _ p0 p1 p2 p3 p4 p5 p6 p7 p8 p9 p10 p11 p12 (p13 X hX) (fun r h' hr => p14 r h' hr X hX)
theorem ve_invS {M : vM} {d c n pc : Nat} {ls : vL} {av st : vT} {h : vH} {Q : vQ} {idx c1 n1 : Nat} {K : vM} {R : vQ} (p0 : decode (mB M) pc = .ok (.invokestatic idx, 3)) (p1 : vm_Mok K) (p2 : vm_Lok (mO M) idx (mY K)) (p3 : Cond.static (mY K) ∈ vm_G) (p4 : av.length = mN K) (p5 : (vm_sl av).length ≤ mL K) (p6 : vm_cats st ≤ 8) (p7 : 1 ≤ d) (p8 : c1 ≤ c) (p9 : n1 ≤ n) (p10 : vm_E K (d - 1) c1 n1 0 (vm_ent (mL K) av) [] h R) (p11 : (∀ r h', R r h' → vm_E M d (c - c1) (n - n1) (pc + 3) ls (vm_end r ++ st) h' Q)) : vm_E M d c n pc ls (av.reverse ++ st) h Q := fun X hX => hX.2.2.2.2.2.2.2.2.2.2.2.2.2.2.2.2.2.2.2.2.2.2.2.2.1 _ _ _ _ _ _ _ _ _ _ _ _ _ _ _ p0 p1 p2 p3 p4 p5 p6 p7 p8 p9 (p10 X hX) (fun r h' hr => p11 r h' hr X hX)
theorem ve_invI {M : vM} {d c n pc : Nat} {ls : vL} {a : Nat} {av st : vT} {h : vH} {Q : vQ} {idx c1 n1 : Nat} {K : vM} {R : vQ} (p0 : decode (mB M) pc = .ok (.invokespecial idx, 3)) (p1 : vm_Mok K) (p2 : mT K = none) (p3 : (mY K).name = "<init>") (p4 : vm_Lok (mO M) idx (mY K)) (p5 : Cond.instanceMethod (mY K) ∈ vm_G) (p6 : av.length = mN K) (p7 : (vm_sl (vR (some a) :: av)).length ≤ mL K) (p8 : vm_cats st ≤ 8) (p9 : 1 ≤ d) (p10 : c1 ≤ c) (p11 : n1 ≤ n) (p12 : vm_E K (d - 1) c1 n1 0 (vm_ent (mL K) (vR (some a) :: av)) [] h R) (p13 : (∀ r h', R r h' → vm_E M d (c - c1) (n - n1) (pc + 3) ls (vm_end r ++ st) h' Q)) : vm_E M d c n pc ls (av.reverse ++ vR (some a) :: st) h Q := fun X hX => hX.2.2.2.2.2.2.2.2.2.2.2.2.2.2.2.2.2.2.2.2.2.2.2.2.2.1 _ _ _ _ _ _ _ _ _ _ _ _ _ _ _ _ p0 p1 p2 p3 p4 p5 p6 p7 p8 p9 p10 p11 (p12 X hX) (fun r h' hr => p13 r h' hr X hX)
theorem ve_end {M : vM} {d c n pc : Nat} {ls : vL} {h : vH} {Q : vQ} {ins : Instr} {v : Option vV} (p0 : decode (mB M) pc = .ok (ins, 1)) (p1 : vm_ret M ins v) (p2 : Q v h) : vm_E M d c n pc ls (vm_end v) h Q := fun X hX => hX.2.2.2.2.2.2.2.2.2.2.2.2.2.2.2.2.2.2.2.2.2.2.2.2.2.2.1 _ _ _ _ _ _ _ _ _ _ p0 p1 p2
theorem ve_min {M : vM} {d c n pc : Nat} {ls : vL} {x y : Int32} {st : vT} {h : vH} {Q : vQ} {idx : Nat} (p0 : decode (mB M) pc = .ok (.invokestatic idx, 3)) (p1 : Cond.methodLink (mO M) idx Lib.Math.min.name ∈ vm_G) (p2 : vm_cats st ≤ 8) (p3 : 1 ≤ d) (p4 : vm_E M d c n (pc + 3) ls (vI (if y < x then y else x) :: st) h Q) : vm_E M d c n pc ls (vI y :: vI x :: st) h Q := fun X hX => hX.2.2.2.2.2.2.2.2.2.2.2.2.2.2.2.2.2.2.2.2.2.2.2.2.2.2.2 _ _ _ _ _ _ _ _ _ _ _ _ p0 p1 p2 p3 (p4 X hX)
end
section
/-! ===== THE REAL MACHINE FOLLOWS THE VIRTUAL ONE: vm_S is closed under all rules ===== -/
def vm_sh (B b : Nat) (v : vV) : Value := match v with
  | .inl x => .int x
  | .inr (.inl y) => .long y
  | .inr (.inr (.inl r)) => va_rf (r.map (fun a => B + a))
  | .inr (.inr (.inr _)) => .ref b
theorem vm_sh_cat (B b : Nat) (v : vV) : (vm_sh B b v).category = bif vm_c2 v then 2 else 1 := by
  obtain x | y | (_ | r) | u := v <;> rfl
theorem vm_sh_c2 {B b : Nat} {v : vV} (h : vm_c2 v = true) : (vm_sh B b v).category = 2 := by rw [vm_sh_cat, h]; rfl
theorem vm_sh_c1 {B b : Nat} {v : vV} (h : vm_c2 v = false) : (vm_sh B b v).category = 1 := by rw [vm_sh_cat, h]; rfl
theorem vm_cats_eq (B b : Nat) : ∀ st : vT, ((st.map (vm_sh B b)).map fun v => v.category).sum = vm_cats st
  | [] => rfl
  | v :: r => by simp only [List.map_cons, List.sum_cons, vm_cats, vm_sh_cat, vm_cats_eq B b r]
def vm_cE (B b : Nat) (dT : Nat → ClassId) (h : vH) (a : Nat) (kd : Nat × Nat) : va_E :=
  if kd.1 < 20 then .inr (kd.1, (List.range (vm_n kd.1)).map (fun k => vm_sh B b (vm_f h a k (vm_ft kd.1 k))))
  else .inl (dT kd.1, kd.2, if kd.1 < 23 then .inl (hI h a) else if kd.1 = 23 then .inr (.inl (hL h a)) else .inr (.inr (.inr (.inr (fun j => (hR h a j).map (fun a => B + a))))))
def vm_W (B b : Nat) (dT : Nat → ClassId) (h : vH) : va_W := (hK h).zipIdx.map (fun q => (B + q.2, vm_cE B b dT h q.2 q.1))
theorem vm_W_get (B b : Nat) (dT : Nat → ClassId) (h : vH) (k : Nat) : (vm_W B b dT h)[k]? = (hK h)[k]?.map (fun kd => (B + k, vm_cE B b dT h k kd)) := by
  unfold vm_W
  rw [List.getElem?_map, List.getElem?_zipIdx, Option.map_map]
  simp [Function.comp_def]
theorem vm_W_at {B b : Nat} {dT : Nat → ClassId} {h : vH} {k : Nat} {kd : Nat × Nat} (hk : (hK h)[k]? = some kd) : (vm_W B b dT h)[k]? = some (B + k, vm_cE B b dT h k kd) := by
  rw [vm_W_get, hk]; rfl
theorem vm_W_set {B b : Nat} {dT : Nat → ClassId} {h h' : vH} {a : Nat} {kd : Nat × Nat} (hk : (hK h)[a]? = some kd) (he : hK h' = hK h) (ho : ∀ (q : Nat) (kq : Nat × Nat), q ≠ a → vm_cE B b dT h' q kq = vm_cE B b dT h q kq) : (vm_W B b dT h).set a (B + a, vm_cE B b dT h' a kd) = vm_W B b dT h' := by
  apply List.ext_getElem?
  intro i
  rw [vm_W_get, he]
  by_cases hi : i = a
  · subst hi
    have hl : i < (vm_W B b dT h).length := (List.getElem?_eq_some_iff.mp (vm_W_at (B := B) (b := b) (dT := dT) hk)).1
    rw [List.getElem?_set_self hl, hk]
    rfl
  · rw [List.getElem?_set_ne (Ne.symm hi), vm_W_get]
    cases (hK h)[i]? with
    | none => rfl
    | some kq => simp only [Option.map_some, ho i kq hi]
theorem vm_W_D (B b : Nat) (dT : Nat → ClassId) (h : vH) : va_D (fun q => B ≤ q) (vm_W B b dT h) := by
  refine ⟨fun i j p q hi hj hpq => ?_, fun k q hk => ?_⟩
  · rw [vm_W_get] at hi hj
    cases h1 : (hK h)[i]? with
    | none => rw [h1] at hi; cases hi
    | some k1 =>
      cases h2 : (hK h)[j]? with
      | none => rw [h2] at hj; cases hj
      | some k2 =>
        rw [h1] at hi; rw [h2] at hj
        cases hi; cases hj
        have h3 : B + i = B + j := hpq
        omega
  · rw [vm_W_get] at hk
    cases h1 : (hK h)[k]? with
    | none => rw [h1] at hk; cases hk
    | some k1 =>
      rw [h1] at hk
      cases hk
      exact Nat.le_add_right _ _
def vm_ty (dT : Nat → ClassId) : List (ClassId × FieldType) := [(dT 20, .int), (dT 21, .boolean), (dT 22, .char), (dT 23, .long), (dT 24, .object RX7), (dT 25, .object RX5)]
def vm_LR (B b nL : Nat) (ls : vL) (LS : Array Slot) : Prop := ls.length = nL ∧ LS.size = nL ∧ lv_wf LS ∧ ∀ (i : Nat) (v : vV), ls[i]? = some (some v) → LS[i]? = some (.val (vm_sh B b v))
def vm_pr (B b : Nat) (ls : vL) : List (Nat × Value) := ls.zipIdx.filterMap (fun q => q.1.map (fun v => (q.2, vm_sh B b v)))
theorem vm_pr_mem {B b : Nat} {ls : vL} {q : Nat × Value} : q ∈ vm_pr B b ls ↔ ∃ v, ls[q.1]? = some (some v) ∧ q.2 = vm_sh B b v := by
  unfold vm_pr
  rw [List.mem_filterMap]
  constructor
  · rintro ⟨⟨o, i⟩, hm, he⟩
    have hi := List.mem_zipIdx_iff_getElem?.mp hm
    cases o with
    | none => cases he
    | some v => cases he; exact ⟨v, hi, rfl⟩
  · rintro ⟨v, h1, h2⟩
    refine ⟨(some v, q.1), List.mem_zipIdx_iff_getElem?.mpr h1, ?_⟩
    show some (q.1, vm_sh B b v) = some q
    rw [← h2]
theorem vm_LR.has {B b nL : Nat} {ls : vL} {LS : Array Slot} (h : vm_LR B b nL ls LS) : lv_has LS nL (vm_pr B b ls) := by
  refine ⟨h.2.1, h.2.2.1, fun q hq => ?_⟩
  obtain ⟨v, h1, h2⟩ := vm_pr_mem.mp hq
  rw [h2]
  exact h.2.2.2 _ _ h1
theorem vm_kl_len (ls : vL) (i : Nat) : (vm_kl ls i).length = ls.length := by
  unfold vm_kl
  split
  · rfl
  · split
    · exact List.length_set
    · rfl
theorem vm_kl_get {ls : vL} {i j : Nat} {w : vV} (h : (vm_kl ls i)[j]? = some (some w)) : ls[j]? = some (some w) ∧ ¬ (j + 1 = i ∧ vm_c2 w = true) := by
  unfold vm_kl at h
  split at h
  · exact ⟨h, by omega⟩
  · rename_i k
    split at h
    · rename_i y hy
      by_cases hjk : j = k
      · subst hjk
        have hl := (List.getElem?_eq_some_iff.mp hy).1
        rw [List.getElem?_set_self hl] at h
        cases h
      · rw [List.getElem?_set_ne (fun e => hjk e.symm)] at h
        exact ⟨h, by omega⟩
    · rename_i hn
      refine ⟨h, fun hh => ?_⟩
      have e : j = k := by omega
      subst e
      obtain x | y | z := w
      · cases hh.2
      · exact hn y h
      · cases z <;> cases hh.2
theorem vm_LR.st1 {B b nL : Nat} {ls l : vL} {LS LS' : Array Slot} {i : Nat} {v : vV} (h : vm_LR B b nL ls LS) (hs : vm_s1 ls i v = some l)
    (h' : lv_has LS' nL ((i, vm_sh B b v) :: (vm_pr B b ls).filter (fun q => !(q.1 == i) && !(q.1 + 1 == i && q.2.category == 2)))) : vm_LR B b nL l LS' := by
  unfold vm_s1 at hs
  split at hs
  · rename_i o ho
    cases hs
    have hil := (List.getElem?_eq_some_iff.mp ho).1
    refine ⟨by rw [List.length_set, vm_kl_len]; exact h.1, h'.1, h'.2.1, fun j w hj => ?_⟩
    by_cases hji : j = i
    · subst hji
      rw [List.getElem?_set_self (by rw [vm_kl_len]; exact hil)] at hj
      cases hj
      exact h'.2.2 _ List.mem_cons_self
    · rw [List.getElem?_set_ne (fun e => hji e.symm)] at hj
      obtain ⟨h1, h2⟩ := vm_kl_get hj
      refine h'.2.2 (j, vm_sh B b w) (List.mem_cons_of_mem _ (List.mem_filter.mpr ⟨vm_pr_mem.mpr ⟨w, h1, rfl⟩, ?_⟩))
      have hc : ¬ (j + 1 = i ∧ (vm_sh B b w).category = 2) := fun hh => h2 ⟨hh.1, by
        cases hw : vm_c2 w with
        | true => rfl
        | false => have := vm_sh_c1 (B := B) (b := b) hw; omega⟩
      by_cases h5 : j + 1 = i
      · have h6 : ¬ (vm_sh B b w).category = 2 := fun e => hc ⟨h5, e⟩
        simp [hji, h6]
      · simp [hji, h5]
  · cases hs
theorem vm_LR.lt1 {B b nL : Nat} {ls l : vL} {LS : Array Slot} {i : Nat} {v : vV} (h : vm_LR B b nL ls LS) (hs : vm_s1 ls i v = some l) : i < nL := by
  unfold vm_s1 at hs
  split at hs
  · rename_i o ho
    rw [← h.1]; exact (List.getElem?_eq_some_iff.mp ho).1
  · cases hs
theorem vm_LR.lt2 {B b nL : Nat} {ls l : vL} {LS : Array Slot} {i : Nat} {v : vV} (h : vm_LR B b nL ls LS) (hs : vm_s2 ls i v = some l) : i + 1 < nL := by
  unfold vm_s2 at hs
  split at hs
  · rename_i o ho
    rw [← h.1]; exact (List.getElem?_eq_some_iff.mp ho).1
  · cases hs
theorem vm_LR.st2 {B b nL : Nat} {ls l : vL} {LS LS' : Array Slot} {i : Nat} {v : vV} (h : vm_LR B b nL ls LS) (hs : vm_s2 ls i v = some l)
    (h' : lv_has LS' nL ((i, vm_sh B b v) :: (vm_pr B b ls).filter (fun q => !(q.1 == i) && (!(q.1 == i + 1) && !(q.1 + 1 == i && q.2.category == 2))))) : vm_LR B b nL l LS' := by
  unfold vm_s2 at hs
  split at hs
  · rename_i o ho
    cases hs
    have hil := (List.getElem?_eq_some_iff.mp ho).1
    refine ⟨by rw [List.length_set, List.length_set, vm_kl_len]; exact h.1, h'.1, h'.2.1, fun j w hj => ?_⟩
    by_cases hj1 : j = i + 1
    · subst hj1
      rw [List.getElem?_set_self (by rw [List.length_set, vm_kl_len]; exact hil)] at hj
      cases hj
    rw [List.getElem?_set_ne (fun e => hj1 e.symm)] at hj
    by_cases hji : j = i
    · subst hji
      rw [List.getElem?_set_self (by rw [vm_kl_len]; omega)] at hj
      cases hj
      exact h'.2.2 _ List.mem_cons_self
    · rw [List.getElem?_set_ne (fun e => hji e.symm)] at hj
      obtain ⟨h1, h2⟩ := vm_kl_get hj
      refine h'.2.2 (j, vm_sh B b w) (List.mem_cons_of_mem _ (List.mem_filter.mpr ⟨vm_pr_mem.mpr ⟨w, h1, rfl⟩, ?_⟩))
      have hc : ¬ (j + 1 = i ∧ (vm_sh B b w).category = 2) := fun hh => h2 ⟨hh.1, by
        cases hw : vm_c2 w with
        | true => rfl
        | false => have := vm_sh_c1 (B := B) (b := b) hw; omega⟩
      by_cases h5 : j + 1 = i
      · have h6 : ¬ (vm_sh B b w).category = 2 := fun e => hc ⟨h5, e⟩
        simp [hji, hj1, h6]
      · simp [hji, hj1, h5]
  · cases hs
theorem vm_sl_args (B b : Nat) : ∀ (av : vT) (k : Nat) (i : Nat) (v : vV), (vm_sl av)[i]? = some (some v) → (k + i, vm_sh B b v) ∈ lv_args k (av.map (vm_sh B b))
  | [], _, _, _, h => by simp [vm_sl] at h
  | w :: r, k, i, v, h => by
    change (bif vm_c2 w then some w :: none :: vm_sl r else some w :: vm_sl r)[i]? = some (some v) at h
    show (k + i, vm_sh B b v) ∈ (k, vm_sh B b w) :: lv_args (if (vm_sh B b w).category = 2 then k + 2 else k + 1) (r.map (vm_sh B b))
    cases hc : vm_c2 w with
    | true =>
      rw [hc, cond_true] at h
      rw [vm_sh_c2 hc, if_pos rfl]
      match i, h with
      | 0, h => cases h; exact List.mem_cons_self
      | 1, h => cases h
      | j + 2, h =>
        have h1 := vm_sl_args B b r (k + 2) j v (by simpa using h)
        rw [show k + (j + 2) = k + 2 + j by omega]
        exact List.mem_cons_of_mem _ h1
    | false =>
      rw [hc, cond_false] at h
      rw [vm_sh_c1 hc, if_neg (by decide)]
      match i, h with
      | 0, h => cases h; exact List.mem_cons_self
      | j + 1, h =>
        have h1 := vm_sl_args B b r (k + 1) j v (by simpa using h)
        rw [show k + (j + 1) = k + 1 + j by omega]
        exact List.mem_cons_of_mem _ h1
theorem vm_sl_len (B b : Nat) : ∀ av : vT, (lg_sl (av.map (vm_sh B b))).length = (vm_sl av).length
  | [] => rfl
  | v :: r => by
    have h := vm_sl_len B b r
    unfold lg_sl at h ⊢
    rw [List.map_cons, List.flatMap_cons, List.length_append, h]
    show _ = (bif vm_c2 v then some v :: none :: vm_sl r else some v :: vm_sl r).length
    cases hc : vm_c2 v with
    | true =>
      rw [vm_sh_c2 hc, if_pos rfl, cond_true]
      simp only [List.length_cons, List.length_nil]; omega
    | false =>
      rw [vm_sh_c1 hc, if_neg (by decide), cond_false]
      simp only [List.length_cons, List.length_nil]; omega
theorem vm_LR.ent {B b nL : Nat} {av : vT} (hl : (vm_sl av).length ≤ nL) : vm_LR B b nL (vm_ent nL av) ((lg_sl (av.map (vm_sh B b)) ++ List.replicate (nL - (lg_sl (av.map (vm_sh B b))).length) Slot.unset).toArray) := by
  have h := lv_entry (av.map (vm_sh B b)) (n := nL) (by rw [vm_sl_len]; exact hl)
  refine ⟨by unfold vm_ent; simp; omega, h.1, h.2.1, fun i v hi => ?_⟩
  unfold vm_ent at hi
  by_cases hi2 : i < (vm_sl av).length
  · rw [List.getElem?_append_left hi2] at hi
    have h1 := vm_sl_args B b av 0 i v hi
    rw [Nat.zero_add] at h1
    exact h.2.2 _ h1
  · rw [List.getElem?_append_right (by omega), List.getElem?_replicate] at hi
    split at hi <;> cases hi
end
section
/-! ===== the rules, one by one ===== -/
def vm_Cx (M : vM) (p : Program) (s : State) (m : MethodId) (meth : Method) (cd : Code) (args : Array Value) (B b : Nat) (D : va_G) (dT : Nat → ClassId) (X : Nat × (Nat → Int32)) : Prop :=
  p.tables.exec = Jvm.exec ∧ cd.code = mB M ∧ cd.maxLocals = mL M ∧ meth.sig.returnType = mT M ∧ meth.locks = false ∧ s.vm.findClass (mO M) = some m.cls ∧ (∀ w ∈ vm_G, w.before args s = true) ∧ (∀ w ∈ vm_N, va_Nw w s) ∧ meth.name = (mY M).name ∧ va_K D vCls (vm_ty dT) s ∧ va_X b X.1 X.2 s s.heap ∧ b < B ∧ B ≤ s.heap.size ∧ va_AO RX7 s ∧ va_AO RX5 s
def vm_Dh (B b : Nat) (D : va_G) (dT : Nat → ClassId) (X : Nat × (Nat → Int32)) (s : State) (h : vH) (H : Heap) (locs : List Loc) : Prop :=
  va_P D vCls (vm_W B b dT h) H ∧ H.size = B + (hK h).length ∧ va_S (fun q => B ≤ q) s.heap H locs ∧ hX h = X
def vm_Rt (M : vM) (Q : vQ) (p : Program) (l : Launch) (e : Env) (R : Room) (s : State) (m : MethodId) (args : Array Value) (below : List Frame) (meth : Method) (cd : Code) (B b : Nat) (D : va_G) (dT : Nat → ClassId) (X : Nat × (Nat → Int32)) (Z : State → Prop) : Prop :=
  ∀ (v : Option vV) (h : vH) (H : Heap) (locs : List Loc) (cells slots : Nat) (LS : Array Slot) (pc : Nat) (ins : Instr), decode (mB M) pc = .ok (ins, 1) → vm_ret M ins v → Q v h → vm_Dh B b D dT X s h H locs → cells ≤ R.cells → slots ≤ R.slots → W p l e R s m args below meth cd H locs cells slots Z (F0 m pc LS ((vm_end v).map (vm_sh B b)))
def vm_S : vP := fun M d c n pc ls st h Q => ∀ (p : Program) (l : Launch) (e : Env) (R : Room) (s : State) (m : MethodId) (args : Array Value) (below : List Frame) (meth : Method) (cd : Code) (B b : Nat) (D : va_G) (dT : Nat → ClassId) (X : Nat × (Nat → Int32)) (Z : State → Prop),
  vm_Cx M p s m meth cd args B b D dT X → d ≤ R.frames → 60 * d + 20 ≤ R.locals → vm_Rt M Q p l e R s m args below meth cd B b D dT X Z →
  ∀ (H : Heap) (locs : List Loc) (cells slots : Nat) (LS : Array Slot), vm_LR B b (mL M) ls LS → vm_Dh B b D dT X s h H locs → cells + c ≤ R.cells → slots + n ≤ R.slots → W p l e R s m args below meth cd H locs cells slots Z (F0 m pc LS (st.map (vm_sh B b)))
theorem vm_opR_inv {ins : Instr} {len : Nat} {ls : vL} {st : vT} {r : vL × vT} (h : vm_opR ins len ls st = some r) : ∃ f, vm_op ins = some (len, f) ∧ f ls st = some r := by
  unfold vm_opR at h
  split at h
  · rename_i q hq
    split at h
    · rename_i e
      exact ⟨q.2, by rw [hq, ← e], h⟩
    · cases h
  · cases h
theorem vm_ii_inv {f : Int32 → Int32 → Int32} {ls ls' : vL} {st st' : vT} (h : vm_ii f ls st = some (ls', st')) : ∃ x y r, st = vI y :: vI x :: r ∧ ls' = ls ∧ st' = vI (f x y) :: r := by
  unfold vm_ii at h
  split at h
  · cases h; exact ⟨_, _, _, rfl, rfl, rfl⟩
  · cases h
theorem vm_jj_inv {f : Int64 → Int64 → Int64} {ls ls' : vL} {st st' : vT} (h : vm_jj f ls st = some (ls', st')) : ∃ x y r, st = vJ y :: vJ x :: r ∧ ls' = ls ∧ st' = vJ (f x y) :: r := by
  unfold vm_jj at h
  split at h
  · cases h; exact ⟨_, _, _, rfl, rfl, rfl⟩
  · cases h
theorem vm_ji_inv {f : Int64 → Int32 → Int64} {ls ls' : vL} {st st' : vT} (h : vm_ji f ls st = some (ls', st')) : ∃ x y r, st = vI y :: vJ x :: r ∧ ls' = ls ∧ st' = vJ (f x y) :: r := by
  unfold vm_ji at h
  split at h
  · cases h; exact ⟨_, _, _, rfl, rfl, rfl⟩
  · cases h
theorem vm_i_inv {f : Int32 → vV} {ls ls' : vL} {st st' : vT} (h : vm_i f ls st = some (ls', st')) : ∃ x r, st = vI x :: r ∧ ls' = ls ∧ st' = f x :: r := by
  unfold vm_i at h
  split at h
  · cases h; exact ⟨_, _, rfl, rfl, rfl⟩
  · cases h
theorem vm_ld_inv {f : vV → Bool} {ls ls' : vL} {st st' : vT} {i : Nat} (h : vm_ld ls st i f = some (ls', st')) : ∃ v, ls[i]? = some (some v) ∧ f v = true ∧ ls' = ls ∧ st' = v :: st := by
  unfold vm_ld at h
  split at h
  · rename_i v hv
    cases hf : f v with
    | true => rw [hf, cond_true] at h; cases h; exact ⟨v, hv, hf, rfl, rfl⟩
    | false => rw [hf, cond_false] at h; cases h
  · cases h
theorem vm_sto_inv {f : vV → Bool} {g : vL → Nat → vV → Option vL} {ls ls' : vL} {st st' : vT} {i : Nat} (h : vm_sto ls st i f g = some (ls', st')) : ∃ v, st = v :: st' ∧ f v = true ∧ g ls i v = some ls' := by
  unfold vm_sto at h
  split at h
  · rename_i v r
    cases hf : f v with
    | true =>
      rw [hf, cond_true] at h
      cases hg : g ls i v with
      | none => rw [hg] at h; cases h
      | some l => rw [hg] at h; cases h; exact ⟨v, rfl, hf, hg⟩
    | false => rw [hf, cond_false] at h; cases h
  · cases h
theorem vm_inc_inv {ls ls' : vL} {st st' : vT} {i : Nat} {k : Int} (h : vm_inc ls st i k = some (ls', st')) : ∃ x, ls[i]? = some (some (vI x)) ∧ vm_s1 ls i (vI (x + Int32.ofInt k)) = some ls' ∧ st' = st := by
  unfold vm_inc at h
  split at h
  · rename_i x hx
    cases hg : vm_s1 ls i (vI (x + Int32.ofInt k)) with
    | none => rw [hg] at h; cases h
    | some l => rw [hg] at h; cases h; exact ⟨x, hx, hg, rfl⟩
  · cases h
theorem vm_isI_inv {v : vV} (h : vm_isI v = true) : ∃ x, v = vI x := by
  obtain x | y := v
  · exact ⟨x, rfl⟩
  · cases h
theorem vm_isJ_inv {v : vV} (h : vm_isJ v = true) : ∃ x, v = vJ x := by
  obtain x | y | z := v
  · cases h
  · exact ⟨y, rfl⟩
  · cases h
theorem vm_isR0_inv {v : vV} (h : vm_isR0 v = true) : ∃ r, v = vR r := by
  obtain x | y | r | u := v
  · cases h
  · cases h
  · exact ⟨r, rfl⟩
  · cases h
theorem vm_isR_inv {v : vV} (h : vm_isR v = true) : v = vX ∨ ∃ r, v = vR r := by
  obtain x | y | r | u := v
  · cases h
  · cases h
  · exact Or.inr ⟨r, rfl⟩
  · cases u; exact Or.inl rfl
set_option maxHeartbeats 4000000 in
theorem vs_op : vr_op vm_S := by
  intro M d c n pc ls st h Q ins len ls' st' hd ho k
  intro p l e R s m args below meth cd B b D dT X Z hC hf hlo hret H locs cells slots LS hL hD hc hs
  have k' := fun LS hL => k p l e R s m args below meth cd B b D dT X Z hC hf hlo hret H locs cells slots LS hL hD hc hs
  clear k
  obtain ⟨hx, hb, -⟩ := hC
  have ho1 := vm_opR_inv ho
  clear ho
  obtain ⟨f, hf1, ho⟩ := ho1
  cases ins
  case iconst z => cases hf1; cases ho; exact lv_iconst hx hb hd rfl (k' LS hL)
  case bipush z => cases hf1; cases ho; exact lv_bipush hx hb hd rfl (k' LS hL)
  case sipush z => cases hf1; cases ho; exact lv_sipush hx hb hd rfl (k' LS hL)
  case lconst z => cases hf1; cases ho; exact lv_lconst hx hb hd rfl (k' LS hL)
  case aconst_null => cases hf1; cases ho; exact lv_null hx hb hd (k' LS hL)
  case iload i =>
    cases hf1
    obtain ⟨v, h1, h2, rfl, rfl⟩ := vm_ld_inv ho
    obtain ⟨x, rfl⟩ := vm_isI_inv h2
    exact lv_iload hx hb hd (hL.2.2.2 _ _ h1) (k' LS hL)
  case iload_n i =>
    cases hf1
    obtain ⟨v, h1, h2, rfl, rfl⟩ := vm_ld_inv ho
    obtain ⟨x, rfl⟩ := vm_isI_inv h2
    exact lv_iload_n hx hb hd rfl (hL.2.2.2 _ _ h1) (k' LS hL)
  case lload i =>
    cases hf1
    obtain ⟨v, h1, h2, rfl, rfl⟩ := vm_ld_inv ho
    obtain ⟨x, rfl⟩ := vm_isJ_inv h2
    exact lv_lload hx hb hd (hL.2.2.2 _ _ h1) (k' LS hL)
  case lload_n i =>
    cases hf1
    obtain ⟨v, h1, h2, rfl, rfl⟩ := vm_ld_inv ho
    obtain ⟨x, rfl⟩ := vm_isJ_inv h2
    exact lv_lload_n hx hb hd rfl (hL.2.2.2 _ _ h1) (k' LS hL)
  case aload i =>
    cases hf1
    obtain ⟨v, h1, h2, rfl, rfl⟩ := vm_ld_inv ho
    rcases vm_isR_inv h2 with rfl | ⟨r, rfl⟩
    · exact lv_aload hx hb hd (hL.2.2.2 _ _ h1) (k' LS hL)
    · cases r with
      | none => exact lv_aloadN hx hb hd (hL.2.2.2 _ _ h1) (k' LS hL)
      | some r => exact lv_aload hx hb hd (hL.2.2.2 _ _ h1) (k' LS hL)
  case aload_n i =>
    cases hf1
    obtain ⟨v, h1, h2, rfl, rfl⟩ := vm_ld_inv ho
    rcases vm_isR_inv h2 with rfl | ⟨r, rfl⟩
    · exact lv_aload_n hx hb hd rfl (hL.2.2.2 _ _ h1) (k' LS hL)
    · cases r with
      | none => exact lv_aload_nN hx hb hd rfl (hL.2.2.2 _ _ h1) (k' LS hL)
      | some r => exact lv_aload_n hx hb hd rfl (hL.2.2.2 _ _ h1) (k' LS hL)
  case istore i =>
    cases hf1
    obtain ⟨v, rfl, h2, h3⟩ := vm_sto_inv ho
    obtain ⟨x, rfl⟩ := vm_isI_inv h2
    exact lv_istore hx hb hd hL.has (hL.lt1 h3) rfl (fun LS' h' => k' LS' (hL.st1 h3 h'))
  case istore_n i =>
    cases hf1
    obtain ⟨v, rfl, h2, h3⟩ := vm_sto_inv ho
    obtain ⟨x, rfl⟩ := vm_isI_inv h2
    exact lv_istore_n hx hb hd rfl hL.has (hL.lt1 h3) rfl (fun LS' h' => k' LS' (hL.st1 h3 h'))
  case lstore i =>
    cases hf1
    obtain ⟨v, rfl, h2, h3⟩ := vm_sto_inv ho
    obtain ⟨x, rfl⟩ := vm_isJ_inv h2
    exact lv_lstore hx hb hd hL.has (hL.lt2 h3) rfl (fun LS' h' => k' LS' (hL.st2 h3 h'))
  case lstore_n i =>
    cases hf1
    obtain ⟨v, rfl, h2, h3⟩ := vm_sto_inv ho
    obtain ⟨x, rfl⟩ := vm_isJ_inv h2
    exact lv_lstore_n hx hb hd rfl hL.has (hL.lt2 h3) rfl (fun LS' h' => k' LS' (hL.st2 h3 h'))
  case astore i =>
    cases hf1
    obtain ⟨v, rfl, h2, h3⟩ := vm_sto_inv ho
    obtain ⟨r, rfl⟩ := vm_isR0_inv h2
    cases r with
    | none => exact lv_astoreN hx hb hd hL.has (hL.lt1 h3) rfl (fun LS' h' => k' LS' (hL.st1 h3 h'))
    | some r => exact lv_astore hx hb hd hL.has (hL.lt1 h3) rfl (fun LS' h' => k' LS' (hL.st1 h3 h'))
  case astore_n i =>
    cases hf1
    obtain ⟨v, rfl, h2, h3⟩ := vm_sto_inv ho
    obtain ⟨r, rfl⟩ := vm_isR0_inv h2
    cases r with
    | none => exact lv_astore_nN hx hb hd rfl hL.has (hL.lt1 h3) rfl (fun LS' h' => k' LS' (hL.st1 h3 h'))
    | some r => exact lv_astore_n hx hb hd rfl hL.has (hL.lt1 h3) rfl (fun LS' h' => k' LS' (hL.st1 h3 h'))
  case iinc i z =>
    cases hf1
    obtain ⟨x, h1, h3, rfl⟩ := vm_inc_inv ho
    obtain ⟨q, hq⟩ := List.getElem?_of_mem (vm_pr_mem.mpr ⟨vI x, h1, rfl⟩ : (i, vm_sh B b (vI x)) ∈ vm_pr B b ls)
    exact lv_iinc hx hb hd hL.has hq rfl (hL.lt1 h3) rfl (fun LS' h' => k' LS' (hL.st1 h3 h'))
  case iadd => cases hf1; obtain ⟨x, y, r, rfl, rfl, rfl⟩ := vm_ii_inv ho; exact lv_iadd hx hb hd (k' LS hL)
  case isub => cases hf1; obtain ⟨x, y, r, rfl, rfl, rfl⟩ := vm_ii_inv ho; exact lv_isub hx hb hd (k' LS hL)
  case imul => cases hf1; obtain ⟨x, y, r, rfl, rfl, rfl⟩ := vm_ii_inv ho; exact lv_imul hx hb hd (k' LS hL)
  case iand => cases hf1; obtain ⟨x, y, r, rfl, rfl, rfl⟩ := vm_ii_inv ho; exact lv_iand hx hb hd (k' LS hL)
  case ior => cases hf1; obtain ⟨x, y, r, rfl, rfl, rfl⟩ := vm_ii_inv ho; exact lv_ior hx hb hd (k' LS hL)
  case ixor => cases hf1; obtain ⟨x, y, r, rfl, rfl, rfl⟩ := vm_ii_inv ho; exact lv_ixor hx hb hd (k' LS hL)
  case ishl => cases hf1; obtain ⟨x, y, r, rfl, rfl, rfl⟩ := vm_ii_inv ho; exact lv_ishl hx hb hd (k' LS hL)
  case ishr => cases hf1; obtain ⟨x, y, r, rfl, rfl, rfl⟩ := vm_ii_inv ho; exact lv_ishr hx hb hd (k' LS hL)
  case iushr => cases hf1; obtain ⟨x, y, r, rfl, rfl, rfl⟩ := vm_ii_inv ho; exact lv_iushr hx hb hd rfl (k' LS hL)
  case ladd => cases hf1; obtain ⟨x, y, r, rfl, rfl, rfl⟩ := vm_jj_inv ho; exact lv_ladd hx hb hd (k' LS hL)
  case lsub => cases hf1; obtain ⟨x, y, r, rfl, rfl, rfl⟩ := vm_jj_inv ho; exact lv_lsub hx hb hd (k' LS hL)
  case lmul => cases hf1; obtain ⟨x, y, r, rfl, rfl, rfl⟩ := vm_jj_inv ho; exact lv_lmul hx hb hd (k' LS hL)
  case land => cases hf1; obtain ⟨x, y, r, rfl, rfl, rfl⟩ := vm_jj_inv ho; exact lv_land hx hb hd (k' LS hL)
  case lor => cases hf1; obtain ⟨x, y, r, rfl, rfl, rfl⟩ := vm_jj_inv ho; exact lv_lor hx hb hd (k' LS hL)
  case lxor => cases hf1; obtain ⟨x, y, r, rfl, rfl, rfl⟩ := vm_jj_inv ho; exact lv_lxor hx hb hd (k' LS hL)
  case lshl => cases hf1; obtain ⟨x, y, r, rfl, rfl, rfl⟩ := vm_ji_inv ho; exact lv_lshl hx hb hd rfl (k' LS hL)
  case lushr => cases hf1; obtain ⟨x, y, r, rfl, rfl, rfl⟩ := vm_ji_inv ho; exact lv_lushr hx hb hd rfl (k' LS hL)
  case i2l => cases hf1; obtain ⟨x, r, rfl, rfl, rfl⟩ := vm_i_inv ho; exact lv_i2l hx hb hd rfl (k' LS hL)
  case i2c => cases hf1; obtain ⟨x, r, rfl, rfl, rfl⟩ := vm_i_inv ho; exact lv_i2c hx hb hd rfl (k' LS hL)
  case lcmp =>
    cases hf1
    dsimp only at ho
    split at ho
    · cases ho; exact W.lcmp hx hb hd (k' LS hL)
    · cases ho
  case l2i =>
    cases hf1
    dsimp only at ho
    split at ho
    · cases ho; exact lv_l2i hx hb hd rfl (k' LS hL)
    · cases ho
  case dup =>
    cases hf1
    dsimp only at ho
    split at ho
    · rename_i v r
      cases hv : vm_c2 v with
      | true => rw [hv, cond_true] at ho; cases ho
      | false => rw [hv, cond_false] at ho; cases ho; exact lv_dup hx hb hd (vm_sh_c1 hv) (k' LS hL)
    · cases ho
  case dup2 =>
    cases hf1
    dsimp only at ho
    split at ho
    · rename_i v w r
      cases hv : vm_c2 v with
      | true => rw [hv, Bool.true_or, cond_true] at ho; cases ho
      | false =>
        cases hw : vm_c2 w with
        | true => rw [hv, hw, Bool.or_true, cond_true] at ho; cases ho
        | false => rw [hv, hw, Bool.or_false, cond_false] at ho; cases ho; exact lv_dup2_11 hx hb hd (vm_sh_c1 hv) (vm_sh_c1 hw) (k' LS hL)
    · cases ho
  case pop =>
    cases hf1
    dsimp only at ho
    split at ho
    · rename_i v r
      cases hv : vm_c2 v with
      | true => rw [hv, cond_true] at ho; cases ho
      | false => rw [hv, cond_false] at ho; cases ho; exact lv_pop hx hb hd (vm_sh_c1 hv) (k' LS hL)
    · cases ho
  all_goals cases hf1
theorem vs_div : vr_div vm_S := by
  intro M d c n pc ls x y st h Q hd hy k
  intro p l e R s m args below meth cd B b D dT X Z hC hf hlo hret H locs cells slots LS hL hD hc hs
  exact lv_idiv hC.1 hC.2.1 hd hy (k p l e R s m args below meth cd B b D dT X Z hC hf hlo hret H locs cells slots LS hL hD hc hs)
theorem vs_rem : vr_rem vm_S := by
  intro M d c n pc ls x y st h Q hd hy k
  intro p l e R s m args below meth cd B b D dT X Z hC hf hlo hret H locs cells slots LS hL hD hc hs
  exact lv_irem hC.1 hC.2.1 hd hy (k p l e R s m args below meth cd B b D dT X Z hC hf hlo hret H locs cells slots LS hL hD hc hs)
theorem vs_goto : vr_goto vm_S := by
  intro M d c n pc ls st h Q o tgt hd ht k
  intro p l e R s m args below meth cd B b D dT X Z hC hf hlo hret H locs cells slots LS hL hD hc hs
  exact lv_goto hC.1 hC.2.1 hd ht (k p l e R s m args below meth cd B b D dT X Z hC hf hlo hret H locs cells slots LS hL hD hc hs)
theorem vs_br : vr_br vm_S := by
  intro M d c n pc ls st h Q ins P o r tgt hd hb1 ht k1 k2
  intro p l e R s m args below meth cd B b D dT X Z hC hf hlo hret H locs cells slots LS hL hD hc hs
  have j1 := fun hp => k1 hp p l e R s m args below meth cd B b D dT X Z hC hf hlo hret H locs cells slots LS hL hD hc hs
  have j2 := fun hp => k2 hp p l e R s m args below meth cd B b D dT X Z hC hf hlo hret H locs cells slots LS hL hD hc hs
  obtain ⟨hx, hb, -⟩ := hC
  unfold vm_br at hb1
  split at hb1 <;> cases hb1
  · exact lv_if_eq hx hb hd ht j1 j2
  · exact lv_if_ne hx hb hd ht j1 (fun q => j2 (fun z => z q))
  · exact lv_if_lt hx hb hd ht j1 j2
  · exact lv_if_ge hx hb hd ht j1 j2
  · exact lv_if_gt hx hb hd ht j1 j2
  · exact lv_if_le hx hb hd ht j1 j2
  · exact lv_icmp_eq hx hb hd ht j1 j2
  · exact lv_icmp_ne hx hb hd ht j1 (fun q => j2 (fun z => z q))
  · exact lv_icmp_lt hx hb hd ht j1 j2
  · exact lv_icmp_ge hx hb hd ht j1 j2
  · exact lv_icmp_gt hx hb hd ht j1 j2
  · exact lv_icmp_le hx hb hd ht j1 j2
  · rename_i a
    cases a with
    | none => exact lv_ifnullN hx hb hd ht (j1 rfl)
    | some a => exact lv_ifnull hx hb hd (j2 (fun z => by cases z))
  · rename_i a
    cases a with
    | none => exact lv_ifnonnullN hx hb hd (j2 (fun z => z rfl))
    | some a => exact lv_ifnonnull hx hb hd ht (j1 (fun z => by cases z))
theorem vs_tsw : vr_tsw vm_S := by
  intro M d c n pc ls x st h Q dflt lo hi offs len o tgt hd ho ht k
  intro p l e R s m args below meth cd B b D dT X Z hC hf hlo hret H locs cells slots LS hL hD hc hs
  have j := k p l e R s m args below meth cd B b D dT X Z hC hf hlo hret H locs cells slots LS hL hD hc hs
  obtain ⟨hx, hb, -⟩ := hC
  unfold vm_tsw at ho
  split at ho
  · rename_i hh; cases ho; exact lv_tableOut hx hb hd hh ht j
  · rename_i hh; exact lv_tableIn hx hb hd (fun z => hh (Or.inl z)) (fun z => hh (Or.inr z)) ho ht j
theorem vs_lsw : vr_lsw vm_S := by
  intro M d c n pc ls x st h Q dflt ps len o tgt hd hp ho ht k
  intro p l e R s m args below meth cd B b D dT X Z hC hf hlo hret H locs cells slots LS hL hD hc hs
  exact lv_lookup hC.1 hC.2.1 hd hp ho ht (k p l e R s m args below meth cd B b D dT X Z hC hf hlo hret H locs cells slots LS hL hD hc hs)
theorem vs_ldc : vr_ldc vm_S := by
  intro M d c n pc ls st h Q idx v hd hw k
  intro p l e R s m args below meth cd B b D dT X Z hC hf hlo hret H locs cells slots LS hL hD hc hs
  have j := k p l e R s m args below meth cd B b D dT X Z hC hf hlo hret H locs cells slots LS hL hD hc hs
  obtain ⟨hx, hb, -, -, -, hown, hts, -⟩ := hC
  exact lv_ldcw hx hb hown (hts _ hw) hd j
theorem vs_ldc2 : vr_ldc2 vm_S := by
  intro M d c n pc ls st h Q idx v hd hw k
  intro p l e R s m args below meth cd B b D dT X Z hC hf hlo hret H locs cells slots LS hL hD hc hs
  have j := k p l e R s m args below meth cd B b D dT X Z hC hf hlo hret H locs cells slots LS hL hD hc hs
  obtain ⟨hx, hb, -, -, -, hown, hts, -⟩ := hC
  exact lv_ldc2 hx hb hown (hts _ hw) hd j
end
section
/-! ===== the rules of the heap ===== -/
theorem vm_S_put {A : Nat → Prop} {H0 H H1 : Heap} {locs L : List Loc} (h : va_S A H0 H locs) (h1 : va_S A H0 H1 L) : va_S A H0 H1 L := h1
theorem vm_cE_obj {B b : Nat} {dT : Nat → ClassId} {h : vH} {a ci : Nat} {q : vw_C} (hq : vCls[ci]? = some q) (n : Nat) : vm_cE B b dT h a (ci, n) = .inr (ci, (List.range q.2.2).map (fun k => vm_sh B b (vm_f h a k (vm_ft ci k)))) := by
  have hci : ci < 20 := Nat.lt_of_lt_of_le (List.getElem?_eq_some_iff.mp hq).1 (by decide)
  unfold vm_cE vm_n
  rw [if_pos hci, hq]
theorem vm_clsG : ∀ (ci : Nat) (q : vw_C), vCls[ci]? = some q → ∀ w ∈ u_ws q.1 q.2.1 q.2.2, w ∈ vm_G := by
  intro ci q hq w hw
  match ci, hq with
  | 0, hq => cases hq; exact (by decide +kernel : ∀ w ∈ u_ws RX0 TX0 5, w ∈ vm_G) w hw
  | 1, hq => cases hq; exact (by decide +kernel : ∀ w ∈ u_ws RX1 TX1 1, w ∈ vm_G) w hw
  | 2, hq => cases hq; exact (by decide +kernel : ∀ w ∈ u_ws RX2 TX2 3, w ∈ vm_G) w hw
  | 3, hq => cases hq; exact (by decide +kernel : ∀ w ∈ u_ws RX3 TX3 3, w ∈ vm_G) w hw
  | 4, hq => cases hq; exact (by decide +kernel : ∀ w ∈ u_ws RX4 TX4 1, w ∈ vm_G) w hw
  | 5, hq => cases hq; exact (by decide +kernel : ∀ w ∈ u_ws RX5 TX5 12, w ∈ vm_G) w hw
  | 6, hq => cases hq; exact (by decide +kernel : ∀ w ∈ u_ws RX6 TX6 5, w ∈ vm_G) w hw
  | 7, hq => cases hq; exact (by decide +kernel : ∀ w ∈ u_ws RX7 TX7 5, w ∈ vm_G) w hw
  | 8, hq => cases hq; exact (by decide +kernel : ∀ w ∈ u_ws RX8 TX8 2, w ∈ vm_G) w hw
  | 9, hq => cases hq; exact (by decide +kernel : ∀ w ∈ u_ws RX9 TX9 3, w ∈ vm_G) w hw
  | 10, hq => cases hq; exact (by decide +kernel : ∀ w ∈ u_ws RX10 TX10 10, w ∈ vm_G) w hw
  | 11, hq => cases hq; exact (by decide +kernel : ∀ w ∈ u_ws RX11 TX11 29, w ∈ vm_G) w hw
  | _ + 12, hq => cases hq
theorem vm_clsT : ∀ (ci : Nat) (q : vw_C), vCls[ci]? = some q → ∀ k, k < q.2.2 → parseFieldDescriptor (q.2.1 k).2.2.1 = some (vm_ft ci k) := by
  intro ci q hq
  match ci, hq with
  | 0, hq => cases hq; exact tyX0_ok
  | 1, hq => cases hq; exact tyX1_ok
  | 2, hq => cases hq; exact tyX2_ok
  | 3, hq => cases hq; exact tyX3_ok
  | 4, hq => cases hq; exact tyX4_ok
  | 5, hq => cases hq; exact tyX5_ok
  | 6, hq => cases hq; exact tyX6_ok
  | 7, hq => cases hq; exact tyX7_ok
  | 8, hq => cases hq; exact tyX8_ok
  | 9, hq => cases hq; exact tyX9_ok
  | 10, hq => cases hq; exact tyX10_ok
  | 11, hq => cases hq; exact tyX11_ok
  | _ + 12, hq => cases hq
theorem vm_clsN : ∀ (ci : Nat) (q : vw_C), vCls[ci]? = some q → ∀ a, a < q.2.2 → ∀ b, b < q.2.2 → a ≠ b → (q.2.1 a).2.1 ≠ (q.2.1 b).2.1 := by
  intro ci q hq
  match ci, hq with
  | 0, hq => cases hq; exact nmX0
  | 1, hq => cases hq; exact nmX1
  | 2, hq => cases hq; exact nmX2
  | 3, hq => cases hq; exact nmX3
  | 4, hq => cases hq; exact nmX4
  | 5, hq => cases hq; exact nmX5
  | 6, hq => cases hq; exact nmX6
  | 7, hq => cases hq; exact nmX7
  | 8, hq => cases hq; exact nmX8
  | 9, hq => cases hq; exact nmX9
  | 10, hq => cases hq; exact nmX10
  | 11, hq => cases hq; exact nmX11
  | _ + 12, hq => cases hq
theorem vm_Dh.of {B b : Nat} {D : va_G} {dT : Nat → ClassId} {X : Nat × (Nat → Int32)} {s : State} {h h' : vH} {H H1 : Heap} {locs locs1 : List Loc} {a : Nat} {kd : Nat × Nat} {e : va_E} (hD : vm_Dh B b D dT X s h H locs) (hk : (hK h)[a]? = some kd) (hsz : H1.size = H.size) (hP : va_P D vCls ((vm_W B b dT h).set a (B + a, e)) H1) (hS : va_S (fun q => B ≤ q) s.heap H1 locs1)
    (he : e = vm_cE B b dT h' a kd) (hkk : hK h' = hK h) (hxx : hX h' = hX h) (ho : ∀ (q : Nat) (kq : Nat × Nat), q ≠ a → vm_cE B b dT h' q kq = vm_cE B b dT h q kq) : vm_Dh B b D dT X s h' H1 locs1 := by
  subst he
  rw [vm_W_set hk hkk ho] at hP
  exact ⟨hP, by rw [hsz, hkk]; exact hD.2.1, hS, by rw [hxx]; exact hD.2.2.2⟩
theorem vm_cE_same {B b : Nat} {dT : Nat → ClassId} {h h' : vH} {q : Nat} (h1 : hI h' q = hI h q) (h2 : hL h' q = hL h q) (h3 : hR h' q = hR h q) (kq : Nat × Nat) : vm_cE B b dT h' q kq = vm_cE B b dT h q kq := by
  have hf : ∀ k t, vm_f h' q k t = vm_f h q k t := by
    intro k t
    unfold vm_f
    split <;> first | rw [h1] | rw [h2] | rw [h3]
  unfold vm_cE
  rw [h1, h2, h3]
  split
  · rw [show (fun k => vm_sh B b (vm_f h' q k (vm_ft kq.1 k))) = (fun k => vm_sh B b (vm_f h q k (vm_ft kq.1 k))) from funext (fun k => by rw [hf])]
  · rfl
theorem up2_row {α : Type} (f : Nat → Nat → α) (a k : Nat) (v : α) {q : Nat} (hq : q ≠ a) : up2 f a k v q = f q := by
  funext j; simp [up2, hq]
theorem vm_pf_o {B b : Nat} {dT : Nat → ClassId} {h : vH} {a k : Nat} {v : vV} (q : Nat) (kq : Nat × Nat) (hq : q ≠ a) : vm_cE B b dT (vm_pf h a k v) q kq = vm_cE B b dT h q kq := by
  obtain x | y | r | u := v
  · exact vm_cE_same (h := h) (h' := uI h a k x) (show up2 (hI h) a k x q = hI h q from up2_row _ _ _ _ hq) rfl rfl kq
  · exact vm_cE_same (h := h) (h' := uL h a k y) rfl (show up2 (hL h) a k y q = hL h q from up2_row _ _ _ _ hq) rfl kq
  · exact vm_cE_same (h := h) (h' := uR h a k r) rfl rfl (show up2 (hR h) a k r q = hR h q from up2_row _ _ _ _ hq) kq
  · rfl
theorem vm_pf_k {h : vH} {a k : Nat} {v : vV} : hK (vm_pf h a k v) = hK h := by
  obtain x | y | r | u := v <;> rfl
theorem vm_pf_x {h : vH} {a k : Nat} {v : vV} : hX (vm_pf h a k v) = hX h := by
  obtain x | y | r | u := v <;> rfl
theorem vm_pf_f {h : vH} {a k : Nat} {v : vV} {t : FieldType} (hf : vm_fit t v) : vm_f (vm_pf h a k v) a k t = v := by
  unfold vm_fit at hf
  split at hf <;> first | cases hf; done | (simp [vm_f, vm_pf, hI, hL, hR, uI, uL, uR, up2]; done) | skip
theorem vm_pf_n {h : vH} {a k j : Nat} {v : vV} {t : FieldType} (hj : j ≠ k) : vm_f (vm_pf h a k v) a j t = vm_f h a j t := by
  obtain x | y | r | u := v
  · unfold vm_f; split <;> first | rfl | (simp [vm_pf, hI, uI, up2, hj]; done)
  · unfold vm_f; split <;> first | rfl | (simp [vm_pf, hL, uL, up2, hj]; done)
  · unfold vm_f; split <;> first | rfl | (simp [vm_pf, hR, uR, up2, hj]; done)
  · rfl
theorem vm_fit_n {B b : Nat} {t : FieldType} {v : vV} (hf : vm_fit t v) : narrow t (vm_sh B b v) = vm_sh B b v ∧ fits t (vm_sh B b v) = true := by
  unfold vm_fit at hf
  split at hf
  · exact ⟨rfl, rfl⟩
  · rcases hf with rfl | rfl <;> exact ⟨rfl, rfl⟩
  · exact ⟨rfl, rfl⟩
  · rename_i r; cases r <;> exact ⟨rfl, rfl⟩
  · rename_i r; cases r <;> exact ⟨rfl, rfl⟩
  · cases hf
theorem vs_get : vr_get vm_S := by
  intro M d c n pc ls a st h Q idx ci kf hd hF hk k
  intro p l e R s m args below meth cd B b D dT X Z hC hf hlo hret H locs cells slots LS hLR hD hc hs
  have j := k p l e R s m args below meth cd B b D dT X Z hC hf hlo hret H locs cells slots LS hLR hD hc hs
  obtain ⟨hx, hb, -, -, -, hown, hts, hN, -, hKn, -⟩ := hC
  obtain ⟨q, hq, hlt, hdecl, hlink⟩ := hF
  have he : (vm_W B b dT h)[a]? = some (B + a, .inr (ci, (List.range q.2.2).map (fun k => vm_sh B b (vm_f h a k (vm_ft ci k))))) := by rw [vm_W_at hk, vm_cE_obj hq]
  have hv : ((List.range q.2.2).map (fun k => vm_sh B b (vm_f h a k (vm_ft ci k))))[kf]? = some (vm_sh B b (vm_f h a kf (vm_ft ci kf))) := by simp [hlt]
  rcases hlink with hl | hl
  · exact va_get hx hb hts (vm_clsG ci q hq) hown hKn hD.1 a he hq kf hlt (hts _ hl) (fun x hx => by rw [hdecl] at hx; exact hx) hv hd j
  · exact va_getN hx hb hts (vm_clsG ci q hq) hown hKn hD.1 a he hq kf hlt (va_Nw.use rfl (hN _ hl)) (fun x hx => by rw [hdecl] at hx; exact hx) hv hd j
theorem vm_set_obj {B b : Nat} {h : vH} {a ci k N : Nat} {v : vV} (hf : vm_fit (vm_ft ci k) v) (hlt : k < N) : ((List.range N).map (fun j => vm_sh B b (vm_f h a j (vm_ft ci j)))).set k (vm_sh B b v) = (List.range N).map (fun j => vm_sh B b (vm_f (vm_pf h a k v) a j (vm_ft ci j))) := by
  apply List.ext_getElem?
  intro i
  by_cases hi : i = k
  · subst hi
    rw [List.getElem?_set_self (by simpa using hlt)]
    simp [hlt, vm_pf_f hf]
  · rw [List.getElem?_set_ne (Ne.symm hi)]
    by_cases hN : i < N
    · simp [hN, vm_pf_n hi]
    · simp [hN]
theorem vs_put : vr_put vm_S := by
  intro M d c n pc ls v a st h Q idx ci kf hd hF hfin hk hfit k
  intro p l e R s m args below meth cd B b D dT X Z hC hf hlo hret H locs cells slots LS hLR hD hc hs
  have j := fun H1 locs1 hD1 => k p l e R s m args below meth cd B b D dT X Z hC hf hlo hret H1 locs1 cells slots LS hLR hD1 hc hs
  obtain ⟨hx, hb, -, -, -, hown, hts, hN, hnm, hKn, -⟩ := hC
  obtain ⟨q, hq, hlt, hdecl, hlink⟩ := hF
  have he : (vm_W B b dT h)[a]? = some (B + a, .inr (ci, (List.range q.2.2).map (fun k => vm_sh B b (vm_f h a k (vm_ft ci k))))) := by rw [vm_W_at hk, vm_cE_obj hq]
  have hfl : vm_fin ci kf = (q.2.1 kf).2.2.2 := by unfold vm_fin; rw [hq]
  have fin : ∀ (H1 : Heap) (locs1 : List Loc) (cell : Cell) (i : Nat), H[B + a]? = some cell → H1[B + a]? = some (cell.setSlot (D.2 ci kf) (vm_sh B b v)) → cell.cls = D.1 ci → cell.vm = .none → (∀ k, k < q.2.2 → cell.slots[D.2 ci k]? = some (vp_V ((List.range q.2.2).map (fun k => vm_sh B b (vm_f h a k (vm_ft ci k)))) k)) → H1.size = H.size → (∀ x, x ≠ B + a → H1[x]? = H[x]?) → vm_Dh B b D dT X s (vm_pf h a kf v) H1 (locs ++ [⟨B + a, i⟩]) := by
    intro H1 locs1 cell i q1 e1 q2 q3 q4 e2 e3
    have hap := va_apart (own := mO M) hts (vm_clsG ci q hq) (vm_ft ci) (vm_clsT ci q hq) (vm_clsN ci q hq) hKn hq
    have hlen : kf < ((List.range q.2.2).map (fun k => vm_sh B b (vm_f h a k (vm_ft ci k)))).length := by simpa using hlt
    refine hD.of (e := .inr (ci, ((List.range q.2.2).map (fun k => vm_sh B b (vm_f h a k (vm_ft ci k)))).set kf (vm_sh B b v))) hk e2 (hD.1.set (vm_W_D B b dT h) he ⟨_, hq, t_OB.to (V := updV (vp_V _) kf (vm_sh B b v)) ⟨_, e1, q2, q3, t_set q4 hap hlt (vm_sh B b v)⟩ (fun j _ => vp_updV_set hlen (vm_sh B b v) j)⟩ e3) (hD.2.2.1.put e2 e3 (Nat.le_add_right _ _)) (by rw [vm_set_obj hfit hlt, vm_cE_obj hq]) vm_pf_k vm_pf_x (fun q kq hq => vm_pf_o q kq hq)
  obtain ⟨r, h1, cell, q1, q2, q3, q4⟩ := hD.1 a _ he
  have hr : r = q := Option.some.inj (h1.symm.trans hq)
  subst hr
  obtain ⟨hS, hfc, kC, hkC, hkind⟩ := hKn.1 ci _ hq
  obtain ⟨cf, kf2, fi, f, hi, hsl⟩ := hS kf hlt
  have hlay := hts _ (vm_clsG ci r hq _ (u_in_lay hlt))
  have hst := (u_facts hfc hkC (u_lays hts (vm_clsG ci r hq) hlt) hi).1
  have hn := vm_fit_n (B := B) (b := b) hfit
  have hi' : s.fieldFound? r.1 (r.2.1 kf).2.1 (r.2.1 kf).2.2.1 = some (cf, kf2, fi, f) := by rw [← hdecl]; exact hi
  have hslot : f.slot < cell.slots.size := by rw [hsl]; exact k2_hasslot (q4 kf hlt)
  have hfl : vm_fin ci kf = (r.2.1 kf).2.2.2 := by unfold vm_fin; rw [hq]
  rcases hfin with hfin | ⟨hin2, ⟨q2', hq2, hown2⟩, ⟨q3', hq3, hlk⟩, hfin⟩
  · unfold u_lay at hlay
    rw [if_neg (by rw [← hfl, hfin]; decide)] at hlay
    have h6 := u_store hfc hkC hkind hlay hi (vm_clsT ci r hq kf hlt) hn.1 hn.2
    rcases hlink with hl | hl
    · refine W.putK hx hb (f := f) ⟨hown, hts _ hl, ⟨_, _, _, hi'⟩, hst⟩ (by rw [q2]; exact h6) q1 q3 hslot rfl rfl hd fun H' e1 e2 e3 => ?_
      exact j H' _ (fin H' locs cell _ q1 (by rw [hsl] at e1; exact e1) q2 q3 q4 e2 e3)
    · refine va_WputK hx hb (f := f) hown (va_Nw.use rfl (hN _ hl)) hi' hst (by rw [q2]; exact h6) q1 q3 hslot rfl rfl hd fun H' e1 e2 e3 => ?_
      exact j H' _ (fin H' locs cell _ q1 (by rw [hsl] at e1; exact e1) q2 q3 q4 e2 e3)
  · cases hq.symm.trans hq2
    cases hq.symm.trans hq3
    unfold u_lay at hlay
    rw [if_pos (by rw [← hfl, hfin])] at hlay
    have hcf : m.cls = cf := by
      obtain ⟨_, _, c', _, _, _, -, -, hf', -, -, -, hown3, -⟩ := Cond.laysFinal_spec hlay
      have e1 : c' = cf := by have := hi.symm.trans hf'; simp at this; exact this.1.symm
      rw [hdecl, hown2] at hown3
      rw [← e1]; exact Option.some.inj (hown.symm.trans hown3)
    have h6 := u_fits hfc hkC hkind (Or.inr hlay) hi (vm_clsT ci r hq kf hlt) hn.1 hn.2
    refine W.putFinK hx hb hown (hts _ hlk) hi' hst hcf (hnm.trans hin2) (by rw [q2]; exact h6) q1 q3 hslot rfl rfl hd fun H' e1 e2 e3 => ?_
    exact j H' _ (fin H' locs cell _ q1 (by rw [hsl] at e1; exact e1) q2 q3 q4 e2 e3)
/-! arrays -/
theorem vm_cE_arrI {B b : Nat} {dT : Nat → ClassId} {h : vH} {a t n : Nat} (h1 : 20 ≤ t) (h2 : t < 23) : vm_cE B b dT h a (t, n) = .inl (dT t, n, .inl (hI h a)) := by
  unfold vm_cE; rw [if_neg (by simp; omega), if_pos (by simpa using h2)]
theorem vm_cE_arrL {B b : Nat} {dT : Nat → ClassId} {h : vH} {a n : Nat} : vm_cE B b dT h a (23, n) = .inl (dT 23, n, .inr (.inl (hL h a))) := rfl
theorem vm_cE_arrR {B b : Nat} {dT : Nat → ClassId} {h : vH} {a t n : Nat} (h1 : t = 24 ∨ t = 25) : vm_cE B b dT h a (t, n) = .inl (dT t, n, .inr (.inr (.inr (.inr (fun j => (hR h a j).map (fun a => B + a)))))) := by
  rcases h1 with rfl | rfl <;> rfl
theorem vs_ald : vr_ald vm_S := by
  intro M d c n pc ls i a st h Q ins t len hd ht hk hin k
  intro p l e R s m args below meth cd B b D dT X Z hC hf hlo hret H locs cells slots LS hLR hD hc hs
  have j := k p l e R s m args below meth cd B b D dT X Z hC hf hlo hret H locs cells slots LS hLR hD hc hs
  obtain ⟨hx, hb, -, -, -, hown, hts, hN, -, hKn, -⟩ := hC
  rcases ht with ⟨rfl, rfl⟩ | ⟨rfl, rfl⟩ | ⟨rfl, rfl⟩
  · exact va_iald hx hb hKn hD.1 a 0 (by rw [vm_W_at hk, vm_cE_arrI (by decide) (by decide)]) rfl hin hd j
  · exact va_zald hx hb hKn hD.1 a 1 (by rw [vm_W_at hk, vm_cE_arrI (by decide) (by decide)]) rfl hin hd j
  · exact va_cald hx hb hKn hD.1 a 2 (by rw [vm_W_at hk, vm_cE_arrI (by decide) (by decide)]) rfl hin hd j
theorem vs_lald : vr_lald vm_S := by
  intro M d c n pc ls i a st h Q len hd hk hin k
  intro p l e R s m args below meth cd B b D dT X Z hC hf hlo hret H locs cells slots LS hLR hD hc hs
  have j := k p l e R s m args below meth cd B b D dT X Z hC hf hlo hret H locs cells slots LS hLR hD hc hs
  obtain ⟨hx, hb, -, -, -, hown, hts, hN, -, hKn, -⟩ := hC
  exact va_lald hx hb hKn hD.1 a 3 (by rw [vm_W_at hk, vm_cE_arrL]) rfl hin hd j
theorem vs_aald : vr_aald vm_S := by
  intro M d c n pc ls i a st h Q t len hd ht hk hin k
  intro p l e R s m args below meth cd B b D dT X Z hC hf hlo hret H locs cells slots LS hLR hD hc hs
  have j := k p l e R s m args below meth cd B b D dT X Z hC hf hlo hret H locs cells slots LS hLR hD hc hs
  obtain ⟨hx, hb, -, -, -, hown, hts, hN, -, hKn, -⟩ := hC
  have he : (vm_W B b dT h)[a]? = some (B + a, .inl (dT t, len, .inr (.inr (.inr (.inr (fun j => (hR h a j).map (fun a => B + a))))))) := by rw [vm_W_at hk, vm_cE_arrR ht]
  rcases ht with rfl | rfl
  · exact va_aldq hx hb hKn hD.1 a 4 (C := RX7) he rfl hin hd j
  · exact va_aldq hx hb hKn hD.1 a 5 (C := RX5) he rfl hin hd j
theorem vm_st {B b : Nat} {D : va_G} {dT : Nat → ClassId} {X : Nat × (Nat → Int32)} {s : State} {h h' : vH} {H H1 : Heap} {locs : List Loc} {a i : Nat} {kd : Nat × Nat} {e : va_E} (hD : vm_Dh B b D dT X s h H locs) (hk : (hK h)[a]? = some kd) (he : va_at D vCls (B + a, e) H1) (z : H1.size = H.size) (oq : ∀ x, x ≠ B + a → H1[x]? = H[x]?) (hc : e = vm_cE B b dT h' a kd) (hkk : hK h' = hK h) (hxx : hX h' = hX h) (ho : ∀ (q : Nat) (kq : Nat × Nat), q ≠ a → vm_cE B b dT h' q kq = vm_cE B b dT h q kq) : vm_Dh B b D dT X s h' H1 (locs ++ [⟨B + a, i⟩]) :=
  hD.of hk z (hD.1.set (vm_W_D B b dT h) (vm_W_at hk) he oq) (hD.2.2.1.put z oq (Nat.le_add_right _ _)) hc hkk hxx ho
theorem vm_arrI {B : Nat} {D : va_G} {dT : Nat → ClassId} {h : vH} {H1 : Heap} {a t n i : Nat} {x : Int32} (e : H1[B + a]? = some ((vp_cell (dT t) (n, .inl (hI h a))).setSlot i (.int x))) : va_at D vCls (B + a, .inl (dT t, n, .inl (hI (uI h a i x) a))) H1 := by
  show H1[B + a]? = some (vp_cell _ _)
  rw [e, vp_cell_i, vp_cell_i, arrV_store]
  congr 2
  funext q
  by_cases hq : q = i
  · subst hq; simp [updV, hI, uI, up2]
  · simp [updV, hI, uI, up2, hq]
theorem vs_ast : vr_ast vm_S := by
  intro M d c n pc ls x i a st h Q ins t len x' hd ht hk hin k
  intro p l e R s m args below meth cd B b D dT X Z hC hf hlo hret H locs cells slots LS hLR hD hc hs
  have j := fun H1 locs1 hD1 => k p l e R s m args below meth cd B b D dT X Z hC hf hlo hret H1 locs1 cells slots LS hLR hD1 hc hs
  obtain ⟨hx, hb, -, -, -, hown, hts, hN, -, hKn, -⟩ := hC
  have ht2 : 20 ≤ t ∧ t < 23 := by rcases ht with ⟨-, rfl, -⟩ | ⟨-, rfl, -⟩ | ⟨-, rfl, -⟩ <;> decide
  have he : (vm_W B b dT h)[a]? = some (B + a, .inl (dT t, len, .inl (hI h a))) := by rw [vm_W_at hk, vm_cE_arrI ht2.1 ht2.2]
  have hin2 : ¬ (i < 0 ∨ (vp_cell (dT t) (len, .inl (hI h a))).slots.size ≤ i.toNatClampNeg) := by rw [vp_cell_i, arrV_size]; exact hin
  have fin : ∀ (H1 : Heap), H1[B + a]? = some ((vp_cell (dT t) (len, .inl (hI h a))).setSlot i.toNatClampNeg (.int x')) → H1.size = H.size → (∀ q, q ≠ B + a → H1[q]? = H[q]?) → vm_Dh B b D dT X s (uI h a i.toNatClampNeg x') H1 (locs ++ [⟨B + a, i.toNatClampNeg⟩]) := fun H1 e z oq =>
    vm_st hD hk (vm_arrI e) z oq (by rw [vm_cE_arrI ht2.1 ht2.2]) rfl rfl (fun q kq hq => vm_cE_same (h := h) (h' := uI h a i.toNatClampNeg x') (show up2 (hI h) a _ x' q = hI h q from up2_row _ _ _ _ hq) rfl rfl kq)
  rcases ht with ⟨rfl, rfl, rfl⟩ | ⟨rfl, rfl, rfl⟩ | ⟨rfl, rfl, rfl⟩
  · exact W.iast hx hb (hD.1 a _ he) ((hKn.2 0 _ rfl).1 len (fun j => .int (hI h a j))) (fun q => by cases q) hin2 rfl rfl hd fun H1 e z oq => j H1 _ (fin H1 e z oq)
  · exact W.zast hx hb (hD.1 a _ he) ((hKn.2 1 _ rfl).1 len (fun j => .int (hI h a j))) (fun q => by cases q) hin2 rfl rfl hd fun H1 e z oq => j H1 _ (fin H1 e z oq)
  · exact W.cast hx hb (hD.1 a _ he) ((hKn.2 2 _ rfl).1 len (fun j => .int (hI h a j))) (fun q => by cases q) hin2 rfl rfl hd fun H1 e z oq => j H1 _ (fin H1 e z oq)
theorem vs_last : vr_last vm_S := by
  intro M d c n pc ls x i a st h Q len hd hk hin k
  intro p l e R s m args below meth cd B b D dT X Z hC hf hlo hret H locs cells slots LS hLR hD hc hs
  have j := fun H1 locs1 hD1 => k p l e R s m args below meth cd B b D dT X Z hC hf hlo hret H1 locs1 cells slots LS hLR hD1 hc hs
  obtain ⟨hx, hb, -, -, -, hown, hts, hN, -, hKn, -⟩ := hC
  have he : (vm_W B b dT h)[a]? = some (B + a, .inl (dT 23, len, .inr (.inl (hL h a)))) := by rw [vm_W_at hk, vm_cE_arrL]
  have hin2 : ¬ (i < 0 ∨ (vp_cell (dT 23) (len, .inr (.inl (hL h a)))).slots.size ≤ i.toNatClampNeg) := by rw [vp_cell_l, arrV_size]; exact hin
  refine W.last hx hb (hD.1 a _ he) ((hKn.2 3 _ rfl).1 len (fun j => .long (hL h a j))) (fun q => by cases q) hin2 rfl rfl hd fun H1 e z oq => j H1 _ ?_
  refine vm_st (e := .inl (dT 23, len, .inr (.inl (hL (uL h a i.toNatClampNeg x) a)))) hD hk ?_ z oq vm_cE_arrL.symm rfl rfl (fun q kq hq => vm_cE_same (h := h) (h' := uL h a i.toNatClampNeg x) rfl (show up2 (hL h) a _ x q = hL h q from up2_row _ _ _ _ hq) rfl kq)
  show H1[B + a]? = some (vp_cell _ _)
  rw [e, vp_cell_l, vp_cell_l, arrV_store]
  congr 2
  funext q
  by_cases hq : q = i.toNatClampNeg
  · subst hq; simp [updV, hL, uL, up2]
  · simp [updV, hL, uL, up2, hq]
theorem vs_sld : vr_sld vm_S := by
  intro M d c n pc ls i st h Q hd hin k
  intro p l e R s m args below meth cd B b D dT X Z hC hf hlo hret H locs cells slots LS hLR hD hc hs
  have j := k p l e R s m args below meth cd B b D dT X Z hC hf hlo hret H locs cells slots LS hLR hD hc hs
  obtain ⟨hx, hb, -, -, -, hown, hts, hN, -, hKn, hXs, hbB, hBs, -⟩ := hC
  rw [hD.2.2.2] at hin j
  exact va_sld hx hb hXs (Nat.lt_of_lt_of_le hbB hBs) (Nat.not_le.mpr hbB) hD.2.2.1 hin hd j
theorem vs_slen : vr_slen vm_S := by
  intro M d c n pc ls st h Q hd k
  intro p l e R s m args below meth cd B b D dT X Z hC hf hlo hret H locs cells slots LS hLR hD hc hs
  have j := k p l e R s m args below meth cd B b D dT X Z hC hf hlo hret H locs cells slots LS hLR hD hc hs
  obtain ⟨hx, hb, -, -, -, hown, hts, hN, -, hKn, hXs, hbB, hBs, -⟩ := hC
  rw [hD.2.2.2] at j
  exact va_slen hx hb hXs (Nat.lt_of_lt_of_le hbB hBs) (Nat.not_le.mpr hbB) hD.2.2.1 hd j
theorem vs_aast : vr_aast vm_S := by
  intro M d c n pc ls r i a st h Q t ci len hd ht hk hin hkr k
  intro p l e R s m args below meth cd B b D dT X Z hC hf hlo hret H locs cells slots LS hLR hD hc hs
  have j := fun H1 locs1 hD1 => k p l e R s m args below meth cd B b D dT X Z hC hf hlo hret H1 locs1 cells slots LS hLR hD1 hc hs
  obtain ⟨hx, hb, -, -, -, hown, hts, hN, -, hKn, -⟩ := hC
  have ht2 : t = 24 ∨ t = 25 := by rcases ht with ⟨rfl, -⟩ | ⟨rfl, -⟩ <;> simp
  have he : (vm_W B b dT h)[a]? = some (B + a, .inl (dT t, len, .inr (.inr (.inr (.inr (fun j => (hR h a j).map (fun a => B + a))))))) := by rw [vm_W_at hk, vm_cE_arrR ht2]
  have hlt : i.toNatClampNeg < len := Nat.not_le.mp fun q => hin (Or.inr q)
  have h0 : ¬ i < 0 := fun q => hin (Or.inl q)
  obtain ⟨q, t0, hq, htt⟩ : ∃ (q : vw_C) (t0 : Nat), vCls[ci]? = some q ∧ (vm_ty dT)[t0]? = some (dT t, .object q.1) := by
    rcases ht with ⟨rfl, rfl⟩ | ⟨rfl, rfl⟩
    · exact ⟨_, 4, rfl, rfl⟩
    · exact ⟨_, 5, rfl, rfl⟩
  have hv : (vm_W B b dT h)[r]? = some (B + r, .inr (ci, (List.range q.2.2).map (fun k => vm_sh B b (vm_f h r k (vm_ft ci k))))) := by rw [vm_W_at hkr, vm_cE_obj hq]
  obtain ⟨r', hr', cellV, g1, g2, g3, -⟩ := hD.1 r _ hv
  have hcls := (hKn.1 ci q hq).2
  obtain ⟨kA, comp, k1, k2, k3, -⟩ := (hKn.2 t0 _ htt).2
  have hcomp : comp = D.1 ci := Option.some.inj (k3.symm.trans hcls.1)
  subst hcomp
  obtain ⟨kC, hkC, -⟩ := hcls.2
  refine W.aast hx hb (hD.1 a _ he) (fun q h => by cases h) (fun h => by cases h) k1 k2 rfl hkC ⟨h0, by show _ < (arrV _ _ _).slots.size; rw [arrV_size]; exact hlt⟩ g1 (fun q h => by rw [g3] at h; cases h) (by rw [g2]; exact hkC) (by rw [g2]; exact va_assign hcls) rfl rfl hd fun H1 e z oq => j H1 _ ?_
  refine vm_st (e := .inl (dT t, len, .inr (.inr (.inr (.inr (fun j => (hR (uR h a i.toNatClampNeg (some r)) a j).map (fun a => B + a))))))) hD hk ?_ z oq (vm_cE_arrR ht2).symm rfl rfl (fun q kq hq => vm_cE_same (h := h) (h' := uR h a i.toNatClampNeg (some r)) rfl rfl (show up2 (hR h) a _ (some r) q = hR h q from up2_row _ _ _ _ hq) kq)
  show H1[B + a]? = some (vp_cell _ _)
  rw [e, vp_cell_q, vp_cell_q, arrV_store]
  congr 2
  funext q
  by_cases hq : q = i.toNatClampNeg
  · subst hq; simp [updV, hR, uR, up2, va_rf]
  · simp [updV, hR, uR, up2, hq]
end
section
/-! ===== new cells, calls, ends ===== -/
theorem vm_W_new {B b : Nat} {dT : Nat → ClassId} {h : vH} {kd : Nat × Nat} (ho : ∀ (q : Nat) (kq : Nat × Nat), q ≠ (hK h).length → vm_cE B b dT (uN h kd) q kq = vm_cE B b dT h q kq) : vm_W B b dT (uN h kd) = vm_W B b dT h ++ [(B + (hK h).length, vm_cE B b dT (uN h kd) (hK h).length kd)] := by
  apply List.ext_getElem?
  intro i
  have hl : (vm_W B b dT h).length = (hK h).length := by simp [vm_W]
  have hkk : hK (uN h kd) = hK h ++ [kd] := rfl
  rw [vm_W_get, hkk]
  by_cases hi : i < (hK h).length
  · rw [List.getElem?_append_left hi, List.getElem?_append_left (by rw [hl]; exact hi), vm_W_get]
    cases (hK h)[i]? with
    | none => rfl
    | some kq => simp only [Option.map_some, ho i kq (Nat.ne_of_lt hi)]
  · rw [List.getElem?_append_right (by omega), List.getElem?_append_right (by rw [hl]; omega), hl]
    by_cases he : i = (hK h).length
    · subst he; simp
    · rw [List.getElem?_eq_none (by simp; omega), List.getElem?_eq_none (by simp; omega)]; rfl
theorem up1_row {α : Type} (f : Nat → Nat → α) (a : Nat) (v : α) {q : Nat} (hq : q ≠ a) : up1 f a v q = f q := by
  funext j; simp [up1, hq]
theorem up1_self {α : Type} (f : Nat → Nat → α) (a : Nat) (v : α) : up1 f a v a = fun _ => v := by
  funext j; simp [up1]
theorem vm_new_o {B b : Nat} {dT : Nat → ClassId} {h : vH} {kd : Nat × Nat} (q : Nat) (kq : Nat × Nat) (hq : q ≠ (hK h).length) : vm_cE B b dT (uN h kd) q kq = vm_cE B b dT h q kq :=
  vm_cE_same (h := h) (h' := uN h kd) (show up1 (hI h) _ 0 q = hI h q from up1_row _ _ _ hq) (show up1 (hL h) _ 0 q = hL h q from up1_row _ _ _ hq) (show up1 (hR h) _ none q = hR h q from up1_row _ _ _ hq) kq
theorem vm_born {B b : Nat} {D : va_G} {dT : Nat → ClassId} {X : Nat × (Nat → Int32)} {s : State} {h : vH} {H H1 : Heap} {locs : List Loc} {kd : Nat × Nat} (hD : vm_Dh B b D dT X s h H locs) (hB : B ≤ s.heap.size) (z : H1.size = H.size + 1) (oq : ∀ x, x < H.size → H1[x]? = H[x]?) (he : va_at D vCls (B + (hK h).length, vm_cE B b dT (uN h kd) (hK h).length kd) H1) : vm_Dh B b D dT X s (uN h kd) H1 locs := by
  obtain ⟨hP, hz, hS, hX⟩ := hD
  refine ⟨?_, by rw [z, hz]; simp [uN, hK]; omega, ⟨Nat.le_trans hS.1 (by omega), fun x h1 h2 => (oq x (Nat.lt_of_lt_of_le h1 hS.1)).trans (hS.2.1 x h1 h2), hS.2.2⟩, hX⟩
  rw [vm_W_new (fun q kq hq => vm_new_o q kq hq)]
  refine (hP.kept (fun k x hx => oq x.1 ((hP k x hx).lt))).app (fun k x hx => ?_)
  have hk0 : k < 1 := (List.getElem?_eq_some_iff.mp hx).1
  rw [show k = 0 by omega] at hx
  cases hx
  exact he
theorem vm_f_new {h : vH} {kd : Nat × Nat} {B b k : Nat} {t : FieldType} (ht : t = .int ∨ t = .boolean ∨ t = .char ∨ t = .long ∨ (∃ n, t = .object n) ∨ ∃ u, t = .array u) : vm_sh B b (vm_f (uN h kd) (hK h).length k t) = defaultValue t := by
  rcases ht with rfl | rfl | rfl | rfl | ⟨n, rfl⟩ | ⟨u, rfl⟩ <;> simp [vm_f, uN, hI, hL, hR, hK, up1, vm_sh, defaultValue, va_rf]
theorem vm_ft_is (ci k : Nat) : vm_ft ci k = .int ∨ vm_ft ci k = .boolean ∨ vm_ft ci k = .char ∨ vm_ft ci k = .long ∨ (∃ n, vm_ft ci k = .object n) ∨ ∃ u, vm_ft ci k = .array u := by
  unfold vm_ft
  split <;> first | (unfold tyX0; split <;> simp; done) | (unfold tyX1; split <;> simp; done) | (unfold tyX2; split <;> simp; done) | (unfold tyX3; split <;> simp; done) | (unfold tyX4; split <;> simp; done) | (unfold tyX5; split <;> simp; done) | (unfold tyX6; split <;> simp; done) | (unfold tyX7; split <;> simp; done) | (unfold tyX8; split <;> simp; done) | (unfold tyX9; split <;> simp; done) | (unfold tyX10; split <;> simp; done) | (unfold tyX11; split <;> simp; done)
theorem vs_new : vr_new vm_S := by
  intro M d c n pc ls st h Q idx ci q hd hq hcl hins hini h1c h1n k
  intro p l e R s m args below meth cd B b D dT X Z hC hf hlo hret H locs cells slots LS hLR hD hc hs
  have j := fun H1 hD1 hc1 hs1 => k p l e R s m args below meth cd B b D dT X Z hC hf hlo hret H1 locs (cells + 1) (slots + q.2.2) LS hLR hD1 hc1 hs1
  obtain ⟨hx, hb, -, -, -, hown, hts, hN, -, hKn, hXs, hbB, hBs, -⟩ := hC
  have hKq := hKn.1 ci _ hq
  refine W.newcK hx hb hown (hts _ hcl) (hts _ hins) (hts _ hini) rfl hd (by omega) (by omega) hKq.2.1 hD.2.1 fun H1 kC hkC e1 z1 o1 => ?_
  refine j H1 (vm_born hD hBs (by rw [z1, hD.2.1]) (fun x hx => o1 x (by rw [← hD.2.1]; exact hx)) ?_) (by omega) (by omega)
  rw [vm_cE_obj hq]
  refine ⟨_, hq, (u_born (vm_ft ci) hts (vm_clsG ci q hq) hKq hkC e1 (vm_clsT ci q hq)).to (fun i hi => ?_)⟩
  show defaultValue (vm_ft ci i) = vp_V _ i
  unfold vp_V
  rw [List.getD_eq_getElem?_getD]
  simp [hi, vm_f_new (vm_ft_is ci i)]
theorem vs_newa : vr_newa vm_S := by
  intro M d c n pc ls st h Q ty t N kk hd ht hk0 hkN hN6 h1c h1n k
  intro p l e R s m args below meth cd B b D dT X Z hC hf hlo hret H locs cells slots LS hLR hD hc hs
  have j := fun H1 hD1 hc1 hs1 => k p l e R s m args below meth cd B b D dT X Z hC hf hlo hret H1 locs (cells + 1) (slots + N) LS hLR hD1 hc1 hs1
  obtain ⟨hx, hb, -, -, -, hown, hts, hNw, -, hKn, hXs, hbB, hBs, -⟩ := hC
  have wI : Cond.arrayClass .int ∈ vm_G := by decide +kernel
  have wZ : Cond.arrayClass .boolean ∈ vm_G := by decide +kernel
  have wC : Cond.arrayClass .char ∈ vm_G := by decide +kernel
  have wL : Cond.arrayClass .long ∈ vm_G := by decide +kernel
  rcases ht with ⟨rfl, rfl⟩ | ⟨rfl, rfl⟩ | ⟨rfl, rfl⟩ | ⟨rfl, rfl⟩
  · refine va_newaK (atype := .int) hx hb (hts _ wI) rfl hd rfl hk0 hkN (by show N * 4 ≤ _; omega) (by omega) (by omega) hD.2.1 fun H1 cA e1 z1 o1 hAr hNm => ?_
    have hcA : cA = dT 20 := Option.some.inj (hNm.symm.trans (hKn.2 0 _ rfl).2)
    subst hcA
    refine j H1 (vm_born hD hBs (by rw [z1, hD.2.1]) (fun x hx => o1 x (by rw [← hD.2.1]; exact hx)) ?_) (by omega) (by omega)
    rw [vm_cE_arrI (by decide) (by decide)]
    show H1[_]? = some (vp_cell _ _)
    rw [e1, vp_cell_i, show hI (uN h (20, N)) (hK h).length = fun _ => 0 from up1_self _ _ _]
    rfl
  · refine va_newaK (atype := .boolean) hx hb (hts _ wZ) rfl hd rfl hk0 hkN (by show N * 1 ≤ _; omega) (by omega) (by omega) hD.2.1 fun H1 cA e1 z1 o1 hAr hNm => ?_
    have hcA : cA = dT 21 := Option.some.inj (hNm.symm.trans (hKn.2 1 _ rfl).2)
    subst hcA
    refine j H1 (vm_born hD hBs (by rw [z1, hD.2.1]) (fun x hx => o1 x (by rw [← hD.2.1]; exact hx)) ?_) (by omega) (by omega)
    rw [vm_cE_arrI (by decide) (by decide)]
    show H1[_]? = some (vp_cell _ _)
    rw [e1, vp_cell_i, show hI (uN h (21, N)) (hK h).length = fun _ => 0 from up1_self _ _ _]
    rfl
  · refine va_newaK (atype := .char) hx hb (hts _ wC) rfl hd rfl hk0 hkN (by show N * 2 ≤ _; omega) (by omega) (by omega) hD.2.1 fun H1 cA e1 z1 o1 hAr hNm => ?_
    have hcA : cA = dT 22 := Option.some.inj (hNm.symm.trans (hKn.2 2 _ rfl).2)
    subst hcA
    refine j H1 (vm_born hD hBs (by rw [z1, hD.2.1]) (fun x hx => o1 x (by rw [← hD.2.1]; exact hx)) ?_) (by omega) (by omega)
    rw [vm_cE_arrI (by decide) (by decide)]
    show H1[_]? = some (vp_cell _ _)
    rw [e1, vp_cell_i, show hI (uN h (22, N)) (hK h).length = fun _ => 0 from up1_self _ _ _]
    rfl
  · refine va_newaK (atype := .long) hx hb (hts _ wL) rfl hd rfl hk0 hkN (by show N * 8 ≤ _; omega) (by omega) (by omega) hD.2.1 fun H1 cA e1 z1 o1 hAr hNm => ?_
    have hcA : cA = dT 23 := Option.some.inj (hNm.symm.trans (hKn.2 3 _ rfl).2)
    subst hcA
    refine j H1 (vm_born hD hBs (by rw [z1, hD.2.1]) (fun x hx => o1 x (by rw [← hD.2.1]; exact hx)) ?_) (by omega) (by omega)
    rw [vm_cE_arrL]
    show H1[_]? = some (vp_cell _ _)
    rw [e1, vp_cell_l, show hL (uN h (23, N)) (hK h).length = fun _ => 0 from up1_self _ _ _]
    rfl
theorem vs_anew : vr_anew vm_S := by
  intro M d c n pc ls st h Q idx t N C kk hd ht hcl hk0 hkN hN6 h1c h1n k
  intro p l e R s m args below meth cd B b D dT X Z hC hf hlo hret H locs cells slots LS hLR hD hc hs
  have j := fun H1 hD1 hc1 hs1 => k p l e R s m args below meth cd B b D dT X Z hC hf hlo hret H1 locs (cells + 1) (slots + N) LS hLR hD1 hc1 hs1
  obtain ⟨hx, hb, -, -, -, hown, hts, hNw, -, hKn, hXs, hbB, hBs, ha7, ha5⟩ := hC
  subst hkN
  have hAO : va_AO C s := by rcases ht with ⟨rfl, -⟩ | ⟨rfl, -⟩ <;> assumption
  have ht2 : t = 24 ∨ t = 25 := by rcases ht with ⟨-, rfl⟩ | ⟨-, rfl⟩ <;> simp
  have hty : ∃ t0 : Nat, (vm_ty dT)[t0]? = some (dT t, FieldType.object C) := by
    rcases ht with ⟨rfl, rfl⟩ | ⟨rfl, rfl⟩
    · exact ⟨4, rfl⟩
    · exact ⟨5, rfl⟩
  obtain ⟨t0, htt⟩ := hty
  refine W.anew hx hb hown (hts _ hcl) (va_AO.use hAO) rfl hd rfl hk0 (by omega) (by omega) (by omega) fun cA kA comp f1 f2 f3 f4 => ?_
  obtain ⟨kA2, comp2, -, -, -, g4⟩ := (hKn.2 t0 _ htt).2
  have hcA : cA = dT t := Option.some.inj (f1.symm.trans g4)
  subst hcA
  rw [hD.2.1]
  refine j _ (vm_born hD hBs (by rw [Array.size_push]) (fun x hx => by rw [Array.getElem?_push, if_neg (Nat.ne_of_lt hx)]) ?_) (by omega) (by omega)
  rw [vm_cE_arrR ht2]
  show (Array.push _ _)[B + (hK h).length]? = some (vp_cell _ _)
  rw [← hD.2.1, Array.getElem?_push_size, vp_cell_q, show hR (uN h (t, kk.toNatClampNeg)) (hK h).length = fun _ => none from up1_self _ _ _, ← arrV_new]
  rfl
theorem vm_oiG : Cond.instanceMethod Lib.objectInit ∈ vm_G ∧ Cond.code Lib.objectInit ⟨#[0xb1]⟩ 1 none ∈ vm_G := ⟨by decide +kernel, by decide +kernel⟩
theorem vs_oin : vr_oin vm_S := by
  intro M d c n pc ls a st h Q idx hd hl hct hd1 k
  intro p l e R s m args below meth cd B b D dT X Z hC hf hlo hret H locs cells slots LS hLR hD hc hs
  have j := k p l e R s m args below meth cd B b D dT X Z hC hf hlo hret H locs cells slots LS hLR hD hc hs
  obtain ⟨hx, hb, hml, -, -, hown, hts, -⟩ := hC
  refine W.objInit hx hb hown (hts _ hl) (hts _ vm_oiG.1) (hts _ vm_oiG.2) rfl (by rw [hml]; exact hLR.2.1) rfl hd (by omega) ?_ j
  have h8 := lv_room (m := m) (pc := pc) (ls := LS) (rest := List.map (vm_sh B b) (vR (some a) :: st)) (st := st.map (vm_sh B b)) (by rw [vm_cats_eq]; exact hct)
  omega
def vm_Pc (B b : Nat) (D : va_G) (dT : Nat → ClassId) (X : Nat × (Nat → Int32)) (av : vT) (h : vH) : Array Value → State → Prop := fun v U => v = (av.map (vm_sh B b)).toArray ∧ (∀ w ∈ vm_N, va_Nw w U) ∧ va_K D vCls (vm_ty dT) U ∧ va_X b X.1 X.2 U U.heap ∧ B ≤ U.heap.size ∧ va_AO RX7 U ∧ va_AO RX5 U ∧ va_P D vCls (vm_W B b dT h) U.heap ∧ U.heap.size = B + (hK h).length
def vm_Qc (B b : Nat) (D : va_G) (dT : Nat → ClassId) (X : Nat × (Nat → Int32)) (Q : vQ) : Array Value → State → Outcome → State → Prop := fun _ st o t => (∃ (v : Option vV) (h : vH), o = .returned (v.map (vm_sh B b)) ∧ Q v h ∧ va_P D vCls (vm_W B b dT h) t.heap ∧ t.heap.size = B + (hK h).length ∧ hX h = X) ∧ va_F (fun q => B ≤ q) st t
def vm_cw (K : vM) : List Cond := Cond.code (mY K) (mB K) (mL K) (mT K) :: vm_G
def vm_rm (d c n : Nat) : Room := { frames := d, cells := c, slots := n, locals := 60 * d + 20 }
theorem vm_met {K : vM} {d c n B b : Nat} {D : va_G} {dT : Nat → ClassId} {X : Nat × (Nat → Int32)} {av : vT} {h : vH} {Q : vQ} (l : Launch) (hK0 : vm_Mok K) (hbB : b < B) (hXX : hX h = X) (hlen : (vm_sl av).length ≤ mL K) (k : vm_S K d c n 0 (vm_ent (mL K) av) [] h Q) :
    Met l (mY K) (vm_cw K) (vm_rm d c n) (vm_Pc B b D dT X av h) (vm_Qc B b D dT X Q) c n (fun q => B ≤ q) := by
  refine Met.ofW (cc := mB K) (maxL := mL K) (ret := mT K) hK0.2.2.2.1 rfl ?_
  intro p e s m args below meth cd s₁ Bd hml hv
  obtain ⟨rfl, hN, hKn, hXs, hBs, ha7, ha5, hP, hsz⟩ := hv
  have hts0 := atoms_spec (ws := vm_cw K) Bd.pre
  have hts : ∀ w ∈ vm_G, w.before _ s = true := fun w hw => hts0 w (List.mem_cons_of_mem _ hw)
  have hown : s.vm.findClass (mO K) = some m.cls := by rw [hK0.2.2.2.2.2]; exact findClass_of_methodNamed Bd.named
  have hnm : meth.name = (mY K).name := (name_of_methodNamed Bd.named Bd.method).1
  have hx := Bd.exec
  have hb := Bd.bytes
  have hr := Bd.returns
  have hlocks := Bd.notSynchronized
  rw [lg_entry_eq]
  refine k p l e _ s m _ below meth cd B b D dT X (MQ below (vm_Qc B b D dT X Q) _ s c n (fun q => B ≤ q)) ⟨hx, hb, hml, hr, hlocks, hown, hts, hN, hnm, hKn, hXs, hbB, hBs, ha7, ha5⟩ (Nat.le_refl _) (Nat.le_refl _) ?_ s.heap [] 0 0 _ (vm_LR.ent hlen) ⟨hP, hsz, va_S.rf, hXX⟩ (Nat.le_of_eq (Nat.zero_add _)) (Nat.le_of_eq (Nat.zero_add _))
  intro v h' H locs cells slots LS pc ins hd hrt hQ hDh hc hs
  refine W.widen (k := c) (n := n) hc hs ?_
  obtain ⟨hP1, hz1, hS1, hX1⟩ := hDh
  have post : ∀ t : State, t.heap = H → s.WarmedH t.vm → vm_Qc B b D dT X Q (List.map (vm_sh B b) av).toArray s (.returned (v.map (vm_sh B b))) t := fun t ht hW => ⟨⟨v, h', rfl, hQ, by rw [ht]; exact hP1, by rw [ht]; exact hz1, hX1⟩, hS1.F ht⟩
  unfold vm_ret at hrt
  split at hrt
  · exact W.vret hx hb (hr.trans hrt) post hS1.2.2 hd hlocks
  · obtain ⟨ty, h1, h2⟩ := hrt
    exact W.zret hx hb (hr.trans h1) h2 post hS1.2.2 hd hlocks
  · exact W.lret hx hb (hr.trans hrt) post hS1.2.2 hd hlocks
  · obtain ⟨nm, h1⟩ := hrt
    rename_i r
    cases r with
    | none => exact W.aret hx hb (hr.trans h1) (Or.inl ⟨_, rfl⟩) (Or.inl rfl) post hS1.2.2 hd hlocks
    | some r => exact W.aret hx hb (hr.trans h1) (Or.inl ⟨_, rfl⟩) (Or.inr ⟨_, rfl⟩) post hS1.2.2 hd hlocks
  · cases hrt
theorem vm_nwOn {w : Cond} (h : w ∈ vm_N) : w.onTables = true := by
  have h1 := (List.mem_filter.mp h).2
  cases w <;> first | rfl | cases h1
theorem vm_nwW {w : Cond} (h : w ∈ vm_N) {s U : State} (hW : s.WarmedH U.vm) (hz : va_Nw w s) : va_Nw w U := by
  have h1 := (List.mem_filter.mp h).2
  cases w <;> first | exact va_Nw.warmF hW hz | exact va_Nw.warmM hW hz | cases h1
theorem vm_blind {B b : Nat} {D : va_G} {dT : Nat → ClassId} {X : Nat × (Nat → Int32)} {av : vT} {h : vH} : FrameBlind (vm_Pc B b D dT X av h) := by
  intro a U g mk q
  obtain ⟨q0, q1, q2, q3, q3b, q4, q5, q6, q7⟩ := q
  exact ⟨q0, fun w hw => va_Nw.same (vm_nwOn hw) (u := U) (U := U.calling g mk a) rfl (q1 w hw), va_K.moved (u := U) (U := U.calling g mk a) (Vm.Alike.refl U.vm) q2, va_X.moved (u := U) (U := U.calling g mk a) (Vm.Alike.refl U.vm) q3, q3b, va_AO.moved (u := U) (U := U.calling g mk a) (Vm.Alike.refl U.vm) q4, va_AO.moved (u := U) (U := U.calling g mk a) (Vm.Alike.refl U.vm) q5, q6, q7⟩
theorem vm_before {M : vM} {p : Program} {s : State} {m : MethodId} {meth : Method} {cd : Code} {args : Array Value} {B b : Nat} {D : va_G} {dT : Nat → ClassId} {X : Nat × (Nat → Int32)} {h : vH} {H : Heap} {locs : List Loc} (hC : vm_Cx M p s m meth cd args B b D dT X) (hD : vm_Dh B b D dT X s h H locs) (av : vT) : ∀ U : State, U.heap = H → s.WarmedH U.vm → vm_Pc B b D dT X av h (av.map (vm_sh B b)).toArray U := by
  intro U hU hW
  obtain ⟨-, -, -, -, -, -, -, hN, -, hKn, hXs, hbB, hBs, ha7, ha5⟩ := hC
  obtain ⟨hP, hz, hS, -⟩ := hD
  refine ⟨rfl, fun w hw => vm_nwW hw hW (hN w hw), va_K.moved hW.alike hKn, ?_, by rw [hU]; exact Nat.le_trans hBs hS.1, va_AO.moved hW.alike ha7, va_AO.moved hW.alike ha5, by rw [hU]; exact hP, by rw [hU]; exact hz⟩
  rw [hU]
  exact (va_X.moved hW.alike hXs).kept (hS.2.1 b (Nat.lt_of_lt_of_le hbB hBs) (Nat.not_le.mpr hbB))
theorem vm_after {M : vM} {p : Program} {l : Launch} {e : Env} {R : Room} {s : State} {m : MethodId} {args : Array Value} {below : List Frame} {meth : Method} {cd : Code} {H : Heap} {locs : List Loc} {cells slots c1 n1 pc : Nat} {LS : Array Slot} {st0 rest : List Value} {a : Array Value} {Z : State → Prop} {B b : Nat} {D : va_G} {dT : Nat → ClassId} {X : Nat × (Nat → Int32)} {h : vH} {Q1 : vQ}
    (hr : va_Run p l e R s m args below meth cd H locs cells slots c1 n1 (F0 m pc LS st0) rest (vm_Qc B b D dT X Q1 a) (fun q => B ≤ q)) (hBs : B ≤ s.heap.size) (hD : vm_Dh B b D dT X s h H locs)
    (kk : ∀ (v : Option vV) (h1 : vH) (H1 : Heap) (locs1 : List Loc), Q1 v h1 → vm_Dh B b D dT X s h1 H1 locs1 → W p l e R s m args below meth cd H1 locs1 (cells + c1) (slots + n1) Z (F0 m (pc + 3) LS ((v.map (vm_sh B b)).toList ++ rest))) : W p l e R s m args below meth cd H locs cells slots Z (F0 m pc LS st0) := by
  intro T hT Xs
  obtain ⟨v, st₀, t, T', L, h0, X', hL, e1, e2, ⟨⟨r, h1, hv, hp, hP1, hz1, hX1⟩, hz, hk⟩, st⟩ := hr T hT Xs
  cases hv
  rw [h0] at hz hk
  have hS := hD.2.2.1
  obtain ⟨t2, a1, b1⟩ := kk r h1 T'.heap (locs ++ L) hp ⟨by rw [e1]; exact hP1, by rw [e1]; exact hz1, ⟨Nat.le_trans hS.1 (by rw [e1]; exact hz), fun q h2 h3 => by rw [e1, hk q (Nat.lt_of_lt_of_le h2 hS.1) h3]; exact hS.2.1 q h2 h3, fun q hq => by
      rcases List.mem_append.mp hq with h | h
      · exact hS.2.2 q h
      · exact hL q h⟩, hX1⟩ T' rfl X'
  exact ⟨t2, st t2 a1, b1⟩
theorem vm_endst (B b : Nat) (v : Option vV) (st : vT) : (v.map (vm_sh B b)).toList ++ st.map (vm_sh B b) = (vm_end v ++ st).map (vm_sh B b) := by
  cases v <;> rfl
theorem vm_good : ∀ w ∈ vm_G, w ∈ vm_G ∧ ((w.onTables && w.keeps) = true ∨ ∃ ty, w = .arrayClass ty) := fun w hw => ⟨hw, good_of_word (List.mem_filter.mp hw).2⟩
theorem vm_goodK {K : vM} (hK0 : vm_Mok K) : GoodIn vm_G (vm_cw K) := fun w hw => by
  rcases List.mem_cons.mp hw with rfl | hw
  · exact vm_good _ hK0.1
  · exact vm_good _ hw
theorem vm_hR {R : Room} {d c n : Nat} {K : vM} (hK0 : vm_Mok K) (hd1 : 1 ≤ d) (hf : d ≤ R.frames) (hlo : 60 * d + 20 ≤ R.locals) : (vm_rm (d - 1) c n).frames + 1 ≤ R.frames ∧ 8 + (mL K + 11) + (vm_rm (d - 1) c n).locals ≤ R.locals := by
  have h5 := hK0.2.2.2.2.1
  refine ⟨by show d - 1 + 1 ≤ _; omega, by show 8 + (mL K + 11) + (60 * (d - 1) + 20) ≤ _; omega⟩
theorem vs_inv : vr_inv vm_S := by
  intro M d c n pc ls a av st h Q idx ci c1 n1 K R0 hd hK0 hlk hins hsel hci hk hav hlen hct hd1 hc1 hn1 k1 k2
  intro p l e R s m args below meth cd B b D dT X Z hC hf hlo hret H locs cells slots LS hLR hD hc hs
  have hC0 := hC
  obtain ⟨hx, hb, hml, -, -, hown, hts, hN, hnm, hKn, hXs, hbB, hBs, ha7, ha5⟩ := hC
  obtain ⟨q, hq, hqn⟩ := hci
  have hM := vm_met (D := D) (dT := dT) (X := X) l hK0 hbB hD.2.2.2 hlen k1
  have hst : List.map (vm_sh B b) (av.reverse ++ vR (some a) :: st) = (av.map (vm_sh B b)).reverse ++ .ref (B + a) :: st.map (vm_sh B b) := by
    rw [List.map_append, List.map_reverse]; rfl
  have he : (vm_W B b dT h)[a]? = some (B + a, .inr (ci, (List.range q.2.2).map (fun k => vm_sh B b (vm_f h a k (vm_ft ci k))))) := by rw [vm_W_at hk, vm_cE_obj hq]
  have hpre : PreV s H (mY K).cls (B + a) (vm_Pc B b D dT X (vR (some a) :: av) h) (av.map (vm_sh B b)) := ⟨vm_blind, by rw [← hqn]; exact va_recv hKn hD.1 hq he, vm_before hC0 hD (vR (some a) :: av)⟩
  have hrm := vm_hR (c := c1) (n := n1) hK0 hd1 hf hlo
  have h8 : 2 * (F0 m pc LS (List.map (vm_sh B b) (av.reverse ++ vR (some a) :: st))).monitorRoom + ((st.map (vm_sh B b)).map fun v => v.category).sum ≤ 8 := lv_room (by rw [vm_cats_eq]; exact hct)
  have fin : va_Run p l e R s m args below meth cd H locs cells slots c1 n1 (F0 m pc LS (List.map (vm_sh B b) (av.reverse ++ vR (some a) :: st))) (st.map (vm_sh B b)) (vm_Qc B b D dT X R0 (Value.ref (B + a) :: av.map (vm_sh B b)).toArray) (fun q => B ≤ q) := by
    rcases hlk with hl | hl
    · exact va_runV (Ts := vm_G) (own := mO M) (C := (mY K).cls) (As := av.map (vm_sh B b)) (n := mN K) (nL := mL M) ⟨hx, hb, hml, hown, hts⟩ hM (cwV (mN K) hts (fun w hw => by
          rcases List.mem_append.mp hw with hw | hw
          · simp only [List.mem_cons, List.not_mem_nil, or_false] at hw
            rcases hw with rfl | rfl | rfl | rfl
            · exact vm_good _ hl
            · exact vm_good _ hins
            · exact vm_good _ hsel
            · exact vm_good _ hK0.2.1
          · exact vm_goodK hK0 w hw) rfl rfl rfl ⟨rfl, hK0.2.2.1⟩ hrm) hpre rfl (by simpa using hav) hLR.2.1 hst h8 hd ⟨by omega, by omega⟩
    · exact va_runVN (Ts := vm_G) (own := mO M) (C := (mY K).cls) (As := av.map (vm_sh B b)) (n := mN K) (nL := mL M) ⟨hx, hb, hml, hown, hts⟩ hM ⟨va_cnB (mN K) hts (vm_goodK hK0) rfl rfl rfl (hN _ hl) (hts _ hK0.2.1) hK0.2.2.1 hrm, hts _ hins, hts _ hsel⟩ hpre rfl (by simpa using hav) hLR.2.1 hst h8 hd ⟨by omega, by omega⟩
  refine vm_after (M := M) fin hBs hD fun v h1 H1 locs1 hq1 hD1 => ?_
  rw [vm_endst]
  exact k2 v h1 hq1 p l e R s m args below meth cd B b D dT X Z hC0 hf hlo hret H1 locs1 (cells + c1) (slots + n1) LS hLR hD1 (by omega) (by omega)
theorem vs_invS : vr_invS vm_S := by
  intro M d c n pc ls av st h Q idx c1 n1 K R0 hd hK0 hlk hstt hav hlen hct hd1 hc1 hn1 k1 k2
  intro p l e R s m args below meth cd B b D dT X Z hC hf hlo hret H locs cells slots LS hLR hD hc hs
  have hC0 := hC
  obtain ⟨hx, hb, hml, -, -, hown, hts, hN, hnm, hKn, hXs, hbB, hBs, ha7, ha5⟩ := hC
  have hM := vm_met (D := D) (dT := dT) (X := X) l hK0 hbB hD.2.2.2 hlen k1
  have hst : List.map (vm_sh B b) (av.reverse ++ st) = (av.map (vm_sh B b)).reverse ++ st.map (vm_sh B b) := by
    rw [List.map_append, List.map_reverse]
  have hpre : PreS s H (vm_Pc B b D dT X av h) (av.map (vm_sh B b)) := ⟨vm_blind, vm_before hC0 hD av⟩
  have hrm := vm_hR (c := c1) (n := n1) hK0 hd1 hf hlo
  have h8 : 2 * (F0 m pc LS (List.map (vm_sh B b) (av.reverse ++ st))).monitorRoom + ((st.map (vm_sh B b)).map fun v => v.category).sum ≤ 8 := lv_room (by rw [vm_cats_eq]; exact hct)
  have fin : va_Run p l e R s m args below meth cd H locs cells slots c1 n1 (F0 m pc LS (List.map (vm_sh B b) (av.reverse ++ st))) (st.map (vm_sh B b)) (vm_Qc B b D dT X R0 (av.map (vm_sh B b)).toArray) (fun q => B ≤ q) := by
    rcases hlk with hl | hl
    · exact va_runS (Ts := vm_G) (own := mO M) (As := av.map (vm_sh B b)) (n := mN K) (nL := mL M) ⟨hx, hb, hml, hown, hts⟩ hM (va_cwS (mN K) hts (fun w hw => by
          rcases List.mem_append.mp hw with hw | hw
          · simp only [List.mem_cons, List.not_mem_nil, or_false] at hw
            rcases hw with rfl | rfl | rfl
            · exact vm_good _ hl
            · exact vm_good _ hstt
            · exact vm_good _ hK0.2.1
          · exact vm_goodK hK0 w hw) rfl rfl rfl hK0.2.2.1 hrm) hpre rfl (by simpa using hav) hLR.2.1 hst h8 hd ⟨by omega, by omega⟩
    · exact va_runSN (Ts := vm_G) (own := mO M) (As := av.map (vm_sh B b)) (n := mN K) (nL := mL M) ⟨hx, hb, hml, hown, hts⟩ hM ⟨va_cnB (mN K) hts (vm_goodK hK0) rfl rfl rfl (hN _ hl) (hts _ hK0.2.1) hK0.2.2.1 hrm, hts _ hstt, trivial⟩ hpre rfl (by simpa using hav) hLR.2.1 hst h8 hd ⟨by omega, by omega⟩
  refine vm_after (M := M) fin hBs hD fun v h1 H1 locs1 hq1 hD1 => ?_
  rw [vm_endst]
  exact k2 v h1 hq1 p l e R s m args below meth cd B b D dT X Z hC0 hf hlo hret H1 locs1 (cells + c1) (slots + n1) LS hLR hD1 (by omega) (by omega)
theorem vs_invI : vr_invI vm_S := by
  intro M d c n pc ls a av st h Q idx c1 n1 K R0 hd hK0 hKT hKi hlk hins hav hlen hct hd1 hc1 hn1 k1 k2
  intro p l e R s m args below meth cd B b D dT X Z hC hf hlo hret H locs cells slots LS hLR hD hc hs
  have hC0 := hC
  obtain ⟨hx, hb, hml, -, -, hown, hts, hN, hnm, hKn, hXs, hbB, hBs, ha7, ha5⟩ := hC
  have hM := vm_met (D := D) (dT := dT) (X := X) l hK0 hbB hD.2.2.2 hlen k1
  have hst : List.map (vm_sh B b) (av.reverse ++ vR (some a) :: st) = (av.map (vm_sh B b)).reverse ++ .ref (B + a) :: st.map (vm_sh B b) := by
    rw [List.map_append, List.map_reverse]; rfl
  have hpre : PreS s H (vm_Pc B b D dT X (vR (some a) :: av) h) (.ref (B + a) :: av.map (vm_sh B b)) := ⟨vm_blind, vm_before hC0 hD (vR (some a) :: av)⟩
  have hrm := vm_hR (c := c1) (n := n1) hK0 hd1 hf hlo
  have h8 : 2 * (F0 m pc LS (List.map (vm_sh B b) (av.reverse ++ vR (some a) :: st))).monitorRoom + ((st.map (vm_sh B b)).map fun v => v.category).sum ≤ 8 := lv_room (by rw [vm_cats_eq]; exact hct)
  have fin : va_Run p l e R s m args below meth cd H locs cells slots c1 n1 (F0 m pc LS (List.map (vm_sh B b) (av.reverse ++ vR (some a) :: st))) (st.map (vm_sh B b)) (vm_Qc B b D dT X R0 (Value.ref (B + a) :: av.map (vm_sh B b)).toArray) (fun q => B ≤ q) := by
    have hw : vm_cw K = Cond.code (mY K) (mB K) (mL K) none :: vm_G := by unfold vm_cw; rw [hKT]
    rcases hlk with hl | hl
    · exact va_runI (Ts := vm_G) (own := mO M) (As := av.map (vm_sh B b)) (n := mN K) (nL := mL M) ⟨hx, hb, hml, hown, hts⟩ hM (cwI (mN K) hts (vm_goodK hK0) hw rfl rfl (hts _ hK0.2.1) (hts _ hl) (hts _ hins) hKi hK0.2.2.1 hrm) hpre rfl (by simpa using hav) hLR.2.1 hst h8 hd ⟨by omega, by omega⟩
    · exact va_runIN (Ts := vm_G) (own := mO M) (As := av.map (vm_sh B b)) (n := mN K) (nL := mL M) ⟨hx, hb, hml, hown, hts⟩ hM ⟨va_cnB (mN K) hts (vm_goodK hK0) hw rfl rfl (hN _ hl) (hts _ hK0.2.1) hK0.2.2.1 hrm, hKi, hts _ hins⟩ hpre rfl (by simpa using hav) hLR.2.1 hst h8 hd ⟨by omega, by omega⟩
  refine vm_after (M := M) fin hBs hD fun v h1 H1 locs1 hq1 hD1 => ?_
  rw [vm_endst]
  exact k2 v h1 hq1 p l e R s m args below meth cd B b D dT X Z hC0 hf hlo hret H1 locs1 (cells + c1) (slots + n1) LS hLR hD1 (by omega) (by omega)
theorem vs_end : vr_end vm_S := by
  intro M d c n pc ls h Q ins v hd hr hQ
  intro p l e R s m args below meth cd B b D dT X Z hC hf hlo hret H locs cells slots LS hLR hD hc hs
  exact hret v h H locs cells slots LS pc ins hd hr hQ hD (by omega) (by omega)
theorem vm_minG : Cond.static Lib.Math.min.name ∈ vm_G ∧ Cond.initialized "java/lang/Math" ∈ vm_G ∧ Cond.code Lib.Math.min.name Lib.Math.min.code 2 (some .int) ∈ vm_G := ⟨by decide +kernel, by decide +kernel, by decide +kernel⟩
theorem vs_min : vr_min vm_S := by
  intro M d c n pc ls x y st h Q idx hd hl hct hd1 k
  intro p l e R s m args below meth cd B b D dT X Z hC hf hlo hret H locs cells slots LS hLR hD hc hs
  have j := k p l e R s m args below meth cd B b D dT X Z hC hf hlo hret H locs cells slots LS hLR hD hc hs
  obtain ⟨hx, hb, hml, -, -, hown, hts, -⟩ := hC
  exact va_mmin hx hb (by rw [hml, hLR.2.1]) hown (hts _ hl) (hts _ vm_minG.1) (hts _ vm_minG.2.1) (hts _ vm_minG.2.2) (by omega) (by rw [vm_cats_eq]; omega) (by omega) (by omega) hd j
theorem vm_sim : vm_X vm_S := ⟨vs_op, vs_div, vs_rem, vs_br, vs_goto, vs_tsw, vs_lsw, vs_ldc, vs_ldc2, vs_get, vs_put, vs_ald, vs_lald, vs_aald, vs_ast, vs_last, vs_aast, vs_sld, vs_slen, vs_new, vs_newa, vs_anew, vs_oin, vs_inv, vs_invS, vs_invI, vs_end, vs_min⟩
end
section
/-! ===== the tables, by name: methods (mX.. their records, kX.. that they are the tables'), links, fields, constants (written by wip/whole/gen_tab2.py) ===== -/
theorem jL : Cond.initialized RL ∈ vm_G := vm_inG (i := 68) (by decide +kernel) rfl
theorem jX10 : Cond.initialized RX10 ∈ vm_G := vm_inG (i := 69) (by decide +kernel) rfl
theorem jX7 : Cond.initialized RX7 ∈ vm_G := vm_inG (i := 70) (by decide +kernel) rfl
theorem jX9 : Cond.initialized RX9 ∈ vm_G := vm_inG (i := 71) (by decide +kernel) rfl
theorem jX1 : Cond.initialized RX1 ∈ vm_G := vm_inG (i := 72) (by decide +kernel) rfl
theorem jX2 : Cond.initialized RX2 ∈ vm_G := vm_inG (i := 73) (by decide +kernel) rfl
theorem jX8 : Cond.initialized RX8 ∈ vm_G := vm_inG (i := 74) (by decide +kernel) rfl
theorem jX6 : Cond.initialized RX6 ∈ vm_G := vm_inG (i := 75) (by decide +kernel) rfl
theorem jX5 : Cond.initialized RX5 ∈ vm_G := vm_inG (i := 76) (by decide +kernel) rfl
theorem jX3 : Cond.initialized RX3 ∈ vm_G := vm_inG (i := 77) (by decide +kernel) rfl
theorem jX4 : Cond.initialized RX4 ∈ vm_G := vm_inG (i := 78) (by decide +kernel) rfl
theorem jX0 : Cond.initialized RX0 ∈ vm_G := vm_inG (i := 79) (by decide +kernel) rfl
theorem jX11 : Cond.initialized RX11 ∈ vm_G := vm_inG (i := 80) (by decide +kernel) rfl
theorem jJ9 : Cond.initialized RJ9 ∈ vm_G := vm_inG (i := 81) (by decide +kernel) rfl
theorem jJ13 : Cond.initialized RJ13 ∈ vm_G := vm_inG (i := 82) (by decide +kernel) rfl
theorem jJ6 : Cond.initialized RJ6 ∈ vm_G := vm_inG (i := 83) (by decide +kernel) rfl
def mX10_init : vM := (yX10_init, cX10_init, 1, none, RX10, 0)
set_option maxRecDepth 100000 in
theorem kX10_init : vm_Mok mX10_init := ⟨vm_inG (i := 88) (by rfl) rfl, jX10, ⟨by decide +kernel, by decide +kernel, by decide +kernel⟩, by decide +kernel, by decide +kernel, rfl⟩
def mX7_init : vM := (yX7_init, cX7_init, 1, none, RX7, 0)
set_option maxRecDepth 100000 in
theorem kX7_init : vm_Mok mX7_init := ⟨vm_inG (i := 96) (by rfl) rfl, jX7, ⟨by decide +kernel, by decide +kernel, by decide +kernel⟩, by decide +kernel, by decide +kernel, rfl⟩
def mX9_init : vM := (yX9_init, cX9_init, 1, none, RX9, 0)
set_option maxRecDepth 100000 in
theorem kX9_init : vm_Mok mX9_init := ⟨vm_inG (i := 102) (by rfl) rfl, jX9, ⟨by decide +kernel, by decide +kernel, by decide +kernel⟩, by decide +kernel, by decide +kernel, rfl⟩
def mX1_init : vM := (yX1_init, cX1_init, 1, none, RX1, 0)
set_option maxRecDepth 100000 in
theorem kX1_init : vm_Mok mX1_init := ⟨vm_inG (i := 120) (by rfl) rfl, jX1, ⟨by decide +kernel, by decide +kernel, by decide +kernel⟩, by decide +kernel, by decide +kernel, rfl⟩
def mX1_makeFirst : vM := (yX1_makeFirst, cX1_makeFirst, 1, none, RX1, 0)
set_option maxRecDepth 100000 in
theorem kX1_makeFirst : vm_Mok mX1_makeFirst := ⟨vm_inG (i := 130) (by rfl) rfl, jX1, ⟨by decide +kernel, by decide +kernel, by decide +kernel⟩, by decide +kernel, by decide +kernel, rfl⟩
def mX1_fill : vM := (yX1_fill, cX1_fill, 4, none, RX1, 1)
set_option maxRecDepth 100000 in
theorem kX1_fill : vm_Mok mX1_fill := ⟨vm_inG (i := 134) (by rfl) rfl, jX1, ⟨by decide +kernel, by decide +kernel, by decide +kernel⟩, by decide +kernel, by decide +kernel, rfl⟩
def mX2_init : vM := (yX2_init, cX2_init, 2, none, RX2, 0)
set_option maxRecDepth 100000 in
theorem kX2_init : vm_Mok mX2_init := ⟨vm_inG (i := 162) (by rfl) rfl, jX2, ⟨by decide +kernel, by decide +kernel, by decide +kernel⟩, by decide +kernel, by decide +kernel, rfl⟩
def mX8_init : vM := (yX8_init, cX8_init, 1, none, RX8, 0)
set_option maxRecDepth 100000 in
theorem kX8_init : vm_Mok mX8_init := ⟨vm_inG (i := 182) (by rfl) rfl, jX8, ⟨by decide +kernel, by decide +kernel, by decide +kernel⟩, by decide +kernel, by decide +kernel, rfl⟩
def mX6_init : vM := (yX6_init, cX6_init, 3, none, RX6, 1)
set_option maxRecDepth 100000 in
theorem kX6_init : vm_Mok mX6_init := ⟨vm_inG (i := 198) (by rfl) rfl, jX6, ⟨by decide +kernel, by decide +kernel, by decide +kernel⟩, by decide +kernel, by decide +kernel, rfl⟩
def mX5_init : vM := (yX5_init, cX5_init, 1, none, RX5, 0)
set_option maxRecDepth 100000 in
theorem kX5_init : vm_Mok mX5_init := ⟨vm_inG (i := 205) (by rfl) rfl, jX5, ⟨by decide +kernel, by decide +kernel, by decide +kernel⟩, by decide +kernel, by decide +kernel, rfl⟩
def mX3_init : vM := (yX3_init, cX3_init, 1, none, RX3, 0)
set_option maxRecDepth 100000 in
theorem kX3_init : vm_Mok mX3_init := ⟨vm_inG (i := 294) (by rfl) rfl, jX3, ⟨by decide +kernel, by decide +kernel, by decide +kernel⟩, by decide +kernel, by decide +kernel, rfl⟩
def mX4_init : vM := (yX4_init, cX4_init, 2, none, RX4, 1)
set_option maxRecDepth 100000 in
theorem kX4_init : vm_Mok mX4_init := ⟨vm_inG (i := 313) (by rfl) rfl, jX4, ⟨by decide +kernel, by decide +kernel, by decide +kernel⟩, by decide +kernel, by decide +kernel, rfl⟩
def mX0_init : vM := (yX0_init, cX0_init, 2, none, RX0, 1)
set_option maxRecDepth 100000 in
theorem kX0_init : vm_Mok mX0_init := ⟨vm_inG (i := 323) (by rfl) rfl, jX0, ⟨by decide +kernel, by decide +kernel, by decide +kernel⟩, by decide +kernel, by decide +kernel, rfl⟩
def mX10_setIndividuals : vM := (yX10_setIndividuals, cX10_setIndividuals, 3, some (FieldType.int), RX10, 1)
set_option maxRecDepth 100000 in
theorem kX10_setIndividuals : vm_Mok mX10_setIndividuals := ⟨vm_inG (i := 384) (by rfl) rfl, jX10, ⟨by decide +kernel, by decide +kernel, by decide +kernel⟩, by decide +kernel, by decide +kernel, rfl⟩
def mX2_record : vM := (yX2_record, cX2_record, 2, none, RX2, 1)
set_option maxRecDepth 100000 in
theorem kX2_record : vm_Mok mX2_record := ⟨vm_inG (i := 388) (by rfl) rfl, jX2, ⟨by decide +kernel, by decide +kernel, by decide +kernel⟩, by decide +kernel, by decide +kernel, rfl⟩
def mX7_copyFrom : vM := (yX7_copyFrom, cX7_copyFrom, 2, none, RX7, 1)
set_option maxRecDepth 100000 in
theorem kX7_copyFrom : vm_Mok mX7_copyFrom := ⟨vm_inG (i := 392) (by rfl) rfl, jX7, ⟨by decide +kernel, by decide +kernel, by decide +kernel⟩, by decide +kernel, by decide +kernel, rfl⟩
def mX9_copyFrom : vM := (yX9_copyFrom, cX9_copyFrom, 3, none, RX9, 1)
set_option maxRecDepth 100000 in
theorem kX9_copyFrom : vm_Mok mX9_copyFrom := ⟨vm_inG (i := 396) (by rfl) rfl, jX9, ⟨by decide +kernel, by decide +kernel, by decide +kernel⟩, by decide +kernel, by decide +kernel, rfl⟩
def mX1_copyFrom : vM := (yX1_copyFrom, cX1_copyFrom, 3, none, RX1, 1)
set_option maxRecDepth 100000 in
theorem kX1_copyFrom : vm_Mok mX1_copyFrom := ⟨vm_inG (i := 400) (by rfl) rfl, jX1, ⟨by decide +kernel, by decide +kernel, by decide +kernel⟩, by decide +kernel, by decide +kernel, rfl⟩
def mX9_begin : vM := (yX9_begin, cX9_begin, 3, none, RX9, 1)
set_option maxRecDepth 100000 in
theorem kX9_begin : vm_Mok mX9_begin := ⟨vm_inG (i := 407) (by rfl) rfl, jX9, ⟨by decide +kernel, by decide +kernel, by decide +kernel⟩, by decide +kernel, by decide +kernel, rfl⟩
def mX7_forgetContext : vM := (yX7_forgetContext, cX7_forgetContext, 1, none, RX7, 0)
set_option maxRecDepth 100000 in
theorem kX7_forgetContext : vm_Mok mX7_forgetContext := ⟨vm_inG (i := 411) (by rfl) rfl, jX7, ⟨by decide +kernel, by decide +kernel, by decide +kernel⟩, by decide +kernel, by decide +kernel, rfl⟩
def mX10_setPredicate : vM := (yX10_setPredicate, cX10_setPredicate, 4, some (FieldType.int), RX10, 2)
set_option maxRecDepth 100000 in
theorem kX10_setPredicate : vm_Mok mX10_setPredicate := ⟨vm_inG (i := 415) (by rfl) rfl, jX10, ⟨by decide +kernel, by decide +kernel, by decide +kernel⟩, by decide +kernel, by decide +kernel, rfl⟩
def mX10_isPredicate : vM := (yX10_isPredicate, cX10_isPredicate, 1, some (FieldType.boolean), RX10, 1)
set_option maxRecDepth 100000 in
theorem kX10_isPredicate : vm_Mok mX10_isPredicate := ⟨vm_inG (i := 418) (by rfl) rfl, jX10, ⟨by decide +kernel, by decide +kernel, by decide +kernel⟩, by decide +kernel, by decide +kernel, rfl⟩
def mX9_everybody : vM := (yX9_everybody, cX9_everybody, 1, some (FieldType.int), RX9, 0)
set_option maxRecDepth 100000 in
theorem kX9_everybody : vm_Mok mX9_everybody := ⟨vm_inG (i := 422) (by rfl) rfl, jX9, ⟨by decide +kernel, by decide +kernel, by decide +kernel⟩, by decide +kernel, by decide +kernel, rfl⟩
def mX9_setOf : vM := (yX9_setOf, cX9_setOf, 2, some (FieldType.int), RX9, 1)
set_option maxRecDepth 100000 in
theorem kX9_setOf : vm_Mok mX9_setOf := ⟨vm_inG (i := 426) (by rfl) rfl, jX9, ⟨by decide +kernel, by decide +kernel, by decide +kernel⟩, by decide +kernel, by decide +kernel, rfl⟩
def mX9_giveSet : vM := (yX9_giveSet, cX9_giveSet, 3, none, RX9, 2)
set_option maxRecDepth 100000 in
theorem kX9_giveSet : vm_Mok mX9_giveSet := ⟨vm_inG (i := 431) (by rfl) rfl, jX9, ⟨by decide +kernel, by decide +kernel, by decide +kernel⟩, by decide +kernel, by decide +kernel, rfl⟩
def mX10_setPair : vM := (yX10_setPair, cX10_setPair, 6, some (FieldType.int), RX10, 4)
set_option maxRecDepth 100000 in
theorem kX10_setPair : vm_Mok mX10_setPair := ⟨vm_inG (i := 435) (by rfl) rfl, jX10, ⟨by decide +kernel, by decide +kernel, by decide +kernel⟩, by decide +kernel, by decide +kernel, rfl⟩
def mX10_isRelation : vM := (yX10_isRelation, cX10_isRelation, 1, some (FieldType.boolean), RX10, 1)
set_option maxRecDepth 100000 in
theorem kX10_isRelation : vm_Mok mX10_isRelation := ⟨vm_inG (i := 438) (by rfl) rfl, jX10, ⟨by decide +kernel, by decide +kernel, by decide +kernel⟩, by decide +kernel, by decide +kernel, rfl⟩
def mX10_isIndividual : vM := (yX10_isIndividual, cX10_isIndividual, 2, some (FieldType.boolean), RX10, 1)
set_option maxRecDepth 100000 in
theorem kX10_isIndividual : vm_Mok mX10_isIndividual := ⟨vm_inG (i := 442) (by rfl) rfl, jX10, ⟨by decide +kernel, by decide +kernel, by decide +kernel⟩, by decide +kernel, by decide +kernel, rfl⟩
def mX10_isSwitch : vM := (yX10_isSwitch, cX10_isSwitch, 1, some (FieldType.boolean), RX10, 1)
set_option maxRecDepth 100000 in
theorem kX10_isSwitch : vm_Mok mX10_isSwitch := ⟨vm_inG (i := 445) (by rfl) rfl, jX10, ⟨by decide +kernel, by decide +kernel, by decide +kernel⟩, by decide +kernel, by decide +kernel, rfl⟩
def mX9_hasPair : vM := (yX9_hasPair, cX9_hasPair, 4, some (FieldType.boolean), RX9, 3)
set_option maxRecDepth 100000 in
theorem kX9_hasPair : vm_Mok mX9_hasPair := ⟨vm_inG (i := 449) (by rfl) rfl, jX9, ⟨by decide +kernel, by decide +kernel, by decide +kernel⟩, by decide +kernel, by decide +kernel, rfl⟩
def mX9_putPair : vM := (yX9_putPair, cX9_putPair, 6, none, RX9, 4)
set_option maxRecDepth 100000 in
theorem kX9_putPair : vm_Mok mX9_putPair := ⟨vm_inG (i := 454) (by rfl) rfl, jX9, ⟨by decide +kernel, by decide +kernel, by decide +kernel⟩, by decide +kernel, by decide +kernel, rfl⟩
def mX10_individuals : vM := (yX10_individuals, cX10_individuals, 1, some (FieldType.int), RX10, 0)
set_option maxRecDepth 100000 in
theorem kX10_individuals : vm_Mok mX10_individuals := ⟨vm_inG (i := 458) (by rfl) rfl, jX10, ⟨by decide +kernel, by decide +kernel, by decide +kernel⟩, by decide +kernel, by decide +kernel, rfl⟩
def mX10_predicate : vM := (yX10_predicate, cX10_predicate, 2, some (FieldType.int), RX10, 1)
set_option maxRecDepth 100000 in
theorem kX10_predicate : vm_Mok mX10_predicate := ⟨vm_inG (i := 462) (by rfl) rfl, jX10, ⟨by decide +kernel, by decide +kernel, by decide +kernel⟩, by decide +kernel, by decide +kernel, rfl⟩
def mX10_relationHolds : vM := (yX10_relationHolds, cX10_relationHolds, 4, some (FieldType.int), RX10, 3)
set_option maxRecDepth 100000 in
theorem kX10_relationHolds : vm_Mok mX10_relationHolds := ⟨vm_inG (i := 466) (by rfl) rfl, jX10, ⟨by decide +kernel, by decide +kernel, by decide +kernel⟩, by decide +kernel, by decide +kernel, rfl⟩
def mX10_isObject : vM := (yX10_isObject, cX10_isObject, 2, some (FieldType.boolean), RX10, 1)
set_option maxRecDepth 100000 in
theorem kX10_isObject : vm_Mok mX10_isObject := ⟨vm_inG (i := 470) (by rfl) rfl, jX10, ⟨by decide +kernel, by decide +kernel, by decide +kernel⟩, by decide +kernel, by decide +kernel, rfl⟩
def mX9_relates : vM := (yX9_relates, cX9_relates, 7, some (FieldType.boolean), RX9, 3)
set_option maxRecDepth 100000 in
theorem kX9_relates : vm_Mok mX9_relates := ⟨vm_inG (i := 474) (by rfl) rfl, jX9, ⟨by decide +kernel, by decide +kernel, by decide +kernel⟩, by decide +kernel, by decide +kernel, rfl⟩
def mX10_type : vM := (yX10_type, cX10_type, 2, some (FieldType.int), RX10, 1)
set_option maxRecDepth 100000 in
theorem kX10_type : vm_Mok mX10_type := ⟨vm_inG (i := 478) (by rfl) rfl, jX10, ⟨by decide +kernel, by decide +kernel, by decide +kernel⟩, by decide +kernel, by decide +kernel, rfl⟩
def mX8_append : vM := (yX8_append, cX8_append, 2, some (FieldType.boolean), RX8, 1)
set_option maxRecDepth 100000 in
theorem kX8_append : vm_Mok mX8_append := ⟨vm_inG (i := 482) (by rfl) rfl, jX8, ⟨by decide +kernel, by decide +kernel, by decide +kernel⟩, by decide +kernel, by decide +kernel, rfl⟩
def mX10_clearText : vM := (yX10_clearText, cX10_clearText, 2, some (FieldType.int), RX10, 0)
set_option maxRecDepth 100000 in
theorem kX10_clearText : vm_Mok mX10_clearText := ⟨vm_inG (i := 486) (by rfl) rfl, jX10, ⟨by decide +kernel, by decide +kernel, by decide +kernel⟩, by decide +kernel, by decide +kernel, rfl⟩
def mX10_syntaxFault : vM := (yX10_syntaxFault, cX10_syntaxFault, 1, some (FieldType.int), RX10, 0)
set_option maxRecDepth 100000 in
theorem kX10_syntaxFault : vm_Mok mX10_syntaxFault := ⟨vm_inG (i := 490) (by rfl) rfl, jX10, ⟨by decide +kernel, by decide +kernel, by decide +kernel⟩, by decide +kernel, by decide +kernel, rfl⟩
def mX6_discourse : vM := (yX6_discourse, cX6_discourse, 3, some ((FieldType.object "DiscourseContexts$Node")), RX6, 0)
set_option maxRecDepth 100000 in
theorem kX6_discourse : vm_Mok mX6_discourse := ⟨vm_inG (i := 494) (by rfl) rfl, jX6, ⟨by decide +kernel, by decide +kernel, by decide +kernel⟩, by decide +kernel, by decide +kernel, rfl⟩
def mX6_part : vM := (yX6_part, cX6_part, 5, some ((FieldType.object "DiscourseContexts$Node")), RX6, 0)
set_option maxRecDepth 100000 in
theorem kX6_part : vm_Mok mX6_part := ⟨vm_inG (i := 498) (by rfl) rfl, jX6, ⟨by decide +kernel, by decide +kernel, by decide +kernel⟩, by decide +kernel, by decide +kernel, rfl⟩
def mX6_skip : vM := (yX6_skip, cX6_skip, 2, some (FieldType.boolean), RX6, 1)
set_option maxRecDepth 100000 in
theorem kX6_skip : vm_Mok mX6_skip := ⟨vm_inG (i := 502) (by rfl) rfl, jX6, ⟨by decide +kernel, by decide +kernel, by decide +kernel⟩, by decide +kernel, by decide +kernel, rfl⟩
def mX8_at : vM := (yX8_at, cX8_at, 2, some (FieldType.char), RX8, 1)
set_option maxRecDepth 100000 in
theorem kX8_at : vm_Mok mX8_at := ⟨vm_inG (i := 506) (by rfl) rfl, jX8, ⟨by decide +kernel, by decide +kernel, by decide +kernel⟩, by decide +kernel, by decide +kernel, rfl⟩
def mX6_formula : vM := (yX6_formula, cX6_formula, 3, some ((FieldType.object "DiscourseContexts$Node")), RX6, 0)
set_option maxRecDepth 100000 in
theorem kX6_formula : vm_Mok mX6_formula := ⟨vm_inG (i := 510) (by rfl) rfl, jX6, ⟨by decide +kernel, by decide +kernel, by decide +kernel⟩, by decide +kernel, by decide +kernel, rfl⟩
def mX6_choice : vM := (yX6_choice, cX6_choice, 3, some ((FieldType.object "DiscourseContexts$Node")), RX6, 0)
set_option maxRecDepth 100000 in
theorem kX6_choice : vm_Mok mX6_choice := ⟨vm_inG (i := 514) (by rfl) rfl, jX6, ⟨by decide +kernel, by decide +kernel, by decide +kernel⟩, by decide +kernel, by decide +kernel, rfl⟩
def mX6_row : vM := (yX6_row, cX6_row, 3, some ((FieldType.object "DiscourseContexts$Node")), RX6, 0)
set_option maxRecDepth 100000 in
theorem kX6_row : vm_Mok mX6_row := ⟨vm_inG (i := 518) (by rfl) rfl, jX6, ⟨by decide +kernel, by decide +kernel, by decide +kernel⟩, by decide +kernel, by decide +kernel, rfl⟩
def mX6_unit : vM := (yX6_unit, cX6_unit, 2, some ((FieldType.object "DiscourseContexts$Node")), RX6, 0)
set_option maxRecDepth 100000 in
theorem kX6_unit : vm_Mok mX6_unit := ⟨vm_inG (i := 522) (by rfl) rfl, jX6, ⟨by decide +kernel, by decide +kernel, by decide +kernel⟩, by decide +kernel, by decide +kernel, rfl⟩
def mX6_negation : vM := (yX6_negation, cX6_negation, 2, some ((FieldType.object "DiscourseContexts$Node")), RX6, 0)
set_option maxRecDepth 100000 in
theorem kX6_negation : vm_Mok mX6_negation := ⟨vm_inG (i := 526) (by rfl) rfl, jX6, ⟨by decide +kernel, by decide +kernel, by decide +kernel⟩, by decide +kernel, by decide +kernel, rfl⟩
def mX6_openSign : vM := (yX6_openSign, cX6_openSign, 1, some (FieldType.boolean), RX6, 0)
set_option maxRecDepth 100000 in
theorem kX6_openSign : vm_Mok mX6_openSign := ⟨vm_inG (i := 530) (by rfl) rfl, jX6, ⟨by decide +kernel, by decide +kernel, by decide +kernel⟩, by decide +kernel, by decide +kernel, rfl⟩
def mX6_holding : vM := (yX6_holding, cX6_holding, 3, some ((FieldType.object "DiscourseContexts$Node")), RX6, 2)
set_option maxRecDepth 100000 in
theorem kX6_holding : vm_Mok mX6_holding := ⟨vm_inG (i := 534) (by rfl) rfl, jX6, ⟨by decide +kernel, by decide +kernel, by decide +kernel⟩, by decide +kernel, by decide +kernel, rfl⟩
def mX6_taken : vM := (yX6_taken, cX6_taken, 3, some ((FieldType.object "DiscourseContexts$Node")), RX6, 1)
set_option maxRecDepth 100000 in
theorem kX6_taken : vm_Mok mX6_taken := ⟨vm_inG (i := 538) (by rfl) rfl, jX6, ⟨by decide +kernel, by decide +kernel, by decide +kernel⟩, by decide +kernel, by decide +kernel, rfl⟩
def mX6_joined : vM := (yX6_joined, cX6_joined, 3, some ((FieldType.object "DiscourseContexts$Node")), RX6, 2)
set_option maxRecDepth 100000 in
theorem kX6_joined : vm_Mok mX6_joined := ⟨vm_inG (i := 542) (by rfl) rfl, jX6, ⟨by decide +kernel, by decide +kernel, by decide +kernel⟩, by decide +kernel, by decide +kernel, rfl⟩
def mX5_add : vM := (yX5_add, cX5_add, 2, none, RX5, 1)
set_option maxRecDepth 100000 in
theorem kX5_add : vm_Mok mX5_add := ⟨vm_inG (i := 546) (by rfl) rfl, jX5, ⟨by decide +kernel, by decide +kernel, by decide +kernel⟩, by decide +kernel, by decide +kernel, rfl⟩
def mX6_group : vM := (yX6_group, cX6_group, 2, some ((FieldType.object "DiscourseContexts$Node")), RX6, 0)
set_option maxRecDepth 100000 in
theorem kX6_group : vm_Mok mX6_group := ⟨vm_inG (i := 550) (by rfl) rfl, jX6, ⟨by decide +kernel, by decide +kernel, by decide +kernel⟩, by decide +kernel, by decide +kernel, rfl⟩
def mX6_aboutOne : vM := (yX6_aboutOne, cX6_aboutOne, 4, some ((FieldType.object "DiscourseContexts$Node")), RX6, 2)
set_option maxRecDepth 100000 in
theorem kX6_aboutOne : vm_Mok mX6_aboutOne := ⟨vm_inG (i := 554) (by rfl) rfl, jX6, ⟨by decide +kernel, by decide +kernel, by decide +kernel⟩, by decide +kernel, by decide +kernel, rfl⟩
def mX6_skipVariable : vM := (yX6_skipVariable, cX6_skipVariable, 2, some (FieldType.boolean), RX6, 0)
set_option maxRecDepth 100000 in
theorem kX6_skipVariable : vm_Mok mX6_skipVariable := ⟨vm_inG (i := 558) (by rfl) rfl, jX6, ⟨by decide +kernel, by decide +kernel, by decide +kernel⟩, by decide +kernel, by decide +kernel, rfl⟩
def mX6_simple : vM := (yX6_simple, cX6_simple, 6, some ((FieldType.object "DiscourseContexts$Node")), RX6, 4)
set_option maxRecDepth 100000 in
theorem kX6_simple : vm_Mok mX6_simple := ⟨vm_inG (i := 562) (by rfl) rfl, jX6, ⟨by decide +kernel, by decide +kernel, by decide +kernel⟩, by decide +kernel, by decide +kernel, rfl⟩
def mX6_aboutTwo : vM := (yX6_aboutTwo, cX6_aboutTwo, 3, some ((FieldType.object "DiscourseContexts$Node")), RX6, 1)
set_option maxRecDepth 100000 in
theorem kX6_aboutTwo : vm_Mok mX6_aboutTwo := ⟨vm_inG (i := 566) (by rfl) rfl, jX6, ⟨by decide +kernel, by decide +kernel, by decide +kernel⟩, by decide +kernel, by decide +kernel, rfl⟩
def mX6_count : vM := (yX6_count, cX6_count, 2, some ((FieldType.object "DiscourseContexts$Node")), RX6, 1)
set_option maxRecDepth 100000 in
theorem kX6_count : vm_Mok mX6_count := ⟨vm_inG (i := 570) (by rfl) rfl, jX6, ⟨by decide +kernel, by decide +kernel, by decide +kernel⟩, by decide +kernel, by decide +kernel, rfl⟩
def mX6_comparison : vM := (yX6_comparison, cX6_comparison, 3, some ((FieldType.object "DiscourseContexts$Node")), RX6, 0)
set_option maxRecDepth 100000 in
theorem kX6_comparison : vm_Mok mX6_comparison := ⟨vm_inG (i := 574) (by rfl) rfl, jX6, ⟨by decide +kernel, by decide +kernel, by decide +kernel⟩, by decide +kernel, by decide +kernel, rfl⟩
def mX10_unknownVariable : vM := (yX10_unknownVariable, cX10_unknownVariable, 2, some (FieldType.int), RX10, 0)
set_option maxRecDepth 100000 in
theorem kX10_unknownVariable : vm_Mok mX10_unknownVariable := ⟨vm_inG (i := 578) (by rfl) rfl, jX10, ⟨by decide +kernel, by decide +kernel, by decide +kernel⟩, by decide +kernel, by decide +kernel, rfl⟩
def mX3_suffices : vM := (yX3_suffices, cX3_suffices, 3, some (FieldType.boolean), RX3, 2)
set_option maxRecDepth 100000 in
theorem kX3_suffices : vm_Mok mX3_suffices := ⟨vm_inG (i := 582) (by rfl) rfl, jX3, ⟨by decide +kernel, by decide +kernel, by decide +kernel⟩, by decide +kernel, by decide +kernel, rfl⟩
def mX3_readOver : vM := (yX3_readOver, cX3_readOver, 4, some (FieldType.int), RX3, 3)
set_option maxRecDepth 100000 in
theorem kX3_readOver : vm_Mok mX3_readOver := ⟨vm_inG (i := 586) (by rfl) rfl, jX3, ⟨by decide +kernel, by decide +kernel, by decide +kernel⟩, by decide +kernel, by decide +kernel, rfl⟩
def mX3_readChain : vM := (yX3_readChain, cX3_readChain, 6, some (FieldType.int), RX3, 3)
set_option maxRecDepth 100000 in
theorem kX3_readChain : vm_Mok mX3_readChain := ⟨vm_inG (i := 590) (by rfl) rfl, jX3, ⟨by decide +kernel, by decide +kernel, by decide +kernel⟩, by decide +kernel, by decide +kernel, rfl⟩
def mX3_readEach : vM := (yX3_readEach, cX3_readEach, 5, none, RX3, 3)
set_option maxRecDepth 100000 in
theorem kX3_readEach : vm_Mok mX3_readEach := ⟨vm_inG (i := 594) (by rfl) rfl, jX3, ⟨by decide +kernel, by decide +kernel, by decide +kernel⟩, by decide +kernel, by decide +kernel, rfl⟩
def mX3_look : vM := (yX3_look, cX3_look, 5, none, RX3, 4)
set_option maxRecDepth 100000 in
theorem kX3_look : vm_Mok mX3_look := ⟨vm_inG (i := 598) (by rfl) rfl, jX3, ⟨by decide +kernel, by decide +kernel, by decide +kernel⟩, by decide +kernel, by decide +kernel, rfl⟩
def mX10_unknownDepth : vM := (yX10_unknownDepth, cX10_unknownDepth, 2, some (FieldType.int), RX10, 0)
set_option maxRecDepth 100000 in
theorem kX10_unknownDepth : vm_Mok mX10_unknownDepth := ⟨vm_inG (i := 602) (by rfl) rfl, jX10, ⟨by decide +kernel, by decide +kernel, by decide +kernel⟩, by decide +kernel, by decide +kernel, rfl⟩
def mX10_partCount : vM := (yX10_partCount, cX10_partCount, 4, some (FieldType.int), RX10, 0)
set_option maxRecDepth 100000 in
theorem kX10_partCount : vm_Mok mX10_partCount := ⟨vm_inG (i := 606) (by rfl) rfl, jX10, ⟨by decide +kernel, by decide +kernel, by decide +kernel⟩, by decide +kernel, by decide +kernel, rfl⟩
def mX10_contextSize : vM := (yX10_contextSize, cX10_contextSize, 1, some (FieldType.int), RX10, 0)
set_option maxRecDepth 100000 in
theorem kX10_contextSize : vm_Mok mX10_contextSize := ⟨vm_inG (i := 610) (by rfl) rfl, jX10, ⟨by decide +kernel, by decide +kernel, by decide +kernel⟩, by decide +kernel, by decide +kernel, rfl⟩
def mX1_size : vM := (yX1_size, cX1_size, 3, some (FieldType.int), RX1, 0)
set_option maxRecDepth 100000 in
theorem kX1_size : vm_Mok mX1_size := ⟨vm_inG (i := 614) (by rfl) rfl, jX1, ⟨by decide +kernel, by decide +kernel, by decide +kernel⟩, by decide +kernel, by decide +kernel, rfl⟩
def mJ13_bitCount_95d88 : vM := (yJ13_bitCount_95d88, cJ13_bitCount_95d88, 2, some (FieldType.int), RJ13, 1)
set_option maxRecDepth 100000 in
theorem kJ13_bitCount_95d88 : vm_Mok mJ13_bitCount_95d88 := ⟨vm_inG (i := 617) (by rfl) rfl, jJ13, ⟨by decide +kernel, by decide +kernel, by decide +kernel⟩, by decide +kernel, by decide +kernel, rfl⟩
def mX10_known : vM := (yX10_known, cX10_known, 1, some (FieldType.int), RX10, 0)
set_option maxRecDepth 100000 in
theorem kX10_known : vm_Mok mX10_known := ⟨vm_inG (i := 624) (by rfl) rfl, jX10, ⟨by decide +kernel, by decide +kernel, by decide +kernel⟩, by decide +kernel, by decide +kernel, rfl⟩
def mX10_objects : vM := (yX10_objects, cX10_objects, 2, some (FieldType.int), RX10, 1)
set_option maxRecDepth 100000 in
theorem kX10_objects : vm_Mok mX10_objects := ⟨vm_inG (i := 628) (by rfl) rfl, jX10, ⟨by decide +kernel, by decide +kernel, by decide +kernel⟩, by decide +kernel, by decide +kernel, rfl⟩
def mX10_isVariable : vM := (yX10_isVariable, cX10_isVariable, 1, some (FieldType.boolean), RX10, 1)
set_option maxRecDepth 100000 in
theorem kX10_isVariable : vm_Mok mX10_isVariable := ⟨vm_inG (i := 631) (by rfl) rfl, jX10, ⟨by decide +kernel, by decide +kernel, by decide +kernel⟩, by decide +kernel, by decide +kernel, rfl⟩
def mX7_knows : vM := (yX7_knows, cX7_knows, 2, some (FieldType.boolean), RX7, 1)
set_option maxRecDepth 100000 in
theorem kX7_knows : vm_Mok mX7_knows := ⟨vm_inG (i := 635) (by rfl) rfl, jX7, ⟨by decide +kernel, by decide +kernel, by decide +kernel⟩, by decide +kernel, by decide +kernel, rfl⟩
def mX1_valuesOf : vM := (yX1_valuesOf, cX1_valuesOf, 4, some (FieldType.int), RX1, 1)
set_option maxRecDepth 100000 in
theorem kX1_valuesOf : vm_Mok mX1_valuesOf := ⟨vm_inG (i := 639) (by rfl) rfl, jX1, ⟨by decide +kernel, by decide +kernel, by decide +kernel⟩, by decide +kernel, by decide +kernel, rfl⟩
def mX1_countOf : vM := (yX1_countOf, cX1_countOf, 7, some (FieldType.int), RX1, 4)
set_option maxRecDepth 100000 in
theorem kX1_countOf : vm_Mok mX1_countOf := ⟨vm_inG (i := 643) (by rfl) rfl, jX1, ⟨by decide +kernel, by decide +kernel, by decide +kernel⟩, by decide +kernel, by decide +kernel, rfl⟩
def mX1_mask : vM := (yX1_mask, cX1_mask, 3, some (FieldType.long), RX1, 3)
set_option maxRecDepth 100000 in
theorem kX1_mask : vm_Mok mX1_mask := ⟨vm_inG (i := 646) (by rfl) rfl, jX1, ⟨by decide +kernel, by decide +kernel, by decide +kernel⟩, by decide +kernel, by decide +kernel, rfl⟩
def mX10_together : vM := (yX10_together, cX10_together, 5, some (FieldType.int), RX10, 4)
set_option maxRecDepth 100000 in
theorem kX10_together : vm_Mok mX10_together := ⟨vm_inG (i := 654) (by rfl) rfl, jX10, ⟨by decide +kernel, by decide +kernel, by decide +kernel⟩, by decide +kernel, by decide +kernel, rfl⟩
def mX10_resetContext : vM := (yX10_resetContext, cX10_resetContext, 2, some (FieldType.int), RX10, 0)
set_option maxRecDepth 100000 in
theorem kX10_resetContext : vm_Mok mX10_resetContext := ⟨vm_inG (i := 659) (by rfl) rfl, jX10, ⟨by decide +kernel, by decide +kernel, by decide +kernel⟩, by decide +kernel, by decide +kernel, rfl⟩
def mX10_setAccommodation : vM := (yX10_setAccommodation, cX10_setAccommodation, 3, some (FieldType.int), RX10, 1)
set_option maxRecDepth 100000 in
theorem kX10_setAccommodation : vm_Mok mX10_setAccommodation := ⟨vm_inG (i := 663) (by rfl) rfl, jX10, ⟨by decide +kernel, by decide +kernel, by decide +kernel⟩, by decide +kernel, by decide +kernel, rfl⟩
def mX10_accept : vM := (yX10_accept, cX10_accept, 2, some (FieldType.int), RX10, 0)
set_option maxRecDepth 100000 in
theorem kX10_accept : vm_Mok mX10_accept := ⟨vm_inG (i := 667) (by rfl) rfl, jX10, ⟨by decide +kernel, by decide +kernel, by decide +kernel⟩, by decide +kernel, by decide +kernel, rfl⟩
def mX10_tryAccepting : vM := (yX10_tryAccepting, cX10_tryAccepting, 2, some (FieldType.int), RX10, 1)
set_option maxRecDepth 100000 in
theorem kX10_tryAccepting : vm_Mok mX10_tryAccepting := ⟨vm_inG (i := 671) (by rfl) rfl, jX10, ⟨by decide +kernel, by decide +kernel, by decide +kernel⟩, by decide +kernel, by decide +kernel, rfl⟩
def mX0_succeeds : vM := (yX0_succeeds, cX0_succeeds, 6, some (FieldType.boolean), RX0, 2)
set_option maxRecDepth 100000 in
theorem kX0_succeeds : vm_Mok mX0_succeeds := ⟨vm_inG (i := 675) (by rfl) rfl, jX0, ⟨by decide +kernel, by decide +kernel, by decide +kernel⟩, by decide +kernel, by decide +kernel, rfl⟩
def mX4_findSupporting : vM := (yX4_findSupporting, cX4_findSupporting, 3, none, RX4, 2)
set_option maxRecDepth 100000 in
theorem kX4_findSupporting : vm_Mok mX4_findSupporting := ⟨vm_inG (i := 680) (by rfl) rfl, jX4, ⟨by decide +kernel, by decide +kernel, by decide +kernel⟩, by decide +kernel, by decide +kernel, rfl⟩
def mX4_turn : vM := (yX4_turn, cX4_turn, 4, none, RX4, 3)
set_option maxRecDepth 100000 in
theorem kX4_turn : vm_Mok mX4_turn := ⟨vm_inG (i := 686) (by rfl) rfl, jX4, ⟨by decide +kernel, by decide +kernel, by decide +kernel⟩, by decide +kernel, by decide +kernel, rfl⟩
def mX4_turnByChain : vM := (yX4_turnByChain, cX4_turnByChain, 5, none, RX4, 3)
set_option maxRecDepth 100000 in
theorem kX4_turnByChain : vm_Mok mX4_turnByChain := ⟨vm_inG (i := 690) (by rfl) rfl, jX4, ⟨by decide +kernel, by decide +kernel, by decide +kernel⟩, by decide +kernel, by decide +kernel, rfl⟩
def mX4_turnBySome : vM := (yX4_turnBySome, cX4_turnBySome, 7, none, RX4, 3)
set_option maxRecDepth 100000 in
theorem kX4_turnBySome : vm_Mok mX4_turnBySome := ⟨vm_inG (i := 694) (by rfl) rfl, jX4, ⟨by decide +kernel, by decide +kernel, by decide +kernel⟩, by decide +kernel, by decide +kernel, rfl⟩
def mX1_vary : vM := (yX1_vary, cX1_vary, 8, none, RX1, 3)
set_option maxRecDepth 100000 in
theorem kX1_vary : vm_Mok mX1_vary := ⟨vm_inG (i := 699) (by rfl) rfl, jX1, ⟨by decide +kernel, by decide +kernel, by decide +kernel⟩, by decide +kernel, by decide +kernel, rfl⟩
def mX1_varyWords : vM := (yX1_varyWords, cX1_varyWords, 6, none, RX1, 2)
set_option maxRecDepth 100000 in
theorem kX1_varyWords : vm_Mok mX1_varyWords := ⟨vm_inG (i := 703) (by rfl) rfl, jX1, ⟨by decide +kernel, by decide +kernel, by decide +kernel⟩, by decide +kernel, by decide +kernel, rfl⟩
def mX1_varied : vM := (yX1_varied, cX1_varied, 12, some (FieldType.long), RX1, 5)
set_option maxRecDepth 100000 in
theorem kX1_varied : vm_Mok mX1_varied := ⟨vm_inG (i := 706) (by rfl) rfl, jX1, ⟨by decide +kernel, by decide +kernel, by decide +kernel⟩, by decide +kernel, by decide +kernel, rfl⟩
def mX1_remove : vM := (yX1_remove, cX1_remove, 3, none, RX1, 1)
set_option maxRecDepth 100000 in
theorem kX1_remove : vm_Mok mX1_remove := ⟨vm_inG (i := 711) (by rfl) rfl, jX1, ⟨by decide +kernel, by decide +kernel, by decide +kernel⟩, by decide +kernel, by decide +kernel, rfl⟩
def mX4_keepByChoice : vM := (yX4_keepByChoice, cX4_keepByChoice, 4, none, RX4, 2)
set_option maxRecDepth 100000 in
theorem kX4_keepByChoice : vm_Mok mX4_keepByChoice := ⟨vm_inG (i := 715) (by rfl) rfl, jX4, ⟨by decide +kernel, by decide +kernel, by decide +kernel⟩, by decide +kernel, by decide +kernel, rfl⟩
def mX1_unite : vM := (yX1_unite, cX1_unite, 3, none, RX1, 1)
set_option maxRecDepth 100000 in
theorem kX1_unite : vm_Mok mX1_unite := ⟨vm_inG (i := 719) (by rfl) rfl, jX1, ⟨by decide +kernel, by decide +kernel, by decide +kernel⟩, by decide +kernel, by decide +kernel, rfl⟩
def mX1_keep : vM := (yX1_keep, cX1_keep, 3, none, RX1, 1)
set_option maxRecDepth 100000 in
theorem kX1_keep : vm_Mok mX1_keep := ⟨vm_inG (i := 723) (by rfl) rfl, jX1, ⟨by decide +kernel, by decide +kernel, by decide +kernel⟩, by decide +kernel, by decide +kernel, rfl⟩
def mX4_keepByCondition : vM := (yX4_keepByCondition, cX4_keepByCondition, 4, none, RX4, 2)
set_option maxRecDepth 100000 in
theorem kX4_keepByCondition : vm_Mok mX4_keepByCondition := ⟨vm_inG (i := 727) (by rfl) rfl, jX4, ⟨by decide +kernel, by decide +kernel, by decide +kernel⟩, by decide +kernel, by decide +kernel, rfl⟩
def mX1_complement : vM := (yX1_complement, cX1_complement, 2, none, RX1, 0)
set_option maxRecDepth 100000 in
theorem kX1_complement : vm_Mok mX1_complement := ⟨vm_inG (i := 731) (by rfl) rfl, jX1, ⟨by decide +kernel, by decide +kernel, by decide +kernel⟩, by decide +kernel, by decide +kernel, rfl⟩
def mX4_keepByOne : vM := (yX4_keepByOne, cX4_keepByOne, 6, none, RX4, 2)
set_option maxRecDepth 100000 in
theorem kX4_keepByOne : vm_Mok mX4_keepByOne := ⟨vm_inG (i := 735) (by rfl) rfl, jX4, ⟨by decide +kernel, by decide +kernel, by decide +kernel⟩, by decide +kernel, by decide +kernel, rfl⟩
def mX4_holds : vM := (yX4_holds, cX4_holds, 4, some (FieldType.boolean), RX4, 3)
set_option maxRecDepth 100000 in
theorem kX4_holds : vm_Mok mX4_holds := ⟨vm_inG (i := 739) (by rfl) rfl, jX4, ⟨by decide +kernel, by decide +kernel, by decide +kernel⟩, by decide +kernel, by decide +kernel, rfl⟩
def mJ6_bitCount_0f7a4 : vM := (yJ6_bitCount_0f7a4, cJ6_bitCount_0f7a4, 1, some (FieldType.int), RJ6, 1)
set_option maxRecDepth 100000 in
theorem kJ6_bitCount_0f7a4 : vm_Mok mJ6_bitCount_0f7a4 := ⟨vm_inG (i := 744) (by rfl) rfl, jJ6, ⟨by decide +kernel, by decide +kernel, by decide +kernel⟩, by decide +kernel, by decide +kernel, rfl⟩
def mX1_keepValues : vM := (yX1_keepValues, cX1_keepValues, 4, none, RX1, 2)
set_option maxRecDepth 100000 in
theorem kX1_keepValues : vm_Mok mX1_keepValues := ⟨vm_inG (i := 751) (by rfl) rfl, jX1, ⟨by decide +kernel, by decide +kernel, by decide +kernel⟩, by decide +kernel, by decide +kernel, rfl⟩
def mX4_keepByTwo : vM := (yX4_keepByTwo, cX4_keepByTwo, 7, none, RX4, 2)
set_option maxRecDepth 100000 in
theorem kX4_keepByTwo : vm_Mok mX4_keepByTwo := ⟨vm_inG (i := 755) (by rfl) rfl, jX4, ⟨by decide +kernel, by decide +kernel, by decide +kernel⟩, by decide +kernel, by decide +kernel, rfl⟩
def mX1_keepPartners : vM := (yX1_keepPartners, cX1_keepPartners, 6, none, RX1, 4)
set_option maxRecDepth 100000 in
theorem kX1_keepPartners : vm_Mok mX1_keepPartners := ⟨vm_inG (i := 759) (by rfl) rfl, jX1, ⟨by decide +kernel, by decide +kernel, by decide +kernel⟩, by decide +kernel, by decide +kernel, rfl⟩
def mX1_isWithin : vM := (yX1_isWithin, cX1_isWithin, 3, some (FieldType.boolean), RX1, 1)
set_option maxRecDepth 100000 in
theorem kX1_isWithin : vm_Mok mX1_isWithin := ⟨vm_inG (i := 763) (by rfl) rfl, jX1, ⟨by decide +kernel, by decide +kernel, by decide +kernel⟩, by decide +kernel, by decide +kernel, rfl⟩
def mX1_isEmpty : vM := (yX1_isEmpty, cX1_isEmpty, 1, some (FieldType.boolean), RX1, 0)
set_option maxRecDepth 100000 in
theorem kX1_isEmpty : vm_Mok mX1_isEmpty := ⟨vm_inG (i := 768) (by rfl) rfl, jX1, ⟨by decide +kernel, by decide +kernel, by decide +kernel⟩, by decide +kernel, by decide +kernel, rfl⟩
def mX10_acceptable : vM := (yX10_acceptable, cX10_acceptable, 1, some (FieldType.int), RX10, 0)
set_option maxRecDepth 100000 in
theorem kX10_acceptable : vm_Mok mX10_acceptable := ⟨vm_inG (i := 774) (by rfl) rfl, jX10, ⟨by decide +kernel, by decide +kernel, by decide +kernel⟩, by decide +kernel, by decide +kernel, rfl⟩
def mX10_failingAt : vM := (yX10_failingAt, cX10_failingAt, 2, some (FieldType.int), RX10, 0)
set_option maxRecDepth 100000 in
theorem kX10_failingAt : vm_Mok mX10_failingAt := ⟨vm_inG (i := 778) (by rfl) rfl, jX10, ⟨by decide +kernel, by decide +kernel, by decide +kernel⟩, by decide +kernel, by decide +kernel, rfl⟩
def mX10_accommodated : vM := (yX10_accommodated, cX10_accommodated, 1, some (FieldType.int), RX10, 0)
set_option maxRecDepth 100000 in
theorem kX10_accommodated : vm_Mok mX10_accommodated := ⟨vm_inG (i := 782) (by rfl) rfl, jX10, ⟨by decide +kernel, by decide +kernel, by decide +kernel⟩, by decide +kernel, by decide +kernel, rfl⟩
def mX10_accommodatedPart : vM := (yX10_accommodatedPart, cX10_accommodatedPart, 4, some (FieldType.int), RX10, 1)
set_option maxRecDepth 100000 in
theorem kX10_accommodatedPart : vm_Mok mX10_accommodatedPart := ⟨vm_inG (i := 787) (by rfl) rfl, jX10, ⟨by decide +kernel, by decide +kernel, by decide +kernel⟩, by decide +kernel, by decide +kernel, rfl⟩
def mX10_sizeBehind : vM := (yX10_sizeBehind, cX10_sizeBehind, 5, some (FieldType.int), RX10, 1)
set_option maxRecDepth 100000 in
theorem kX10_sizeBehind : vm_Mok mX10_sizeBehind := ⟨vm_inG (i := 791) (by rfl) rfl, jX10, ⟨by decide +kernel, by decide +kernel, by decide +kernel⟩, by decide +kernel, by decide +kernel, rfl⟩
def mX10_supports : vM := (yX10_supports, cX10_supports, 2, some (FieldType.int), RX10, 0)
set_option maxRecDepth 100000 in
theorem kX10_supports : vm_Mok mX10_supports := ⟨vm_inG (i := 796) (by rfl) rfl, jX10, ⟨by decide +kernel, by decide +kernel, by decide +kernel⟩, by decide +kernel, by decide +kernel, rfl⟩
def mX10_worldsTrue : vM := (yX10_worldsTrue, cX10_worldsTrue, 6, some (FieldType.int), RX10, 0)
set_option maxRecDepth 100000 in
theorem kX10_worldsTrue : vm_Mok mX10_worldsTrue := ⟨vm_inG (i := 802) (by rfl) rfl, jX10, ⟨by decide +kernel, by decide +kernel, by decide +kernel⟩, by decide +kernel, by decide +kernel, rfl⟩
def mX10_isTrueInOtherWorld : vM := (yX10_isTrueInOtherWorld, cX10_isTrueInOtherWorld, 2, some (FieldType.boolean), RX10, 1)
set_option maxRecDepth 100000 in
theorem kX10_isTrueInOtherWorld : vm_Mok mX10_isTrueInOtherWorld := ⟨vm_inG (i := 807) (by rfl) rfl, jX10, ⟨by decide +kernel, by decide +kernel, by decide +kernel⟩, by decide +kernel, by decide +kernel, rfl⟩
def mX10_historySize : vM := (yX10_historySize, cX10_historySize, 1, some (FieldType.int), RX10, 0)
set_option maxRecDepth 100000 in
theorem kX10_historySize : vm_Mok mX10_historySize := ⟨vm_inG (i := 813) (by rfl) rfl, jX10, ⟨by decide +kernel, by decide +kernel, by decide +kernel⟩, by decide +kernel, by decide +kernel, rfl⟩
def mX10_undo : vM := (yX10_undo, cX10_undo, 1, some (FieldType.int), RX10, 0)
set_option maxRecDepth 100000 in
theorem kX10_undo : vm_Mok mX10_undo := ⟨vm_inG (i := 817) (by rfl) rfl, jX10, ⟨by decide +kernel, by decide +kernel, by decide +kernel⟩, by decide +kernel, by decide +kernel, rfl⟩
def mX2_restore : vM := (yX2_restore, cX2_restore, 3, some (FieldType.boolean), RX2, 1)
set_option maxRecDepth 100000 in
theorem kX2_restore : vm_Mok mX2_restore := ⟨vm_inG (i := 821) (by rfl) rfl, jX2, ⟨by decide +kernel, by decide +kernel, by decide +kernel⟩, by decide +kernel, by decide +kernel, rfl⟩
def mX11_init : vM := (yX11_init, cX11_init, 1, none, RX11, 0)
set_option maxRecDepth 100000 in
theorem kX11_init : vm_Mok mX11_init := ⟨vm_inG (i := 826) (by rfl) rfl, jX11, ⟨by decide +kernel, by decide +kernel, by decide +kernel⟩, by decide +kernel, by decide +kernel, rfl⟩
def mX11_setIndividuals : vM := (yX11_setIndividuals, cX11_setIndividuals, 4, some (FieldType.int), RX11, 1)
set_option maxRecDepth 100000 in
theorem kX11_setIndividuals : vm_Mok mX11_setIndividuals := ⟨vm_inG (i := 920) (by rfl) rfl, jX11, ⟨by decide +kernel, by decide +kernel, by decide +kernel⟩, by decide +kernel, by decide +kernel, rfl⟩
def mX11_in : vM := (yX11_in, cX11_in, 3, some (FieldType.boolean), RX11, 3)
set_option maxRecDepth 100000 in
theorem kX11_in : vm_Mok mX11_in := ⟨vm_inG (i := 923) (by rfl) rfl, jX11, ⟨by decide +kernel, by decide +kernel, by decide +kernel⟩, by decide +kernel, by decide +kernel, rfl⟩
def mX11_acts : vM := (yX11_acts, cX11_acts, 2, none, RX11, 0)
set_option maxRecDepth 100000 in
theorem kX11_acts : vm_Mok mX11_acts := ⟨vm_inG (i := 927) (by rfl) rfl, jX11, ⟨by decide +kernel, by decide +kernel, by decide +kernel⟩, by decide +kernel, by decide +kernel, rfl⟩
def mX11_first : vM := (yX11_first, cX11_first, 2, none, RX11, 0)
set_option maxRecDepth 100000 in
theorem kX11_first : vm_Mok mX11_first := ⟨vm_inG (i := 931) (by rfl) rfl, jX11, ⟨by decide +kernel, by decide +kernel, by decide +kernel⟩, by decide +kernel, by decide +kernel, rfl⟩
def mX11_setPredicate : vM := (yX11_setPredicate, cX11_setPredicate, 4, some (FieldType.int), RX11, 2)
set_option maxRecDepth 100000 in
theorem kX11_setPredicate : vm_Mok mX11_setPredicate := ⟨vm_inG (i := 935) (by rfl) rfl, jX11, ⟨by decide +kernel, by decide +kernel, by decide +kernel⟩, by decide +kernel, by decide +kernel, rfl⟩
def mX11_full : vM := (yX11_full, cX11_full, 1, some (FieldType.int), RX11, 0)
set_option maxRecDepth 100000 in
theorem kX11_full : vm_Mok mX11_full := ⟨vm_inG (i := 939) (by rfl) rfl, jX11, ⟨by decide +kernel, by decide +kernel, by decide +kernel⟩, by decide +kernel, by decide +kernel, rfl⟩
def mX11_setPair : vM := (yX11_setPair, cX11_setPair, 7, some (FieldType.int), RX11, 4)
set_option maxRecDepth 100000 in
theorem kX11_setPair : vm_Mok mX11_setPair := ⟨vm_inG (i := 943) (by rfl) rfl, jX11, ⟨by decide +kernel, by decide +kernel, by decide +kernel⟩, by decide +kernel, by decide +kernel, rfl⟩
def mX11_individuals : vM := (yX11_individuals, cX11_individuals, 1, some (FieldType.int), RX11, 0)
set_option maxRecDepth 100000 in
theorem kX11_individuals : vm_Mok mX11_individuals := ⟨vm_inG (i := 947) (by rfl) rfl, jX11, ⟨by decide +kernel, by decide +kernel, by decide +kernel⟩, by decide +kernel, by decide +kernel, rfl⟩
def mX11_predicate : vM := (yX11_predicate, cX11_predicate, 2, some (FieldType.int), RX11, 1)
set_option maxRecDepth 100000 in
theorem kX11_predicate : vm_Mok mX11_predicate := ⟨vm_inG (i := 951) (by rfl) rfl, jX11, ⟨by decide +kernel, by decide +kernel, by decide +kernel⟩, by decide +kernel, by decide +kernel, rfl⟩
def mX11_relationHolds : vM := (yX11_relationHolds, cX11_relationHolds, 4, some (FieldType.int), RX11, 3)
set_option maxRecDepth 100000 in
theorem kX11_relationHolds : vm_Mok mX11_relationHolds := ⟨vm_inG (i := 955) (by rfl) rfl, jX11, ⟨by decide +kernel, by decide +kernel, by decide +kernel⟩, by decide +kernel, by decide +kernel, rfl⟩
def mX11_isObject : vM := (yX11_isObject, cX11_isObject, 2, some (FieldType.boolean), RX11, 1)
set_option maxRecDepth 100000 in
theorem kX11_isObject : vm_Mok mX11_isObject := ⟨vm_inG (i := 959) (by rfl) rfl, jX11, ⟨by decide +kernel, by decide +kernel, by decide +kernel⟩, by decide +kernel, by decide +kernel, rfl⟩
def mX11_holds : vM := (yX11_holds, cX11_holds, 10, some (FieldType.boolean), RX11, 3)
set_option maxRecDepth 100000 in
theorem kX11_holds : vm_Mok mX11_holds := ⟨vm_inG (i := 963) (by rfl) rfl, jX11, ⟨by decide +kernel, by decide +kernel, by decide +kernel⟩, by decide +kernel, by decide +kernel, rfl⟩
def mX11_type : vM := (yX11_type, cX11_type, 2, some (FieldType.int), RX11, 1)
set_option maxRecDepth 100000 in
theorem kX11_type : vm_Mok mX11_type := ⟨vm_inG (i := 967) (by rfl) rfl, jX11, ⟨by decide +kernel, by decide +kernel, by decide +kernel⟩, by decide +kernel, by decide +kernel, rfl⟩
def mX11_clearText : vM := (yX11_clearText, cX11_clearText, 2, some (FieldType.int), RX11, 0)
set_option maxRecDepth 100000 in
theorem kX11_clearText : vm_Mok mX11_clearText := ⟨vm_inG (i := 971) (by rfl) rfl, jX11, ⟨by decide +kernel, by decide +kernel, by decide +kernel⟩, by decide +kernel, by decide +kernel, rfl⟩
def mX11_syntaxFault : vM := (yX11_syntaxFault, cX11_syntaxFault, 1, some (FieldType.int), RX11, 0)
set_option maxRecDepth 100000 in
theorem kX11_syntaxFault : vm_Mok mX11_syntaxFault := ⟨vm_inG (i := 975) (by rfl) rfl, jX11, ⟨by decide +kernel, by decide +kernel, by decide +kernel⟩, by decide +kernel, by decide +kernel, rfl⟩
def mX11_reads : vM := (yX11_reads, cX11_reads, 6, some (FieldType.boolean), RX11, 2)
set_option maxRecDepth 100000 in
theorem kX11_reads : vm_Mok mX11_reads := ⟨vm_inG (i := 979) (by rfl) rfl, jX11, ⟨by decide +kernel, by decide +kernel, by decide +kernel⟩, by decide +kernel, by decide +kernel, rfl⟩
def mX11_next : vM := (yX11_next, cX11_next, 1, some (FieldType.int), RX11, 0)
set_option maxRecDepth 100000 in
theorem kX11_next : vm_Mok mX11_next := ⟨vm_inG (i := 983) (by rfl) rfl, jX11, ⟨by decide +kernel, by decide +kernel, by decide +kernel⟩, by decide +kernel, by decide +kernel, rfl⟩
def mX11_opens : vM := (yX11_opens, cX11_opens, 2, none, RX11, 1)
set_option maxRecDepth 100000 in
theorem kX11_opens : vm_Mok mX11_opens := ⟨vm_inG (i := 987) (by rfl) rfl, jX11, ⟨by decide +kernel, by decide +kernel, by decide +kernel⟩, by decide +kernel, by decide +kernel, rfl⟩
def mX11_readsFormula : vM := (yX11_readsFormula, cX11_readsFormula, 3, some (FieldType.boolean), RX11, 0)
set_option maxRecDepth 100000 in
theorem kX11_readsFormula : vm_Mok mX11_readsFormula := ⟨vm_inG (i := 991) (by rfl) rfl, jX11, ⟨by decide +kernel, by decide +kernel, by decide +kernel⟩, by decide +kernel, by decide +kernel, rfl⟩
def mX11_readsUnit : vM := (yX11_readsUnit, cX11_readsUnit, 4, some (FieldType.boolean), RX11, 0)
set_option maxRecDepth 100000 in
theorem kX11_readsUnit : vm_Mok mX11_readsUnit := ⟨vm_inG (i := 995) (by rfl) rfl, jX11, ⟨by decide +kernel, by decide +kernel, by decide +kernel⟩, by decide +kernel, by decide +kernel, rfl⟩
def mX11_variable : vM := (yX11_variable, cX11_variable, 3, some (FieldType.int), RX11, 1)
set_option maxRecDepth 100000 in
theorem kX11_variable : vm_Mok mX11_variable := ⟨vm_inG (i := 999) (by rfl) rfl, jX11, ⟨by decide +kernel, by decide +kernel, by decide +kernel⟩, by decide +kernel, by decide +kernel, rfl⟩
def mX11_finds : vM := (yX11_finds, cX11_finds, 4, none, RX11, 1)
set_option maxRecDepth 100000 in
theorem kX11_finds : vm_Mok mX11_finds := ⟨vm_inG (i := 1003) (by rfl) rfl, jX11, ⟨by decide +kernel, by decide +kernel, by decide +kernel⟩, by decide +kernel, by decide +kernel, rfl⟩
def mX11_pushes : vM := (yX11_pushes, cX11_pushes, 2, none, RX11, 1)
set_option maxRecDepth 100000 in
theorem kX11_pushes : vm_Mok mX11_pushes := ⟨vm_inG (i := 1007) (by rfl) rfl, jX11, ⟨by decide +kernel, by decide +kernel, by decide +kernel⟩, by decide +kernel, by decide +kernel, rfl⟩
def mX11_tests : vM := (yX11_tests, cX11_tests, 5, some (FieldType.boolean), RX11, 3)
set_option maxRecDepth 100000 in
theorem kX11_tests : vm_Mok mX11_tests := ⟨vm_inG (i := 1011) (by rfl) rfl, jX11, ⟨by decide +kernel, by decide +kernel, by decide +kernel⟩, by decide +kernel, by decide +kernel, rfl⟩
def mX11_of : vM := (yX11_of, cX11_of, 2, some (FieldType.int), RX11, 2)
set_option maxRecDepth 100000 in
theorem kX11_of : vm_Mok mX11_of := ⟨vm_inG (i := 1014) (by rfl) rfl, jX11, ⟨by decide +kernel, by decide +kernel, by decide +kernel⟩, by decide +kernel, by decide +kernel, rfl⟩
def mX11_isSo : vM := (yX11_isSo, cX11_isSo, 4, some (FieldType.boolean), RX11, 3)
set_option maxRecDepth 100000 in
theorem kX11_isSo : vm_Mok mX11_isSo := ⟨vm_inG (i := 1018) (by rfl) rfl, jX11, ⟨by decide +kernel, by decide +kernel, by decide +kernel⟩, by decide +kernel, by decide +kernel, rfl⟩
def mX11_ones : vM := (yX11_ones, cX11_ones, 1, some (FieldType.int), RX11, 1)
set_option maxRecDepth 100000 in
theorem kX11_ones : vm_Mok mX11_ones := ⟨vm_inG (i := 1021) (by rfl) rfl, jX11, ⟨by decide +kernel, by decide +kernel, by decide +kernel⟩, by decide +kernel, by decide +kernel, rfl⟩
def mX11_pushesTest : vM := (yX11_pushesTest, cX11_pushesTest, 3, none, RX11, 1)
set_option maxRecDepth 100000 in
theorem kX11_pushesTest : vm_Mok mX11_pushesTest := ⟨vm_inG (i := 1025) (by rfl) rfl, jX11, ⟨by decide +kernel, by decide +kernel, by decide +kernel⟩, by decide +kernel, by decide +kernel, rfl⟩
def mX11_endsUnit : vM := (yX11_endsUnit, cX11_endsUnit, 1, none, RX11, 0)
set_option maxRecDepth 100000 in
theorem kX11_endsUnit : vm_Mok mX11_endsUnit := ⟨vm_inG (i := 1029) (by rfl) rfl, jX11, ⟨by decide +kernel, by decide +kernel, by decide +kernel⟩, by decide +kernel, by decide +kernel, rfl⟩
def mX11_hasResults : vM := (yX11_hasResults, cX11_hasResults, 3, none, RX11, 1)
set_option maxRecDepth 100000 in
theorem kX11_hasResults : vm_Mok mX11_hasResults := ⟨vm_inG (i := 1033) (by rfl) rfl, jX11, ⟨by decide +kernel, by decide +kernel, by decide +kernel⟩, by decide +kernel, by decide +kernel, rfl⟩
def mX11_leads : vM := (yX11_leads, cX11_leads, 6, none, RX11, 1)
set_option maxRecDepth 100000 in
theorem kX11_leads : vm_Mok mX11_leads := ⟨vm_inG (i := 1037) (by rfl) rfl, jX11, ⟨by decide +kernel, by decide +kernel, by decide +kernel⟩, by decide +kernel, by decide +kernel, rfl⟩
def mX11_endsRow : vM := (yX11_endsRow, cX11_endsRow, 2, none, RX11, 0)
set_option maxRecDepth 100000 in
theorem kX11_endsRow : vm_Mok mX11_endsRow := ⟨vm_inG (i := 1041) (by rfl) rfl, jX11, ⟨by decide +kernel, by decide +kernel, by decide +kernel⟩, by decide +kernel, by decide +kernel, rfl⟩
def mX11_endsChoice : vM := (yX11_endsChoice, cX11_endsChoice, 2, none, RX11, 0)
set_option maxRecDepth 100000 in
theorem kX11_endsChoice : vm_Mok mX11_endsChoice := ⟨vm_inG (i := 1045) (by rfl) rfl, jX11, ⟨by decide +kernel, by decide +kernel, by decide +kernel⟩, by decide +kernel, by decide +kernel, rfl⟩
def mX11_under : vM := (yX11_under, cX11_under, 2, some (FieldType.int), RX11, 0)
set_option maxRecDepth 100000 in
theorem kX11_under : vm_Mok mX11_under := ⟨vm_inG (i := 1049) (by rfl) rfl, jX11, ⟨by decide +kernel, by decide +kernel, by decide +kernel⟩, by decide +kernel, by decide +kernel, rfl⟩
def mX11_endsFormula : vM := (yX11_endsFormula, cX11_endsFormula, 2, none, RX11, 0)
set_option maxRecDepth 100000 in
theorem kX11_endsFormula : vm_Mok mX11_endsFormula := ⟨vm_inG (i := 1053) (by rfl) rfl, jX11, ⟨by decide +kernel, by decide +kernel, by decide +kernel⟩, by decide +kernel, by decide +kernel, rfl⟩
def mX11_takes : vM := (yX11_takes, cX11_takes, 6, some (FieldType.boolean), RX11, 3)
set_option maxRecDepth 100000 in
theorem kX11_takes : vm_Mok mX11_takes := ⟨vm_inG (i := 1057) (by rfl) rfl, jX11, ⟨by decide +kernel, by decide +kernel, by decide +kernel⟩, by decide +kernel, by decide +kernel, rfl⟩
def mX11_isSupported : vM := (yX11_isSupported, cX11_isSupported, 4, some (FieldType.boolean), RX11, 1)
set_option maxRecDepth 100000 in
theorem kX11_isSupported : vm_Mok mX11_isSupported := ⟨vm_inG (i := 1061) (by rfl) rfl, jX11, ⟨by decide +kernel, by decide +kernel, by decide +kernel⟩, by decide +kernel, by decide +kernel, rfl⟩
def mX11_turns : vM := (yX11_turns, cX11_turns, 5, none, RX11, 1)
set_option maxRecDepth 100000 in
theorem kX11_turns : vm_Mok mX11_turns := ⟨vm_inG (i := 1065) (by rfl) rfl, jX11, ⟨by decide +kernel, by decide +kernel, by decide +kernel⟩, by decide +kernel, by decide +kernel, rfl⟩
def mX11_inContext : vM := (yX11_inContext, cX11_inContext, 3, some (FieldType.int), RX11, 0)
set_option maxRecDepth 100000 in
theorem kX11_inContext : vm_Mok mX11_inContext := ⟨vm_inG (i := 1069) (by rfl) rfl, jX11, ⟨by decide +kernel, by decide +kernel, by decide +kernel⟩, by decide +kernel, by decide +kernel, rfl⟩
def mX11_unknownVariable : vM := (yX11_unknownVariable, cX11_unknownVariable, 1, some (FieldType.int), RX11, 0)
set_option maxRecDepth 100000 in
theorem kX11_unknownVariable : vm_Mok mX11_unknownVariable := ⟨vm_inG (i := 1073) (by rfl) rfl, jX11, ⟨by decide +kernel, by decide +kernel, by decide +kernel⟩, by decide +kernel, by decide +kernel, rfl⟩
def mX11_unknownDepth : vM := (yX11_unknownDepth, cX11_unknownDepth, 1, some (FieldType.int), RX11, 0)
set_option maxRecDepth 100000 in
theorem kX11_unknownDepth : vm_Mok mX11_unknownDepth := ⟨vm_inG (i := 1077) (by rfl) rfl, jX11, ⟨by decide +kernel, by decide +kernel, by decide +kernel⟩, by decide +kernel, by decide +kernel, rfl⟩
def mX11_partCount : vM := (yX11_partCount, cX11_partCount, 1, some (FieldType.int), RX11, 0)
set_option maxRecDepth 100000 in
theorem kX11_partCount : vm_Mok mX11_partCount := ⟨vm_inG (i := 1081) (by rfl) rfl, jX11, ⟨by decide +kernel, by decide +kernel, by decide +kernel⟩, by decide +kernel, by decide +kernel, rfl⟩
def mX11_contextSize : vM := (yX11_contextSize, cX11_contextSize, 1, some (FieldType.int), RX11, 0)
set_option maxRecDepth 100000 in
theorem kX11_contextSize : vm_Mok mX11_contextSize := ⟨vm_inG (i := 1085) (by rfl) rfl, jX11, ⟨by decide +kernel, by decide +kernel, by decide +kernel⟩, by decide +kernel, by decide +kernel, rfl⟩
def mX11_size : vM := (yX11_size, cX11_size, 3, some (FieldType.int), RX11, 0)
set_option maxRecDepth 100000 in
theorem kX11_size : vm_Mok mX11_size := ⟨vm_inG (i := 1089) (by rfl) rfl, jX11, ⟨by decide +kernel, by decide +kernel, by decide +kernel⟩, by decide +kernel, by decide +kernel, rfl⟩
def mX11_isThere : vM := (yX11_isThere, cX11_isThere, 2, some (FieldType.boolean), RX11, 1)
set_option maxRecDepth 100000 in
theorem kX11_isThere : vm_Mok mX11_isThere := ⟨vm_inG (i := 1093) (by rfl) rfl, jX11, ⟨by decide +kernel, by decide +kernel, by decide +kernel⟩, by decide +kernel, by decide +kernel, rfl⟩
def mX11_known : vM := (yX11_known, cX11_known, 1, some (FieldType.int), RX11, 0)
set_option maxRecDepth 100000 in
theorem kX11_known : vm_Mok mX11_known := ⟨vm_inG (i := 1097) (by rfl) rfl, jX11, ⟨by decide +kernel, by decide +kernel, by decide +kernel⟩, by decide +kernel, by decide +kernel, rfl⟩
def mX11_objects : vM := (yX11_objects, cX11_objects, 4, some (FieldType.int), RX11, 1)
set_option maxRecDepth 100000 in
theorem kX11_objects : vm_Mok mX11_objects := ⟨vm_inG (i := 1101) (by rfl) rfl, jX11, ⟨by decide +kernel, by decide +kernel, by decide +kernel⟩, by decide +kernel, by decide +kernel, rfl⟩
def mX11_isKnown : vM := (yX11_isKnown, cX11_isKnown, 2, some (FieldType.boolean), RX11, 1)
set_option maxRecDepth 100000 in
theorem kX11_isKnown : vm_Mok mX11_isKnown := ⟨vm_inG (i := 1105) (by rfl) rfl, jX11, ⟨by decide +kernel, by decide +kernel, by decide +kernel⟩, by decide +kernel, by decide +kernel, rfl⟩
def mX11_together : vM := (yX11_together, cX11_together, 7, some (FieldType.int), RX11, 4)
set_option maxRecDepth 100000 in
theorem kX11_together : vm_Mok mX11_together := ⟨vm_inG (i := 1109) (by rfl) rfl, jX11, ⟨by decide +kernel, by decide +kernel, by decide +kernel⟩, by decide +kernel, by decide +kernel, rfl⟩
def mX11_resetContext : vM := (yX11_resetContext, cX11_resetContext, 2, some (FieldType.int), RX11, 0)
set_option maxRecDepth 100000 in
theorem kX11_resetContext : vm_Mok mX11_resetContext := ⟨vm_inG (i := 1113) (by rfl) rfl, jX11, ⟨by decide +kernel, by decide +kernel, by decide +kernel⟩, by decide +kernel, by decide +kernel, rfl⟩
def mX11_setAccommodation : vM := (yX11_setAccommodation, cX11_setAccommodation, 3, some (FieldType.int), RX11, 1)
set_option maxRecDepth 100000 in
theorem kX11_setAccommodation : vm_Mok mX11_setAccommodation := ⟨vm_inG (i := 1117) (by rfl) rfl, jX11, ⟨by decide +kernel, by decide +kernel, by decide +kernel⟩, by decide +kernel, by decide +kernel, rfl⟩
def mX11_accept : vM := (yX11_accept, cX11_accept, 3, some (FieldType.int), RX11, 0)
set_option maxRecDepth 100000 in
theorem kX11_accept : vm_Mok mX11_accept := ⟨vm_inG (i := 1121) (by rfl) rfl, jX11, ⟨by decide +kernel, by decide +kernel, by decide +kernel⟩, by decide +kernel, by decide +kernel, rfl⟩
def mX11_tries : vM := (yX11_tries, cX11_tries, 3, some (FieldType.int), RX11, 0)
set_option maxRecDepth 100000 in
theorem kX11_tries : vm_Mok mX11_tries := ⟨vm_inG (i := 1125) (by rfl) rfl, jX11, ⟨by decide +kernel, by decide +kernel, by decide +kernel⟩, by decide +kernel, by decide +kernel, rfl⟩
def mX11_error : vM := (yX11_error, cX11_error, 2, some (FieldType.int), RX11, 1)
set_option maxRecDepth 100000 in
theorem kX11_error : vm_Mok mX11_error := ⟨vm_inG (i := 1129) (by rfl) rfl, jX11, ⟨by decide +kernel, by decide +kernel, by decide +kernel⟩, by decide +kernel, by decide +kernel, rfl⟩
def mX11_takesContext : vM := (yX11_takesContext, cX11_takesContext, 3, none, RX11, 1)
set_option maxRecDepth 100000 in
theorem kX11_takesContext : vm_Mok mX11_takesContext := ⟨vm_inG (i := 1133) (by rfl) rfl, jX11, ⟨by decide +kernel, by decide +kernel, by decide +kernel⟩, by decide +kernel, by decide +kernel, rfl⟩
def mX11_acceptable : vM := (yX11_acceptable, cX11_acceptable, 1, some (FieldType.int), RX11, 0)
set_option maxRecDepth 100000 in
theorem kX11_acceptable : vm_Mok mX11_acceptable := ⟨vm_inG (i := 1137) (by rfl) rfl, jX11, ⟨by decide +kernel, by decide +kernel, by decide +kernel⟩, by decide +kernel, by decide +kernel, rfl⟩
def mX11_failingAt : vM := (yX11_failingAt, cX11_failingAt, 2, some (FieldType.int), RX11, 0)
set_option maxRecDepth 100000 in
theorem kX11_failingAt : vm_Mok mX11_failingAt := ⟨vm_inG (i := 1141) (by rfl) rfl, jX11, ⟨by decide +kernel, by decide +kernel, by decide +kernel⟩, by decide +kernel, by decide +kernel, rfl⟩
def mX11_accommodated : vM := (yX11_accommodated, cX11_accommodated, 3, some (FieldType.int), RX11, 0)
set_option maxRecDepth 100000 in
theorem kX11_accommodated : vm_Mok mX11_accommodated := ⟨vm_inG (i := 1145) (by rfl) rfl, jX11, ⟨by decide +kernel, by decide +kernel, by decide +kernel⟩, by decide +kernel, by decide +kernel, rfl⟩
def mX11_accommodatedPart : vM := (yX11_accommodatedPart, cX11_accommodatedPart, 5, some (FieldType.int), RX11, 1)
set_option maxRecDepth 100000 in
theorem kX11_accommodatedPart : vm_Mok mX11_accommodatedPart := ⟨vm_inG (i := 1149) (by rfl) rfl, jX11, ⟨by decide +kernel, by decide +kernel, by decide +kernel⟩, by decide +kernel, by decide +kernel, rfl⟩
def mX11_sizeBehind : vM := (yX11_sizeBehind, cX11_sizeBehind, 3, some (FieldType.int), RX11, 1)
set_option maxRecDepth 100000 in
theorem kX11_sizeBehind : vm_Mok mX11_sizeBehind := ⟨vm_inG (i := 1153) (by rfl) rfl, jX11, ⟨by decide +kernel, by decide +kernel, by decide +kernel⟩, by decide +kernel, by decide +kernel, rfl⟩
def mX11_supports : vM := (yX11_supports, cX11_supports, 2, some (FieldType.int), RX11, 0)
set_option maxRecDepth 100000 in
theorem kX11_supports : vm_Mok mX11_supports := ⟨vm_inG (i := 1157) (by rfl) rfl, jX11, ⟨by decide +kernel, by decide +kernel, by decide +kernel⟩, by decide +kernel, by decide +kernel, rfl⟩
def mX11_isAllSupported : vM := (yX11_isAllSupported, cX11_isAllSupported, 2, some (FieldType.boolean), RX11, 1)
set_option maxRecDepth 100000 in
theorem kX11_isAllSupported : vm_Mok mX11_isAllSupported := ⟨vm_inG (i := 1161) (by rfl) rfl, jX11, ⟨by decide +kernel, by decide +kernel, by decide +kernel⟩, by decide +kernel, by decide +kernel, rfl⟩
def mX11_worldsTrue : vM := (yX11_worldsTrue, cX11_worldsTrue, 6, some (FieldType.int), RX11, 0)
set_option maxRecDepth 100000 in
theorem kX11_worldsTrue : vm_Mok mX11_worldsTrue := ⟨vm_inG (i := 1165) (by rfl) rfl, jX11, ⟨by decide +kernel, by decide +kernel, by decide +kernel⟩, by decide +kernel, by decide +kernel, rfl⟩
def mX11_historySize : vM := (yX11_historySize, cX11_historySize, 1, some (FieldType.int), RX11, 0)
set_option maxRecDepth 100000 in
theorem kX11_historySize : vm_Mok mX11_historySize := ⟨vm_inG (i := 1169) (by rfl) rfl, jX11, ⟨by decide +kernel, by decide +kernel, by decide +kernel⟩, by decide +kernel, by decide +kernel, rfl⟩
def mX11_undo : vM := (yX11_undo, cX11_undo, 2, some (FieldType.int), RX11, 0)
set_option maxRecDepth 100000 in
theorem kX11_undo : vm_Mok mX11_undo := ⟨vm_inG (i := 1173) (by rfl) rfl, jX11, ⟨by decide +kernel, by decide +kernel, by decide +kernel⟩, by decide +kernel, by decide +kernel, rfl⟩
def mL_law : vM := (yL_law, cL_law, 4, ret, RL, 1)
theorem iX10_init : Cond.instanceMethod yX10_init ∈ vm_G := vm_inG (i := 87) (by decide +kernel) rfl
theorem iX7_init : Cond.instanceMethod yX7_init ∈ vm_G := vm_inG (i := 95) (by decide +kernel) rfl
theorem iX9_init : Cond.instanceMethod yX9_init ∈ vm_G := vm_inG (i := 101) (by decide +kernel) rfl
theorem iX1_init : Cond.instanceMethod yX1_init ∈ vm_G := vm_inG (i := 119) (by decide +kernel) rfl
theorem iX1_makeFirst : Cond.instanceMethod yX1_makeFirst ∈ vm_G := vm_inG (i := 128) (by decide +kernel) rfl
theorem sX1_makeFirst : Cond.selects (mY mX1_makeFirst).cls (mY mX1_makeFirst) (mY mX1_makeFirst) ∈ vm_G := vm_inG (i := 129) (by decide +kernel) rfl
theorem iX1_fill : Cond.instanceMethod yX1_fill ∈ vm_G := vm_inG (i := 132) (by decide +kernel) rfl
theorem sX1_fill : Cond.selects (mY mX1_fill).cls (mY mX1_fill) (mY mX1_fill) ∈ vm_G := vm_inG (i := 133) (by decide +kernel) rfl
theorem iX2_init : Cond.instanceMethod yX2_init ∈ vm_G := vm_inG (i := 161) (by decide +kernel) rfl
theorem iX8_init : Cond.instanceMethod yX8_init ∈ vm_G := vm_inG (i := 181) (by decide +kernel) rfl
theorem iX6_init : Cond.instanceMethod yX6_init ∈ vm_G := vm_inG (i := 197) (by decide +kernel) rfl
theorem iX5_init : Cond.instanceMethod yX5_init ∈ vm_G := vm_inG (i := 204) (by decide +kernel) rfl
theorem iX3_init : Cond.instanceMethod yX3_init ∈ vm_G := vm_inG (i := 293) (by decide +kernel) rfl
theorem iX4_init : Cond.instanceMethod yX4_init ∈ vm_G := vm_inG (i := 312) (by decide +kernel) rfl
theorem iX0_init : Cond.instanceMethod yX0_init ∈ vm_G := vm_inG (i := 322) (by decide +kernel) rfl
theorem iX10_setIndividuals : Cond.instanceMethod yX10_setIndividuals ∈ vm_G := vm_inG (i := 382) (by decide +kernel) rfl
theorem sX10_setIndividuals : Cond.selects (mY mX10_setIndividuals).cls (mY mX10_setIndividuals) (mY mX10_setIndividuals) ∈ vm_G := vm_inG (i := 383) (by decide +kernel) rfl
theorem iX2_record : Cond.instanceMethod yX2_record ∈ vm_G := vm_inG (i := 386) (by decide +kernel) rfl
theorem sX2_record : Cond.selects (mY mX2_record).cls (mY mX2_record) (mY mX2_record) ∈ vm_G := vm_inG (i := 387) (by decide +kernel) rfl
theorem iX7_copyFrom : Cond.instanceMethod yX7_copyFrom ∈ vm_G := vm_inG (i := 390) (by decide +kernel) rfl
theorem sX7_copyFrom : Cond.selects (mY mX7_copyFrom).cls (mY mX7_copyFrom) (mY mX7_copyFrom) ∈ vm_G := vm_inG (i := 391) (by decide +kernel) rfl
theorem iX9_copyFrom : Cond.instanceMethod yX9_copyFrom ∈ vm_G := vm_inG (i := 394) (by decide +kernel) rfl
theorem sX9_copyFrom : Cond.selects (mY mX9_copyFrom).cls (mY mX9_copyFrom) (mY mX9_copyFrom) ∈ vm_G := vm_inG (i := 395) (by decide +kernel) rfl
theorem iX1_copyFrom : Cond.instanceMethod yX1_copyFrom ∈ vm_G := vm_inG (i := 398) (by decide +kernel) rfl
theorem sX1_copyFrom : Cond.selects (mY mX1_copyFrom).cls (mY mX1_copyFrom) (mY mX1_copyFrom) ∈ vm_G := vm_inG (i := 399) (by decide +kernel) rfl
theorem iX9_begin : Cond.instanceMethod yX9_begin ∈ vm_G := vm_inG (i := 405) (by decide +kernel) rfl
theorem sX9_begin : Cond.selects (mY mX9_begin).cls (mY mX9_begin) (mY mX9_begin) ∈ vm_G := vm_inG (i := 406) (by decide +kernel) rfl
theorem iX7_forgetContext : Cond.instanceMethod yX7_forgetContext ∈ vm_G := vm_inG (i := 409) (by decide +kernel) rfl
theorem sX7_forgetContext : Cond.selects (mY mX7_forgetContext).cls (mY mX7_forgetContext) (mY mX7_forgetContext) ∈ vm_G := vm_inG (i := 410) (by decide +kernel) rfl
theorem iX10_setPredicate : Cond.instanceMethod yX10_setPredicate ∈ vm_G := vm_inG (i := 413) (by decide +kernel) rfl
theorem sX10_setPredicate : Cond.selects (mY mX10_setPredicate).cls (mY mX10_setPredicate) (mY mX10_setPredicate) ∈ vm_G := vm_inG (i := 414) (by decide +kernel) rfl
theorem tX10_isPredicate : Cond.static yX10_isPredicate ∈ vm_G := vm_inG (i := 417) (by decide +kernel) rfl
theorem iX9_everybody : Cond.instanceMethod yX9_everybody ∈ vm_G := vm_inG (i := 420) (by decide +kernel) rfl
theorem sX9_everybody : Cond.selects (mY mX9_everybody).cls (mY mX9_everybody) (mY mX9_everybody) ∈ vm_G := vm_inG (i := 421) (by decide +kernel) rfl
theorem iX9_setOf : Cond.instanceMethod yX9_setOf ∈ vm_G := vm_inG (i := 424) (by decide +kernel) rfl
theorem sX9_setOf : Cond.selects (mY mX9_setOf).cls (mY mX9_setOf) (mY mX9_setOf) ∈ vm_G := vm_inG (i := 425) (by decide +kernel) rfl
theorem iX9_giveSet : Cond.instanceMethod yX9_giveSet ∈ vm_G := vm_inG (i := 429) (by decide +kernel) rfl
theorem sX9_giveSet : Cond.selects (mY mX9_giveSet).cls (mY mX9_giveSet) (mY mX9_giveSet) ∈ vm_G := vm_inG (i := 430) (by decide +kernel) rfl
theorem iX10_setPair : Cond.instanceMethod yX10_setPair ∈ vm_G := vm_inG (i := 433) (by decide +kernel) rfl
theorem sX10_setPair : Cond.selects (mY mX10_setPair).cls (mY mX10_setPair) (mY mX10_setPair) ∈ vm_G := vm_inG (i := 434) (by decide +kernel) rfl
theorem tX10_isRelation : Cond.static yX10_isRelation ∈ vm_G := vm_inG (i := 437) (by decide +kernel) rfl
theorem iX10_isIndividual : Cond.instanceMethod yX10_isIndividual ∈ vm_G := vm_inG (i := 441) (by decide +kernel) rfl
theorem tX10_isSwitch : Cond.static yX10_isSwitch ∈ vm_G := vm_inG (i := 444) (by decide +kernel) rfl
theorem iX9_hasPair : Cond.instanceMethod yX9_hasPair ∈ vm_G := vm_inG (i := 447) (by decide +kernel) rfl
theorem sX9_hasPair : Cond.selects (mY mX9_hasPair).cls (mY mX9_hasPair) (mY mX9_hasPair) ∈ vm_G := vm_inG (i := 448) (by decide +kernel) rfl
theorem iX9_putPair : Cond.instanceMethod yX9_putPair ∈ vm_G := vm_inG (i := 452) (by decide +kernel) rfl
theorem sX9_putPair : Cond.selects (mY mX9_putPair).cls (mY mX9_putPair) (mY mX9_putPair) ∈ vm_G := vm_inG (i := 453) (by decide +kernel) rfl
theorem iX10_individuals : Cond.instanceMethod yX10_individuals ∈ vm_G := vm_inG (i := 456) (by decide +kernel) rfl
theorem sX10_individuals : Cond.selects (mY mX10_individuals).cls (mY mX10_individuals) (mY mX10_individuals) ∈ vm_G := vm_inG (i := 457) (by decide +kernel) rfl
theorem iX10_predicate : Cond.instanceMethod yX10_predicate ∈ vm_G := vm_inG (i := 460) (by decide +kernel) rfl
theorem sX10_predicate : Cond.selects (mY mX10_predicate).cls (mY mX10_predicate) (mY mX10_predicate) ∈ vm_G := vm_inG (i := 461) (by decide +kernel) rfl
theorem iX10_relationHolds : Cond.instanceMethod yX10_relationHolds ∈ vm_G := vm_inG (i := 464) (by decide +kernel) rfl
theorem sX10_relationHolds : Cond.selects (mY mX10_relationHolds).cls (mY mX10_relationHolds) (mY mX10_relationHolds) ∈ vm_G := vm_inG (i := 465) (by decide +kernel) rfl
theorem iX10_isObject : Cond.instanceMethod yX10_isObject ∈ vm_G := vm_inG (i := 469) (by decide +kernel) rfl
theorem iX9_relates : Cond.instanceMethod yX9_relates ∈ vm_G := vm_inG (i := 472) (by decide +kernel) rfl
theorem sX9_relates : Cond.selects (mY mX9_relates).cls (mY mX9_relates) (mY mX9_relates) ∈ vm_G := vm_inG (i := 473) (by decide +kernel) rfl
theorem iX10_type : Cond.instanceMethod yX10_type ∈ vm_G := vm_inG (i := 476) (by decide +kernel) rfl
theorem sX10_type : Cond.selects (mY mX10_type).cls (mY mX10_type) (mY mX10_type) ∈ vm_G := vm_inG (i := 477) (by decide +kernel) rfl
theorem iX8_append : Cond.instanceMethod yX8_append ∈ vm_G := vm_inG (i := 480) (by decide +kernel) rfl
theorem sX8_append : Cond.selects (mY mX8_append).cls (mY mX8_append) (mY mX8_append) ∈ vm_G := vm_inG (i := 481) (by decide +kernel) rfl
theorem iX10_clearText : Cond.instanceMethod yX10_clearText ∈ vm_G := vm_inG (i := 484) (by decide +kernel) rfl
theorem sX10_clearText : Cond.selects (mY mX10_clearText).cls (mY mX10_clearText) (mY mX10_clearText) ∈ vm_G := vm_inG (i := 485) (by decide +kernel) rfl
theorem iX10_syntaxFault : Cond.instanceMethod yX10_syntaxFault ∈ vm_G := vm_inG (i := 488) (by decide +kernel) rfl
theorem sX10_syntaxFault : Cond.selects (mY mX10_syntaxFault).cls (mY mX10_syntaxFault) (mY mX10_syntaxFault) ∈ vm_G := vm_inG (i := 489) (by decide +kernel) rfl
theorem iX6_discourse : Cond.instanceMethod yX6_discourse ∈ vm_G := vm_inG (i := 492) (by decide +kernel) rfl
theorem sX6_discourse : Cond.selects (mY mX6_discourse).cls (mY mX6_discourse) (mY mX6_discourse) ∈ vm_G := vm_inG (i := 493) (by decide +kernel) rfl
theorem iX6_part : Cond.instanceMethod yX6_part ∈ vm_G := vm_inG (i := 497) (by decide +kernel) rfl
theorem iX6_skip : Cond.instanceMethod yX6_skip ∈ vm_G := vm_inG (i := 501) (by decide +kernel) rfl
theorem iX8_at : Cond.instanceMethod yX8_at ∈ vm_G := vm_inG (i := 504) (by decide +kernel) rfl
theorem sX8_at : Cond.selects (mY mX8_at).cls (mY mX8_at) (mY mX8_at) ∈ vm_G := vm_inG (i := 505) (by decide +kernel) rfl
theorem iX6_formula : Cond.instanceMethod yX6_formula ∈ vm_G := vm_inG (i := 509) (by decide +kernel) rfl
theorem iX6_choice : Cond.instanceMethod yX6_choice ∈ vm_G := vm_inG (i := 513) (by decide +kernel) rfl
theorem iX6_row : Cond.instanceMethod yX6_row ∈ vm_G := vm_inG (i := 517) (by decide +kernel) rfl
theorem iX6_unit : Cond.instanceMethod yX6_unit ∈ vm_G := vm_inG (i := 521) (by decide +kernel) rfl
theorem iX6_negation : Cond.instanceMethod yX6_negation ∈ vm_G := vm_inG (i := 525) (by decide +kernel) rfl
theorem iX6_openSign : Cond.instanceMethod yX6_openSign ∈ vm_G := vm_inG (i := 529) (by decide +kernel) rfl
theorem iX6_holding : Cond.instanceMethod yX6_holding ∈ vm_G := vm_inG (i := 533) (by decide +kernel) rfl
theorem iX6_taken : Cond.instanceMethod yX6_taken ∈ vm_G := vm_inG (i := 537) (by decide +kernel) rfl
theorem iX6_joined : Cond.instanceMethod yX6_joined ∈ vm_G := vm_inG (i := 541) (by decide +kernel) rfl
theorem iX5_add : Cond.instanceMethod yX5_add ∈ vm_G := vm_inG (i := 544) (by decide +kernel) rfl
theorem sX5_add : Cond.selects (mY mX5_add).cls (mY mX5_add) (mY mX5_add) ∈ vm_G := vm_inG (i := 545) (by decide +kernel) rfl
theorem iX6_group : Cond.instanceMethod yX6_group ∈ vm_G := vm_inG (i := 549) (by decide +kernel) rfl
theorem iX6_aboutOne : Cond.instanceMethod yX6_aboutOne ∈ vm_G := vm_inG (i := 553) (by decide +kernel) rfl
theorem iX6_skipVariable : Cond.instanceMethod yX6_skipVariable ∈ vm_G := vm_inG (i := 557) (by decide +kernel) rfl
theorem iX6_simple : Cond.instanceMethod yX6_simple ∈ vm_G := vm_inG (i := 561) (by decide +kernel) rfl
theorem iX6_aboutTwo : Cond.instanceMethod yX6_aboutTwo ∈ vm_G := vm_inG (i := 565) (by decide +kernel) rfl
theorem iX6_count : Cond.instanceMethod yX6_count ∈ vm_G := vm_inG (i := 569) (by decide +kernel) rfl
theorem iX6_comparison : Cond.instanceMethod yX6_comparison ∈ vm_G := vm_inG (i := 573) (by decide +kernel) rfl
theorem iX10_unknownVariable : Cond.instanceMethod yX10_unknownVariable ∈ vm_G := vm_inG (i := 576) (by decide +kernel) rfl
theorem sX10_unknownVariable : Cond.selects (mY mX10_unknownVariable).cls (mY mX10_unknownVariable) (mY mX10_unknownVariable) ∈ vm_G := vm_inG (i := 577) (by decide +kernel) rfl
theorem iX3_suffices : Cond.instanceMethod yX3_suffices ∈ vm_G := vm_inG (i := 580) (by decide +kernel) rfl
theorem sX3_suffices : Cond.selects (mY mX3_suffices).cls (mY mX3_suffices) (mY mX3_suffices) ∈ vm_G := vm_inG (i := 581) (by decide +kernel) rfl
theorem iX3_readOver : Cond.instanceMethod yX3_readOver ∈ vm_G := vm_inG (i := 585) (by decide +kernel) rfl
theorem iX3_readChain : Cond.instanceMethod yX3_readChain ∈ vm_G := vm_inG (i := 589) (by decide +kernel) rfl
theorem iX3_readEach : Cond.instanceMethod yX3_readEach ∈ vm_G := vm_inG (i := 593) (by decide +kernel) rfl
theorem iX3_look : Cond.instanceMethod yX3_look ∈ vm_G := vm_inG (i := 597) (by decide +kernel) rfl
theorem iX10_unknownDepth : Cond.instanceMethod yX10_unknownDepth ∈ vm_G := vm_inG (i := 600) (by decide +kernel) rfl
theorem sX10_unknownDepth : Cond.selects (mY mX10_unknownDepth).cls (mY mX10_unknownDepth) (mY mX10_unknownDepth) ∈ vm_G := vm_inG (i := 601) (by decide +kernel) rfl
theorem iX10_partCount : Cond.instanceMethod yX10_partCount ∈ vm_G := vm_inG (i := 604) (by decide +kernel) rfl
theorem sX10_partCount : Cond.selects (mY mX10_partCount).cls (mY mX10_partCount) (mY mX10_partCount) ∈ vm_G := vm_inG (i := 605) (by decide +kernel) rfl
theorem iX10_contextSize : Cond.instanceMethod yX10_contextSize ∈ vm_G := vm_inG (i := 608) (by decide +kernel) rfl
theorem sX10_contextSize : Cond.selects (mY mX10_contextSize).cls (mY mX10_contextSize) (mY mX10_contextSize) ∈ vm_G := vm_inG (i := 609) (by decide +kernel) rfl
theorem iX1_size : Cond.instanceMethod yX1_size ∈ vm_G := vm_inG (i := 612) (by decide +kernel) rfl
theorem sX1_size : Cond.selects (mY mX1_size).cls (mY mX1_size) (mY mX1_size) ∈ vm_G := vm_inG (i := 613) (by decide +kernel) rfl
theorem tJ13_bitCount_95d88 : Cond.static yJ13_bitCount_95d88 ∈ vm_G := vm_inG (i := 616) (by decide +kernel) rfl
theorem iX10_known : Cond.instanceMethod yX10_known ∈ vm_G := vm_inG (i := 622) (by decide +kernel) rfl
theorem sX10_known : Cond.selects (mY mX10_known).cls (mY mX10_known) (mY mX10_known) ∈ vm_G := vm_inG (i := 623) (by decide +kernel) rfl
theorem iX10_objects : Cond.instanceMethod yX10_objects ∈ vm_G := vm_inG (i := 626) (by decide +kernel) rfl
theorem sX10_objects : Cond.selects (mY mX10_objects).cls (mY mX10_objects) (mY mX10_objects) ∈ vm_G := vm_inG (i := 627) (by decide +kernel) rfl
theorem tX10_isVariable : Cond.static yX10_isVariable ∈ vm_G := vm_inG (i := 630) (by decide +kernel) rfl
theorem iX7_knows : Cond.instanceMethod yX7_knows ∈ vm_G := vm_inG (i := 633) (by decide +kernel) rfl
theorem sX7_knows : Cond.selects (mY mX7_knows).cls (mY mX7_knows) (mY mX7_knows) ∈ vm_G := vm_inG (i := 634) (by decide +kernel) rfl
theorem iX1_valuesOf : Cond.instanceMethod yX1_valuesOf ∈ vm_G := vm_inG (i := 637) (by decide +kernel) rfl
theorem sX1_valuesOf : Cond.selects (mY mX1_valuesOf).cls (mY mX1_valuesOf) (mY mX1_valuesOf) ∈ vm_G := vm_inG (i := 638) (by decide +kernel) rfl
theorem iX1_countOf : Cond.instanceMethod yX1_countOf ∈ vm_G := vm_inG (i := 641) (by decide +kernel) rfl
theorem sX1_countOf : Cond.selects (mY mX1_countOf).cls (mY mX1_countOf) (mY mX1_countOf) ∈ vm_G := vm_inG (i := 642) (by decide +kernel) rfl
theorem tX1_mask : Cond.static yX1_mask ∈ vm_G := vm_inG (i := 645) (by decide +kernel) rfl
theorem iX10_together : Cond.instanceMethod yX10_together ∈ vm_G := vm_inG (i := 652) (by decide +kernel) rfl
theorem sX10_together : Cond.selects (mY mX10_together).cls (mY mX10_together) (mY mX10_together) ∈ vm_G := vm_inG (i := 653) (by decide +kernel) rfl
theorem iX10_resetContext : Cond.instanceMethod yX10_resetContext ∈ vm_G := vm_inG (i := 657) (by decide +kernel) rfl
theorem sX10_resetContext : Cond.selects (mY mX10_resetContext).cls (mY mX10_resetContext) (mY mX10_resetContext) ∈ vm_G := vm_inG (i := 658) (by decide +kernel) rfl
theorem iX10_setAccommodation : Cond.instanceMethod yX10_setAccommodation ∈ vm_G := vm_inG (i := 661) (by decide +kernel) rfl
theorem sX10_setAccommodation : Cond.selects (mY mX10_setAccommodation).cls (mY mX10_setAccommodation) (mY mX10_setAccommodation) ∈ vm_G := vm_inG (i := 662) (by decide +kernel) rfl
theorem iX10_accept : Cond.instanceMethod yX10_accept ∈ vm_G := vm_inG (i := 665) (by decide +kernel) rfl
theorem sX10_accept : Cond.selects (mY mX10_accept).cls (mY mX10_accept) (mY mX10_accept) ∈ vm_G := vm_inG (i := 666) (by decide +kernel) rfl
theorem iX10_tryAccepting : Cond.instanceMethod yX10_tryAccepting ∈ vm_G := vm_inG (i := 670) (by decide +kernel) rfl
theorem iX0_succeeds : Cond.instanceMethod yX0_succeeds ∈ vm_G := vm_inG (i := 673) (by decide +kernel) rfl
theorem sX0_succeeds : Cond.selects (mY mX0_succeeds).cls (mY mX0_succeeds) (mY mX0_succeeds) ∈ vm_G := vm_inG (i := 674) (by decide +kernel) rfl
theorem iX4_findSupporting : Cond.instanceMethod yX4_findSupporting ∈ vm_G := vm_inG (i := 678) (by decide +kernel) rfl
theorem sX4_findSupporting : Cond.selects (mY mX4_findSupporting).cls (mY mX4_findSupporting) (mY mX4_findSupporting) ∈ vm_G := vm_inG (i := 679) (by decide +kernel) rfl
theorem iX4_turn : Cond.instanceMethod yX4_turn ∈ vm_G := vm_inG (i := 684) (by decide +kernel) rfl
theorem sX4_turn : Cond.selects (mY mX4_turn).cls (mY mX4_turn) (mY mX4_turn) ∈ vm_G := vm_inG (i := 685) (by decide +kernel) rfl
theorem iX4_turnByChain : Cond.instanceMethod yX4_turnByChain ∈ vm_G := vm_inG (i := 689) (by decide +kernel) rfl
theorem iX4_turnBySome : Cond.instanceMethod yX4_turnBySome ∈ vm_G := vm_inG (i := 693) (by decide +kernel) rfl
theorem iX1_vary : Cond.instanceMethod yX1_vary ∈ vm_G := vm_inG (i := 697) (by decide +kernel) rfl
theorem sX1_vary : Cond.selects (mY mX1_vary).cls (mY mX1_vary) (mY mX1_vary) ∈ vm_G := vm_inG (i := 698) (by decide +kernel) rfl
theorem iX1_varyWords : Cond.instanceMethod yX1_varyWords ∈ vm_G := vm_inG (i := 702) (by decide +kernel) rfl
theorem tX1_varied : Cond.static yX1_varied ∈ vm_G := vm_inG (i := 705) (by decide +kernel) rfl
theorem iX1_remove : Cond.instanceMethod yX1_remove ∈ vm_G := vm_inG (i := 709) (by decide +kernel) rfl
theorem sX1_remove : Cond.selects (mY mX1_remove).cls (mY mX1_remove) (mY mX1_remove) ∈ vm_G := vm_inG (i := 710) (by decide +kernel) rfl
theorem iX4_keepByChoice : Cond.instanceMethod yX4_keepByChoice ∈ vm_G := vm_inG (i := 714) (by decide +kernel) rfl
theorem iX1_unite : Cond.instanceMethod yX1_unite ∈ vm_G := vm_inG (i := 717) (by decide +kernel) rfl
theorem sX1_unite : Cond.selects (mY mX1_unite).cls (mY mX1_unite) (mY mX1_unite) ∈ vm_G := vm_inG (i := 718) (by decide +kernel) rfl
theorem iX1_keep : Cond.instanceMethod yX1_keep ∈ vm_G := vm_inG (i := 721) (by decide +kernel) rfl
theorem sX1_keep : Cond.selects (mY mX1_keep).cls (mY mX1_keep) (mY mX1_keep) ∈ vm_G := vm_inG (i := 722) (by decide +kernel) rfl
theorem iX4_keepByCondition : Cond.instanceMethod yX4_keepByCondition ∈ vm_G := vm_inG (i := 726) (by decide +kernel) rfl
theorem iX1_complement : Cond.instanceMethod yX1_complement ∈ vm_G := vm_inG (i := 729) (by decide +kernel) rfl
theorem sX1_complement : Cond.selects (mY mX1_complement).cls (mY mX1_complement) (mY mX1_complement) ∈ vm_G := vm_inG (i := 730) (by decide +kernel) rfl
theorem iX4_keepByOne : Cond.instanceMethod yX4_keepByOne ∈ vm_G := vm_inG (i := 734) (by decide +kernel) rfl
theorem iX4_holds : Cond.instanceMethod yX4_holds ∈ vm_G := vm_inG (i := 738) (by decide +kernel) rfl
theorem tJ6_bitCount_0f7a4 : Cond.static yJ6_bitCount_0f7a4 ∈ vm_G := vm_inG (i := 743) (by decide +kernel) rfl
theorem iX1_keepValues : Cond.instanceMethod yX1_keepValues ∈ vm_G := vm_inG (i := 749) (by decide +kernel) rfl
theorem sX1_keepValues : Cond.selects (mY mX1_keepValues).cls (mY mX1_keepValues) (mY mX1_keepValues) ∈ vm_G := vm_inG (i := 750) (by decide +kernel) rfl
theorem iX4_keepByTwo : Cond.instanceMethod yX4_keepByTwo ∈ vm_G := vm_inG (i := 754) (by decide +kernel) rfl
theorem iX1_keepPartners : Cond.instanceMethod yX1_keepPartners ∈ vm_G := vm_inG (i := 757) (by decide +kernel) rfl
theorem sX1_keepPartners : Cond.selects (mY mX1_keepPartners).cls (mY mX1_keepPartners) (mY mX1_keepPartners) ∈ vm_G := vm_inG (i := 758) (by decide +kernel) rfl
theorem iX1_isWithin : Cond.instanceMethod yX1_isWithin ∈ vm_G := vm_inG (i := 761) (by decide +kernel) rfl
theorem sX1_isWithin : Cond.selects (mY mX1_isWithin).cls (mY mX1_isWithin) (mY mX1_isWithin) ∈ vm_G := vm_inG (i := 762) (by decide +kernel) rfl
theorem iX1_isEmpty : Cond.instanceMethod yX1_isEmpty ∈ vm_G := vm_inG (i := 766) (by decide +kernel) rfl
theorem sX1_isEmpty : Cond.selects (mY mX1_isEmpty).cls (mY mX1_isEmpty) (mY mX1_isEmpty) ∈ vm_G := vm_inG (i := 767) (by decide +kernel) rfl
theorem iX10_acceptable : Cond.instanceMethod yX10_acceptable ∈ vm_G := vm_inG (i := 772) (by decide +kernel) rfl
theorem sX10_acceptable : Cond.selects (mY mX10_acceptable).cls (mY mX10_acceptable) (mY mX10_acceptable) ∈ vm_G := vm_inG (i := 773) (by decide +kernel) rfl
theorem iX10_failingAt : Cond.instanceMethod yX10_failingAt ∈ vm_G := vm_inG (i := 776) (by decide +kernel) rfl
theorem sX10_failingAt : Cond.selects (mY mX10_failingAt).cls (mY mX10_failingAt) (mY mX10_failingAt) ∈ vm_G := vm_inG (i := 777) (by decide +kernel) rfl
theorem iX10_accommodated : Cond.instanceMethod yX10_accommodated ∈ vm_G := vm_inG (i := 780) (by decide +kernel) rfl
theorem sX10_accommodated : Cond.selects (mY mX10_accommodated).cls (mY mX10_accommodated) (mY mX10_accommodated) ∈ vm_G := vm_inG (i := 781) (by decide +kernel) rfl
theorem iX10_accommodatedPart : Cond.instanceMethod yX10_accommodatedPart ∈ vm_G := vm_inG (i := 785) (by decide +kernel) rfl
theorem sX10_accommodatedPart : Cond.selects (mY mX10_accommodatedPart).cls (mY mX10_accommodatedPart) (mY mX10_accommodatedPart) ∈ vm_G := vm_inG (i := 786) (by decide +kernel) rfl
theorem iX10_sizeBehind : Cond.instanceMethod yX10_sizeBehind ∈ vm_G := vm_inG (i := 789) (by decide +kernel) rfl
theorem sX10_sizeBehind : Cond.selects (mY mX10_sizeBehind).cls (mY mX10_sizeBehind) (mY mX10_sizeBehind) ∈ vm_G := vm_inG (i := 790) (by decide +kernel) rfl
theorem iX10_supports : Cond.instanceMethod yX10_supports ∈ vm_G := vm_inG (i := 794) (by decide +kernel) rfl
theorem sX10_supports : Cond.selects (mY mX10_supports).cls (mY mX10_supports) (mY mX10_supports) ∈ vm_G := vm_inG (i := 795) (by decide +kernel) rfl
theorem iX10_worldsTrue : Cond.instanceMethod yX10_worldsTrue ∈ vm_G := vm_inG (i := 800) (by decide +kernel) rfl
theorem sX10_worldsTrue : Cond.selects (mY mX10_worldsTrue).cls (mY mX10_worldsTrue) (mY mX10_worldsTrue) ∈ vm_G := vm_inG (i := 801) (by decide +kernel) rfl
theorem iX10_isTrueInOtherWorld : Cond.instanceMethod yX10_isTrueInOtherWorld ∈ vm_G := vm_inG (i := 806) (by decide +kernel) rfl
theorem iX10_historySize : Cond.instanceMethod yX10_historySize ∈ vm_G := vm_inG (i := 811) (by decide +kernel) rfl
theorem sX10_historySize : Cond.selects (mY mX10_historySize).cls (mY mX10_historySize) (mY mX10_historySize) ∈ vm_G := vm_inG (i := 812) (by decide +kernel) rfl
theorem iX10_undo : Cond.instanceMethod yX10_undo ∈ vm_G := vm_inG (i := 815) (by decide +kernel) rfl
theorem sX10_undo : Cond.selects (mY mX10_undo).cls (mY mX10_undo) (mY mX10_undo) ∈ vm_G := vm_inG (i := 816) (by decide +kernel) rfl
theorem iX2_restore : Cond.instanceMethod yX2_restore ∈ vm_G := vm_inG (i := 819) (by decide +kernel) rfl
theorem sX2_restore : Cond.selects (mY mX2_restore).cls (mY mX2_restore) (mY mX2_restore) ∈ vm_G := vm_inG (i := 820) (by decide +kernel) rfl
theorem iX11_init : Cond.instanceMethod yX11_init ∈ vm_G := vm_inG (i := 825) (by decide +kernel) rfl
theorem iX11_setIndividuals : Cond.instanceMethod yX11_setIndividuals ∈ vm_G := vm_inG (i := 918) (by decide +kernel) rfl
theorem sX11_setIndividuals : Cond.selects (mY mX11_setIndividuals).cls (mY mX11_setIndividuals) (mY mX11_setIndividuals) ∈ vm_G := vm_inG (i := 919) (by decide +kernel) rfl
theorem tX11_in : Cond.static yX11_in ∈ vm_G := vm_inG (i := 922) (by decide +kernel) rfl
theorem iX11_acts : Cond.instanceMethod yX11_acts ∈ vm_G := vm_inG (i := 926) (by decide +kernel) rfl
theorem iX11_first : Cond.instanceMethod yX11_first ∈ vm_G := vm_inG (i := 930) (by decide +kernel) rfl
theorem iX11_setPredicate : Cond.instanceMethod yX11_setPredicate ∈ vm_G := vm_inG (i := 933) (by decide +kernel) rfl
theorem sX11_setPredicate : Cond.selects (mY mX11_setPredicate).cls (mY mX11_setPredicate) (mY mX11_setPredicate) ∈ vm_G := vm_inG (i := 934) (by decide +kernel) rfl
theorem iX11_full : Cond.instanceMethod yX11_full ∈ vm_G := vm_inG (i := 938) (by decide +kernel) rfl
theorem iX11_setPair : Cond.instanceMethod yX11_setPair ∈ vm_G := vm_inG (i := 941) (by decide +kernel) rfl
theorem sX11_setPair : Cond.selects (mY mX11_setPair).cls (mY mX11_setPair) (mY mX11_setPair) ∈ vm_G := vm_inG (i := 942) (by decide +kernel) rfl
theorem iX11_individuals : Cond.instanceMethod yX11_individuals ∈ vm_G := vm_inG (i := 945) (by decide +kernel) rfl
theorem sX11_individuals : Cond.selects (mY mX11_individuals).cls (mY mX11_individuals) (mY mX11_individuals) ∈ vm_G := vm_inG (i := 946) (by decide +kernel) rfl
theorem iX11_predicate : Cond.instanceMethod yX11_predicate ∈ vm_G := vm_inG (i := 949) (by decide +kernel) rfl
theorem sX11_predicate : Cond.selects (mY mX11_predicate).cls (mY mX11_predicate) (mY mX11_predicate) ∈ vm_G := vm_inG (i := 950) (by decide +kernel) rfl
theorem iX11_relationHolds : Cond.instanceMethod yX11_relationHolds ∈ vm_G := vm_inG (i := 953) (by decide +kernel) rfl
theorem sX11_relationHolds : Cond.selects (mY mX11_relationHolds).cls (mY mX11_relationHolds) (mY mX11_relationHolds) ∈ vm_G := vm_inG (i := 954) (by decide +kernel) rfl
theorem iX11_isObject : Cond.instanceMethod yX11_isObject ∈ vm_G := vm_inG (i := 958) (by decide +kernel) rfl
theorem iX11_holds : Cond.instanceMethod yX11_holds ∈ vm_G := vm_inG (i := 962) (by decide +kernel) rfl
theorem iX11_type : Cond.instanceMethod yX11_type ∈ vm_G := vm_inG (i := 965) (by decide +kernel) rfl
theorem sX11_type : Cond.selects (mY mX11_type).cls (mY mX11_type) (mY mX11_type) ∈ vm_G := vm_inG (i := 966) (by decide +kernel) rfl
theorem iX11_clearText : Cond.instanceMethod yX11_clearText ∈ vm_G := vm_inG (i := 969) (by decide +kernel) rfl
theorem sX11_clearText : Cond.selects (mY mX11_clearText).cls (mY mX11_clearText) (mY mX11_clearText) ∈ vm_G := vm_inG (i := 970) (by decide +kernel) rfl
theorem iX11_syntaxFault : Cond.instanceMethod yX11_syntaxFault ∈ vm_G := vm_inG (i := 973) (by decide +kernel) rfl
theorem sX11_syntaxFault : Cond.selects (mY mX11_syntaxFault).cls (mY mX11_syntaxFault) (mY mX11_syntaxFault) ∈ vm_G := vm_inG (i := 974) (by decide +kernel) rfl
theorem iX11_reads : Cond.instanceMethod yX11_reads ∈ vm_G := vm_inG (i := 978) (by decide +kernel) rfl
theorem iX11_next : Cond.instanceMethod yX11_next ∈ vm_G := vm_inG (i := 982) (by decide +kernel) rfl
theorem iX11_opens : Cond.instanceMethod yX11_opens ∈ vm_G := vm_inG (i := 986) (by decide +kernel) rfl
theorem iX11_readsFormula : Cond.instanceMethod yX11_readsFormula ∈ vm_G := vm_inG (i := 990) (by decide +kernel) rfl
theorem iX11_readsUnit : Cond.instanceMethod yX11_readsUnit ∈ vm_G := vm_inG (i := 994) (by decide +kernel) rfl
theorem iX11_variable : Cond.instanceMethod yX11_variable ∈ vm_G := vm_inG (i := 998) (by decide +kernel) rfl
theorem iX11_finds : Cond.instanceMethod yX11_finds ∈ vm_G := vm_inG (i := 1002) (by decide +kernel) rfl
theorem iX11_pushes : Cond.instanceMethod yX11_pushes ∈ vm_G := vm_inG (i := 1006) (by decide +kernel) rfl
theorem iX11_tests : Cond.instanceMethod yX11_tests ∈ vm_G := vm_inG (i := 1010) (by decide +kernel) rfl
theorem tX11_of : Cond.static yX11_of ∈ vm_G := vm_inG (i := 1013) (by decide +kernel) rfl
theorem iX11_isSo : Cond.instanceMethod yX11_isSo ∈ vm_G := vm_inG (i := 1017) (by decide +kernel) rfl
theorem tX11_ones : Cond.static yX11_ones ∈ vm_G := vm_inG (i := 1020) (by decide +kernel) rfl
theorem iX11_pushesTest : Cond.instanceMethod yX11_pushesTest ∈ vm_G := vm_inG (i := 1024) (by decide +kernel) rfl
theorem iX11_endsUnit : Cond.instanceMethod yX11_endsUnit ∈ vm_G := vm_inG (i := 1028) (by decide +kernel) rfl
theorem iX11_hasResults : Cond.instanceMethod yX11_hasResults ∈ vm_G := vm_inG (i := 1032) (by decide +kernel) rfl
theorem iX11_leads : Cond.instanceMethod yX11_leads ∈ vm_G := vm_inG (i := 1036) (by decide +kernel) rfl
theorem iX11_endsRow : Cond.instanceMethod yX11_endsRow ∈ vm_G := vm_inG (i := 1040) (by decide +kernel) rfl
theorem iX11_endsChoice : Cond.instanceMethod yX11_endsChoice ∈ vm_G := vm_inG (i := 1044) (by decide +kernel) rfl
theorem iX11_under : Cond.instanceMethod yX11_under ∈ vm_G := vm_inG (i := 1048) (by decide +kernel) rfl
theorem iX11_endsFormula : Cond.instanceMethod yX11_endsFormula ∈ vm_G := vm_inG (i := 1052) (by decide +kernel) rfl
theorem iX11_takes : Cond.instanceMethod yX11_takes ∈ vm_G := vm_inG (i := 1056) (by decide +kernel) rfl
theorem iX11_isSupported : Cond.instanceMethod yX11_isSupported ∈ vm_G := vm_inG (i := 1060) (by decide +kernel) rfl
theorem iX11_turns : Cond.instanceMethod yX11_turns ∈ vm_G := vm_inG (i := 1064) (by decide +kernel) rfl
theorem iX11_inContext : Cond.instanceMethod yX11_inContext ∈ vm_G := vm_inG (i := 1068) (by decide +kernel) rfl
theorem iX11_unknownVariable : Cond.instanceMethod yX11_unknownVariable ∈ vm_G := vm_inG (i := 1071) (by decide +kernel) rfl
theorem sX11_unknownVariable : Cond.selects (mY mX11_unknownVariable).cls (mY mX11_unknownVariable) (mY mX11_unknownVariable) ∈ vm_G := vm_inG (i := 1072) (by decide +kernel) rfl
theorem iX11_unknownDepth : Cond.instanceMethod yX11_unknownDepth ∈ vm_G := vm_inG (i := 1075) (by decide +kernel) rfl
theorem sX11_unknownDepth : Cond.selects (mY mX11_unknownDepth).cls (mY mX11_unknownDepth) (mY mX11_unknownDepth) ∈ vm_G := vm_inG (i := 1076) (by decide +kernel) rfl
theorem iX11_partCount : Cond.instanceMethod yX11_partCount ∈ vm_G := vm_inG (i := 1079) (by decide +kernel) rfl
theorem sX11_partCount : Cond.selects (mY mX11_partCount).cls (mY mX11_partCount) (mY mX11_partCount) ∈ vm_G := vm_inG (i := 1080) (by decide +kernel) rfl
theorem iX11_contextSize : Cond.instanceMethod yX11_contextSize ∈ vm_G := vm_inG (i := 1083) (by decide +kernel) rfl
theorem sX11_contextSize : Cond.selects (mY mX11_contextSize).cls (mY mX11_contextSize) (mY mX11_contextSize) ∈ vm_G := vm_inG (i := 1084) (by decide +kernel) rfl
theorem iX11_size : Cond.instanceMethod yX11_size ∈ vm_G := vm_inG (i := 1088) (by decide +kernel) rfl
theorem iX11_isThere : Cond.instanceMethod yX11_isThere ∈ vm_G := vm_inG (i := 1092) (by decide +kernel) rfl
theorem iX11_known : Cond.instanceMethod yX11_known ∈ vm_G := vm_inG (i := 1095) (by decide +kernel) rfl
theorem sX11_known : Cond.selects (mY mX11_known).cls (mY mX11_known) (mY mX11_known) ∈ vm_G := vm_inG (i := 1096) (by decide +kernel) rfl
theorem iX11_objects : Cond.instanceMethod yX11_objects ∈ vm_G := vm_inG (i := 1099) (by decide +kernel) rfl
theorem sX11_objects : Cond.selects (mY mX11_objects).cls (mY mX11_objects) (mY mX11_objects) ∈ vm_G := vm_inG (i := 1100) (by decide +kernel) rfl
theorem iX11_isKnown : Cond.instanceMethod yX11_isKnown ∈ vm_G := vm_inG (i := 1104) (by decide +kernel) rfl
theorem iX11_together : Cond.instanceMethod yX11_together ∈ vm_G := vm_inG (i := 1107) (by decide +kernel) rfl
theorem sX11_together : Cond.selects (mY mX11_together).cls (mY mX11_together) (mY mX11_together) ∈ vm_G := vm_inG (i := 1108) (by decide +kernel) rfl
theorem iX11_resetContext : Cond.instanceMethod yX11_resetContext ∈ vm_G := vm_inG (i := 1111) (by decide +kernel) rfl
theorem sX11_resetContext : Cond.selects (mY mX11_resetContext).cls (mY mX11_resetContext) (mY mX11_resetContext) ∈ vm_G := vm_inG (i := 1112) (by decide +kernel) rfl
theorem iX11_setAccommodation : Cond.instanceMethod yX11_setAccommodation ∈ vm_G := vm_inG (i := 1115) (by decide +kernel) rfl
theorem sX11_setAccommodation : Cond.selects (mY mX11_setAccommodation).cls (mY mX11_setAccommodation) (mY mX11_setAccommodation) ∈ vm_G := vm_inG (i := 1116) (by decide +kernel) rfl
theorem iX11_accept : Cond.instanceMethod yX11_accept ∈ vm_G := vm_inG (i := 1119) (by decide +kernel) rfl
theorem sX11_accept : Cond.selects (mY mX11_accept).cls (mY mX11_accept) (mY mX11_accept) ∈ vm_G := vm_inG (i := 1120) (by decide +kernel) rfl
theorem iX11_tries : Cond.instanceMethod yX11_tries ∈ vm_G := vm_inG (i := 1124) (by decide +kernel) rfl
theorem iX11_error : Cond.instanceMethod yX11_error ∈ vm_G := vm_inG (i := 1128) (by decide +kernel) rfl
theorem iX11_takesContext : Cond.instanceMethod yX11_takesContext ∈ vm_G := vm_inG (i := 1132) (by decide +kernel) rfl
theorem iX11_acceptable : Cond.instanceMethod yX11_acceptable ∈ vm_G := vm_inG (i := 1135) (by decide +kernel) rfl
theorem sX11_acceptable : Cond.selects (mY mX11_acceptable).cls (mY mX11_acceptable) (mY mX11_acceptable) ∈ vm_G := vm_inG (i := 1136) (by decide +kernel) rfl
theorem iX11_failingAt : Cond.instanceMethod yX11_failingAt ∈ vm_G := vm_inG (i := 1139) (by decide +kernel) rfl
theorem sX11_failingAt : Cond.selects (mY mX11_failingAt).cls (mY mX11_failingAt) (mY mX11_failingAt) ∈ vm_G := vm_inG (i := 1140) (by decide +kernel) rfl
theorem iX11_accommodated : Cond.instanceMethod yX11_accommodated ∈ vm_G := vm_inG (i := 1143) (by decide +kernel) rfl
theorem sX11_accommodated : Cond.selects (mY mX11_accommodated).cls (mY mX11_accommodated) (mY mX11_accommodated) ∈ vm_G := vm_inG (i := 1144) (by decide +kernel) rfl
theorem iX11_accommodatedPart : Cond.instanceMethod yX11_accommodatedPart ∈ vm_G := vm_inG (i := 1147) (by decide +kernel) rfl
theorem sX11_accommodatedPart : Cond.selects (mY mX11_accommodatedPart).cls (mY mX11_accommodatedPart) (mY mX11_accommodatedPart) ∈ vm_G := vm_inG (i := 1148) (by decide +kernel) rfl
theorem iX11_sizeBehind : Cond.instanceMethod yX11_sizeBehind ∈ vm_G := vm_inG (i := 1151) (by decide +kernel) rfl
theorem sX11_sizeBehind : Cond.selects (mY mX11_sizeBehind).cls (mY mX11_sizeBehind) (mY mX11_sizeBehind) ∈ vm_G := vm_inG (i := 1152) (by decide +kernel) rfl
theorem iX11_supports : Cond.instanceMethod yX11_supports ∈ vm_G := vm_inG (i := 1155) (by decide +kernel) rfl
theorem sX11_supports : Cond.selects (mY mX11_supports).cls (mY mX11_supports) (mY mX11_supports) ∈ vm_G := vm_inG (i := 1156) (by decide +kernel) rfl
theorem iX11_isAllSupported : Cond.instanceMethod yX11_isAllSupported ∈ vm_G := vm_inG (i := 1160) (by decide +kernel) rfl
theorem iX11_worldsTrue : Cond.instanceMethod yX11_worldsTrue ∈ vm_G := vm_inG (i := 1163) (by decide +kernel) rfl
theorem sX11_worldsTrue : Cond.selects (mY mX11_worldsTrue).cls (mY mX11_worldsTrue) (mY mX11_worldsTrue) ∈ vm_G := vm_inG (i := 1164) (by decide +kernel) rfl
theorem iX11_historySize : Cond.instanceMethod yX11_historySize ∈ vm_G := vm_inG (i := 1167) (by decide +kernel) rfl
theorem sX11_historySize : Cond.selects (mY mX11_historySize).cls (mY mX11_historySize) (mY mX11_historySize) ∈ vm_G := vm_inG (i := 1168) (by decide +kernel) rfl
theorem iX11_undo : Cond.instanceMethod yX11_undo ∈ vm_G := vm_inG (i := 1171) (by decide +kernel) rfl
theorem sX11_undo : Cond.selects (mY mX11_undo).cls (mY mX11_undo) (mY mX11_undo) ∈ vm_G := vm_inG (i := 1172) (by decide +kernel) rfl
theorem sX10_isIndividual : Cond.selects (mY mX10_isIndividual).cls (mY mX10_isIndividual) (mY mX10_isIndividual) ∈ vm_G := vm_inG (i := 0) (by decide +kernel) rfl
theorem sX10_isObject : Cond.selects (mY mX10_isObject).cls (mY mX10_isObject) (mY mX10_isObject) ∈ vm_G := vm_inG (i := 1) (by decide +kernel) rfl
theorem sX6_part : Cond.selects (mY mX6_part).cls (mY mX6_part) (mY mX6_part) ∈ vm_G := vm_inG (i := 2) (by decide +kernel) rfl
theorem sX6_skip : Cond.selects (mY mX6_skip).cls (mY mX6_skip) (mY mX6_skip) ∈ vm_G := vm_inG (i := 3) (by decide +kernel) rfl
theorem sX6_formula : Cond.selects (mY mX6_formula).cls (mY mX6_formula) (mY mX6_formula) ∈ vm_G := vm_inG (i := 4) (by decide +kernel) rfl
theorem sX6_choice : Cond.selects (mY mX6_choice).cls (mY mX6_choice) (mY mX6_choice) ∈ vm_G := vm_inG (i := 5) (by decide +kernel) rfl
theorem sX6_row : Cond.selects (mY mX6_row).cls (mY mX6_row) (mY mX6_row) ∈ vm_G := vm_inG (i := 6) (by decide +kernel) rfl
theorem sX6_unit : Cond.selects (mY mX6_unit).cls (mY mX6_unit) (mY mX6_unit) ∈ vm_G := vm_inG (i := 7) (by decide +kernel) rfl
theorem sX6_negation : Cond.selects (mY mX6_negation).cls (mY mX6_negation) (mY mX6_negation) ∈ vm_G := vm_inG (i := 8) (by decide +kernel) rfl
theorem sX6_openSign : Cond.selects (mY mX6_openSign).cls (mY mX6_openSign) (mY mX6_openSign) ∈ vm_G := vm_inG (i := 9) (by decide +kernel) rfl
theorem sX6_holding : Cond.selects (mY mX6_holding).cls (mY mX6_holding) (mY mX6_holding) ∈ vm_G := vm_inG (i := 10) (by decide +kernel) rfl
theorem sX6_taken : Cond.selects (mY mX6_taken).cls (mY mX6_taken) (mY mX6_taken) ∈ vm_G := vm_inG (i := 11) (by decide +kernel) rfl
theorem sX6_joined : Cond.selects (mY mX6_joined).cls (mY mX6_joined) (mY mX6_joined) ∈ vm_G := vm_inG (i := 12) (by decide +kernel) rfl
theorem sX6_group : Cond.selects (mY mX6_group).cls (mY mX6_group) (mY mX6_group) ∈ vm_G := vm_inG (i := 13) (by decide +kernel) rfl
theorem sX6_aboutOne : Cond.selects (mY mX6_aboutOne).cls (mY mX6_aboutOne) (mY mX6_aboutOne) ∈ vm_G := vm_inG (i := 14) (by decide +kernel) rfl
theorem sX6_skipVariable : Cond.selects (mY mX6_skipVariable).cls (mY mX6_skipVariable) (mY mX6_skipVariable) ∈ vm_G := vm_inG (i := 15) (by decide +kernel) rfl
theorem sX6_simple : Cond.selects (mY mX6_simple).cls (mY mX6_simple) (mY mX6_simple) ∈ vm_G := vm_inG (i := 16) (by decide +kernel) rfl
theorem sX6_aboutTwo : Cond.selects (mY mX6_aboutTwo).cls (mY mX6_aboutTwo) (mY mX6_aboutTwo) ∈ vm_G := vm_inG (i := 17) (by decide +kernel) rfl
theorem sX6_count : Cond.selects (mY mX6_count).cls (mY mX6_count) (mY mX6_count) ∈ vm_G := vm_inG (i := 18) (by decide +kernel) rfl
theorem sX6_comparison : Cond.selects (mY mX6_comparison).cls (mY mX6_comparison) (mY mX6_comparison) ∈ vm_G := vm_inG (i := 19) (by decide +kernel) rfl
theorem sX3_readOver : Cond.selects (mY mX3_readOver).cls (mY mX3_readOver) (mY mX3_readOver) ∈ vm_G := vm_inG (i := 20) (by decide +kernel) rfl
theorem sX3_readChain : Cond.selects (mY mX3_readChain).cls (mY mX3_readChain) (mY mX3_readChain) ∈ vm_G := vm_inG (i := 21) (by decide +kernel) rfl
theorem sX3_readEach : Cond.selects (mY mX3_readEach).cls (mY mX3_readEach) (mY mX3_readEach) ∈ vm_G := vm_inG (i := 22) (by decide +kernel) rfl
theorem sX3_look : Cond.selects (mY mX3_look).cls (mY mX3_look) (mY mX3_look) ∈ vm_G := vm_inG (i := 23) (by decide +kernel) rfl
theorem sX10_tryAccepting : Cond.selects (mY mX10_tryAccepting).cls (mY mX10_tryAccepting) (mY mX10_tryAccepting) ∈ vm_G := vm_inG (i := 24) (by decide +kernel) rfl
theorem sX4_turnByChain : Cond.selects (mY mX4_turnByChain).cls (mY mX4_turnByChain) (mY mX4_turnByChain) ∈ vm_G := vm_inG (i := 25) (by decide +kernel) rfl
theorem sX4_turnBySome : Cond.selects (mY mX4_turnBySome).cls (mY mX4_turnBySome) (mY mX4_turnBySome) ∈ vm_G := vm_inG (i := 26) (by decide +kernel) rfl
theorem sX1_varyWords : Cond.selects (mY mX1_varyWords).cls (mY mX1_varyWords) (mY mX1_varyWords) ∈ vm_G := vm_inG (i := 27) (by decide +kernel) rfl
theorem sX4_keepByChoice : Cond.selects (mY mX4_keepByChoice).cls (mY mX4_keepByChoice) (mY mX4_keepByChoice) ∈ vm_G := vm_inG (i := 28) (by decide +kernel) rfl
theorem sX4_keepByCondition : Cond.selects (mY mX4_keepByCondition).cls (mY mX4_keepByCondition) (mY mX4_keepByCondition) ∈ vm_G := vm_inG (i := 29) (by decide +kernel) rfl
theorem sX4_keepByOne : Cond.selects (mY mX4_keepByOne).cls (mY mX4_keepByOne) (mY mX4_keepByOne) ∈ vm_G := vm_inG (i := 30) (by decide +kernel) rfl
theorem sX4_holds : Cond.selects (mY mX4_holds).cls (mY mX4_holds) (mY mX4_holds) ∈ vm_G := vm_inG (i := 31) (by decide +kernel) rfl
theorem sX4_keepByTwo : Cond.selects (mY mX4_keepByTwo).cls (mY mX4_keepByTwo) (mY mX4_keepByTwo) ∈ vm_G := vm_inG (i := 32) (by decide +kernel) rfl
theorem sX10_isTrueInOtherWorld : Cond.selects (mY mX10_isTrueInOtherWorld).cls (mY mX10_isTrueInOtherWorld) (mY mX10_isTrueInOtherWorld) ∈ vm_G := vm_inG (i := 33) (by decide +kernel) rfl
theorem sX11_acts : Cond.selects (mY mX11_acts).cls (mY mX11_acts) (mY mX11_acts) ∈ vm_G := vm_inG (i := 34) (by decide +kernel) rfl
theorem sX11_first : Cond.selects (mY mX11_first).cls (mY mX11_first) (mY mX11_first) ∈ vm_G := vm_inG (i := 35) (by decide +kernel) rfl
theorem sX11_full : Cond.selects (mY mX11_full).cls (mY mX11_full) (mY mX11_full) ∈ vm_G := vm_inG (i := 36) (by decide +kernel) rfl
theorem sX11_isObject : Cond.selects (mY mX11_isObject).cls (mY mX11_isObject) (mY mX11_isObject) ∈ vm_G := vm_inG (i := 37) (by decide +kernel) rfl
theorem sX11_holds : Cond.selects (mY mX11_holds).cls (mY mX11_holds) (mY mX11_holds) ∈ vm_G := vm_inG (i := 38) (by decide +kernel) rfl
theorem sX11_reads : Cond.selects (mY mX11_reads).cls (mY mX11_reads) (mY mX11_reads) ∈ vm_G := vm_inG (i := 39) (by decide +kernel) rfl
theorem sX11_next : Cond.selects (mY mX11_next).cls (mY mX11_next) (mY mX11_next) ∈ vm_G := vm_inG (i := 40) (by decide +kernel) rfl
theorem sX11_opens : Cond.selects (mY mX11_opens).cls (mY mX11_opens) (mY mX11_opens) ∈ vm_G := vm_inG (i := 41) (by decide +kernel) rfl
theorem sX11_readsFormula : Cond.selects (mY mX11_readsFormula).cls (mY mX11_readsFormula) (mY mX11_readsFormula) ∈ vm_G := vm_inG (i := 42) (by decide +kernel) rfl
theorem sX11_readsUnit : Cond.selects (mY mX11_readsUnit).cls (mY mX11_readsUnit) (mY mX11_readsUnit) ∈ vm_G := vm_inG (i := 43) (by decide +kernel) rfl
theorem sX11_variable : Cond.selects (mY mX11_variable).cls (mY mX11_variable) (mY mX11_variable) ∈ vm_G := vm_inG (i := 44) (by decide +kernel) rfl
theorem sX11_finds : Cond.selects (mY mX11_finds).cls (mY mX11_finds) (mY mX11_finds) ∈ vm_G := vm_inG (i := 45) (by decide +kernel) rfl
theorem sX11_pushes : Cond.selects (mY mX11_pushes).cls (mY mX11_pushes) (mY mX11_pushes) ∈ vm_G := vm_inG (i := 46) (by decide +kernel) rfl
theorem sX11_tests : Cond.selects (mY mX11_tests).cls (mY mX11_tests) (mY mX11_tests) ∈ vm_G := vm_inG (i := 47) (by decide +kernel) rfl
theorem sX11_isSo : Cond.selects (mY mX11_isSo).cls (mY mX11_isSo) (mY mX11_isSo) ∈ vm_G := vm_inG (i := 48) (by decide +kernel) rfl
theorem sX11_pushesTest : Cond.selects (mY mX11_pushesTest).cls (mY mX11_pushesTest) (mY mX11_pushesTest) ∈ vm_G := vm_inG (i := 49) (by decide +kernel) rfl
theorem sX11_endsUnit : Cond.selects (mY mX11_endsUnit).cls (mY mX11_endsUnit) (mY mX11_endsUnit) ∈ vm_G := vm_inG (i := 50) (by decide +kernel) rfl
theorem sX11_hasResults : Cond.selects (mY mX11_hasResults).cls (mY mX11_hasResults) (mY mX11_hasResults) ∈ vm_G := vm_inG (i := 51) (by decide +kernel) rfl
theorem sX11_leads : Cond.selects (mY mX11_leads).cls (mY mX11_leads) (mY mX11_leads) ∈ vm_G := vm_inG (i := 52) (by decide +kernel) rfl
theorem sX11_endsRow : Cond.selects (mY mX11_endsRow).cls (mY mX11_endsRow) (mY mX11_endsRow) ∈ vm_G := vm_inG (i := 53) (by decide +kernel) rfl
theorem sX11_endsChoice : Cond.selects (mY mX11_endsChoice).cls (mY mX11_endsChoice) (mY mX11_endsChoice) ∈ vm_G := vm_inG (i := 54) (by decide +kernel) rfl
theorem sX11_under : Cond.selects (mY mX11_under).cls (mY mX11_under) (mY mX11_under) ∈ vm_G := vm_inG (i := 55) (by decide +kernel) rfl
theorem sX11_endsFormula : Cond.selects (mY mX11_endsFormula).cls (mY mX11_endsFormula) (mY mX11_endsFormula) ∈ vm_G := vm_inG (i := 56) (by decide +kernel) rfl
theorem sX11_takes : Cond.selects (mY mX11_takes).cls (mY mX11_takes) (mY mX11_takes) ∈ vm_G := vm_inG (i := 57) (by decide +kernel) rfl
theorem sX11_isSupported : Cond.selects (mY mX11_isSupported).cls (mY mX11_isSupported) (mY mX11_isSupported) ∈ vm_G := vm_inG (i := 58) (by decide +kernel) rfl
theorem sX11_turns : Cond.selects (mY mX11_turns).cls (mY mX11_turns) (mY mX11_turns) ∈ vm_G := vm_inG (i := 59) (by decide +kernel) rfl
theorem sX11_inContext : Cond.selects (mY mX11_inContext).cls (mY mX11_inContext) (mY mX11_inContext) ∈ vm_G := vm_inG (i := 60) (by decide +kernel) rfl
theorem sX11_size : Cond.selects (mY mX11_size).cls (mY mX11_size) (mY mX11_size) ∈ vm_G := vm_inG (i := 61) (by decide +kernel) rfl
theorem sX11_isThere : Cond.selects (mY mX11_isThere).cls (mY mX11_isThere) (mY mX11_isThere) ∈ vm_G := vm_inG (i := 62) (by decide +kernel) rfl
theorem sX11_isKnown : Cond.selects (mY mX11_isKnown).cls (mY mX11_isKnown) (mY mX11_isKnown) ∈ vm_G := vm_inG (i := 63) (by decide +kernel) rfl
theorem sX11_tries : Cond.selects (mY mX11_tries).cls (mY mX11_tries) (mY mX11_tries) ∈ vm_G := vm_inG (i := 64) (by decide +kernel) rfl
theorem sX11_error : Cond.selects (mY mX11_error).cls (mY mX11_error) (mY mX11_error) ∈ vm_G := vm_inG (i := 65) (by decide +kernel) rfl
theorem sX11_takesContext : Cond.selects (mY mX11_takesContext).cls (mY mX11_takesContext) (mY mX11_takesContext) ∈ vm_G := vm_inG (i := 66) (by decide +kernel) rfl
theorem sX11_isAllSupported : Cond.selects (mY mX11_isAllSupported).cls (mY mX11_isAllSupported) (mY mX11_isAllSupported) ∈ vm_G := vm_inG (i := 67) (by decide +kernel) rfl
theorem wL_7 : Cond.classLink RL 7 RX10 ∈ vm_G := vm_inG (i := 84) (by decide +kernel) rfl
theorem zX10 : Cond.instantiable RX10 10 ∈ vm_G := vm_inG (i := 85) (by decide +kernel) rfl
theorem nL_9 : vm_Lok RL 9 (mY mX10_init) := Or.inl (vm_inG (i := 86) (by decide +kernel) rfl)
theorem oX10_1 : Cond.methodLink RX10 1 Lib.objectInit ∈ vm_G := vm_inG (i := 89) (by decide +kernel) rfl
theorem wX10_7 : Cond.classLink RX10 7 RX7 ∈ vm_G := vm_inG (i := 92) (by decide +kernel) rfl
theorem zX7 : Cond.instantiable RX7 5 ∈ vm_G := vm_inG (i := 93) (by decide +kernel) rfl
theorem nX10_9 : vm_Lok RX10 9 (mY mX7_init) := Or.inl (vm_inG (i := 94) (by decide +kernel) rfl)
theorem oX7_1 : Cond.methodLink RX7 1 Lib.objectInit ∈ vm_G := vm_inG (i := 97) (by decide +kernel) rfl
theorem wX7_7 : Cond.classLink RX7 7 RX9 ∈ vm_G := vm_inG (i := 98) (by decide +kernel) rfl
theorem zX9 : Cond.instantiable RX9 3 ∈ vm_G := vm_inG (i := 99) (by decide +kernel) rfl
theorem nX7_9 : vm_Lok RX7 9 (mY mX9_init) := Or.inr (vm_inN (i := 100) (by decide +kernel) rfl)
theorem oX9_3 : Cond.methodLink RX9 3 Lib.objectInit ∈ vm_G := vm_inG (i := 103) (by decide +kernel) rfl
theorem fX9_9 : vm_Fok RX9 9 9 0 := ⟨_, rfl, by decide +kernel, by decide +kernel, Or.inl (vm_inG (i := 104) (by decide +kernel) rfl)⟩
theorem fX10_84 : vm_Fok RX10 84 9 0 := ⟨_, rfl, by decide +kernel, by decide +kernel, Or.inr (vm_inN (i := 105) (by decide +kernel) rfl)⟩
theorem fX9_15 : vm_Fok RX9 15 9 1 := ⟨_, rfl, by decide +kernel, by decide +kernel, Or.inl (vm_inG (i := 106) (by decide +kernel) rfl)⟩
theorem fX9_15F : ∃ q : vw_C, vCls[9]? = some q ∧ Cond.fieldLink RX9 15 q.1 (q.2.1 1).2.1 (q.2.1 1).2.2.1 ∈ vm_G := ⟨_, rfl, vm_inG (i := 106) (by decide +kernel) rfl⟩
theorem fX9_19 : vm_Fok RX9 19 9 2 := ⟨_, rfl, by decide +kernel, by decide +kernel, Or.inl (vm_inG (i := 107) (by decide +kernel) rfl)⟩
theorem fX9_19F : ∃ q : vw_C, vCls[9]? = some q ∧ Cond.fieldLink RX9 19 q.1 (q.2.1 2).2.1 (q.2.1 2).2.2.1 ∈ vm_G := ⟨_, rfl, vm_inG (i := 107) (by decide +kernel) rfl⟩
theorem wX7_16 : Cond.classLink RX7 16 RX1 ∈ vm_G := vm_inG (i := 116) (by decide +kernel) rfl
theorem zX1 : Cond.instantiable RX1 1 ∈ vm_G := vm_inG (i := 117) (by decide +kernel) rfl
theorem nX7_18 : vm_Lok RX7 18 (mY mX1_init) := Or.inr (vm_inN (i := 118) (by decide +kernel) rfl)
theorem oX1_3 : Cond.methodLink RX1 3 Lib.objectInit ∈ vm_G := vm_inG (i := 121) (by decide +kernel) rfl
theorem fX1_11 : vm_Fok RX1 11 1 0 := ⟨_, rfl, by decide +kernel, by decide +kernel, Or.inl (vm_inG (i := 122) (by decide +kernel) rfl)⟩
theorem fX1_11F : ∃ q : vw_C, vCls[1]? = some q ∧ Cond.fieldLink RX1 11 q.1 (q.2.1 0).2.1 (q.2.1 0).2.2.1 ∈ vm_G := ⟨_, rfl, vm_inG (i := 122) (by decide +kernel) rfl⟩
theorem nX7_23 : vm_Lok RX7 23 (mY mX1_makeFirst) := Or.inl (vm_inG (i := 127) (by decide +kernel) rfl)
theorem nX1_15 : vm_Lok RX1 15 (mY mX1_fill) := Or.inl (vm_inG (i := 131) (by decide +kernel) rfl)
theorem fX7_10 : vm_Fok RX7 10 7 0 := ⟨_, rfl, by decide +kernel, by decide +kernel, Or.inl (vm_inG (i := 135) (by decide +kernel) rfl)⟩
theorem fX7_10F : ∃ q : vw_C, vCls[7]? = some q ∧ Cond.fieldLink RX7 10 q.1 (q.2.1 0).2.1 (q.2.1 0).2.2.1 ∈ vm_G := ⟨_, rfl, vm_inG (i := 135) (by decide +kernel) rfl⟩
theorem fX10_48 : vm_Fok RX10 48 7 0 := ⟨_, rfl, by decide +kernel, by decide +kernel, Or.inr (vm_inN (i := 136) (by decide +kernel) rfl)⟩
theorem fX7_19 : vm_Fok RX7 19 7 1 := ⟨_, rfl, by decide +kernel, by decide +kernel, Or.inl (vm_inG (i := 137) (by decide +kernel) rfl)⟩
theorem fX7_19F : ∃ q : vw_C, vCls[7]? = some q ∧ Cond.fieldLink RX7 19 q.1 (q.2.1 1).2.1 (q.2.1 1).2.2.1 ∈ vm_G := ⟨_, rfl, vm_inG (i := 137) (by decide +kernel) rfl⟩
theorem fX0_25 : vm_Fok RX0 25 7 1 := ⟨_, rfl, by decide +kernel, by decide +kernel, Or.inr (vm_inN (i := 138) (by decide +kernel) rfl)⟩
theorem fX10_174 : vm_Fok RX10 174 7 1 := ⟨_, rfl, by decide +kernel, by decide +kernel, Or.inr (vm_inN (i := 139) (by decide +kernel) rfl)⟩
theorem fX7_26 : vm_Fok RX7 26 7 2 := ⟨_, rfl, by decide +kernel, by decide +kernel, Or.inl (vm_inG (i := 140) (by decide +kernel) rfl)⟩
theorem fX10_152 : vm_Fok RX10 152 7 2 := ⟨_, rfl, by decide +kernel, by decide +kernel, Or.inr (vm_inN (i := 141) (by decide +kernel) rfl)⟩
theorem fX0_63 : vm_Fok RX0 63 7 3 := ⟨_, rfl, by decide +kernel, by decide +kernel, Or.inr (vm_inN (i := 142) (by decide +kernel) rfl)⟩
theorem fX7_37 : vm_Fok RX7 37 7 3 := ⟨_, rfl, by decide +kernel, by decide +kernel, Or.inl (vm_inG (i := 143) (by decide +kernel) rfl)⟩
theorem fX10_193 : vm_Fok RX10 193 7 3 := ⟨_, rfl, by decide +kernel, by decide +kernel, Or.inr (vm_inN (i := 144) (by decide +kernel) rfl)⟩
theorem fX7_41 : vm_Fok RX7 41 7 4 := ⟨_, rfl, by decide +kernel, by decide +kernel, Or.inl (vm_inG (i := 145) (by decide +kernel) rfl)⟩
theorem fX10_213 : vm_Fok RX10 213 7 4 := ⟨_, rfl, by decide +kernel, by decide +kernel, Or.inr (vm_inN (i := 146) (by decide +kernel) rfl)⟩
theorem wX10_16 : Cond.classLink RX10 16 RX2 ∈ vm_G := vm_inG (i := 158) (by decide +kernel) rfl
theorem zX2 : Cond.instantiable RX2 3 ∈ vm_G := vm_inG (i := 159) (by decide +kernel) rfl
theorem nX10_18 : vm_Lok RX10 18 (mY mX2_init) := Or.inl (vm_inG (i := 160) (by decide +kernel) rfl)
theorem oX2_3 : Cond.methodLink RX2 3 Lib.objectInit ∈ vm_G := vm_inG (i := 163) (by decide +kernel) rfl
theorem wX2_9 : Cond.classLink RX2 9 RX7 ∈ vm_G := vm_inG (i := 164) (by decide +kernel) rfl
theorem nX2_17 : vm_Lok RX2 17 (mY mX7_init) := Or.inl (vm_inG (i := 166) (by decide +kernel) rfl)
theorem fX2_11 : vm_Fok RX2 11 2 0 := ⟨_, rfl, by decide +kernel, by decide +kernel, Or.inl (vm_inG (i := 167) (by decide +kernel) rfl)⟩
theorem fX2_11F : ∃ q : vw_C, vCls[2]? = some q ∧ Cond.fieldLink RX2 11 q.1 (q.2.1 0).2.1 (q.2.1 0).2.2.1 ∈ vm_G := ⟨_, rfl, vm_inG (i := 167) (by decide +kernel) rfl⟩
theorem fX2_18 : vm_Fok RX2 18 2 1 := ⟨_, rfl, by decide +kernel, by decide +kernel, Or.inl (vm_inG (i := 168) (by decide +kernel) rfl)⟩
theorem fX2_26 : vm_Fok RX2 26 2 2 := ⟨_, rfl, by decide +kernel, by decide +kernel, Or.inl (vm_inG (i := 169) (by decide +kernel) rfl)⟩
theorem fX10_241 : vm_Fok RX10 241 2 2 := ⟨_, rfl, by decide +kernel, by decide +kernel, Or.inr (vm_inN (i := 170) (by decide +kernel) rfl)⟩
theorem wX10_23 : Cond.classLink RX10 23 RX8 ∈ vm_G := vm_inG (i := 178) (by decide +kernel) rfl
theorem zX8 : Cond.instantiable RX8 2 ∈ vm_G := vm_inG (i := 179) (by decide +kernel) rfl
theorem nX10_25 : vm_Lok RX10 25 (mY mX8_init) := Or.inr (vm_inN (i := 180) (by decide +kernel) rfl)
theorem oX8_3 : Cond.methodLink RX8 3 Lib.objectInit ∈ vm_G := vm_inG (i := 183) (by decide +kernel) rfl
theorem fX8_9 : vm_Fok RX8 9 8 0 := ⟨_, rfl, by decide +kernel, by decide +kernel, Or.inl (vm_inG (i := 184) (by decide +kernel) rfl)⟩
theorem fX8_9F : ∃ q : vw_C, vCls[8]? = some q ∧ Cond.fieldLink RX8 9 q.1 (q.2.1 0).2.1 (q.2.1 0).2.2.1 ∈ vm_G := ⟨_, rfl, vm_inG (i := 184) (by decide +kernel) rfl⟩
theorem fX8_15 : vm_Fok RX8 15 8 1 := ⟨_, rfl, by decide +kernel, by decide +kernel, Or.inl (vm_inG (i := 185) (by decide +kernel) rfl)⟩
theorem fX6_48 : vm_Fok RX6 48 8 1 := ⟨_, rfl, by decide +kernel, by decide +kernel, Or.inr (vm_inN (i := 186) (by decide +kernel) rfl)⟩
theorem fX10_142 : vm_Fok RX10 142 8 1 := ⟨_, rfl, by decide +kernel, by decide +kernel, Or.inr (vm_inN (i := 187) (by decide +kernel) rfl)⟩
theorem wX10_30 : Cond.classLink RX10 30 RX6 ∈ vm_G := vm_inG (i := 194) (by decide +kernel) rfl
theorem zX6 : Cond.instantiable RX6 5 ∈ vm_G := vm_inG (i := 195) (by decide +kernel) rfl
theorem nX10_32 : vm_Lok RX10 32 (mY mX6_init) := Or.inl (vm_inG (i := 196) (by decide +kernel) rfl)
theorem oX6_3 : Cond.methodLink RX6 3 Lib.objectInit ∈ vm_G := vm_inG (i := 199) (by decide +kernel) rfl
theorem wX6_11 : Cond.classLink RX6 11 RX5 ∈ vm_G := vm_inG (i := 200) (by decide +kernel) rfl
theorem zX5 : Cond.instantiable RX5 12 ∈ vm_G := vm_inG (i := 202) (by decide +kernel) rfl
theorem nX6_21 : vm_Lok RX6 21 (mY mX5_init) := Or.inr (vm_inN (i := 203) (by decide +kernel) rfl)
theorem oX5_1 : Cond.methodLink RX5 1 Lib.objectInit ∈ vm_G := vm_inG (i := 206) (by decide +kernel) rfl
theorem wX5_7 : Cond.classLink RX5 7 RX1 ∈ vm_G := vm_inG (i := 207) (by decide +kernel) rfl
theorem nX5_9 : vm_Lok RX5 9 (mY mX1_init) := Or.inr (vm_inN (i := 208) (by decide +kernel) rfl)
theorem fX4_15 : vm_Fok RX4 15 5 0 := ⟨_, rfl, by decide +kernel, by decide +kernel, Or.inr (vm_inN (i := 209) (by decide +kernel) rfl)⟩
theorem fX0_46 : vm_Fok RX0 46 5 0 := ⟨_, rfl, by decide +kernel, by decide +kernel, Or.inr (vm_inN (i := 210) (by decide +kernel) rfl)⟩
theorem fX3_25 : vm_Fok RX3 25 5 0 := ⟨_, rfl, by decide +kernel, by decide +kernel, Or.inr (vm_inN (i := 211) (by decide +kernel) rfl)⟩
theorem fX6_122 : vm_Fok RX6 122 5 0 := ⟨_, rfl, by decide +kernel, by decide +kernel, Or.inr (vm_inN (i := 212) (by decide +kernel) rfl)⟩
theorem fX4_116 : vm_Fok RX4 116 5 1 := ⟨_, rfl, by decide +kernel, by decide +kernel, Or.inr (vm_inN (i := 213) (by decide +kernel) rfl)⟩
theorem fX6_106 : vm_Fok RX6 106 5 1 := ⟨_, rfl, by decide +kernel, by decide +kernel, Or.inr (vm_inN (i := 214) (by decide +kernel) rfl)⟩
theorem fX0_71 : vm_Fok RX0 71 5 2 := ⟨_, rfl, by decide +kernel, by decide +kernel, Or.inr (vm_inN (i := 215) (by decide +kernel) rfl)⟩
theorem fX6_56 : vm_Fok RX6 56 5 2 := ⟨_, rfl, by decide +kernel, by decide +kernel, Or.inr (vm_inN (i := 216) (by decide +kernel) rfl)⟩
theorem fX3_40 : vm_Fok RX3 40 5 2 := ⟨_, rfl, by decide +kernel, by decide +kernel, Or.inr (vm_inN (i := 217) (by decide +kernel) rfl)⟩
theorem fX3_50 : vm_Fok RX3 50 5 3 := ⟨_, rfl, by decide +kernel, by decide +kernel, Or.inr (vm_inN (i := 218) (by decide +kernel) rfl)⟩
theorem fX6_109 : vm_Fok RX6 109 5 3 := ⟨_, rfl, by decide +kernel, by decide +kernel, Or.inr (vm_inN (i := 219) (by decide +kernel) rfl)⟩
theorem fX3_37 : vm_Fok RX3 37 5 4 := ⟨_, rfl, by decide +kernel, by decide +kernel, Or.inr (vm_inN (i := 220) (by decide +kernel) rfl)⟩
theorem fX4_82 : vm_Fok RX4 82 5 4 := ⟨_, rfl, by decide +kernel, by decide +kernel, Or.inr (vm_inN (i := 221) (by decide +kernel) rfl)⟩
theorem fX6_112 : vm_Fok RX6 112 5 4 := ⟨_, rfl, by decide +kernel, by decide +kernel, Or.inr (vm_inN (i := 222) (by decide +kernel) rfl)⟩
theorem fX3_47 : vm_Fok RX3 47 5 5 := ⟨_, rfl, by decide +kernel, by decide +kernel, Or.inr (vm_inN (i := 223) (by decide +kernel) rfl)⟩
theorem fX4_109 : vm_Fok RX4 109 5 5 := ⟨_, rfl, by decide +kernel, by decide +kernel, Or.inr (vm_inN (i := 224) (by decide +kernel) rfl)⟩
theorem fX6_115 : vm_Fok RX6 115 5 5 := ⟨_, rfl, by decide +kernel, by decide +kernel, Or.inr (vm_inN (i := 225) (by decide +kernel) rfl)⟩
theorem fX5_26 : vm_Fok RX5 26 5 6 := ⟨_, rfl, by decide +kernel, by decide +kernel, Or.inl (vm_inG (i := 226) (by decide +kernel) rfl)⟩
theorem fX0_40 : vm_Fok RX0 40 5 6 := ⟨_, rfl, by decide +kernel, by decide +kernel, Or.inr (vm_inN (i := 227) (by decide +kernel) rfl)⟩
theorem fX4_28 : vm_Fok RX4 28 5 6 := ⟨_, rfl, by decide +kernel, by decide +kernel, Or.inr (vm_inN (i := 228) (by decide +kernel) rfl)⟩
theorem fX3_53 : vm_Fok RX3 53 5 6 := ⟨_, rfl, by decide +kernel, by decide +kernel, Or.inr (vm_inN (i := 229) (by decide +kernel) rfl)⟩
theorem fX10_165 : vm_Fok RX10 165 5 6 := ⟨_, rfl, by decide +kernel, by decide +kernel, Or.inr (vm_inN (i := 230) (by decide +kernel) rfl)⟩
theorem fX6_125 : vm_Fok RX6 125 5 6 := ⟨_, rfl, by decide +kernel, by decide +kernel, Or.inr (vm_inN (i := 231) (by decide +kernel) rfl)⟩
theorem fX5_19 : vm_Fok RX5 19 5 7 := ⟨_, rfl, by decide +kernel, by decide +kernel, Or.inl (vm_inG (i := 232) (by decide +kernel) rfl)⟩
theorem fX4_67 : vm_Fok RX4 67 5 7 := ⟨_, rfl, by decide +kernel, by decide +kernel, Or.inr (vm_inN (i := 233) (by decide +kernel) rfl)⟩
theorem fX6_129 : vm_Fok RX6 129 5 7 := ⟨_, rfl, by decide +kernel, by decide +kernel, Or.inr (vm_inN (i := 234) (by decide +kernel) rfl)⟩
theorem fX5_29 : vm_Fok RX5 29 5 8 := ⟨_, rfl, by decide +kernel, by decide +kernel, Or.inl (vm_inG (i := 235) (by decide +kernel) rfl)⟩
theorem fX0_74 : vm_Fok RX0 74 5 8 := ⟨_, rfl, by decide +kernel, by decide +kernel, Or.inr (vm_inN (i := 236) (by decide +kernel) rfl)⟩
theorem fX3_57 : vm_Fok RX3 57 5 8 := ⟨_, rfl, by decide +kernel, by decide +kernel, Or.inr (vm_inN (i := 237) (by decide +kernel) rfl)⟩
theorem fX4_73 : vm_Fok RX4 73 5 8 := ⟨_, rfl, by decide +kernel, by decide +kernel, Or.inr (vm_inN (i := 238) (by decide +kernel) rfl)⟩
theorem fX10_171 : vm_Fok RX10 171 5 8 := ⟨_, rfl, by decide +kernel, by decide +kernel, Or.inr (vm_inN (i := 239) (by decide +kernel) rfl)⟩
theorem fX6_132 : vm_Fok RX6 132 5 8 := ⟨_, rfl, by decide +kernel, by decide +kernel, Or.inr (vm_inN (i := 240) (by decide +kernel) rfl)⟩
theorem fX5_23 : vm_Fok RX5 23 5 9 := ⟨_, rfl, by decide +kernel, by decide +kernel, Or.inl (vm_inG (i := 241) (by decide +kernel) rfl)⟩
theorem fX4_70 : vm_Fok RX4 70 5 9 := ⟨_, rfl, by decide +kernel, by decide +kernel, Or.inr (vm_inN (i := 242) (by decide +kernel) rfl)⟩
theorem fX6_135 : vm_Fok RX6 135 5 9 := ⟨_, rfl, by decide +kernel, by decide +kernel, Or.inr (vm_inN (i := 243) (by decide +kernel) rfl)⟩
theorem fX5_10 : vm_Fok RX5 10 5 10 := ⟨_, rfl, by decide +kernel, by decide +kernel, Or.inl (vm_inG (i := 244) (by decide +kernel) rfl)⟩
theorem fX5_10F : ∃ q : vw_C, vCls[5]? = some q ∧ Cond.fieldLink RX5 10 q.1 (q.2.1 10).2.1 (q.2.1 10).2.2.1 ∈ vm_G := ⟨_, rfl, vm_inG (i := 244) (by decide +kernel) rfl⟩
theorem fX4_32 : vm_Fok RX4 32 5 10 := ⟨_, rfl, by decide +kernel, by decide +kernel, Or.inr (vm_inN (i := 245) (by decide +kernel) rfl)⟩
theorem fX5_16 : vm_Fok RX5 16 5 11 := ⟨_, rfl, by decide +kernel, by decide +kernel, Or.inl (vm_inG (i := 246) (by decide +kernel) rfl)⟩
theorem fX5_16F : ∃ q : vw_C, vCls[5]? = some q ∧ Cond.fieldLink RX5 16 q.1 (q.2.1 11).2.1 (q.2.1 11).2.2.1 ∈ vm_G := ⟨_, rfl, vm_inG (i := 246) (by decide +kernel) rfl⟩
theorem fX4_89 : vm_Fok RX4 89 5 11 := ⟨_, rfl, by decide +kernel, by decide +kernel, Or.inr (vm_inN (i := 247) (by decide +kernel) rfl)⟩
theorem fX6_17 : vm_Fok RX6 17 6 0 := ⟨_, rfl, by decide +kernel, by decide +kernel, Or.inl (vm_inG (i := 273) (by decide +kernel) rfl)⟩
theorem fX6_17F : ∃ q : vw_C, vCls[6]? = some q ∧ Cond.fieldLink RX6 17 q.1 (q.2.1 0).2.1 (q.2.1 0).2.2.1 ∈ vm_G := ⟨_, rfl, vm_inG (i := 273) (by decide +kernel) rfl⟩
theorem fX6_13 : vm_Fok RX6 13 6 1 := ⟨_, rfl, by decide +kernel, by decide +kernel, Or.inl (vm_inG (i := 274) (by decide +kernel) rfl)⟩
theorem fX6_13F : ∃ q : vw_C, vCls[6]? = some q ∧ Cond.fieldLink RX6 13 q.1 (q.2.1 1).2.1 (q.2.1 1).2.2.1 ∈ vm_G := ⟨_, rfl, vm_inG (i := 274) (by decide +kernel) rfl⟩
theorem fX6_22 : vm_Fok RX6 22 6 2 := ⟨_, rfl, by decide +kernel, by decide +kernel, Or.inl (vm_inG (i := 275) (by decide +kernel) rfl)⟩
theorem fX6_26 : vm_Fok RX6 26 6 3 := ⟨_, rfl, by decide +kernel, by decide +kernel, Or.inl (vm_inG (i := 276) (by decide +kernel) rfl)⟩
theorem fX6_29 : vm_Fok RX6 29 6 4 := ⟨_, rfl, by decide +kernel, by decide +kernel, Or.inl (vm_inG (i := 277) (by decide +kernel) rfl)⟩
theorem fX10_149 : vm_Fok RX10 149 6 4 := ⟨_, rfl, by decide +kernel, by decide +kernel, Or.inr (vm_inN (i := 278) (by decide +kernel) rfl)⟩
theorem wX10_39 : Cond.classLink RX10 39 RX3 ∈ vm_G := vm_inG (i := 290) (by decide +kernel) rfl
theorem zX3 : Cond.instantiable RX3 3 ∈ vm_G := vm_inG (i := 291) (by decide +kernel) rfl
theorem nX10_41 : vm_Lok RX10 41 (mY mX3_init) := Or.inr (vm_inN (i := 292) (by decide +kernel) rfl)
theorem oX3_3 : Cond.methodLink RX3 3 Lib.objectInit ∈ vm_G := vm_inG (i := 295) (by decide +kernel) rfl
theorem fX3_22 : vm_Fok RX3 22 3 0 := ⟨_, rfl, by decide +kernel, by decide +kernel, Or.inl (vm_inG (i := 296) (by decide +kernel) rfl)⟩
theorem fX10_206 : vm_Fok RX10 206 3 0 := ⟨_, rfl, by decide +kernel, by decide +kernel, Or.inr (vm_inN (i := 297) (by decide +kernel) rfl)⟩
theorem fX3_9 : vm_Fok RX3 9 3 1 := ⟨_, rfl, by decide +kernel, by decide +kernel, Or.inl (vm_inG (i := 298) (by decide +kernel) rfl)⟩
theorem fX10_159 : vm_Fok RX10 159 3 1 := ⟨_, rfl, by decide +kernel, by decide +kernel, Or.inr (vm_inN (i := 299) (by decide +kernel) rfl)⟩
theorem fX3_15 : vm_Fok RX3 15 3 2 := ⟨_, rfl, by decide +kernel, by decide +kernel, Or.inl (vm_inG (i := 300) (by decide +kernel) rfl)⟩
theorem fX10_162 : vm_Fok RX10 162 3 2 := ⟨_, rfl, by decide +kernel, by decide +kernel, Or.inr (vm_inN (i := 301) (by decide +kernel) rfl)⟩
theorem wX10_46 : Cond.classLink RX10 46 RX4 ∈ vm_G := vm_inG (i := 309) (by decide +kernel) rfl
theorem zX4 : Cond.instantiable RX4 1 ∈ vm_G := vm_inG (i := 310) (by decide +kernel) rfl
theorem nX10_52 : vm_Lok RX10 52 (mY mX4_init) := Or.inl (vm_inG (i := 311) (by decide +kernel) rfl)
theorem oX4_3 : Cond.methodLink RX4 3 Lib.objectInit ∈ vm_G := vm_inG (i := 314) (by decide +kernel) rfl
theorem fX4_9 : vm_Fok RX4 9 4 0 := ⟨_, rfl, by decide +kernel, by decide +kernel, Or.inl (vm_inG (i := 315) (by decide +kernel) rfl)⟩
theorem fX4_9F : ∃ q : vw_C, vCls[4]? = some q ∧ Cond.fieldLink RX4 9 q.1 (q.2.1 0).2.1 (q.2.1 0).2.2.1 ∈ vm_G := ⟨_, rfl, vm_inG (i := 315) (by decide +kernel) rfl⟩
theorem wX10_59 : Cond.classLink RX10 59 RX0 ∈ vm_G := vm_inG (i := 319) (by decide +kernel) rfl
theorem zX0 : Cond.instantiable RX0 5 ∈ vm_G := vm_inG (i := 320) (by decide +kernel) rfl
theorem nX10_61 : vm_Lok RX10 61 (mY mX0_init) := Or.inl (vm_inG (i := 321) (by decide +kernel) rfl)
theorem oX0_3 : Cond.methodLink RX0 3 Lib.objectInit ∈ vm_G := vm_inG (i := 324) (by decide +kernel) rfl
theorem wX0_9 : Cond.classLink RX0 9 RX1 ∈ vm_G := vm_inG (i := 325) (by decide +kernel) rfl
theorem nX0_11 : vm_Lok RX0 11 (mY mX1_init) := Or.inr (vm_inN (i := 326) (by decide +kernel) rfl)
theorem fX0_21 : vm_Fok RX0 21 0 0 := ⟨_, rfl, by decide +kernel, by decide +kernel, Or.inl (vm_inG (i := 327) (by decide +kernel) rfl)⟩
theorem fX0_21F : ∃ q : vw_C, vCls[0]? = some q ∧ Cond.fieldLink RX0 21 q.1 (q.2.1 0).2.1 (q.2.1 0).2.2.1 ∈ vm_G := ⟨_, rfl, vm_inG (i := 327) (by decide +kernel) rfl⟩
theorem fX0_12 : vm_Fok RX0 12 0 1 := ⟨_, rfl, by decide +kernel, by decide +kernel, Or.inl (vm_inG (i := 328) (by decide +kernel) rfl)⟩
theorem fX0_12F : ∃ q : vw_C, vCls[0]? = some q ∧ Cond.fieldLink RX0 12 q.1 (q.2.1 1).2.1 (q.2.1 1).2.2.1 ∈ vm_G := ⟨_, rfl, vm_inG (i := 328) (by decide +kernel) rfl⟩
theorem fX10_201 : vm_Fok RX10 201 0 1 := ⟨_, rfl, by decide +kernel, by decide +kernel, Or.inr (vm_inN (i := 329) (by decide +kernel) rfl)⟩
theorem fX0_18 : vm_Fok RX0 18 0 2 := ⟨_, rfl, by decide +kernel, by decide +kernel, Or.inl (vm_inG (i := 330) (by decide +kernel) rfl)⟩
theorem fX0_18F : ∃ q : vw_C, vCls[0]? = some q ∧ Cond.fieldLink RX0 18 q.1 (q.2.1 2).2.1 (q.2.1 2).2.2.1 ∈ vm_G := ⟨_, rfl, vm_inG (i := 330) (by decide +kernel) rfl⟩
theorem fX0_32 : vm_Fok RX0 32 0 3 := ⟨_, rfl, by decide +kernel, by decide +kernel, Or.inl (vm_inG (i := 331) (by decide +kernel) rfl)⟩
theorem fX10_209 : vm_Fok RX10 209 0 3 := ⟨_, rfl, by decide +kernel, by decide +kernel, Or.inr (vm_inN (i := 332) (by decide +kernel) rfl)⟩
theorem fX0_36 : vm_Fok RX0 36 0 4 := ⟨_, rfl, by decide +kernel, by decide +kernel, Or.inl (vm_inG (i := 333) (by decide +kernel) rfl)⟩
theorem fX10_214 : vm_Fok RX10 214 0 4 := ⟨_, rfl, by decide +kernel, by decide +kernel, Or.inr (vm_inN (i := 334) (by decide +kernel) rfl)⟩
theorem wX10_68 : Cond.classLink RX10 68 RX9 ∈ vm_G := vm_inG (i := 346) (by decide +kernel) rfl
theorem nX10_70 : vm_Lok RX10 70 (mY mX9_init) := Or.inr (vm_inN (i := 347) (by decide +kernel) rfl)
theorem wX10_77 : Cond.classLink RX10 77 RX1 ∈ vm_G := vm_inG (i := 348) (by decide +kernel) rfl
theorem nX10_79 : vm_Lok RX10 79 (mY mX1_init) := Or.inr (vm_inN (i := 349) (by decide +kernel) rfl)
theorem fX10_10 : vm_Fok RX10 10 10 0 := ⟨_, rfl, by decide +kernel, by decide +kernel, Or.inl (vm_inG (i := 350) (by decide +kernel) rfl)⟩
theorem fX10_10F : ∃ q : vw_C, vCls[10]? = some q ∧ Cond.fieldLink RX10 10 q.1 (q.2.1 0).2.1 (q.2.1 0).2.2.1 ∈ vm_G := ⟨_, rfl, vm_inG (i := 350) (by decide +kernel) rfl⟩
theorem fX10_19 : vm_Fok RX10 19 10 1 := ⟨_, rfl, by decide +kernel, by decide +kernel, Or.inl (vm_inG (i := 351) (by decide +kernel) rfl)⟩
theorem fX10_19F : ∃ q : vw_C, vCls[10]? = some q ∧ Cond.fieldLink RX10 19 q.1 (q.2.1 1).2.1 (q.2.1 1).2.2.1 ∈ vm_G := ⟨_, rfl, vm_inG (i := 351) (by decide +kernel) rfl⟩
theorem fX10_26 : vm_Fok RX10 26 10 2 := ⟨_, rfl, by decide +kernel, by decide +kernel, Or.inl (vm_inG (i := 352) (by decide +kernel) rfl)⟩
theorem fX10_26F : ∃ q : vw_C, vCls[10]? = some q ∧ Cond.fieldLink RX10 26 q.1 (q.2.1 2).2.1 (q.2.1 2).2.2.1 ∈ vm_G := ⟨_, rfl, vm_inG (i := 352) (by decide +kernel) rfl⟩
theorem fX10_35 : vm_Fok RX10 35 10 3 := ⟨_, rfl, by decide +kernel, by decide +kernel, Or.inl (vm_inG (i := 353) (by decide +kernel) rfl)⟩
theorem fX10_35F : ∃ q : vw_C, vCls[10]? = some q ∧ Cond.fieldLink RX10 35 q.1 (q.2.1 3).2.1 (q.2.1 3).2.2.1 ∈ vm_G := ⟨_, rfl, vm_inG (i := 353) (by decide +kernel) rfl⟩
theorem fX10_42 : vm_Fok RX10 42 10 4 := ⟨_, rfl, by decide +kernel, by decide +kernel, Or.inl (vm_inG (i := 354) (by decide +kernel) rfl)⟩
theorem fX10_42F : ∃ q : vw_C, vCls[10]? = some q ∧ Cond.fieldLink RX10 42 q.1 (q.2.1 4).2.1 (q.2.1 4).2.2.1 ∈ vm_G := ⟨_, rfl, vm_inG (i := 354) (by decide +kernel) rfl⟩
theorem fX10_55 : vm_Fok RX10 55 10 5 := ⟨_, rfl, by decide +kernel, by decide +kernel, Or.inl (vm_inG (i := 355) (by decide +kernel) rfl)⟩
theorem fX10_55F : ∃ q : vw_C, vCls[10]? = some q ∧ Cond.fieldLink RX10 55 q.1 (q.2.1 5).2.1 (q.2.1 5).2.2.1 ∈ vm_G := ⟨_, rfl, vm_inG (i := 355) (by decide +kernel) rfl⟩
theorem fX10_64 : vm_Fok RX10 64 10 6 := ⟨_, rfl, by decide +kernel, by decide +kernel, Or.inl (vm_inG (i := 356) (by decide +kernel) rfl)⟩
theorem fX10_64F : ∃ q : vw_C, vCls[10]? = some q ∧ Cond.fieldLink RX10 64 q.1 (q.2.1 6).2.1 (q.2.1 6).2.2.1 ∈ vm_G := ⟨_, rfl, vm_inG (i := 356) (by decide +kernel) rfl⟩
theorem fX10_71 : vm_Fok RX10 71 10 7 := ⟨_, rfl, by decide +kernel, by decide +kernel, Or.inl (vm_inG (i := 357) (by decide +kernel) rfl)⟩
theorem fX10_71F : ∃ q : vw_C, vCls[10]? = some q ∧ Cond.fieldLink RX10 71 q.1 (q.2.1 7).2.1 (q.2.1 7).2.2.1 ∈ vm_G := ⟨_, rfl, vm_inG (i := 357) (by decide +kernel) rfl⟩
theorem fX10_74 : vm_Fok RX10 74 10 8 := ⟨_, rfl, by decide +kernel, by decide +kernel, Or.inl (vm_inG (i := 358) (by decide +kernel) rfl)⟩
theorem fX10_74F : ∃ q : vw_C, vCls[10]? = some q ∧ Cond.fieldLink RX10 74 q.1 (q.2.1 8).2.1 (q.2.1 8).2.2.1 ∈ vm_G := ⟨_, rfl, vm_inG (i := 358) (by decide +kernel) rfl⟩
theorem fX10_80 : vm_Fok RX10 80 10 9 := ⟨_, rfl, by decide +kernel, by decide +kernel, Or.inl (vm_inG (i := 359) (by decide +kernel) rfl)⟩
theorem fX10_80F : ∃ q : vw_C, vCls[10]? = some q ∧ Cond.fieldLink RX10 80 q.1 (q.2.1 9).2.1 (q.2.1 9).2.2.1 ∈ vm_G := ⟨_, rfl, vm_inG (i := 359) (by decide +kernel) rfl⟩
theorem nL_13 : vm_Lok RL 13 (mY mX10_setIndividuals) := Or.inl (vm_inG (i := 381) (by decide +kernel) rfl)
theorem nX10_88 : vm_Lok RX10 88 (mY mX2_record) := Or.inl (vm_inG (i := 385) (by decide +kernel) rfl)
theorem nX2_22 : vm_Lok RX2 22 (mY mX7_copyFrom) := Or.inl (vm_inG (i := 389) (by decide +kernel) rfl)
theorem nX7_30 : vm_Lok RX7 30 (mY mX9_copyFrom) := Or.inl (vm_inG (i := 393) (by decide +kernel) rfl)
theorem nX7_34 : vm_Lok RX7 34 (mY mX1_copyFrom) := Or.inl (vm_inG (i := 397) (by decide +kernel) rfl)
theorem nX2_29 : Cond.methodLink RX2 29 Lib.Math.min.name ∈ vm_G := vm_inG (i := 401) (by decide +kernel) rfl
theorem nX10_92 : vm_Lok RX10 92 (mY mX9_begin) := Or.inl (vm_inG (i := 404) (by decide +kernel) rfl)
theorem nX10_96 : vm_Lok RX10 96 (mY mX7_forgetContext) := Or.inl (vm_inG (i := 408) (by decide +kernel) rfl)
theorem nL_18 : vm_Lok RL 18 (mY mX10_setPredicate) := Or.inl (vm_inG (i := 412) (by decide +kernel) rfl)
theorem nX10_99 : vm_Lok RX10 99 (mY mX10_isPredicate) := Or.inl (vm_inG (i := 416) (by decide +kernel) rfl)
theorem nX10_103 : vm_Lok RX10 103 (mY mX9_everybody) := Or.inl (vm_inG (i := 419) (by decide +kernel) rfl)
theorem nX10_107 : vm_Lok RX10 107 (mY mX9_setOf) := Or.inl (vm_inG (i := 423) (by decide +kernel) rfl)
theorem nX9_22 : vm_Lok RX9 22 (mY mX10_isPredicate) := Or.inr (vm_inN (i := 427) (by decide +kernel) rfl)
theorem nX10_111 : vm_Lok RX10 111 (mY mX9_giveSet) := Or.inl (vm_inG (i := 428) (by decide +kernel) rfl)
theorem nL_23 : vm_Lok RL 23 (mY mX10_setPair) := Or.inl (vm_inG (i := 432) (by decide +kernel) rfl)
theorem nX10_115 : vm_Lok RX10 115 (mY mX10_isRelation) := Or.inl (vm_inG (i := 436) (by decide +kernel) rfl)
theorem nX10_118 : vm_Lok RX10 118 (mY mX10_isIndividual) := Or.inl (vm_inG (i := 439) (by decide +kernel) rfl)
theorem nX10_121 : vm_Lok RX10 121 (mY mX10_isSwitch) := Or.inl (vm_inG (i := 443) (by decide +kernel) rfl)
theorem nX10_124 : vm_Lok RX10 124 (mY mX9_hasPair) := Or.inl (vm_inG (i := 446) (by decide +kernel) rfl)
theorem nX9_26 : vm_Lok RX9 26 (mY mX10_isRelation) := Or.inr (vm_inN (i := 450) (by decide +kernel) rfl)
theorem nX10_128 : vm_Lok RX10 128 (mY mX9_putPair) := Or.inl (vm_inG (i := 451) (by decide +kernel) rfl)
theorem nL_28 : vm_Lok RL 28 (mY mX10_individuals) := Or.inl (vm_inG (i := 455) (by decide +kernel) rfl)
theorem nL_33 : vm_Lok RL 33 (mY mX10_predicate) := Or.inl (vm_inG (i := 459) (by decide +kernel) rfl)
theorem nL_37 : vm_Lok RL 37 (mY mX10_relationHolds) := Or.inl (vm_inG (i := 463) (by decide +kernel) rfl)
theorem nX10_132 : vm_Lok RX10 132 (mY mX10_isObject) := Or.inl (vm_inG (i := 467) (by decide +kernel) rfl)
theorem nX10_135 : vm_Lok RX10 135 (mY mX9_relates) := Or.inl (vm_inG (i := 471) (by decide +kernel) rfl)
theorem nL_42 : vm_Lok RL 42 (mY mX10_type) := Or.inl (vm_inG (i := 475) (by decide +kernel) rfl)
theorem nX10_138 : vm_Lok RX10 138 (mY mX8_append) := Or.inl (vm_inG (i := 479) (by decide +kernel) rfl)
theorem nL_46 : vm_Lok RL 46 (mY mX10_clearText) := Or.inl (vm_inG (i := 483) (by decide +kernel) rfl)
theorem nL_50 : vm_Lok RL 50 (mY mX10_syntaxFault) := Or.inl (vm_inG (i := 487) (by decide +kernel) rfl)
theorem nX10_145 : vm_Lok RX10 145 (mY mX6_discourse) := Or.inl (vm_inG (i := 491) (by decide +kernel) rfl)
theorem nX6_32 : vm_Lok RX6 32 (mY mX6_part) := Or.inl (vm_inG (i := 495) (by decide +kernel) rfl)
theorem nX6_40 : vm_Lok RX6 40 (mY mX6_skip) := Or.inl (vm_inG (i := 499) (by decide +kernel) rfl)
theorem nX6_62 : vm_Lok RX6 62 (mY mX8_at) := Or.inl (vm_inG (i := 503) (by decide +kernel) rfl)
theorem nX6_53 : vm_Lok RX6 53 (mY mX6_formula) := Or.inl (vm_inG (i := 507) (by decide +kernel) rfl)
theorem nX6_59 : vm_Lok RX6 59 (mY mX6_choice) := Or.inl (vm_inG (i := 511) (by decide +kernel) rfl)
theorem nX6_70 : vm_Lok RX6 70 (mY mX6_row) := Or.inl (vm_inG (i := 515) (by decide +kernel) rfl)
theorem nX6_73 : vm_Lok RX6 73 (mY mX6_unit) := Or.inl (vm_inG (i := 519) (by decide +kernel) rfl)
theorem nX6_76 : vm_Lok RX6 76 (mY mX6_negation) := Or.inl (vm_inG (i := 523) (by decide +kernel) rfl)
theorem nX6_66 : vm_Lok RX6 66 (mY mX6_openSign) := Or.inl (vm_inG (i := 527) (by decide +kernel) rfl)
theorem nX6_36 : vm_Lok RX6 36 (mY mX6_holding) := Or.inl (vm_inG (i := 531) (by decide +kernel) rfl)
theorem nX6_103 : vm_Lok RX6 103 (mY mX6_taken) := Or.inl (vm_inG (i := 535) (by decide +kernel) rfl)
theorem nX6_44 : vm_Lok RX6 44 (mY mX6_joined) := Or.inl (vm_inG (i := 539) (by decide +kernel) rfl)
theorem nX6_118 : vm_Lok RX6 118 (mY mX5_add) := Or.inl (vm_inG (i := 543) (by decide +kernel) rfl)
theorem nX6_79 : vm_Lok RX6 79 (mY mX6_group) := Or.inl (vm_inG (i := 547) (by decide +kernel) rfl)
theorem nX6_82 : vm_Lok RX6 82 (mY mX6_aboutOne) := Or.inl (vm_inG (i := 551) (by decide +kernel) rfl)
theorem nX6_96 : vm_Lok RX6 96 (mY mX6_skipVariable) := Or.inl (vm_inG (i := 555) (by decide +kernel) rfl)
theorem nX6_99 : vm_Lok RX6 99 (mY mX6_simple) := Or.inl (vm_inG (i := 559) (by decide +kernel) rfl)
theorem nX6_86 : vm_Lok RX6 86 (mY mX6_aboutTwo) := Or.inl (vm_inG (i := 563) (by decide +kernel) rfl)
theorem nX6_90 : vm_Lok RX6 90 (mY mX6_count) := Or.inl (vm_inG (i := 567) (by decide +kernel) rfl)
theorem nX6_93 : vm_Lok RX6 93 (mY mX6_comparison) := Or.inl (vm_inG (i := 571) (by decide +kernel) rfl)
theorem nL_54 : vm_Lok RL 54 (mY mX10_unknownVariable) := Or.inl (vm_inG (i := 575) (by decide +kernel) rfl)
theorem nX10_155 : vm_Lok RX10 155 (mY mX3_suffices) := Or.inl (vm_inG (i := 579) (by decide +kernel) rfl)
theorem nX3_18 : vm_Lok RX3 18 (mY mX3_readOver) := Or.inl (vm_inG (i := 583) (by decide +kernel) rfl)
theorem nX3_30 : vm_Lok RX3 30 (mY mX3_readChain) := Or.inl (vm_inG (i := 587) (by decide +kernel) rfl)
theorem nX3_33 : vm_Lok RX3 33 (mY mX3_readEach) := Or.inl (vm_inG (i := 591) (by decide +kernel) rfl)
theorem nX3_43 : vm_Lok RX3 43 (mY mX3_look) := Or.inl (vm_inG (i := 595) (by decide +kernel) rfl)
theorem nL_58 : vm_Lok RL 58 (mY mX10_unknownDepth) := Or.inl (vm_inG (i := 599) (by decide +kernel) rfl)
theorem nL_62 : vm_Lok RL 62 (mY mX10_partCount) := Or.inl (vm_inG (i := 603) (by decide +kernel) rfl)
theorem nL_66 : vm_Lok RL 66 (mY mX10_contextSize) := Or.inl (vm_inG (i := 607) (by decide +kernel) rfl)
theorem nX10_177 : vm_Lok RX10 177 (mY mX1_size) := Or.inl (vm_inG (i := 611) (by decide +kernel) rfl)
theorem nX1_25 : vm_Lok RX1 25 (mY mJ13_bitCount_95d88) := Or.inl (vm_inG (i := 615) (by decide +kernel) rfl)
theorem qJ13_314 : Cond.constantLong RJ13 314 (6148914691236517205) ∈ vm_G := vm_inG (i := 618) (by decide +kernel) rfl
theorem qJ13_316 : Cond.constantLong RJ13 316 (3689348814741910323) ∈ vm_G := vm_inG (i := 619) (by decide +kernel) rfl
theorem qJ13_318 : Cond.constantLong RJ13 318 (1085102592571150095) ∈ vm_G := vm_inG (i := 620) (by decide +kernel) rfl
theorem nL_70 : vm_Lok RL 70 (mY mX10_known) := Or.inl (vm_inG (i := 621) (by decide +kernel) rfl)
theorem nL_74 : vm_Lok RL 74 (mY mX10_objects) := Or.inl (vm_inG (i := 625) (by decide +kernel) rfl)
theorem nX10_180 : vm_Lok RX10 180 (mY mX10_isVariable) := Or.inl (vm_inG (i := 629) (by decide +kernel) rfl)
theorem nX10_183 : vm_Lok RX10 183 (mY mX7_knows) := Or.inl (vm_inG (i := 632) (by decide +kernel) rfl)
theorem nX10_186 : vm_Lok RX10 186 (mY mX1_valuesOf) := Or.inl (vm_inG (i := 636) (by decide +kernel) rfl)
theorem nX1_35 : vm_Lok RX1 35 (mY mX1_countOf) := Or.inl (vm_inG (i := 640) (by decide +kernel) rfl)
theorem nX1_31 : vm_Lok RX1 31 (mY mX1_mask) := Or.inl (vm_inG (i := 644) (by decide +kernel) rfl)
theorem qX1_43 : Cond.constantLong RX1 43 (72340172838076673) ∈ vm_G := vm_inG (i := 647) (by decide +kernel) rfl
theorem qX1_19 : Cond.constantLong RX1 19 (-1) ∈ vm_G := vm_inG (i := 648) (by decide +kernel) rfl
theorem qX1_51 : Cond.constantLong RX1 51 (567382630219905) ∈ vm_G := vm_inG (i := 649) (by decide +kernel) rfl
theorem qX1_45 : Cond.constantLong RX1 45 (255) ∈ vm_G := vm_inG (i := 650) (by decide +kernel) rfl
theorem nL_78 : vm_Lok RL 78 (mY mX10_together) := Or.inl (vm_inG (i := 651) (by decide +kernel) rfl)
theorem nX10_189 : vm_Lok RX10 189 (mY mX1_countOf) := Or.inl (vm_inG (i := 655) (by decide +kernel) rfl)
theorem nL_82 : vm_Lok RL 82 (mY mX10_resetContext) := Or.inl (vm_inG (i := 656) (by decide +kernel) rfl)
theorem nL_86 : vm_Lok RL 86 (mY mX10_setAccommodation) := Or.inl (vm_inG (i := 660) (by decide +kernel) rfl)
theorem nL_90 : vm_Lok RL 90 (mY mX10_accept) := Or.inl (vm_inG (i := 664) (by decide +kernel) rfl)
theorem nX10_197 : vm_Lok RX10 197 (mY mX10_tryAccepting) := Or.inl (vm_inG (i := 668) (by decide +kernel) rfl)
theorem nX10_247 : vm_Lok RX10 247 (mY mX0_succeeds) := Or.inl (vm_inG (i := 672) (by decide +kernel) rfl)
theorem nX0_28 : vm_Lok RX0 28 (mY mX1_copyFrom) := Or.inl (vm_inG (i := 676) (by decide +kernel) rfl)
theorem nX0_49 : vm_Lok RX0 49 (mY mX4_findSupporting) := Or.inl (vm_inG (i := 677) (by decide +kernel) rfl)
theorem qX4_58 : Cond.constantLong RX4 58 (-1) ∈ vm_G := vm_inG (i := 681) (by decide +kernel) rfl
theorem nX4_60 : vm_Lok RX4 60 (mY mX1_fill) := Or.inl (vm_inG (i := 682) (by decide +kernel) rfl)
theorem nX4_64 : vm_Lok RX4 64 (mY mX4_turn) := Or.inl (vm_inG (i := 683) (by decide +kernel) rfl)
theorem nX4_21 : vm_Lok RX4 21 (mY mX4_turnByChain) := Or.inl (vm_inG (i := 687) (by decide +kernel) rfl)
theorem nX4_25 : vm_Lok RX4 25 (mY mX4_turnBySome) := Or.inl (vm_inG (i := 691) (by decide +kernel) rfl)
theorem nX4_76 : vm_Lok RX4 76 (mY mX9_everybody) := Or.inl (vm_inG (i := 695) (by decide +kernel) rfl)
theorem nX4_85 : vm_Lok RX4 85 (mY mX1_vary) := Or.inl (vm_inG (i := 696) (by decide +kernel) rfl)
theorem nX1_39 : vm_Lok RX1 39 (mY mX1_varyWords) := Or.inl (vm_inG (i := 700) (by decide +kernel) rfl)
theorem nX1_47 : vm_Lok RX1 47 (mY mX1_varied) := Or.inl (vm_inG (i := 704) (by decide +kernel) rfl)
theorem nX4_36 : vm_Lok RX4 36 (mY mX4_findSupporting) := Or.inl (vm_inG (i := 707) (by decide +kernel) rfl)
theorem nX4_40 : vm_Lok RX4 40 (mY mX1_remove) := Or.inl (vm_inG (i := 708) (by decide +kernel) rfl)
theorem nX4_46 : vm_Lok RX4 46 (mY mX4_keepByChoice) := Or.inl (vm_inG (i := 712) (by decide +kernel) rfl)
theorem nX4_92 : vm_Lok RX4 92 (mY mX1_unite) := Or.inl (vm_inG (i := 716) (by decide +kernel) rfl)
theorem nX4_95 : vm_Lok RX4 95 (mY mX1_keep) := Or.inl (vm_inG (i := 720) (by decide +kernel) rfl)
theorem nX4_49 : vm_Lok RX4 49 (mY mX4_keepByCondition) := Or.inl (vm_inG (i := 724) (by decide +kernel) rfl)
theorem nX4_98 : vm_Lok RX4 98 (mY mX1_complement) := Or.inl (vm_inG (i := 728) (by decide +kernel) rfl)
theorem nX4_52 : vm_Lok RX4 52 (mY mX4_keepByOne) := Or.inl (vm_inG (i := 732) (by decide +kernel) rfl)
theorem nX4_101 : vm_Lok RX4 101 (mY mX4_holds) := Or.inl (vm_inG (i := 736) (by decide +kernel) rfl)
theorem nX4_119 : vm_Lok RX4 119 (mY mX9_setOf) := Or.inl (vm_inG (i := 740) (by decide +kernel) rfl)
theorem nX4_123 : vm_Lok RX4 123 (mY mX9_relates) := Or.inl (vm_inG (i := 741) (by decide +kernel) rfl)
theorem nX4_127 : vm_Lok RX4 127 (mY mJ6_bitCount_0f7a4) := Or.inl (vm_inG (i := 742) (by decide +kernel) rfl)
theorem qJ6_265 : Cond.constant RJ6 265 (1431655765) ∈ vm_G := vm_inG (i := 745) (by decide +kernel) rfl
theorem qJ6_266 : Cond.constant RJ6 266 (858993459) ∈ vm_G := vm_inG (i := 746) (by decide +kernel) rfl
theorem qJ6_267 : Cond.constant RJ6 267 (252645135) ∈ vm_G := vm_inG (i := 747) (by decide +kernel) rfl
theorem nX4_105 : vm_Lok RX4 105 (mY mX1_keepValues) := Or.inl (vm_inG (i := 748) (by decide +kernel) rfl)
theorem nX4_55 : vm_Lok RX4 55 (mY mX4_keepByTwo) := Or.inl (vm_inG (i := 752) (by decide +kernel) rfl)
theorem nX4_112 : vm_Lok RX4 112 (mY mX1_keepPartners) := Or.inl (vm_inG (i := 756) (by decide +kernel) rfl)
theorem nX0_55 : vm_Lok RX0 55 (mY mX1_isWithin) := Or.inl (vm_inG (i := 760) (by decide +kernel) rfl)
theorem nX0_59 : vm_Lok RX0 59 (mY mX4_turn) := Or.inl (vm_inG (i := 764) (by decide +kernel) rfl)
theorem nX0_67 : vm_Lok RX0 67 (mY mX1_isEmpty) := Or.inl (vm_inG (i := 765) (by decide +kernel) rfl)
theorem nX1_21 : vm_Lok RX1 21 (mY mX1_size) := Or.inl (vm_inG (i := 769) (by decide +kernel) rfl)
theorem nX10_202 : vm_Lok RX10 202 (mY mX1_copyFrom) := Or.inl (vm_inG (i := 770) (by decide +kernel) rfl)
theorem nL_94 : vm_Lok RL 94 (mY mX10_acceptable) := Or.inl (vm_inG (i := 771) (by decide +kernel) rfl)
theorem nL_98 : vm_Lok RL 98 (mY mX10_failingAt) := Or.inl (vm_inG (i := 775) (by decide +kernel) rfl)
theorem nL_102 : vm_Lok RL 102 (mY mX10_accommodated) := Or.inl (vm_inG (i := 779) (by decide +kernel) rfl)
theorem nX10_217 : vm_Lok RX10 217 (mY mJ13_bitCount_95d88) := Or.inl (vm_inG (i := 783) (by decide +kernel) rfl)
theorem nL_106 : vm_Lok RL 106 (mY mX10_accommodatedPart) := Or.inl (vm_inG (i := 784) (by decide +kernel) rfl)
theorem nL_110 : vm_Lok RL 110 (mY mX10_sizeBehind) := Or.inl (vm_inG (i := 788) (by decide +kernel) rfl)
theorem nX10_223 : vm_Lok RX10 223 (mY mX4_turn) := Or.inl (vm_inG (i := 792) (by decide +kernel) rfl)
theorem nL_114 : vm_Lok RL 114 (mY mX10_supports) := Or.inl (vm_inG (i := 793) (by decide +kernel) rfl)
theorem nX10_227 : vm_Lok RX10 227 (mY mX4_findSupporting) := Or.inl (vm_inG (i := 797) (by decide +kernel) rfl)
theorem nX10_231 : vm_Lok RX10 231 (mY mX1_isWithin) := Or.inl (vm_inG (i := 798) (by decide +kernel) rfl)
theorem nL_118 : vm_Lok RL 118 (mY mX10_worldsTrue) := Or.inl (vm_inG (i := 799) (by decide +kernel) rfl)
theorem nX10_235 : vm_Lok RX10 235 (mY mX9_copyFrom) := Or.inl (vm_inG (i := 803) (by decide +kernel) rfl)
theorem nX10_237 : vm_Lok RX10 237 (mY mX10_isTrueInOtherWorld) := Or.inl (vm_inG (i := 804) (by decide +kernel) rfl)
theorem nX10_251 : vm_Lok RX10 251 (mY mX1_makeFirst) := Or.inl (vm_inG (i := 808) (by decide +kernel) rfl)
theorem nX10_254 : vm_Lok RX10 254 (mY mX1_isEmpty) := Or.inl (vm_inG (i := 809) (by decide +kernel) rfl)
theorem nL_122 : vm_Lok RL 122 (mY mX10_historySize) := Or.inl (vm_inG (i := 810) (by decide +kernel) rfl)
theorem nL_126 : vm_Lok RL 126 (mY mX10_undo) := Or.inl (vm_inG (i := 814) (by decide +kernel) rfl)
theorem nX10_243 : vm_Lok RX10 243 (mY mX2_restore) := Or.inl (vm_inG (i := 818) (by decide +kernel) rfl)
theorem wL_10 : Cond.classLink RL 10 RX11 ∈ vm_G := vm_inG (i := 822) (by decide +kernel) rfl
theorem zX11 : Cond.instantiable RX11 29 ∈ vm_G := vm_inG (i := 823) (by decide +kernel) rfl
theorem nL_12 : vm_Lok RL 12 (mY mX11_init) := Or.inl (vm_inG (i := 824) (by decide +kernel) rfl)
theorem oX11_1 : Cond.methodLink RX11 1 Lib.objectInit ∈ vm_G := vm_inG (i := 827) (by decide +kernel) rfl
theorem fX11_7 : vm_Fok RX11 7 11 0 := ⟨_, rfl, by decide +kernel, by decide +kernel, Or.inl (vm_inG (i := 828) (by decide +kernel) rfl)⟩
theorem fX11_7F : ∃ q : vw_C, vCls[11]? = some q ∧ Cond.fieldLink RX11 7 q.1 (q.2.1 0).2.1 (q.2.1 0).2.2.1 ∈ vm_G := ⟨_, rfl, vm_inG (i := 828) (by decide +kernel) rfl⟩
theorem fX11_13 : vm_Fok RX11 13 11 1 := ⟨_, rfl, by decide +kernel, by decide +kernel, Or.inl (vm_inG (i := 829) (by decide +kernel) rfl)⟩
theorem fX11_13F : ∃ q : vw_C, vCls[11]? = some q ∧ Cond.fieldLink RX11 13 q.1 (q.2.1 1).2.1 (q.2.1 1).2.2.1 ∈ vm_G := ⟨_, rfl, vm_inG (i := 829) (by decide +kernel) rfl⟩
theorem fX11_59 : vm_Fok RX11 59 11 2 := ⟨_, rfl, by decide +kernel, by decide +kernel, Or.inl (vm_inG (i := 830) (by decide +kernel) rfl)⟩
theorem fX11_16 : vm_Fok RX11 16 11 3 := ⟨_, rfl, by decide +kernel, by decide +kernel, Or.inl (vm_inG (i := 831) (by decide +kernel) rfl)⟩
theorem fX11_16F : ∃ q : vw_C, vCls[11]? = some q ∧ Cond.fieldLink RX11 16 q.1 (q.2.1 3).2.1 (q.2.1 3).2.2.1 ∈ vm_G := ⟨_, rfl, vm_inG (i := 831) (by decide +kernel) rfl⟩
theorem fX11_87 : vm_Fok RX11 87 11 4 := ⟨_, rfl, by decide +kernel, by decide +kernel, Or.inl (vm_inG (i := 832) (by decide +kernel) rfl)⟩
theorem fX11_19 : vm_Fok RX11 19 11 5 := ⟨_, rfl, by decide +kernel, by decide +kernel, Or.inl (vm_inG (i := 833) (by decide +kernel) rfl)⟩
theorem fX11_19F : ∃ q : vw_C, vCls[11]? = some q ∧ Cond.fieldLink RX11 19 q.1 (q.2.1 5).2.1 (q.2.1 5).2.2.1 ∈ vm_G := ⟨_, rfl, vm_inG (i := 833) (by decide +kernel) rfl⟩
theorem fX11_22 : vm_Fok RX11 22 11 6 := ⟨_, rfl, by decide +kernel, by decide +kernel, Or.inl (vm_inG (i := 834) (by decide +kernel) rfl)⟩
theorem fX11_22F : ∃ q : vw_C, vCls[11]? = some q ∧ Cond.fieldLink RX11 22 q.1 (q.2.1 6).2.1 (q.2.1 6).2.2.1 ∈ vm_G := ⟨_, rfl, vm_inG (i := 834) (by decide +kernel) rfl⟩
theorem fX11_90 : vm_Fok RX11 90 11 7 := ⟨_, rfl, by decide +kernel, by decide +kernel, Or.inl (vm_inG (i := 835) (by decide +kernel) rfl)⟩
theorem fX11_26 : vm_Fok RX11 26 11 8 := ⟨_, rfl, by decide +kernel, by decide +kernel, Or.inl (vm_inG (i := 836) (by decide +kernel) rfl)⟩
theorem fX11_26F : ∃ q : vw_C, vCls[11]? = some q ∧ Cond.fieldLink RX11 26 q.1 (q.2.1 8).2.1 (q.2.1 8).2.2.1 ∈ vm_G := ⟨_, rfl, vm_inG (i := 836) (by decide +kernel) rfl⟩
theorem fX11_29 : vm_Fok RX11 29 11 9 := ⟨_, rfl, by decide +kernel, by decide +kernel, Or.inl (vm_inG (i := 837) (by decide +kernel) rfl)⟩
theorem fX11_29F : ∃ q : vw_C, vCls[11]? = some q ∧ Cond.fieldLink RX11 29 q.1 (q.2.1 9).2.1 (q.2.1 9).2.2.1 ∈ vm_G := ⟨_, rfl, vm_inG (i := 837) (by decide +kernel) rfl⟩
theorem fX11_32 : vm_Fok RX11 32 11 10 := ⟨_, rfl, by decide +kernel, by decide +kernel, Or.inl (vm_inG (i := 838) (by decide +kernel) rfl)⟩
theorem fX11_32F : ∃ q : vw_C, vCls[11]? = some q ∧ Cond.fieldLink RX11 32 q.1 (q.2.1 10).2.1 (q.2.1 10).2.2.1 ∈ vm_G := ⟨_, rfl, vm_inG (i := 838) (by decide +kernel) rfl⟩
theorem fX11_93 : vm_Fok RX11 93 11 11 := ⟨_, rfl, by decide +kernel, by decide +kernel, Or.inl (vm_inG (i := 839) (by decide +kernel) rfl)⟩
theorem fX11_104 : vm_Fok RX11 104 11 12 := ⟨_, rfl, by decide +kernel, by decide +kernel, Or.inl (vm_inG (i := 840) (by decide +kernel) rfl)⟩
theorem fX11_110 : vm_Fok RX11 110 11 13 := ⟨_, rfl, by decide +kernel, by decide +kernel, Or.inl (vm_inG (i := 841) (by decide +kernel) rfl)⟩
theorem fX11_113 : vm_Fok RX11 113 11 14 := ⟨_, rfl, by decide +kernel, by decide +kernel, Or.inl (vm_inG (i := 842) (by decide +kernel) rfl)⟩
theorem fX11_116 : vm_Fok RX11 116 11 15 := ⟨_, rfl, by decide +kernel, by decide +kernel, Or.inl (vm_inG (i := 843) (by decide +kernel) rfl)⟩
theorem fX11_107 : vm_Fok RX11 107 11 16 := ⟨_, rfl, by decide +kernel, by decide +kernel, Or.inl (vm_inG (i := 844) (by decide +kernel) rfl)⟩
theorem fX11_35 : vm_Fok RX11 35 11 17 := ⟨_, rfl, by decide +kernel, by decide +kernel, Or.inl (vm_inG (i := 845) (by decide +kernel) rfl)⟩
theorem fX11_35F : ∃ q : vw_C, vCls[11]? = some q ∧ Cond.fieldLink RX11 35 q.1 (q.2.1 17).2.1 (q.2.1 17).2.2.1 ∈ vm_G := ⟨_, rfl, vm_inG (i := 845) (by decide +kernel) rfl⟩
theorem fX11_38 : vm_Fok RX11 38 11 18 := ⟨_, rfl, by decide +kernel, by decide +kernel, Or.inl (vm_inG (i := 846) (by decide +kernel) rfl)⟩
theorem fX11_38F : ∃ q : vw_C, vCls[11]? = some q ∧ Cond.fieldLink RX11 38 q.1 (q.2.1 18).2.1 (q.2.1 18).2.2.1 ∈ vm_G := ⟨_, rfl, vm_inG (i := 846) (by decide +kernel) rfl⟩
theorem fX11_41 : vm_Fok RX11 41 11 19 := ⟨_, rfl, by decide +kernel, by decide +kernel, Or.inl (vm_inG (i := 847) (by decide +kernel) rfl)⟩
theorem fX11_41F : ∃ q : vw_C, vCls[11]? = some q ∧ Cond.fieldLink RX11 41 q.1 (q.2.1 19).2.1 (q.2.1 19).2.2.1 ∈ vm_G := ⟨_, rfl, vm_inG (i := 847) (by decide +kernel) rfl⟩
theorem fX11_44 : vm_Fok RX11 44 11 20 := ⟨_, rfl, by decide +kernel, by decide +kernel, Or.inl (vm_inG (i := 848) (by decide +kernel) rfl)⟩
theorem fX11_44F : ∃ q : vw_C, vCls[11]? = some q ∧ Cond.fieldLink RX11 44 q.1 (q.2.1 20).2.1 (q.2.1 20).2.2.1 ∈ vm_G := ⟨_, rfl, vm_inG (i := 848) (by decide +kernel) rfl⟩
theorem fX11_47 : vm_Fok RX11 47 11 21 := ⟨_, rfl, by decide +kernel, by decide +kernel, Or.inl (vm_inG (i := 849) (by decide +kernel) rfl)⟩
theorem fX11_47F : ∃ q : vw_C, vCls[11]? = some q ∧ Cond.fieldLink RX11 47 q.1 (q.2.1 21).2.1 (q.2.1 21).2.2.1 ∈ vm_G := ⟨_, rfl, vm_inG (i := 849) (by decide +kernel) rfl⟩
theorem fX11_50 : vm_Fok RX11 50 11 22 := ⟨_, rfl, by decide +kernel, by decide +kernel, Or.inl (vm_inG (i := 850) (by decide +kernel) rfl)⟩
theorem fX11_50F : ∃ q : vw_C, vCls[11]? = some q ∧ Cond.fieldLink RX11 50 q.1 (q.2.1 22).2.1 (q.2.1 22).2.2.1 ∈ vm_G := ⟨_, rfl, vm_inG (i := 850) (by decide +kernel) rfl⟩
theorem fX11_53 : vm_Fok RX11 53 11 23 := ⟨_, rfl, by decide +kernel, by decide +kernel, Or.inl (vm_inG (i := 851) (by decide +kernel) rfl)⟩
theorem fX11_53F : ∃ q : vw_C, vCls[11]? = some q ∧ Cond.fieldLink RX11 53 q.1 (q.2.1 23).2.1 (q.2.1 23).2.2.1 ∈ vm_G := ⟨_, rfl, vm_inG (i := 851) (by decide +kernel) rfl⟩
theorem fX11_56 : vm_Fok RX11 56 11 24 := ⟨_, rfl, by decide +kernel, by decide +kernel, Or.inl (vm_inG (i := 852) (by decide +kernel) rfl)⟩
theorem fX11_56F : ∃ q : vw_C, vCls[11]? = some q ∧ Cond.fieldLink RX11 56 q.1 (q.2.1 24).2.1 (q.2.1 24).2.2.1 ∈ vm_G := ⟨_, rfl, vm_inG (i := 852) (by decide +kernel) rfl⟩
theorem fX11_175 : vm_Fok RX11 175 11 25 := ⟨_, rfl, by decide +kernel, by decide +kernel, Or.inl (vm_inG (i := 853) (by decide +kernel) rfl)⟩
theorem fX11_178 : vm_Fok RX11 178 11 26 := ⟨_, rfl, by decide +kernel, by decide +kernel, Or.inl (vm_inG (i := 854) (by decide +kernel) rfl)⟩
theorem fX11_187 : vm_Fok RX11 187 11 27 := ⟨_, rfl, by decide +kernel, by decide +kernel, Or.inl (vm_inG (i := 855) (by decide +kernel) rfl)⟩
theorem fX11_190 : vm_Fok RX11 190 11 28 := ⟨_, rfl, by decide +kernel, by decide +kernel, Or.inl (vm_inG (i := 856) (by decide +kernel) rfl)⟩
theorem nL_17 : vm_Lok RL 17 (mY mX11_setIndividuals) := Or.inl (vm_inG (i := 917) (by decide +kernel) rfl)
theorem nX11_67 : vm_Lok RX11 67 (mY mX11_in) := Or.inl (vm_inG (i := 921) (by decide +kernel) rfl)
theorem nX11_75 : vm_Lok RX11 75 (mY mX11_acts) := Or.inl (vm_inG (i := 924) (by decide +kernel) rfl)
theorem nX11_78 : vm_Lok RX11 78 (mY mX11_first) := Or.inl (vm_inG (i := 928) (by decide +kernel) rfl)
theorem nL_22 : vm_Lok RL 22 (mY mX11_setPredicate) := Or.inl (vm_inG (i := 932) (by decide +kernel) rfl)
theorem nX11_63 : vm_Lok RX11 63 (mY mX11_full) := Or.inl (vm_inG (i := 936) (by decide +kernel) rfl)
theorem nL_27 : vm_Lok RL 27 (mY mX11_setPair) := Or.inl (vm_inG (i := 940) (by decide +kernel) rfl)
theorem nL_32 : vm_Lok RL 32 (mY mX11_individuals) := Or.inl (vm_inG (i := 944) (by decide +kernel) rfl)
theorem nL_36 : vm_Lok RL 36 (mY mX11_predicate) := Or.inl (vm_inG (i := 948) (by decide +kernel) rfl)
theorem nL_41 : vm_Lok RL 41 (mY mX11_relationHolds) := Or.inl (vm_inG (i := 952) (by decide +kernel) rfl)
theorem nX11_81 : vm_Lok RX11 81 (mY mX11_isObject) := Or.inl (vm_inG (i := 956) (by decide +kernel) rfl)
theorem nX11_84 : vm_Lok RX11 84 (mY mX11_holds) := Or.inl (vm_inG (i := 960) (by decide +kernel) rfl)
theorem nL_45 : vm_Lok RL 45 (mY mX11_type) := Or.inl (vm_inG (i := 964) (by decide +kernel) rfl)
theorem nL_49 : vm_Lok RL 49 (mY mX11_clearText) := Or.inl (vm_inG (i := 968) (by decide +kernel) rfl)
theorem nL_53 : vm_Lok RL 53 (mY mX11_syntaxFault) := Or.inl (vm_inG (i := 972) (by decide +kernel) rfl)
theorem nX11_200 : vm_Lok RX11 200 (mY mX11_reads) := Or.inl (vm_inG (i := 976) (by decide +kernel) rfl)
theorem nX11_119 : vm_Lok RX11 119 (mY mX11_next) := Or.inl (vm_inG (i := 980) (by decide +kernel) rfl)
theorem nX11_156 : vm_Lok RX11 156 (mY mX11_opens) := Or.inl (vm_inG (i := 984) (by decide +kernel) rfl)
theorem nX11_193 : vm_Lok RX11 193 (mY mX11_readsFormula) := Or.inl (vm_inG (i := 988) (by decide +kernel) rfl)
theorem nX11_159 : vm_Lok RX11 159 (mY mX11_readsUnit) := Or.inl (vm_inG (i := 992) (by decide +kernel) rfl)
theorem nX11_140 : vm_Lok RX11 140 (mY mX11_variable) := Or.inl (vm_inG (i := 996) (by decide +kernel) rfl)
theorem nX11_122 : vm_Lok RX11 122 (mY mX11_finds) := Or.inl (vm_inG (i := 1000) (by decide +kernel) rfl)
theorem nX11_97 : vm_Lok RX11 97 (mY mX11_pushes) := Or.inl (vm_inG (i := 1004) (by decide +kernel) rfl)
theorem nX11_144 : vm_Lok RX11 144 (mY mX11_tests) := Or.inl (vm_inG (i := 1008) (by decide +kernel) rfl)
theorem nX11_129 : vm_Lok RX11 129 (mY mX11_of) := Or.inl (vm_inG (i := 1012) (by decide +kernel) rfl)
theorem nX11_133 : vm_Lok RX11 133 (mY mX11_isSo) := Or.inl (vm_inG (i := 1015) (by decide +kernel) rfl)
theorem nX11_125 : vm_Lok RX11 125 (mY mX11_ones) := Or.inl (vm_inG (i := 1019) (by decide +kernel) rfl)
theorem nX11_136 : vm_Lok RX11 136 (mY mX11_pushesTest) := Or.inl (vm_inG (i := 1022) (by decide +kernel) rfl)
theorem nX11_163 : vm_Lok RX11 163 (mY mX11_endsUnit) := Or.inl (vm_inG (i := 1026) (by decide +kernel) rfl)
theorem nX11_147 : vm_Lok RX11 147 (mY mX11_hasResults) := Or.inl (vm_inG (i := 1030) (by decide +kernel) rfl)
theorem nX11_101 : vm_Lok RX11 101 (mY mX11_leads) := Or.inl (vm_inG (i := 1034) (by decide +kernel) rfl)
theorem nX11_150 : vm_Lok RX11 150 (mY mX11_endsRow) := Or.inl (vm_inG (i := 1038) (by decide +kernel) rfl)
theorem nX11_153 : vm_Lok RX11 153 (mY mX11_endsChoice) := Or.inl (vm_inG (i := 1042) (by decide +kernel) rfl)
theorem nX11_166 : vm_Lok RX11 166 (mY mX11_under) := Or.inl (vm_inG (i := 1046) (by decide +kernel) rfl)
theorem nX11_169 : vm_Lok RX11 169 (mY mX11_endsFormula) := Or.inl (vm_inG (i := 1050) (by decide +kernel) rfl)
theorem nX11_196 : vm_Lok RX11 196 (mY mX11_takes) := Or.inl (vm_inG (i := 1054) (by decide +kernel) rfl)
theorem nX11_172 : vm_Lok RX11 172 (mY mX11_isSupported) := Or.inl (vm_inG (i := 1058) (by decide +kernel) rfl)
theorem nX11_181 : vm_Lok RX11 181 (mY mX11_turns) := Or.inl (vm_inG (i := 1062) (by decide +kernel) rfl)
theorem nX11_184 : vm_Lok RX11 184 (mY mX11_inContext) := Or.inl (vm_inG (i := 1066) (by decide +kernel) rfl)
theorem nL_57 : vm_Lok RL 57 (mY mX11_unknownVariable) := Or.inl (vm_inG (i := 1070) (by decide +kernel) rfl)
theorem nL_61 : vm_Lok RL 61 (mY mX11_unknownDepth) := Or.inl (vm_inG (i := 1074) (by decide +kernel) rfl)
theorem nL_65 : vm_Lok RL 65 (mY mX11_partCount) := Or.inl (vm_inG (i := 1078) (by decide +kernel) rfl)
theorem nL_69 : vm_Lok RL 69 (mY mX11_contextSize) := Or.inl (vm_inG (i := 1082) (by decide +kernel) rfl)
theorem nX11_204 : vm_Lok RX11 204 (mY mX11_size) := Or.inl (vm_inG (i := 1086) (by decide +kernel) rfl)
theorem nX11_71 : vm_Lok RX11 71 (mY mX11_isThere) := Or.inl (vm_inG (i := 1090) (by decide +kernel) rfl)
theorem nL_73 : vm_Lok RL 73 (mY mX11_known) := Or.inl (vm_inG (i := 1094) (by decide +kernel) rfl)
theorem nL_77 : vm_Lok RL 77 (mY mX11_objects) := Or.inl (vm_inG (i := 1098) (by decide +kernel) rfl)
theorem nX11_207 : vm_Lok RX11 207 (mY mX11_isKnown) := Or.inl (vm_inG (i := 1102) (by decide +kernel) rfl)
theorem nL_81 : vm_Lok RL 81 (mY mX11_together) := Or.inl (vm_inG (i := 1106) (by decide +kernel) rfl)
theorem nL_85 : vm_Lok RL 85 (mY mX11_resetContext) := Or.inl (vm_inG (i := 1110) (by decide +kernel) rfl)
theorem nL_89 : vm_Lok RL 89 (mY mX11_setAccommodation) := Or.inl (vm_inG (i := 1114) (by decide +kernel) rfl)
theorem nL_93 : vm_Lok RL 93 (mY mX11_accept) := Or.inl (vm_inG (i := 1118) (by decide +kernel) rfl)
theorem nX11_216 : vm_Lok RX11 216 (mY mX11_tries) := Or.inl (vm_inG (i := 1122) (by decide +kernel) rfl)
theorem nX11_210 : vm_Lok RX11 210 (mY mX11_error) := Or.inl (vm_inG (i := 1126) (by decide +kernel) rfl)
theorem nX11_213 : vm_Lok RX11 213 (mY mX11_takesContext) := Or.inl (vm_inG (i := 1130) (by decide +kernel) rfl)
theorem nL_97 : vm_Lok RL 97 (mY mX11_acceptable) := Or.inl (vm_inG (i := 1134) (by decide +kernel) rfl)
theorem nL_101 : vm_Lok RL 101 (mY mX11_failingAt) := Or.inl (vm_inG (i := 1138) (by decide +kernel) rfl)
theorem nL_105 : vm_Lok RL 105 (mY mX11_accommodated) := Or.inl (vm_inG (i := 1142) (by decide +kernel) rfl)
theorem nL_109 : vm_Lok RL 109 (mY mX11_accommodatedPart) := Or.inl (vm_inG (i := 1146) (by decide +kernel) rfl)
theorem nL_113 : vm_Lok RL 113 (mY mX11_sizeBehind) := Or.inl (vm_inG (i := 1150) (by decide +kernel) rfl)
theorem nL_117 : vm_Lok RL 117 (mY mX11_supports) := Or.inl (vm_inG (i := 1154) (by decide +kernel) rfl)
theorem nX11_219 : vm_Lok RX11 219 (mY mX11_isAllSupported) := Or.inl (vm_inG (i := 1158) (by decide +kernel) rfl)
theorem nL_121 : vm_Lok RL 121 (mY mX11_worldsTrue) := Or.inl (vm_inG (i := 1162) (by decide +kernel) rfl)
theorem nL_125 : vm_Lok RL 125 (mY mX11_historySize) := Or.inl (vm_inG (i := 1166) (by decide +kernel) rfl)
theorem nL_129 : vm_Lok RL 129 (mY mX11_undo) := Or.inl (vm_inG (i := 1170) (by decide +kernel) rfl)
end
