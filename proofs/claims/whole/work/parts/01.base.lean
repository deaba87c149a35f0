-- ===== PART A: goes FIRST, ahead of the names: the tables' words, and 'selects' of the private methods out of them =====
/-- a private method of a class that the tables say can be made, by its rows of tables_1 -/
def lw_okq (q : MethodName × Nat) : Prop := (q.1.cls ≠ "java/lang/invoke/MethodHandle" ∧ q.1.cls ≠ "java/lang/invoke/VarHandle") ∧ Cond.instantiable q.1.cls q.2 ∈ tables_1 ∧ Cond.privateMethod q.1 ∈ tables_1 ∧ Cond.instanceMethod q.1 ∈ tables_1
theorem lw_p0 : lw_okq (⟨"DiscourseContexts", "isIndividual", "(I)Z"⟩, 10) := ⟨⟨by decide +kernel, by decide +kernel⟩, List.mem_of_getElem? (i := 17) (by decide +kernel), List.mem_of_getElem? (i := 372) (by decide +kernel), List.mem_of_getElem? (i := 373) (by decide +kernel)⟩
theorem lw_p1 : lw_okq (⟨"DiscourseContexts", "isObject", "(I)Z"⟩, 10) := ⟨⟨by decide +kernel, by decide +kernel⟩, List.mem_of_getElem? (i := 17) (by decide +kernel), List.mem_of_getElem? (i := 400) (by decide +kernel), List.mem_of_getElem? (i := 401) (by decide +kernel)⟩
theorem lw_p2 : lw_okq (⟨"DiscourseContexts$Parser", "part", "()LDiscourseContexts$Node;"⟩, 5) := ⟨⟨by decide +kernel, by decide +kernel⟩, List.mem_of_getElem? (i := 127) (by decide +kernel), List.mem_of_getElem? (i := 428) (by decide +kernel), List.mem_of_getElem? (i := 429) (by decide +kernel)⟩
theorem lw_p3 : lw_okq (⟨"DiscourseContexts$Parser", "skip", "(C)Z"⟩, 5) := ⟨⟨by decide +kernel, by decide +kernel⟩, List.mem_of_getElem? (i := 127) (by decide +kernel), List.mem_of_getElem? (i := 432) (by decide +kernel), List.mem_of_getElem? (i := 433) (by decide +kernel)⟩
theorem lw_p4 : lw_okq (⟨"DiscourseContexts$Parser", "formula", "()LDiscourseContexts$Node;"⟩, 5) := ⟨⟨by decide +kernel, by decide +kernel⟩, List.mem_of_getElem? (i := 127) (by decide +kernel), List.mem_of_getElem? (i := 440) (by decide +kernel), List.mem_of_getElem? (i := 441) (by decide +kernel)⟩
theorem lw_p5 : lw_okq (⟨"DiscourseContexts$Parser", "choice", "()LDiscourseContexts$Node;"⟩, 5) := ⟨⟨by decide +kernel, by decide +kernel⟩, List.mem_of_getElem? (i := 127) (by decide +kernel), List.mem_of_getElem? (i := 444) (by decide +kernel), List.mem_of_getElem? (i := 445) (by decide +kernel)⟩
theorem lw_p6 : lw_okq (⟨"DiscourseContexts$Parser", "row", "()LDiscourseContexts$Node;"⟩, 5) := ⟨⟨by decide +kernel, by decide +kernel⟩, List.mem_of_getElem? (i := 127) (by decide +kernel), List.mem_of_getElem? (i := 448) (by decide +kernel), List.mem_of_getElem? (i := 449) (by decide +kernel)⟩
theorem lw_p7 : lw_okq (⟨"DiscourseContexts$Parser", "unit", "()LDiscourseContexts$Node;"⟩, 5) := ⟨⟨by decide +kernel, by decide +kernel⟩, List.mem_of_getElem? (i := 127) (by decide +kernel), List.mem_of_getElem? (i := 452) (by decide +kernel), List.mem_of_getElem? (i := 453) (by decide +kernel)⟩
theorem lw_p8 : lw_okq (⟨"DiscourseContexts$Parser", "negation", "()LDiscourseContexts$Node;"⟩, 5) := ⟨⟨by decide +kernel, by decide +kernel⟩, List.mem_of_getElem? (i := 127) (by decide +kernel), List.mem_of_getElem? (i := 456) (by decide +kernel), List.mem_of_getElem? (i := 457) (by decide +kernel)⟩
theorem lw_p9 : lw_okq (⟨"DiscourseContexts$Parser", "openSign", "()Z"⟩, 5) := ⟨⟨by decide +kernel, by decide +kernel⟩, List.mem_of_getElem? (i := 127) (by decide +kernel), List.mem_of_getElem? (i := 460) (by decide +kernel), List.mem_of_getElem? (i := 461) (by decide +kernel)⟩
theorem lw_p10 : lw_okq (⟨"DiscourseContexts$Parser", "holding", "(ILDiscourseContexts$Node;)LDiscourseContexts$Node;"⟩, 5) := ⟨⟨by decide +kernel, by decide +kernel⟩, List.mem_of_getElem? (i := 127) (by decide +kernel), List.mem_of_getElem? (i := 464) (by decide +kernel), List.mem_of_getElem? (i := 465) (by decide +kernel)⟩
theorem lw_p11 : lw_okq (⟨"DiscourseContexts$Parser", "taken", "(I)LDiscourseContexts$Node;"⟩, 5) := ⟨⟨by decide +kernel, by decide +kernel⟩, List.mem_of_getElem? (i := 127) (by decide +kernel), List.mem_of_getElem? (i := 468) (by decide +kernel), List.mem_of_getElem? (i := 469) (by decide +kernel)⟩
theorem lw_p12 : lw_okq (⟨"DiscourseContexts$Parser", "joined", "(LDiscourseContexts$Node;LDiscourseContexts$Node;)LDiscourseContexts$Node;"⟩, 5) := ⟨⟨by decide +kernel, by decide +kernel⟩, List.mem_of_getElem? (i := 127) (by decide +kernel), List.mem_of_getElem? (i := 472) (by decide +kernel), List.mem_of_getElem? (i := 473) (by decide +kernel)⟩
theorem lw_p13 : lw_okq (⟨"DiscourseContexts$Parser", "group", "()LDiscourseContexts$Node;"⟩, 5) := ⟨⟨by decide +kernel, by decide +kernel⟩, List.mem_of_getElem? (i := 127) (by decide +kernel), List.mem_of_getElem? (i := 480) (by decide +kernel), List.mem_of_getElem? (i := 481) (by decide +kernel)⟩
theorem lw_p14 : lw_okq (⟨"DiscourseContexts$Parser", "aboutOne", "(II)LDiscourseContexts$Node;"⟩, 5) := ⟨⟨by decide +kernel, by decide +kernel⟩, List.mem_of_getElem? (i := 127) (by decide +kernel), List.mem_of_getElem? (i := 484) (by decide +kernel), List.mem_of_getElem? (i := 485) (by decide +kernel)⟩
theorem lw_p15 : lw_okq (⟨"DiscourseContexts$Parser", "skipVariable", "()Z"⟩, 5) := ⟨⟨by decide +kernel, by decide +kernel⟩, List.mem_of_getElem? (i := 127) (by decide +kernel), List.mem_of_getElem? (i := 488) (by decide +kernel), List.mem_of_getElem? (i := 489) (by decide +kernel)⟩
def lw_privs_1 : List (MethodName × Nat) := [(⟨"DiscourseContexts", "isIndividual", "(I)Z"⟩, 10), (⟨"DiscourseContexts", "isObject", "(I)Z"⟩, 10), (⟨"DiscourseContexts$Parser", "part", "()LDiscourseContexts$Node;"⟩, 5), (⟨"DiscourseContexts$Parser", "skip", "(C)Z"⟩, 5), (⟨"DiscourseContexts$Parser", "formula", "()LDiscourseContexts$Node;"⟩, 5), (⟨"DiscourseContexts$Parser", "choice", "()LDiscourseContexts$Node;"⟩, 5), (⟨"DiscourseContexts$Parser", "row", "()LDiscourseContexts$Node;"⟩, 5), (⟨"DiscourseContexts$Parser", "unit", "()LDiscourseContexts$Node;"⟩, 5), (⟨"DiscourseContexts$Parser", "negation", "()LDiscourseContexts$Node;"⟩, 5), (⟨"DiscourseContexts$Parser", "openSign", "()Z"⟩, 5), (⟨"DiscourseContexts$Parser", "holding", "(ILDiscourseContexts$Node;)LDiscourseContexts$Node;"⟩, 5), (⟨"DiscourseContexts$Parser", "taken", "(I)LDiscourseContexts$Node;"⟩, 5), (⟨"DiscourseContexts$Parser", "joined", "(LDiscourseContexts$Node;LDiscourseContexts$Node;)LDiscourseContexts$Node;"⟩, 5), (⟨"DiscourseContexts$Parser", "group", "()LDiscourseContexts$Node;"⟩, 5), (⟨"DiscourseContexts$Parser", "aboutOne", "(II)LDiscourseContexts$Node;"⟩, 5), (⟨"DiscourseContexts$Parser", "skipVariable", "()Z"⟩, 5)]
theorem lw_r1 : ∀ q ∈ lw_privs_1, lw_okq q := List.forall_mem_cons.mpr ⟨lw_p0, List.forall_mem_cons.mpr ⟨lw_p1, List.forall_mem_cons.mpr ⟨lw_p2, List.forall_mem_cons.mpr ⟨lw_p3, List.forall_mem_cons.mpr ⟨lw_p4, List.forall_mem_cons.mpr ⟨lw_p5, List.forall_mem_cons.mpr ⟨lw_p6, List.forall_mem_cons.mpr ⟨lw_p7, List.forall_mem_cons.mpr ⟨lw_p8, List.forall_mem_cons.mpr ⟨lw_p9, List.forall_mem_cons.mpr ⟨lw_p10, List.forall_mem_cons.mpr ⟨lw_p11, List.forall_mem_cons.mpr ⟨lw_p12, List.forall_mem_cons.mpr ⟨lw_p13, List.forall_mem_cons.mpr ⟨lw_p14, List.forall_mem_cons.mpr ⟨lw_p15, fun _ h => absurd h List.not_mem_nil⟩⟩⟩⟩⟩⟩⟩⟩⟩⟩⟩⟩⟩⟩⟩⟩
theorem lw_p16 : lw_okq (⟨"DiscourseContexts$Parser", "simple", "(IIII)LDiscourseContexts$Node;"⟩, 5) := ⟨⟨by decide +kernel, by decide +kernel⟩, List.mem_of_getElem? (i := 127) (by decide +kernel), List.mem_of_getElem? (i := 492) (by decide +kernel), List.mem_of_getElem? (i := 493) (by decide +kernel)⟩
theorem lw_p17 : lw_okq (⟨"DiscourseContexts$Parser", "aboutTwo", "(I)LDiscourseContexts$Node;"⟩, 5) := ⟨⟨by decide +kernel, by decide +kernel⟩, List.mem_of_getElem? (i := 127) (by decide +kernel), List.mem_of_getElem? (i := 496) (by decide +kernel), List.mem_of_getElem? (i := 497) (by decide +kernel)⟩
theorem lw_p18 : lw_okq (⟨"DiscourseContexts$Parser", "count", "(I)LDiscourseContexts$Node;"⟩, 5) := ⟨⟨by decide +kernel, by decide +kernel⟩, List.mem_of_getElem? (i := 127) (by decide +kernel), List.mem_of_getElem? (i := 500) (by decide +kernel), List.mem_of_getElem? (i := 501) (by decide +kernel)⟩
theorem lw_p19 : lw_okq (⟨"DiscourseContexts$Parser", "comparison", "()LDiscourseContexts$Node;"⟩, 5) := ⟨⟨by decide +kernel, by decide +kernel⟩, List.mem_of_getElem? (i := 127) (by decide +kernel), List.mem_of_getElem? (i := 504) (by decide +kernel), List.mem_of_getElem? (i := 505) (by decide +kernel)⟩
theorem lw_p20 : lw_okq (⟨"DiscourseContexts$Knowledge", "readOver", "(LDiscourseContexts$Node;II)I"⟩, 3) := ⟨⟨by decide +kernel, by decide +kernel⟩, List.mem_of_getElem? (i := 223) (by decide +kernel), List.mem_of_getElem? (i := 516) (by decide +kernel), List.mem_of_getElem? (i := 517) (by decide +kernel)⟩
theorem lw_p21 : lw_okq (⟨"DiscourseContexts$Knowledge", "readChain", "(LDiscourseContexts$Node;II)I"⟩, 3) := ⟨⟨by decide +kernel, by decide +kernel⟩, List.mem_of_getElem? (i := 223) (by decide +kernel), List.mem_of_getElem? (i := 520) (by decide +kernel), List.mem_of_getElem? (i := 521) (by decide +kernel)⟩
theorem lw_p22 : lw_okq (⟨"DiscourseContexts$Knowledge", "readEach", "(LDiscourseContexts$Node;II)V"⟩, 3) := ⟨⟨by decide +kernel, by decide +kernel⟩, List.mem_of_getElem? (i := 223) (by decide +kernel), List.mem_of_getElem? (i := 524) (by decide +kernel), List.mem_of_getElem? (i := 525) (by decide +kernel)⟩
theorem lw_p23 : lw_okq (⟨"DiscourseContexts$Knowledge", "look", "(IIII)V"⟩, 3) := ⟨⟨by decide +kernel, by decide +kernel⟩, List.mem_of_getElem? (i := 223) (by decide +kernel), List.mem_of_getElem? (i := 528) (by decide +kernel), List.mem_of_getElem? (i := 529) (by decide +kernel)⟩
theorem lw_p24 : lw_okq (⟨"DiscourseContexts", "tryAccepting", "(LDiscourseContexts$Node;)I"⟩, 10) := ⟨⟨by decide +kernel, by decide +kernel⟩, List.mem_of_getElem? (i := 17) (by decide +kernel), List.mem_of_getElem? (i := 601) (by decide +kernel), List.mem_of_getElem? (i := 602) (by decide +kernel)⟩
theorem lw_p25 : lw_okq (⟨"DiscourseContexts$Meaning", "findSupporting", "(LDiscourseContexts$Node;LDiscourseContexts$Assignments;)V"⟩, 1) := ⟨⟨by decide +kernel, by decide +kernel⟩, List.mem_of_getElem? (i := 242) (by decide +kernel), List.mem_of_getElem? (i := 610) (by decide +kernel), List.mem_of_getElem? (i := 611) (by decide +kernel)⟩
theorem lw_p26 : lw_okq (⟨"DiscourseContexts$Meaning", "turn", "(LDiscourseContexts$Node;LDiscourseContexts$Assignments;Z)V"⟩, 1) := ⟨⟨by decide +kernel, by decide +kernel⟩, List.mem_of_getElem? (i := 242) (by decide +kernel), List.mem_of_getElem? (i := 616) (by decide +kernel), List.mem_of_getElem? (i := 617) (by decide +kernel)⟩
theorem lw_p27 : lw_okq (⟨"DiscourseContexts$Meaning", "turnByChain", "(LDiscourseContexts$Node;LDiscourseContexts$Assignments;Z)V"⟩, 1) := ⟨⟨by decide +kernel, by decide +kernel⟩, List.mem_of_getElem? (i := 242) (by decide +kernel), List.mem_of_getElem? (i := 620) (by decide +kernel), List.mem_of_getElem? (i := 621) (by decide +kernel)⟩
theorem lw_p28 : lw_okq (⟨"DiscourseContexts$Meaning", "turnBySome", "(LDiscourseContexts$Node;LDiscourseContexts$Assignments;Z)V"⟩, 1) := ⟨⟨by decide +kernel, by decide +kernel⟩, List.mem_of_getElem? (i := 242) (by decide +kernel), List.mem_of_getElem? (i := 624) (by decide +kernel), List.mem_of_getElem? (i := 625) (by decide +kernel)⟩
theorem lw_p29 : lw_okq (⟨"DiscourseContexts$Assignments", "varyWords", "(II)V"⟩, 1) := ⟨⟨by decide +kernel, by decide +kernel⟩, List.mem_of_getElem? (i := 49) (by decide +kernel), List.mem_of_getElem? (i := 633) (by decide +kernel), List.mem_of_getElem? (i := 634) (by decide +kernel)⟩
theorem lw_p30 : lw_okq (⟨"DiscourseContexts$Meaning", "keepByChoice", "(LDiscourseContexts$Node;LDiscourseContexts$Assignments;)V"⟩, 1) := ⟨⟨by decide +kernel, by decide +kernel⟩, List.mem_of_getElem? (i := 242) (by decide +kernel), List.mem_of_getElem? (i := 645) (by decide +kernel), List.mem_of_getElem? (i := 646) (by decide +kernel)⟩
theorem lw_p31 : lw_okq (⟨"DiscourseContexts$Meaning", "keepByCondition", "(LDiscourseContexts$Node;LDiscourseContexts$Assignments;)V"⟩, 1) := ⟨⟨by decide +kernel, by decide +kernel⟩, List.mem_of_getElem? (i := 242) (by decide +kernel), List.mem_of_getElem? (i := 657) (by decide +kernel), List.mem_of_getElem? (i := 658) (by decide +kernel)⟩
def lw_privs_2 : List (MethodName × Nat) := [(⟨"DiscourseContexts$Parser", "simple", "(IIII)LDiscourseContexts$Node;"⟩, 5), (⟨"DiscourseContexts$Parser", "aboutTwo", "(I)LDiscourseContexts$Node;"⟩, 5), (⟨"DiscourseContexts$Parser", "count", "(I)LDiscourseContexts$Node;"⟩, 5), (⟨"DiscourseContexts$Parser", "comparison", "()LDiscourseContexts$Node;"⟩, 5), (⟨"DiscourseContexts$Knowledge", "readOver", "(LDiscourseContexts$Node;II)I"⟩, 3), (⟨"DiscourseContexts$Knowledge", "readChain", "(LDiscourseContexts$Node;II)I"⟩, 3), (⟨"DiscourseContexts$Knowledge", "readEach", "(LDiscourseContexts$Node;II)V"⟩, 3), (⟨"DiscourseContexts$Knowledge", "look", "(IIII)V"⟩, 3), (⟨"DiscourseContexts", "tryAccepting", "(LDiscourseContexts$Node;)I"⟩, 10), (⟨"DiscourseContexts$Meaning", "findSupporting", "(LDiscourseContexts$Node;LDiscourseContexts$Assignments;)V"⟩, 1), (⟨"DiscourseContexts$Meaning", "turn", "(LDiscourseContexts$Node;LDiscourseContexts$Assignments;Z)V"⟩, 1), (⟨"DiscourseContexts$Meaning", "turnByChain", "(LDiscourseContexts$Node;LDiscourseContexts$Assignments;Z)V"⟩, 1), (⟨"DiscourseContexts$Meaning", "turnBySome", "(LDiscourseContexts$Node;LDiscourseContexts$Assignments;Z)V"⟩, 1), (⟨"DiscourseContexts$Assignments", "varyWords", "(II)V"⟩, 1), (⟨"DiscourseContexts$Meaning", "keepByChoice", "(LDiscourseContexts$Node;LDiscourseContexts$Assignments;)V"⟩, 1), (⟨"DiscourseContexts$Meaning", "keepByCondition", "(LDiscourseContexts$Node;LDiscourseContexts$Assignments;)V"⟩, 1)]
theorem lw_r2 : ∀ q ∈ lw_privs_2, lw_okq q := List.forall_mem_cons.mpr ⟨lw_p16, List.forall_mem_cons.mpr ⟨lw_p17, List.forall_mem_cons.mpr ⟨lw_p18, List.forall_mem_cons.mpr ⟨lw_p19, List.forall_mem_cons.mpr ⟨lw_p20, List.forall_mem_cons.mpr ⟨lw_p21, List.forall_mem_cons.mpr ⟨lw_p22, List.forall_mem_cons.mpr ⟨lw_p23, List.forall_mem_cons.mpr ⟨lw_p24, List.forall_mem_cons.mpr ⟨lw_p25, List.forall_mem_cons.mpr ⟨lw_p26, List.forall_mem_cons.mpr ⟨lw_p27, List.forall_mem_cons.mpr ⟨lw_p28, List.forall_mem_cons.mpr ⟨lw_p29, List.forall_mem_cons.mpr ⟨lw_p30, List.forall_mem_cons.mpr ⟨lw_p31, fun _ h => absurd h List.not_mem_nil⟩⟩⟩⟩⟩⟩⟩⟩⟩⟩⟩⟩⟩⟩⟩⟩
theorem lw_p32 : lw_okq (⟨"DiscourseContexts$Meaning", "keepByOne", "(LDiscourseContexts$Node;LDiscourseContexts$Assignments;)V"⟩, 1) := ⟨⟨by decide +kernel, by decide +kernel⟩, List.mem_of_getElem? (i := 242) (by decide +kernel), List.mem_of_getElem? (i := 665) (by decide +kernel), List.mem_of_getElem? (i := 666) (by decide +kernel)⟩
theorem lw_p33 : lw_okq (⟨"DiscourseContexts$Meaning", "holds", "(LDiscourseContexts$Node;II)Z"⟩, 1) := ⟨⟨by decide +kernel, by decide +kernel⟩, List.mem_of_getElem? (i := 242) (by decide +kernel), List.mem_of_getElem? (i := 669) (by decide +kernel), List.mem_of_getElem? (i := 670) (by decide +kernel)⟩
theorem lw_p34 : lw_okq (⟨"DiscourseContexts$Meaning", "keepByTwo", "(LDiscourseContexts$Node;LDiscourseContexts$Assignments;)V"⟩, 1) := ⟨⟨by decide +kernel, by decide +kernel⟩, List.mem_of_getElem? (i := 242) (by decide +kernel), List.mem_of_getElem? (i := 685) (by decide +kernel), List.mem_of_getElem? (i := 686) (by decide +kernel)⟩
theorem lw_p35 : lw_okq (⟨"DiscourseContexts", "isTrueInOtherWorld", "(LDiscourseContexts$Node;)Z"⟩, 10) := ⟨⟨by decide +kernel, by decide +kernel⟩, List.mem_of_getElem? (i := 17) (by decide +kernel), List.mem_of_getElem? (i := 737) (by decide +kernel), List.mem_of_getElem? (i := 738) (by decide +kernel)⟩
theorem lw_p36 : lw_okq (⟨"DiscourseContextsModel", "acts", "()V"⟩, 29) := ⟨⟨by decide +kernel, by decide +kernel⟩, List.mem_of_getElem? (i := 755) (by decide +kernel), List.mem_of_getElem? (i := 857) (by decide +kernel), List.mem_of_getElem? (i := 858) (by decide +kernel)⟩
theorem lw_p37 : lw_okq (⟨"DiscourseContextsModel", "first", "()V"⟩, 29) := ⟨⟨by decide +kernel, by decide +kernel⟩, List.mem_of_getElem? (i := 755) (by decide +kernel), List.mem_of_getElem? (i := 861) (by decide +kernel), List.mem_of_getElem? (i := 862) (by decide +kernel)⟩
theorem lw_p38 : lw_okq (⟨"DiscourseContextsModel", "full", "()I"⟩, 29) := ⟨⟨by decide +kernel, by decide +kernel⟩, List.mem_of_getElem? (i := 755) (by decide +kernel), List.mem_of_getElem? (i := 869) (by decide +kernel), List.mem_of_getElem? (i := 870) (by decide +kernel)⟩
theorem lw_p39 : lw_okq (⟨"DiscourseContextsModel", "isObject", "(I)Z"⟩, 29) := ⟨⟨by decide +kernel, by decide +kernel⟩, List.mem_of_getElem? (i := 755) (by decide +kernel), List.mem_of_getElem? (i := 889) (by decide +kernel), List.mem_of_getElem? (i := 890) (by decide +kernel)⟩
theorem lw_p40 : lw_okq (⟨"DiscourseContextsModel", "holds", "(III)Z"⟩, 29) := ⟨⟨by decide +kernel, by decide +kernel⟩, List.mem_of_getElem? (i := 755) (by decide +kernel), List.mem_of_getElem? (i := 893) (by decide +kernel), List.mem_of_getElem? (i := 894) (by decide +kernel)⟩
theorem lw_p41 : lw_okq (⟨"DiscourseContextsModel", "reads", "(II)Z"⟩, 29) := ⟨⟨by decide +kernel, by decide +kernel⟩, List.mem_of_getElem? (i := 755) (by decide +kernel), List.mem_of_getElem? (i := 909) (by decide +kernel), List.mem_of_getElem? (i := 910) (by decide +kernel)⟩
theorem lw_p42 : lw_okq (⟨"DiscourseContextsModel", "next", "()I"⟩, 29) := ⟨⟨by decide +kernel, by decide +kernel⟩, List.mem_of_getElem? (i := 755) (by decide +kernel), List.mem_of_getElem? (i := 913) (by decide +kernel), List.mem_of_getElem? (i := 914) (by decide +kernel)⟩
theorem lw_p43 : lw_okq (⟨"DiscourseContextsModel", "opens", "(I)V"⟩, 29) := ⟨⟨by decide +kernel, by decide +kernel⟩, List.mem_of_getElem? (i := 755) (by decide +kernel), List.mem_of_getElem? (i := 917) (by decide +kernel), List.mem_of_getElem? (i := 918) (by decide +kernel)⟩
theorem lw_p44 : lw_okq (⟨"DiscourseContextsModel", "readsFormula", "()Z"⟩, 29) := ⟨⟨by decide +kernel, by decide +kernel⟩, List.mem_of_getElem? (i := 755) (by decide +kernel), List.mem_of_getElem? (i := 921) (by decide +kernel), List.mem_of_getElem? (i := 922) (by decide +kernel)⟩
theorem lw_p45 : lw_okq (⟨"DiscourseContextsModel", "readsUnit", "()Z"⟩, 29) := ⟨⟨by decide +kernel, by decide +kernel⟩, List.mem_of_getElem? (i := 755) (by decide +kernel), List.mem_of_getElem? (i := 925) (by decide +kernel), List.mem_of_getElem? (i := 926) (by decide +kernel)⟩
theorem lw_p46 : lw_okq (⟨"DiscourseContextsModel", "variable", "(Z)I"⟩, 29) := ⟨⟨by decide +kernel, by decide +kernel⟩, List.mem_of_getElem? (i := 755) (by decide +kernel), List.mem_of_getElem? (i := 929) (by decide +kernel), List.mem_of_getElem? (i := 930) (by decide +kernel)⟩
theorem lw_p47 : lw_okq (⟨"DiscourseContextsModel", "finds", "(I)V"⟩, 29) := ⟨⟨by decide +kernel, by decide +kernel⟩, List.mem_of_getElem? (i := 755) (by decide +kernel), List.mem_of_getElem? (i := 933) (by decide +kernel), List.mem_of_getElem? (i := 934) (by decide +kernel)⟩
def lw_privs_3 : List (MethodName × Nat) := [(⟨"DiscourseContexts$Meaning", "keepByOne", "(LDiscourseContexts$Node;LDiscourseContexts$Assignments;)V"⟩, 1), (⟨"DiscourseContexts$Meaning", "holds", "(LDiscourseContexts$Node;II)Z"⟩, 1), (⟨"DiscourseContexts$Meaning", "keepByTwo", "(LDiscourseContexts$Node;LDiscourseContexts$Assignments;)V"⟩, 1), (⟨"DiscourseContexts", "isTrueInOtherWorld", "(LDiscourseContexts$Node;)Z"⟩, 10), (⟨"DiscourseContextsModel", "acts", "()V"⟩, 29), (⟨"DiscourseContextsModel", "first", "()V"⟩, 29), (⟨"DiscourseContextsModel", "full", "()I"⟩, 29), (⟨"DiscourseContextsModel", "isObject", "(I)Z"⟩, 29), (⟨"DiscourseContextsModel", "holds", "(III)Z"⟩, 29), (⟨"DiscourseContextsModel", "reads", "(II)Z"⟩, 29), (⟨"DiscourseContextsModel", "next", "()I"⟩, 29), (⟨"DiscourseContextsModel", "opens", "(I)V"⟩, 29), (⟨"DiscourseContextsModel", "readsFormula", "()Z"⟩, 29), (⟨"DiscourseContextsModel", "readsUnit", "()Z"⟩, 29), (⟨"DiscourseContextsModel", "variable", "(Z)I"⟩, 29), (⟨"DiscourseContextsModel", "finds", "(I)V"⟩, 29)]
theorem lw_r3 : ∀ q ∈ lw_privs_3, lw_okq q := List.forall_mem_cons.mpr ⟨lw_p32, List.forall_mem_cons.mpr ⟨lw_p33, List.forall_mem_cons.mpr ⟨lw_p34, List.forall_mem_cons.mpr ⟨lw_p35, List.forall_mem_cons.mpr ⟨lw_p36, List.forall_mem_cons.mpr ⟨lw_p37, List.forall_mem_cons.mpr ⟨lw_p38, List.forall_mem_cons.mpr ⟨lw_p39, List.forall_mem_cons.mpr ⟨lw_p40, List.forall_mem_cons.mpr ⟨lw_p41, List.forall_mem_cons.mpr ⟨lw_p42, List.forall_mem_cons.mpr ⟨lw_p43, List.forall_mem_cons.mpr ⟨lw_p44, List.forall_mem_cons.mpr ⟨lw_p45, List.forall_mem_cons.mpr ⟨lw_p46, List.forall_mem_cons.mpr ⟨lw_p47, fun _ h => absurd h List.not_mem_nil⟩⟩⟩⟩⟩⟩⟩⟩⟩⟩⟩⟩⟩⟩⟩⟩
theorem lw_p48 : lw_okq (⟨"DiscourseContextsModel", "pushes", "(I)V"⟩, 29) := ⟨⟨by decide +kernel, by decide +kernel⟩, List.mem_of_getElem? (i := 755) (by decide +kernel), List.mem_of_getElem? (i := 937) (by decide +kernel), List.mem_of_getElem? (i := 938) (by decide +kernel)⟩
theorem lw_p49 : lw_okq (⟨"DiscourseContextsModel", "tests", "(III)Z"⟩, 29) := ⟨⟨by decide +kernel, by decide +kernel⟩, List.mem_of_getElem? (i := 755) (by decide +kernel), List.mem_of_getElem? (i := 941) (by decide +kernel), List.mem_of_getElem? (i := 942) (by decide +kernel)⟩
theorem lw_p50 : lw_okq (⟨"DiscourseContextsModel", "isSo", "(III)Z"⟩, 29) := ⟨⟨by decide +kernel, by decide +kernel⟩, List.mem_of_getElem? (i := 755) (by decide +kernel), List.mem_of_getElem? (i := 948) (by decide +kernel), List.mem_of_getElem? (i := 949) (by decide +kernel)⟩
theorem lw_p51 : lw_okq (⟨"DiscourseContextsModel", "pushesTest", "(Z)V"⟩, 29) := ⟨⟨by decide +kernel, by decide +kernel⟩, List.mem_of_getElem? (i := 755) (by decide +kernel), List.mem_of_getElem? (i := 955) (by decide +kernel), List.mem_of_getElem? (i := 956) (by decide +kernel)⟩
theorem lw_p52 : lw_okq (⟨"DiscourseContextsModel", "endsUnit", "()V"⟩, 29) := ⟨⟨by decide +kernel, by decide +kernel⟩, List.mem_of_getElem? (i := 755) (by decide +kernel), List.mem_of_getElem? (i := 959) (by decide +kernel), List.mem_of_getElem? (i := 960) (by decide +kernel)⟩
theorem lw_p53 : lw_okq (⟨"DiscourseContextsModel", "hasResults", "(I)V"⟩, 29) := ⟨⟨by decide +kernel, by decide +kernel⟩, List.mem_of_getElem? (i := 755) (by decide +kernel), List.mem_of_getElem? (i := 963) (by decide +kernel), List.mem_of_getElem? (i := 964) (by decide +kernel)⟩
theorem lw_p54 : lw_okq (⟨"DiscourseContextsModel", "leads", "(I)V"⟩, 29) := ⟨⟨by decide +kernel, by decide +kernel⟩, List.mem_of_getElem? (i := 755) (by decide +kernel), List.mem_of_getElem? (i := 967) (by decide +kernel), List.mem_of_getElem? (i := 968) (by decide +kernel)⟩
theorem lw_p55 : lw_okq (⟨"DiscourseContextsModel", "endsRow", "()V"⟩, 29) := ⟨⟨by decide +kernel, by decide +kernel⟩, List.mem_of_getElem? (i := 755) (by decide +kernel), List.mem_of_getElem? (i := 971) (by decide +kernel), List.mem_of_getElem? (i := 972) (by decide +kernel)⟩
theorem lw_p56 : lw_okq (⟨"DiscourseContextsModel", "endsChoice", "()V"⟩, 29) := ⟨⟨by decide +kernel, by decide +kernel⟩, List.mem_of_getElem? (i := 755) (by decide +kernel), List.mem_of_getElem? (i := 975) (by decide +kernel), List.mem_of_getElem? (i := 976) (by decide +kernel)⟩
theorem lw_p57 : lw_okq (⟨"DiscourseContextsModel", "under", "()I"⟩, 29) := ⟨⟨by decide +kernel, by decide +kernel⟩, List.mem_of_getElem? (i := 755) (by decide +kernel), List.mem_of_getElem? (i := 979) (by decide +kernel), List.mem_of_getElem? (i := 980) (by decide +kernel)⟩
theorem lw_p58 : lw_okq (⟨"DiscourseContextsModel", "endsFormula", "()V"⟩, 29) := ⟨⟨by decide +kernel, by decide +kernel⟩, List.mem_of_getElem? (i := 755) (by decide +kernel), List.mem_of_getElem? (i := 983) (by decide +kernel), List.mem_of_getElem? (i := 984) (by decide +kernel)⟩
theorem lw_p59 : lw_okq (⟨"DiscourseContextsModel", "takes", "(IZI)Z"⟩, 29) := ⟨⟨by decide +kernel, by decide +kernel⟩, List.mem_of_getElem? (i := 755) (by decide +kernel), List.mem_of_getElem? (i := 987) (by decide +kernel), List.mem_of_getElem? (i := 988) (by decide +kernel)⟩
theorem lw_p60 : lw_okq (⟨"DiscourseContextsModel", "isSupported", "(I)Z"⟩, 29) := ⟨⟨by decide +kernel, by decide +kernel⟩, List.mem_of_getElem? (i := 755) (by decide +kernel), List.mem_of_getElem? (i := 991) (by decide +kernel), List.mem_of_getElem? (i := 992) (by decide +kernel)⟩
theorem lw_p61 : lw_okq (⟨"DiscourseContextsModel", "turns", "(I)V"⟩, 29) := ⟨⟨by decide +kernel, by decide +kernel⟩, List.mem_of_getElem? (i := 755) (by decide +kernel), List.mem_of_getElem? (i := 995) (by decide +kernel), List.mem_of_getElem? (i := 996) (by decide +kernel)⟩
theorem lw_p62 : lw_okq (⟨"DiscourseContextsModel", "inContext", "()I"⟩, 29) := ⟨⟨by decide +kernel, by decide +kernel⟩, List.mem_of_getElem? (i := 755) (by decide +kernel), List.mem_of_getElem? (i := 999) (by decide +kernel), List.mem_of_getElem? (i := 1000) (by decide +kernel)⟩
theorem lw_p63 : lw_okq (⟨"DiscourseContextsModel", "size", "()I"⟩, 29) := ⟨⟨by decide +kernel, by decide +kernel⟩, List.mem_of_getElem? (i := 755) (by decide +kernel), List.mem_of_getElem? (i := 1019) (by decide +kernel), List.mem_of_getElem? (i := 1020) (by decide +kernel)⟩
def lw_privs_4 : List (MethodName × Nat) := [(⟨"DiscourseContextsModel", "pushes", "(I)V"⟩, 29), (⟨"DiscourseContextsModel", "tests", "(III)Z"⟩, 29), (⟨"DiscourseContextsModel", "isSo", "(III)Z"⟩, 29), (⟨"DiscourseContextsModel", "pushesTest", "(Z)V"⟩, 29), (⟨"DiscourseContextsModel", "endsUnit", "()V"⟩, 29), (⟨"DiscourseContextsModel", "hasResults", "(I)V"⟩, 29), (⟨"DiscourseContextsModel", "leads", "(I)V"⟩, 29), (⟨"DiscourseContextsModel", "endsRow", "()V"⟩, 29), (⟨"DiscourseContextsModel", "endsChoice", "()V"⟩, 29), (⟨"DiscourseContextsModel", "under", "()I"⟩, 29), (⟨"DiscourseContextsModel", "endsFormula", "()V"⟩, 29), (⟨"DiscourseContextsModel", "takes", "(IZI)Z"⟩, 29), (⟨"DiscourseContextsModel", "isSupported", "(I)Z"⟩, 29), (⟨"DiscourseContextsModel", "turns", "(I)V"⟩, 29), (⟨"DiscourseContextsModel", "inContext", "()I"⟩, 29), (⟨"DiscourseContextsModel", "size", "()I"⟩, 29)]
theorem lw_r4 : ∀ q ∈ lw_privs_4, lw_okq q := List.forall_mem_cons.mpr ⟨lw_p48, List.forall_mem_cons.mpr ⟨lw_p49, List.forall_mem_cons.mpr ⟨lw_p50, List.forall_mem_cons.mpr ⟨lw_p51, List.forall_mem_cons.mpr ⟨lw_p52, List.forall_mem_cons.mpr ⟨lw_p53, List.forall_mem_cons.mpr ⟨lw_p54, List.forall_mem_cons.mpr ⟨lw_p55, List.forall_mem_cons.mpr ⟨lw_p56, List.forall_mem_cons.mpr ⟨lw_p57, List.forall_mem_cons.mpr ⟨lw_p58, List.forall_mem_cons.mpr ⟨lw_p59, List.forall_mem_cons.mpr ⟨lw_p60, List.forall_mem_cons.mpr ⟨lw_p61, List.forall_mem_cons.mpr ⟨lw_p62, List.forall_mem_cons.mpr ⟨lw_p63, fun _ h => absurd h List.not_mem_nil⟩⟩⟩⟩⟩⟩⟩⟩⟩⟩⟩⟩⟩⟩⟩⟩
theorem lw_p64 : lw_okq (⟨"DiscourseContextsModel", "isThere", "(I)Z"⟩, 29) := ⟨⟨by decide +kernel, by decide +kernel⟩, List.mem_of_getElem? (i := 755) (by decide +kernel), List.mem_of_getElem? (i := 1023) (by decide +kernel), List.mem_of_getElem? (i := 1024) (by decide +kernel)⟩
theorem lw_p65 : lw_okq (⟨"DiscourseContextsModel", "isKnown", "(I)Z"⟩, 29) := ⟨⟨by decide +kernel, by decide +kernel⟩, List.mem_of_getElem? (i := 755) (by decide +kernel), List.mem_of_getElem? (i := 1035) (by decide +kernel), List.mem_of_getElem? (i := 1036) (by decide +kernel)⟩
theorem lw_p66 : lw_okq (⟨"DiscourseContextsModel", "tries", "()I"⟩, 29) := ⟨⟨by decide +kernel, by decide +kernel⟩, List.mem_of_getElem? (i := 755) (by decide +kernel), List.mem_of_getElem? (i := 1055) (by decide +kernel), List.mem_of_getElem? (i := 1056) (by decide +kernel)⟩
theorem lw_p67 : lw_okq (⟨"DiscourseContextsModel", "error", "(I)I"⟩, 29) := ⟨⟨by decide +kernel, by decide +kernel⟩, List.mem_of_getElem? (i := 755) (by decide +kernel), List.mem_of_getElem? (i := 1059) (by decide +kernel), List.mem_of_getElem? (i := 1060) (by decide +kernel)⟩
theorem lw_p68 : lw_okq (⟨"DiscourseContextsModel", "takesContext", "(Z)V"⟩, 29) := ⟨⟨by decide +kernel, by decide +kernel⟩, List.mem_of_getElem? (i := 755) (by decide +kernel), List.mem_of_getElem? (i := 1063) (by decide +kernel), List.mem_of_getElem? (i := 1064) (by decide +kernel)⟩
theorem lw_p69 : lw_okq (⟨"DiscourseContextsModel", "isAllSupported", "(I)Z"⟩, 29) := ⟨⟨by decide +kernel, by decide +kernel⟩, List.mem_of_getElem? (i := 755) (by decide +kernel), List.mem_of_getElem? (i := 1091) (by decide +kernel), List.mem_of_getElem? (i := 1092) (by decide +kernel)⟩
def lw_privs_5 : List (MethodName × Nat) := [(⟨"DiscourseContextsModel", "isThere", "(I)Z"⟩, 29), (⟨"DiscourseContextsModel", "isKnown", "(I)Z"⟩, 29), (⟨"DiscourseContextsModel", "tries", "()I"⟩, 29), (⟨"DiscourseContextsModel", "error", "(I)I"⟩, 29), (⟨"DiscourseContextsModel", "takesContext", "(Z)V"⟩, 29), (⟨"DiscourseContextsModel", "isAllSupported", "(I)Z"⟩, 29)]
theorem lw_r5 : ∀ q ∈ lw_privs_5, lw_okq q := List.forall_mem_cons.mpr ⟨lw_p64, List.forall_mem_cons.mpr ⟨lw_p65, List.forall_mem_cons.mpr ⟨lw_p66, List.forall_mem_cons.mpr ⟨lw_p67, List.forall_mem_cons.mpr ⟨lw_p68, List.forall_mem_cons.mpr ⟨lw_p69, fun _ h => absurd h List.not_mem_nil⟩⟩⟩⟩⟩⟩
def lw_privs : List (MethodName × Nat) := lw_privs_1 ++ (lw_privs_2 ++ (lw_privs_3 ++ (lw_privs_4 ++ (lw_privs_5))))
def lw_tbl : List Cond := k2_sels lw_privs ++ tables_1
theorem lw_privs_ok : ∀ q ∈ lw_privs, lw_okq q := by
  show ∀ q ∈ lw_privs_1 ++ (lw_privs_2 ++ (lw_privs_3 ++ (lw_privs_4 ++ (lw_privs_5)))), lw_okq q
  exact List.forall_mem_append.mpr ⟨lw_r1, List.forall_mem_append.mpr ⟨lw_r2, List.forall_mem_append.mpr ⟨lw_r3, List.forall_mem_append.mpr ⟨lw_r4, lw_r5⟩⟩⟩⟩
-- ===== end of PART A; then your names; then what follows =====
theorem goodIn_ca {big a b : List Cond} {c : Cond} (ha : GoodIn big (c :: a)) (hb : GoodIn big b) : GoodIn big (c :: (a ++ b)) := fun w h => (List.mem_cons.mp h).elim (fun e => ha w (List.mem_cons.mpr (Or.inl e))) (fun h => (List.mem_append.mp h).elim (fun h => ha w (List.mem_cons.mpr (Or.inr h))) (hb w))
theorem goodIn_sub {big ws : List Cond} (hm : ∀ w ∈ ws, w ∈ big) (h : ws.all goodWord = true) : GoodIn big ws := fun w hw => ⟨hm w hw, good_of_word (List.all_eq_true.mp h w hw)⟩
/-! ===== END ===== -/

/-! ===== BEGIN printed: names, fields, word lists, decode rows ===== -/
def RX0 : String := "DiscourseContexts$Acceptance"
def TX0 : u_T := fun k => match k with
  | 0 => ("DiscourseContexts$Acceptance", "meaning", "LDiscourseContexts$Meaning;", true)
  | 1 => ("DiscourseContexts$Acceptance", "context", "LDiscourseContexts$Assignments;", true)
  | 2 => ("DiscourseContexts$Acceptance", "supporting", "LDiscourseContexts$Assignments;", true)
  | 3 => ("DiscourseContexts$Acceptance", "accommodatedParts", "J", false)
  | _ => ("DiscourseContexts$Acceptance", "failingPlace", "I", false)
def tyX0 : Nat → FieldType := fun k => match k with
  | 0 => .object "DiscourseContexts$Meaning"
  | 1 => .object "DiscourseContexts$Assignments"
  | 2 => .object "DiscourseContexts$Assignments"
  | 3 => .long
  | _ => .int
abbrev wsX00 : List Cond := u_ws RX0 TX0 5
theorem nmX0 : ∀ a, a < 5 → ∀ b, b < 5 → a ≠ b → (TX0 a).2.1 ≠ (TX0 b).2.1 := by decide +kernel
theorem tyX0_ok : ∀ k, k < 5 → parseFieldDescriptor (TX0 k).2.2.1 = some (tyX0 k) := by decide +kernel
abbrev cX0_init : ByteArray := prog_2_method_1_code
def yX0_init : MethodName := ⟨RX0, "<init>", "(LDiscourseContexts$Meaning;)V"⟩
abbrev cX0_succeeds : ByteArray := prog_2_method_2_code
def yX0_succeeds : MethodName := ⟨RX0, "succeeds", "(LDiscourseContexts$Node;LDiscourseContexts$State;)Z"⟩
def RX1 : String := "DiscourseContexts$Assignments"
def TX1 : u_T := fun k => match k with
  | _ => ("DiscourseContexts$Assignments", "words", "[J", true)
def tyX1 : Nat → FieldType := fun k => match k with
  | _ => .array .long
abbrev wsX10 : List Cond := u_ws RX1 TX1 1
theorem nmX1 : ∀ a, a < 1 → ∀ b, b < 1 → a ≠ b → (TX1 a).2.1 ≠ (TX1 b).2.1 := by decide +kernel
theorem tyX1_ok : ∀ k, k < 1 → parseFieldDescriptor (TX1 k).2.2.1 = some (tyX1 k) := by decide +kernel
abbrev cX1_init : ByteArray := prog_3_method_1_code
def yX1_init : MethodName := ⟨RX1, "<init>", "()V"⟩
abbrev cX1_makeFirst : ByteArray := prog_3_method_2_code
def yX1_makeFirst : MethodName := ⟨RX1, "makeFirst", "()V"⟩
abbrev cX1_fill : ByteArray := prog_3_method_3_code
def yX1_fill : MethodName := ⟨RX1, "fill", "(J)V"⟩
abbrev cX1_copyFrom : ByteArray := prog_3_method_4_code
def yX1_copyFrom : MethodName := ⟨RX1, "copyFrom", "(LDiscourseContexts$Assignments;)V"⟩
abbrev cX1_unite : ByteArray := prog_3_method_5_code
def yX1_unite : MethodName := ⟨RX1, "unite", "(LDiscourseContexts$Assignments;)V"⟩
abbrev cX1_keep : ByteArray := prog_3_method_6_code
def yX1_keep : MethodName := ⟨RX1, "keep", "(LDiscourseContexts$Assignments;)V"⟩
abbrev cX1_remove : ByteArray := prog_3_method_7_code
def yX1_remove : MethodName := ⟨RX1, "remove", "(LDiscourseContexts$Assignments;)V"⟩
abbrev cX1_complement : ByteArray := prog_3_method_8_code
def yX1_complement : MethodName := ⟨RX1, "complement", "()V"⟩
abbrev cX1_isWithin : ByteArray := prog_3_method_9_code
def yX1_isWithin : MethodName := ⟨RX1, "isWithin", "(LDiscourseContexts$Assignments;)Z"⟩
abbrev cX1_isEmpty : ByteArray := prog_3_method_10_code
def yX1_isEmpty : MethodName := ⟨RX1, "isEmpty", "()Z"⟩
abbrev cX1_size : ByteArray := prog_3_method_11_code
def yX1_size : MethodName := ⟨RX1, "size", "()I"⟩
abbrev cX1_countOf : ByteArray := prog_3_method_12_code
def yX1_countOf : MethodName := ⟨RX1, "countOf", "(IIII)I"⟩
abbrev cX1_valuesOf : ByteArray := prog_3_method_13_code
def yX1_valuesOf : MethodName := ⟨RX1, "valuesOf", "(I)I"⟩
abbrev cX1_keepValues : ByteArray := prog_3_method_14_code
def yX1_keepValues : MethodName := ⟨RX1, "keepValues", "(II)V"⟩
abbrev cX1_keepPartners : ByteArray := prog_3_method_15_code
def yX1_keepPartners : MethodName := ⟨RX1, "keepPartners", "(IIII)V"⟩
abbrev cX1_vary : ByteArray := prog_3_method_16_code
def yX1_vary : MethodName := ⟨RX1, "vary", "(III)V"⟩
abbrev cX1_varyWords : ByteArray := prog_3_method_17_code
def yX1_varyWords : MethodName := ⟨RX1, "varyWords", "(II)V"⟩
abbrev cX1_varied : ByteArray := prog_3_method_18_code
def yX1_varied : MethodName := ⟨RX1, "varied", "(JIJII)J"⟩
abbrev cX1_mask : ByteArray := prog_3_method_19_code
def yX1_mask : MethodName := ⟨RX1, "mask", "(III)J"⟩
def RX2 : String := "DiscourseContexts$History"
def TX2 : u_T := fun k => match k with
  | 0 => ("DiscourseContexts$History", "states", "[LDiscourseContexts$State;", true)
  | 1 => ("DiscourseContexts$History", "place", "I", false)
  | _ => ("DiscourseContexts$History", "size", "I", false)
def tyX2 : Nat → FieldType := fun k => match k with
  | 0 => .array (.object "DiscourseContexts$State")
  | 1 => .int
  | _ => .int
abbrev wsX20 : List Cond := u_ws RX2 TX2 3
theorem nmX2 : ∀ a, a < 3 → ∀ b, b < 3 → a ≠ b → (TX2 a).2.1 ≠ (TX2 b).2.1 := by decide +kernel
theorem tyX2_ok : ∀ k, k < 3 → parseFieldDescriptor (TX2 k).2.2.1 = some (tyX2 k) := by decide +kernel
abbrev cX2_init : ByteArray := prog_4_method_1_code
def yX2_init : MethodName := ⟨RX2, "<init>", "()V"⟩
abbrev cX2_record : ByteArray := prog_4_method_2_code
def yX2_record : MethodName := ⟨RX2, "record", "(LDiscourseContexts$State;)V"⟩
abbrev cX2_restore : ByteArray := prog_4_method_3_code
def yX2_restore : MethodName := ⟨RX2, "restore", "(LDiscourseContexts$State;)Z"⟩
def RX3 : String := "DiscourseContexts$Knowledge"
def TX3 : u_T := fun k => match k with
  | 0 => ("DiscourseContexts$Knowledge", "knownBehind", "I", false)
  | 1 => ("DiscourseContexts$Knowledge", "unknownAt", "I", false)
  | _ => ("DiscourseContexts$Knowledge", "scopesAround", "I", false)
def tyX3 : Nat → FieldType := fun k => match k with
  | 0 => .int
  | 1 => .int
  | _ => .int
abbrev wsX30 : List Cond := u_ws RX3 TX3 3
theorem nmX3 : ∀ a, a < 3 → ∀ b, b < 3 → a ≠ b → (TX3 a).2.1 ≠ (TX3 b).2.1 := by decide +kernel
theorem tyX3_ok : ∀ k, k < 3 → parseFieldDescriptor (TX3 k).2.2.1 = some (tyX3 k) := by decide +kernel
abbrev cX3_init : ByteArray := prog_5_method_1_code
def yX3_init : MethodName := ⟨RX3, "<init>", "()V"⟩
abbrev cX3_suffices : ByteArray := prog_5_method_2_code
def yX3_suffices : MethodName := ⟨RX3, "suffices", "(LDiscourseContexts$Node;I)Z"⟩
abbrev cX3_readOver : ByteArray := prog_5_method_3_code
def yX3_readOver : MethodName := ⟨RX3, "readOver", "(LDiscourseContexts$Node;II)I"⟩
abbrev cX3_readChain : ByteArray := prog_5_method_4_code
def yX3_readChain : MethodName := ⟨RX3, "readChain", "(LDiscourseContexts$Node;II)I"⟩
abbrev cX3_readEach : ByteArray := prog_5_method_5_code
def yX3_readEach : MethodName := ⟨RX3, "readEach", "(LDiscourseContexts$Node;II)V"⟩
abbrev cX3_look : ByteArray := prog_5_method_6_code
def yX3_look : MethodName := ⟨RX3, "look", "(IIII)V"⟩
def RX4 : String := "DiscourseContexts$Meaning"
def TX4 : u_T := fun k => match k with
  | _ => ("DiscourseContexts$Meaning", "world", "LDiscourseContexts$World;", true)
def tyX4 : Nat → FieldType := fun k => match k with
  | _ => .object "DiscourseContexts$World"
abbrev wsX40 : List Cond := u_ws RX4 TX4 1
theorem nmX4 : ∀ a, a < 1 → ∀ b, b < 1 → a ≠ b → (TX4 a).2.1 ≠ (TX4 b).2.1 := by decide +kernel
theorem tyX4_ok : ∀ k, k < 1 → parseFieldDescriptor (TX4 k).2.2.1 = some (tyX4 k) := by decide +kernel
abbrev cX4_init : ByteArray := prog_6_method_1_code
def yX4_init : MethodName := ⟨RX4, "<init>", "(LDiscourseContexts$World;)V"⟩
abbrev cX4_turn : ByteArray := prog_6_method_2_code
def yX4_turn : MethodName := ⟨RX4, "turn", "(LDiscourseContexts$Node;LDiscourseContexts$Assignments;Z)V"⟩
abbrev cX4_findSupporting : ByteArray := prog_6_method_3_code
def yX4_findSupporting : MethodName := ⟨RX4, "findSupporting", "(LDiscourseContexts$Node;LDiscourseContexts$Assignments;)V"⟩
abbrev cX4_turnByChain : ByteArray := prog_6_method_4_code
def yX4_turnByChain : MethodName := ⟨RX4, "turnByChain", "(LDiscourseContexts$Node;LDiscourseContexts$Assignments;Z)V"⟩
abbrev cX4_turnBySome : ByteArray := prog_6_method_5_code
def yX4_turnBySome : MethodName := ⟨RX4, "turnBySome", "(LDiscourseContexts$Node;LDiscourseContexts$Assignments;Z)V"⟩
abbrev cX4_keepByChoice : ByteArray := prog_6_method_6_code
def yX4_keepByChoice : MethodName := ⟨RX4, "keepByChoice", "(LDiscourseContexts$Node;LDiscourseContexts$Assignments;)V"⟩
abbrev cX4_keepByCondition : ByteArray := prog_6_method_7_code
def yX4_keepByCondition : MethodName := ⟨RX4, "keepByCondition", "(LDiscourseContexts$Node;LDiscourseContexts$Assignments;)V"⟩
abbrev cX4_keepByOne : ByteArray := prog_6_method_8_code
def yX4_keepByOne : MethodName := ⟨RX4, "keepByOne", "(LDiscourseContexts$Node;LDiscourseContexts$Assignments;)V"⟩
abbrev cX4_keepByTwo : ByteArray := prog_6_method_9_code
def yX4_keepByTwo : MethodName := ⟨RX4, "keepByTwo", "(LDiscourseContexts$Node;LDiscourseContexts$Assignments;)V"⟩
abbrev cX4_holds : ByteArray := prog_6_method_10_code
def yX4_holds : MethodName := ⟨RX4, "holds", "(LDiscourseContexts$Node;II)Z"⟩
def RX5 : String := "DiscourseContexts$Node"
def TX5 : u_T := fun k => match k with
  | 0 => ("DiscourseContexts$Node", "kind", "I", false)
  | 1 => ("DiscourseContexts$Node", "number", "I", false)
  | 2 => ("DiscourseContexts$Node", "place", "I", false)
  | 3 => ("DiscourseContexts$Node", "otherPlace", "I", false)
  | 4 => ("DiscourseContexts$Node", "variable", "I", false)
  | 5 => ("DiscourseContexts$Node", "otherVariable", "I", false)
  | 6 => ("DiscourseContexts$Node", "first", "LDiscourseContexts$Node;", false)
  | 7 => ("DiscourseContexts$Node", "last", "LDiscourseContexts$Node;", false)
  | 8 => ("DiscourseContexts$Node", "next", "LDiscourseContexts$Node;", false)
  | 9 => ("DiscourseContexts$Node", "previous", "LDiscourseContexts$Node;", false)
  | 10 => ("DiscourseContexts$Node", "found", "LDiscourseContexts$Assignments;", true)
  | _ => ("DiscourseContexts$Node", "foundInRow", "LDiscourseContexts$Assignments;", true)
def tyX5 : Nat → FieldType := fun k => match k with
  | 0 => .int
  | 1 => .int
  | 2 => .int
  | 3 => .int
  | 4 => .int
  | 5 => .int
  | 6 => .object "DiscourseContexts$Node"
  | 7 => .object "DiscourseContexts$Node"
  | 8 => .object "DiscourseContexts$Node"
  | 9 => .object "DiscourseContexts$Node"
  | 10 => .object "DiscourseContexts$Assignments"
  | _ => .object "DiscourseContexts$Assignments"
abbrev wsX50 : List Cond := u_ws RX5 TX5 12
theorem nmX5 : ∀ a, a < 12 → ∀ b, b < 12 → a ≠ b → (TX5 a).2.1 ≠ (TX5 b).2.1 := by decide +kernel
theorem tyX5_ok : ∀ k, k < 12 → parseFieldDescriptor (TX5 k).2.2.1 = some (tyX5 k) := by decide +kernel
abbrev cX5_init : ByteArray := prog_7_method_1_code
def yX5_init : MethodName := ⟨RX5, "<init>", "()V"⟩
abbrev cX5_add : ByteArray := prog_7_method_2_code
def yX5_add : MethodName := ⟨RX5, "add", "(LDiscourseContexts$Node;)V"⟩
def RX6 : String := "DiscourseContexts$Parser"
def TX6 : u_T := fun k => match k with
  | 0 => ("DiscourseContexts$Parser", "text", "LDiscourseContexts$Text;", true)
  | 1 => ("DiscourseContexts$Parser", "nodes", "[LDiscourseContexts$Node;", true)
  | 2 => ("DiscourseContexts$Parser", "used", "I", false)
  | 3 => ("DiscourseContexts$Parser", "openSigns", "I", false)
  | _ => ("DiscourseContexts$Parser", "position", "I", false)
def tyX6 : Nat → FieldType := fun k => match k with
  | 0 => .object "DiscourseContexts$Text"
  | 1 => .array (.object "DiscourseContexts$Node")
  | 2 => .int
  | 3 => .int
  | _ => .int
abbrev wsX60 : List Cond := u_ws RX6 TX6 5
theorem nmX6 : ∀ a, a < 5 → ∀ b, b < 5 → a ≠ b → (TX6 a).2.1 ≠ (TX6 b).2.1 := by decide +kernel
theorem tyX6_ok : ∀ k, k < 5 → parseFieldDescriptor (TX6 k).2.2.1 = some (tyX6 k) := by decide +kernel
abbrev cX6_init : ByteArray := prog_8_method_1_code
def yX6_init : MethodName := ⟨RX6, "<init>", "(LDiscourseContexts$Text;)V"⟩
abbrev cX6_discourse : ByteArray := prog_8_method_2_code
def yX6_discourse : MethodName := ⟨RX6, "discourse", "()LDiscourseContexts$Node;"⟩
abbrev cX6_part : ByteArray := prog_8_method_3_code
def yX6_part : MethodName := ⟨RX6, "part", "()LDiscourseContexts$Node;"⟩
abbrev cX6_formula : ByteArray := prog_8_method_4_code
def yX6_formula : MethodName := ⟨RX6, "formula", "()LDiscourseContexts$Node;"⟩
abbrev cX6_choice : ByteArray := prog_8_method_5_code
def yX6_choice : MethodName := ⟨RX6, "choice", "()LDiscourseContexts$Node;"⟩
abbrev cX6_row : ByteArray := prog_8_method_6_code
def yX6_row : MethodName := ⟨RX6, "row", "()LDiscourseContexts$Node;"⟩
abbrev cX6_unit : ByteArray := prog_8_method_7_code
def yX6_unit : MethodName := ⟨RX6, "unit", "()LDiscourseContexts$Node;"⟩
abbrev cX6_negation : ByteArray := prog_8_method_8_code
def yX6_negation : MethodName := ⟨RX6, "negation", "()LDiscourseContexts$Node;"⟩
abbrev cX6_group : ByteArray := prog_8_method_9_code
def yX6_group : MethodName := ⟨RX6, "group", "()LDiscourseContexts$Node;"⟩
abbrev cX6_aboutOne : ByteArray := prog_8_method_10_code
def yX6_aboutOne : MethodName := ⟨RX6, "aboutOne", "(II)LDiscourseContexts$Node;"⟩
abbrev cX6_aboutTwo : ByteArray := prog_8_method_11_code
def yX6_aboutTwo : MethodName := ⟨RX6, "aboutTwo", "(I)LDiscourseContexts$Node;"⟩
abbrev cX6_count : ByteArray := prog_8_method_12_code
def yX6_count : MethodName := ⟨RX6, "count", "(I)LDiscourseContexts$Node;"⟩
abbrev cX6_comparison : ByteArray := prog_8_method_13_code
def yX6_comparison : MethodName := ⟨RX6, "comparison", "()LDiscourseContexts$Node;"⟩
abbrev cX6_simple : ByteArray := prog_8_method_14_code
def yX6_simple : MethodName := ⟨RX6, "simple", "(IIII)LDiscourseContexts$Node;"⟩
abbrev cX6_holding : ByteArray := prog_8_method_15_code
def yX6_holding : MethodName := ⟨RX6, "holding", "(ILDiscourseContexts$Node;)LDiscourseContexts$Node;"⟩
abbrev cX6_joined : ByteArray := prog_8_method_16_code
def yX6_joined : MethodName := ⟨RX6, "joined", "(LDiscourseContexts$Node;LDiscourseContexts$Node;)LDiscourseContexts$Node;"⟩
abbrev cX6_taken : ByteArray := prog_8_method_17_code
def yX6_taken : MethodName := ⟨RX6, "taken", "(I)LDiscourseContexts$Node;"⟩
abbrev cX6_skip : ByteArray := prog_8_method_18_code
def yX6_skip : MethodName := ⟨RX6, "skip", "(C)Z"⟩
abbrev cX6_skipVariable : ByteArray := prog_8_method_19_code
def yX6_skipVariable : MethodName := ⟨RX6, "skipVariable", "()Z"⟩
abbrev cX6_openSign : ByteArray := prog_8_method_20_code
def yX6_openSign : MethodName := ⟨RX6, "openSign", "()Z"⟩
def RX7 : String := "DiscourseContexts$State"
def TX7 : u_T := fun k => match k with
  | 0 => ("DiscourseContexts$State", "world", "LDiscourseContexts$World;", true)
  | 1 => ("DiscourseContexts$State", "context", "LDiscourseContexts$Assignments;", true)
  | 2 => ("DiscourseContexts$State", "knownVariables", "I", false)
  | 3 => ("DiscourseContexts$State", "accommodating", "Z", false)
  | _ => ("DiscourseContexts$State", "accommodatedParts", "J", false)
def tyX7 : Nat → FieldType := fun k => match k with
  | 0 => .object "DiscourseContexts$World"
  | 1 => .object "DiscourseContexts$Assignments"
  | 2 => .int
  | 3 => .boolean
  | _ => .long
abbrev wsX70 : List Cond := u_ws RX7 TX7 5
theorem nmX7 : ∀ a, a < 5 → ∀ b, b < 5 → a ≠ b → (TX7 a).2.1 ≠ (TX7 b).2.1 := by decide +kernel
theorem tyX7_ok : ∀ k, k < 5 → parseFieldDescriptor (TX7 k).2.2.1 = some (tyX7 k) := by decide +kernel
abbrev cX7_init : ByteArray := prog_9_method_1_code
def yX7_init : MethodName := ⟨RX7, "<init>", "()V"⟩
abbrev cX7_forgetContext : ByteArray := prog_9_method_2_code
def yX7_forgetContext : MethodName := ⟨RX7, "forgetContext", "()V"⟩
abbrev cX7_knows : ByteArray := prog_9_method_3_code
def yX7_knows : MethodName := ⟨RX7, "knows", "(I)Z"⟩
abbrev cX7_copyFrom : ByteArray := prog_9_method_4_code
def yX7_copyFrom : MethodName := ⟨RX7, "copyFrom", "(LDiscourseContexts$State;)V"⟩
def RX8 : String := "DiscourseContexts$Text"
def TX8 : u_T := fun k => match k with
  | 0 => ("DiscourseContexts$Text", "characters", "[C", true)
  | _ => ("DiscourseContexts$Text", "length", "I", false)
def tyX8 : Nat → FieldType := fun k => match k with
  | 0 => .array .char
  | _ => .int
abbrev wsX80 : List Cond := u_ws RX8 TX8 2
theorem nmX8 : ∀ a, a < 2 → ∀ b, b < 2 → a ≠ b → (TX8 a).2.1 ≠ (TX8 b).2.1 := by decide +kernel
theorem tyX8_ok : ∀ k, k < 2 → parseFieldDescriptor (TX8 k).2.2.1 = some (tyX8 k) := by decide +kernel
abbrev cX8_init : ByteArray := prog_10_method_1_code
def yX8_init : MethodName := ⟨RX8, "<init>", "()V"⟩
abbrev cX8_append : ByteArray := prog_10_method_2_code
def yX8_append : MethodName := ⟨RX8, "append", "(C)Z"⟩
abbrev cX8_at : ByteArray := prog_10_method_3_code
def yX8_at : MethodName := ⟨RX8, "at", "(I)C"⟩
def RX9 : String := "DiscourseContexts$World"
def TX9 : u_T := fun k => match k with
  | 0 => ("DiscourseContexts$World", "population", "I", false)
  | 1 => ("DiscourseContexts$World", "sets", "[I", true)
  | _ => ("DiscourseContexts$World", "pairs", "[I", true)
def tyX9 : Nat → FieldType := fun k => match k with
  | 0 => .int
  | 1 => .array .int
  | _ => .array .int
abbrev wsX90 : List Cond := u_ws RX9 TX9 3
theorem nmX9 : ∀ a, a < 3 → ∀ b, b < 3 → a ≠ b → (TX9 a).2.1 ≠ (TX9 b).2.1 := by decide +kernel
theorem tyX9_ok : ∀ k, k < 3 → parseFieldDescriptor (TX9 k).2.2.1 = some (tyX9 k) := by decide +kernel
abbrev cX9_init : ByteArray := prog_11_method_1_code
def yX9_init : MethodName := ⟨RX9, "<init>", "()V"⟩
abbrev cX9_begin : ByteArray := prog_11_method_2_code
def yX9_begin : MethodName := ⟨RX9, "begin", "(I)V"⟩
abbrev cX9_copyFrom : ByteArray := prog_11_method_3_code
def yX9_copyFrom : MethodName := ⟨RX9, "copyFrom", "(LDiscourseContexts$World;)V"⟩
abbrev cX9_everybody : ByteArray := prog_11_method_4_code
def yX9_everybody : MethodName := ⟨RX9, "everybody", "()I"⟩
abbrev cX9_setOf : ByteArray := prog_11_method_5_code
def yX9_setOf : MethodName := ⟨RX9, "setOf", "(I)I"⟩
abbrev cX9_giveSet : ByteArray := prog_11_method_6_code
def yX9_giveSet : MethodName := ⟨RX9, "giveSet", "(II)V"⟩
abbrev cX9_hasPair : ByteArray := prog_11_method_7_code
def yX9_hasPair : MethodName := ⟨RX9, "hasPair", "(III)Z"⟩
abbrev cX9_putPair : ByteArray := prog_11_method_8_code
def yX9_putPair : MethodName := ⟨RX9, "putPair", "(IIIZ)V"⟩
abbrev cX9_relates : ByteArray := prog_11_method_9_code
def yX9_relates : MethodName := ⟨RX9, "relates", "(III)Z"⟩
def RX10 : String := "DiscourseContexts"
def TX10 : u_T := fun k => match k with
  | 0 => ("DiscourseContexts", "now", "LDiscourseContexts$State;", true)
  | 1 => ("DiscourseContexts", "history", "LDiscourseContexts$History;", true)
  | 2 => ("DiscourseContexts", "text", "LDiscourseContexts$Text;", true)
  | 3 => ("DiscourseContexts", "parser", "LDiscourseContexts$Parser;", true)
  | 4 => ("DiscourseContexts", "knowledge", "LDiscourseContexts$Knowledge;", true)
  | 5 => ("DiscourseContexts", "meaning", "LDiscourseContexts$Meaning;", true)
  | 6 => ("DiscourseContexts", "acceptance", "LDiscourseContexts$Acceptance;", true)
  | 7 => ("DiscourseContexts", "otherWorld", "LDiscourseContexts$World;", true)
  | 8 => ("DiscourseContexts", "otherMeaning", "LDiscourseContexts$Meaning;", true)
  | _ => ("DiscourseContexts", "results", "LDiscourseContexts$Assignments;", true)
def tyX10 : Nat → FieldType := fun k => match k with
  | 0 => .object "DiscourseContexts$State"
  | 1 => .object "DiscourseContexts$History"
  | 2 => .object "DiscourseContexts$Text"
  | 3 => .object "DiscourseContexts$Parser"
  | 4 => .object "DiscourseContexts$Knowledge"
  | 5 => .object "DiscourseContexts$Meaning"
  | 6 => .object "DiscourseContexts$Acceptance"
  | 7 => .object "DiscourseContexts$World"
  | 8 => .object "DiscourseContexts$Meaning"
  | _ => .object "DiscourseContexts$Assignments"
abbrev wsX100 : List Cond := u_ws RX10 TX10 10
theorem nmX10 : ∀ a, a < 10 → ∀ b, b < 10 → a ≠ b → (TX10 a).2.1 ≠ (TX10 b).2.1 := by decide +kernel
theorem tyX10_ok : ∀ k, k < 10 → parseFieldDescriptor (TX10 k).2.2.1 = some (tyX10 k) := by decide +kernel
abbrev cX10_init : ByteArray := prog_1_method_1_code
def yX10_init : MethodName := ⟨RX10, "<init>", "()V"⟩
abbrev cX10_setIndividuals : ByteArray := prog_1_method_2_code
def yX10_setIndividuals : MethodName := ⟨RX10, "setIndividuals", "(I)I"⟩
abbrev cX10_setPredicate : ByteArray := prog_1_method_3_code
def yX10_setPredicate : MethodName := ⟨RX10, "setPredicate", "(II)I"⟩
abbrev cX10_setPair : ByteArray := prog_1_method_4_code
def yX10_setPair : MethodName := ⟨RX10, "setPair", "(IIII)I"⟩
abbrev cX10_individuals : ByteArray := prog_1_method_5_code
def yX10_individuals : MethodName := ⟨RX10, "individuals", "()I"⟩
abbrev cX10_predicate : ByteArray := prog_1_method_6_code
def yX10_predicate : MethodName := ⟨RX10, "predicate", "(I)I"⟩
abbrev cX10_relationHolds : ByteArray := prog_1_method_7_code
def yX10_relationHolds : MethodName := ⟨RX10, "relationHolds", "(III)I"⟩
abbrev cX10_type : ByteArray := prog_1_method_8_code
def yX10_type : MethodName := ⟨RX10, "type", "(I)I"⟩
abbrev cX10_clearText : ByteArray := prog_1_method_9_code
def yX10_clearText : MethodName := ⟨RX10, "clearText", "()I"⟩
abbrev cX10_syntaxFault : ByteArray := prog_1_method_10_code
def yX10_syntaxFault : MethodName := ⟨RX10, "syntaxFault", "()I"⟩
abbrev cX10_unknownVariable : ByteArray := prog_1_method_11_code
def yX10_unknownVariable : MethodName := ⟨RX10, "unknownVariable", "()I"⟩
abbrev cX10_unknownDepth : ByteArray := prog_1_method_12_code
def yX10_unknownDepth : MethodName := ⟨RX10, "unknownDepth", "()I"⟩
abbrev cX10_partCount : ByteArray := prog_1_method_13_code
def yX10_partCount : MethodName := ⟨RX10, "partCount", "()I"⟩
abbrev cX10_contextSize : ByteArray := prog_1_method_14_code
def yX10_contextSize : MethodName := ⟨RX10, "contextSize", "()I"⟩
abbrev cX10_known : ByteArray := prog_1_method_15_code
def yX10_known : MethodName := ⟨RX10, "known", "()I"⟩
abbrev cX10_objects : ByteArray := prog_1_method_16_code
def yX10_objects : MethodName := ⟨RX10, "objects", "(I)I"⟩
abbrev cX10_together : ByteArray := prog_1_method_17_code
def yX10_together : MethodName := ⟨RX10, "together", "(IIII)I"⟩
abbrev cX10_resetContext : ByteArray := prog_1_method_18_code
def yX10_resetContext : MethodName := ⟨RX10, "resetContext", "()I"⟩
abbrev cX10_setAccommodation : ByteArray := prog_1_method_19_code
def yX10_setAccommodation : MethodName := ⟨RX10, "setAccommodation", "(I)I"⟩
abbrev cX10_accept : ByteArray := prog_1_method_20_code
def yX10_accept : MethodName := ⟨RX10, "accept", "()I"⟩
abbrev cX10_acceptable : ByteArray := prog_1_method_21_code
def yX10_acceptable : MethodName := ⟨RX10, "acceptable", "()I"⟩
abbrev cX10_failingAt : ByteArray := prog_1_method_22_code
def yX10_failingAt : MethodName := ⟨RX10, "failingAt", "()I"⟩
abbrev cX10_accommodated : ByteArray := prog_1_method_23_code
def yX10_accommodated : MethodName := ⟨RX10, "accommodated", "()I"⟩
abbrev cX10_accommodatedPart : ByteArray := prog_1_method_24_code
def yX10_accommodatedPart : MethodName := ⟨RX10, "accommodatedPart", "(I)I"⟩
abbrev cX10_sizeBehind : ByteArray := prog_1_method_25_code
def yX10_sizeBehind : MethodName := ⟨RX10, "sizeBehind", "(I)I"⟩
abbrev cX10_supports : ByteArray := prog_1_method_26_code
def yX10_supports : MethodName := ⟨RX10, "supports", "()I"⟩
abbrev cX10_worldsTrue : ByteArray := prog_1_method_27_code
def yX10_worldsTrue : MethodName := ⟨RX10, "worldsTrue", "()I"⟩
abbrev cX10_historySize : ByteArray := prog_1_method_28_code
def yX10_historySize : MethodName := ⟨RX10, "historySize", "()I"⟩
abbrev cX10_undo : ByteArray := prog_1_method_29_code
def yX10_undo : MethodName := ⟨RX10, "undo", "()I"⟩
abbrev cX10_tryAccepting : ByteArray := prog_1_method_30_code
def yX10_tryAccepting : MethodName := ⟨RX10, "tryAccepting", "(LDiscourseContexts$Node;)I"⟩
abbrev cX10_isTrueInOtherWorld : ByteArray := prog_1_method_31_code
def yX10_isTrueInOtherWorld : MethodName := ⟨RX10, "isTrueInOtherWorld", "(LDiscourseContexts$Node;)Z"⟩
abbrev cX10_isIndividual : ByteArray := prog_1_method_32_code
def yX10_isIndividual : MethodName := ⟨RX10, "isIndividual", "(I)Z"⟩
abbrev cX10_isObject : ByteArray := prog_1_method_33_code
def yX10_isObject : MethodName := ⟨RX10, "isObject", "(I)Z"⟩
abbrev cX10_isPredicate : ByteArray := prog_1_method_34_code
def yX10_isPredicate : MethodName := ⟨RX10, "isPredicate", "(I)Z"⟩
abbrev cX10_isRelation : ByteArray := prog_1_method_35_code
def yX10_isRelation : MethodName := ⟨RX10, "isRelation", "(I)Z"⟩
abbrev cX10_isVariable : ByteArray := prog_1_method_36_code
def yX10_isVariable : MethodName := ⟨RX10, "isVariable", "(I)Z"⟩
abbrev cX10_isSwitch : ByteArray := prog_1_method_37_code
def yX10_isSwitch : MethodName := ⟨RX10, "isSwitch", "(I)Z"⟩
def RX11 : String := "DiscourseContextsModel"
def TX11 : u_T := fun k => match k with
  | 0 => ("DiscourseContextsModel", "s", "[I", true)
  | 1 => ("DiscourseContextsModel", "past", "[I", true)
  | 2 => ("DiscourseContextsModel", "pasts", "I", false)
  | 3 => ("DiscourseContextsModel", "text", "[I", true)
  | 4 => ("DiscourseContextsModel", "typed", "I", false)
  | 5 => ("DiscourseContextsModel", "act", "[I", true)
  | 6 => ("DiscourseContextsModel", "pass", "[Z", true)
  | 7 => ("DiscourseContextsModel", "many", "I", false)
  | 8 => ("DiscourseContextsModel", "now", "[Z", true)
  | 9 => ("DiscourseContextsModel", "then", "[Z", true)
  | 10 => ("DiscourseContextsModel", "context", "[Z", true)
  | 11 => ("DiscourseContextsModel", "evaluates", "Z", false)
  | 12 => ("DiscourseContextsModel", "at", "I", false)
  | 13 => ("DiscourseContextsModel", "known", "I", false)
  | 14 => ("DiscourseContextsModel", "unknown", "I", false)
  | 15 => ("DiscourseContextsModel", "deep", "I", false)
  | 16 => ("DiscourseContextsModel", "top", "I", false)
  | 17 => ("DiscourseContextsModel", "kind", "[I", true)
  | 18 => ("DiscourseContextsModel", "from", "[I", true)
  | 19 => ("DiscourseContextsModel", "ahead", "[I", true)
  | 20 => ("DiscourseContextsModel", "rows", "[I", true)
  | 21 => ("DiscourseContextsModel", "rowMark", "[Z", true)
  | 22 => ("DiscourseContextsModel", "arrowMark", "[Z", true)
  | 23 => ("DiscourseContextsModel", "hasArrow", "[Z", true)
  | 24 => ("DiscourseContextsModel", "any", "[Z", true)
  | 25 => ("DiscourseContextsModel", "parts", "I", false)
  | 26 => ("DiscourseContextsModel", "most", "I", false)
  | 27 => ("DiscourseContextsModel", "failing", "I", false)
  | _ => ("DiscourseContextsModel", "taken", "I", false)
def tyX11 : Nat → FieldType := fun k => match k with
  | 0 => .array .int
  | 1 => .array .int
  | 2 => .int
  | 3 => .array .int
  | 4 => .int
  | 5 => .array .int
  | 6 => .array .boolean
  | 7 => .int
  | 8 => .array .boolean
  | 9 => .array .boolean
  | 10 => .array .boolean
  | 11 => .boolean
  | 12 => .int
  | 13 => .int
  | 14 => .int
  | 15 => .int
  | 16 => .int
  | 17 => .array .int
  | 18 => .array .int
  | 19 => .array .int
  | 20 => .array .int
  | 21 => .array .boolean
  | 22 => .array .boolean
  | 23 => .array .boolean
  | 24 => .array .boolean
  | 25 => .int
  | 26 => .int
  | 27 => .int
  | _ => .int
abbrev wsX110 : List Cond := u_ws RX11 TX11 29
theorem nmX11 : ∀ a, a < 29 → ∀ b, b < 29 → a ≠ b → (TX11 a).2.1 ≠ (TX11 b).2.1 := by decide +kernel
theorem tyX11_ok : ∀ k, k < 29 → parseFieldDescriptor (TX11 k).2.2.1 = some (tyX11 k) := by decide +kernel
abbrev cX11_init : ByteArray := prog_13_method_1_code
def yX11_init : MethodName := ⟨RX11, "<init>", "()V"⟩
abbrev cX11_in : ByteArray := prog_13_method_3_code
def yX11_in : MethodName := ⟨RX11, "in", "(III)Z"⟩
abbrev cX11_acts : ByteArray := prog_13_method_4_code
def yX11_acts : MethodName := ⟨RX11, "acts", "()V"⟩
abbrev cX11_full : ByteArray := prog_13_method_5_code
def yX11_full : MethodName := ⟨RX11, "full", "()I"⟩
abbrev cX11_isObject : ByteArray := prog_13_method_6_code
def yX11_isObject : MethodName := ⟨RX11, "isObject", "(I)Z"⟩
abbrev cX11_isThere : ByteArray := prog_13_method_7_code
def yX11_isThere : MethodName := ⟨RX11, "isThere", "(I)Z"⟩
abbrev cX11_of : ByteArray := prog_13_method_8_code
def yX11_of : MethodName := ⟨RX11, "of", "(II)I"⟩
abbrev cX11_size : ByteArray := prog_13_method_9_code
def yX11_size : MethodName := ⟨RX11, "size", "()I"⟩
abbrev cX11_first : ByteArray := prog_13_method_10_code
def yX11_first : MethodName := ⟨RX11, "first", "()V"⟩
abbrev cX11_setIndividuals : ByteArray := prog_13_method_11_code
def yX11_setIndividuals : MethodName := ⟨RX11, "setIndividuals", "(I)I"⟩
abbrev cX11_setPredicate : ByteArray := prog_13_method_12_code
def yX11_setPredicate : MethodName := ⟨RX11, "setPredicate", "(II)I"⟩
abbrev cX11_setPair : ByteArray := prog_13_method_13_code
def yX11_setPair : MethodName := ⟨RX11, "setPair", "(IIII)I"⟩
abbrev cX11_individuals : ByteArray := prog_13_method_14_code
def yX11_individuals : MethodName := ⟨RX11, "individuals", "()I"⟩
abbrev cX11_predicate : ByteArray := prog_13_method_15_code
def yX11_predicate : MethodName := ⟨RX11, "predicate", "(I)I"⟩
abbrev cX11_holds : ByteArray := prog_13_method_16_code
def yX11_holds : MethodName := ⟨RX11, "holds", "(III)Z"⟩
abbrev cX11_relationHolds : ByteArray := prog_13_method_17_code
def yX11_relationHolds : MethodName := ⟨RX11, "relationHolds", "(III)I"⟩
abbrev cX11_type : ByteArray := prog_13_method_18_code
def yX11_type : MethodName := ⟨RX11, "type", "(I)I"⟩
abbrev cX11_clearText : ByteArray := prog_13_method_19_code
def yX11_clearText : MethodName := ⟨RX11, "clearText", "()I"⟩
abbrev cX11_pushes : ByteArray := prog_13_method_20_code
def yX11_pushes : MethodName := ⟨RX11, "pushes", "(I)V"⟩
abbrev cX11_pushesTest : ByteArray := prog_13_method_21_code
def yX11_pushesTest : MethodName := ⟨RX11, "pushesTest", "(Z)V"⟩
abbrev cX11_leads : ByteArray := prog_13_method_22_code
def yX11_leads : MethodName := ⟨RX11, "leads", "(I)V"⟩
abbrev cX11_hasResults : ByteArray := prog_13_method_23_code
def yX11_hasResults : MethodName := ⟨RX11, "hasResults", "(I)V"⟩
abbrev cX11_turns : ByteArray := prog_13_method_24_code
def yX11_turns : MethodName := ⟨RX11, "turns", "(I)V"⟩
abbrev cX11_next : ByteArray := prog_13_method_25_code
def yX11_next : MethodName := ⟨RX11, "next", "()I"⟩
abbrev cX11_opens : ByteArray := prog_13_method_26_code
def yX11_opens : MethodName := ⟨RX11, "opens", "(I)V"⟩
abbrev cX11_finds : ByteArray := prog_13_method_27_code
def yX11_finds : MethodName := ⟨RX11, "finds", "(I)V"⟩
abbrev cX11_variable : ByteArray := prog_13_method_28_code
def yX11_variable : MethodName := ⟨RX11, "variable", "(Z)I"⟩
abbrev cX11_ones : ByteArray := prog_13_method_29_code
def yX11_ones : MethodName := ⟨RX11, "ones", "(I)I"⟩
abbrev cX11_isSo : ByteArray := prog_13_method_30_code
def yX11_isSo : MethodName := ⟨RX11, "isSo", "(III)Z"⟩
abbrev cX11_tests : ByteArray := prog_13_method_31_code
def yX11_tests : MethodName := ⟨RX11, "tests", "(III)Z"⟩
abbrev cX11_readsUnit : ByteArray := prog_13_method_32_code
def yX11_readsUnit : MethodName := ⟨RX11, "readsUnit", "()Z"⟩
abbrev cX11_endsUnit : ByteArray := prog_13_method_33_code
def yX11_endsUnit : MethodName := ⟨RX11, "endsUnit", "()V"⟩
abbrev cX11_endsRow : ByteArray := prog_13_method_34_code
def yX11_endsRow : MethodName := ⟨RX11, "endsRow", "()V"⟩
abbrev cX11_endsChoice : ByteArray := prog_13_method_35_code
def yX11_endsChoice : MethodName := ⟨RX11, "endsChoice", "()V"⟩
abbrev cX11_endsFormula : ByteArray := prog_13_method_36_code
def yX11_endsFormula : MethodName := ⟨RX11, "endsFormula", "()V"⟩
abbrev cX11_under : ByteArray := prog_13_method_37_code
def yX11_under : MethodName := ⟨RX11, "under", "()I"⟩
abbrev cX11_readsFormula : ByteArray := prog_13_method_38_code
def yX11_readsFormula : MethodName := ⟨RX11, "readsFormula", "()Z"⟩
abbrev cX11_isSupported : ByteArray := prog_13_method_39_code
def yX11_isSupported : MethodName := ⟨RX11, "isSupported", "(I)Z"⟩
abbrev cX11_inContext : ByteArray := prog_13_method_40_code
def yX11_inContext : MethodName := ⟨RX11, "inContext", "()I"⟩
abbrev cX11_takes : ByteArray := prog_13_method_41_code
def yX11_takes : MethodName := ⟨RX11, "takes", "(IZI)Z"⟩
abbrev cX11_reads : ByteArray := prog_13_method_42_code
def yX11_reads : MethodName := ⟨RX11, "reads", "(II)Z"⟩
abbrev cX11_takesContext : ByteArray := prog_13_method_43_code
def yX11_takesContext : MethodName := ⟨RX11, "takesContext", "(Z)V"⟩
abbrev cX11_error : ByteArray := prog_13_method_44_code
def yX11_error : MethodName := ⟨RX11, "error", "(I)I"⟩
abbrev cX11_syntaxFault : ByteArray := prog_13_method_45_code
def yX11_syntaxFault : MethodName := ⟨RX11, "syntaxFault", "()I"⟩
abbrev cX11_unknownVariable : ByteArray := prog_13_method_46_code
def yX11_unknownVariable : MethodName := ⟨RX11, "unknownVariable", "()I"⟩
abbrev cX11_unknownDepth : ByteArray := prog_13_method_47_code
def yX11_unknownDepth : MethodName := ⟨RX11, "unknownDepth", "()I"⟩
abbrev cX11_partCount : ByteArray := prog_13_method_48_code
def yX11_partCount : MethodName := ⟨RX11, "partCount", "()I"⟩
abbrev cX11_contextSize : ByteArray := prog_13_method_49_code
def yX11_contextSize : MethodName := ⟨RX11, "contextSize", "()I"⟩
abbrev cX11_known : ByteArray := prog_13_method_50_code
def yX11_known : MethodName := ⟨RX11, "known", "()I"⟩
abbrev cX11_isKnown : ByteArray := prog_13_method_51_code
def yX11_isKnown : MethodName := ⟨RX11, "isKnown", "(I)Z"⟩
abbrev cX11_objects : ByteArray := prog_13_method_52_code
def yX11_objects : MethodName := ⟨RX11, "objects", "(I)I"⟩
abbrev cX11_together : ByteArray := prog_13_method_53_code
def yX11_together : MethodName := ⟨RX11, "together", "(IIII)I"⟩
abbrev cX11_resetContext : ByteArray := prog_13_method_54_code
def yX11_resetContext : MethodName := ⟨RX11, "resetContext", "()I"⟩
abbrev cX11_setAccommodation : ByteArray := prog_13_method_55_code
def yX11_setAccommodation : MethodName := ⟨RX11, "setAccommodation", "(I)I"⟩
abbrev cX11_tries : ByteArray := prog_13_method_56_code
def yX11_tries : MethodName := ⟨RX11, "tries", "()I"⟩
abbrev cX11_accept : ByteArray := prog_13_method_57_code
def yX11_accept : MethodName := ⟨RX11, "accept", "()I"⟩
abbrev cX11_acceptable : ByteArray := prog_13_method_58_code
def yX11_acceptable : MethodName := ⟨RX11, "acceptable", "()I"⟩
abbrev cX11_failingAt : ByteArray := prog_13_method_59_code
def yX11_failingAt : MethodName := ⟨RX11, "failingAt", "()I"⟩
abbrev cX11_accommodated : ByteArray := prog_13_method_60_code
def yX11_accommodated : MethodName := ⟨RX11, "accommodated", "()I"⟩
abbrev cX11_accommodatedPart : ByteArray := prog_13_method_61_code
def yX11_accommodatedPart : MethodName := ⟨RX11, "accommodatedPart", "(I)I"⟩
abbrev cX11_sizeBehind : ByteArray := prog_13_method_62_code
def yX11_sizeBehind : MethodName := ⟨RX11, "sizeBehind", "(I)I"⟩
abbrev cX11_isAllSupported : ByteArray := prog_13_method_63_code
def yX11_isAllSupported : MethodName := ⟨RX11, "isAllSupported", "(I)Z"⟩
abbrev cX11_supports : ByteArray := prog_13_method_64_code
def yX11_supports : MethodName := ⟨RX11, "supports", "()I"⟩
abbrev cX11_worldsTrue : ByteArray := prog_13_method_65_code
def yX11_worldsTrue : MethodName := ⟨RX11, "worldsTrue", "()I"⟩
abbrev cX11_historySize : ByteArray := prog_13_method_66_code
def yX11_historySize : MethodName := ⟨RX11, "historySize", "()I"⟩
abbrev cX11_undo : ByteArray := prog_13_method_67_code
def yX11_undo : MethodName := ⟨RX11, "undo", "()I"⟩
def RJ6 : String := "java/lang/Integer"
def TJ6 : u_T := fun k => match k with
  | _ => ("", "", "", false)
def tyJ6 : Nat → FieldType := fun k => match k with
  | _ => .int
abbrev wsJ60 : List Cond := u_ws RJ6 TJ6 0
theorem nmJ6 : ∀ a, a < 0 → ∀ b, b < 0 → a ≠ b → (TJ6 a).2.1 ≠ (TJ6 b).2.1 := by decide +kernel
theorem tyJ6_ok : ∀ k, k < 0 → parseFieldDescriptor (TJ6 k).2.2.1 = some (tyJ6 k) := by decide +kernel
abbrev cJ6_bitCount_0f7a4 : ByteArray := prog_14_method_49_code
def yJ6_bitCount_0f7a4 : MethodName := ⟨RJ6, "bitCount", "(I)I"⟩
def RJ13 : String := "java/lang/Long"
def TJ13 : u_T := fun k => match k with
  | _ => ("", "", "", false)
def tyJ13 : Nat → FieldType := fun k => match k with
  | _ => .int
abbrev wsJ130 : List Cond := u_ws RJ13 TJ13 0
theorem nmJ13 : ∀ a, a < 0 → ∀ b, b < 0 → a ≠ b → (TJ13 a).2.1 ≠ (TJ13 b).2.1 := by decide +kernel
theorem tyJ13_ok : ∀ k, k < 0 → parseFieldDescriptor (TJ13 k).2.2.1 = some (tyJ13 k) := by decide +kernel
abbrev cJ13_bitCount_95d88 : ByteArray := prog_15_method_50_code
def yJ13_bitCount_95d88 : MethodName := ⟨RJ13, "bitCount", "(J)I"⟩
def RJ9 : String := "java/lang/Math"
def TJ9 : u_T := fun k => match k with
  | _ => ("", "", "", false)
def tyJ9 : Nat → FieldType := fun k => match k with
  | _ => .int
abbrev wsJ90 : List Cond := u_ws RJ9 TJ9 0
theorem nmJ9 : ∀ a, a < 0 → ∀ b, b < 0 → a ≠ b → (TJ9 a).2.1 ≠ (TJ9 b).2.1 := by decide +kernel
theorem tyJ9_ok : ∀ k, k < 0 → parseFieldDescriptor (TJ9 k).2.2.1 = some (tyJ9 k) := by decide +kernel
abbrev cJ9_min_7cf53 : ByteArray := prog_16_method_69_code
def yJ9_min_7cf53 : MethodName := ⟨RJ9, "min", "(II)I"⟩
def RL : String := "DiscourseContextsLaw"
abbrev cL_law : ByteArray := code
def yL_law : MethodName := ⟨RL, "law", "([I)Z"⟩
