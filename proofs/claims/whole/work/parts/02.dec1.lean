theorem dX0_init_0 : decode cX0_init 0 = .ok (.aload_n 0, 1) := by decide +kernel
theorem dX0_init_1 : decode cX0_init 1 = .ok (.invokespecial 3, 3) := by decide +kernel
theorem dX0_init_4 : decode cX0_init 4 = .ok (.aload_n 0, 1) := by decide +kernel
theorem dX0_init_5 : decode cX0_init 5 = .ok (.new 9, 3) := by decide +kernel
theorem dX0_init_8 : decode cX0_init 8 = .ok (.dup, 1) := by decide +kernel
theorem dX0_init_9 : decode cX0_init 9 = .ok (.invokespecial 11, 3) := by decide +kernel
theorem dX0_init_12 : decode cX0_init 12 = .ok (.putfield 12, 3) := by decide +kernel
theorem dX0_init_15 : decode cX0_init 15 = .ok (.aload_n 0, 1) := by decide +kernel
theorem dX0_init_16 : decode cX0_init 16 = .ok (.new 9, 3) := by decide +kernel
theorem dX0_init_19 : decode cX0_init 19 = .ok (.dup, 1) := by decide +kernel
theorem dX0_init_20 : decode cX0_init 20 = .ok (.invokespecial 11, 3) := by decide +kernel
theorem dX0_init_23 : decode cX0_init 23 = .ok (.putfield 18, 3) := by decide +kernel
theorem dX0_init_26 : decode cX0_init 26 = .ok (.aload_n 0, 1) := by decide +kernel
theorem dX0_init_27 : decode cX0_init 27 = .ok (.aload_n 1, 1) := by decide +kernel
theorem dX0_init_28 : decode cX0_init 28 = .ok (.putfield 21, 3) := by decide +kernel
theorem dX0_init_31 : decode cX0_init 31 = .ok (.return_, 1) := by decide +kernel
theorem dX0_succeeds_0 : decode cX0_succeeds 0 = .ok (.iconst 0, 1) := by decide +kernel
theorem dX0_succeeds_1 : decode cX0_succeeds 1 = .ok (.istore_n 3, 1) := by decide +kernel
theorem dX0_succeeds_2 : decode cX0_succeeds 2 = .ok (.aload_n 0, 1) := by decide +kernel
theorem dX0_succeeds_3 : decode cX0_succeeds 3 = .ok (.getfield 12, 3) := by decide +kernel
theorem dX0_succeeds_6 : decode cX0_succeeds 6 = .ok (.aload_n 2, 1) := by decide +kernel
theorem dX0_succeeds_7 : decode cX0_succeeds 7 = .ok (.getfield 25, 3) := by decide +kernel
theorem dX0_succeeds_10 : decode cX0_succeeds 10 = .ok (.invokevirtual 28, 3) := by decide +kernel
theorem dX0_succeeds_13 : decode cX0_succeeds 13 = .ok (.aload_n 0, 1) := by decide +kernel
theorem dX0_succeeds_14 : decode cX0_succeeds 14 = .ok (.lconst 0, 1) := by decide +kernel
theorem dX0_succeeds_15 : decode cX0_succeeds 15 = .ok (.putfield 32, 3) := by decide +kernel
theorem dX0_succeeds_18 : decode cX0_succeeds 18 = .ok (.aload_n 0, 1) := by decide +kernel
theorem dX0_succeeds_19 : decode cX0_succeeds 19 = .ok (.bipush (-7), 2) := by decide +kernel
theorem dX0_succeeds_21 : decode cX0_succeeds 21 = .ok (.putfield 36, 3) := by decide +kernel
theorem dX0_succeeds_24 : decode cX0_succeeds 24 = .ok (.aload_n 1, 1) := by decide +kernel
theorem dX0_succeeds_25 : decode cX0_succeeds 25 = .ok (.getfield 40, 3) := by decide +kernel
theorem dX0_succeeds_28 : decode cX0_succeeds 28 = .ok (.astore 4, 2) := by decide +kernel
theorem dX0_succeeds_30 : decode cX0_succeeds 30 = .ok (.aload 4, 2) := by decide +kernel
theorem dX0_succeeds_32 : decode cX0_succeeds 32 = .ok (.ifnull 122, 3) := by decide +kernel
theorem dX0_succeeds_35 : decode cX0_succeeds 35 = .ok (.iconst 1, 1) := by decide +kernel
theorem dX0_succeeds_36 : decode cX0_succeeds 36 = .ok (.istore 5, 2) := by decide +kernel
theorem dX0_succeeds_38 : decode cX0_succeeds 38 = .ok (.aload 4, 2) := by decide +kernel
theorem dX0_succeeds_40 : decode cX0_succeeds 40 = .ok (.getfield 46, 3) := by decide +kernel
theorem dX0_succeeds_43 : decode cX0_succeeds 43 = .ok (.iconst 1, 1) := by decide +kernel
theorem dX0_succeeds_44 : decode cX0_succeeds 44 = .ok (.if_icmp .ne 29, 3) := by decide +kernel
theorem dX0_succeeds_47 : decode cX0_succeeds 47 = .ok (.aload_n 0, 1) := by decide +kernel
theorem dX0_succeeds_48 : decode cX0_succeeds 48 = .ok (.getfield 21, 3) := by decide +kernel
theorem dX0_succeeds_51 : decode cX0_succeeds 51 = .ok (.aload 4, 2) := by decide +kernel
theorem dX0_succeeds_53 : decode cX0_succeeds 53 = .ok (.aload_n 0, 1) := by decide +kernel
theorem dX0_succeeds_54 : decode cX0_succeeds 54 = .ok (.getfield 18, 3) := by decide +kernel
theorem dX0_succeeds_57 : decode cX0_succeeds 57 = .ok (.invokevirtual 49, 3) := by decide +kernel
theorem dX0_succeeds_60 : decode cX0_succeeds 60 = .ok (.aload_n 0, 1) := by decide +kernel
theorem dX0_succeeds_61 : decode cX0_succeeds 61 = .ok (.getfield 12, 3) := by decide +kernel
theorem dX0_succeeds_64 : decode cX0_succeeds 64 = .ok (.aload_n 0, 1) := by decide +kernel
theorem dX0_succeeds_65 : decode cX0_succeeds 65 = .ok (.getfield 18, 3) := by decide +kernel
theorem dX0_succeeds_68 : decode cX0_succeeds 68 = .ok (.invokevirtual 55, 3) := by decide +kernel
theorem dX0_succeeds_71 : decode cX0_succeeds 71 = .ok (.istore 5, 2) := by decide +kernel
theorem dX0_succeeds_73 : decode cX0_succeeds 73 = .ok (.aload_n 0, 1) := by decide +kernel
theorem dX0_succeeds_74 : decode cX0_succeeds 74 = .ok (.getfield 21, 3) := by decide +kernel
theorem dX0_succeeds_77 : decode cX0_succeeds 77 = .ok (.aload 4, 2) := by decide +kernel
theorem dX0_succeeds_79 : decode cX0_succeeds 79 = .ok (.aload_n 0, 1) := by decide +kernel
theorem dX0_succeeds_80 : decode cX0_succeeds 80 = .ok (.getfield 12, 3) := by decide +kernel
theorem dX0_succeeds_83 : decode cX0_succeeds 83 = .ok (.iconst 0, 1) := by decide +kernel
theorem dX0_succeeds_84 : decode cX0_succeeds 84 = .ok (.invokevirtual 59, 3) := by decide +kernel
theorem dX0_succeeds_87 : decode cX0_succeeds 87 = .ok (.iload 5, 2) := by decide +kernel
theorem dX0_succeeds_89 : decode cX0_succeeds 89 = .ok (.ifCond .ne 31, 3) := by decide +kernel
theorem dX0_succeeds_92 : decode cX0_succeeds 92 = .ok (.aload_n 2, 1) := by decide +kernel
theorem dX0_succeeds_93 : decode cX0_succeeds 93 = .ok (.getfield 63, 3) := by decide +kernel
theorem dX0_succeeds_96 : decode cX0_succeeds 96 = .ok (.ifCond .eq 13, 3) := by decide +kernel
theorem dX0_succeeds_99 : decode cX0_succeeds 99 = .ok (.aload_n 0, 1) := by decide +kernel
theorem dX0_succeeds_100 : decode cX0_succeeds 100 = .ok (.getfield 12, 3) := by decide +kernel
theorem dX0_succeeds_103 : decode cX0_succeeds 103 = .ok (.invokevirtual 67, 3) := by decide +kernel
theorem dX0_succeeds_106 : decode cX0_succeeds 106 = .ok (.ifCond .eq 14, 3) := by decide +kernel
theorem dX0_succeeds_109 : decode cX0_succeeds 109 = .ok (.aload_n 0, 1) := by decide +kernel
theorem dX0_succeeds_110 : decode cX0_succeeds 110 = .ok (.aload 4, 2) := by decide +kernel
theorem dX0_succeeds_112 : decode cX0_succeeds 112 = .ok (.getfield 71, 3) := by decide +kernel
theorem dX0_succeeds_115 : decode cX0_succeeds 115 = .ok (.putfield 36, 3) := by decide +kernel
theorem dX0_succeeds_118 : decode cX0_succeeds 118 = .ok (.iconst 0, 1) := by decide +kernel
theorem dX0_succeeds_119 : decode cX0_succeeds 119 = .ok (.ireturn, 1) := by decide +kernel
theorem dX0_succeeds_120 : decode cX0_succeeds 120 = .ok (.aload_n 0, 1) := by decide +kernel
theorem dX0_succeeds_121 : decode cX0_succeeds 121 = .ok (.dup, 1) := by decide +kernel
theorem dX0_succeeds_122 : decode cX0_succeeds 122 = .ok (.getfield 32, 3) := by decide +kernel
theorem dX0_succeeds_125 : decode cX0_succeeds 125 = .ok (.iload 5, 2) := by decide +kernel
theorem dX0_succeeds_127 : decode cX0_succeeds 127 = .ok (.ifCond .eq 7, 3) := by decide +kernel
theorem dX0_succeeds_130 : decode cX0_succeeds 130 = .ok (.lconst 0, 1) := by decide +kernel
theorem dX0_succeeds_131 : decode cX0_succeeds 131 = .ok (.goto 6, 3) := by decide +kernel
theorem dX0_succeeds_134 : decode cX0_succeeds 134 = .ok (.lconst 1, 1) := by decide +kernel
theorem dX0_succeeds_135 : decode cX0_succeeds 135 = .ok (.iload_n 3, 1) := by decide +kernel
theorem dX0_succeeds_136 : decode cX0_succeeds 136 = .ok (.lshl, 1) := by decide +kernel
theorem dX0_succeeds_137 : decode cX0_succeeds 137 = .ok (.lor, 1) := by decide +kernel
theorem dX0_succeeds_138 : decode cX0_succeeds 138 = .ok (.putfield 32, 3) := by decide +kernel
theorem dX0_succeeds_141 : decode cX0_succeeds 141 = .ok (.iinc 3 1, 3) := by decide +kernel
theorem dX0_succeeds_144 : decode cX0_succeeds 144 = .ok (.aload 4, 2) := by decide +kernel
theorem dX0_succeeds_146 : decode cX0_succeeds 146 = .ok (.getfield 74, 3) := by decide +kernel
theorem dX0_succeeds_149 : decode cX0_succeeds 149 = .ok (.astore 4, 2) := by decide +kernel
theorem dX0_succeeds_151 : decode cX0_succeeds 151 = .ok (.goto (-121), 3) := by decide +kernel
theorem dX0_succeeds_154 : decode cX0_succeeds 154 = .ok (.iconst 1, 1) := by decide +kernel
theorem dX0_succeeds_155 : decode cX0_succeeds 155 = .ok (.ireturn, 1) := by decide +kernel
theorem dX1_init_0 : decode cX1_init 0 = .ok (.aload_n 0, 1) := by decide +kernel
theorem dX1_init_1 : decode cX1_init 1 = .ok (.invokespecial 3, 3) := by decide +kernel
theorem dX1_init_4 : decode cX1_init 4 = .ok (.aload_n 0, 1) := by decide +kernel
theorem dX1_init_5 : decode cX1_init 5 = .ok (.bipush 8, 2) := by decide +kernel
theorem dX1_init_7 : decode cX1_init 7 = .ok (.newarray .long, 2) := by decide +kernel
theorem dX1_init_9 : decode cX1_init 9 = .ok (.putfield 11, 3) := by decide +kernel
theorem dX1_init_12 : decode cX1_init 12 = .ok (.return_, 1) := by decide +kernel
theorem dX1_makeFirst_0 : decode cX1_makeFirst 0 = .ok (.aload_n 0, 1) := by decide +kernel
theorem dX1_makeFirst_1 : decode cX1_makeFirst 1 = .ok (.lconst 0, 1) := by decide +kernel
theorem dX1_makeFirst_2 : decode cX1_makeFirst 2 = .ok (.invokevirtual 15, 3) := by decide +kernel
theorem dX1_makeFirst_5 : decode cX1_makeFirst 5 = .ok (.aload_n 0, 1) := by decide +kernel
theorem dX1_makeFirst_6 : decode cX1_makeFirst 6 = .ok (.getfield 11, 3) := by decide +kernel
theorem dX1_makeFirst_9 : decode cX1_makeFirst 9 = .ok (.iconst 0, 1) := by decide +kernel
theorem dX1_makeFirst_10 : decode cX1_makeFirst 10 = .ok (.lconst 1, 1) := by decide +kernel
theorem dX1_makeFirst_11 : decode cX1_makeFirst 11 = .ok (.lastore, 1) := by decide +kernel
theorem dX1_makeFirst_12 : decode cX1_makeFirst 12 = .ok (.return_, 1) := by decide +kernel
theorem dX1_fill_0 : decode cX1_fill 0 = .ok (.iconst 0, 1) := by decide +kernel
theorem dX1_fill_1 : decode cX1_fill 1 = .ok (.istore_n 3, 1) := by decide +kernel
theorem dX1_fill_2 : decode cX1_fill 2 = .ok (.iload_n 3, 1) := by decide +kernel
theorem dX1_fill_3 : decode cX1_fill 3 = .ok (.bipush 8, 2) := by decide +kernel
theorem dX1_fill_5 : decode cX1_fill 5 = .ok (.if_icmp .ge 16, 3) := by decide +kernel
theorem dX1_fill_8 : decode cX1_fill 8 = .ok (.aload_n 0, 1) := by decide +kernel
theorem dX1_fill_9 : decode cX1_fill 9 = .ok (.getfield 11, 3) := by decide +kernel
theorem dX1_fill_12 : decode cX1_fill 12 = .ok (.iload_n 3, 1) := by decide +kernel
theorem dX1_fill_13 : decode cX1_fill 13 = .ok (.lload_n 1, 1) := by decide +kernel
theorem dX1_fill_14 : decode cX1_fill 14 = .ok (.lastore, 1) := by decide +kernel
theorem dX1_fill_15 : decode cX1_fill 15 = .ok (.iinc 3 1, 3) := by decide +kernel
theorem dX1_fill_18 : decode cX1_fill 18 = .ok (.goto (-16), 3) := by decide +kernel
theorem dX1_fill_21 : decode cX1_fill 21 = .ok (.return_, 1) := by decide +kernel
theorem dX1_copyFrom_0 : decode cX1_copyFrom 0 = .ok (.iconst 0, 1) := by decide +kernel
theorem dX1_copyFrom_1 : decode cX1_copyFrom 1 = .ok (.istore_n 2, 1) := by decide +kernel
theorem dX1_copyFrom_2 : decode cX1_copyFrom 2 = .ok (.iload_n 2, 1) := by decide +kernel
theorem dX1_copyFrom_3 : decode cX1_copyFrom 3 = .ok (.bipush 8, 2) := by decide +kernel
theorem dX1_copyFrom_5 : decode cX1_copyFrom 5 = .ok (.if_icmp .ge 21, 3) := by decide +kernel
theorem dX1_copyFrom_8 : decode cX1_copyFrom 8 = .ok (.aload_n 0, 1) := by decide +kernel
theorem dX1_copyFrom_9 : decode cX1_copyFrom 9 = .ok (.getfield 11, 3) := by decide +kernel
theorem dX1_copyFrom_12 : decode cX1_copyFrom 12 = .ok (.iload_n 2, 1) := by decide +kernel
theorem dX1_copyFrom_13 : decode cX1_copyFrom 13 = .ok (.aload_n 1, 1) := by decide +kernel
theorem dX1_copyFrom_14 : decode cX1_copyFrom 14 = .ok (.getfield 11, 3) := by decide +kernel
theorem dX1_copyFrom_17 : decode cX1_copyFrom 17 = .ok (.iload_n 2, 1) := by decide +kernel
theorem dX1_copyFrom_18 : decode cX1_copyFrom 18 = .ok (.laload, 1) := by decide +kernel
theorem dX1_copyFrom_19 : decode cX1_copyFrom 19 = .ok (.lastore, 1) := by decide +kernel
theorem dX1_copyFrom_20 : decode cX1_copyFrom 20 = .ok (.iinc 2 1, 3) := by decide +kernel
theorem dX1_copyFrom_23 : decode cX1_copyFrom 23 = .ok (.goto (-21), 3) := by decide +kernel
theorem dX1_copyFrom_26 : decode cX1_copyFrom 26 = .ok (.return_, 1) := by decide +kernel
theorem dX1_unite_0 : decode cX1_unite 0 = .ok (.iconst 0, 1) := by decide +kernel
theorem dX1_unite_1 : decode cX1_unite 1 = .ok (.istore_n 2, 1) := by decide +kernel
theorem dX1_unite_2 : decode cX1_unite 2 = .ok (.iload_n 2, 1) := by decide +kernel
theorem dX1_unite_3 : decode cX1_unite 3 = .ok (.bipush 8, 2) := by decide +kernel
theorem dX1_unite_5 : decode cX1_unite 5 = .ok (.if_icmp .ge 24, 3) := by decide +kernel
theorem dX1_unite_8 : decode cX1_unite 8 = .ok (.aload_n 0, 1) := by decide +kernel
theorem dX1_unite_9 : decode cX1_unite 9 = .ok (.getfield 11, 3) := by decide +kernel
theorem dX1_unite_12 : decode cX1_unite 12 = .ok (.iload_n 2, 1) := by decide +kernel
theorem dX1_unite_13 : decode cX1_unite 13 = .ok (.dup2, 1) := by decide +kernel
theorem dX1_unite_14 : decode cX1_unite 14 = .ok (.laload, 1) := by decide +kernel
theorem dX1_unite_15 : decode cX1_unite 15 = .ok (.aload_n 1, 1) := by decide +kernel
theorem dX1_unite_16 : decode cX1_unite 16 = .ok (.getfield 11, 3) := by decide +kernel
theorem dX1_unite_19 : decode cX1_unite 19 = .ok (.iload_n 2, 1) := by decide +kernel
theorem dX1_unite_20 : decode cX1_unite 20 = .ok (.laload, 1) := by decide +kernel
theorem dX1_unite_21 : decode cX1_unite 21 = .ok (.lor, 1) := by decide +kernel
theorem dX1_unite_22 : decode cX1_unite 22 = .ok (.lastore, 1) := by decide +kernel
theorem dX1_unite_23 : decode cX1_unite 23 = .ok (.iinc 2 1, 3) := by decide +kernel
theorem dX1_unite_26 : decode cX1_unite 26 = .ok (.goto (-24), 3) := by decide +kernel
theorem dX1_unite_29 : decode cX1_unite 29 = .ok (.return_, 1) := by decide +kernel
theorem dX1_keep_0 : decode cX1_keep 0 = .ok (.iconst 0, 1) := by decide +kernel
theorem dX1_keep_1 : decode cX1_keep 1 = .ok (.istore_n 2, 1) := by decide +kernel
theorem dX1_keep_2 : decode cX1_keep 2 = .ok (.iload_n 2, 1) := by decide +kernel
theorem dX1_keep_3 : decode cX1_keep 3 = .ok (.bipush 8, 2) := by decide +kernel
theorem dX1_keep_5 : decode cX1_keep 5 = .ok (.if_icmp .ge 24, 3) := by decide +kernel
theorem dX1_keep_8 : decode cX1_keep 8 = .ok (.aload_n 0, 1) := by decide +kernel
theorem dX1_keep_9 : decode cX1_keep 9 = .ok (.getfield 11, 3) := by decide +kernel
theorem dX1_keep_12 : decode cX1_keep 12 = .ok (.iload_n 2, 1) := by decide +kernel
theorem dX1_keep_13 : decode cX1_keep 13 = .ok (.dup2, 1) := by decide +kernel
theorem dX1_keep_14 : decode cX1_keep 14 = .ok (.laload, 1) := by decide +kernel
theorem dX1_keep_15 : decode cX1_keep 15 = .ok (.aload_n 1, 1) := by decide +kernel
theorem dX1_keep_16 : decode cX1_keep 16 = .ok (.getfield 11, 3) := by decide +kernel
theorem dX1_keep_19 : decode cX1_keep 19 = .ok (.iload_n 2, 1) := by decide +kernel
theorem dX1_keep_20 : decode cX1_keep 20 = .ok (.laload, 1) := by decide +kernel
theorem dX1_keep_21 : decode cX1_keep 21 = .ok (.land, 1) := by decide +kernel
theorem dX1_keep_22 : decode cX1_keep 22 = .ok (.lastore, 1) := by decide +kernel
theorem dX1_keep_23 : decode cX1_keep 23 = .ok (.iinc 2 1, 3) := by decide +kernel
theorem dX1_keep_26 : decode cX1_keep 26 = .ok (.goto (-24), 3) := by decide +kernel
theorem dX1_keep_29 : decode cX1_keep 29 = .ok (.return_, 1) := by decide +kernel
theorem dX1_remove_0 : decode cX1_remove 0 = .ok (.iconst 0, 1) := by decide +kernel
theorem dX1_remove_1 : decode cX1_remove 1 = .ok (.istore_n 2, 1) := by decide +kernel
theorem dX1_remove_2 : decode cX1_remove 2 = .ok (.iload_n 2, 1) := by decide +kernel
theorem dX1_remove_3 : decode cX1_remove 3 = .ok (.bipush 8, 2) := by decide +kernel
theorem dX1_remove_5 : decode cX1_remove 5 = .ok (.if_icmp .ge 28, 3) := by decide +kernel
theorem dX1_remove_8 : decode cX1_remove 8 = .ok (.aload_n 0, 1) := by decide +kernel
theorem dX1_remove_9 : decode cX1_remove 9 = .ok (.getfield 11, 3) := by decide +kernel
theorem dX1_remove_12 : decode cX1_remove 12 = .ok (.iload_n 2, 1) := by decide +kernel
theorem dX1_remove_13 : decode cX1_remove 13 = .ok (.dup2, 1) := by decide +kernel
theorem dX1_remove_14 : decode cX1_remove 14 = .ok (.laload, 1) := by decide +kernel
theorem dX1_remove_15 : decode cX1_remove 15 = .ok (.aload_n 1, 1) := by decide +kernel
theorem dX1_remove_16 : decode cX1_remove 16 = .ok (.getfield 11, 3) := by decide +kernel
theorem dX1_remove_19 : decode cX1_remove 19 = .ok (.iload_n 2, 1) := by decide +kernel
theorem dX1_remove_20 : decode cX1_remove 20 = .ok (.laload, 1) := by decide +kernel
theorem dX1_remove_21 : decode cX1_remove 21 = .ok (.ldc2_w 19, 3) := by decide +kernel
theorem dX1_remove_24 : decode cX1_remove 24 = .ok (.lxor, 1) := by decide +kernel
theorem dX1_remove_25 : decode cX1_remove 25 = .ok (.land, 1) := by decide +kernel
theorem dX1_remove_26 : decode cX1_remove 26 = .ok (.lastore, 1) := by decide +kernel
theorem dX1_remove_27 : decode cX1_remove 27 = .ok (.iinc 2 1, 3) := by decide +kernel
theorem dX1_remove_30 : decode cX1_remove 30 = .ok (.goto (-28), 3) := by decide +kernel
theorem dX1_remove_33 : decode cX1_remove 33 = .ok (.return_, 1) := by decide +kernel
theorem dX1_complement_0 : decode cX1_complement 0 = .ok (.iconst 0, 1) := by decide +kernel
theorem dX1_complement_1 : decode cX1_complement 1 = .ok (.istore_n 1, 1) := by decide +kernel
theorem dX1_complement_2 : decode cX1_complement 2 = .ok (.iload_n 1, 1) := by decide +kernel
theorem dX1_complement_3 : decode cX1_complement 3 = .ok (.bipush 8, 2) := by decide +kernel
theorem dX1_complement_5 : decode cX1_complement 5 = .ok (.if_icmp .ge 25, 3) := by decide +kernel
theorem dX1_complement_8 : decode cX1_complement 8 = .ok (.aload_n 0, 1) := by decide +kernel
theorem dX1_complement_9 : decode cX1_complement 9 = .ok (.getfield 11, 3) := by decide +kernel
theorem dX1_complement_12 : decode cX1_complement 12 = .ok (.iload_n 1, 1) := by decide +kernel
theorem dX1_complement_13 : decode cX1_complement 13 = .ok (.aload_n 0, 1) := by decide +kernel
theorem dX1_complement_14 : decode cX1_complement 14 = .ok (.getfield 11, 3) := by decide +kernel
theorem dX1_complement_17 : decode cX1_complement 17 = .ok (.iload_n 1, 1) := by decide +kernel
theorem dX1_complement_18 : decode cX1_complement 18 = .ok (.laload, 1) := by decide +kernel
theorem dX1_complement_19 : decode cX1_complement 19 = .ok (.ldc2_w 19, 3) := by decide +kernel
theorem dX1_complement_22 : decode cX1_complement 22 = .ok (.lxor, 1) := by decide +kernel
theorem dX1_complement_23 : decode cX1_complement 23 = .ok (.lastore, 1) := by decide +kernel
theorem dX1_complement_24 : decode cX1_complement 24 = .ok (.iinc 1 1, 3) := by decide +kernel
theorem dX1_complement_27 : decode cX1_complement 27 = .ok (.goto (-25), 3) := by decide +kernel
theorem dX1_complement_30 : decode cX1_complement 30 = .ok (.return_, 1) := by decide +kernel
theorem dX1_isWithin_0 : decode cX1_isWithin 0 = .ok (.iconst 0, 1) := by decide +kernel
theorem dX1_isWithin_1 : decode cX1_isWithin 1 = .ok (.istore_n 2, 1) := by decide +kernel
theorem dX1_isWithin_2 : decode cX1_isWithin 2 = .ok (.iload_n 2, 1) := by decide +kernel
theorem dX1_isWithin_3 : decode cX1_isWithin 3 = .ok (.bipush 8, 2) := by decide +kernel
theorem dX1_isWithin_5 : decode cX1_isWithin 5 = .ok (.if_icmp .ge 33, 3) := by decide +kernel
theorem dX1_isWithin_8 : decode cX1_isWithin 8 = .ok (.aload_n 0, 1) := by decide +kernel
theorem dX1_isWithin_9 : decode cX1_isWithin 9 = .ok (.getfield 11, 3) := by decide +kernel
theorem dX1_isWithin_12 : decode cX1_isWithin 12 = .ok (.iload_n 2, 1) := by decide +kernel
theorem dX1_isWithin_13 : decode cX1_isWithin 13 = .ok (.laload, 1) := by decide +kernel
theorem dX1_isWithin_14 : decode cX1_isWithin 14 = .ok (.aload_n 1, 1) := by decide +kernel
theorem dX1_isWithin_15 : decode cX1_isWithin 15 = .ok (.getfield 11, 3) := by decide +kernel
theorem dX1_isWithin_18 : decode cX1_isWithin 18 = .ok (.iload_n 2, 1) := by decide +kernel
theorem dX1_isWithin_19 : decode cX1_isWithin 19 = .ok (.laload, 1) := by decide +kernel
theorem dX1_isWithin_20 : decode cX1_isWithin 20 = .ok (.ldc2_w 19, 3) := by decide +kernel
theorem dX1_isWithin_23 : decode cX1_isWithin 23 = .ok (.lxor, 1) := by decide +kernel
theorem dX1_isWithin_24 : decode cX1_isWithin 24 = .ok (.land, 1) := by decide +kernel
theorem dX1_isWithin_25 : decode cX1_isWithin 25 = .ok (.lconst 0, 1) := by decide +kernel
theorem dX1_isWithin_26 : decode cX1_isWithin 26 = .ok (.lcmp, 1) := by decide +kernel
theorem dX1_isWithin_27 : decode cX1_isWithin 27 = .ok (.ifCond .eq 5, 3) := by decide +kernel
theorem dX1_isWithin_30 : decode cX1_isWithin 30 = .ok (.iconst 0, 1) := by decide +kernel
theorem dX1_isWithin_31 : decode cX1_isWithin 31 = .ok (.ireturn, 1) := by decide +kernel
theorem dX1_isWithin_32 : decode cX1_isWithin 32 = .ok (.iinc 2 1, 3) := by decide +kernel
theorem dX1_isWithin_35 : decode cX1_isWithin 35 = .ok (.goto (-33), 3) := by decide +kernel
theorem dX1_isWithin_38 : decode cX1_isWithin 38 = .ok (.iconst 1, 1) := by decide +kernel
theorem dX1_isWithin_39 : decode cX1_isWithin 39 = .ok (.ireturn, 1) := by decide +kernel
theorem dX1_isEmpty_0 : decode cX1_isEmpty 0 = .ok (.aload_n 0, 1) := by decide +kernel
theorem dX1_isEmpty_1 : decode cX1_isEmpty 1 = .ok (.invokevirtual 21, 3) := by decide +kernel
theorem dX1_isEmpty_4 : decode cX1_isEmpty 4 = .ok (.ifCond .ne 7, 3) := by decide +kernel
theorem dX1_isEmpty_7 : decode cX1_isEmpty 7 = .ok (.iconst 1, 1) := by decide +kernel
theorem dX1_isEmpty_8 : decode cX1_isEmpty 8 = .ok (.goto 4, 3) := by decide +kernel
theorem dX1_isEmpty_11 : decode cX1_isEmpty 11 = .ok (.iconst 0, 1) := by decide +kernel
theorem dX1_isEmpty_12 : decode cX1_isEmpty 12 = .ok (.ireturn, 1) := by decide +kernel
theorem dX1_size_0 : decode cX1_size 0 = .ok (.iconst 0, 1) := by decide +kernel
theorem dX1_size_1 : decode cX1_size 1 = .ok (.istore_n 1, 1) := by decide +kernel
theorem dX1_size_2 : decode cX1_size 2 = .ok (.iconst 0, 1) := by decide +kernel
theorem dX1_size_3 : decode cX1_size 3 = .ok (.istore_n 2, 1) := by decide +kernel
theorem dX1_size_4 : decode cX1_size 4 = .ok (.iload_n 2, 1) := by decide +kernel
theorem dX1_size_5 : decode cX1_size 5 = .ok (.bipush 8, 2) := by decide +kernel
theorem dX1_size_7 : decode cX1_size 7 = .ok (.if_icmp .ge 21, 3) := by decide +kernel
theorem dX1_size_10 : decode cX1_size 10 = .ok (.iload_n 1, 1) := by decide +kernel
theorem dX1_size_11 : decode cX1_size 11 = .ok (.aload_n 0, 1) := by decide +kernel
theorem dX1_size_12 : decode cX1_size 12 = .ok (.getfield 11, 3) := by decide +kernel
theorem dX1_size_15 : decode cX1_size 15 = .ok (.iload_n 2, 1) := by decide +kernel
theorem dX1_size_16 : decode cX1_size 16 = .ok (.laload, 1) := by decide +kernel
theorem dX1_size_17 : decode cX1_size 17 = .ok (.invokestatic 25, 3) := by decide +kernel
theorem dX1_size_20 : decode cX1_size 20 = .ok (.iadd, 1) := by decide +kernel
theorem dX1_size_21 : decode cX1_size 21 = .ok (.istore_n 1, 1) := by decide +kernel
theorem dX1_size_22 : decode cX1_size 22 = .ok (.iinc 2 1, 3) := by decide +kernel
theorem dX1_size_25 : decode cX1_size 25 = .ok (.goto (-21), 3) := by decide +kernel
theorem dX1_size_28 : decode cX1_size 28 = .ok (.iload_n 1, 1) := by decide +kernel
theorem dX1_size_29 : decode cX1_size 29 = .ok (.ireturn, 1) := by decide +kernel
theorem dX1_countOf_0 : decode cX1_countOf 0 = .ok (.iconst 0, 1) := by decide +kernel
theorem dX1_countOf_1 : decode cX1_countOf 1 = .ok (.istore 5, 2) := by decide +kernel
theorem dX1_countOf_3 : decode cX1_countOf 3 = .ok (.iconst 0, 1) := by decide +kernel
theorem dX1_countOf_4 : decode cX1_countOf 4 = .ok (.istore 6, 2) := by decide +kernel
theorem dX1_countOf_6 : decode cX1_countOf 6 = .ok (.iload 6, 2) := by decide +kernel
theorem dX1_countOf_8 : decode cX1_countOf 8 = .ok (.bipush 8, 2) := by decide +kernel
theorem dX1_countOf_10 : decode cX1_countOf 10 = .ok (.if_icmp .ge 45, 3) := by decide +kernel
theorem dX1_countOf_13 : decode cX1_countOf 13 = .ok (.iload 5, 2) := by decide +kernel
theorem dX1_countOf_15 : decode cX1_countOf 15 = .ok (.aload_n 0, 1) := by decide +kernel
theorem dX1_countOf_16 : decode cX1_countOf 16 = .ok (.getfield 11, 3) := by decide +kernel
theorem dX1_countOf_19 : decode cX1_countOf 19 = .ok (.iload 6, 2) := by decide +kernel
theorem dX1_countOf_21 : decode cX1_countOf 21 = .ok (.laload, 1) := by decide +kernel
theorem dX1_countOf_22 : decode cX1_countOf 22 = .ok (.iload_n 1, 1) := by decide +kernel
theorem dX1_countOf_23 : decode cX1_countOf 23 = .ok (.iconst 1, 1) := by decide +kernel
theorem dX1_countOf_24 : decode cX1_countOf 24 = .ok (.iload_n 2, 1) := by decide +kernel
theorem dX1_countOf_25 : decode cX1_countOf 25 = .ok (.ishl, 1) := by decide +kernel
theorem dX1_countOf_26 : decode cX1_countOf 26 = .ok (.iload 6, 2) := by decide +kernel
theorem dX1_countOf_28 : decode cX1_countOf 28 = .ok (.invokestatic 31, 3) := by decide +kernel
theorem dX1_countOf_31 : decode cX1_countOf 31 = .ok (.land, 1) := by decide +kernel
theorem dX1_countOf_32 : decode cX1_countOf 32 = .ok (.iload_n 3, 1) := by decide +kernel
theorem dX1_countOf_33 : decode cX1_countOf 33 = .ok (.iconst 1, 1) := by decide +kernel
theorem dX1_countOf_34 : decode cX1_countOf 34 = .ok (.iload 4, 2) := by decide +kernel
theorem dX1_countOf_36 : decode cX1_countOf 36 = .ok (.ishl, 1) := by decide +kernel
theorem dX1_countOf_37 : decode cX1_countOf 37 = .ok (.iload 6, 2) := by decide +kernel
theorem dX1_countOf_39 : decode cX1_countOf 39 = .ok (.invokestatic 31, 3) := by decide +kernel
theorem dX1_countOf_42 : decode cX1_countOf 42 = .ok (.land, 1) := by decide +kernel
theorem dX1_countOf_43 : decode cX1_countOf 43 = .ok (.invokestatic 25, 3) := by decide +kernel
theorem dX1_countOf_46 : decode cX1_countOf 46 = .ok (.iadd, 1) := by decide +kernel
theorem dX1_countOf_47 : decode cX1_countOf 47 = .ok (.istore 5, 2) := by decide +kernel
theorem dX1_countOf_49 : decode cX1_countOf 49 = .ok (.iinc 6 1, 3) := by decide +kernel
theorem dX1_countOf_52 : decode cX1_countOf 52 = .ok (.goto (-46), 3) := by decide +kernel
theorem dX1_countOf_55 : decode cX1_countOf 55 = .ok (.iload 5, 2) := by decide +kernel
theorem dX1_countOf_57 : decode cX1_countOf 57 = .ok (.ireturn, 1) := by decide +kernel
theorem dX1_valuesOf_0 : decode cX1_valuesOf 0 = .ok (.iconst 0, 1) := by decide +kernel
theorem dX1_valuesOf_1 : decode cX1_valuesOf 1 = .ok (.istore_n 2, 1) := by decide +kernel
theorem dX1_valuesOf_2 : decode cX1_valuesOf 2 = .ok (.iconst 1, 1) := by decide +kernel
theorem dX1_valuesOf_3 : decode cX1_valuesOf 3 = .ok (.istore_n 3, 1) := by decide +kernel
theorem dX1_valuesOf_4 : decode cX1_valuesOf 4 = .ok (.iload_n 3, 1) := by decide +kernel
theorem dX1_valuesOf_5 : decode cX1_valuesOf 5 = .ok (.bipush 7, 2) := by decide +kernel
theorem dX1_valuesOf_7 : decode cX1_valuesOf 7 = .ok (.if_icmp .gt 26, 3) := by decide +kernel
theorem dX1_valuesOf_10 : decode cX1_valuesOf 10 = .ok (.aload_n 0, 1) := by decide +kernel
theorem dX1_valuesOf_11 : decode cX1_valuesOf 11 = .ok (.iload_n 1, 1) := by decide +kernel
theorem dX1_valuesOf_12 : decode cX1_valuesOf 12 = .ok (.iload_n 3, 1) := by decide +kernel
theorem dX1_valuesOf_13 : decode cX1_valuesOf 13 = .ok (.iload_n 1, 1) := by decide +kernel
theorem dX1_valuesOf_14 : decode cX1_valuesOf 14 = .ok (.iload_n 3, 1) := by decide +kernel
theorem dX1_valuesOf_15 : decode cX1_valuesOf 15 = .ok (.invokevirtual 35, 3) := by decide +kernel
theorem dX1_valuesOf_18 : decode cX1_valuesOf 18 = .ok (.ifCond .le 9, 3) := by decide +kernel
theorem dX1_valuesOf_21 : decode cX1_valuesOf 21 = .ok (.iload_n 2, 1) := by decide +kernel
theorem dX1_valuesOf_22 : decode cX1_valuesOf 22 = .ok (.iconst 1, 1) := by decide +kernel
theorem dX1_valuesOf_23 : decode cX1_valuesOf 23 = .ok (.iload_n 3, 1) := by decide +kernel
theorem dX1_valuesOf_24 : decode cX1_valuesOf 24 = .ok (.ishl, 1) := by decide +kernel
theorem dX1_valuesOf_25 : decode cX1_valuesOf 25 = .ok (.ior, 1) := by decide +kernel
theorem dX1_valuesOf_26 : decode cX1_valuesOf 26 = .ok (.istore_n 2, 1) := by decide +kernel
theorem dX1_valuesOf_27 : decode cX1_valuesOf 27 = .ok (.iinc 3 1, 3) := by decide +kernel
theorem dX1_valuesOf_30 : decode cX1_valuesOf 30 = .ok (.goto (-26), 3) := by decide +kernel
theorem dX1_valuesOf_33 : decode cX1_valuesOf 33 = .ok (.iload_n 2, 1) := by decide +kernel
theorem dX1_valuesOf_34 : decode cX1_valuesOf 34 = .ok (.ireturn, 1) := by decide +kernel
theorem dX1_keepValues_0 : decode cX1_keepValues 0 = .ok (.iconst 0, 1) := by decide +kernel
theorem dX1_keepValues_1 : decode cX1_keepValues 1 = .ok (.istore_n 3, 1) := by decide +kernel
theorem dX1_keepValues_2 : decode cX1_keepValues 2 = .ok (.iload_n 3, 1) := by decide +kernel
theorem dX1_keepValues_3 : decode cX1_keepValues 3 = .ok (.bipush 8, 2) := by decide +kernel
theorem dX1_keepValues_5 : decode cX1_keepValues 5 = .ok (.if_icmp .ge 24, 3) := by decide +kernel
theorem dX1_keepValues_8 : decode cX1_keepValues 8 = .ok (.aload_n 0, 1) := by decide +kernel
theorem dX1_keepValues_9 : decode cX1_keepValues 9 = .ok (.getfield 11, 3) := by decide +kernel
theorem dX1_keepValues_12 : decode cX1_keepValues 12 = .ok (.iload_n 3, 1) := by decide +kernel
theorem dX1_keepValues_13 : decode cX1_keepValues 13 = .ok (.dup2, 1) := by decide +kernel
theorem dX1_keepValues_14 : decode cX1_keepValues 14 = .ok (.laload, 1) := by decide +kernel
theorem dX1_keepValues_15 : decode cX1_keepValues 15 = .ok (.iload_n 1, 1) := by decide +kernel
theorem dX1_keepValues_16 : decode cX1_keepValues 16 = .ok (.iload_n 2, 1) := by decide +kernel
theorem dX1_keepValues_17 : decode cX1_keepValues 17 = .ok (.iload_n 3, 1) := by decide +kernel
theorem dX1_keepValues_18 : decode cX1_keepValues 18 = .ok (.invokestatic 31, 3) := by decide +kernel
theorem dX1_keepValues_21 : decode cX1_keepValues 21 = .ok (.land, 1) := by decide +kernel
theorem dX1_keepValues_22 : decode cX1_keepValues 22 = .ok (.lastore, 1) := by decide +kernel
theorem dX1_keepValues_23 : decode cX1_keepValues 23 = .ok (.iinc 3 1, 3) := by decide +kernel
theorem dX1_keepValues_26 : decode cX1_keepValues 26 = .ok (.goto (-24), 3) := by decide +kernel
theorem dX1_keepValues_29 : decode cX1_keepValues 29 = .ok (.return_, 1) := by decide +kernel
theorem dX1_keepPartners_0 : decode cX1_keepPartners 0 = .ok (.iconst 0, 1) := by decide +kernel
theorem dX1_keepPartners_1 : decode cX1_keepPartners 1 = .ok (.istore 5, 2) := by decide +kernel
theorem dX1_keepPartners_3 : decode cX1_keepPartners 3 = .ok (.iload 5, 2) := by decide +kernel
theorem dX1_keepPartners_5 : decode cX1_keepPartners 5 = .ok (.bipush 8, 2) := by decide +kernel
theorem dX1_keepPartners_7 : decode cX1_keepPartners 7 = .ok (.if_icmp .ge 41, 3) := by decide +kernel
theorem dX1_keepPartners_10 : decode cX1_keepPartners 10 = .ok (.aload_n 0, 1) := by decide +kernel
theorem dX1_keepPartners_11 : decode cX1_keepPartners 11 = .ok (.getfield 11, 3) := by decide +kernel
theorem dX1_keepPartners_14 : decode cX1_keepPartners 14 = .ok (.iload 5, 2) := by decide +kernel
theorem dX1_keepPartners_16 : decode cX1_keepPartners 16 = .ok (.dup2, 1) := by decide +kernel
theorem dX1_keepPartners_17 : decode cX1_keepPartners 17 = .ok (.laload, 1) := by decide +kernel
theorem dX1_keepPartners_18 : decode cX1_keepPartners 18 = .ok (.iload_n 1, 1) := by decide +kernel
theorem dX1_keepPartners_19 : decode cX1_keepPartners 19 = .ok (.iconst 1, 1) := by decide +kernel
theorem dX1_keepPartners_20 : decode cX1_keepPartners 20 = .ok (.iload_n 2, 1) := by decide +kernel
theorem dX1_keepPartners_21 : decode cX1_keepPartners 21 = .ok (.ishl, 1) := by decide +kernel
theorem dX1_keepPartners_22 : decode cX1_keepPartners 22 = .ok (.iload 5, 2) := by decide +kernel
theorem dX1_keepPartners_24 : decode cX1_keepPartners 24 = .ok (.invokestatic 31, 3) := by decide +kernel
theorem dX1_keepPartners_27 : decode cX1_keepPartners 27 = .ok (.ldc2_w 19, 3) := by decide +kernel
theorem dX1_keepPartners_30 : decode cX1_keepPartners 30 = .ok (.lxor, 1) := by decide +kernel
theorem dX1_keepPartners_31 : decode cX1_keepPartners 31 = .ok (.iload_n 3, 1) := by decide +kernel
theorem dX1_keepPartners_32 : decode cX1_keepPartners 32 = .ok (.iload 4, 2) := by decide +kernel
theorem dX1_keepPartners_34 : decode cX1_keepPartners 34 = .ok (.iload 5, 2) := by decide +kernel
theorem dX1_keepPartners_36 : decode cX1_keepPartners 36 = .ok (.invokestatic 31, 3) := by decide +kernel
theorem dX1_keepPartners_39 : decode cX1_keepPartners 39 = .ok (.lor, 1) := by decide +kernel
theorem dX1_keepPartners_40 : decode cX1_keepPartners 40 = .ok (.land, 1) := by decide +kernel
theorem dX1_keepPartners_41 : decode cX1_keepPartners 41 = .ok (.lastore, 1) := by decide +kernel
theorem dX1_keepPartners_42 : decode cX1_keepPartners 42 = .ok (.iinc 5 1, 3) := by decide +kernel
theorem dX1_keepPartners_45 : decode cX1_keepPartners 45 = .ok (.goto (-42), 3) := by decide +kernel
theorem dX1_keepPartners_48 : decode cX1_keepPartners 48 = .ok (.return_, 1) := by decide +kernel
theorem dX1_vary_0 : decode cX1_vary 0 = .ok (.iload_n 1, 1) := by decide +kernel
theorem dX1_vary_1 : decode cX1_vary 1 = .ok (.iconst 2, 1) := by decide +kernel
theorem dX1_vary_2 : decode cX1_vary 2 = .ok (.if_icmp .ne 10, 3) := by decide +kernel
theorem dX1_vary_5 : decode cX1_vary 5 = .ok (.aload_n 0, 1) := by decide +kernel
theorem dX1_vary_6 : decode cX1_vary 6 = .ok (.iload_n 2, 1) := by decide +kernel
theorem dX1_vary_7 : decode cX1_vary 7 = .ok (.iload_n 3, 1) := by decide +kernel
theorem dX1_vary_8 : decode cX1_vary 8 = .ok (.invokevirtual 39, 3) := by decide +kernel
theorem dX1_vary_11 : decode cX1_vary 11 = .ok (.return_, 1) := by decide +kernel
theorem dX1_vary_12 : decode cX1_vary 12 = .ok (.iload_n 1, 1) := by decide +kernel
theorem dX1_vary_13 : decode cX1_vary 13 = .ok (.ifCond .ne 7, 3) := by decide +kernel
theorem dX1_vary_16 : decode cX1_vary 16 = .ok (.iconst 1, 1) := by decide +kernel
theorem dX1_vary_17 : decode cX1_vary 17 = .ok (.goto 5, 3) := by decide +kernel
theorem dX1_vary_20 : decode cX1_vary 20 = .ok (.bipush 8, 2) := by decide +kernel
theorem dX1_vary_22 : decode cX1_vary 22 = .ok (.istore 4, 2) := by decide +kernel
theorem dX1_vary_24 : decode cX1_vary 24 = .ok (.iload_n 1, 1) := by decide +kernel
theorem dX1_vary_25 : decode cX1_vary 25 = .ok (.ifCond .ne 9, 3) := by decide +kernel
theorem dX1_vary_28 : decode cX1_vary 28 = .ok (.ldc2_w 43, 3) := by decide +kernel
theorem dX1_vary_31 : decode cX1_vary 31 = .ok (.goto 6, 3) := by decide +kernel
theorem dX1_vary_34 : decode cX1_vary 34 = .ok (.ldc2_w 45, 3) := by decide +kernel
theorem dX1_vary_37 : decode cX1_vary 37 = .ok (.lstore 5, 2) := by decide +kernel
theorem dX1_vary_39 : decode cX1_vary 39 = .ok (.iconst 0, 1) := by decide +kernel
theorem dX1_vary_40 : decode cX1_vary 40 = .ok (.istore 7, 2) := by decide +kernel
theorem dX1_vary_42 : decode cX1_vary 42 = .ok (.iload 7, 2) := by decide +kernel
theorem dX1_vary_44 : decode cX1_vary 44 = .ok (.bipush 8, 2) := by decide +kernel
theorem dX1_vary_46 : decode cX1_vary 46 = .ok (.if_icmp .ge 32, 3) := by decide +kernel
theorem dX1_vary_49 : decode cX1_vary 49 = .ok (.aload_n 0, 1) := by decide +kernel
theorem dX1_vary_50 : decode cX1_vary 50 = .ok (.getfield 11, 3) := by decide +kernel
theorem dX1_vary_53 : decode cX1_vary 53 = .ok (.iload 7, 2) := by decide +kernel
theorem dX1_vary_55 : decode cX1_vary 55 = .ok (.aload_n 0, 1) := by decide +kernel
theorem dX1_vary_56 : decode cX1_vary 56 = .ok (.getfield 11, 3) := by decide +kernel
theorem dX1_vary_59 : decode cX1_vary 59 = .ok (.iload 7, 2) := by decide +kernel
theorem dX1_vary_61 : decode cX1_vary 61 = .ok (.laload, 1) := by decide +kernel
theorem dX1_vary_62 : decode cX1_vary 62 = .ok (.iload 4, 2) := by decide +kernel
theorem dX1_vary_64 : decode cX1_vary 64 = .ok (.lload 5, 2) := by decide +kernel
theorem dX1_vary_66 : decode cX1_vary 66 = .ok (.iload_n 2, 1) := by decide +kernel
theorem dX1_vary_67 : decode cX1_vary 67 = .ok (.iload_n 3, 1) := by decide +kernel
theorem dX1_vary_68 : decode cX1_vary 68 = .ok (.invokestatic 47, 3) := by decide +kernel
theorem dX1_vary_71 : decode cX1_vary 71 = .ok (.lastore, 1) := by decide +kernel
theorem dX1_vary_72 : decode cX1_vary 72 = .ok (.iinc 7 1, 3) := by decide +kernel
theorem dX1_vary_75 : decode cX1_vary 75 = .ok (.goto (-33), 3) := by decide +kernel
theorem dX1_vary_78 : decode cX1_vary 78 = .ok (.return_, 1) := by decide +kernel
theorem dX1_varyWords_0 : decode cX1_varyWords 0 = .ok (.lconst 0, 1) := by decide +kernel
theorem dX1_varyWords_1 : decode cX1_varyWords 1 = .ok (.lstore_n 3, 1) := by decide +kernel
theorem dX1_varyWords_2 : decode cX1_varyWords 2 = .ok (.iconst 0, 1) := by decide +kernel
theorem dX1_varyWords_3 : decode cX1_varyWords 3 = .ok (.istore 5, 2) := by decide +kernel
theorem dX1_varyWords_5 : decode cX1_varyWords 5 = .ok (.iload 5, 2) := by decide +kernel
theorem dX1_varyWords_7 : decode cX1_varyWords 7 = .ok (.bipush 8, 2) := by decide +kernel
theorem dX1_varyWords_9 : decode cX1_varyWords 9 = .ok (.if_icmp .ge 32, 3) := by decide +kernel
theorem dX1_varyWords_12 : decode cX1_varyWords 12 = .ok (.lload_n 3, 1) := by decide +kernel
theorem dX1_varyWords_13 : decode cX1_varyWords 13 = .ok (.iload_n 1, 1) := by decide +kernel
theorem dX1_varyWords_14 : decode cX1_varyWords 14 = .ok (.iload 5, 2) := by decide +kernel
theorem dX1_varyWords_16 : decode cX1_varyWords 16 = .ok (.iushr, 1) := by decide +kernel
theorem dX1_varyWords_17 : decode cX1_varyWords 17 = .ok (.iconst 1, 1) := by decide +kernel
theorem dX1_varyWords_18 : decode cX1_varyWords 18 = .ok (.iand, 1) := by decide +kernel
theorem dX1_varyWords_19 : decode cX1_varyWords 19 = .ok (.ifCond .eq 13, 3) := by decide +kernel
theorem dX1_varyWords_22 : decode cX1_varyWords 22 = .ok (.aload_n 0, 1) := by decide +kernel
theorem dX1_varyWords_23 : decode cX1_varyWords 23 = .ok (.getfield 11, 3) := by decide +kernel
theorem dX1_varyWords_26 : decode cX1_varyWords 26 = .ok (.iload 5, 2) := by decide +kernel
theorem dX1_varyWords_28 : decode cX1_varyWords 28 = .ok (.laload, 1) := by decide +kernel
theorem dX1_varyWords_29 : decode cX1_varyWords 29 = .ok (.goto 4, 3) := by decide +kernel
theorem dX1_varyWords_32 : decode cX1_varyWords 32 = .ok (.lconst 0, 1) := by decide +kernel
theorem dX1_varyWords_33 : decode cX1_varyWords 33 = .ok (.lor, 1) := by decide +kernel
theorem dX1_varyWords_34 : decode cX1_varyWords 34 = .ok (.lstore_n 3, 1) := by decide +kernel
theorem dX1_varyWords_35 : decode cX1_varyWords 35 = .ok (.iinc 5 1, 3) := by decide +kernel
theorem dX1_varyWords_38 : decode cX1_varyWords 38 = .ok (.goto (-33), 3) := by decide +kernel
theorem dX1_varyWords_41 : decode cX1_varyWords 41 = .ok (.iconst 0, 1) := by decide +kernel
theorem dX1_varyWords_42 : decode cX1_varyWords 42 = .ok (.istore 5, 2) := by decide +kernel
theorem dX1_varyWords_44 : decode cX1_varyWords 44 = .ok (.iload 5, 2) := by decide +kernel
theorem dX1_varyWords_46 : decode cX1_varyWords 46 = .ok (.bipush 8, 2) := by decide +kernel
theorem dX1_varyWords_48 : decode cX1_varyWords 48 = .ok (.if_icmp .ge 30, 3) := by decide +kernel
theorem dX1_varyWords_51 : decode cX1_varyWords 51 = .ok (.aload_n 0, 1) := by decide +kernel
theorem dX1_varyWords_52 : decode cX1_varyWords 52 = .ok (.getfield 11, 3) := by decide +kernel
theorem dX1_varyWords_55 : decode cX1_varyWords 55 = .ok (.iload 5, 2) := by decide +kernel
theorem dX1_varyWords_57 : decode cX1_varyWords 57 = .ok (.iload_n 2, 1) := by decide +kernel
theorem dX1_varyWords_58 : decode cX1_varyWords 58 = .ok (.iload 5, 2) := by decide +kernel
theorem dX1_varyWords_60 : decode cX1_varyWords 60 = .ok (.iushr, 1) := by decide +kernel
theorem dX1_varyWords_61 : decode cX1_varyWords 61 = .ok (.iconst 1, 1) := by decide +kernel
theorem dX1_varyWords_62 : decode cX1_varyWords 62 = .ok (.iand, 1) := by decide +kernel
theorem dX1_varyWords_63 : decode cX1_varyWords 63 = .ok (.ifCond .eq 7, 3) := by decide +kernel
theorem dX1_varyWords_66 : decode cX1_varyWords 66 = .ok (.lload_n 3, 1) := by decide +kernel
theorem dX1_varyWords_67 : decode cX1_varyWords 67 = .ok (.goto 4, 3) := by decide +kernel
theorem dX1_varyWords_70 : decode cX1_varyWords 70 = .ok (.lconst 0, 1) := by decide +kernel
theorem dX1_varyWords_71 : decode cX1_varyWords 71 = .ok (.lastore, 1) := by decide +kernel
theorem dX1_varyWords_72 : decode cX1_varyWords 72 = .ok (.iinc 5 1, 3) := by decide +kernel
theorem dX1_varyWords_75 : decode cX1_varyWords 75 = .ok (.goto (-31), 3) := by decide +kernel
theorem dX1_varyWords_78 : decode cX1_varyWords 78 = .ok (.return_, 1) := by decide +kernel
theorem dX1_varied_0 : decode cX1_varied 0 = .ok (.lconst 0, 1) := by decide +kernel
theorem dX1_varied_1 : decode cX1_varied 1 = .ok (.lstore 7, 2) := by decide +kernel
theorem dX1_varied_3 : decode cX1_varied 3 = .ok (.iconst 0, 1) := by decide +kernel
theorem dX1_varied_4 : decode cX1_varied 4 = .ok (.istore 9, 2) := by decide +kernel
theorem dX1_varied_6 : decode cX1_varied 6 = .ok (.iload 9, 2) := by decide +kernel
theorem dX1_varied_8 : decode cX1_varied 8 = .ok (.bipush 8, 2) := by decide +kernel
theorem dX1_varied_10 : decode cX1_varied 10 = .ok (.if_icmp .ge 36, 3) := by decide +kernel
theorem dX1_varied_13 : decode cX1_varied 13 = .ok (.lload 7, 2) := by decide +kernel
theorem dX1_varied_15 : decode cX1_varied 15 = .ok (.iload 5, 2) := by decide +kernel
theorem dX1_varied_17 : decode cX1_varied 17 = .ok (.iload 9, 2) := by decide +kernel
theorem dX1_varied_19 : decode cX1_varied 19 = .ok (.iushr, 1) := by decide +kernel
theorem dX1_varied_20 : decode cX1_varied 20 = .ok (.iconst 1, 1) := by decide +kernel
theorem dX1_varied_21 : decode cX1_varied 21 = .ok (.iand, 1) := by decide +kernel
theorem dX1_varied_22 : decode cX1_varied 22 = .ok (.ifCond .eq 14, 3) := by decide +kernel
theorem dX1_varied_25 : decode cX1_varied 25 = .ok (.lload_n 0, 1) := by decide +kernel
theorem dX1_varied_26 : decode cX1_varied 26 = .ok (.iload 9, 2) := by decide +kernel
theorem dX1_varied_28 : decode cX1_varied 28 = .ok (.iload_n 2, 1) := by decide +kernel
theorem dX1_varied_29 : decode cX1_varied 29 = .ok (.imul, 1) := by decide +kernel
theorem dX1_varied_30 : decode cX1_varied 30 = .ok (.lushr, 1) := by decide +kernel
theorem dX1_varied_31 : decode cX1_varied 31 = .ok (.lload_n 3, 1) := by decide +kernel
theorem dX1_varied_32 : decode cX1_varied 32 = .ok (.land, 1) := by decide +kernel
theorem dX1_varied_33 : decode cX1_varied 33 = .ok (.goto 4, 3) := by decide +kernel
theorem dX1_varied_36 : decode cX1_varied 36 = .ok (.lconst 0, 1) := by decide +kernel
theorem dX1_varied_37 : decode cX1_varied 37 = .ok (.lor, 1) := by decide +kernel
theorem dX1_varied_38 : decode cX1_varied 38 = .ok (.lstore 7, 2) := by decide +kernel
theorem dX1_varied_40 : decode cX1_varied 40 = .ok (.iinc 9 1, 3) := by decide +kernel
theorem dX1_varied_43 : decode cX1_varied 43 = .ok (.goto (-37), 3) := by decide +kernel
theorem dX1_varied_46 : decode cX1_varied 46 = .ok (.lconst 0, 1) := by decide +kernel
theorem dX1_varied_47 : decode cX1_varied 47 = .ok (.lstore 9, 2) := by decide +kernel
theorem dX1_varied_49 : decode cX1_varied 49 = .ok (.iconst 0, 1) := by decide +kernel
theorem dX1_varied_50 : decode cX1_varied 50 = .ok (.istore 11, 2) := by decide +kernel
theorem dX1_varied_52 : decode cX1_varied 52 = .ok (.iload 11, 2) := by decide +kernel
theorem dX1_varied_54 : decode cX1_varied 54 = .ok (.bipush 8, 2) := by decide +kernel
theorem dX1_varied_56 : decode cX1_varied 56 = .ok (.if_icmp .ge 35, 3) := by decide +kernel
theorem dX1_varied_59 : decode cX1_varied 59 = .ok (.lload 9, 2) := by decide +kernel
theorem dX1_varied_61 : decode cX1_varied 61 = .ok (.iload 6, 2) := by decide +kernel
theorem dX1_varied_63 : decode cX1_varied 63 = .ok (.iload 11, 2) := by decide +kernel
theorem dX1_varied_65 : decode cX1_varied 65 = .ok (.iushr, 1) := by decide +kernel
theorem dX1_varied_66 : decode cX1_varied 66 = .ok (.iconst 1, 1) := by decide +kernel
theorem dX1_varied_67 : decode cX1_varied 67 = .ok (.iand, 1) := by decide +kernel
theorem dX1_varied_68 : decode cX1_varied 68 = .ok (.ifCond .eq 13, 3) := by decide +kernel
theorem dX1_varied_71 : decode cX1_varied 71 = .ok (.lload 7, 2) := by decide +kernel
theorem dX1_varied_73 : decode cX1_varied 73 = .ok (.iload 11, 2) := by decide +kernel
theorem dX1_varied_75 : decode cX1_varied 75 = .ok (.iload_n 2, 1) := by decide +kernel
theorem dX1_varied_76 : decode cX1_varied 76 = .ok (.imul, 1) := by decide +kernel
theorem dX1_varied_77 : decode cX1_varied 77 = .ok (.lshl, 1) := by decide +kernel
theorem dX1_varied_78 : decode cX1_varied 78 = .ok (.goto 4, 3) := by decide +kernel
theorem dX1_varied_81 : decode cX1_varied 81 = .ok (.lconst 0, 1) := by decide +kernel
theorem dX1_varied_82 : decode cX1_varied 82 = .ok (.lor, 1) := by decide +kernel
theorem dX1_varied_83 : decode cX1_varied 83 = .ok (.lstore 9, 2) := by decide +kernel
theorem dX1_varied_85 : decode cX1_varied 85 = .ok (.iinc 11 1, 3) := by decide +kernel
theorem dX1_varied_88 : decode cX1_varied 88 = .ok (.goto (-36), 3) := by decide +kernel
theorem dX1_varied_91 : decode cX1_varied 91 = .ok (.lload 9, 2) := by decide +kernel
theorem dX1_varied_93 : decode cX1_varied 93 = .ok (.lreturn, 1) := by decide +kernel
theorem dX1_mask_0 : decode cX1_mask 0 = .ok (.iload_n 0, 1) := by decide +kernel
theorem dX1_mask_1 : decode cX1_mask 1 = .ok (.ifCond .ne 10, 3) := by decide +kernel
theorem dX1_mask_4 : decode cX1_mask 4 = .ok (.iload_n 1, 1) := by decide +kernel
theorem dX1_mask_5 : decode cX1_mask 5 = .ok (.i2l, 1) := by decide +kernel
theorem dX1_mask_6 : decode cX1_mask 6 = .ok (.ldc2_w 43, 3) := by decide +kernel
theorem dX1_mask_9 : decode cX1_mask 9 = .ok (.lmul, 1) := by decide +kernel
theorem dX1_mask_10 : decode cX1_mask 10 = .ok (.lreturn, 1) := by decide +kernel
theorem dX1_mask_11 : decode cX1_mask 11 = .ok (.iload_n 0, 1) := by decide +kernel
theorem dX1_mask_12 : decode cX1_mask 12 = .ok (.iconst 2, 1) := by decide +kernel
theorem dX1_mask_13 : decode cX1_mask 13 = .ok (.if_icmp .ne 19, 3) := by decide +kernel
theorem dX1_mask_16 : decode cX1_mask 16 = .ok (.iload_n 1, 1) := by decide +kernel
theorem dX1_mask_17 : decode cX1_mask 17 = .ok (.iload_n 2, 1) := by decide +kernel
theorem dX1_mask_18 : decode cX1_mask 18 = .ok (.iushr, 1) := by decide +kernel
theorem dX1_mask_19 : decode cX1_mask 19 = .ok (.iconst 1, 1) := by decide +kernel
theorem dX1_mask_20 : decode cX1_mask 20 = .ok (.iand, 1) := by decide +kernel
theorem dX1_mask_21 : decode cX1_mask 21 = .ok (.ifCond .eq 9, 3) := by decide +kernel
theorem dX1_mask_24 : decode cX1_mask 24 = .ok (.ldc2_w 19, 3) := by decide +kernel
theorem dX1_mask_27 : decode cX1_mask 27 = .ok (.goto 4, 3) := by decide +kernel
theorem dX1_mask_30 : decode cX1_mask 30 = .ok (.lconst 0, 1) := by decide +kernel
theorem dX1_mask_31 : decode cX1_mask 31 = .ok (.lreturn, 1) := by decide +kernel
theorem dX1_mask_32 : decode cX1_mask 32 = .ok (.iload_n 1, 1) := by decide +kernel
theorem dX1_mask_33 : decode cX1_mask 33 = .ok (.i2l, 1) := by decide +kernel
theorem dX1_mask_34 : decode cX1_mask 34 = .ok (.ldc2_w 51, 3) := by decide +kernel
theorem dX1_mask_37 : decode cX1_mask 37 = .ok (.lmul, 1) := by decide +kernel
theorem dX1_mask_38 : decode cX1_mask 38 = .ok (.ldc2_w 43, 3) := by decide +kernel
theorem dX1_mask_41 : decode cX1_mask 41 = .ok (.land, 1) := by decide +kernel
theorem dX1_mask_42 : decode cX1_mask 42 = .ok (.ldc2_w 45, 3) := by decide +kernel
theorem dX1_mask_45 : decode cX1_mask 45 = .ok (.lmul, 1) := by decide +kernel
theorem dX1_mask_46 : decode cX1_mask 46 = .ok (.lreturn, 1) := by decide +kernel
theorem dX2_init_0 : decode cX2_init 0 = .ok (.aload_n 0, 1) := by decide +kernel
theorem dX2_init_1 : decode cX2_init 1 = .ok (.invokespecial 3, 3) := by decide +kernel
theorem dX2_init_4 : decode cX2_init 4 = .ok (.aload_n 0, 1) := by decide +kernel
theorem dX2_init_5 : decode cX2_init 5 = .ok (.iconst 5, 1) := by decide +kernel
theorem dX2_init_6 : decode cX2_init 6 = .ok (.anewarray 9, 3) := by decide +kernel
theorem dX2_init_9 : decode cX2_init 9 = .ok (.putfield 11, 3) := by decide +kernel
theorem dX2_init_12 : decode cX2_init 12 = .ok (.iconst 0, 1) := by decide +kernel
theorem dX2_init_13 : decode cX2_init 13 = .ok (.istore_n 1, 1) := by decide +kernel
theorem dX2_init_14 : decode cX2_init 14 = .ok (.iload_n 1, 1) := by decide +kernel
theorem dX2_init_15 : decode cX2_init 15 = .ok (.iconst 5, 1) := by decide +kernel
theorem dX2_init_16 : decode cX2_init 16 = .ok (.if_icmp .ge 22, 3) := by decide +kernel
theorem dX2_init_19 : decode cX2_init 19 = .ok (.aload_n 0, 1) := by decide +kernel
theorem dX2_init_20 : decode cX2_init 20 = .ok (.getfield 11, 3) := by decide +kernel
theorem dX2_init_23 : decode cX2_init 23 = .ok (.iload_n 1, 1) := by decide +kernel
theorem dX2_init_24 : decode cX2_init 24 = .ok (.new 9, 3) := by decide +kernel
theorem dX2_init_27 : decode cX2_init 27 = .ok (.dup, 1) := by decide +kernel
theorem dX2_init_28 : decode cX2_init 28 = .ok (.invokespecial 17, 3) := by decide +kernel
theorem dX2_init_31 : decode cX2_init 31 = .ok (.aastore, 1) := by decide +kernel
theorem dX2_init_32 : decode cX2_init 32 = .ok (.iinc 1 1, 3) := by decide +kernel
theorem dX2_init_35 : decode cX2_init 35 = .ok (.goto (-21), 3) := by decide +kernel
theorem dX2_init_38 : decode cX2_init 38 = .ok (.return_, 1) := by decide +kernel
theorem dX2_record_0 : decode cX2_record 0 = .ok (.aload_n 0, 1) := by decide +kernel
theorem dX2_record_1 : decode cX2_record 1 = .ok (.getfield 18, 3) := by decide +kernel
theorem dX2_record_4 : decode cX2_record 4 = .ok (.ifCond .lt 23, 3) := by decide +kernel
theorem dX2_record_7 : decode cX2_record 7 = .ok (.aload_n 0, 1) := by decide +kernel
theorem dX2_record_8 : decode cX2_record 8 = .ok (.getfield 18, 3) := by decide +kernel
theorem dX2_record_11 : decode cX2_record 11 = .ok (.iconst 5, 1) := by decide +kernel
theorem dX2_record_12 : decode cX2_record 12 = .ok (.if_icmp .ge 15, 3) := by decide +kernel
theorem dX2_record_15 : decode cX2_record 15 = .ok (.aload_n 0, 1) := by decide +kernel
theorem dX2_record_16 : decode cX2_record 16 = .ok (.getfield 11, 3) := by decide +kernel
theorem dX2_record_19 : decode cX2_record 19 = .ok (.aload_n 0, 1) := by decide +kernel
theorem dX2_record_20 : decode cX2_record 20 = .ok (.getfield 18, 3) := by decide +kernel
theorem dX2_record_23 : decode cX2_record 23 = .ok (.aaload, 1) := by decide +kernel
theorem dX2_record_24 : decode cX2_record 24 = .ok (.ifnonnull 4, 3) := by decide +kernel
theorem dX2_record_27 : decode cX2_record 27 = .ok (.return_, 1) := by decide +kernel
theorem dX2_record_28 : decode cX2_record 28 = .ok (.aload_n 0, 1) := by decide +kernel
theorem dX2_record_29 : decode cX2_record 29 = .ok (.getfield 11, 3) := by decide +kernel
theorem dX2_record_32 : decode cX2_record 32 = .ok (.aload_n 0, 1) := by decide +kernel
theorem dX2_record_33 : decode cX2_record 33 = .ok (.getfield 18, 3) := by decide +kernel
theorem dX2_record_36 : decode cX2_record 36 = .ok (.aaload, 1) := by decide +kernel
theorem dX2_record_37 : decode cX2_record 37 = .ok (.aload_n 1, 1) := by decide +kernel
theorem dX2_record_38 : decode cX2_record 38 = .ok (.invokevirtual 22, 3) := by decide +kernel
theorem dX2_record_41 : decode cX2_record 41 = .ok (.aload_n 0, 1) := by decide +kernel
theorem dX2_record_42 : decode cX2_record 42 = .ok (.aload_n 0, 1) := by decide +kernel
theorem dX2_record_43 : decode cX2_record 43 = .ok (.getfield 18, 3) := by decide +kernel
theorem dX2_record_46 : decode cX2_record 46 = .ok (.iconst 1, 1) := by decide +kernel
theorem dX2_record_47 : decode cX2_record 47 = .ok (.iadd, 1) := by decide +kernel
theorem dX2_record_48 : decode cX2_record 48 = .ok (.iconst 5, 1) := by decide +kernel
theorem dX2_record_49 : decode cX2_record 49 = .ok (.if_icmp .ge 12, 3) := by decide +kernel
theorem dX2_record_52 : decode cX2_record 52 = .ok (.aload_n 0, 1) := by decide +kernel
theorem dX2_record_53 : decode cX2_record 53 = .ok (.getfield 18, 3) := by decide +kernel
theorem dX2_record_56 : decode cX2_record 56 = .ok (.iconst 1, 1) := by decide +kernel
theorem dX2_record_57 : decode cX2_record 57 = .ok (.iadd, 1) := by decide +kernel
theorem dX2_record_58 : decode cX2_record 58 = .ok (.goto 4, 3) := by decide +kernel
theorem dX2_record_61 : decode cX2_record 61 = .ok (.iconst 0, 1) := by decide +kernel
theorem dX2_record_62 : decode cX2_record 62 = .ok (.putfield 18, 3) := by decide +kernel
theorem dX2_record_65 : decode cX2_record 65 = .ok (.aload_n 0, 1) := by decide +kernel
theorem dX2_record_66 : decode cX2_record 66 = .ok (.aload_n 0, 1) := by decide +kernel
theorem dX2_record_67 : decode cX2_record 67 = .ok (.getfield 26, 3) := by decide +kernel
theorem dX2_record_70 : decode cX2_record 70 = .ok (.iconst 1, 1) := by decide +kernel
theorem dX2_record_71 : decode cX2_record 71 = .ok (.iadd, 1) := by decide +kernel
theorem dX2_record_72 : decode cX2_record 72 = .ok (.iconst 5, 1) := by decide +kernel
theorem dX2_record_73 : decode cX2_record 73 = .ok (.invokestatic 29, 3) := by decide +kernel
theorem dX2_record_76 : decode cX2_record 76 = .ok (.putfield 26, 3) := by decide +kernel
theorem dX2_record_79 : decode cX2_record 79 = .ok (.return_, 1) := by decide +kernel
theorem dX2_restore_0 : decode cX2_restore 0 = .ok (.aload_n 0, 1) := by decide +kernel
theorem dX2_restore_1 : decode cX2_restore 1 = .ok (.getfield 18, 3) := by decide +kernel
theorem dX2_restore_4 : decode cX2_restore 4 = .ok (.ifCond .le 12, 3) := by decide +kernel
theorem dX2_restore_7 : decode cX2_restore 7 = .ok (.aload_n 0, 1) := by decide +kernel
theorem dX2_restore_8 : decode cX2_restore 8 = .ok (.getfield 18, 3) := by decide +kernel
theorem dX2_restore_11 : decode cX2_restore 11 = .ok (.iconst 1, 1) := by decide +kernel
theorem dX2_restore_12 : decode cX2_restore 12 = .ok (.isub, 1) := by decide +kernel
theorem dX2_restore_13 : decode cX2_restore 13 = .ok (.goto 4, 3) := by decide +kernel
theorem dX2_restore_16 : decode cX2_restore 16 = .ok (.iconst 4, 1) := by decide +kernel
theorem dX2_restore_17 : decode cX2_restore 17 = .ok (.istore_n 2, 1) := by decide +kernel
theorem dX2_restore_18 : decode cX2_restore 18 = .ok (.aload_n 0, 1) := by decide +kernel
theorem dX2_restore_19 : decode cX2_restore 19 = .ok (.getfield 26, 3) := by decide +kernel
theorem dX2_restore_22 : decode cX2_restore 22 = .ok (.ifCond .eq 17, 3) := by decide +kernel
theorem dX2_restore_25 : decode cX2_restore 25 = .ok (.iload_n 2, 1) := by decide +kernel
theorem dX2_restore_26 : decode cX2_restore 26 = .ok (.iconst 5, 1) := by decide +kernel
theorem dX2_restore_27 : decode cX2_restore 27 = .ok (.if_icmp .ge 12, 3) := by decide +kernel
theorem dX2_restore_30 : decode cX2_restore 30 = .ok (.aload_n 0, 1) := by decide +kernel
theorem dX2_restore_31 : decode cX2_restore 31 = .ok (.getfield 11, 3) := by decide +kernel
theorem dX2_restore_34 : decode cX2_restore 34 = .ok (.iload_n 2, 1) := by decide +kernel
theorem dX2_restore_35 : decode cX2_restore 35 = .ok (.aaload, 1) := by decide +kernel
theorem dX2_restore_36 : decode cX2_restore 36 = .ok (.ifnonnull 5, 3) := by decide +kernel
theorem dX2_restore_39 : decode cX2_restore 39 = .ok (.iconst 0, 1) := by decide +kernel
theorem dX2_restore_40 : decode cX2_restore 40 = .ok (.ireturn, 1) := by decide +kernel
theorem dX2_restore_41 : decode cX2_restore 41 = .ok (.aload_n 1, 1) := by decide +kernel
theorem dX2_restore_42 : decode cX2_restore 42 = .ok (.aload_n 0, 1) := by decide +kernel
theorem dX2_restore_43 : decode cX2_restore 43 = .ok (.getfield 11, 3) := by decide +kernel
theorem dX2_restore_46 : decode cX2_restore 46 = .ok (.iload_n 2, 1) := by decide +kernel
theorem dX2_restore_47 : decode cX2_restore 47 = .ok (.aaload, 1) := by decide +kernel
theorem dX2_restore_48 : decode cX2_restore 48 = .ok (.invokevirtual 22, 3) := by decide +kernel
theorem dX2_restore_51 : decode cX2_restore 51 = .ok (.aload_n 0, 1) := by decide +kernel
theorem dX2_restore_52 : decode cX2_restore 52 = .ok (.iload_n 2, 1) := by decide +kernel
theorem dX2_restore_53 : decode cX2_restore 53 = .ok (.putfield 18, 3) := by decide +kernel
theorem dX2_restore_56 : decode cX2_restore 56 = .ok (.aload_n 0, 1) := by decide +kernel
theorem dX2_restore_57 : decode cX2_restore 57 = .ok (.dup, 1) := by decide +kernel
theorem dX2_restore_58 : decode cX2_restore 58 = .ok (.getfield 26, 3) := by decide +kernel
theorem dX2_restore_61 : decode cX2_restore 61 = .ok (.iconst 1, 1) := by decide +kernel
theorem dX2_restore_62 : decode cX2_restore 62 = .ok (.isub, 1) := by decide +kernel
theorem dX2_restore_63 : decode cX2_restore 63 = .ok (.putfield 26, 3) := by decide +kernel
theorem dX2_restore_66 : decode cX2_restore 66 = .ok (.iconst 1, 1) := by decide +kernel
theorem dX2_restore_67 : decode cX2_restore 67 = .ok (.ireturn, 1) := by decide +kernel
theorem dX3_init_0 : decode cX3_init 0 = .ok (.aload_n 0, 1) := by decide +kernel
theorem dX3_init_1 : decode cX3_init 1 = .ok (.invokespecial 3, 3) := by decide +kernel
theorem dX3_init_4 : decode cX3_init 4 = .ok (.return_, 1) := by decide +kernel
theorem dX3_suffices_0 : decode cX3_suffices 0 = .ok (.aload_n 0, 1) := by decide +kernel
theorem dX3_suffices_1 : decode cX3_suffices 1 = .ok (.bipush (-7), 2) := by decide +kernel
theorem dX3_suffices_3 : decode cX3_suffices 3 = .ok (.putfield 9, 3) := by decide +kernel
theorem dX3_suffices_6 : decode cX3_suffices 6 = .ok (.aload_n 0, 1) := by decide +kernel
theorem dX3_suffices_7 : decode cX3_suffices 7 = .ok (.bipush (-7), 2) := by decide +kernel
theorem dX3_suffices_9 : decode cX3_suffices 9 = .ok (.putfield 15, 3) := by decide +kernel
theorem dX3_suffices_12 : decode cX3_suffices 12 = .ok (.aload_n 0, 1) := by decide +kernel
theorem dX3_suffices_13 : decode cX3_suffices 13 = .ok (.aload_n 0, 1) := by decide +kernel
theorem dX3_suffices_14 : decode cX3_suffices 14 = .ok (.aload_n 1, 1) := by decide +kernel
theorem dX3_suffices_15 : decode cX3_suffices 15 = .ok (.iload_n 2, 1) := by decide +kernel
theorem dX3_suffices_16 : decode cX3_suffices 16 = .ok (.iconst 0, 1) := by decide +kernel
theorem dX3_suffices_17 : decode cX3_suffices 17 = .ok (.invokevirtual 18, 3) := by decide +kernel
theorem dX3_suffices_20 : decode cX3_suffices 20 = .ok (.putfield 22, 3) := by decide +kernel
theorem dX3_suffices_23 : decode cX3_suffices 23 = .ok (.aload_n 0, 1) := by decide +kernel
theorem dX3_suffices_24 : decode cX3_suffices 24 = .ok (.getfield 9, 3) := by decide +kernel
theorem dX3_suffices_27 : decode cX3_suffices 27 = .ok (.bipush (-7), 2) := by decide +kernel
theorem dX3_suffices_29 : decode cX3_suffices 29 = .ok (.if_icmp .ne 7, 3) := by decide +kernel
theorem dX3_suffices_32 : decode cX3_suffices 32 = .ok (.iconst 1, 1) := by decide +kernel
theorem dX3_suffices_33 : decode cX3_suffices 33 = .ok (.goto 4, 3) := by decide +kernel
theorem dX3_suffices_36 : decode cX3_suffices 36 = .ok (.iconst 0, 1) := by decide +kernel
theorem dX3_suffices_37 : decode cX3_suffices 37 = .ok (.ireturn, 1) := by decide +kernel
theorem dX3_readOver_0 : decode cX3_readOver 0 = .ok (.aload_n 1, 1) := by decide +kernel
theorem dX3_readOver_1 : decode cX3_readOver 1 = .ok (.ifnonnull 5, 3) := by decide +kernel
theorem dX3_readOver_4 : decode cX3_readOver 4 = .ok (.iload_n 2, 1) := by decide +kernel
theorem dX3_readOver_5 : decode cX3_readOver 5 = .ok (.ireturn, 1) := by decide +kernel
theorem dX3_readOver_6 : decode cX3_readOver 6 = .ok (.aload_n 1, 1) := by decide +kernel
theorem dX3_readOver_7 : decode cX3_readOver 7 = .ok (.getfield 25, 3) := by decide +kernel
theorem dX3_readOver_10 : decode cX3_readOver 10 = .ok (.tableswitch 82 0 6 #[42, 42, 42, 62, 50, 62, 73], 42) := by decide +kernel
theorem dX3_readOver_52 : decode cX3_readOver 52 = .ok (.aload_n 0, 1) := by decide +kernel
theorem dX3_readOver_53 : decode cX3_readOver 53 = .ok (.aload_n 1, 1) := by decide +kernel
theorem dX3_readOver_54 : decode cX3_readOver 54 = .ok (.iload_n 2, 1) := by decide +kernel
theorem dX3_readOver_55 : decode cX3_readOver 55 = .ok (.iload_n 3, 1) := by decide +kernel
theorem dX3_readOver_56 : decode cX3_readOver 56 = .ok (.invokevirtual 30, 3) := by decide +kernel
theorem dX3_readOver_59 : decode cX3_readOver 59 = .ok (.ireturn, 1) := by decide +kernel
theorem dX3_readOver_60 : decode cX3_readOver 60 = .ok (.aload_n 0, 1) := by decide +kernel
theorem dX3_readOver_61 : decode cX3_readOver 61 = .ok (.aload_n 1, 1) := by decide +kernel
theorem dX3_readOver_62 : decode cX3_readOver 62 = .ok (.iload_n 2, 1) := by decide +kernel
theorem dX3_readOver_63 : decode cX3_readOver 63 = .ok (.iload_n 3, 1) := by decide +kernel
theorem dX3_readOver_64 : decode cX3_readOver 64 = .ok (.iconst 1, 1) := by decide +kernel
theorem dX3_readOver_65 : decode cX3_readOver 65 = .ok (.iadd, 1) := by decide +kernel
theorem dX3_readOver_66 : decode cX3_readOver 66 = .ok (.invokevirtual 30, 3) := by decide +kernel
theorem dX3_readOver_69 : decode cX3_readOver 69 = .ok (.pop, 1) := by decide +kernel
theorem dX3_readOver_70 : decode cX3_readOver 70 = .ok (.iload_n 2, 1) := by decide +kernel
theorem dX3_readOver_71 : decode cX3_readOver 71 = .ok (.ireturn, 1) := by decide +kernel
theorem dX3_readOver_72 : decode cX3_readOver 72 = .ok (.aload_n 0, 1) := by decide +kernel
theorem dX3_readOver_73 : decode cX3_readOver 73 = .ok (.aload_n 1, 1) := by decide +kernel
theorem dX3_readOver_74 : decode cX3_readOver 74 = .ok (.iload_n 2, 1) := by decide +kernel
theorem dX3_readOver_75 : decode cX3_readOver 75 = .ok (.iload_n 3, 1) := by decide +kernel
theorem dX3_readOver_76 : decode cX3_readOver 76 = .ok (.iconst 1, 1) := by decide +kernel
theorem dX3_readOver_77 : decode cX3_readOver 77 = .ok (.iadd, 1) := by decide +kernel
theorem dX3_readOver_78 : decode cX3_readOver 78 = .ok (.invokevirtual 33, 3) := by decide +kernel
theorem dX3_readOver_81 : decode cX3_readOver 81 = .ok (.iload_n 2, 1) := by decide +kernel
theorem dX3_readOver_82 : decode cX3_readOver 82 = .ok (.ireturn, 1) := by decide +kernel
theorem dX3_readOver_83 : decode cX3_readOver 83 = .ok (.iload_n 2, 1) := by decide +kernel
theorem dX3_readOver_84 : decode cX3_readOver 84 = .ok (.iconst 1, 1) := by decide +kernel
theorem dX3_readOver_85 : decode cX3_readOver 85 = .ok (.aload_n 1, 1) := by decide +kernel
theorem dX3_readOver_86 : decode cX3_readOver 86 = .ok (.getfield 37, 3) := by decide +kernel
theorem dX3_readOver_89 : decode cX3_readOver 89 = .ok (.ishl, 1) := by decide +kernel
theorem dX3_readOver_90 : decode cX3_readOver 90 = .ok (.ior, 1) := by decide +kernel
theorem dX3_readOver_91 : decode cX3_readOver 91 = .ok (.ireturn, 1) := by decide +kernel
theorem dX3_readOver_92 : decode cX3_readOver 92 = .ok (.aload_n 0, 1) := by decide +kernel
theorem dX3_readOver_93 : decode cX3_readOver 93 = .ok (.aload_n 1, 1) := by decide +kernel
theorem dX3_readOver_94 : decode cX3_readOver 94 = .ok (.getfield 37, 3) := by decide +kernel
theorem dX3_readOver_97 : decode cX3_readOver 97 = .ok (.aload_n 1, 1) := by decide +kernel
theorem dX3_readOver_98 : decode cX3_readOver 98 = .ok (.getfield 40, 3) := by decide +kernel
theorem dX3_readOver_101 : decode cX3_readOver 101 = .ok (.iload_n 2, 1) := by decide +kernel
theorem dX3_readOver_102 : decode cX3_readOver 102 = .ok (.iload_n 3, 1) := by decide +kernel
theorem dX3_readOver_103 : decode cX3_readOver 103 = .ok (.invokevirtual 43, 3) := by decide +kernel
theorem dX3_readOver_106 : decode cX3_readOver 106 = .ok (.aload_n 0, 1) := by decide +kernel
theorem dX3_readOver_107 : decode cX3_readOver 107 = .ok (.aload_n 1, 1) := by decide +kernel
theorem dX3_readOver_108 : decode cX3_readOver 108 = .ok (.getfield 47, 3) := by decide +kernel
theorem dX3_readOver_111 : decode cX3_readOver 111 = .ok (.aload_n 1, 1) := by decide +kernel
theorem dX3_readOver_112 : decode cX3_readOver 112 = .ok (.getfield 50, 3) := by decide +kernel
theorem dX3_readOver_115 : decode cX3_readOver 115 = .ok (.iload_n 2, 1) := by decide +kernel
theorem dX3_readOver_116 : decode cX3_readOver 116 = .ok (.iload_n 3, 1) := by decide +kernel
theorem dX3_readOver_117 : decode cX3_readOver 117 = .ok (.invokevirtual 43, 3) := by decide +kernel
theorem dX3_readOver_120 : decode cX3_readOver 120 = .ok (.iload_n 2, 1) := by decide +kernel
theorem dX3_readOver_121 : decode cX3_readOver 121 = .ok (.ireturn, 1) := by decide +kernel
theorem dX3_readChain_0 : decode cX3_readChain 0 = .ok (.iload_n 2, 1) := by decide +kernel
theorem dX3_readChain_1 : decode cX3_readChain 1 = .ok (.istore 4, 2) := by decide +kernel
theorem dX3_readChain_3 : decode cX3_readChain 3 = .ok (.aload_n 1, 1) := by decide +kernel
theorem dX3_readChain_4 : decode cX3_readChain 4 = .ok (.getfield 53, 3) := by decide +kernel
theorem dX3_readChain_7 : decode cX3_readChain 7 = .ok (.astore 5, 2) := by decide +kernel
theorem dX3_readChain_9 : decode cX3_readChain 9 = .ok (.aload 5, 2) := by decide +kernel
theorem dX3_readChain_11 : decode cX3_readChain 11 = .ok (.ifnull 24, 3) := by decide +kernel
theorem dX3_readChain_14 : decode cX3_readChain 14 = .ok (.aload_n 0, 1) := by decide +kernel
theorem dX3_readChain_15 : decode cX3_readChain 15 = .ok (.aload 5, 2) := by decide +kernel
theorem dX3_readChain_17 : decode cX3_readChain 17 = .ok (.iload 4, 2) := by decide +kernel
theorem dX3_readChain_19 : decode cX3_readChain 19 = .ok (.iload_n 3, 1) := by decide +kernel
theorem dX3_readChain_20 : decode cX3_readChain 20 = .ok (.invokevirtual 18, 3) := by decide +kernel
theorem dX3_readChain_23 : decode cX3_readChain 23 = .ok (.istore 4, 2) := by decide +kernel
theorem dX3_readChain_25 : decode cX3_readChain 25 = .ok (.aload 5, 2) := by decide +kernel
theorem dX3_readChain_27 : decode cX3_readChain 27 = .ok (.getfield 57, 3) := by decide +kernel
theorem dX3_readChain_30 : decode cX3_readChain 30 = .ok (.astore 5, 2) := by decide +kernel
theorem dX3_readChain_32 : decode cX3_readChain 32 = .ok (.goto (-23), 3) := by decide +kernel
theorem dX3_readChain_35 : decode cX3_readChain 35 = .ok (.iload 4, 2) := by decide +kernel
theorem dX3_readChain_37 : decode cX3_readChain 37 = .ok (.ireturn, 1) := by decide +kernel
theorem dX3_readEach_0 : decode cX3_readEach 0 = .ok (.aload_n 1, 1) := by decide +kernel
theorem dX3_readEach_1 : decode cX3_readEach 1 = .ok (.getfield 53, 3) := by decide +kernel
theorem dX3_readEach_4 : decode cX3_readEach 4 = .ok (.astore 4, 2) := by decide +kernel
theorem dX3_readEach_6 : decode cX3_readEach 6 = .ok (.aload 4, 2) := by decide +kernel
theorem dX3_readEach_8 : decode cX3_readEach 8 = .ok (.ifnull 22, 3) := by decide +kernel
theorem dX3_readEach_11 : decode cX3_readEach 11 = .ok (.aload_n 0, 1) := by decide +kernel
theorem dX3_readEach_12 : decode cX3_readEach 12 = .ok (.aload 4, 2) := by decide +kernel
theorem dX3_readEach_14 : decode cX3_readEach 14 = .ok (.iload_n 2, 1) := by decide +kernel
theorem dX3_readEach_15 : decode cX3_readEach 15 = .ok (.iload_n 3, 1) := by decide +kernel
theorem dX3_readEach_16 : decode cX3_readEach 16 = .ok (.invokevirtual 18, 3) := by decide +kernel
theorem dX3_readEach_19 : decode cX3_readEach 19 = .ok (.pop, 1) := by decide +kernel
theorem dX3_readEach_20 : decode cX3_readEach 20 = .ok (.aload 4, 2) := by decide +kernel
theorem dX3_readEach_22 : decode cX3_readEach 22 = .ok (.getfield 57, 3) := by decide +kernel
theorem dX3_readEach_25 : decode cX3_readEach 25 = .ok (.astore 4, 2) := by decide +kernel
theorem dX3_readEach_27 : decode cX3_readEach 27 = .ok (.goto (-21), 3) := by decide +kernel
theorem dX3_readEach_30 : decode cX3_readEach 30 = .ok (.return_, 1) := by decide +kernel
theorem dX3_look_0 : decode cX3_look 0 = .ok (.aload_n 0, 1) := by decide +kernel
theorem dX3_look_1 : decode cX3_look 1 = .ok (.getfield 9, 3) := by decide +kernel
theorem dX3_look_4 : decode cX3_look 4 = .ok (.bipush (-7), 2) := by decide +kernel
theorem dX3_look_6 : decode cX3_look 6 = .ok (.if_icmp .ne 22, 3) := by decide +kernel
theorem dX3_look_9 : decode cX3_look 9 = .ok (.iload_n 3, 1) := by decide +kernel
theorem dX3_look_10 : decode cX3_look 10 = .ok (.iload_n 1, 1) := by decide +kernel
theorem dX3_look_11 : decode cX3_look 11 = .ok (.iushr, 1) := by decide +kernel
theorem dX3_look_12 : decode cX3_look 12 = .ok (.iconst 1, 1) := by decide +kernel
theorem dX3_look_13 : decode cX3_look 13 = .ok (.iand, 1) := by decide +kernel
theorem dX3_look_14 : decode cX3_look 14 = .ok (.ifCond .ne 14, 3) := by decide +kernel
theorem dX3_look_17 : decode cX3_look 17 = .ok (.aload_n 0, 1) := by decide +kernel
theorem dX3_look_18 : decode cX3_look 18 = .ok (.iload_n 2, 1) := by decide +kernel
theorem dX3_look_19 : decode cX3_look 19 = .ok (.putfield 9, 3) := by decide +kernel
theorem dX3_look_22 : decode cX3_look 22 = .ok (.aload_n 0, 1) := by decide +kernel
theorem dX3_look_23 : decode cX3_look 23 = .ok (.iload 4, 2) := by decide +kernel
theorem dX3_look_25 : decode cX3_look 25 = .ok (.putfield 15, 3) := by decide +kernel
theorem dX3_look_28 : decode cX3_look 28 = .ok (.return_, 1) := by decide +kernel
theorem dX4_init_0 : decode cX4_init 0 = .ok (.aload_n 0, 1) := by decide +kernel
theorem dX4_init_1 : decode cX4_init 1 = .ok (.invokespecial 3, 3) := by decide +kernel
theorem dX4_init_4 : decode cX4_init 4 = .ok (.aload_n 0, 1) := by decide +kernel
theorem dX4_init_5 : decode cX4_init 5 = .ok (.aload_n 1, 1) := by decide +kernel
theorem dX4_init_6 : decode cX4_init 6 = .ok (.putfield 9, 3) := by decide +kernel
theorem dX4_init_9 : decode cX4_init 9 = .ok (.return_, 1) := by decide +kernel
theorem dX4_turn_0 : decode cX4_turn 0 = .ok (.aload_n 1, 1) := by decide +kernel
theorem dX4_turn_1 : decode cX4_turn 1 = .ok (.ifnonnull 4, 3) := by decide +kernel
theorem dX4_turn_4 : decode cX4_turn 4 = .ok (.return_, 1) := by decide +kernel
theorem dX4_turn_5 : decode cX4_turn 5 = .ok (.aload_n 1, 1) := by decide +kernel
theorem dX4_turn_6 : decode cX4_turn 6 = .ok (.getfield 15, 3) := by decide +kernel
theorem dX4_turn_9 : decode cX4_turn 9 = .ok (.tableswitch 133 0 11 #[63, 63, 63, 106, 115, 83, 73, 124, 133, 133, 133, 124], 63) := by decide +kernel
theorem dX4_turn_72 : decode cX4_turn 72 = .ok (.aload_n 0, 1) := by decide +kernel
theorem dX4_turn_73 : decode cX4_turn 73 = .ok (.aload_n 1, 1) := by decide +kernel
theorem dX4_turn_74 : decode cX4_turn 74 = .ok (.aload_n 2, 1) := by decide +kernel
theorem dX4_turn_75 : decode cX4_turn 75 = .ok (.iload_n 3, 1) := by decide +kernel
theorem dX4_turn_76 : decode cX4_turn 76 = .ok (.invokevirtual 21, 3) := by decide +kernel
theorem dX4_turn_79 : decode cX4_turn 79 = .ok (.goto 69, 3) := by decide +kernel
theorem dX4_turn_82 : decode cX4_turn 82 = .ok (.aload_n 0, 1) := by decide +kernel
theorem dX4_turn_83 : decode cX4_turn 83 = .ok (.aload_n 1, 1) := by decide +kernel
theorem dX4_turn_84 : decode cX4_turn 84 = .ok (.aload_n 2, 1) := by decide +kernel
theorem dX4_turn_85 : decode cX4_turn 85 = .ok (.iload_n 3, 1) := by decide +kernel
theorem dX4_turn_86 : decode cX4_turn 86 = .ok (.invokevirtual 25, 3) := by decide +kernel
theorem dX4_turn_89 : decode cX4_turn 89 = .ok (.goto 59, 3) := by decide +kernel
theorem dX4_turn_92 : decode cX4_turn 92 = .ok (.aload_n 0, 1) := by decide +kernel
theorem dX4_turn_93 : decode cX4_turn 93 = .ok (.aload_n 1, 1) := by decide +kernel
theorem dX4_turn_94 : decode cX4_turn 94 = .ok (.getfield 28, 3) := by decide +kernel
theorem dX4_turn_97 : decode cX4_turn 97 = .ok (.aload_n 1, 1) := by decide +kernel
theorem dX4_turn_98 : decode cX4_turn 98 = .ok (.getfield 32, 3) := by decide +kernel
theorem dX4_turn_101 : decode cX4_turn 101 = .ok (.invokevirtual 36, 3) := by decide +kernel
theorem dX4_turn_104 : decode cX4_turn 104 = .ok (.aload_n 2, 1) := by decide +kernel
theorem dX4_turn_105 : decode cX4_turn 105 = .ok (.aload_n 1, 1) := by decide +kernel
theorem dX4_turn_106 : decode cX4_turn 106 = .ok (.getfield 32, 3) := by decide +kernel
theorem dX4_turn_109 : decode cX4_turn 109 = .ok (.invokevirtual 40, 3) := by decide +kernel
theorem dX4_turn_112 : decode cX4_turn 112 = .ok (.goto 36, 3) := by decide +kernel
theorem dX4_turn_115 : decode cX4_turn 115 = .ok (.aload_n 0, 1) := by decide +kernel
theorem dX4_turn_116 : decode cX4_turn 116 = .ok (.aload_n 1, 1) := by decide +kernel
theorem dX4_turn_117 : decode cX4_turn 117 = .ok (.aload_n 2, 1) := by decide +kernel
theorem dX4_turn_118 : decode cX4_turn 118 = .ok (.invokevirtual 46, 3) := by decide +kernel
theorem dX4_turn_121 : decode cX4_turn 121 = .ok (.goto 27, 3) := by decide +kernel
theorem dX4_turn_124 : decode cX4_turn 124 = .ok (.aload_n 0, 1) := by decide +kernel
theorem dX4_turn_125 : decode cX4_turn 125 = .ok (.aload_n 1, 1) := by decide +kernel
theorem dX4_turn_126 : decode cX4_turn 126 = .ok (.aload_n 2, 1) := by decide +kernel
theorem dX4_turn_127 : decode cX4_turn 127 = .ok (.invokevirtual 49, 3) := by decide +kernel
theorem dX4_turn_130 : decode cX4_turn 130 = .ok (.goto 18, 3) := by decide +kernel
theorem dX4_turn_133 : decode cX4_turn 133 = .ok (.aload_n 0, 1) := by decide +kernel
theorem dX4_turn_134 : decode cX4_turn 134 = .ok (.aload_n 1, 1) := by decide +kernel
theorem dX4_turn_135 : decode cX4_turn 135 = .ok (.aload_n 2, 1) := by decide +kernel
theorem dX4_turn_136 : decode cX4_turn 136 = .ok (.invokevirtual 52, 3) := by decide +kernel
theorem dX4_turn_139 : decode cX4_turn 139 = .ok (.goto 9, 3) := by decide +kernel
theorem dX4_turn_142 : decode cX4_turn 142 = .ok (.aload_n 0, 1) := by decide +kernel
theorem dX4_turn_143 : decode cX4_turn 143 = .ok (.aload_n 1, 1) := by decide +kernel
theorem dX4_turn_144 : decode cX4_turn 144 = .ok (.aload_n 2, 1) := by decide +kernel
theorem dX4_turn_145 : decode cX4_turn 145 = .ok (.invokevirtual 55, 3) := by decide +kernel
theorem dX4_turn_148 : decode cX4_turn 148 = .ok (.return_, 1) := by decide +kernel
theorem dX4_findSupporting_0 : decode cX4_findSupporting 0 = .ok (.aload_n 2, 1) := by decide +kernel
theorem dX4_findSupporting_1 : decode cX4_findSupporting 1 = .ok (.ldc2_w 58, 3) := by decide +kernel
theorem dX4_findSupporting_4 : decode cX4_findSupporting 4 = .ok (.invokevirtual 60, 3) := by decide +kernel
theorem dX4_findSupporting_7 : decode cX4_findSupporting 7 = .ok (.aload_n 0, 1) := by decide +kernel
theorem dX4_findSupporting_8 : decode cX4_findSupporting 8 = .ok (.aload_n 1, 1) := by decide +kernel
theorem dX4_findSupporting_9 : decode cX4_findSupporting 9 = .ok (.aload_n 2, 1) := by decide +kernel
theorem dX4_findSupporting_10 : decode cX4_findSupporting 10 = .ok (.iconst 1, 1) := by decide +kernel
theorem dX4_findSupporting_11 : decode cX4_findSupporting 11 = .ok (.invokevirtual 64, 3) := by decide +kernel
theorem dX4_findSupporting_14 : decode cX4_findSupporting 14 = .ok (.return_, 1) := by decide +kernel
theorem dX4_turnByChain_0 : decode cX4_turnByChain 0 = .ok (.iload_n 3, 1) := by decide +kernel
theorem dX4_turnByChain_1 : decode cX4_turnByChain 1 = .ok (.ifCond .eq 10, 3) := by decide +kernel
theorem dX4_turnByChain_4 : decode cX4_turnByChain 4 = .ok (.aload_n 1, 1) := by decide +kernel
theorem dX4_turnByChain_5 : decode cX4_turnByChain 5 = .ok (.getfield 67, 3) := by decide +kernel
theorem dX4_turnByChain_8 : decode cX4_turnByChain 8 = .ok (.goto 7, 3) := by decide +kernel
theorem dX4_turnByChain_11 : decode cX4_turnByChain 11 = .ok (.aload_n 1, 1) := by decide +kernel
theorem dX4_turnByChain_12 : decode cX4_turnByChain 12 = .ok (.getfield 28, 3) := by decide +kernel
theorem dX4_turnByChain_15 : decode cX4_turnByChain 15 = .ok (.astore 4, 2) := by decide +kernel
theorem dX4_turnByChain_17 : decode cX4_turnByChain 17 = .ok (.aload 4, 2) := by decide +kernel
theorem dX4_turnByChain_19 : decode cX4_turnByChain 19 = .ok (.ifnull 33, 3) := by decide +kernel
theorem dX4_turnByChain_22 : decode cX4_turnByChain 22 = .ok (.aload_n 0, 1) := by decide +kernel
theorem dX4_turnByChain_23 : decode cX4_turnByChain 23 = .ok (.aload 4, 2) := by decide +kernel
theorem dX4_turnByChain_25 : decode cX4_turnByChain 25 = .ok (.aload_n 2, 1) := by decide +kernel
theorem dX4_turnByChain_26 : decode cX4_turnByChain 26 = .ok (.iload_n 3, 1) := by decide +kernel
theorem dX4_turnByChain_27 : decode cX4_turnByChain 27 = .ok (.invokevirtual 64, 3) := by decide +kernel
theorem dX4_turnByChain_30 : decode cX4_turnByChain 30 = .ok (.iload_n 3, 1) := by decide +kernel
theorem dX4_turnByChain_31 : decode cX4_turnByChain 31 = .ok (.ifCond .eq 11, 3) := by decide +kernel
theorem dX4_turnByChain_34 : decode cX4_turnByChain 34 = .ok (.aload 4, 2) := by decide +kernel
theorem dX4_turnByChain_36 : decode cX4_turnByChain 36 = .ok (.getfield 70, 3) := by decide +kernel
theorem dX4_turnByChain_39 : decode cX4_turnByChain 39 = .ok (.goto 8, 3) := by decide +kernel
theorem dX4_turnByChain_42 : decode cX4_turnByChain 42 = .ok (.aload 4, 2) := by decide +kernel
theorem dX4_turnByChain_44 : decode cX4_turnByChain 44 = .ok (.getfield 73, 3) := by decide +kernel
theorem dX4_turnByChain_47 : decode cX4_turnByChain 47 = .ok (.astore 4, 2) := by decide +kernel
theorem dX4_turnByChain_49 : decode cX4_turnByChain 49 = .ok (.goto (-32), 3) := by decide +kernel
theorem dX4_turnByChain_52 : decode cX4_turnByChain 52 = .ok (.return_, 1) := by decide +kernel
theorem dX4_turnBySome_0 : decode cX4_turnBySome 0 = .ok (.iconst 1, 1) := by decide +kernel
theorem dX4_turnBySome_1 : decode cX4_turnBySome 1 = .ok (.aload_n 0, 1) := by decide +kernel
theorem dX4_turnBySome_2 : decode cX4_turnBySome 2 = .ok (.getfield 9, 3) := by decide +kernel
theorem dX4_turnBySome_5 : decode cX4_turnBySome 5 = .ok (.invokevirtual 76, 3) := by decide +kernel
theorem dX4_turnBySome_8 : decode cX4_turnBySome 8 = .ok (.iconst 1, 1) := by decide +kernel
theorem dX4_turnBySome_9 : decode cX4_turnBySome 9 = .ok (.iadd, 1) := by decide +kernel
theorem dX4_turnBySome_10 : decode cX4_turnBySome 10 = .ok (.ishl, 1) := by decide +kernel
theorem dX4_turnBySome_11 : decode cX4_turnBySome 11 = .ok (.iconst 2, 1) := by decide +kernel
theorem dX4_turnBySome_12 : decode cX4_turnBySome 12 = .ok (.isub, 1) := by decide +kernel
theorem dX4_turnBySome_13 : decode cX4_turnBySome 13 = .ok (.istore 4, 2) := by decide +kernel
theorem dX4_turnBySome_15 : decode cX4_turnBySome 15 = .ok (.iload_n 3, 1) := by decide +kernel
theorem dX4_turnBySome_16 : decode cX4_turnBySome 16 = .ok (.ifCond .eq 8, 3) := by decide +kernel
theorem dX4_turnBySome_19 : decode cX4_turnBySome 19 = .ok (.iload 4, 2) := by decide +kernel
theorem dX4_turnBySome_21 : decode cX4_turnBySome 21 = .ok (.goto 6, 3) := by decide +kernel
theorem dX4_turnBySome_24 : decode cX4_turnBySome 24 = .ok (.sipush 255, 3) := by decide +kernel
theorem dX4_turnBySome_27 : decode cX4_turnBySome 27 = .ok (.istore 5, 2) := by decide +kernel
theorem dX4_turnBySome_29 : decode cX4_turnBySome 29 = .ok (.iload_n 3, 1) := by decide +kernel
theorem dX4_turnBySome_30 : decode cX4_turnBySome 30 = .ok (.ifCond .eq 9, 3) := by decide +kernel
theorem dX4_turnBySome_33 : decode cX4_turnBySome 33 = .ok (.sipush 255, 3) := by decide +kernel
theorem dX4_turnBySome_36 : decode cX4_turnBySome 36 = .ok (.goto 5, 3) := by decide +kernel
theorem dX4_turnBySome_39 : decode cX4_turnBySome 39 = .ok (.iload 4, 2) := by decide +kernel
theorem dX4_turnBySome_41 : decode cX4_turnBySome 41 = .ok (.istore 6, 2) := by decide +kernel
theorem dX4_turnBySome_43 : decode cX4_turnBySome 43 = .ok (.aload_n 2, 1) := by decide +kernel
theorem dX4_turnBySome_44 : decode cX4_turnBySome 44 = .ok (.aload_n 1, 1) := by decide +kernel
theorem dX4_turnBySome_45 : decode cX4_turnBySome 45 = .ok (.getfield 82, 3) := by decide +kernel
theorem dX4_turnBySome_48 : decode cX4_turnBySome 48 = .ok (.iload 5, 2) := by decide +kernel
theorem dX4_turnBySome_50 : decode cX4_turnBySome 50 = .ok (.iload 6, 2) := by decide +kernel
theorem dX4_turnBySome_52 : decode cX4_turnBySome 52 = .ok (.invokevirtual 85, 3) := by decide +kernel
theorem dX4_turnBySome_55 : decode cX4_turnBySome 55 = .ok (.return_, 1) := by decide +kernel
theorem dX4_keepByChoice_0 : decode cX4_keepByChoice 0 = .ok (.aload_n 1, 1) := by decide +kernel
theorem dX4_keepByChoice_1 : decode cX4_keepByChoice 1 = .ok (.getfield 32, 3) := by decide +kernel
theorem dX4_keepByChoice_4 : decode cX4_keepByChoice 4 = .ok (.lconst 0, 1) := by decide +kernel
theorem dX4_keepByChoice_5 : decode cX4_keepByChoice 5 = .ok (.invokevirtual 60, 3) := by decide +kernel
theorem dX4_keepByChoice_8 : decode cX4_keepByChoice 8 = .ok (.aload_n 1, 1) := by decide +kernel
theorem dX4_keepByChoice_9 : decode cX4_keepByChoice 9 = .ok (.getfield 28, 3) := by decide +kernel
theorem dX4_keepByChoice_12 : decode cX4_keepByChoice 12 = .ok (.astore_n 3, 1) := by decide +kernel
theorem dX4_keepByChoice_13 : decode cX4_keepByChoice 13 = .ok (.aload_n 3, 1) := by decide +kernel
theorem dX4_keepByChoice_14 : decode cX4_keepByChoice 14 = .ok (.ifnull 31, 3) := by decide +kernel
theorem dX4_keepByChoice_17 : decode cX4_keepByChoice 17 = .ok (.aload_n 0, 1) := by decide +kernel
theorem dX4_keepByChoice_18 : decode cX4_keepByChoice 18 = .ok (.aload_n 3, 1) := by decide +kernel
theorem dX4_keepByChoice_19 : decode cX4_keepByChoice 19 = .ok (.aload_n 1, 1) := by decide +kernel
theorem dX4_keepByChoice_20 : decode cX4_keepByChoice 20 = .ok (.getfield 89, 3) := by decide +kernel
theorem dX4_keepByChoice_23 : decode cX4_keepByChoice 23 = .ok (.invokevirtual 36, 3) := by decide +kernel
theorem dX4_keepByChoice_26 : decode cX4_keepByChoice 26 = .ok (.aload_n 1, 1) := by decide +kernel
theorem dX4_keepByChoice_27 : decode cX4_keepByChoice 27 = .ok (.getfield 32, 3) := by decide +kernel
theorem dX4_keepByChoice_30 : decode cX4_keepByChoice 30 = .ok (.aload_n 1, 1) := by decide +kernel
theorem dX4_keepByChoice_31 : decode cX4_keepByChoice 31 = .ok (.getfield 89, 3) := by decide +kernel
theorem dX4_keepByChoice_34 : decode cX4_keepByChoice 34 = .ok (.invokevirtual 92, 3) := by decide +kernel
theorem dX4_keepByChoice_37 : decode cX4_keepByChoice 37 = .ok (.aload_n 3, 1) := by decide +kernel
theorem dX4_keepByChoice_38 : decode cX4_keepByChoice 38 = .ok (.getfield 73, 3) := by decide +kernel
theorem dX4_keepByChoice_41 : decode cX4_keepByChoice 41 = .ok (.astore_n 3, 1) := by decide +kernel
theorem dX4_keepByChoice_42 : decode cX4_keepByChoice 42 = .ok (.goto (-29), 3) := by decide +kernel
theorem dX4_keepByChoice_45 : decode cX4_keepByChoice 45 = .ok (.aload_n 2, 1) := by decide +kernel
theorem dX4_keepByChoice_46 : decode cX4_keepByChoice 46 = .ok (.aload_n 1, 1) := by decide +kernel
theorem dX4_keepByChoice_47 : decode cX4_keepByChoice 47 = .ok (.getfield 32, 3) := by decide +kernel
theorem dX4_keepByChoice_50 : decode cX4_keepByChoice 50 = .ok (.invokevirtual 95, 3) := by decide +kernel
theorem dX4_keepByChoice_53 : decode cX4_keepByChoice 53 = .ok (.return_, 1) := by decide +kernel
theorem dX4_keepByCondition_0 : decode cX4_keepByCondition 0 = .ok (.aload_n 1, 1) := by decide +kernel
theorem dX4_keepByCondition_1 : decode cX4_keepByCondition 1 = .ok (.getfield 32, 3) := by decide +kernel
theorem dX4_keepByCondition_4 : decode cX4_keepByCondition 4 = .ok (.astore_n 3, 1) := by decide +kernel
theorem dX4_keepByCondition_5 : decode cX4_keepByCondition 5 = .ok (.aload_n 0, 1) := by decide +kernel
theorem dX4_keepByCondition_6 : decode cX4_keepByCondition 6 = .ok (.aload_n 1, 1) := by decide +kernel
theorem dX4_keepByCondition_7 : decode cX4_keepByCondition 7 = .ok (.getfield 67, 3) := by decide +kernel
theorem dX4_keepByCondition_10 : decode cX4_keepByCondition 10 = .ok (.aload_n 3, 1) := by decide +kernel
theorem dX4_keepByCondition_11 : decode cX4_keepByCondition 11 = .ok (.invokevirtual 36, 3) := by decide +kernel
theorem dX4_keepByCondition_14 : decode cX4_keepByCondition 14 = .ok (.aload_n 3, 1) := by decide +kernel
theorem dX4_keepByCondition_15 : decode cX4_keepByCondition 15 = .ok (.invokevirtual 98, 3) := by decide +kernel
theorem dX4_keepByCondition_18 : decode cX4_keepByCondition 18 = .ok (.aload_n 0, 1) := by decide +kernel
theorem dX4_keepByCondition_19 : decode cX4_keepByCondition 19 = .ok (.aload_n 1, 1) := by decide +kernel
theorem dX4_keepByCondition_20 : decode cX4_keepByCondition 20 = .ok (.getfield 28, 3) := by decide +kernel
theorem dX4_keepByCondition_23 : decode cX4_keepByCondition 23 = .ok (.aload_n 3, 1) := by decide +kernel
theorem dX4_keepByCondition_24 : decode cX4_keepByCondition 24 = .ok (.iconst 1, 1) := by decide +kernel
theorem dX4_keepByCondition_25 : decode cX4_keepByCondition 25 = .ok (.invokevirtual 64, 3) := by decide +kernel
theorem dX4_keepByCondition_28 : decode cX4_keepByCondition 28 = .ok (.aload_n 2, 1) := by decide +kernel
theorem dX4_keepByCondition_29 : decode cX4_keepByCondition 29 = .ok (.aload_n 3, 1) := by decide +kernel
theorem dX4_keepByCondition_30 : decode cX4_keepByCondition 30 = .ok (.invokevirtual 40, 3) := by decide +kernel
theorem dX4_keepByCondition_33 : decode cX4_keepByCondition 33 = .ok (.return_, 1) := by decide +kernel
theorem dX4_keepByOne_0 : decode cX4_keepByOne 0 = .ok (.iconst 0, 1) := by decide +kernel
theorem dX4_keepByOne_1 : decode cX4_keepByOne 1 = .ok (.istore_n 3, 1) := by decide +kernel
theorem dX4_keepByOne_2 : decode cX4_keepByOne 2 = .ok (.aload_n 0, 1) := by decide +kernel
theorem dX4_keepByOne_3 : decode cX4_keepByOne 3 = .ok (.getfield 9, 3) := by decide +kernel
theorem dX4_keepByOne_6 : decode cX4_keepByOne 6 = .ok (.invokevirtual 76, 3) := by decide +kernel
theorem dX4_keepByOne_9 : decode cX4_keepByOne 9 = .ok (.istore 4, 2) := by decide +kernel
theorem dX4_keepByOne_11 : decode cX4_keepByOne 11 = .ok (.iconst 1, 1) := by decide +kernel
theorem dX4_keepByOne_12 : decode cX4_keepByOne 12 = .ok (.istore 5, 2) := by decide +kernel
theorem dX4_keepByOne_14 : decode cX4_keepByOne 14 = .ok (.iload 5, 2) := by decide +kernel
theorem dX4_keepByOne_16 : decode cX4_keepByOne 16 = .ok (.iload 4, 2) := by decide +kernel
theorem dX4_keepByOne_18 : decode cX4_keepByOne 18 = .ok (.if_icmp .gt 32, 3) := by decide +kernel
theorem dX4_keepByOne_21 : decode cX4_keepByOne 21 = .ok (.iload_n 3, 1) := by decide +kernel
theorem dX4_keepByOne_22 : decode cX4_keepByOne 22 = .ok (.aload_n 0, 1) := by decide +kernel
theorem dX4_keepByOne_23 : decode cX4_keepByOne 23 = .ok (.aload_n 1, 1) := by decide +kernel
theorem dX4_keepByOne_24 : decode cX4_keepByOne 24 = .ok (.iload 5, 2) := by decide +kernel
theorem dX4_keepByOne_26 : decode cX4_keepByOne 26 = .ok (.iload 5, 2) := by decide +kernel
theorem dX4_keepByOne_28 : decode cX4_keepByOne 28 = .ok (.invokevirtual 101, 3) := by decide +kernel
theorem dX4_keepByOne_31 : decode cX4_keepByOne 31 = .ok (.ifCond .eq 10, 3) := by decide +kernel
theorem dX4_keepByOne_34 : decode cX4_keepByOne 34 = .ok (.iconst 1, 1) := by decide +kernel
theorem dX4_keepByOne_35 : decode cX4_keepByOne 35 = .ok (.iload 5, 2) := by decide +kernel
theorem dX4_keepByOne_37 : decode cX4_keepByOne 37 = .ok (.ishl, 1) := by decide +kernel
theorem dX4_keepByOne_38 : decode cX4_keepByOne 38 = .ok (.goto 4, 3) := by decide +kernel
theorem dX4_keepByOne_41 : decode cX4_keepByOne 41 = .ok (.iconst 0, 1) := by decide +kernel
theorem dX4_keepByOne_42 : decode cX4_keepByOne 42 = .ok (.ior, 1) := by decide +kernel
theorem dX4_keepByOne_43 : decode cX4_keepByOne 43 = .ok (.istore_n 3, 1) := by decide +kernel
theorem dX4_keepByOne_44 : decode cX4_keepByOne 44 = .ok (.iinc 5 1, 3) := by decide +kernel
theorem dX4_keepByOne_47 : decode cX4_keepByOne 47 = .ok (.goto (-33), 3) := by decide +kernel
theorem dX4_keepByOne_50 : decode cX4_keepByOne 50 = .ok (.aload_n 2, 1) := by decide +kernel
theorem dX4_keepByOne_51 : decode cX4_keepByOne 51 = .ok (.aload_n 1, 1) := by decide +kernel
theorem dX4_keepByOne_52 : decode cX4_keepByOne 52 = .ok (.getfield 82, 3) := by decide +kernel
theorem dX4_keepByOne_55 : decode cX4_keepByOne 55 = .ok (.iload_n 3, 1) := by decide +kernel
theorem dX4_keepByOne_56 : decode cX4_keepByOne 56 = .ok (.invokevirtual 105, 3) := by decide +kernel
theorem dX4_keepByOne_59 : decode cX4_keepByOne 59 = .ok (.return_, 1) := by decide +kernel
theorem dX4_keepByTwo_0 : decode cX4_keepByTwo 0 = .ok (.aload_n 0, 1) := by decide +kernel
theorem dX4_keepByTwo_1 : decode cX4_keepByTwo 1 = .ok (.getfield 9, 3) := by decide +kernel
theorem dX4_keepByTwo_4 : decode cX4_keepByTwo 4 = .ok (.invokevirtual 76, 3) := by decide +kernel
theorem dX4_keepByTwo_7 : decode cX4_keepByTwo 7 = .ok (.istore_n 3, 1) := by decide +kernel
theorem dX4_keepByTwo_8 : decode cX4_keepByTwo 8 = .ok (.iconst 1, 1) := by decide +kernel
theorem dX4_keepByTwo_9 : decode cX4_keepByTwo 9 = .ok (.istore 4, 2) := by decide +kernel
theorem dX4_keepByTwo_11 : decode cX4_keepByTwo 11 = .ok (.iload 4, 2) := by decide +kernel
theorem dX4_keepByTwo_13 : decode cX4_keepByTwo 13 = .ok (.iload_n 3, 1) := by decide +kernel
theorem dX4_keepByTwo_14 : decode cX4_keepByTwo 14 = .ok (.if_icmp .gt 68, 3) := by decide +kernel
theorem dX4_keepByTwo_17 : decode cX4_keepByTwo 17 = .ok (.iconst 0, 1) := by decide +kernel
theorem dX4_keepByTwo_18 : decode cX4_keepByTwo 18 = .ok (.istore 5, 2) := by decide +kernel
theorem dX4_keepByTwo_20 : decode cX4_keepByTwo 20 = .ok (.iconst 1, 1) := by decide +kernel
theorem dX4_keepByTwo_21 : decode cX4_keepByTwo 21 = .ok (.istore 6, 2) := by decide +kernel
theorem dX4_keepByTwo_23 : decode cX4_keepByTwo 23 = .ok (.iload 6, 2) := by decide +kernel
theorem dX4_keepByTwo_25 : decode cX4_keepByTwo 25 = .ok (.iload_n 3, 1) := by decide +kernel
theorem dX4_keepByTwo_26 : decode cX4_keepByTwo 26 = .ok (.if_icmp .gt 34, 3) := by decide +kernel
theorem dX4_keepByTwo_29 : decode cX4_keepByTwo 29 = .ok (.iload 5, 2) := by decide +kernel
theorem dX4_keepByTwo_31 : decode cX4_keepByTwo 31 = .ok (.aload_n 0, 1) := by decide +kernel
theorem dX4_keepByTwo_32 : decode cX4_keepByTwo 32 = .ok (.aload_n 1, 1) := by decide +kernel
theorem dX4_keepByTwo_33 : decode cX4_keepByTwo 33 = .ok (.iload 4, 2) := by decide +kernel
theorem dX4_keepByTwo_35 : decode cX4_keepByTwo 35 = .ok (.iload 6, 2) := by decide +kernel
theorem dX4_keepByTwo_37 : decode cX4_keepByTwo 37 = .ok (.invokevirtual 101, 3) := by decide +kernel
theorem dX4_keepByTwo_40 : decode cX4_keepByTwo 40 = .ok (.ifCond .eq 10, 3) := by decide +kernel
theorem dX4_keepByTwo_43 : decode cX4_keepByTwo 43 = .ok (.iconst 1, 1) := by decide +kernel
theorem dX4_keepByTwo_44 : decode cX4_keepByTwo 44 = .ok (.iload 6, 2) := by decide +kernel
theorem dX4_keepByTwo_46 : decode cX4_keepByTwo 46 = .ok (.ishl, 1) := by decide +kernel
theorem dX4_keepByTwo_47 : decode cX4_keepByTwo 47 = .ok (.goto 4, 3) := by decide +kernel
theorem dX4_keepByTwo_50 : decode cX4_keepByTwo 50 = .ok (.iconst 0, 1) := by decide +kernel
theorem dX4_keepByTwo_51 : decode cX4_keepByTwo 51 = .ok (.ior, 1) := by decide +kernel
theorem dX4_keepByTwo_52 : decode cX4_keepByTwo 52 = .ok (.istore 5, 2) := by decide +kernel
theorem dX4_keepByTwo_54 : decode cX4_keepByTwo 54 = .ok (.iinc 6 1, 3) := by decide +kernel
theorem dX4_keepByTwo_57 : decode cX4_keepByTwo 57 = .ok (.goto (-34), 3) := by decide +kernel
theorem dX4_keepByTwo_60 : decode cX4_keepByTwo 60 = .ok (.aload_n 2, 1) := by decide +kernel
theorem dX4_keepByTwo_61 : decode cX4_keepByTwo 61 = .ok (.aload_n 1, 1) := by decide +kernel
theorem dX4_keepByTwo_62 : decode cX4_keepByTwo 62 = .ok (.getfield 82, 3) := by decide +kernel
theorem dX4_keepByTwo_65 : decode cX4_keepByTwo 65 = .ok (.iload 4, 2) := by decide +kernel
theorem dX4_keepByTwo_67 : decode cX4_keepByTwo 67 = .ok (.aload_n 1, 1) := by decide +kernel
theorem dX4_keepByTwo_68 : decode cX4_keepByTwo 68 = .ok (.getfield 109, 3) := by decide +kernel
theorem dX4_keepByTwo_71 : decode cX4_keepByTwo 71 = .ok (.iload 5, 2) := by decide +kernel
theorem dX4_keepByTwo_73 : decode cX4_keepByTwo 73 = .ok (.invokevirtual 112, 3) := by decide +kernel
theorem dX4_keepByTwo_76 : decode cX4_keepByTwo 76 = .ok (.iinc 4 1, 3) := by decide +kernel
theorem dX4_keepByTwo_79 : decode cX4_keepByTwo 79 = .ok (.goto (-68), 3) := by decide +kernel
theorem dX4_keepByTwo_82 : decode cX4_keepByTwo 82 = .ok (.return_, 1) := by decide +kernel
theorem dX4_holds_0 : decode cX4_holds 0 = .ok (.aload_n 1, 1) := by decide +kernel
theorem dX4_holds_1 : decode cX4_holds 1 = .ok (.getfield 15, 3) := by decide +kernel
theorem dX4_holds_4 : decode cX4_holds 4 = .ok (.tableswitch 116 7 11 #[36, 60, 74, 85, 99], 36) := by decide +kernel
theorem dX4_holds_40 : decode cX4_holds 40 = .ok (.iload_n 2, 1) := by decide +kernel
theorem dX4_holds_41 : decode cX4_holds 41 = .ok (.aload_n 0, 1) := by decide +kernel
theorem dX4_holds_42 : decode cX4_holds 42 = .ok (.getfield 9, 3) := by decide +kernel
theorem dX4_holds_45 : decode cX4_holds 45 = .ok (.aload_n 1, 1) := by decide +kernel
theorem dX4_holds_46 : decode cX4_holds 46 = .ok (.getfield 116, 3) := by decide +kernel
theorem dX4_holds_49 : decode cX4_holds 49 = .ok (.invokevirtual 119, 3) := by decide +kernel
theorem dX4_holds_52 : decode cX4_holds 52 = .ok (.iconst (-1), 1) := by decide +kernel
theorem dX4_holds_53 : decode cX4_holds 53 = .ok (.ixor, 1) := by decide +kernel
theorem dX4_holds_54 : decode cX4_holds 54 = .ok (.iand, 1) := by decide +kernel
theorem dX4_holds_55 : decode cX4_holds 55 = .ok (.ifCond .ne 7, 3) := by decide +kernel
theorem dX4_holds_58 : decode cX4_holds 58 = .ok (.iconst 1, 1) := by decide +kernel
theorem dX4_holds_59 : decode cX4_holds 59 = .ok (.goto 4, 3) := by decide +kernel
theorem dX4_holds_62 : decode cX4_holds 62 = .ok (.iconst 0, 1) := by decide +kernel
theorem dX4_holds_63 : decode cX4_holds 63 = .ok (.ireturn, 1) := by decide +kernel
theorem dX4_holds_64 : decode cX4_holds 64 = .ok (.aload_n 0, 1) := by decide +kernel
theorem dX4_holds_65 : decode cX4_holds 65 = .ok (.getfield 9, 3) := by decide +kernel
theorem dX4_holds_68 : decode cX4_holds 68 = .ok (.aload_n 1, 1) := by decide +kernel
theorem dX4_holds_69 : decode cX4_holds 69 = .ok (.getfield 116, 3) := by decide +kernel
theorem dX4_holds_72 : decode cX4_holds 72 = .ok (.iload_n 2, 1) := by decide +kernel
theorem dX4_holds_73 : decode cX4_holds 73 = .ok (.iload_n 3, 1) := by decide +kernel
theorem dX4_holds_74 : decode cX4_holds 74 = .ok (.invokevirtual 123, 3) := by decide +kernel
theorem dX4_holds_77 : decode cX4_holds 77 = .ok (.ireturn, 1) := by decide +kernel
theorem dX4_holds_78 : decode cX4_holds 78 = .ok (.iload_n 2, 1) := by decide +kernel
theorem dX4_holds_79 : decode cX4_holds 79 = .ok (.iload_n 3, 1) := by decide +kernel
theorem dX4_holds_80 : decode cX4_holds 80 = .ok (.if_icmp .ne 7, 3) := by decide +kernel
theorem dX4_holds_83 : decode cX4_holds 83 = .ok (.iconst 1, 1) := by decide +kernel
theorem dX4_holds_84 : decode cX4_holds 84 = .ok (.goto 4, 3) := by decide +kernel
theorem dX4_holds_87 : decode cX4_holds 87 = .ok (.iconst 0, 1) := by decide +kernel
theorem dX4_holds_88 : decode cX4_holds 88 = .ok (.ireturn, 1) := by decide +kernel
theorem dX4_holds_89 : decode cX4_holds 89 = .ok (.iload_n 2, 1) := by decide +kernel
theorem dX4_holds_90 : decode cX4_holds 90 = .ok (.iload_n 3, 1) := by decide +kernel
theorem dX4_holds_91 : decode cX4_holds 91 = .ok (.iconst (-1), 1) := by decide +kernel
theorem dX4_holds_92 : decode cX4_holds 92 = .ok (.ixor, 1) := by decide +kernel
theorem dX4_holds_93 : decode cX4_holds 93 = .ok (.iand, 1) := by decide +kernel
theorem dX4_holds_94 : decode cX4_holds 94 = .ok (.ifCond .ne 7, 3) := by decide +kernel
theorem dX4_holds_97 : decode cX4_holds 97 = .ok (.iconst 1, 1) := by decide +kernel
theorem dX4_holds_98 : decode cX4_holds 98 = .ok (.goto 4, 3) := by decide +kernel
theorem dX4_holds_101 : decode cX4_holds 101 = .ok (.iconst 0, 1) := by decide +kernel
theorem dX4_holds_102 : decode cX4_holds 102 = .ok (.ireturn, 1) := by decide +kernel
theorem dX4_holds_103 : decode cX4_holds 103 = .ok (.iload_n 2, 1) := by decide +kernel
theorem dX4_holds_104 : decode cX4_holds 104 = .ok (.invokestatic 127, 3) := by decide +kernel
theorem dX4_holds_107 : decode cX4_holds 107 = .ok (.aload_n 1, 1) := by decide +kernel
theorem dX4_holds_108 : decode cX4_holds 108 = .ok (.getfield 116, 3) := by decide +kernel
theorem dX4_holds_111 : decode cX4_holds 111 = .ok (.if_icmp .ne 7, 3) := by decide +kernel
theorem dX4_holds_114 : decode cX4_holds 114 = .ok (.iconst 1, 1) := by decide +kernel
theorem dX4_holds_115 : decode cX4_holds 115 = .ok (.goto 4, 3) := by decide +kernel
theorem dX4_holds_118 : decode cX4_holds 118 = .ok (.iconst 0, 1) := by decide +kernel
theorem dX4_holds_119 : decode cX4_holds 119 = .ok (.ireturn, 1) := by decide +kernel
theorem dX4_holds_120 : decode cX4_holds 120 = .ok (.iconst 0, 1) := by decide +kernel
theorem dX4_holds_121 : decode cX4_holds 121 = .ok (.ireturn, 1) := by decide +kernel
theorem dX5_init_0 : decode cX5_init 0 = .ok (.aload_n 0, 1) := by decide +kernel
theorem dX5_init_1 : decode cX5_init 1 = .ok (.invokespecial 1, 3) := by decide +kernel
theorem dX5_init_4 : decode cX5_init 4 = .ok (.aload_n 0, 1) := by decide +kernel
theorem dX5_init_5 : decode cX5_init 5 = .ok (.new 7, 3) := by decide +kernel
theorem dX5_init_8 : decode cX5_init 8 = .ok (.dup, 1) := by decide +kernel
theorem dX5_init_9 : decode cX5_init 9 = .ok (.invokespecial 9, 3) := by decide +kernel
theorem dX5_init_12 : decode cX5_init 12 = .ok (.putfield 10, 3) := by decide +kernel
theorem dX5_init_15 : decode cX5_init 15 = .ok (.aload_n 0, 1) := by decide +kernel
theorem dX5_init_16 : decode cX5_init 16 = .ok (.new 7, 3) := by decide +kernel
theorem dX5_init_19 : decode cX5_init 19 = .ok (.dup, 1) := by decide +kernel
theorem dX5_init_20 : decode cX5_init 20 = .ok (.invokespecial 9, 3) := by decide +kernel
theorem dX5_init_23 : decode cX5_init 23 = .ok (.putfield 16, 3) := by decide +kernel
theorem dX5_init_26 : decode cX5_init 26 = .ok (.return_, 1) := by decide +kernel
theorem dX5_add_0 : decode cX5_add 0 = .ok (.aload_n 1, 1) := by decide +kernel
theorem dX5_add_1 : decode cX5_add 1 = .ok (.aload_n 0, 1) := by decide +kernel
theorem dX5_add_2 : decode cX5_add 2 = .ok (.getfield 19, 3) := by decide +kernel
theorem dX5_add_5 : decode cX5_add 5 = .ok (.putfield 23, 3) := by decide +kernel
theorem dX5_add_8 : decode cX5_add 8 = .ok (.aload_n 0, 1) := by decide +kernel
theorem dX5_add_9 : decode cX5_add 9 = .ok (.getfield 19, 3) := by decide +kernel
theorem dX5_add_12 : decode cX5_add 12 = .ok (.ifnonnull 11, 3) := by decide +kernel
theorem dX5_add_15 : decode cX5_add 15 = .ok (.aload_n 0, 1) := by decide +kernel
theorem dX5_add_16 : decode cX5_add 16 = .ok (.aload_n 1, 1) := by decide +kernel
theorem dX5_add_17 : decode cX5_add 17 = .ok (.putfield 26, 3) := by decide +kernel
theorem dX5_add_20 : decode cX5_add 20 = .ok (.goto 11, 3) := by decide +kernel
theorem dX5_add_23 : decode cX5_add 23 = .ok (.aload_n 0, 1) := by decide +kernel
theorem dX5_add_24 : decode cX5_add 24 = .ok (.getfield 19, 3) := by decide +kernel
theorem dX5_add_27 : decode cX5_add 27 = .ok (.aload_n 1, 1) := by decide +kernel
theorem dX5_add_28 : decode cX5_add 28 = .ok (.putfield 29, 3) := by decide +kernel
theorem dX5_add_31 : decode cX5_add 31 = .ok (.aload_n 0, 1) := by decide +kernel
theorem dX5_add_32 : decode cX5_add 32 = .ok (.aload_n 1, 1) := by decide +kernel
theorem dX5_add_33 : decode cX5_add 33 = .ok (.putfield 19, 3) := by decide +kernel
theorem dX5_add_36 : decode cX5_add 36 = .ok (.return_, 1) := by decide +kernel
theorem dX6_init_0 : decode cX6_init 0 = .ok (.aload_n 0, 1) := by decide +kernel
theorem dX6_init_1 : decode cX6_init 1 = .ok (.invokespecial 3, 3) := by decide +kernel
theorem dX6_init_4 : decode cX6_init 4 = .ok (.aload_n 0, 1) := by decide +kernel
theorem dX6_init_5 : decode cX6_init 5 = .ok (.bipush 62, 2) := by decide +kernel
theorem dX6_init_7 : decode cX6_init 7 = .ok (.anewarray 11, 3) := by decide +kernel
theorem dX6_init_10 : decode cX6_init 10 = .ok (.putfield 13, 3) := by decide +kernel
theorem dX6_init_13 : decode cX6_init 13 = .ok (.aload_n 0, 1) := by decide +kernel
theorem dX6_init_14 : decode cX6_init 14 = .ok (.aload_n 1, 1) := by decide +kernel
theorem dX6_init_15 : decode cX6_init 15 = .ok (.putfield 17, 3) := by decide +kernel
theorem dX6_init_18 : decode cX6_init 18 = .ok (.iconst 0, 1) := by decide +kernel
theorem dX6_init_19 : decode cX6_init 19 = .ok (.istore_n 2, 1) := by decide +kernel
theorem dX6_init_20 : decode cX6_init 20 = .ok (.iload_n 2, 1) := by decide +kernel
theorem dX6_init_21 : decode cX6_init 21 = .ok (.bipush 62, 2) := by decide +kernel
theorem dX6_init_23 : decode cX6_init 23 = .ok (.if_icmp .ge 22, 3) := by decide +kernel
theorem dX6_init_26 : decode cX6_init 26 = .ok (.aload_n 0, 1) := by decide +kernel
theorem dX6_init_27 : decode cX6_init 27 = .ok (.getfield 13, 3) := by decide +kernel
theorem dX6_init_30 : decode cX6_init 30 = .ok (.iload_n 2, 1) := by decide +kernel
theorem dX6_init_31 : decode cX6_init 31 = .ok (.new 11, 3) := by decide +kernel
theorem dX6_init_34 : decode cX6_init 34 = .ok (.dup, 1) := by decide +kernel
theorem dX6_init_35 : decode cX6_init 35 = .ok (.invokespecial 21, 3) := by decide +kernel
theorem dX6_init_38 : decode cX6_init 38 = .ok (.aastore, 1) := by decide +kernel
theorem dX6_init_39 : decode cX6_init 39 = .ok (.iinc 2 1, 3) := by decide +kernel
theorem dX6_init_42 : decode cX6_init 42 = .ok (.goto (-22), 3) := by decide +kernel
theorem dX6_init_45 : decode cX6_init 45 = .ok (.return_, 1) := by decide +kernel
theorem dX6_discourse_0 : decode cX6_discourse 0 = .ok (.aload_n 0, 1) := by decide +kernel
theorem dX6_discourse_1 : decode cX6_discourse 1 = .ok (.iconst 0, 1) := by decide +kernel
theorem dX6_discourse_2 : decode cX6_discourse 2 = .ok (.putfield 22, 3) := by decide +kernel
theorem dX6_discourse_5 : decode cX6_discourse 5 = .ok (.aload_n 0, 1) := by decide +kernel
theorem dX6_discourse_6 : decode cX6_discourse 6 = .ok (.iconst 0, 1) := by decide +kernel
theorem dX6_discourse_7 : decode cX6_discourse 7 = .ok (.putfield 26, 3) := by decide +kernel
theorem dX6_discourse_10 : decode cX6_discourse 10 = .ok (.aload_n 0, 1) := by decide +kernel
theorem dX6_discourse_11 : decode cX6_discourse 11 = .ok (.iconst 0, 1) := by decide +kernel
theorem dX6_discourse_12 : decode cX6_discourse 12 = .ok (.putfield 29, 3) := by decide +kernel
theorem dX6_discourse_15 : decode cX6_discourse 15 = .ok (.aload_n 0, 1) := by decide +kernel
theorem dX6_discourse_16 : decode cX6_discourse 16 = .ok (.iconst 2, 1) := by decide +kernel
theorem dX6_discourse_17 : decode cX6_discourse 17 = .ok (.aload_n 0, 1) := by decide +kernel
theorem dX6_discourse_18 : decode cX6_discourse 18 = .ok (.invokevirtual 32, 3) := by decide +kernel
theorem dX6_discourse_21 : decode cX6_discourse 21 = .ok (.invokevirtual 36, 3) := by decide +kernel
theorem dX6_discourse_24 : decode cX6_discourse 24 = .ok (.astore_n 1, 1) := by decide +kernel
theorem dX6_discourse_25 : decode cX6_discourse 25 = .ok (.iconst 0, 1) := by decide +kernel
theorem dX6_discourse_26 : decode cX6_discourse 26 = .ok (.istore_n 2, 1) := by decide +kernel
theorem dX6_discourse_27 : decode cX6_discourse 27 = .ok (.iload_n 2, 1) := by decide +kernel
theorem dX6_discourse_28 : decode cX6_discourse 28 = .ok (.bipush 60, 2) := by decide +kernel
theorem dX6_discourse_30 : decode cX6_discourse 30 = .ok (.if_icmp .ge 32, 3) := by decide +kernel
theorem dX6_discourse_33 : decode cX6_discourse 33 = .ok (.aload_n 1, 1) := by decide +kernel
theorem dX6_discourse_34 : decode cX6_discourse 34 = .ok (.ifnull 28, 3) := by decide +kernel
theorem dX6_discourse_37 : decode cX6_discourse 37 = .ok (.aload_n 0, 1) := by decide +kernel
theorem dX6_discourse_38 : decode cX6_discourse 38 = .ok (.bipush 59, 2) := by decide +kernel
theorem dX6_discourse_40 : decode cX6_discourse 40 = .ok (.invokevirtual 40, 3) := by decide +kernel
theorem dX6_discourse_43 : decode cX6_discourse 43 = .ok (.ifCond .eq 19, 3) := by decide +kernel
theorem dX6_discourse_46 : decode cX6_discourse 46 = .ok (.aload_n 0, 1) := by decide +kernel
theorem dX6_discourse_47 : decode cX6_discourse 47 = .ok (.aload_n 1, 1) := by decide +kernel
theorem dX6_discourse_48 : decode cX6_discourse 48 = .ok (.aload_n 0, 1) := by decide +kernel
theorem dX6_discourse_49 : decode cX6_discourse 49 = .ok (.invokevirtual 32, 3) := by decide +kernel
theorem dX6_discourse_52 : decode cX6_discourse 52 = .ok (.invokevirtual 44, 3) := by decide +kernel
theorem dX6_discourse_55 : decode cX6_discourse 55 = .ok (.astore_n 1, 1) := by decide +kernel
theorem dX6_discourse_56 : decode cX6_discourse 56 = .ok (.iinc 2 1, 3) := by decide +kernel
theorem dX6_discourse_59 : decode cX6_discourse 59 = .ok (.goto (-32), 3) := by decide +kernel
theorem dX6_discourse_62 : decode cX6_discourse 62 = .ok (.aload_n 0, 1) := by decide +kernel
theorem dX6_discourse_63 : decode cX6_discourse 63 = .ok (.getfield 29, 3) := by decide +kernel
theorem dX6_discourse_66 : decode cX6_discourse 66 = .ok (.aload_n 0, 1) := by decide +kernel
theorem dX6_discourse_67 : decode cX6_discourse 67 = .ok (.getfield 17, 3) := by decide +kernel
theorem dX6_discourse_70 : decode cX6_discourse 70 = .ok (.getfield 48, 3) := by decide +kernel
theorem dX6_discourse_73 : decode cX6_discourse 73 = .ok (.if_icmp .ne 7, 3) := by decide +kernel
theorem dX6_discourse_76 : decode cX6_discourse 76 = .ok (.aload_n 1, 1) := by decide +kernel
theorem dX6_discourse_77 : decode cX6_discourse 77 = .ok (.goto 4, 3) := by decide +kernel
theorem dX6_discourse_80 : decode cX6_discourse 80 = .ok (.aconst_null, 1) := by decide +kernel
theorem dX6_discourse_81 : decode cX6_discourse 81 = .ok (.areturn, 1) := by decide +kernel
theorem dX6_part_0 : decode cX6_part 0 = .ok (.aload_n 0, 1) := by decide +kernel
theorem dX6_part_1 : decode cX6_part 1 = .ok (.getfield 29, 3) := by decide +kernel
theorem dX6_part_4 : decode cX6_part 4 = .ok (.istore_n 1, 1) := by decide +kernel
theorem dX6_part_5 : decode cX6_part 5 = .ok (.aload_n 0, 1) := by decide +kernel
theorem dX6_part_6 : decode cX6_part 6 = .ok (.bipush 91, 2) := by decide +kernel
theorem dX6_part_8 : decode cX6_part 8 = .ok (.invokevirtual 40, 3) := by decide +kernel
theorem dX6_part_11 : decode cX6_part 11 = .ok (.istore_n 2, 1) := by decide +kernel
theorem dX6_part_12 : decode cX6_part 12 = .ok (.aload_n 0, 1) := by decide +kernel
theorem dX6_part_13 : decode cX6_part 13 = .ok (.invokevirtual 53, 3) := by decide +kernel
theorem dX6_part_16 : decode cX6_part 16 = .ok (.astore_n 3, 1) := by decide +kernel
theorem dX6_part_17 : decode cX6_part 17 = .ok (.aload_n 3, 1) := by decide +kernel
theorem dX6_part_18 : decode cX6_part 18 = .ok (.ifnull 16, 3) := by decide +kernel
theorem dX6_part_21 : decode cX6_part 21 = .ok (.iload_n 2, 1) := by decide +kernel
theorem dX6_part_22 : decode cX6_part 22 = .ok (.ifCond .eq 14, 3) := by decide +kernel
theorem dX6_part_25 : decode cX6_part 25 = .ok (.aload_n 0, 1) := by decide +kernel
theorem dX6_part_26 : decode cX6_part 26 = .ok (.bipush 93, 2) := by decide +kernel
theorem dX6_part_28 : decode cX6_part 28 = .ok (.invokevirtual 40, 3) := by decide +kernel
theorem dX6_part_31 : decode cX6_part 31 = .ok (.ifCond .ne 5, 3) := by decide +kernel
theorem dX6_part_34 : decode cX6_part 34 = .ok (.aconst_null, 1) := by decide +kernel
theorem dX6_part_35 : decode cX6_part 35 = .ok (.areturn, 1) := by decide +kernel
theorem dX6_part_36 : decode cX6_part 36 = .ok (.aload_n 0, 1) := by decide +kernel
theorem dX6_part_37 : decode cX6_part 37 = .ok (.iload_n 2, 1) := by decide +kernel
theorem dX6_part_38 : decode cX6_part 38 = .ok (.ifCond .eq 7, 3) := by decide +kernel
theorem dX6_part_41 : decode cX6_part 41 = .ok (.iconst 1, 1) := by decide +kernel
theorem dX6_part_42 : decode cX6_part 42 = .ok (.goto 4, 3) := by decide +kernel
theorem dX6_part_45 : decode cX6_part 45 = .ok (.iconst 0, 1) := by decide +kernel
theorem dX6_part_46 : decode cX6_part 46 = .ok (.aload_n 3, 1) := by decide +kernel
theorem dX6_part_47 : decode cX6_part 47 = .ok (.invokevirtual 36, 3) := by decide +kernel
theorem dX6_part_50 : decode cX6_part 50 = .ok (.astore 4, 2) := by decide +kernel
theorem dX6_part_52 : decode cX6_part 52 = .ok (.aload 4, 2) := by decide +kernel
theorem dX6_part_54 : decode cX6_part 54 = .ok (.ifnull 9, 3) := by decide +kernel
theorem dX6_part_57 : decode cX6_part 57 = .ok (.aload 4, 2) := by decide +kernel
theorem dX6_part_59 : decode cX6_part 59 = .ok (.iload_n 1, 1) := by decide +kernel
theorem dX6_part_60 : decode cX6_part 60 = .ok (.putfield 56, 3) := by decide +kernel
theorem dX6_part_63 : decode cX6_part 63 = .ok (.aload 4, 2) := by decide +kernel
theorem dX6_part_65 : decode cX6_part 65 = .ok (.areturn, 1) := by decide +kernel
theorem dX6_formula_0 : decode cX6_formula 0 = .ok (.aload_n 0, 1) := by decide +kernel
theorem dX6_formula_1 : decode cX6_formula 1 = .ok (.invokevirtual 59, 3) := by decide +kernel
theorem dX6_formula_4 : decode cX6_formula 4 = .ok (.astore_n 1, 1) := by decide +kernel
theorem dX6_formula_5 : decode cX6_formula 5 = .ok (.aload_n 1, 1) := by decide +kernel
theorem dX6_formula_6 : decode cX6_formula 6 = .ok (.ifnull 19, 3) := by decide +kernel
theorem dX6_formula_9 : decode cX6_formula 9 = .ok (.aload_n 0, 1) := by decide +kernel
theorem dX6_formula_10 : decode cX6_formula 10 = .ok (.getfield 17, 3) := by decide +kernel
theorem dX6_formula_13 : decode cX6_formula 13 = .ok (.aload_n 0, 1) := by decide +kernel
theorem dX6_formula_14 : decode cX6_formula 14 = .ok (.getfield 29, 3) := by decide +kernel
theorem dX6_formula_17 : decode cX6_formula 17 = .ok (.invokevirtual 62, 3) := by decide +kernel
theorem dX6_formula_20 : decode cX6_formula 20 = .ok (.bipush 62, 2) := by decide +kernel
theorem dX6_formula_22 : decode cX6_formula 22 = .ok (.if_icmp .eq 5, 3) := by decide +kernel
theorem dX6_formula_25 : decode cX6_formula 25 = .ok (.aload_n 1, 1) := by decide +kernel
theorem dX6_formula_26 : decode cX6_formula 26 = .ok (.areturn, 1) := by decide +kernel
theorem dX6_formula_27 : decode cX6_formula 27 = .ok (.aload_n 0, 1) := by decide +kernel
theorem dX6_formula_28 : decode cX6_formula 28 = .ok (.invokevirtual 66, 3) := by decide +kernel
theorem dX6_formula_31 : decode cX6_formula 31 = .ok (.ifCond .ne 5, 3) := by decide +kernel
theorem dX6_formula_34 : decode cX6_formula 34 = .ok (.aconst_null, 1) := by decide +kernel
theorem dX6_formula_35 : decode cX6_formula 35 = .ok (.areturn, 1) := by decide +kernel
theorem dX6_formula_36 : decode cX6_formula 36 = .ok (.aload_n 0, 1) := by decide +kernel
theorem dX6_formula_37 : decode cX6_formula 37 = .ok (.invokevirtual 53, 3) := by decide +kernel
theorem dX6_formula_40 : decode cX6_formula 40 = .ok (.astore_n 2, 1) := by decide +kernel
theorem dX6_formula_41 : decode cX6_formula 41 = .ok (.aload_n 0, 1) := by decide +kernel
theorem dX6_formula_42 : decode cX6_formula 42 = .ok (.dup, 1) := by decide +kernel
theorem dX6_formula_43 : decode cX6_formula 43 = .ok (.getfield 26, 3) := by decide +kernel
theorem dX6_formula_46 : decode cX6_formula 46 = .ok (.iconst 1, 1) := by decide +kernel
theorem dX6_formula_47 : decode cX6_formula 47 = .ok (.isub, 1) := by decide +kernel
theorem dX6_formula_48 : decode cX6_formula 48 = .ok (.putfield 26, 3) := by decide +kernel
theorem dX6_formula_51 : decode cX6_formula 51 = .ok (.aload_n 0, 1) := by decide +kernel
theorem dX6_formula_52 : decode cX6_formula 52 = .ok (.aload_n 0, 1) := by decide +kernel
theorem dX6_formula_53 : decode cX6_formula 53 = .ok (.iconst 4, 1) := by decide +kernel
theorem dX6_formula_54 : decode cX6_formula 54 = .ok (.aload_n 1, 1) := by decide +kernel
theorem dX6_formula_55 : decode cX6_formula 55 = .ok (.invokevirtual 36, 3) := by decide +kernel
theorem dX6_formula_58 : decode cX6_formula 58 = .ok (.aload_n 2, 1) := by decide +kernel
theorem dX6_formula_59 : decode cX6_formula 59 = .ok (.invokevirtual 44, 3) := by decide +kernel
theorem dX6_formula_62 : decode cX6_formula 62 = .ok (.areturn, 1) := by decide +kernel
theorem dX6_choice_0 : decode cX6_choice 0 = .ok (.aload_n 0, 1) := by decide +kernel
theorem dX6_choice_1 : decode cX6_choice 1 = .ok (.invokevirtual 70, 3) := by decide +kernel
theorem dX6_choice_4 : decode cX6_choice 4 = .ok (.astore_n 1, 1) := by decide +kernel
theorem dX6_choice_5 : decode cX6_choice 5 = .ok (.aload_n 0, 1) := by decide +kernel
theorem dX6_choice_6 : decode cX6_choice 6 = .ok (.getfield 17, 3) := by decide +kernel
theorem dX6_choice_9 : decode cX6_choice 9 = .ok (.aload_n 0, 1) := by decide +kernel
theorem dX6_choice_10 : decode cX6_choice 10 = .ok (.getfield 29, 3) := by decide +kernel
theorem dX6_choice_13 : decode cX6_choice 13 = .ok (.invokevirtual 62, 3) := by decide +kernel
theorem dX6_choice_16 : decode cX6_choice 16 = .ok (.bipush 124, 2) := by decide +kernel
theorem dX6_choice_18 : decode cX6_choice 18 = .ok (.if_icmp .ne 10, 3) := by decide +kernel
theorem dX6_choice_21 : decode cX6_choice 21 = .ok (.aload_n 0, 1) := by decide +kernel
theorem dX6_choice_22 : decode cX6_choice 22 = .ok (.iconst 3, 1) := by decide +kernel
theorem dX6_choice_23 : decode cX6_choice 23 = .ok (.aload_n 1, 1) := by decide +kernel
theorem dX6_choice_24 : decode cX6_choice 24 = .ok (.invokevirtual 36, 3) := by decide +kernel
theorem dX6_choice_27 : decode cX6_choice 27 = .ok (.astore_n 1, 1) := by decide +kernel
theorem dX6_choice_28 : decode cX6_choice 28 = .ok (.iconst 0, 1) := by decide +kernel
theorem dX6_choice_29 : decode cX6_choice 29 = .ok (.istore_n 2, 1) := by decide +kernel
theorem dX6_choice_30 : decode cX6_choice 30 = .ok (.iload_n 2, 1) := by decide +kernel
theorem dX6_choice_31 : decode cX6_choice 31 = .ok (.bipush 60, 2) := by decide +kernel
theorem dX6_choice_33 : decode cX6_choice 33 = .ok (.if_icmp .ge 32, 3) := by decide +kernel
theorem dX6_choice_36 : decode cX6_choice 36 = .ok (.aload_n 1, 1) := by decide +kernel
theorem dX6_choice_37 : decode cX6_choice 37 = .ok (.ifnull 28, 3) := by decide +kernel
theorem dX6_choice_40 : decode cX6_choice 40 = .ok (.aload_n 0, 1) := by decide +kernel
theorem dX6_choice_41 : decode cX6_choice 41 = .ok (.bipush 124, 2) := by decide +kernel
theorem dX6_choice_43 : decode cX6_choice 43 = .ok (.invokevirtual 40, 3) := by decide +kernel
theorem dX6_choice_46 : decode cX6_choice 46 = .ok (.ifCond .eq 19, 3) := by decide +kernel
theorem dX6_choice_49 : decode cX6_choice 49 = .ok (.aload_n 0, 1) := by decide +kernel
theorem dX6_choice_50 : decode cX6_choice 50 = .ok (.aload_n 1, 1) := by decide +kernel
theorem dX6_choice_51 : decode cX6_choice 51 = .ok (.aload_n 0, 1) := by decide +kernel
theorem dX6_choice_52 : decode cX6_choice 52 = .ok (.invokevirtual 70, 3) := by decide +kernel
theorem dX6_choice_55 : decode cX6_choice 55 = .ok (.invokevirtual 44, 3) := by decide +kernel
theorem dX6_choice_58 : decode cX6_choice 58 = .ok (.astore_n 1, 1) := by decide +kernel
theorem dX6_choice_59 : decode cX6_choice 59 = .ok (.iinc 2 1, 3) := by decide +kernel
theorem dX6_choice_62 : decode cX6_choice 62 = .ok (.goto (-32), 3) := by decide +kernel
theorem dX6_choice_65 : decode cX6_choice 65 = .ok (.aload_n 1, 1) := by decide +kernel
theorem dX6_choice_66 : decode cX6_choice 66 = .ok (.areturn, 1) := by decide +kernel
theorem dX6_row_0 : decode cX6_row 0 = .ok (.aload_n 0, 1) := by decide +kernel
theorem dX6_row_1 : decode cX6_row 1 = .ok (.invokevirtual 73, 3) := by decide +kernel
theorem dX6_row_4 : decode cX6_row 4 = .ok (.astore_n 1, 1) := by decide +kernel
theorem dX6_row_5 : decode cX6_row 5 = .ok (.aload_n 0, 1) := by decide +kernel
theorem dX6_row_6 : decode cX6_row 6 = .ok (.getfield 17, 3) := by decide +kernel
theorem dX6_row_9 : decode cX6_row 9 = .ok (.aload_n 0, 1) := by decide +kernel
theorem dX6_row_10 : decode cX6_row 10 = .ok (.getfield 29, 3) := by decide +kernel
theorem dX6_row_13 : decode cX6_row 13 = .ok (.invokevirtual 62, 3) := by decide +kernel
theorem dX6_row_16 : decode cX6_row 16 = .ok (.bipush 38, 2) := by decide +kernel
theorem dX6_row_18 : decode cX6_row 18 = .ok (.if_icmp .ne 10, 3) := by decide +kernel
theorem dX6_row_21 : decode cX6_row 21 = .ok (.aload_n 0, 1) := by decide +kernel
theorem dX6_row_22 : decode cX6_row 22 = .ok (.iconst 2, 1) := by decide +kernel
theorem dX6_row_23 : decode cX6_row 23 = .ok (.aload_n 1, 1) := by decide +kernel
theorem dX6_row_24 : decode cX6_row 24 = .ok (.invokevirtual 36, 3) := by decide +kernel
theorem dX6_row_27 : decode cX6_row 27 = .ok (.astore_n 1, 1) := by decide +kernel
theorem dX6_row_28 : decode cX6_row 28 = .ok (.iconst 0, 1) := by decide +kernel
theorem dX6_row_29 : decode cX6_row 29 = .ok (.istore_n 2, 1) := by decide +kernel
theorem dX6_row_30 : decode cX6_row 30 = .ok (.iload_n 2, 1) := by decide +kernel
theorem dX6_row_31 : decode cX6_row 31 = .ok (.bipush 60, 2) := by decide +kernel
theorem dX6_row_33 : decode cX6_row 33 = .ok (.if_icmp .ge 32, 3) := by decide +kernel
theorem dX6_row_36 : decode cX6_row 36 = .ok (.aload_n 1, 1) := by decide +kernel
theorem dX6_row_37 : decode cX6_row 37 = .ok (.ifnull 28, 3) := by decide +kernel
theorem dX6_row_40 : decode cX6_row 40 = .ok (.aload_n 0, 1) := by decide +kernel
theorem dX6_row_41 : decode cX6_row 41 = .ok (.bipush 38, 2) := by decide +kernel
theorem dX6_row_43 : decode cX6_row 43 = .ok (.invokevirtual 40, 3) := by decide +kernel
theorem dX6_row_46 : decode cX6_row 46 = .ok (.ifCond .eq 19, 3) := by decide +kernel
theorem dX6_row_49 : decode cX6_row 49 = .ok (.aload_n 0, 1) := by decide +kernel
theorem dX6_row_50 : decode cX6_row 50 = .ok (.aload_n 1, 1) := by decide +kernel
theorem dX6_row_51 : decode cX6_row 51 = .ok (.aload_n 0, 1) := by decide +kernel
theorem dX6_row_52 : decode cX6_row 52 = .ok (.invokevirtual 73, 3) := by decide +kernel
theorem dX6_row_55 : decode cX6_row 55 = .ok (.invokevirtual 44, 3) := by decide +kernel
theorem dX6_row_58 : decode cX6_row 58 = .ok (.astore_n 1, 1) := by decide +kernel
theorem dX6_row_59 : decode cX6_row 59 = .ok (.iinc 2 1, 3) := by decide +kernel
theorem dX6_row_62 : decode cX6_row 62 = .ok (.goto (-32), 3) := by decide +kernel
theorem dX6_row_65 : decode cX6_row 65 = .ok (.aload_n 1, 1) := by decide +kernel
theorem dX6_row_66 : decode cX6_row 66 = .ok (.areturn, 1) := by decide +kernel
theorem dX6_unit_0 : decode cX6_unit 0 = .ok (.aload_n 0, 1) := by decide +kernel
theorem dX6_unit_1 : decode cX6_unit 1 = .ok (.getfield 17, 3) := by decide +kernel
theorem dX6_unit_4 : decode cX6_unit 4 = .ok (.aload_n 0, 1) := by decide +kernel
theorem dX6_unit_5 : decode cX6_unit 5 = .ok (.getfield 29, 3) := by decide +kernel
theorem dX6_unit_8 : decode cX6_unit 8 = .ok (.invokevirtual 62, 3) := by decide +kernel
theorem dX6_unit_11 : decode cX6_unit 11 = .ok (.istore_n 1, 1) := by decide +kernel
theorem dX6_unit_12 : decode cX6_unit 12 = .ok (.iload_n 1, 1) := by decide +kernel
theorem dX6_unit_13 : decode cX6_unit 13 = .ok (.lookupswitch 180 #[(33, 83), (35, 151), (40, 88), (69, 93), (112, 111), (113, 111), (114, 111), (115, 132), (116, 132)], 83) := by decide +kernel
theorem dX6_unit_96 : decode cX6_unit 96 = .ok (.aload_n 0, 1) := by decide +kernel
theorem dX6_unit_97 : decode cX6_unit 97 = .ok (.invokevirtual 76, 3) := by decide +kernel
theorem dX6_unit_100 : decode cX6_unit 100 = .ok (.areturn, 1) := by decide +kernel
theorem dX6_unit_101 : decode cX6_unit 101 = .ok (.aload_n 0, 1) := by decide +kernel
theorem dX6_unit_102 : decode cX6_unit 102 = .ok (.invokevirtual 79, 3) := by decide +kernel
theorem dX6_unit_105 : decode cX6_unit 105 = .ok (.areturn, 1) := by decide +kernel
theorem dX6_unit_106 : decode cX6_unit 106 = .ok (.aload_n 0, 1) := by decide +kernel
theorem dX6_unit_107 : decode cX6_unit 107 = .ok (.dup, 1) := by decide +kernel
theorem dX6_unit_108 : decode cX6_unit 108 = .ok (.getfield 29, 3) := by decide +kernel
theorem dX6_unit_111 : decode cX6_unit 111 = .ok (.iconst 1, 1) := by decide +kernel
theorem dX6_unit_112 : decode cX6_unit 112 = .ok (.iadd, 1) := by decide +kernel
theorem dX6_unit_113 : decode cX6_unit 113 = .ok (.putfield 29, 3) := by decide +kernel
theorem dX6_unit_116 : decode cX6_unit 116 = .ok (.aload_n 0, 1) := by decide +kernel
theorem dX6_unit_117 : decode cX6_unit 117 = .ok (.bipush 6, 2) := by decide +kernel
theorem dX6_unit_119 : decode cX6_unit 119 = .ok (.iconst 0, 1) := by decide +kernel
theorem dX6_unit_120 : decode cX6_unit 120 = .ok (.invokevirtual 82, 3) := by decide +kernel
theorem dX6_unit_123 : decode cX6_unit 123 = .ok (.areturn, 1) := by decide +kernel
theorem dX6_unit_124 : decode cX6_unit 124 = .ok (.aload_n 0, 1) := by decide +kernel
theorem dX6_unit_125 : decode cX6_unit 125 = .ok (.dup, 1) := by decide +kernel
theorem dX6_unit_126 : decode cX6_unit 126 = .ok (.getfield 29, 3) := by decide +kernel
theorem dX6_unit_129 : decode cX6_unit 129 = .ok (.iconst 1, 1) := by decide +kernel
theorem dX6_unit_130 : decode cX6_unit 130 = .ok (.iadd, 1) := by decide +kernel
theorem dX6_unit_131 : decode cX6_unit 131 = .ok (.putfield 29, 3) := by decide +kernel
theorem dX6_unit_134 : decode cX6_unit 134 = .ok (.aload_n 0, 1) := by decide +kernel
theorem dX6_unit_135 : decode cX6_unit 135 = .ok (.bipush 7, 2) := by decide +kernel
theorem dX6_unit_137 : decode cX6_unit 137 = .ok (.iload_n 1, 1) := by decide +kernel
theorem dX6_unit_138 : decode cX6_unit 138 = .ok (.bipush 112, 2) := by decide +kernel
theorem dX6_unit_140 : decode cX6_unit 140 = .ok (.isub, 1) := by decide +kernel
theorem dX6_unit_141 : decode cX6_unit 141 = .ok (.invokevirtual 82, 3) := by decide +kernel
theorem dX6_unit_144 : decode cX6_unit 144 = .ok (.areturn, 1) := by decide +kernel
theorem dX6_unit_145 : decode cX6_unit 145 = .ok (.aload_n 0, 1) := by decide +kernel
theorem dX6_unit_146 : decode cX6_unit 146 = .ok (.dup, 1) := by decide +kernel
theorem dX6_unit_147 : decode cX6_unit 147 = .ok (.getfield 29, 3) := by decide +kernel
theorem dX6_unit_150 : decode cX6_unit 150 = .ok (.iconst 1, 1) := by decide +kernel
theorem dX6_unit_151 : decode cX6_unit 151 = .ok (.iadd, 1) := by decide +kernel
theorem dX6_unit_152 : decode cX6_unit 152 = .ok (.putfield 29, 3) := by decide +kernel
theorem dX6_unit_155 : decode cX6_unit 155 = .ok (.aload_n 0, 1) := by decide +kernel
theorem dX6_unit_156 : decode cX6_unit 156 = .ok (.iload_n 1, 1) := by decide +kernel
theorem dX6_unit_157 : decode cX6_unit 157 = .ok (.bipush 115, 2) := by decide +kernel
theorem dX6_unit_159 : decode cX6_unit 159 = .ok (.isub, 1) := by decide +kernel
theorem dX6_unit_160 : decode cX6_unit 160 = .ok (.invokevirtual 86, 3) := by decide +kernel
theorem dX6_unit_163 : decode cX6_unit 163 = .ok (.areturn, 1) := by decide +kernel
theorem dX6_unit_164 : decode cX6_unit 164 = .ok (.aload_n 0, 1) := by decide +kernel
theorem dX6_unit_165 : decode cX6_unit 165 = .ok (.dup, 1) := by decide +kernel
theorem dX6_unit_166 : decode cX6_unit 166 = .ok (.getfield 29, 3) := by decide +kernel
theorem dX6_unit_169 : decode cX6_unit 169 = .ok (.iconst 1, 1) := by decide +kernel
theorem dX6_unit_170 : decode cX6_unit 170 = .ok (.iadd, 1) := by decide +kernel
theorem dX6_unit_171 : decode cX6_unit 171 = .ok (.putfield 29, 3) := by decide +kernel
theorem dX6_unit_174 : decode cX6_unit 174 = .ok (.aload_n 0, 1) := by decide +kernel
theorem dX6_unit_175 : decode cX6_unit 175 = .ok (.aload_n 0, 1) := by decide +kernel
theorem dX6_unit_176 : decode cX6_unit 176 = .ok (.getfield 17, 3) := by decide +kernel
theorem dX6_unit_179 : decode cX6_unit 179 = .ok (.aload_n 0, 1) := by decide +kernel
theorem dX6_unit_180 : decode cX6_unit 180 = .ok (.getfield 29, 3) := by decide +kernel
theorem dX6_unit_183 : decode cX6_unit 183 = .ok (.invokevirtual 62, 3) := by decide +kernel
theorem dX6_unit_186 : decode cX6_unit 186 = .ok (.bipush 48, 2) := by decide +kernel
theorem dX6_unit_188 : decode cX6_unit 188 = .ok (.isub, 1) := by decide +kernel
theorem dX6_unit_189 : decode cX6_unit 189 = .ok (.invokevirtual 90, 3) := by decide +kernel
theorem dX6_unit_192 : decode cX6_unit 192 = .ok (.areturn, 1) := by decide +kernel
theorem dX6_unit_193 : decode cX6_unit 193 = .ok (.aload_n 0, 1) := by decide +kernel
theorem dX6_unit_194 : decode cX6_unit 194 = .ok (.invokevirtual 93, 3) := by decide +kernel
theorem dX6_unit_197 : decode cX6_unit 197 = .ok (.areturn, 1) := by decide +kernel
theorem dX6_negation_0 : decode cX6_negation 0 = .ok (.aload_n 0, 1) := by decide +kernel
theorem dX6_negation_1 : decode cX6_negation 1 = .ok (.invokevirtual 66, 3) := by decide +kernel
theorem dX6_negation_4 : decode cX6_negation 4 = .ok (.ifCond .ne 5, 3) := by decide +kernel
theorem dX6_negation_7 : decode cX6_negation 7 = .ok (.aconst_null, 1) := by decide +kernel
theorem dX6_negation_8 : decode cX6_negation 8 = .ok (.areturn, 1) := by decide +kernel
theorem dX6_negation_9 : decode cX6_negation 9 = .ok (.aload_n 0, 1) := by decide +kernel
theorem dX6_negation_10 : decode cX6_negation 10 = .ok (.invokevirtual 73, 3) := by decide +kernel
theorem dX6_negation_13 : decode cX6_negation 13 = .ok (.astore_n 1, 1) := by decide +kernel
theorem dX6_negation_14 : decode cX6_negation 14 = .ok (.aload_n 0, 1) := by decide +kernel
theorem dX6_negation_15 : decode cX6_negation 15 = .ok (.dup, 1) := by decide +kernel
theorem dX6_negation_16 : decode cX6_negation 16 = .ok (.getfield 26, 3) := by decide +kernel
theorem dX6_negation_19 : decode cX6_negation 19 = .ok (.iconst 1, 1) := by decide +kernel
theorem dX6_negation_20 : decode cX6_negation 20 = .ok (.isub, 1) := by decide +kernel
theorem dX6_negation_21 : decode cX6_negation 21 = .ok (.putfield 26, 3) := by decide +kernel
theorem dX6_negation_24 : decode cX6_negation 24 = .ok (.aload_n 0, 1) := by decide +kernel
theorem dX6_negation_25 : decode cX6_negation 25 = .ok (.iconst 5, 1) := by decide +kernel
theorem dX6_negation_26 : decode cX6_negation 26 = .ok (.aload_n 1, 1) := by decide +kernel
theorem dX6_negation_27 : decode cX6_negation 27 = .ok (.invokevirtual 36, 3) := by decide +kernel
theorem dX6_negation_30 : decode cX6_negation 30 = .ok (.areturn, 1) := by decide +kernel
theorem dX6_group_0 : decode cX6_group 0 = .ok (.aload_n 0, 1) := by decide +kernel
theorem dX6_group_1 : decode cX6_group 1 = .ok (.invokevirtual 66, 3) := by decide +kernel
theorem dX6_group_4 : decode cX6_group 4 = .ok (.ifCond .ne 5, 3) := by decide +kernel
theorem dX6_group_7 : decode cX6_group 7 = .ok (.aconst_null, 1) := by decide +kernel
theorem dX6_group_8 : decode cX6_group 8 = .ok (.areturn, 1) := by decide +kernel
theorem dX6_group_9 : decode cX6_group 9 = .ok (.aload_n 0, 1) := by decide +kernel
theorem dX6_group_10 : decode cX6_group 10 = .ok (.invokevirtual 53, 3) := by decide +kernel
theorem dX6_group_13 : decode cX6_group 13 = .ok (.astore_n 1, 1) := by decide +kernel
theorem dX6_group_14 : decode cX6_group 14 = .ok (.aload_n 0, 1) := by decide +kernel
theorem dX6_group_15 : decode cX6_group 15 = .ok (.dup, 1) := by decide +kernel
theorem dX6_group_16 : decode cX6_group 16 = .ok (.getfield 26, 3) := by decide +kernel
theorem dX6_group_19 : decode cX6_group 19 = .ok (.iconst 1, 1) := by decide +kernel
theorem dX6_group_20 : decode cX6_group 20 = .ok (.isub, 1) := by decide +kernel
theorem dX6_group_21 : decode cX6_group 21 = .ok (.putfield 26, 3) := by decide +kernel
theorem dX6_group_24 : decode cX6_group 24 = .ok (.aload_n 1, 1) := by decide +kernel
theorem dX6_group_25 : decode cX6_group 25 = .ok (.ifnull 16, 3) := by decide +kernel
theorem dX6_group_28 : decode cX6_group 28 = .ok (.aload_n 0, 1) := by decide +kernel
theorem dX6_group_29 : decode cX6_group 29 = .ok (.bipush 41, 2) := by decide +kernel
theorem dX6_group_31 : decode cX6_group 31 = .ok (.invokevirtual 40, 3) := by decide +kernel
theorem dX6_group_34 : decode cX6_group 34 = .ok (.ifCond .eq 7, 3) := by decide +kernel
theorem dX6_group_37 : decode cX6_group 37 = .ok (.aload_n 1, 1) := by decide +kernel
theorem dX6_group_38 : decode cX6_group 38 = .ok (.goto 4, 3) := by decide +kernel
theorem dX6_group_41 : decode cX6_group 41 = .ok (.aconst_null, 1) := by decide +kernel
theorem dX6_group_42 : decode cX6_group 42 = .ok (.areturn, 1) := by decide +kernel
theorem dX6_aboutOne_0 : decode cX6_aboutOne 0 = .ok (.aload_n 0, 1) := by decide +kernel
theorem dX6_aboutOne_1 : decode cX6_aboutOne 1 = .ok (.getfield 29, 3) := by decide +kernel
theorem dX6_aboutOne_4 : decode cX6_aboutOne 4 = .ok (.istore_n 3, 1) := by decide +kernel
theorem dX6_aboutOne_5 : decode cX6_aboutOne 5 = .ok (.aload_n 0, 1) := by decide +kernel
theorem dX6_aboutOne_6 : decode cX6_aboutOne 6 = .ok (.invokevirtual 96, 3) := by decide +kernel
theorem dX6_aboutOne_9 : decode cX6_aboutOne 9 = .ok (.ifCond .eq 14, 3) := by decide +kernel
theorem dX6_aboutOne_12 : decode cX6_aboutOne 12 = .ok (.aload_n 0, 1) := by decide +kernel
theorem dX6_aboutOne_13 : decode cX6_aboutOne 13 = .ok (.iload_n 1, 1) := by decide +kernel
theorem dX6_aboutOne_14 : decode cX6_aboutOne 14 = .ok (.iload_n 2, 1) := by decide +kernel
theorem dX6_aboutOne_15 : decode cX6_aboutOne 15 = .ok (.iload_n 3, 1) := by decide +kernel
theorem dX6_aboutOne_16 : decode cX6_aboutOne 16 = .ok (.iload_n 3, 1) := by decide +kernel
theorem dX6_aboutOne_17 : decode cX6_aboutOne 17 = .ok (.invokevirtual 99, 3) := by decide +kernel
theorem dX6_aboutOne_20 : decode cX6_aboutOne 20 = .ok (.goto 4, 3) := by decide +kernel
theorem dX6_aboutOne_23 : decode cX6_aboutOne 23 = .ok (.aconst_null, 1) := by decide +kernel
theorem dX6_aboutOne_24 : decode cX6_aboutOne 24 = .ok (.areturn, 1) := by decide +kernel
theorem dX6_aboutTwo_0 : decode cX6_aboutTwo 0 = .ok (.aload_n 0, 1) := by decide +kernel
theorem dX6_aboutTwo_1 : decode cX6_aboutTwo 1 = .ok (.getfield 29, 3) := by decide +kernel
theorem dX6_aboutTwo_4 : decode cX6_aboutTwo 4 = .ok (.istore_n 2, 1) := by decide +kernel
theorem dX6_aboutTwo_5 : decode cX6_aboutTwo 5 = .ok (.aload_n 0, 1) := by decide +kernel
theorem dX6_aboutTwo_6 : decode cX6_aboutTwo 6 = .ok (.invokevirtual 96, 3) := by decide +kernel
theorem dX6_aboutTwo_9 : decode cX6_aboutTwo 9 = .ok (.ifCond .eq 24, 3) := by decide +kernel
theorem dX6_aboutTwo_12 : decode cX6_aboutTwo 12 = .ok (.aload_n 0, 1) := by decide +kernel
theorem dX6_aboutTwo_13 : decode cX6_aboutTwo 13 = .ok (.invokevirtual 96, 3) := by decide +kernel
theorem dX6_aboutTwo_16 : decode cX6_aboutTwo 16 = .ok (.ifCond .eq 17, 3) := by decide +kernel
theorem dX6_aboutTwo_19 : decode cX6_aboutTwo 19 = .ok (.aload_n 0, 1) := by decide +kernel
theorem dX6_aboutTwo_20 : decode cX6_aboutTwo 20 = .ok (.bipush 8, 2) := by decide +kernel
theorem dX6_aboutTwo_22 : decode cX6_aboutTwo 22 = .ok (.iload_n 1, 1) := by decide +kernel
theorem dX6_aboutTwo_23 : decode cX6_aboutTwo 23 = .ok (.iload_n 2, 1) := by decide +kernel
theorem dX6_aboutTwo_24 : decode cX6_aboutTwo 24 = .ok (.iload_n 2, 1) := by decide +kernel
theorem dX6_aboutTwo_25 : decode cX6_aboutTwo 25 = .ok (.iconst 1, 1) := by decide +kernel
theorem dX6_aboutTwo_26 : decode cX6_aboutTwo 26 = .ok (.iadd, 1) := by decide +kernel
theorem dX6_aboutTwo_27 : decode cX6_aboutTwo 27 = .ok (.invokevirtual 99, 3) := by decide +kernel
theorem dX6_aboutTwo_30 : decode cX6_aboutTwo 30 = .ok (.goto 4, 3) := by decide +kernel
theorem dX6_aboutTwo_33 : decode cX6_aboutTwo 33 = .ok (.aconst_null, 1) := by decide +kernel
theorem dX6_aboutTwo_34 : decode cX6_aboutTwo 34 = .ok (.areturn, 1) := by decide +kernel
theorem dX6_count_0 : decode cX6_count 0 = .ok (.iload_n 1, 1) := by decide +kernel
theorem dX6_count_1 : decode cX6_count 1 = .ok (.iconst 1, 1) := by decide +kernel
theorem dX6_count_2 : decode cX6_count 2 = .ok (.if_icmp .lt 8, 3) := by decide +kernel
theorem dX6_count_5 : decode cX6_count 5 = .ok (.iload_n 1, 1) := by decide +kernel
theorem dX6_count_6 : decode cX6_count 6 = .ok (.iconst 3, 1) := by decide +kernel
theorem dX6_count_7 : decode cX6_count 7 = .ok (.if_icmp .le 5, 3) := by decide +kernel
theorem dX6_count_10 : decode cX6_count 10 = .ok (.aconst_null, 1) := by decide +kernel
theorem dX6_count_11 : decode cX6_count 11 = .ok (.areturn, 1) := by decide +kernel
theorem dX6_count_12 : decode cX6_count 12 = .ok (.aload_n 0, 1) := by decide +kernel
theorem dX6_count_13 : decode cX6_count 13 = .ok (.dup, 1) := by decide +kernel
theorem dX6_count_14 : decode cX6_count 14 = .ok (.getfield 29, 3) := by decide +kernel
theorem dX6_count_17 : decode cX6_count 17 = .ok (.iconst 1, 1) := by decide +kernel
theorem dX6_count_18 : decode cX6_count 18 = .ok (.iadd, 1) := by decide +kernel
theorem dX6_count_19 : decode cX6_count 19 = .ok (.putfield 29, 3) := by decide +kernel
theorem dX6_count_22 : decode cX6_count 22 = .ok (.aload_n 0, 1) := by decide +kernel
theorem dX6_count_23 : decode cX6_count 23 = .ok (.bipush 11, 2) := by decide +kernel
theorem dX6_count_25 : decode cX6_count 25 = .ok (.iload_n 1, 1) := by decide +kernel
theorem dX6_count_26 : decode cX6_count 26 = .ok (.invokevirtual 82, 3) := by decide +kernel
theorem dX6_count_29 : decode cX6_count 29 = .ok (.areturn, 1) := by decide +kernel
theorem dX6_comparison_0 : decode cX6_comparison 0 = .ok (.aload_n 0, 1) := by decide +kernel
theorem dX6_comparison_1 : decode cX6_comparison 1 = .ok (.getfield 29, 3) := by decide +kernel
theorem dX6_comparison_4 : decode cX6_comparison 4 = .ok (.istore_n 1, 1) := by decide +kernel
theorem dX6_comparison_5 : decode cX6_comparison 5 = .ok (.aload_n 0, 1) := by decide +kernel
theorem dX6_comparison_6 : decode cX6_comparison 6 = .ok (.invokevirtual 96, 3) := by decide +kernel
theorem dX6_comparison_9 : decode cX6_comparison 9 = .ok (.ifCond .ne 5, 3) := by decide +kernel
theorem dX6_comparison_12 : decode cX6_comparison 12 = .ok (.aconst_null, 1) := by decide +kernel
theorem dX6_comparison_13 : decode cX6_comparison 13 = .ok (.areturn, 1) := by decide +kernel
theorem dX6_comparison_14 : decode cX6_comparison 14 = .ok (.aload_n 0, 1) := by decide +kernel
theorem dX6_comparison_15 : decode cX6_comparison 15 = .ok (.getfield 17, 3) := by decide +kernel
theorem dX6_comparison_18 : decode cX6_comparison 18 = .ok (.aload_n 0, 1) := by decide +kernel
theorem dX6_comparison_19 : decode cX6_comparison 19 = .ok (.getfield 29, 3) := by decide +kernel
theorem dX6_comparison_22 : decode cX6_comparison 22 = .ok (.invokevirtual 62, 3) := by decide +kernel
theorem dX6_comparison_25 : decode cX6_comparison 25 = .ok (.bipush 61, 2) := by decide +kernel
theorem dX6_comparison_27 : decode cX6_comparison 27 = .ok (.if_icmp .ne 8, 3) := by decide +kernel
theorem dX6_comparison_30 : decode cX6_comparison 30 = .ok (.bipush 9, 2) := by decide +kernel
theorem dX6_comparison_32 : decode cX6_comparison 32 = .ok (.goto 5, 3) := by decide +kernel
theorem dX6_comparison_35 : decode cX6_comparison 35 = .ok (.bipush 10, 2) := by decide +kernel
theorem dX6_comparison_37 : decode cX6_comparison 37 = .ok (.istore_n 2, 1) := by decide +kernel
theorem dX6_comparison_38 : decode cX6_comparison 38 = .ok (.aload_n 0, 1) := by decide +kernel
