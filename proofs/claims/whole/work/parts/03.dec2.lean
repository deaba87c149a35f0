theorem dX6_comparison_39 : decode cX6_comparison 39 = .ok (.bipush 61, 2) := by decide +kernel
theorem dX6_comparison_41 : decode cX6_comparison 41 = .ok (.invokevirtual 40, 3) := by decide +kernel
theorem dX6_comparison_44 : decode cX6_comparison 44 = .ok (.ifCond .ne 14, 3) := by decide +kernel
theorem dX6_comparison_47 : decode cX6_comparison 47 = .ok (.aload_n 0, 1) := by decide +kernel
theorem dX6_comparison_48 : decode cX6_comparison 48 = .ok (.bipush 60, 2) := by decide +kernel
theorem dX6_comparison_50 : decode cX6_comparison 50 = .ok (.invokevirtual 40, 3) := by decide +kernel
theorem dX6_comparison_53 : decode cX6_comparison 53 = .ok (.ifCond .ne 5, 3) := by decide +kernel
theorem dX6_comparison_56 : decode cX6_comparison 56 = .ok (.aconst_null, 1) := by decide +kernel
theorem dX6_comparison_57 : decode cX6_comparison 57 = .ok (.areturn, 1) := by decide +kernel
theorem dX6_comparison_58 : decode cX6_comparison 58 = .ok (.aload_n 0, 1) := by decide +kernel
theorem dX6_comparison_59 : decode cX6_comparison 59 = .ok (.invokevirtual 96, 3) := by decide +kernel
theorem dX6_comparison_62 : decode cX6_comparison 62 = .ok (.ifCond .eq 16, 3) := by decide +kernel
theorem dX6_comparison_65 : decode cX6_comparison 65 = .ok (.aload_n 0, 1) := by decide +kernel
theorem dX6_comparison_66 : decode cX6_comparison 66 = .ok (.iload_n 2, 1) := by decide +kernel
theorem dX6_comparison_67 : decode cX6_comparison 67 = .ok (.iconst 0, 1) := by decide +kernel
theorem dX6_comparison_68 : decode cX6_comparison 68 = .ok (.iload_n 1, 1) := by decide +kernel
theorem dX6_comparison_69 : decode cX6_comparison 69 = .ok (.iload_n 1, 1) := by decide +kernel
theorem dX6_comparison_70 : decode cX6_comparison 70 = .ok (.iconst 2, 1) := by decide +kernel
theorem dX6_comparison_71 : decode cX6_comparison 71 = .ok (.iadd, 1) := by decide +kernel
theorem dX6_comparison_72 : decode cX6_comparison 72 = .ok (.invokevirtual 99, 3) := by decide +kernel
theorem dX6_comparison_75 : decode cX6_comparison 75 = .ok (.goto 4, 3) := by decide +kernel
theorem dX6_comparison_78 : decode cX6_comparison 78 = .ok (.aconst_null, 1) := by decide +kernel
theorem dX6_comparison_79 : decode cX6_comparison 79 = .ok (.areturn, 1) := by decide +kernel
theorem dX6_simple_0 : decode cX6_simple 0 = .ok (.aload_n 0, 1) := by decide +kernel
theorem dX6_simple_1 : decode cX6_simple 1 = .ok (.iload_n 1, 1) := by decide +kernel
theorem dX6_simple_2 : decode cX6_simple 2 = .ok (.invokevirtual 103, 3) := by decide +kernel
theorem dX6_simple_5 : decode cX6_simple 5 = .ok (.astore 5, 2) := by decide +kernel
theorem dX6_simple_7 : decode cX6_simple 7 = .ok (.aload 5, 2) := by decide +kernel
theorem dX6_simple_9 : decode cX6_simple 9 = .ok (.ifnull 55, 3) := by decide +kernel
theorem dX6_simple_12 : decode cX6_simple 12 = .ok (.aload 5, 2) := by decide +kernel
theorem dX6_simple_14 : decode cX6_simple 14 = .ok (.iload_n 2, 1) := by decide +kernel
theorem dX6_simple_15 : decode cX6_simple 15 = .ok (.putfield 106, 3) := by decide +kernel
theorem dX6_simple_18 : decode cX6_simple 18 = .ok (.aload 5, 2) := by decide +kernel
theorem dX6_simple_20 : decode cX6_simple 20 = .ok (.iload_n 3, 1) := by decide +kernel
theorem dX6_simple_21 : decode cX6_simple 21 = .ok (.putfield 56, 3) := by decide +kernel
theorem dX6_simple_24 : decode cX6_simple 24 = .ok (.aload 5, 2) := by decide +kernel
theorem dX6_simple_26 : decode cX6_simple 26 = .ok (.iload 4, 2) := by decide +kernel
theorem dX6_simple_28 : decode cX6_simple 28 = .ok (.putfield 109, 3) := by decide +kernel
theorem dX6_simple_31 : decode cX6_simple 31 = .ok (.aload 5, 2) := by decide +kernel
theorem dX6_simple_33 : decode cX6_simple 33 = .ok (.aload_n 0, 1) := by decide +kernel
theorem dX6_simple_34 : decode cX6_simple 34 = .ok (.getfield 17, 3) := by decide +kernel
theorem dX6_simple_37 : decode cX6_simple 37 = .ok (.iload_n 3, 1) := by decide +kernel
theorem dX6_simple_38 : decode cX6_simple 38 = .ok (.invokevirtual 62, 3) := by decide +kernel
theorem dX6_simple_41 : decode cX6_simple 41 = .ok (.bipush 120, 2) := by decide +kernel
theorem dX6_simple_43 : decode cX6_simple 43 = .ok (.isub, 1) := by decide +kernel
theorem dX6_simple_44 : decode cX6_simple 44 = .ok (.putfield 112, 3) := by decide +kernel
theorem dX6_simple_47 : decode cX6_simple 47 = .ok (.aload 5, 2) := by decide +kernel
theorem dX6_simple_49 : decode cX6_simple 49 = .ok (.aload_n 0, 1) := by decide +kernel
theorem dX6_simple_50 : decode cX6_simple 50 = .ok (.getfield 17, 3) := by decide +kernel
theorem dX6_simple_53 : decode cX6_simple 53 = .ok (.iload 4, 2) := by decide +kernel
theorem dX6_simple_55 : decode cX6_simple 55 = .ok (.invokevirtual 62, 3) := by decide +kernel
theorem dX6_simple_58 : decode cX6_simple 58 = .ok (.bipush 120, 2) := by decide +kernel
theorem dX6_simple_60 : decode cX6_simple 60 = .ok (.isub, 1) := by decide +kernel
theorem dX6_simple_61 : decode cX6_simple 61 = .ok (.putfield 115, 3) := by decide +kernel
theorem dX6_simple_64 : decode cX6_simple 64 = .ok (.aload 5, 2) := by decide +kernel
theorem dX6_simple_66 : decode cX6_simple 66 = .ok (.areturn, 1) := by decide +kernel
theorem dX6_holding_0 : decode cX6_holding 0 = .ok (.aload_n 2, 1) := by decide +kernel
theorem dX6_holding_1 : decode cX6_holding 1 = .ok (.ifnonnull 7, 3) := by decide +kernel
theorem dX6_holding_4 : decode cX6_holding 4 = .ok (.aconst_null, 1) := by decide +kernel
theorem dX6_holding_5 : decode cX6_holding 5 = .ok (.goto 13, 3) := by decide +kernel
theorem dX6_holding_8 : decode cX6_holding 8 = .ok (.aload_n 0, 1) := by decide +kernel
theorem dX6_holding_9 : decode cX6_holding 9 = .ok (.aload_n 0, 1) := by decide +kernel
theorem dX6_holding_10 : decode cX6_holding 10 = .ok (.iload_n 1, 1) := by decide +kernel
theorem dX6_holding_11 : decode cX6_holding 11 = .ok (.invokevirtual 103, 3) := by decide +kernel
theorem dX6_holding_14 : decode cX6_holding 14 = .ok (.aload_n 2, 1) := by decide +kernel
theorem dX6_holding_15 : decode cX6_holding 15 = .ok (.invokevirtual 44, 3) := by decide +kernel
theorem dX6_holding_18 : decode cX6_holding 18 = .ok (.areturn, 1) := by decide +kernel
theorem dX6_joined_0 : decode cX6_joined 0 = .ok (.aload_n 1, 1) := by decide +kernel
theorem dX6_joined_1 : decode cX6_joined 1 = .ok (.ifnull 7, 3) := by decide +kernel
theorem dX6_joined_4 : decode cX6_joined 4 = .ok (.aload_n 2, 1) := by decide +kernel
theorem dX6_joined_5 : decode cX6_joined 5 = .ok (.ifnonnull 5, 3) := by decide +kernel
theorem dX6_joined_8 : decode cX6_joined 8 = .ok (.aconst_null, 1) := by decide +kernel
theorem dX6_joined_9 : decode cX6_joined 9 = .ok (.areturn, 1) := by decide +kernel
theorem dX6_joined_10 : decode cX6_joined 10 = .ok (.aload_n 1, 1) := by decide +kernel
theorem dX6_joined_11 : decode cX6_joined 11 = .ok (.aload_n 2, 1) := by decide +kernel
theorem dX6_joined_12 : decode cX6_joined 12 = .ok (.invokevirtual 118, 3) := by decide +kernel
theorem dX6_joined_15 : decode cX6_joined 15 = .ok (.aload_n 1, 1) := by decide +kernel
theorem dX6_joined_16 : decode cX6_joined 16 = .ok (.areturn, 1) := by decide +kernel
theorem dX6_taken_0 : decode cX6_taken 0 = .ok (.aload_n 0, 1) := by decide +kernel
theorem dX6_taken_1 : decode cX6_taken 1 = .ok (.getfield 22, 3) := by decide +kernel
theorem dX6_taken_4 : decode cX6_taken 4 = .ok (.ifCond .lt 24, 3) := by decide +kernel
theorem dX6_taken_7 : decode cX6_taken 7 = .ok (.aload_n 0, 1) := by decide +kernel
theorem dX6_taken_8 : decode cX6_taken 8 = .ok (.getfield 22, 3) := by decide +kernel
theorem dX6_taken_11 : decode cX6_taken 11 = .ok (.bipush 62, 2) := by decide +kernel
theorem dX6_taken_13 : decode cX6_taken 13 = .ok (.if_icmp .ge 15, 3) := by decide +kernel
theorem dX6_taken_16 : decode cX6_taken 16 = .ok (.aload_n 0, 1) := by decide +kernel
theorem dX6_taken_17 : decode cX6_taken 17 = .ok (.getfield 13, 3) := by decide +kernel
theorem dX6_taken_20 : decode cX6_taken 20 = .ok (.aload_n 0, 1) := by decide +kernel
theorem dX6_taken_21 : decode cX6_taken 21 = .ok (.getfield 22, 3) := by decide +kernel
theorem dX6_taken_24 : decode cX6_taken 24 = .ok (.aaload, 1) := by decide +kernel
theorem dX6_taken_25 : decode cX6_taken 25 = .ok (.ifnonnull 5, 3) := by decide +kernel
theorem dX6_taken_28 : decode cX6_taken 28 = .ok (.aconst_null, 1) := by decide +kernel
theorem dX6_taken_29 : decode cX6_taken 29 = .ok (.areturn, 1) := by decide +kernel
theorem dX6_taken_30 : decode cX6_taken 30 = .ok (.aload_n 0, 1) := by decide +kernel
theorem dX6_taken_31 : decode cX6_taken 31 = .ok (.getfield 13, 3) := by decide +kernel
theorem dX6_taken_34 : decode cX6_taken 34 = .ok (.aload_n 0, 1) := by decide +kernel
theorem dX6_taken_35 : decode cX6_taken 35 = .ok (.getfield 22, 3) := by decide +kernel
theorem dX6_taken_38 : decode cX6_taken 38 = .ok (.aaload, 1) := by decide +kernel
theorem dX6_taken_39 : decode cX6_taken 39 = .ok (.astore_n 2, 1) := by decide +kernel
theorem dX6_taken_40 : decode cX6_taken 40 = .ok (.aload_n 0, 1) := by decide +kernel
theorem dX6_taken_41 : decode cX6_taken 41 = .ok (.dup, 1) := by decide +kernel
theorem dX6_taken_42 : decode cX6_taken 42 = .ok (.getfield 22, 3) := by decide +kernel
theorem dX6_taken_45 : decode cX6_taken 45 = .ok (.iconst 1, 1) := by decide +kernel
theorem dX6_taken_46 : decode cX6_taken 46 = .ok (.iadd, 1) := by decide +kernel
theorem dX6_taken_47 : decode cX6_taken 47 = .ok (.putfield 22, 3) := by decide +kernel
theorem dX6_taken_50 : decode cX6_taken 50 = .ok (.aload_n 2, 1) := by decide +kernel
theorem dX6_taken_51 : decode cX6_taken 51 = .ok (.iload_n 1, 1) := by decide +kernel
theorem dX6_taken_52 : decode cX6_taken 52 = .ok (.putfield 122, 3) := by decide +kernel
theorem dX6_taken_55 : decode cX6_taken 55 = .ok (.aload_n 2, 1) := by decide +kernel
theorem dX6_taken_56 : decode cX6_taken 56 = .ok (.aconst_null, 1) := by decide +kernel
theorem dX6_taken_57 : decode cX6_taken 57 = .ok (.putfield 125, 3) := by decide +kernel
theorem dX6_taken_60 : decode cX6_taken 60 = .ok (.aload_n 2, 1) := by decide +kernel
theorem dX6_taken_61 : decode cX6_taken 61 = .ok (.aconst_null, 1) := by decide +kernel
theorem dX6_taken_62 : decode cX6_taken 62 = .ok (.putfield 129, 3) := by decide +kernel
theorem dX6_taken_65 : decode cX6_taken 65 = .ok (.aload_n 2, 1) := by decide +kernel
theorem dX6_taken_66 : decode cX6_taken 66 = .ok (.aconst_null, 1) := by decide +kernel
theorem dX6_taken_67 : decode cX6_taken 67 = .ok (.putfield 132, 3) := by decide +kernel
theorem dX6_taken_70 : decode cX6_taken 70 = .ok (.aload_n 2, 1) := by decide +kernel
theorem dX6_taken_71 : decode cX6_taken 71 = .ok (.aconst_null, 1) := by decide +kernel
theorem dX6_taken_72 : decode cX6_taken 72 = .ok (.putfield 135, 3) := by decide +kernel
theorem dX6_taken_75 : decode cX6_taken 75 = .ok (.aload_n 2, 1) := by decide +kernel
theorem dX6_taken_76 : decode cX6_taken 76 = .ok (.areturn, 1) := by decide +kernel
theorem dX6_skip_0 : decode cX6_skip 0 = .ok (.aload_n 0, 1) := by decide +kernel
theorem dX6_skip_1 : decode cX6_skip 1 = .ok (.getfield 17, 3) := by decide +kernel
theorem dX6_skip_4 : decode cX6_skip 4 = .ok (.aload_n 0, 1) := by decide +kernel
theorem dX6_skip_5 : decode cX6_skip 5 = .ok (.getfield 29, 3) := by decide +kernel
theorem dX6_skip_8 : decode cX6_skip 8 = .ok (.invokevirtual 62, 3) := by decide +kernel
theorem dX6_skip_11 : decode cX6_skip 11 = .ok (.iload_n 1, 1) := by decide +kernel
theorem dX6_skip_12 : decode cX6_skip 12 = .ok (.if_icmp .eq 5, 3) := by decide +kernel
theorem dX6_skip_15 : decode cX6_skip 15 = .ok (.iconst 0, 1) := by decide +kernel
theorem dX6_skip_16 : decode cX6_skip 16 = .ok (.ireturn, 1) := by decide +kernel
theorem dX6_skip_17 : decode cX6_skip 17 = .ok (.aload_n 0, 1) := by decide +kernel
theorem dX6_skip_18 : decode cX6_skip 18 = .ok (.dup, 1) := by decide +kernel
theorem dX6_skip_19 : decode cX6_skip 19 = .ok (.getfield 29, 3) := by decide +kernel
theorem dX6_skip_22 : decode cX6_skip 22 = .ok (.iconst 1, 1) := by decide +kernel
theorem dX6_skip_23 : decode cX6_skip 23 = .ok (.iadd, 1) := by decide +kernel
theorem dX6_skip_24 : decode cX6_skip 24 = .ok (.putfield 29, 3) := by decide +kernel
theorem dX6_skip_27 : decode cX6_skip 27 = .ok (.iconst 1, 1) := by decide +kernel
theorem dX6_skip_28 : decode cX6_skip 28 = .ok (.ireturn, 1) := by decide +kernel
theorem dX6_skipVariable_0 : decode cX6_skipVariable 0 = .ok (.aload_n 0, 1) := by decide +kernel
theorem dX6_skipVariable_1 : decode cX6_skipVariable 1 = .ok (.getfield 17, 3) := by decide +kernel
theorem dX6_skipVariable_4 : decode cX6_skipVariable 4 = .ok (.aload_n 0, 1) := by decide +kernel
theorem dX6_skipVariable_5 : decode cX6_skipVariable 5 = .ok (.getfield 29, 3) := by decide +kernel
theorem dX6_skipVariable_8 : decode cX6_skipVariable 8 = .ok (.invokevirtual 62, 3) := by decide +kernel
theorem dX6_skipVariable_11 : decode cX6_skipVariable 11 = .ok (.istore_n 1, 1) := by decide +kernel
theorem dX6_skipVariable_12 : decode cX6_skipVariable 12 = .ok (.iload_n 1, 1) := by decide +kernel
theorem dX6_skipVariable_13 : decode cX6_skipVariable 13 = .ok (.bipush 120, 2) := by decide +kernel
theorem dX6_skipVariable_15 : decode cX6_skipVariable 15 = .ok (.if_icmp .lt 9, 3) := by decide +kernel
theorem dX6_skipVariable_18 : decode cX6_skipVariable 18 = .ok (.iload_n 1, 1) := by decide +kernel
theorem dX6_skipVariable_19 : decode cX6_skipVariable 19 = .ok (.bipush 122, 2) := by decide +kernel
theorem dX6_skipVariable_21 : decode cX6_skipVariable 21 = .ok (.if_icmp .le 5, 3) := by decide +kernel
theorem dX6_skipVariable_24 : decode cX6_skipVariable 24 = .ok (.iconst 0, 1) := by decide +kernel
theorem dX6_skipVariable_25 : decode cX6_skipVariable 25 = .ok (.ireturn, 1) := by decide +kernel
theorem dX6_skipVariable_26 : decode cX6_skipVariable 26 = .ok (.aload_n 0, 1) := by decide +kernel
theorem dX6_skipVariable_27 : decode cX6_skipVariable 27 = .ok (.dup, 1) := by decide +kernel
theorem dX6_skipVariable_28 : decode cX6_skipVariable 28 = .ok (.getfield 29, 3) := by decide +kernel
theorem dX6_skipVariable_31 : decode cX6_skipVariable 31 = .ok (.iconst 1, 1) := by decide +kernel
theorem dX6_skipVariable_32 : decode cX6_skipVariable 32 = .ok (.iadd, 1) := by decide +kernel
theorem dX6_skipVariable_33 : decode cX6_skipVariable 33 = .ok (.putfield 29, 3) := by decide +kernel
theorem dX6_skipVariable_36 : decode cX6_skipVariable 36 = .ok (.iconst 1, 1) := by decide +kernel
theorem dX6_skipVariable_37 : decode cX6_skipVariable 37 = .ok (.ireturn, 1) := by decide +kernel
theorem dX6_openSign_0 : decode cX6_openSign 0 = .ok (.aload_n 0, 1) := by decide +kernel
theorem dX6_openSign_1 : decode cX6_openSign 1 = .ok (.getfield 26, 3) := by decide +kernel
theorem dX6_openSign_4 : decode cX6_openSign 4 = .ok (.bipush 8, 2) := by decide +kernel
theorem dX6_openSign_6 : decode cX6_openSign 6 = .ok (.if_icmp .lt 5, 3) := by decide +kernel
theorem dX6_openSign_9 : decode cX6_openSign 9 = .ok (.iconst 0, 1) := by decide +kernel
theorem dX6_openSign_10 : decode cX6_openSign 10 = .ok (.ireturn, 1) := by decide +kernel
theorem dX6_openSign_11 : decode cX6_openSign 11 = .ok (.aload_n 0, 1) := by decide +kernel
theorem dX6_openSign_12 : decode cX6_openSign 12 = .ok (.dup, 1) := by decide +kernel
theorem dX6_openSign_13 : decode cX6_openSign 13 = .ok (.getfield 26, 3) := by decide +kernel
theorem dX6_openSign_16 : decode cX6_openSign 16 = .ok (.iconst 1, 1) := by decide +kernel
theorem dX6_openSign_17 : decode cX6_openSign 17 = .ok (.iadd, 1) := by decide +kernel
theorem dX6_openSign_18 : decode cX6_openSign 18 = .ok (.putfield 26, 3) := by decide +kernel
theorem dX6_openSign_21 : decode cX6_openSign 21 = .ok (.aload_n 0, 1) := by decide +kernel
theorem dX6_openSign_22 : decode cX6_openSign 22 = .ok (.dup, 1) := by decide +kernel
theorem dX6_openSign_23 : decode cX6_openSign 23 = .ok (.getfield 29, 3) := by decide +kernel
theorem dX6_openSign_26 : decode cX6_openSign 26 = .ok (.iconst 1, 1) := by decide +kernel
theorem dX6_openSign_27 : decode cX6_openSign 27 = .ok (.iadd, 1) := by decide +kernel
theorem dX6_openSign_28 : decode cX6_openSign 28 = .ok (.putfield 29, 3) := by decide +kernel
theorem dX6_openSign_31 : decode cX6_openSign 31 = .ok (.iconst 1, 1) := by decide +kernel
theorem dX6_openSign_32 : decode cX6_openSign 32 = .ok (.ireturn, 1) := by decide +kernel
theorem dX7_init_0 : decode cX7_init 0 = .ok (.aload_n 0, 1) := by decide +kernel
theorem dX7_init_1 : decode cX7_init 1 = .ok (.invokespecial 1, 3) := by decide +kernel
theorem dX7_init_4 : decode cX7_init 4 = .ok (.aload_n 0, 1) := by decide +kernel
theorem dX7_init_5 : decode cX7_init 5 = .ok (.new 7, 3) := by decide +kernel
theorem dX7_init_8 : decode cX7_init 8 = .ok (.dup, 1) := by decide +kernel
theorem dX7_init_9 : decode cX7_init 9 = .ok (.invokespecial 9, 3) := by decide +kernel
theorem dX7_init_12 : decode cX7_init 12 = .ok (.putfield 10, 3) := by decide +kernel
theorem dX7_init_15 : decode cX7_init 15 = .ok (.aload_n 0, 1) := by decide +kernel
theorem dX7_init_16 : decode cX7_init 16 = .ok (.new 16, 3) := by decide +kernel
theorem dX7_init_19 : decode cX7_init 19 = .ok (.dup, 1) := by decide +kernel
theorem dX7_init_20 : decode cX7_init 20 = .ok (.invokespecial 18, 3) := by decide +kernel
theorem dX7_init_23 : decode cX7_init 23 = .ok (.putfield 19, 3) := by decide +kernel
theorem dX7_init_26 : decode cX7_init 26 = .ok (.aload_n 0, 1) := by decide +kernel
theorem dX7_init_27 : decode cX7_init 27 = .ok (.getfield 19, 3) := by decide +kernel
theorem dX7_init_30 : decode cX7_init 30 = .ok (.invokevirtual 23, 3) := by decide +kernel
theorem dX7_init_33 : decode cX7_init 33 = .ok (.return_, 1) := by decide +kernel
theorem dX7_forgetContext_0 : decode cX7_forgetContext 0 = .ok (.aload_n 0, 1) := by decide +kernel
theorem dX7_forgetContext_1 : decode cX7_forgetContext 1 = .ok (.getfield 19, 3) := by decide +kernel
theorem dX7_forgetContext_4 : decode cX7_forgetContext 4 = .ok (.invokevirtual 23, 3) := by decide +kernel
theorem dX7_forgetContext_7 : decode cX7_forgetContext 7 = .ok (.aload_n 0, 1) := by decide +kernel
theorem dX7_forgetContext_8 : decode cX7_forgetContext 8 = .ok (.iconst 0, 1) := by decide +kernel
theorem dX7_forgetContext_9 : decode cX7_forgetContext 9 = .ok (.putfield 26, 3) := by decide +kernel
theorem dX7_forgetContext_12 : decode cX7_forgetContext 12 = .ok (.return_, 1) := by decide +kernel
theorem dX7_knows_0 : decode cX7_knows 0 = .ok (.aload_n 0, 1) := by decide +kernel
theorem dX7_knows_1 : decode cX7_knows 1 = .ok (.getfield 26, 3) := by decide +kernel
theorem dX7_knows_4 : decode cX7_knows 4 = .ok (.iload_n 1, 1) := by decide +kernel
theorem dX7_knows_5 : decode cX7_knows 5 = .ok (.iushr, 1) := by decide +kernel
theorem dX7_knows_6 : decode cX7_knows 6 = .ok (.iconst 1, 1) := by decide +kernel
theorem dX7_knows_7 : decode cX7_knows 7 = .ok (.iand, 1) := by decide +kernel
theorem dX7_knows_8 : decode cX7_knows 8 = .ok (.ifCond .eq 7, 3) := by decide +kernel
theorem dX7_knows_11 : decode cX7_knows 11 = .ok (.iconst 1, 1) := by decide +kernel
theorem dX7_knows_12 : decode cX7_knows 12 = .ok (.goto 4, 3) := by decide +kernel
theorem dX7_knows_15 : decode cX7_knows 15 = .ok (.iconst 0, 1) := by decide +kernel
theorem dX7_knows_16 : decode cX7_knows 16 = .ok (.ireturn, 1) := by decide +kernel
theorem dX7_copyFrom_0 : decode cX7_copyFrom 0 = .ok (.aload_n 0, 1) := by decide +kernel
theorem dX7_copyFrom_1 : decode cX7_copyFrom 1 = .ok (.getfield 10, 3) := by decide +kernel
theorem dX7_copyFrom_4 : decode cX7_copyFrom 4 = .ok (.aload_n 1, 1) := by decide +kernel
theorem dX7_copyFrom_5 : decode cX7_copyFrom 5 = .ok (.getfield 10, 3) := by decide +kernel
theorem dX7_copyFrom_8 : decode cX7_copyFrom 8 = .ok (.invokevirtual 30, 3) := by decide +kernel
theorem dX7_copyFrom_11 : decode cX7_copyFrom 11 = .ok (.aload_n 0, 1) := by decide +kernel
theorem dX7_copyFrom_12 : decode cX7_copyFrom 12 = .ok (.getfield 19, 3) := by decide +kernel
theorem dX7_copyFrom_15 : decode cX7_copyFrom 15 = .ok (.aload_n 1, 1) := by decide +kernel
theorem dX7_copyFrom_16 : decode cX7_copyFrom 16 = .ok (.getfield 19, 3) := by decide +kernel
theorem dX7_copyFrom_19 : decode cX7_copyFrom 19 = .ok (.invokevirtual 34, 3) := by decide +kernel
theorem dX7_copyFrom_22 : decode cX7_copyFrom 22 = .ok (.aload_n 0, 1) := by decide +kernel
theorem dX7_copyFrom_23 : decode cX7_copyFrom 23 = .ok (.aload_n 1, 1) := by decide +kernel
theorem dX7_copyFrom_24 : decode cX7_copyFrom 24 = .ok (.getfield 26, 3) := by decide +kernel
theorem dX7_copyFrom_27 : decode cX7_copyFrom 27 = .ok (.putfield 26, 3) := by decide +kernel
theorem dX7_copyFrom_30 : decode cX7_copyFrom 30 = .ok (.aload_n 0, 1) := by decide +kernel
theorem dX7_copyFrom_31 : decode cX7_copyFrom 31 = .ok (.aload_n 1, 1) := by decide +kernel
theorem dX7_copyFrom_32 : decode cX7_copyFrom 32 = .ok (.getfield 37, 3) := by decide +kernel
theorem dX7_copyFrom_35 : decode cX7_copyFrom 35 = .ok (.putfield 37, 3) := by decide +kernel
theorem dX7_copyFrom_38 : decode cX7_copyFrom 38 = .ok (.aload_n 0, 1) := by decide +kernel
theorem dX7_copyFrom_39 : decode cX7_copyFrom 39 = .ok (.aload_n 1, 1) := by decide +kernel
theorem dX7_copyFrom_40 : decode cX7_copyFrom 40 = .ok (.getfield 41, 3) := by decide +kernel
theorem dX7_copyFrom_43 : decode cX7_copyFrom 43 = .ok (.putfield 41, 3) := by decide +kernel
theorem dX7_copyFrom_46 : decode cX7_copyFrom 46 = .ok (.return_, 1) := by decide +kernel
theorem dX8_init_0 : decode cX8_init 0 = .ok (.aload_n 0, 1) := by decide +kernel
theorem dX8_init_1 : decode cX8_init 1 = .ok (.invokespecial 3, 3) := by decide +kernel
theorem dX8_init_4 : decode cX8_init 4 = .ok (.aload_n 0, 1) := by decide +kernel
theorem dX8_init_5 : decode cX8_init 5 = .ok (.bipush 60, 2) := by decide +kernel
theorem dX8_init_7 : decode cX8_init 7 = .ok (.newarray .char, 2) := by decide +kernel
theorem dX8_init_9 : decode cX8_init 9 = .ok (.putfield 9, 3) := by decide +kernel
theorem dX8_init_12 : decode cX8_init 12 = .ok (.return_, 1) := by decide +kernel
theorem dX8_append_0 : decode cX8_append 0 = .ok (.aload_n 0, 1) := by decide +kernel
theorem dX8_append_1 : decode cX8_append 1 = .ok (.getfield 15, 3) := by decide +kernel
theorem dX8_append_4 : decode cX8_append 4 = .ok (.ifCond .lt 12, 3) := by decide +kernel
theorem dX8_append_7 : decode cX8_append 7 = .ok (.aload_n 0, 1) := by decide +kernel
theorem dX8_append_8 : decode cX8_append 8 = .ok (.getfield 15, 3) := by decide +kernel
theorem dX8_append_11 : decode cX8_append 11 = .ok (.bipush 60, 2) := by decide +kernel
theorem dX8_append_13 : decode cX8_append 13 = .ok (.if_icmp .lt 5, 3) := by decide +kernel
theorem dX8_append_16 : decode cX8_append 16 = .ok (.iconst 0, 1) := by decide +kernel
theorem dX8_append_17 : decode cX8_append 17 = .ok (.ireturn, 1) := by decide +kernel
theorem dX8_append_18 : decode cX8_append 18 = .ok (.aload_n 0, 1) := by decide +kernel
theorem dX8_append_19 : decode cX8_append 19 = .ok (.getfield 9, 3) := by decide +kernel
theorem dX8_append_22 : decode cX8_append 22 = .ok (.aload_n 0, 1) := by decide +kernel
theorem dX8_append_23 : decode cX8_append 23 = .ok (.getfield 15, 3) := by decide +kernel
theorem dX8_append_26 : decode cX8_append 26 = .ok (.iload_n 1, 1) := by decide +kernel
theorem dX8_append_27 : decode cX8_append 27 = .ok (.castore, 1) := by decide +kernel
theorem dX8_append_28 : decode cX8_append 28 = .ok (.aload_n 0, 1) := by decide +kernel
theorem dX8_append_29 : decode cX8_append 29 = .ok (.dup, 1) := by decide +kernel
theorem dX8_append_30 : decode cX8_append 30 = .ok (.getfield 15, 3) := by decide +kernel
theorem dX8_append_33 : decode cX8_append 33 = .ok (.iconst 1, 1) := by decide +kernel
theorem dX8_append_34 : decode cX8_append 34 = .ok (.iadd, 1) := by decide +kernel
theorem dX8_append_35 : decode cX8_append 35 = .ok (.putfield 15, 3) := by decide +kernel
theorem dX8_append_38 : decode cX8_append 38 = .ok (.iconst 1, 1) := by decide +kernel
theorem dX8_append_39 : decode cX8_append 39 = .ok (.ireturn, 1) := by decide +kernel
theorem dX8_at_0 : decode cX8_at 0 = .ok (.iload_n 1, 1) := by decide +kernel
theorem dX8_at_1 : decode cX8_at 1 = .ok (.ifCond .lt 26, 3) := by decide +kernel
theorem dX8_at_4 : decode cX8_at 4 = .ok (.iload_n 1, 1) := by decide +kernel
theorem dX8_at_5 : decode cX8_at 5 = .ok (.aload_n 0, 1) := by decide +kernel
theorem dX8_at_6 : decode cX8_at 6 = .ok (.getfield 15, 3) := by decide +kernel
theorem dX8_at_9 : decode cX8_at 9 = .ok (.if_icmp .ge 18, 3) := by decide +kernel
theorem dX8_at_12 : decode cX8_at 12 = .ok (.iload_n 1, 1) := by decide +kernel
theorem dX8_at_13 : decode cX8_at 13 = .ok (.bipush 60, 2) := by decide +kernel
theorem dX8_at_15 : decode cX8_at 15 = .ok (.if_icmp .ge 12, 3) := by decide +kernel
theorem dX8_at_18 : decode cX8_at 18 = .ok (.aload_n 0, 1) := by decide +kernel
theorem dX8_at_19 : decode cX8_at 19 = .ok (.getfield 9, 3) := by decide +kernel
theorem dX8_at_22 : decode cX8_at 22 = .ok (.iload_n 1, 1) := by decide +kernel
theorem dX8_at_23 : decode cX8_at 23 = .ok (.caload, 1) := by decide +kernel
theorem dX8_at_24 : decode cX8_at 24 = .ok (.goto 4, 3) := by decide +kernel
theorem dX8_at_27 : decode cX8_at 27 = .ok (.iconst 0, 1) := by decide +kernel
theorem dX8_at_28 : decode cX8_at 28 = .ok (.ireturn, 1) := by decide +kernel
theorem dX9_init_0 : decode cX9_init 0 = .ok (.aload_n 0, 1) := by decide +kernel
theorem dX9_init_1 : decode cX9_init 1 = .ok (.invokespecial 3, 3) := by decide +kernel
theorem dX9_init_4 : decode cX9_init 4 = .ok (.aload_n 0, 1) := by decide +kernel
theorem dX9_init_5 : decode cX9_init 5 = .ok (.iconst 2, 1) := by decide +kernel
theorem dX9_init_6 : decode cX9_init 6 = .ok (.putfield 9, 3) := by decide +kernel
theorem dX9_init_9 : decode cX9_init 9 = .ok (.aload_n 0, 1) := by decide +kernel
theorem dX9_init_10 : decode cX9_init 10 = .ok (.iconst 3, 1) := by decide +kernel
theorem dX9_init_11 : decode cX9_init 11 = .ok (.newarray .int, 2) := by decide +kernel
theorem dX9_init_13 : decode cX9_init 13 = .ok (.putfield 15, 3) := by decide +kernel
theorem dX9_init_16 : decode cX9_init 16 = .ok (.aload_n 0, 1) := by decide +kernel
theorem dX9_init_17 : decode cX9_init 17 = .ok (.iconst 2, 1) := by decide +kernel
theorem dX9_init_18 : decode cX9_init 18 = .ok (.newarray .int, 2) := by decide +kernel
theorem dX9_init_20 : decode cX9_init 20 = .ok (.putfield 19, 3) := by decide +kernel
theorem dX9_init_23 : decode cX9_init 23 = .ok (.return_, 1) := by decide +kernel
theorem dX9_begin_0 : decode cX9_begin 0 = .ok (.aload_n 0, 1) := by decide +kernel
theorem dX9_begin_1 : decode cX9_begin 1 = .ok (.iload_n 1, 1) := by decide +kernel
theorem dX9_begin_2 : decode cX9_begin 2 = .ok (.putfield 9, 3) := by decide +kernel
theorem dX9_begin_5 : decode cX9_begin 5 = .ok (.iconst 0, 1) := by decide +kernel
theorem dX9_begin_6 : decode cX9_begin 6 = .ok (.istore_n 2, 1) := by decide +kernel
theorem dX9_begin_7 : decode cX9_begin 7 = .ok (.iload_n 2, 1) := by decide +kernel
theorem dX9_begin_8 : decode cX9_begin 8 = .ok (.iconst 3, 1) := by decide +kernel
theorem dX9_begin_9 : decode cX9_begin 9 = .ok (.if_icmp .ge 16, 3) := by decide +kernel
theorem dX9_begin_12 : decode cX9_begin 12 = .ok (.aload_n 0, 1) := by decide +kernel
theorem dX9_begin_13 : decode cX9_begin 13 = .ok (.getfield 15, 3) := by decide +kernel
theorem dX9_begin_16 : decode cX9_begin 16 = .ok (.iload_n 2, 1) := by decide +kernel
theorem dX9_begin_17 : decode cX9_begin 17 = .ok (.iconst 0, 1) := by decide +kernel
theorem dX9_begin_18 : decode cX9_begin 18 = .ok (.iastore, 1) := by decide +kernel
theorem dX9_begin_19 : decode cX9_begin 19 = .ok (.iinc 2 1, 3) := by decide +kernel
theorem dX9_begin_22 : decode cX9_begin 22 = .ok (.goto (-15), 3) := by decide +kernel
theorem dX9_begin_25 : decode cX9_begin 25 = .ok (.iconst 0, 1) := by decide +kernel
theorem dX9_begin_26 : decode cX9_begin 26 = .ok (.istore_n 2, 1) := by decide +kernel
theorem dX9_begin_27 : decode cX9_begin 27 = .ok (.iload_n 2, 1) := by decide +kernel
theorem dX9_begin_28 : decode cX9_begin 28 = .ok (.iconst 2, 1) := by decide +kernel
theorem dX9_begin_29 : decode cX9_begin 29 = .ok (.if_icmp .ge 16, 3) := by decide +kernel
theorem dX9_begin_32 : decode cX9_begin 32 = .ok (.aload_n 0, 1) := by decide +kernel
theorem dX9_begin_33 : decode cX9_begin 33 = .ok (.getfield 19, 3) := by decide +kernel
theorem dX9_begin_36 : decode cX9_begin 36 = .ok (.iload_n 2, 1) := by decide +kernel
theorem dX9_begin_37 : decode cX9_begin 37 = .ok (.iconst 0, 1) := by decide +kernel
theorem dX9_begin_38 : decode cX9_begin 38 = .ok (.iastore, 1) := by decide +kernel
theorem dX9_begin_39 : decode cX9_begin 39 = .ok (.iinc 2 1, 3) := by decide +kernel
theorem dX9_begin_42 : decode cX9_begin 42 = .ok (.goto (-15), 3) := by decide +kernel
theorem dX9_begin_45 : decode cX9_begin 45 = .ok (.return_, 1) := by decide +kernel
theorem dX9_copyFrom_0 : decode cX9_copyFrom 0 = .ok (.aload_n 0, 1) := by decide +kernel
theorem dX9_copyFrom_1 : decode cX9_copyFrom 1 = .ok (.aload_n 1, 1) := by decide +kernel
theorem dX9_copyFrom_2 : decode cX9_copyFrom 2 = .ok (.getfield 9, 3) := by decide +kernel
theorem dX9_copyFrom_5 : decode cX9_copyFrom 5 = .ok (.putfield 9, 3) := by decide +kernel
theorem dX9_copyFrom_8 : decode cX9_copyFrom 8 = .ok (.iconst 0, 1) := by decide +kernel
theorem dX9_copyFrom_9 : decode cX9_copyFrom 9 = .ok (.istore_n 2, 1) := by decide +kernel
theorem dX9_copyFrom_10 : decode cX9_copyFrom 10 = .ok (.iload_n 2, 1) := by decide +kernel
theorem dX9_copyFrom_11 : decode cX9_copyFrom 11 = .ok (.iconst 3, 1) := by decide +kernel
theorem dX9_copyFrom_12 : decode cX9_copyFrom 12 = .ok (.if_icmp .ge 21, 3) := by decide +kernel
theorem dX9_copyFrom_15 : decode cX9_copyFrom 15 = .ok (.aload_n 0, 1) := by decide +kernel
theorem dX9_copyFrom_16 : decode cX9_copyFrom 16 = .ok (.getfield 15, 3) := by decide +kernel
theorem dX9_copyFrom_19 : decode cX9_copyFrom 19 = .ok (.iload_n 2, 1) := by decide +kernel
theorem dX9_copyFrom_20 : decode cX9_copyFrom 20 = .ok (.aload_n 1, 1) := by decide +kernel
theorem dX9_copyFrom_21 : decode cX9_copyFrom 21 = .ok (.getfield 15, 3) := by decide +kernel
theorem dX9_copyFrom_24 : decode cX9_copyFrom 24 = .ok (.iload_n 2, 1) := by decide +kernel
theorem dX9_copyFrom_25 : decode cX9_copyFrom 25 = .ok (.iaload, 1) := by decide +kernel
theorem dX9_copyFrom_26 : decode cX9_copyFrom 26 = .ok (.iastore, 1) := by decide +kernel
theorem dX9_copyFrom_27 : decode cX9_copyFrom 27 = .ok (.iinc 2 1, 3) := by decide +kernel
theorem dX9_copyFrom_30 : decode cX9_copyFrom 30 = .ok (.goto (-20), 3) := by decide +kernel
theorem dX9_copyFrom_33 : decode cX9_copyFrom 33 = .ok (.iconst 0, 1) := by decide +kernel
theorem dX9_copyFrom_34 : decode cX9_copyFrom 34 = .ok (.istore_n 2, 1) := by decide +kernel
theorem dX9_copyFrom_35 : decode cX9_copyFrom 35 = .ok (.iload_n 2, 1) := by decide +kernel
theorem dX9_copyFrom_36 : decode cX9_copyFrom 36 = .ok (.iconst 2, 1) := by decide +kernel
theorem dX9_copyFrom_37 : decode cX9_copyFrom 37 = .ok (.if_icmp .ge 21, 3) := by decide +kernel
theorem dX9_copyFrom_40 : decode cX9_copyFrom 40 = .ok (.aload_n 0, 1) := by decide +kernel
theorem dX9_copyFrom_41 : decode cX9_copyFrom 41 = .ok (.getfield 19, 3) := by decide +kernel
theorem dX9_copyFrom_44 : decode cX9_copyFrom 44 = .ok (.iload_n 2, 1) := by decide +kernel
theorem dX9_copyFrom_45 : decode cX9_copyFrom 45 = .ok (.aload_n 1, 1) := by decide +kernel
theorem dX9_copyFrom_46 : decode cX9_copyFrom 46 = .ok (.getfield 19, 3) := by decide +kernel
theorem dX9_copyFrom_49 : decode cX9_copyFrom 49 = .ok (.iload_n 2, 1) := by decide +kernel
theorem dX9_copyFrom_50 : decode cX9_copyFrom 50 = .ok (.iaload, 1) := by decide +kernel
theorem dX9_copyFrom_51 : decode cX9_copyFrom 51 = .ok (.iastore, 1) := by decide +kernel
theorem dX9_copyFrom_52 : decode cX9_copyFrom 52 = .ok (.iinc 2 1, 3) := by decide +kernel
theorem dX9_copyFrom_55 : decode cX9_copyFrom 55 = .ok (.goto (-20), 3) := by decide +kernel
theorem dX9_copyFrom_58 : decode cX9_copyFrom 58 = .ok (.return_, 1) := by decide +kernel
theorem dX9_everybody_0 : decode cX9_everybody 0 = .ok (.iconst 1, 1) := by decide +kernel
theorem dX9_everybody_1 : decode cX9_everybody 1 = .ok (.aload_n 0, 1) := by decide +kernel
theorem dX9_everybody_2 : decode cX9_everybody 2 = .ok (.getfield 9, 3) := by decide +kernel
theorem dX9_everybody_5 : decode cX9_everybody 5 = .ok (.ishl, 1) := by decide +kernel
theorem dX9_everybody_6 : decode cX9_everybody 6 = .ok (.iconst 1, 1) := by decide +kernel
theorem dX9_everybody_7 : decode cX9_everybody 7 = .ok (.isub, 1) := by decide +kernel
theorem dX9_everybody_8 : decode cX9_everybody 8 = .ok (.ireturn, 1) := by decide +kernel
theorem dX9_setOf_0 : decode cX9_setOf 0 = .ok (.iload_n 1, 1) := by decide +kernel
theorem dX9_setOf_1 : decode cX9_setOf 1 = .ok (.invokestatic 22, 3) := by decide +kernel
theorem dX9_setOf_4 : decode cX9_setOf 4 = .ok (.ifCond .eq 12, 3) := by decide +kernel
theorem dX9_setOf_7 : decode cX9_setOf 7 = .ok (.aload_n 0, 1) := by decide +kernel
theorem dX9_setOf_8 : decode cX9_setOf 8 = .ok (.getfield 15, 3) := by decide +kernel
theorem dX9_setOf_11 : decode cX9_setOf 11 = .ok (.iload_n 1, 1) := by decide +kernel
theorem dX9_setOf_12 : decode cX9_setOf 12 = .ok (.iaload, 1) := by decide +kernel
theorem dX9_setOf_13 : decode cX9_setOf 13 = .ok (.goto 4, 3) := by decide +kernel
theorem dX9_setOf_16 : decode cX9_setOf 16 = .ok (.iconst 0, 1) := by decide +kernel
theorem dX9_setOf_17 : decode cX9_setOf 17 = .ok (.ireturn, 1) := by decide +kernel
theorem dX9_giveSet_0 : decode cX9_giveSet 0 = .ok (.iload_n 1, 1) := by decide +kernel
theorem dX9_giveSet_1 : decode cX9_giveSet 1 = .ok (.invokestatic 22, 3) := by decide +kernel
theorem dX9_giveSet_4 : decode cX9_giveSet 4 = .ok (.ifCond .eq 10, 3) := by decide +kernel
theorem dX9_giveSet_7 : decode cX9_giveSet 7 = .ok (.aload_n 0, 1) := by decide +kernel
theorem dX9_giveSet_8 : decode cX9_giveSet 8 = .ok (.getfield 15, 3) := by decide +kernel
theorem dX9_giveSet_11 : decode cX9_giveSet 11 = .ok (.iload_n 1, 1) := by decide +kernel
theorem dX9_giveSet_12 : decode cX9_giveSet 12 = .ok (.iload_n 2, 1) := by decide +kernel
theorem dX9_giveSet_13 : decode cX9_giveSet 13 = .ok (.iastore, 1) := by decide +kernel
theorem dX9_giveSet_14 : decode cX9_giveSet 14 = .ok (.return_, 1) := by decide +kernel
theorem dX9_hasPair_0 : decode cX9_hasPair 0 = .ok (.iload_n 1, 1) := by decide +kernel
theorem dX9_hasPair_1 : decode cX9_hasPair 1 = .ok (.invokestatic 26, 3) := by decide +kernel
theorem dX9_hasPair_4 : decode cX9_hasPair 4 = .ok (.ifCond .eq 24, 3) := by decide +kernel
theorem dX9_hasPair_7 : decode cX9_hasPair 7 = .ok (.aload_n 0, 1) := by decide +kernel
theorem dX9_hasPair_8 : decode cX9_hasPair 8 = .ok (.getfield 19, 3) := by decide +kernel
theorem dX9_hasPair_11 : decode cX9_hasPair 11 = .ok (.iload_n 1, 1) := by decide +kernel
theorem dX9_hasPair_12 : decode cX9_hasPair 12 = .ok (.iaload, 1) := by decide +kernel
theorem dX9_hasPair_13 : decode cX9_hasPair 13 = .ok (.iconst 3, 1) := by decide +kernel
theorem dX9_hasPair_14 : decode cX9_hasPair 14 = .ok (.iload_n 2, 1) := by decide +kernel
theorem dX9_hasPair_15 : decode cX9_hasPair 15 = .ok (.imul, 1) := by decide +kernel
theorem dX9_hasPair_16 : decode cX9_hasPair 16 = .ok (.iload_n 3, 1) := by decide +kernel
theorem dX9_hasPair_17 : decode cX9_hasPair 17 = .ok (.iadd, 1) := by decide +kernel
theorem dX9_hasPair_18 : decode cX9_hasPair 18 = .ok (.iushr, 1) := by decide +kernel
theorem dX9_hasPair_19 : decode cX9_hasPair 19 = .ok (.iconst 1, 1) := by decide +kernel
theorem dX9_hasPair_20 : decode cX9_hasPair 20 = .ok (.iand, 1) := by decide +kernel
theorem dX9_hasPair_21 : decode cX9_hasPair 21 = .ok (.ifCond .eq 7, 3) := by decide +kernel
theorem dX9_hasPair_24 : decode cX9_hasPair 24 = .ok (.iconst 1, 1) := by decide +kernel
theorem dX9_hasPair_25 : decode cX9_hasPair 25 = .ok (.goto 4, 3) := by decide +kernel
theorem dX9_hasPair_28 : decode cX9_hasPair 28 = .ok (.iconst 0, 1) := by decide +kernel
theorem dX9_hasPair_29 : decode cX9_hasPair 29 = .ok (.ireturn, 1) := by decide +kernel
theorem dX9_putPair_0 : decode cX9_putPair 0 = .ok (.iload_n 1, 1) := by decide +kernel
theorem dX9_putPair_1 : decode cX9_putPair 1 = .ok (.invokestatic 26, 3) := by decide +kernel
theorem dX9_putPair_4 : decode cX9_putPair 4 = .ok (.ifCond .eq 46, 3) := by decide +kernel
theorem dX9_putPair_7 : decode cX9_putPair 7 = .ok (.iconst 1, 1) := by decide +kernel
theorem dX9_putPair_8 : decode cX9_putPair 8 = .ok (.iconst 3, 1) := by decide +kernel
theorem dX9_putPair_9 : decode cX9_putPair 9 = .ok (.iload_n 2, 1) := by decide +kernel
theorem dX9_putPair_10 : decode cX9_putPair 10 = .ok (.imul, 1) := by decide +kernel
theorem dX9_putPair_11 : decode cX9_putPair 11 = .ok (.iload_n 3, 1) := by decide +kernel
theorem dX9_putPair_12 : decode cX9_putPair 12 = .ok (.iadd, 1) := by decide +kernel
theorem dX9_putPair_13 : decode cX9_putPair 13 = .ok (.ishl, 1) := by decide +kernel
theorem dX9_putPair_14 : decode cX9_putPair 14 = .ok (.istore 5, 2) := by decide +kernel
theorem dX9_putPair_16 : decode cX9_putPair 16 = .ok (.aload_n 0, 1) := by decide +kernel
theorem dX9_putPair_17 : decode cX9_putPair 17 = .ok (.getfield 19, 3) := by decide +kernel
theorem dX9_putPair_20 : decode cX9_putPair 20 = .ok (.iload_n 1, 1) := by decide +kernel
theorem dX9_putPair_21 : decode cX9_putPair 21 = .ok (.iload 4, 2) := by decide +kernel
theorem dX9_putPair_23 : decode cX9_putPair 23 = .ok (.ifCond .eq 15, 3) := by decide +kernel
theorem dX9_putPair_26 : decode cX9_putPair 26 = .ok (.aload_n 0, 1) := by decide +kernel
theorem dX9_putPair_27 : decode cX9_putPair 27 = .ok (.getfield 19, 3) := by decide +kernel
theorem dX9_putPair_30 : decode cX9_putPair 30 = .ok (.iload_n 1, 1) := by decide +kernel
theorem dX9_putPair_31 : decode cX9_putPair 31 = .ok (.iaload, 1) := by decide +kernel
theorem dX9_putPair_32 : decode cX9_putPair 32 = .ok (.iload 5, 2) := by decide +kernel
theorem dX9_putPair_34 : decode cX9_putPair 34 = .ok (.ior, 1) := by decide +kernel
theorem dX9_putPair_35 : decode cX9_putPair 35 = .ok (.goto 14, 3) := by decide +kernel
theorem dX9_putPair_38 : decode cX9_putPair 38 = .ok (.aload_n 0, 1) := by decide +kernel
theorem dX9_putPair_39 : decode cX9_putPair 39 = .ok (.getfield 19, 3) := by decide +kernel
theorem dX9_putPair_42 : decode cX9_putPair 42 = .ok (.iload_n 1, 1) := by decide +kernel
theorem dX9_putPair_43 : decode cX9_putPair 43 = .ok (.iaload, 1) := by decide +kernel
theorem dX9_putPair_44 : decode cX9_putPair 44 = .ok (.iload 5, 2) := by decide +kernel
theorem dX9_putPair_46 : decode cX9_putPair 46 = .ok (.iconst (-1), 1) := by decide +kernel
theorem dX9_putPair_47 : decode cX9_putPair 47 = .ok (.ixor, 1) := by decide +kernel
theorem dX9_putPair_48 : decode cX9_putPair 48 = .ok (.iand, 1) := by decide +kernel
theorem dX9_putPair_49 : decode cX9_putPair 49 = .ok (.iastore, 1) := by decide +kernel
theorem dX9_putPair_50 : decode cX9_putPair 50 = .ok (.return_, 1) := by decide +kernel
theorem dX9_relates_0 : decode cX9_relates 0 = .ok (.iload_n 1, 1) := by decide +kernel
theorem dX9_relates_1 : decode cX9_relates 1 = .ok (.invokestatic 26, 3) := by decide +kernel
theorem dX9_relates_4 : decode cX9_relates 4 = .ok (.ifCond .ne 5, 3) := by decide +kernel
theorem dX9_relates_7 : decode cX9_relates 7 = .ok (.iconst 0, 1) := by decide +kernel
theorem dX9_relates_8 : decode cX9_relates 8 = .ok (.ireturn, 1) := by decide +kernel
theorem dX9_relates_9 : decode cX9_relates 9 = .ok (.iconst 0, 1) := by decide +kernel
theorem dX9_relates_10 : decode cX9_relates 10 = .ok (.istore 4, 2) := by decide +kernel
theorem dX9_relates_12 : decode cX9_relates 12 = .ok (.iconst 0, 1) := by decide +kernel
theorem dX9_relates_13 : decode cX9_relates 13 = .ok (.istore 5, 2) := by decide +kernel
theorem dX9_relates_15 : decode cX9_relates 15 = .ok (.iload 5, 2) := by decide +kernel
theorem dX9_relates_17 : decode cX9_relates 17 = .ok (.iconst 3, 1) := by decide +kernel
theorem dX9_relates_18 : decode cX9_relates 18 = .ok (.if_icmp .ge 47, 3) := by decide +kernel
theorem dX9_relates_21 : decode cX9_relates 21 = .ok (.iload_n 2, 1) := by decide +kernel
theorem dX9_relates_22 : decode cX9_relates 22 = .ok (.iload 5, 2) := by decide +kernel
theorem dX9_relates_24 : decode cX9_relates 24 = .ok (.iushr, 1) := by decide +kernel
theorem dX9_relates_25 : decode cX9_relates 25 = .ok (.iconst 1, 1) := by decide +kernel
theorem dX9_relates_26 : decode cX9_relates 26 = .ok (.iand, 1) := by decide +kernel
theorem dX9_relates_27 : decode cX9_relates 27 = .ok (.ifCond .eq 32, 3) := by decide +kernel
theorem dX9_relates_30 : decode cX9_relates 30 = .ok (.aload_n 0, 1) := by decide +kernel
theorem dX9_relates_31 : decode cX9_relates 31 = .ok (.getfield 19, 3) := by decide +kernel
theorem dX9_relates_34 : decode cX9_relates 34 = .ok (.iload_n 1, 1) := by decide +kernel
theorem dX9_relates_35 : decode cX9_relates 35 = .ok (.iaload, 1) := by decide +kernel
theorem dX9_relates_36 : decode cX9_relates 36 = .ok (.iconst 3, 1) := by decide +kernel
theorem dX9_relates_37 : decode cX9_relates 37 = .ok (.iload 5, 2) := by decide +kernel
theorem dX9_relates_39 : decode cX9_relates 39 = .ok (.imul, 1) := by decide +kernel
theorem dX9_relates_40 : decode cX9_relates 40 = .ok (.iushr, 1) := by decide +kernel
theorem dX9_relates_41 : decode cX9_relates 41 = .ok (.iload_n 3, 1) := by decide +kernel
theorem dX9_relates_42 : decode cX9_relates 42 = .ok (.iand, 1) := by decide +kernel
theorem dX9_relates_43 : decode cX9_relates 43 = .ok (.istore 6, 2) := by decide +kernel
theorem dX9_relates_45 : decode cX9_relates 45 = .ok (.iload 6, 2) := by decide +kernel
theorem dX9_relates_47 : decode cX9_relates 47 = .ok (.ifCond .ne 5, 3) := by decide +kernel
theorem dX9_relates_50 : decode cX9_relates 50 = .ok (.iconst 0, 1) := by decide +kernel
theorem dX9_relates_51 : decode cX9_relates 51 = .ok (.ireturn, 1) := by decide +kernel
theorem dX9_relates_52 : decode cX9_relates 52 = .ok (.iload 4, 2) := by decide +kernel
theorem dX9_relates_54 : decode cX9_relates 54 = .ok (.iload 6, 2) := by decide +kernel
theorem dX9_relates_56 : decode cX9_relates 56 = .ok (.ior, 1) := by decide +kernel
theorem dX9_relates_57 : decode cX9_relates 57 = .ok (.istore 4, 2) := by decide +kernel
theorem dX9_relates_59 : decode cX9_relates 59 = .ok (.iinc 5 1, 3) := by decide +kernel
theorem dX9_relates_62 : decode cX9_relates 62 = .ok (.goto (-47), 3) := by decide +kernel
theorem dX9_relates_65 : decode cX9_relates 65 = .ok (.iload 4, 2) := by decide +kernel
theorem dX9_relates_67 : decode cX9_relates 67 = .ok (.iload_n 3, 1) := by decide +kernel
theorem dX9_relates_68 : decode cX9_relates 68 = .ok (.if_icmp .ne 7, 3) := by decide +kernel
theorem dX9_relates_71 : decode cX9_relates 71 = .ok (.iconst 1, 1) := by decide +kernel
theorem dX9_relates_72 : decode cX9_relates 72 = .ok (.goto 4, 3) := by decide +kernel
theorem dX9_relates_75 : decode cX9_relates 75 = .ok (.iconst 0, 1) := by decide +kernel
theorem dX9_relates_76 : decode cX9_relates 76 = .ok (.ireturn, 1) := by decide +kernel
theorem dX10_init_0 : decode cX10_init 0 = .ok (.aload_n 0, 1) := by decide +kernel
theorem dX10_init_1 : decode cX10_init 1 = .ok (.invokespecial 1, 3) := by decide +kernel
theorem dX10_init_4 : decode cX10_init 4 = .ok (.aload_n 0, 1) := by decide +kernel
theorem dX10_init_5 : decode cX10_init 5 = .ok (.new 7, 3) := by decide +kernel
theorem dX10_init_8 : decode cX10_init 8 = .ok (.dup, 1) := by decide +kernel
theorem dX10_init_9 : decode cX10_init 9 = .ok (.invokespecial 9, 3) := by decide +kernel
theorem dX10_init_12 : decode cX10_init 12 = .ok (.putfield 10, 3) := by decide +kernel
theorem dX10_init_15 : decode cX10_init 15 = .ok (.aload_n 0, 1) := by decide +kernel
theorem dX10_init_16 : decode cX10_init 16 = .ok (.new 16, 3) := by decide +kernel
theorem dX10_init_19 : decode cX10_init 19 = .ok (.dup, 1) := by decide +kernel
theorem dX10_init_20 : decode cX10_init 20 = .ok (.invokespecial 18, 3) := by decide +kernel
theorem dX10_init_23 : decode cX10_init 23 = .ok (.putfield 19, 3) := by decide +kernel
theorem dX10_init_26 : decode cX10_init 26 = .ok (.aload_n 0, 1) := by decide +kernel
theorem dX10_init_27 : decode cX10_init 27 = .ok (.new 23, 3) := by decide +kernel
theorem dX10_init_30 : decode cX10_init 30 = .ok (.dup, 1) := by decide +kernel
theorem dX10_init_31 : decode cX10_init 31 = .ok (.invokespecial 25, 3) := by decide +kernel
theorem dX10_init_34 : decode cX10_init 34 = .ok (.putfield 26, 3) := by decide +kernel
theorem dX10_init_37 : decode cX10_init 37 = .ok (.aload_n 0, 1) := by decide +kernel
theorem dX10_init_38 : decode cX10_init 38 = .ok (.new 30, 3) := by decide +kernel
theorem dX10_init_41 : decode cX10_init 41 = .ok (.dup, 1) := by decide +kernel
theorem dX10_init_42 : decode cX10_init 42 = .ok (.aload_n 0, 1) := by decide +kernel
theorem dX10_init_43 : decode cX10_init 43 = .ok (.getfield 26, 3) := by decide +kernel
theorem dX10_init_46 : decode cX10_init 46 = .ok (.invokespecial 32, 3) := by decide +kernel
theorem dX10_init_49 : decode cX10_init 49 = .ok (.putfield 35, 3) := by decide +kernel
theorem dX10_init_52 : decode cX10_init 52 = .ok (.aload_n 0, 1) := by decide +kernel
theorem dX10_init_53 : decode cX10_init 53 = .ok (.new 39, 3) := by decide +kernel
theorem dX10_init_56 : decode cX10_init 56 = .ok (.dup, 1) := by decide +kernel
theorem dX10_init_57 : decode cX10_init 57 = .ok (.invokespecial 41, 3) := by decide +kernel
theorem dX10_init_60 : decode cX10_init 60 = .ok (.putfield 42, 3) := by decide +kernel
theorem dX10_init_63 : decode cX10_init 63 = .ok (.aload_n 0, 1) := by decide +kernel
theorem dX10_init_64 : decode cX10_init 64 = .ok (.new 46, 3) := by decide +kernel
theorem dX10_init_67 : decode cX10_init 67 = .ok (.dup, 1) := by decide +kernel
theorem dX10_init_68 : decode cX10_init 68 = .ok (.aload_n 0, 1) := by decide +kernel
theorem dX10_init_69 : decode cX10_init 69 = .ok (.getfield 10, 3) := by decide +kernel
theorem dX10_init_72 : decode cX10_init 72 = .ok (.getfield 48, 3) := by decide +kernel
theorem dX10_init_75 : decode cX10_init 75 = .ok (.invokespecial 52, 3) := by decide +kernel
theorem dX10_init_78 : decode cX10_init 78 = .ok (.putfield 55, 3) := by decide +kernel
theorem dX10_init_81 : decode cX10_init 81 = .ok (.aload_n 0, 1) := by decide +kernel
theorem dX10_init_82 : decode cX10_init 82 = .ok (.new 59, 3) := by decide +kernel
theorem dX10_init_85 : decode cX10_init 85 = .ok (.dup, 1) := by decide +kernel
theorem dX10_init_86 : decode cX10_init 86 = .ok (.aload_n 0, 1) := by decide +kernel
theorem dX10_init_87 : decode cX10_init 87 = .ok (.getfield 55, 3) := by decide +kernel
theorem dX10_init_90 : decode cX10_init 90 = .ok (.invokespecial 61, 3) := by decide +kernel
theorem dX10_init_93 : decode cX10_init 93 = .ok (.putfield 64, 3) := by decide +kernel
theorem dX10_init_96 : decode cX10_init 96 = .ok (.aload_n 0, 1) := by decide +kernel
theorem dX10_init_97 : decode cX10_init 97 = .ok (.new 68, 3) := by decide +kernel
theorem dX10_init_100 : decode cX10_init 100 = .ok (.dup, 1) := by decide +kernel
theorem dX10_init_101 : decode cX10_init 101 = .ok (.invokespecial 70, 3) := by decide +kernel
theorem dX10_init_104 : decode cX10_init 104 = .ok (.putfield 71, 3) := by decide +kernel
theorem dX10_init_107 : decode cX10_init 107 = .ok (.aload_n 0, 1) := by decide +kernel
theorem dX10_init_108 : decode cX10_init 108 = .ok (.new 46, 3) := by decide +kernel
theorem dX10_init_111 : decode cX10_init 111 = .ok (.dup, 1) := by decide +kernel
theorem dX10_init_112 : decode cX10_init 112 = .ok (.aload_n 0, 1) := by decide +kernel
theorem dX10_init_113 : decode cX10_init 113 = .ok (.getfield 71, 3) := by decide +kernel
theorem dX10_init_116 : decode cX10_init 116 = .ok (.invokespecial 52, 3) := by decide +kernel
theorem dX10_init_119 : decode cX10_init 119 = .ok (.putfield 74, 3) := by decide +kernel
theorem dX10_init_122 : decode cX10_init 122 = .ok (.aload_n 0, 1) := by decide +kernel
theorem dX10_init_123 : decode cX10_init 123 = .ok (.new 77, 3) := by decide +kernel
theorem dX10_init_126 : decode cX10_init 126 = .ok (.dup, 1) := by decide +kernel
theorem dX10_init_127 : decode cX10_init 127 = .ok (.invokespecial 79, 3) := by decide +kernel
theorem dX10_init_130 : decode cX10_init 130 = .ok (.putfield 80, 3) := by decide +kernel
theorem dX10_init_133 : decode cX10_init 133 = .ok (.return_, 1) := by decide +kernel
theorem dX10_setIndividuals_0 : decode cX10_setIndividuals 0 = .ok (.iload_n 1, 1) := by decide +kernel
theorem dX10_setIndividuals_1 : decode cX10_setIndividuals 1 = .ok (.iconst 1, 1) := by decide +kernel
theorem dX10_setIndividuals_2 : decode cX10_setIndividuals 2 = .ok (.if_icmp .lt 8, 3) := by decide +kernel
theorem dX10_setIndividuals_5 : decode cX10_setIndividuals 5 = .ok (.iload_n 1, 1) := by decide +kernel
theorem dX10_setIndividuals_6 : decode cX10_setIndividuals 6 = .ok (.iconst 3, 1) := by decide +kernel
theorem dX10_setIndividuals_7 : decode cX10_setIndividuals 7 = .ok (.if_icmp .le 5, 3) := by decide +kernel
theorem dX10_setIndividuals_10 : decode cX10_setIndividuals 10 = .ok (.iconst (-1), 1) := by decide +kernel
theorem dX10_setIndividuals_11 : decode cX10_setIndividuals 11 = .ok (.ireturn, 1) := by decide +kernel
theorem dX10_setIndividuals_12 : decode cX10_setIndividuals 12 = .ok (.aload_n 0, 1) := by decide +kernel
theorem dX10_setIndividuals_13 : decode cX10_setIndividuals 13 = .ok (.getfield 10, 3) := by decide +kernel
theorem dX10_setIndividuals_16 : decode cX10_setIndividuals 16 = .ok (.getfield 48, 3) := by decide +kernel
theorem dX10_setIndividuals_19 : decode cX10_setIndividuals 19 = .ok (.getfield 84, 3) := by decide +kernel
theorem dX10_setIndividuals_22 : decode cX10_setIndividuals 22 = .ok (.istore_n 2, 1) := by decide +kernel
theorem dX10_setIndividuals_23 : decode cX10_setIndividuals 23 = .ok (.aload_n 0, 1) := by decide +kernel
theorem dX10_setIndividuals_24 : decode cX10_setIndividuals 24 = .ok (.getfield 19, 3) := by decide +kernel
theorem dX10_setIndividuals_27 : decode cX10_setIndividuals 27 = .ok (.aload_n 0, 1) := by decide +kernel
theorem dX10_setIndividuals_28 : decode cX10_setIndividuals 28 = .ok (.getfield 10, 3) := by decide +kernel
theorem dX10_setIndividuals_31 : decode cX10_setIndividuals 31 = .ok (.invokevirtual 88, 3) := by decide +kernel
theorem dX10_setIndividuals_34 : decode cX10_setIndividuals 34 = .ok (.aload_n 0, 1) := by decide +kernel
theorem dX10_setIndividuals_35 : decode cX10_setIndividuals 35 = .ok (.getfield 10, 3) := by decide +kernel
theorem dX10_setIndividuals_38 : decode cX10_setIndividuals 38 = .ok (.getfield 48, 3) := by decide +kernel
theorem dX10_setIndividuals_41 : decode cX10_setIndividuals 41 = .ok (.iload_n 1, 1) := by decide +kernel
theorem dX10_setIndividuals_42 : decode cX10_setIndividuals 42 = .ok (.invokevirtual 92, 3) := by decide +kernel
theorem dX10_setIndividuals_45 : decode cX10_setIndividuals 45 = .ok (.aload_n 0, 1) := by decide +kernel
theorem dX10_setIndividuals_46 : decode cX10_setIndividuals 46 = .ok (.getfield 10, 3) := by decide +kernel
theorem dX10_setIndividuals_49 : decode cX10_setIndividuals 49 = .ok (.invokevirtual 96, 3) := by decide +kernel
theorem dX10_setIndividuals_52 : decode cX10_setIndividuals 52 = .ok (.iload_n 2, 1) := by decide +kernel
theorem dX10_setIndividuals_53 : decode cX10_setIndividuals 53 = .ok (.ireturn, 1) := by decide +kernel
theorem dX10_setPredicate_0 : decode cX10_setPredicate 0 = .ok (.iload_n 1, 1) := by decide +kernel
theorem dX10_setPredicate_1 : decode cX10_setPredicate 1 = .ok (.invokestatic 99, 3) := by decide +kernel
theorem dX10_setPredicate_4 : decode cX10_setPredicate 4 = .ok (.ifCond .eq 21, 3) := by decide +kernel
theorem dX10_setPredicate_7 : decode cX10_setPredicate 7 = .ok (.iload_n 2, 1) := by decide +kernel
theorem dX10_setPredicate_8 : decode cX10_setPredicate 8 = .ok (.ifCond .lt 17, 3) := by decide +kernel
theorem dX10_setPredicate_11 : decode cX10_setPredicate 11 = .ok (.iload_n 2, 1) := by decide +kernel
theorem dX10_setPredicate_12 : decode cX10_setPredicate 12 = .ok (.aload_n 0, 1) := by decide +kernel
theorem dX10_setPredicate_13 : decode cX10_setPredicate 13 = .ok (.getfield 10, 3) := by decide +kernel
theorem dX10_setPredicate_16 : decode cX10_setPredicate 16 = .ok (.getfield 48, 3) := by decide +kernel
theorem dX10_setPredicate_19 : decode cX10_setPredicate 19 = .ok (.invokevirtual 103, 3) := by decide +kernel
theorem dX10_setPredicate_22 : decode cX10_setPredicate 22 = .ok (.if_icmp .le 5, 3) := by decide +kernel
theorem dX10_setPredicate_25 : decode cX10_setPredicate 25 = .ok (.iconst (-1), 1) := by decide +kernel
theorem dX10_setPredicate_26 : decode cX10_setPredicate 26 = .ok (.ireturn, 1) := by decide +kernel
theorem dX10_setPredicate_27 : decode cX10_setPredicate 27 = .ok (.aload_n 0, 1) := by decide +kernel
theorem dX10_setPredicate_28 : decode cX10_setPredicate 28 = .ok (.getfield 10, 3) := by decide +kernel
theorem dX10_setPredicate_31 : decode cX10_setPredicate 31 = .ok (.getfield 48, 3) := by decide +kernel
theorem dX10_setPredicate_34 : decode cX10_setPredicate 34 = .ok (.iload_n 1, 1) := by decide +kernel
theorem dX10_setPredicate_35 : decode cX10_setPredicate 35 = .ok (.invokevirtual 107, 3) := by decide +kernel
theorem dX10_setPredicate_38 : decode cX10_setPredicate 38 = .ok (.istore_n 3, 1) := by decide +kernel
theorem dX10_setPredicate_39 : decode cX10_setPredicate 39 = .ok (.aload_n 0, 1) := by decide +kernel
theorem dX10_setPredicate_40 : decode cX10_setPredicate 40 = .ok (.getfield 19, 3) := by decide +kernel
theorem dX10_setPredicate_43 : decode cX10_setPredicate 43 = .ok (.aload_n 0, 1) := by decide +kernel
theorem dX10_setPredicate_44 : decode cX10_setPredicate 44 = .ok (.getfield 10, 3) := by decide +kernel
theorem dX10_setPredicate_47 : decode cX10_setPredicate 47 = .ok (.invokevirtual 88, 3) := by decide +kernel
theorem dX10_setPredicate_50 : decode cX10_setPredicate 50 = .ok (.aload_n 0, 1) := by decide +kernel
theorem dX10_setPredicate_51 : decode cX10_setPredicate 51 = .ok (.getfield 10, 3) := by decide +kernel
theorem dX10_setPredicate_54 : decode cX10_setPredicate 54 = .ok (.getfield 48, 3) := by decide +kernel
theorem dX10_setPredicate_57 : decode cX10_setPredicate 57 = .ok (.iload_n 1, 1) := by decide +kernel
theorem dX10_setPredicate_58 : decode cX10_setPredicate 58 = .ok (.iload_n 2, 1) := by decide +kernel
theorem dX10_setPredicate_59 : decode cX10_setPredicate 59 = .ok (.invokevirtual 111, 3) := by decide +kernel
theorem dX10_setPredicate_62 : decode cX10_setPredicate 62 = .ok (.iload_n 3, 1) := by decide +kernel
theorem dX10_setPredicate_63 : decode cX10_setPredicate 63 = .ok (.ireturn, 1) := by decide +kernel
theorem dX10_setPair_0 : decode cX10_setPair 0 = .ok (.iload_n 1, 1) := by decide +kernel
theorem dX10_setPair_1 : decode cX10_setPair 1 = .ok (.invokestatic 115, 3) := by decide +kernel
theorem dX10_setPair_4 : decode cX10_setPair 4 = .ok (.ifCond .eq 27, 3) := by decide +kernel
theorem dX10_setPair_7 : decode cX10_setPair 7 = .ok (.aload_n 0, 1) := by decide +kernel
theorem dX10_setPair_8 : decode cX10_setPair 8 = .ok (.iload_n 2, 1) := by decide +kernel
theorem dX10_setPair_9 : decode cX10_setPair 9 = .ok (.invokevirtual 118, 3) := by decide +kernel
theorem dX10_setPair_12 : decode cX10_setPair 12 = .ok (.ifCond .eq 19, 3) := by decide +kernel
theorem dX10_setPair_15 : decode cX10_setPair 15 = .ok (.aload_n 0, 1) := by decide +kernel
theorem dX10_setPair_16 : decode cX10_setPair 16 = .ok (.iload_n 3, 1) := by decide +kernel
theorem dX10_setPair_17 : decode cX10_setPair 17 = .ok (.invokevirtual 118, 3) := by decide +kernel
theorem dX10_setPair_20 : decode cX10_setPair 20 = .ok (.ifCond .eq 11, 3) := by decide +kernel
theorem dX10_setPair_23 : decode cX10_setPair 23 = .ok (.iload 4, 2) := by decide +kernel
theorem dX10_setPair_25 : decode cX10_setPair 25 = .ok (.invokestatic 121, 3) := by decide +kernel
theorem dX10_setPair_28 : decode cX10_setPair 28 = .ok (.ifCond .ne 5, 3) := by decide +kernel
theorem dX10_setPair_31 : decode cX10_setPair 31 = .ok (.iconst (-1), 1) := by decide +kernel
theorem dX10_setPair_32 : decode cX10_setPair 32 = .ok (.ireturn, 1) := by decide +kernel
theorem dX10_setPair_33 : decode cX10_setPair 33 = .ok (.aload_n 0, 1) := by decide +kernel
theorem dX10_setPair_34 : decode cX10_setPair 34 = .ok (.getfield 10, 3) := by decide +kernel
theorem dX10_setPair_37 : decode cX10_setPair 37 = .ok (.getfield 48, 3) := by decide +kernel
theorem dX10_setPair_40 : decode cX10_setPair 40 = .ok (.iload_n 1, 1) := by decide +kernel
theorem dX10_setPair_41 : decode cX10_setPair 41 = .ok (.iload_n 2, 1) := by decide +kernel
theorem dX10_setPair_42 : decode cX10_setPair 42 = .ok (.iload_n 3, 1) := by decide +kernel
theorem dX10_setPair_43 : decode cX10_setPair 43 = .ok (.invokevirtual 124, 3) := by decide +kernel
theorem dX10_setPair_46 : decode cX10_setPair 46 = .ok (.ifCond .eq 7, 3) := by decide +kernel
theorem dX10_setPair_49 : decode cX10_setPair 49 = .ok (.iconst 1, 1) := by decide +kernel
theorem dX10_setPair_50 : decode cX10_setPair 50 = .ok (.goto 4, 3) := by decide +kernel
theorem dX10_setPair_53 : decode cX10_setPair 53 = .ok (.iconst 0, 1) := by decide +kernel
theorem dX10_setPair_54 : decode cX10_setPair 54 = .ok (.istore 5, 2) := by decide +kernel
theorem dX10_setPair_56 : decode cX10_setPair 56 = .ok (.aload_n 0, 1) := by decide +kernel
theorem dX10_setPair_57 : decode cX10_setPair 57 = .ok (.getfield 19, 3) := by decide +kernel
theorem dX10_setPair_60 : decode cX10_setPair 60 = .ok (.aload_n 0, 1) := by decide +kernel
theorem dX10_setPair_61 : decode cX10_setPair 61 = .ok (.getfield 10, 3) := by decide +kernel
theorem dX10_setPair_64 : decode cX10_setPair 64 = .ok (.invokevirtual 88, 3) := by decide +kernel
theorem dX10_setPair_67 : decode cX10_setPair 67 = .ok (.aload_n 0, 1) := by decide +kernel
theorem dX10_setPair_68 : decode cX10_setPair 68 = .ok (.getfield 10, 3) := by decide +kernel
theorem dX10_setPair_71 : decode cX10_setPair 71 = .ok (.getfield 48, 3) := by decide +kernel
theorem dX10_setPair_74 : decode cX10_setPair 74 = .ok (.iload_n 1, 1) := by decide +kernel
theorem dX10_setPair_75 : decode cX10_setPair 75 = .ok (.iload_n 2, 1) := by decide +kernel
theorem dX10_setPair_76 : decode cX10_setPair 76 = .ok (.iload_n 3, 1) := by decide +kernel
theorem dX10_setPair_77 : decode cX10_setPair 77 = .ok (.iload 4, 2) := by decide +kernel
theorem dX10_setPair_79 : decode cX10_setPair 79 = .ok (.iconst 1, 1) := by decide +kernel
theorem dX10_setPair_80 : decode cX10_setPair 80 = .ok (.if_icmp .ne 7, 3) := by decide +kernel
theorem dX10_setPair_83 : decode cX10_setPair 83 = .ok (.iconst 1, 1) := by decide +kernel
theorem dX10_setPair_84 : decode cX10_setPair 84 = .ok (.goto 4, 3) := by decide +kernel
theorem dX10_setPair_87 : decode cX10_setPair 87 = .ok (.iconst 0, 1) := by decide +kernel
theorem dX10_setPair_88 : decode cX10_setPair 88 = .ok (.invokevirtual 128, 3) := by decide +kernel
theorem dX10_setPair_91 : decode cX10_setPair 91 = .ok (.iload 5, 2) := by decide +kernel
theorem dX10_setPair_93 : decode cX10_setPair 93 = .ok (.ireturn, 1) := by decide +kernel
theorem dX10_individuals_0 : decode cX10_individuals 0 = .ok (.aload_n 0, 1) := by decide +kernel
theorem dX10_individuals_1 : decode cX10_individuals 1 = .ok (.getfield 10, 3) := by decide +kernel
theorem dX10_individuals_4 : decode cX10_individuals 4 = .ok (.getfield 48, 3) := by decide +kernel
theorem dX10_individuals_7 : decode cX10_individuals 7 = .ok (.getfield 84, 3) := by decide +kernel
theorem dX10_individuals_10 : decode cX10_individuals 10 = .ok (.ireturn, 1) := by decide +kernel
theorem dX10_predicate_0 : decode cX10_predicate 0 = .ok (.iload_n 1, 1) := by decide +kernel
theorem dX10_predicate_1 : decode cX10_predicate 1 = .ok (.invokestatic 99, 3) := by decide +kernel
theorem dX10_predicate_4 : decode cX10_predicate 4 = .ok (.ifCond .eq 17, 3) := by decide +kernel
theorem dX10_predicate_7 : decode cX10_predicate 7 = .ok (.aload_n 0, 1) := by decide +kernel
theorem dX10_predicate_8 : decode cX10_predicate 8 = .ok (.getfield 10, 3) := by decide +kernel
theorem dX10_predicate_11 : decode cX10_predicate 11 = .ok (.getfield 48, 3) := by decide +kernel
theorem dX10_predicate_14 : decode cX10_predicate 14 = .ok (.iload_n 1, 1) := by decide +kernel
theorem dX10_predicate_15 : decode cX10_predicate 15 = .ok (.invokevirtual 107, 3) := by decide +kernel
theorem dX10_predicate_18 : decode cX10_predicate 18 = .ok (.goto 4, 3) := by decide +kernel
theorem dX10_predicate_21 : decode cX10_predicate 21 = .ok (.iconst (-1), 1) := by decide +kernel
theorem dX10_predicate_22 : decode cX10_predicate 22 = .ok (.ireturn, 1) := by decide +kernel
theorem dX10_relationHolds_0 : decode cX10_relationHolds 0 = .ok (.iload_n 1, 1) := by decide +kernel
theorem dX10_relationHolds_1 : decode cX10_relationHolds 1 = .ok (.invokestatic 115, 3) := by decide +kernel
theorem dX10_relationHolds_4 : decode cX10_relationHolds 4 = .ok (.ifCond .eq 19, 3) := by decide +kernel
theorem dX10_relationHolds_7 : decode cX10_relationHolds 7 = .ok (.aload_n 0, 1) := by decide +kernel
theorem dX10_relationHolds_8 : decode cX10_relationHolds 8 = .ok (.iload_n 2, 1) := by decide +kernel
theorem dX10_relationHolds_9 : decode cX10_relationHolds 9 = .ok (.invokevirtual 132, 3) := by decide +kernel
theorem dX10_relationHolds_12 : decode cX10_relationHolds 12 = .ok (.ifCond .eq 11, 3) := by decide +kernel
theorem dX10_relationHolds_15 : decode cX10_relationHolds 15 = .ok (.aload_n 0, 1) := by decide +kernel
theorem dX10_relationHolds_16 : decode cX10_relationHolds 16 = .ok (.iload_n 3, 1) := by decide +kernel
theorem dX10_relationHolds_17 : decode cX10_relationHolds 17 = .ok (.invokevirtual 132, 3) := by decide +kernel
theorem dX10_relationHolds_20 : decode cX10_relationHolds 20 = .ok (.ifCond .ne 5, 3) := by decide +kernel
theorem dX10_relationHolds_23 : decode cX10_relationHolds 23 = .ok (.iconst (-1), 1) := by decide +kernel
theorem dX10_relationHolds_24 : decode cX10_relationHolds 24 = .ok (.ireturn, 1) := by decide +kernel
theorem dX10_relationHolds_25 : decode cX10_relationHolds 25 = .ok (.aload_n 0, 1) := by decide +kernel
theorem dX10_relationHolds_26 : decode cX10_relationHolds 26 = .ok (.getfield 10, 3) := by decide +kernel
theorem dX10_relationHolds_29 : decode cX10_relationHolds 29 = .ok (.getfield 48, 3) := by decide +kernel
theorem dX10_relationHolds_32 : decode cX10_relationHolds 32 = .ok (.iload_n 1, 1) := by decide +kernel
theorem dX10_relationHolds_33 : decode cX10_relationHolds 33 = .ok (.iload_n 2, 1) := by decide +kernel
theorem dX10_relationHolds_34 : decode cX10_relationHolds 34 = .ok (.iload_n 3, 1) := by decide +kernel
theorem dX10_relationHolds_35 : decode cX10_relationHolds 35 = .ok (.invokevirtual 135, 3) := by decide +kernel
theorem dX10_relationHolds_38 : decode cX10_relationHolds 38 = .ok (.ifCond .eq 7, 3) := by decide +kernel
theorem dX10_relationHolds_41 : decode cX10_relationHolds 41 = .ok (.iconst 1, 1) := by decide +kernel
theorem dX10_relationHolds_42 : decode cX10_relationHolds 42 = .ok (.goto 4, 3) := by decide +kernel
theorem dX10_relationHolds_45 : decode cX10_relationHolds 45 = .ok (.iconst 0, 1) := by decide +kernel
theorem dX10_relationHolds_46 : decode cX10_relationHolds 46 = .ok (.ireturn, 1) := by decide +kernel
theorem dX10_type_0 : decode cX10_type 0 = .ok (.iload_n 1, 1) := by decide +kernel
theorem dX10_type_1 : decode cX10_type 1 = .ok (.bipush 32, 2) := by decide +kernel
theorem dX10_type_3 : decode cX10_type 3 = .ok (.if_icmp .lt 9, 3) := by decide +kernel
theorem dX10_type_6 : decode cX10_type 6 = .ok (.iload_n 1, 1) := by decide +kernel
theorem dX10_type_7 : decode cX10_type 7 = .ok (.bipush 126, 2) := by decide +kernel
theorem dX10_type_9 : decode cX10_type 9 = .ok (.if_icmp .le 5, 3) := by decide +kernel
theorem dX10_type_12 : decode cX10_type 12 = .ok (.iconst (-1), 1) := by decide +kernel
theorem dX10_type_13 : decode cX10_type 13 = .ok (.ireturn, 1) := by decide +kernel
theorem dX10_type_14 : decode cX10_type 14 = .ok (.aload_n 0, 1) := by decide +kernel
theorem dX10_type_15 : decode cX10_type 15 = .ok (.getfield 26, 3) := by decide +kernel
theorem dX10_type_18 : decode cX10_type 18 = .ok (.iload_n 1, 1) := by decide +kernel
theorem dX10_type_19 : decode cX10_type 19 = .ok (.i2c, 1) := by decide +kernel
theorem dX10_type_20 : decode cX10_type 20 = .ok (.invokevirtual 138, 3) := by decide +kernel
theorem dX10_type_23 : decode cX10_type 23 = .ok (.ifCond .eq 13, 3) := by decide +kernel
theorem dX10_type_26 : decode cX10_type 26 = .ok (.aload_n 0, 1) := by decide +kernel
theorem dX10_type_27 : decode cX10_type 27 = .ok (.getfield 26, 3) := by decide +kernel
theorem dX10_type_30 : decode cX10_type 30 = .ok (.getfield 142, 3) := by decide +kernel
theorem dX10_type_33 : decode cX10_type 33 = .ok (.goto 5, 3) := by decide +kernel
theorem dX10_type_36 : decode cX10_type 36 = .ok (.bipush (-5), 2) := by decide +kernel
theorem dX10_type_38 : decode cX10_type 38 = .ok (.ireturn, 1) := by decide +kernel
theorem dX10_clearText_0 : decode cX10_clearText 0 = .ok (.aload_n 0, 1) := by decide +kernel
theorem dX10_clearText_1 : decode cX10_clearText 1 = .ok (.getfield 26, 3) := by decide +kernel
theorem dX10_clearText_4 : decode cX10_clearText 4 = .ok (.getfield 142, 3) := by decide +kernel
theorem dX10_clearText_7 : decode cX10_clearText 7 = .ok (.istore_n 1, 1) := by decide +kernel
theorem dX10_clearText_8 : decode cX10_clearText 8 = .ok (.aload_n 0, 1) := by decide +kernel
theorem dX10_clearText_9 : decode cX10_clearText 9 = .ok (.getfield 26, 3) := by decide +kernel
theorem dX10_clearText_12 : decode cX10_clearText 12 = .ok (.iconst 0, 1) := by decide +kernel
theorem dX10_clearText_13 : decode cX10_clearText 13 = .ok (.putfield 142, 3) := by decide +kernel
theorem dX10_clearText_16 : decode cX10_clearText 16 = .ok (.iload_n 1, 1) := by decide +kernel
theorem dX10_clearText_17 : decode cX10_clearText 17 = .ok (.ireturn, 1) := by decide +kernel
theorem dX10_syntaxFault_0 : decode cX10_syntaxFault 0 = .ok (.aload_n 0, 1) := by decide +kernel
theorem dX10_syntaxFault_1 : decode cX10_syntaxFault 1 = .ok (.getfield 35, 3) := by decide +kernel
theorem dX10_syntaxFault_4 : decode cX10_syntaxFault 4 = .ok (.invokevirtual 145, 3) := by decide +kernel
theorem dX10_syntaxFault_7 : decode cX10_syntaxFault 7 = .ok (.ifnonnull 13, 3) := by decide +kernel
theorem dX10_syntaxFault_10 : decode cX10_syntaxFault 10 = .ok (.aload_n 0, 1) := by decide +kernel
theorem dX10_syntaxFault_11 : decode cX10_syntaxFault 11 = .ok (.getfield 35, 3) := by decide +kernel
theorem dX10_syntaxFault_14 : decode cX10_syntaxFault 14 = .ok (.getfield 149, 3) := by decide +kernel
theorem dX10_syntaxFault_17 : decode cX10_syntaxFault 17 = .ok (.goto 5, 3) := by decide +kernel
theorem dX10_syntaxFault_20 : decode cX10_syntaxFault 20 = .ok (.bipush (-7), 2) := by decide +kernel
theorem dX10_syntaxFault_22 : decode cX10_syntaxFault 22 = .ok (.ireturn, 1) := by decide +kernel
theorem dX10_unknownVariable_0 : decode cX10_unknownVariable 0 = .ok (.aload_n 0, 1) := by decide +kernel
theorem dX10_unknownVariable_1 : decode cX10_unknownVariable 1 = .ok (.getfield 35, 3) := by decide +kernel
theorem dX10_unknownVariable_4 : decode cX10_unknownVariable 4 = .ok (.invokevirtual 145, 3) := by decide +kernel
theorem dX10_unknownVariable_7 : decode cX10_unknownVariable 7 = .ok (.astore_n 1, 1) := by decide +kernel
theorem dX10_unknownVariable_8 : decode cX10_unknownVariable 8 = .ok (.aload_n 1, 1) := by decide +kernel
theorem dX10_unknownVariable_9 : decode cX10_unknownVariable 9 = .ok (.ifnonnull 6, 3) := by decide +kernel
theorem dX10_unknownVariable_12 : decode cX10_unknownVariable 12 = .ok (.bipush (-2), 2) := by decide +kernel
theorem dX10_unknownVariable_14 : decode cX10_unknownVariable 14 = .ok (.ireturn, 1) := by decide +kernel
theorem dX10_unknownVariable_15 : decode cX10_unknownVariable 15 = .ok (.aload_n 0, 1) := by decide +kernel
theorem dX10_unknownVariable_16 : decode cX10_unknownVariable 16 = .ok (.getfield 42, 3) := by decide +kernel
theorem dX10_unknownVariable_19 : decode cX10_unknownVariable 19 = .ok (.aload_n 1, 1) := by decide +kernel
theorem dX10_unknownVariable_20 : decode cX10_unknownVariable 20 = .ok (.aload_n 0, 1) := by decide +kernel
theorem dX10_unknownVariable_21 : decode cX10_unknownVariable 21 = .ok (.getfield 10, 3) := by decide +kernel
theorem dX10_unknownVariable_24 : decode cX10_unknownVariable 24 = .ok (.getfield 152, 3) := by decide +kernel
theorem dX10_unknownVariable_27 : decode cX10_unknownVariable 27 = .ok (.invokevirtual 155, 3) := by decide +kernel
theorem dX10_unknownVariable_30 : decode cX10_unknownVariable 30 = .ok (.ifCond .eq 8, 3) := by decide +kernel
theorem dX10_unknownVariable_33 : decode cX10_unknownVariable 33 = .ok (.bipush (-7), 2) := by decide +kernel
theorem dX10_unknownVariable_35 : decode cX10_unknownVariable 35 = .ok (.goto 10, 3) := by decide +kernel
theorem dX10_unknownVariable_38 : decode cX10_unknownVariable 38 = .ok (.aload_n 0, 1) := by decide +kernel
theorem dX10_unknownVariable_39 : decode cX10_unknownVariable 39 = .ok (.getfield 42, 3) := by decide +kernel
theorem dX10_unknownVariable_42 : decode cX10_unknownVariable 42 = .ok (.getfield 159, 3) := by decide +kernel
theorem dX10_unknownVariable_45 : decode cX10_unknownVariable 45 = .ok (.ireturn, 1) := by decide +kernel
theorem dX10_unknownDepth_0 : decode cX10_unknownDepth 0 = .ok (.aload_n 0, 1) := by decide +kernel
theorem dX10_unknownDepth_1 : decode cX10_unknownDepth 1 = .ok (.getfield 35, 3) := by decide +kernel
theorem dX10_unknownDepth_4 : decode cX10_unknownDepth 4 = .ok (.invokevirtual 145, 3) := by decide +kernel
theorem dX10_unknownDepth_7 : decode cX10_unknownDepth 7 = .ok (.astore_n 1, 1) := by decide +kernel
theorem dX10_unknownDepth_8 : decode cX10_unknownDepth 8 = .ok (.aload_n 1, 1) := by decide +kernel
theorem dX10_unknownDepth_9 : decode cX10_unknownDepth 9 = .ok (.ifnonnull 6, 3) := by decide +kernel
theorem dX10_unknownDepth_12 : decode cX10_unknownDepth 12 = .ok (.bipush (-2), 2) := by decide +kernel
theorem dX10_unknownDepth_14 : decode cX10_unknownDepth 14 = .ok (.ireturn, 1) := by decide +kernel
theorem dX10_unknownDepth_15 : decode cX10_unknownDepth 15 = .ok (.aload_n 0, 1) := by decide +kernel
theorem dX10_unknownDepth_16 : decode cX10_unknownDepth 16 = .ok (.getfield 42, 3) := by decide +kernel
theorem dX10_unknownDepth_19 : decode cX10_unknownDepth 19 = .ok (.aload_n 1, 1) := by decide +kernel
theorem dX10_unknownDepth_20 : decode cX10_unknownDepth 20 = .ok (.aload_n 0, 1) := by decide +kernel
theorem dX10_unknownDepth_21 : decode cX10_unknownDepth 21 = .ok (.getfield 10, 3) := by decide +kernel
theorem dX10_unknownDepth_24 : decode cX10_unknownDepth 24 = .ok (.getfield 152, 3) := by decide +kernel
theorem dX10_unknownDepth_27 : decode cX10_unknownDepth 27 = .ok (.invokevirtual 155, 3) := by decide +kernel
theorem dX10_unknownDepth_30 : decode cX10_unknownDepth 30 = .ok (.ifCond .eq 8, 3) := by decide +kernel
theorem dX10_unknownDepth_33 : decode cX10_unknownDepth 33 = .ok (.bipush (-7), 2) := by decide +kernel
theorem dX10_unknownDepth_35 : decode cX10_unknownDepth 35 = .ok (.goto 10, 3) := by decide +kernel
theorem dX10_unknownDepth_38 : decode cX10_unknownDepth 38 = .ok (.aload_n 0, 1) := by decide +kernel
theorem dX10_unknownDepth_39 : decode cX10_unknownDepth 39 = .ok (.getfield 42, 3) := by decide +kernel
theorem dX10_unknownDepth_42 : decode cX10_unknownDepth 42 = .ok (.getfield 162, 3) := by decide +kernel
theorem dX10_unknownDepth_45 : decode cX10_unknownDepth 45 = .ok (.ireturn, 1) := by decide +kernel
theorem dX10_partCount_0 : decode cX10_partCount 0 = .ok (.aload_n 0, 1) := by decide +kernel
theorem dX10_partCount_1 : decode cX10_partCount 1 = .ok (.getfield 35, 3) := by decide +kernel
theorem dX10_partCount_4 : decode cX10_partCount 4 = .ok (.invokevirtual 145, 3) := by decide +kernel
theorem dX10_partCount_7 : decode cX10_partCount 7 = .ok (.astore_n 1, 1) := by decide +kernel
theorem dX10_partCount_8 : decode cX10_partCount 8 = .ok (.aload_n 1, 1) := by decide +kernel
theorem dX10_partCount_9 : decode cX10_partCount 9 = .ok (.ifnonnull 6, 3) := by decide +kernel
theorem dX10_partCount_12 : decode cX10_partCount 12 = .ok (.bipush (-2), 2) := by decide +kernel
theorem dX10_partCount_14 : decode cX10_partCount 14 = .ok (.ireturn, 1) := by decide +kernel
theorem dX10_partCount_15 : decode cX10_partCount 15 = .ok (.iconst 0, 1) := by decide +kernel
theorem dX10_partCount_16 : decode cX10_partCount 16 = .ok (.istore_n 2, 1) := by decide +kernel
theorem dX10_partCount_17 : decode cX10_partCount 17 = .ok (.aload_n 1, 1) := by decide +kernel
theorem dX10_partCount_18 : decode cX10_partCount 18 = .ok (.getfield 165, 3) := by decide +kernel
theorem dX10_partCount_21 : decode cX10_partCount 21 = .ok (.astore_n 3, 1) := by decide +kernel
theorem dX10_partCount_22 : decode cX10_partCount 22 = .ok (.aload_n 3, 1) := by decide +kernel
theorem dX10_partCount_23 : decode cX10_partCount 23 = .ok (.ifnull 14, 3) := by decide +kernel
theorem dX10_partCount_26 : decode cX10_partCount 26 = .ok (.iinc 2 1, 3) := by decide +kernel
theorem dX10_partCount_29 : decode cX10_partCount 29 = .ok (.aload_n 3, 1) := by decide +kernel
theorem dX10_partCount_30 : decode cX10_partCount 30 = .ok (.getfield 171, 3) := by decide +kernel
theorem dX10_partCount_33 : decode cX10_partCount 33 = .ok (.astore_n 3, 1) := by decide +kernel
theorem dX10_partCount_34 : decode cX10_partCount 34 = .ok (.goto (-12), 3) := by decide +kernel
theorem dX10_partCount_37 : decode cX10_partCount 37 = .ok (.iload_n 2, 1) := by decide +kernel
theorem dX10_partCount_38 : decode cX10_partCount 38 = .ok (.ireturn, 1) := by decide +kernel
theorem dX10_contextSize_0 : decode cX10_contextSize 0 = .ok (.aload_n 0, 1) := by decide +kernel
theorem dX10_contextSize_1 : decode cX10_contextSize 1 = .ok (.getfield 10, 3) := by decide +kernel
theorem dX10_contextSize_4 : decode cX10_contextSize 4 = .ok (.getfield 174, 3) := by decide +kernel
theorem dX10_contextSize_7 : decode cX10_contextSize 7 = .ok (.invokevirtual 177, 3) := by decide +kernel
theorem dX10_contextSize_10 : decode cX10_contextSize 10 = .ok (.ireturn, 1) := by decide +kernel
theorem dX10_known_0 : decode cX10_known 0 = .ok (.aload_n 0, 1) := by decide +kernel
theorem dX10_known_1 : decode cX10_known 1 = .ok (.getfield 10, 3) := by decide +kernel
theorem dX10_known_4 : decode cX10_known 4 = .ok (.getfield 152, 3) := by decide +kernel
theorem dX10_known_7 : decode cX10_known 7 = .ok (.ireturn, 1) := by decide +kernel
theorem dX10_objects_0 : decode cX10_objects 0 = .ok (.iload_n 1, 1) := by decide +kernel
theorem dX10_objects_1 : decode cX10_objects 1 = .ok (.invokestatic 180, 3) := by decide +kernel
theorem dX10_objects_4 : decode cX10_objects 4 = .ok (.ifCond .ne 5, 3) := by decide +kernel
theorem dX10_objects_7 : decode cX10_objects 7 = .ok (.iconst (-1), 1) := by decide +kernel
theorem dX10_objects_8 : decode cX10_objects 8 = .ok (.ireturn, 1) := by decide +kernel
theorem dX10_objects_9 : decode cX10_objects 9 = .ok (.aload_n 0, 1) := by decide +kernel
theorem dX10_objects_10 : decode cX10_objects 10 = .ok (.getfield 10, 3) := by decide +kernel
theorem dX10_objects_13 : decode cX10_objects 13 = .ok (.iload_n 1, 1) := by decide +kernel
theorem dX10_objects_14 : decode cX10_objects 14 = .ok (.invokevirtual 183, 3) := by decide +kernel
theorem dX10_objects_17 : decode cX10_objects 17 = .ok (.ifCond .eq 17, 3) := by decide +kernel
theorem dX10_objects_20 : decode cX10_objects 20 = .ok (.aload_n 0, 1) := by decide +kernel
theorem dX10_objects_21 : decode cX10_objects 21 = .ok (.getfield 10, 3) := by decide +kernel
theorem dX10_objects_24 : decode cX10_objects 24 = .ok (.getfield 174, 3) := by decide +kernel
theorem dX10_objects_27 : decode cX10_objects 27 = .ok (.iload_n 1, 1) := by decide +kernel
theorem dX10_objects_28 : decode cX10_objects 28 = .ok (.invokevirtual 186, 3) := by decide +kernel
theorem dX10_objects_31 : decode cX10_objects 31 = .ok (.goto 5, 3) := by decide +kernel
theorem dX10_objects_34 : decode cX10_objects 34 = .ok (.bipush (-7), 2) := by decide +kernel
theorem dX10_objects_36 : decode cX10_objects 36 = .ok (.ireturn, 1) := by decide +kernel
theorem dX10_together_0 : decode cX10_together 0 = .ok (.iload_n 1, 1) := by decide +kernel
theorem dX10_together_1 : decode cX10_together 1 = .ok (.invokestatic 180, 3) := by decide +kernel
theorem dX10_together_4 : decode cX10_together 4 = .ok (.ifCond .eq 27, 3) := by decide +kernel
theorem dX10_together_7 : decode cX10_together 7 = .ok (.aload_n 0, 1) := by decide +kernel
theorem dX10_together_8 : decode cX10_together 8 = .ok (.iload_n 2, 1) := by decide +kernel
theorem dX10_together_9 : decode cX10_together 9 = .ok (.invokevirtual 132, 3) := by decide +kernel
theorem dX10_together_12 : decode cX10_together 12 = .ok (.ifCond .eq 19, 3) := by decide +kernel
theorem dX10_together_15 : decode cX10_together 15 = .ok (.iload_n 3, 1) := by decide +kernel
theorem dX10_together_16 : decode cX10_together 16 = .ok (.invokestatic 180, 3) := by decide +kernel
theorem dX10_together_19 : decode cX10_together 19 = .ok (.ifCond .eq 12, 3) := by decide +kernel
theorem dX10_together_22 : decode cX10_together 22 = .ok (.aload_n 0, 1) := by decide +kernel
theorem dX10_together_23 : decode cX10_together 23 = .ok (.iload 4, 2) := by decide +kernel
theorem dX10_together_25 : decode cX10_together 25 = .ok (.invokevirtual 132, 3) := by decide +kernel
theorem dX10_together_28 : decode cX10_together 28 = .ok (.ifCond .ne 5, 3) := by decide +kernel
theorem dX10_together_31 : decode cX10_together 31 = .ok (.iconst (-1), 1) := by decide +kernel
theorem dX10_together_32 : decode cX10_together 32 = .ok (.ireturn, 1) := by decide +kernel
theorem dX10_together_33 : decode cX10_together 33 = .ok (.aload_n 0, 1) := by decide +kernel
theorem dX10_together_34 : decode cX10_together 34 = .ok (.getfield 10, 3) := by decide +kernel
theorem dX10_together_37 : decode cX10_together 37 = .ok (.iload_n 1, 1) := by decide +kernel
theorem dX10_together_38 : decode cX10_together 38 = .ok (.invokevirtual 183, 3) := by decide +kernel
theorem dX10_together_41 : decode cX10_together 41 = .ok (.ifCond .eq 14, 3) := by decide +kernel
theorem dX10_together_44 : decode cX10_together 44 = .ok (.aload_n 0, 1) := by decide +kernel
theorem dX10_together_45 : decode cX10_together 45 = .ok (.getfield 10, 3) := by decide +kernel
theorem dX10_together_48 : decode cX10_together 48 = .ok (.iload_n 3, 1) := by decide +kernel
theorem dX10_together_49 : decode cX10_together 49 = .ok (.invokevirtual 183, 3) := by decide +kernel
theorem dX10_together_52 : decode cX10_together 52 = .ok (.ifCond .ne 6, 3) := by decide +kernel
theorem dX10_together_55 : decode cX10_together 55 = .ok (.bipush (-7), 2) := by decide +kernel
theorem dX10_together_57 : decode cX10_together 57 = .ok (.ireturn, 1) := by decide +kernel
theorem dX10_together_58 : decode cX10_together 58 = .ok (.aload_n 0, 1) := by decide +kernel
theorem dX10_together_59 : decode cX10_together 59 = .ok (.getfield 10, 3) := by decide +kernel
theorem dX10_together_62 : decode cX10_together 62 = .ok (.getfield 174, 3) := by decide +kernel
theorem dX10_together_65 : decode cX10_together 65 = .ok (.iload_n 1, 1) := by decide +kernel
theorem dX10_together_66 : decode cX10_together 66 = .ok (.iload_n 2, 1) := by decide +kernel
theorem dX10_together_67 : decode cX10_together 67 = .ok (.iload_n 3, 1) := by decide +kernel
theorem dX10_together_68 : decode cX10_together 68 = .ok (.iload 4, 2) := by decide +kernel
theorem dX10_together_70 : decode cX10_together 70 = .ok (.invokevirtual 189, 3) := by decide +kernel
theorem dX10_together_73 : decode cX10_together 73 = .ok (.ireturn, 1) := by decide +kernel
theorem dX10_resetContext_0 : decode cX10_resetContext 0 = .ok (.aload_n 0, 1) := by decide +kernel
theorem dX10_resetContext_1 : decode cX10_resetContext 1 = .ok (.getfield 10, 3) := by decide +kernel
theorem dX10_resetContext_4 : decode cX10_resetContext 4 = .ok (.getfield 174, 3) := by decide +kernel
theorem dX10_resetContext_7 : decode cX10_resetContext 7 = .ok (.invokevirtual 177, 3) := by decide +kernel
theorem dX10_resetContext_10 : decode cX10_resetContext 10 = .ok (.istore_n 1, 1) := by decide +kernel
theorem dX10_resetContext_11 : decode cX10_resetContext 11 = .ok (.aload_n 0, 1) := by decide +kernel
theorem dX10_resetContext_12 : decode cX10_resetContext 12 = .ok (.getfield 19, 3) := by decide +kernel
theorem dX10_resetContext_15 : decode cX10_resetContext 15 = .ok (.aload_n 0, 1) := by decide +kernel
theorem dX10_resetContext_16 : decode cX10_resetContext 16 = .ok (.getfield 10, 3) := by decide +kernel
theorem dX10_resetContext_19 : decode cX10_resetContext 19 = .ok (.invokevirtual 88, 3) := by decide +kernel
theorem dX10_resetContext_22 : decode cX10_resetContext 22 = .ok (.aload_n 0, 1) := by decide +kernel
theorem dX10_resetContext_23 : decode cX10_resetContext 23 = .ok (.getfield 10, 3) := by decide +kernel
theorem dX10_resetContext_26 : decode cX10_resetContext 26 = .ok (.invokevirtual 96, 3) := by decide +kernel
theorem dX10_resetContext_29 : decode cX10_resetContext 29 = .ok (.iload_n 1, 1) := by decide +kernel
theorem dX10_resetContext_30 : decode cX10_resetContext 30 = .ok (.ireturn, 1) := by decide +kernel
theorem dX10_setAccommodation_0 : decode cX10_setAccommodation 0 = .ok (.iload_n 1, 1) := by decide +kernel
theorem dX10_setAccommodation_1 : decode cX10_setAccommodation 1 = .ok (.invokestatic 121, 3) := by decide +kernel
theorem dX10_setAccommodation_4 : decode cX10_setAccommodation 4 = .ok (.ifCond .ne 5, 3) := by decide +kernel
theorem dX10_setAccommodation_7 : decode cX10_setAccommodation 7 = .ok (.iconst (-1), 1) := by decide +kernel
theorem dX10_setAccommodation_8 : decode cX10_setAccommodation 8 = .ok (.ireturn, 1) := by decide +kernel
theorem dX10_setAccommodation_9 : decode cX10_setAccommodation 9 = .ok (.aload_n 0, 1) := by decide +kernel
theorem dX10_setAccommodation_10 : decode cX10_setAccommodation 10 = .ok (.getfield 10, 3) := by decide +kernel
theorem dX10_setAccommodation_13 : decode cX10_setAccommodation 13 = .ok (.getfield 193, 3) := by decide +kernel
theorem dX10_setAccommodation_16 : decode cX10_setAccommodation 16 = .ok (.ifCond .eq 7, 3) := by decide +kernel
theorem dX10_setAccommodation_19 : decode cX10_setAccommodation 19 = .ok (.iconst 1, 1) := by decide +kernel
theorem dX10_setAccommodation_20 : decode cX10_setAccommodation 20 = .ok (.goto 4, 3) := by decide +kernel
theorem dX10_setAccommodation_23 : decode cX10_setAccommodation 23 = .ok (.iconst 0, 1) := by decide +kernel
theorem dX10_setAccommodation_24 : decode cX10_setAccommodation 24 = .ok (.istore_n 2, 1) := by decide +kernel
theorem dX10_setAccommodation_25 : decode cX10_setAccommodation 25 = .ok (.aload_n 0, 1) := by decide +kernel
theorem dX10_setAccommodation_26 : decode cX10_setAccommodation 26 = .ok (.getfield 19, 3) := by decide +kernel
theorem dX10_setAccommodation_29 : decode cX10_setAccommodation 29 = .ok (.aload_n 0, 1) := by decide +kernel
theorem dX10_setAccommodation_30 : decode cX10_setAccommodation 30 = .ok (.getfield 10, 3) := by decide +kernel
theorem dX10_setAccommodation_33 : decode cX10_setAccommodation 33 = .ok (.invokevirtual 88, 3) := by decide +kernel
theorem dX10_setAccommodation_36 : decode cX10_setAccommodation 36 = .ok (.aload_n 0, 1) := by decide +kernel
theorem dX10_setAccommodation_37 : decode cX10_setAccommodation 37 = .ok (.getfield 10, 3) := by decide +kernel
theorem dX10_setAccommodation_40 : decode cX10_setAccommodation 40 = .ok (.iload_n 1, 1) := by decide +kernel
theorem dX10_setAccommodation_41 : decode cX10_setAccommodation 41 = .ok (.iconst 1, 1) := by decide +kernel
theorem dX10_setAccommodation_42 : decode cX10_setAccommodation 42 = .ok (.if_icmp .ne 7, 3) := by decide +kernel
theorem dX10_setAccommodation_45 : decode cX10_setAccommodation 45 = .ok (.iconst 1, 1) := by decide +kernel
theorem dX10_setAccommodation_46 : decode cX10_setAccommodation 46 = .ok (.goto 4, 3) := by decide +kernel
theorem dX10_setAccommodation_49 : decode cX10_setAccommodation 49 = .ok (.iconst 0, 1) := by decide +kernel
theorem dX10_setAccommodation_50 : decode cX10_setAccommodation 50 = .ok (.putfield 193, 3) := by decide +kernel
theorem dX10_setAccommodation_53 : decode cX10_setAccommodation 53 = .ok (.iload_n 2, 1) := by decide +kernel
theorem dX10_setAccommodation_54 : decode cX10_setAccommodation 54 = .ok (.ireturn, 1) := by decide +kernel
theorem dX10_accept_0 : decode cX10_accept 0 = .ok (.aload_n 0, 1) := by decide +kernel
theorem dX10_accept_1 : decode cX10_accept 1 = .ok (.aload_n 0, 1) := by decide +kernel
theorem dX10_accept_2 : decode cX10_accept 2 = .ok (.getfield 35, 3) := by decide +kernel
theorem dX10_accept_5 : decode cX10_accept 5 = .ok (.invokevirtual 145, 3) := by decide +kernel
theorem dX10_accept_8 : decode cX10_accept 8 = .ok (.invokevirtual 197, 3) := by decide +kernel
theorem dX10_accept_11 : decode cX10_accept 11 = .ok (.istore_n 1, 1) := by decide +kernel
theorem dX10_accept_12 : decode cX10_accept 12 = .ok (.iload_n 1, 1) := by decide +kernel
theorem dX10_accept_13 : decode cX10_accept 13 = .ok (.ifCond .ge 5, 3) := by decide +kernel
theorem dX10_accept_16 : decode cX10_accept 16 = .ok (.iload_n 1, 1) := by decide +kernel
theorem dX10_accept_17 : decode cX10_accept 17 = .ok (.ireturn, 1) := by decide +kernel
theorem dX10_accept_18 : decode cX10_accept 18 = .ok (.aload_n 0, 1) := by decide +kernel
theorem dX10_accept_19 : decode cX10_accept 19 = .ok (.getfield 19, 3) := by decide +kernel
theorem dX10_accept_22 : decode cX10_accept 22 = .ok (.aload_n 0, 1) := by decide +kernel
theorem dX10_accept_23 : decode cX10_accept 23 = .ok (.getfield 10, 3) := by decide +kernel
theorem dX10_accept_26 : decode cX10_accept 26 = .ok (.invokevirtual 88, 3) := by decide +kernel
theorem dX10_accept_29 : decode cX10_accept 29 = .ok (.aload_n 0, 1) := by decide +kernel
theorem dX10_accept_30 : decode cX10_accept 30 = .ok (.getfield 10, 3) := by decide +kernel
theorem dX10_accept_33 : decode cX10_accept 33 = .ok (.getfield 174, 3) := by decide +kernel
theorem dX10_accept_36 : decode cX10_accept 36 = .ok (.aload_n 0, 1) := by decide +kernel
theorem dX10_accept_37 : decode cX10_accept 37 = .ok (.getfield 64, 3) := by decide +kernel
theorem dX10_accept_40 : decode cX10_accept 40 = .ok (.getfield 201, 3) := by decide +kernel
theorem dX10_accept_43 : decode cX10_accept 43 = .ok (.invokevirtual 202, 3) := by decide +kernel
theorem dX10_accept_46 : decode cX10_accept 46 = .ok (.aload_n 0, 1) := by decide +kernel
theorem dX10_accept_47 : decode cX10_accept 47 = .ok (.getfield 10, 3) := by decide +kernel
theorem dX10_accept_50 : decode cX10_accept 50 = .ok (.aload_n 0, 1) := by decide +kernel
theorem dX10_accept_51 : decode cX10_accept 51 = .ok (.getfield 42, 3) := by decide +kernel
theorem dX10_accept_54 : decode cX10_accept 54 = .ok (.getfield 206, 3) := by decide +kernel
theorem dX10_accept_57 : decode cX10_accept 57 = .ok (.putfield 152, 3) := by decide +kernel
theorem dX10_accept_60 : decode cX10_accept 60 = .ok (.aload_n 0, 1) := by decide +kernel
theorem dX10_accept_61 : decode cX10_accept 61 = .ok (.getfield 10, 3) := by decide +kernel
theorem dX10_accept_64 : decode cX10_accept 64 = .ok (.aload_n 0, 1) := by decide +kernel
theorem dX10_accept_65 : decode cX10_accept 65 = .ok (.getfield 64, 3) := by decide +kernel
theorem dX10_accept_68 : decode cX10_accept 68 = .ok (.getfield 209, 3) := by decide +kernel
theorem dX10_accept_71 : decode cX10_accept 71 = .ok (.putfield 213, 3) := by decide +kernel
theorem dX10_accept_74 : decode cX10_accept 74 = .ok (.iload_n 1, 1) := by decide +kernel
theorem dX10_accept_75 : decode cX10_accept 75 = .ok (.ireturn, 1) := by decide +kernel
theorem dX10_acceptable_0 : decode cX10_acceptable 0 = .ok (.aload_n 0, 1) := by decide +kernel
theorem dX10_acceptable_1 : decode cX10_acceptable 1 = .ok (.aload_n 0, 1) := by decide +kernel
theorem dX10_acceptable_2 : decode cX10_acceptable 2 = .ok (.getfield 35, 3) := by decide +kernel
theorem dX10_acceptable_5 : decode cX10_acceptable 5 = .ok (.invokevirtual 145, 3) := by decide +kernel
theorem dX10_acceptable_8 : decode cX10_acceptable 8 = .ok (.invokevirtual 197, 3) := by decide +kernel
theorem dX10_acceptable_11 : decode cX10_acceptable 11 = .ok (.ireturn, 1) := by decide +kernel
theorem dX10_failingAt_0 : decode cX10_failingAt 0 = .ok (.aload_n 0, 1) := by decide +kernel
theorem dX10_failingAt_1 : decode cX10_failingAt 1 = .ok (.aload_n 0, 1) := by decide +kernel
theorem dX10_failingAt_2 : decode cX10_failingAt 2 = .ok (.getfield 35, 3) := by decide +kernel
theorem dX10_failingAt_5 : decode cX10_failingAt 5 = .ok (.invokevirtual 145, 3) := by decide +kernel
theorem dX10_failingAt_8 : decode cX10_failingAt 8 = .ok (.invokevirtual 197, 3) := by decide +kernel
theorem dX10_failingAt_11 : decode cX10_failingAt 11 = .ok (.istore_n 1, 1) := by decide +kernel
theorem dX10_failingAt_12 : decode cX10_failingAt 12 = .ok (.iload_n 1, 1) := by decide +kernel
theorem dX10_failingAt_13 : decode cX10_failingAt 13 = .ok (.bipush (-4), 2) := by decide +kernel
theorem dX10_failingAt_15 : decode cX10_failingAt 15 = .ok (.if_icmp .ne 11, 3) := by decide +kernel
theorem dX10_failingAt_18 : decode cX10_failingAt 18 = .ok (.aload_n 0, 1) := by decide +kernel
theorem dX10_failingAt_19 : decode cX10_failingAt 19 = .ok (.getfield 64, 3) := by decide +kernel
theorem dX10_failingAt_22 : decode cX10_failingAt 22 = .ok (.getfield 214, 3) := by decide +kernel
theorem dX10_failingAt_25 : decode cX10_failingAt 25 = .ok (.ireturn, 1) := by decide +kernel
theorem dX10_failingAt_26 : decode cX10_failingAt 26 = .ok (.iload_n 1, 1) := by decide +kernel
theorem dX10_failingAt_27 : decode cX10_failingAt 27 = .ok (.ifCond .ge 7, 3) := by decide +kernel
theorem dX10_failingAt_30 : decode cX10_failingAt 30 = .ok (.iload_n 1, 1) := by decide +kernel
theorem dX10_failingAt_31 : decode cX10_failingAt 31 = .ok (.goto 5, 3) := by decide +kernel
theorem dX10_failingAt_34 : decode cX10_failingAt 34 = .ok (.bipush (-7), 2) := by decide +kernel
theorem dX10_failingAt_36 : decode cX10_failingAt 36 = .ok (.ireturn, 1) := by decide +kernel
theorem dX10_accommodated_0 : decode cX10_accommodated 0 = .ok (.aload_n 0, 1) := by decide +kernel
theorem dX10_accommodated_1 : decode cX10_accommodated 1 = .ok (.getfield 10, 3) := by decide +kernel
theorem dX10_accommodated_4 : decode cX10_accommodated 4 = .ok (.getfield 213, 3) := by decide +kernel
theorem dX10_accommodated_7 : decode cX10_accommodated 7 = .ok (.invokestatic 217, 3) := by decide +kernel
theorem dX10_accommodated_10 : decode cX10_accommodated 10 = .ok (.ireturn, 1) := by decide +kernel
theorem dX10_accommodatedPart_0 : decode cX10_accommodatedPart 0 = .ok (.iload_n 1, 1) := by decide +kernel
theorem dX10_accommodatedPart_1 : decode cX10_accommodatedPart 1 = .ok (.ifCond .ge 5, 3) := by decide +kernel
theorem dX10_accommodatedPart_4 : decode cX10_accommodatedPart 4 = .ok (.iconst (-1), 1) := by decide +kernel
theorem dX10_accommodatedPart_5 : decode cX10_accommodatedPart 5 = .ok (.ireturn, 1) := by decide +kernel
theorem dX10_accommodatedPart_6 : decode cX10_accommodatedPart 6 = .ok (.iconst 0, 1) := by decide +kernel
theorem dX10_accommodatedPart_7 : decode cX10_accommodatedPart 7 = .ok (.istore_n 2, 1) := by decide +kernel
theorem dX10_accommodatedPart_8 : decode cX10_accommodatedPart 8 = .ok (.iconst 0, 1) := by decide +kernel
theorem dX10_accommodatedPart_9 : decode cX10_accommodatedPart 9 = .ok (.istore_n 3, 1) := by decide +kernel
theorem dX10_accommodatedPart_10 : decode cX10_accommodatedPart 10 = .ok (.iload_n 3, 1) := by decide +kernel
theorem dX10_accommodatedPart_11 : decode cX10_accommodatedPart 11 = .ok (.bipush 60, 2) := by decide +kernel
theorem dX10_accommodatedPart_13 : decode cX10_accommodatedPart 13 = .ok (.if_icmp .ge 35, 3) := by decide +kernel
theorem dX10_accommodatedPart_16 : decode cX10_accommodatedPart 16 = .ok (.aload_n 0, 1) := by decide +kernel
theorem dX10_accommodatedPart_17 : decode cX10_accommodatedPart 17 = .ok (.getfield 10, 3) := by decide +kernel
theorem dX10_accommodatedPart_20 : decode cX10_accommodatedPart 20 = .ok (.getfield 213, 3) := by decide +kernel
theorem dX10_accommodatedPart_23 : decode cX10_accommodatedPart 23 = .ok (.iload_n 3, 1) := by decide +kernel
theorem dX10_accommodatedPart_24 : decode cX10_accommodatedPart 24 = .ok (.lushr, 1) := by decide +kernel
theorem dX10_accommodatedPart_25 : decode cX10_accommodatedPart 25 = .ok (.lconst 1, 1) := by decide +kernel
theorem dX10_accommodatedPart_26 : decode cX10_accommodatedPart 26 = .ok (.land, 1) := by decide +kernel
theorem dX10_accommodatedPart_27 : decode cX10_accommodatedPart 27 = .ok (.lconst 0, 1) := by decide +kernel
theorem dX10_accommodatedPart_28 : decode cX10_accommodatedPart 28 = .ok (.lcmp, 1) := by decide +kernel
theorem dX10_accommodatedPart_29 : decode cX10_accommodatedPart 29 = .ok (.ifCond .eq 13, 3) := by decide +kernel
theorem dX10_accommodatedPart_32 : decode cX10_accommodatedPart 32 = .ok (.iload_n 2, 1) := by decide +kernel
theorem dX10_accommodatedPart_33 : decode cX10_accommodatedPart 33 = .ok (.iload_n 1, 1) := by decide +kernel
theorem dX10_accommodatedPart_34 : decode cX10_accommodatedPart 34 = .ok (.if_icmp .ne 5, 3) := by decide +kernel
theorem dX10_accommodatedPart_37 : decode cX10_accommodatedPart 37 = .ok (.iload_n 3, 1) := by decide +kernel
theorem dX10_accommodatedPart_38 : decode cX10_accommodatedPart 38 = .ok (.ireturn, 1) := by decide +kernel
theorem dX10_accommodatedPart_39 : decode cX10_accommodatedPart 39 = .ok (.iinc 2 1, 3) := by decide +kernel
theorem dX10_accommodatedPart_42 : decode cX10_accommodatedPart 42 = .ok (.iinc 3 1, 3) := by decide +kernel
theorem dX10_accommodatedPart_45 : decode cX10_accommodatedPart 45 = .ok (.goto (-35), 3) := by decide +kernel
theorem dX10_accommodatedPart_48 : decode cX10_accommodatedPart 48 = .ok (.bipush (-7), 2) := by decide +kernel
theorem dX10_accommodatedPart_50 : decode cX10_accommodatedPart 50 = .ok (.ireturn, 1) := by decide +kernel
theorem dX10_sizeBehind_0 : decode cX10_sizeBehind 0 = .ok (.iload_n 1, 1) := by decide +kernel
theorem dX10_sizeBehind_1 : decode cX10_sizeBehind 1 = .ok (.ifCond .ge 5, 3) := by decide +kernel
theorem dX10_sizeBehind_4 : decode cX10_sizeBehind 4 = .ok (.iconst (-1), 1) := by decide +kernel
theorem dX10_sizeBehind_5 : decode cX10_sizeBehind 5 = .ok (.ireturn, 1) := by decide +kernel
theorem dX10_sizeBehind_6 : decode cX10_sizeBehind 6 = .ok (.aload_n 0, 1) := by decide +kernel
theorem dX10_sizeBehind_7 : decode cX10_sizeBehind 7 = .ok (.getfield 35, 3) := by decide +kernel
theorem dX10_sizeBehind_10 : decode cX10_sizeBehind 10 = .ok (.invokevirtual 145, 3) := by decide +kernel
theorem dX10_sizeBehind_13 : decode cX10_sizeBehind 13 = .ok (.astore_n 2, 1) := by decide +kernel
theorem dX10_sizeBehind_14 : decode cX10_sizeBehind 14 = .ok (.aload_n 2, 1) := by decide +kernel
theorem dX10_sizeBehind_15 : decode cX10_sizeBehind 15 = .ok (.ifnonnull 6, 3) := by decide +kernel
theorem dX10_sizeBehind_18 : decode cX10_sizeBehind 18 = .ok (.bipush (-2), 2) := by decide +kernel
theorem dX10_sizeBehind_20 : decode cX10_sizeBehind 20 = .ok (.ireturn, 1) := by decide +kernel
theorem dX10_sizeBehind_21 : decode cX10_sizeBehind 21 = .ok (.aload_n 0, 1) := by decide +kernel
theorem dX10_sizeBehind_22 : decode cX10_sizeBehind 22 = .ok (.getfield 42, 3) := by decide +kernel
theorem dX10_sizeBehind_25 : decode cX10_sizeBehind 25 = .ok (.aload_n 2, 1) := by decide +kernel
theorem dX10_sizeBehind_26 : decode cX10_sizeBehind 26 = .ok (.aload_n 0, 1) := by decide +kernel
theorem dX10_sizeBehind_27 : decode cX10_sizeBehind 27 = .ok (.getfield 10, 3) := by decide +kernel
theorem dX10_sizeBehind_30 : decode cX10_sizeBehind 30 = .ok (.getfield 152, 3) := by decide +kernel
theorem dX10_sizeBehind_33 : decode cX10_sizeBehind 33 = .ok (.invokevirtual 155, 3) := by decide +kernel
theorem dX10_sizeBehind_36 : decode cX10_sizeBehind 36 = .ok (.ifCond .ne 6, 3) := by decide +kernel
theorem dX10_sizeBehind_39 : decode cX10_sizeBehind 39 = .ok (.bipush (-3), 2) := by decide +kernel
theorem dX10_sizeBehind_41 : decode cX10_sizeBehind 41 = .ok (.ireturn, 1) := by decide +kernel
theorem dX10_sizeBehind_42 : decode cX10_sizeBehind 42 = .ok (.iconst 0, 1) := by decide +kernel
theorem dX10_sizeBehind_43 : decode cX10_sizeBehind 43 = .ok (.istore_n 3, 1) := by decide +kernel
theorem dX10_sizeBehind_44 : decode cX10_sizeBehind 44 = .ok (.aload_n 0, 1) := by decide +kernel
theorem dX10_sizeBehind_45 : decode cX10_sizeBehind 45 = .ok (.getfield 80, 3) := by decide +kernel
theorem dX10_sizeBehind_48 : decode cX10_sizeBehind 48 = .ok (.aload_n 0, 1) := by decide +kernel
theorem dX10_sizeBehind_49 : decode cX10_sizeBehind 49 = .ok (.getfield 10, 3) := by decide +kernel
theorem dX10_sizeBehind_52 : decode cX10_sizeBehind 52 = .ok (.getfield 174, 3) := by decide +kernel
theorem dX10_sizeBehind_55 : decode cX10_sizeBehind 55 = .ok (.invokevirtual 202, 3) := by decide +kernel
theorem dX10_sizeBehind_58 : decode cX10_sizeBehind 58 = .ok (.aload_n 2, 1) := by decide +kernel
theorem dX10_sizeBehind_59 : decode cX10_sizeBehind 59 = .ok (.getfield 165, 3) := by decide +kernel
theorem dX10_sizeBehind_62 : decode cX10_sizeBehind 62 = .ok (.astore 4, 2) := by decide +kernel
theorem dX10_sizeBehind_64 : decode cX10_sizeBehind 64 = .ok (.aload 4, 2) := by decide +kernel
theorem dX10_sizeBehind_66 : decode cX10_sizeBehind 66 = .ok (.ifnull 35, 3) := by decide +kernel
theorem dX10_sizeBehind_69 : decode cX10_sizeBehind 69 = .ok (.iload_n 3, 1) := by decide +kernel
theorem dX10_sizeBehind_70 : decode cX10_sizeBehind 70 = .ok (.iload_n 1, 1) := by decide +kernel
theorem dX10_sizeBehind_71 : decode cX10_sizeBehind 71 = .ok (.if_icmp .ge 30, 3) := by decide +kernel
theorem dX10_sizeBehind_74 : decode cX10_sizeBehind 74 = .ok (.aload_n 0, 1) := by decide +kernel
theorem dX10_sizeBehind_75 : decode cX10_sizeBehind 75 = .ok (.getfield 55, 3) := by decide +kernel
theorem dX10_sizeBehind_78 : decode cX10_sizeBehind 78 = .ok (.aload 4, 2) := by decide +kernel
theorem dX10_sizeBehind_80 : decode cX10_sizeBehind 80 = .ok (.aload_n 0, 1) := by decide +kernel
theorem dX10_sizeBehind_81 : decode cX10_sizeBehind 81 = .ok (.getfield 80, 3) := by decide +kernel
theorem dX10_sizeBehind_84 : decode cX10_sizeBehind 84 = .ok (.iconst 0, 1) := by decide +kernel
theorem dX10_sizeBehind_85 : decode cX10_sizeBehind 85 = .ok (.invokevirtual 223, 3) := by decide +kernel
theorem dX10_sizeBehind_88 : decode cX10_sizeBehind 88 = .ok (.iinc 3 1, 3) := by decide +kernel
theorem dX10_sizeBehind_91 : decode cX10_sizeBehind 91 = .ok (.aload 4, 2) := by decide +kernel
theorem dX10_sizeBehind_93 : decode cX10_sizeBehind 93 = .ok (.getfield 171, 3) := by decide +kernel
theorem dX10_sizeBehind_96 : decode cX10_sizeBehind 96 = .ok (.astore 4, 2) := by decide +kernel
theorem dX10_sizeBehind_98 : decode cX10_sizeBehind 98 = .ok (.goto (-34), 3) := by decide +kernel
theorem dX10_sizeBehind_101 : decode cX10_sizeBehind 101 = .ok (.iload_n 3, 1) := by decide +kernel
theorem dX10_sizeBehind_102 : decode cX10_sizeBehind 102 = .ok (.iload_n 1, 1) := by decide +kernel
theorem dX10_sizeBehind_103 : decode cX10_sizeBehind 103 = .ok (.if_icmp .ne 13, 3) := by decide +kernel
theorem dX10_sizeBehind_106 : decode cX10_sizeBehind 106 = .ok (.aload_n 0, 1) := by decide +kernel
theorem dX10_sizeBehind_107 : decode cX10_sizeBehind 107 = .ok (.getfield 80, 3) := by decide +kernel
theorem dX10_sizeBehind_110 : decode cX10_sizeBehind 110 = .ok (.invokevirtual 177, 3) := by decide +kernel
theorem dX10_sizeBehind_113 : decode cX10_sizeBehind 113 = .ok (.goto 5, 3) := by decide +kernel
theorem dX10_sizeBehind_116 : decode cX10_sizeBehind 116 = .ok (.bipush (-7), 2) := by decide +kernel
theorem dX10_sizeBehind_118 : decode cX10_sizeBehind 118 = .ok (.ireturn, 1) := by decide +kernel
theorem dX10_supports_0 : decode cX10_supports 0 = .ok (.aload_n 0, 1) := by decide +kernel
theorem dX10_supports_1 : decode cX10_supports 1 = .ok (.getfield 35, 3) := by decide +kernel
theorem dX10_supports_4 : decode cX10_supports 4 = .ok (.invokevirtual 145, 3) := by decide +kernel
theorem dX10_supports_7 : decode cX10_supports 7 = .ok (.astore_n 1, 1) := by decide +kernel
theorem dX10_supports_8 : decode cX10_supports 8 = .ok (.aload_n 1, 1) := by decide +kernel
theorem dX10_supports_9 : decode cX10_supports 9 = .ok (.ifnonnull 6, 3) := by decide +kernel
theorem dX10_supports_12 : decode cX10_supports 12 = .ok (.bipush (-2), 2) := by decide +kernel
theorem dX10_supports_14 : decode cX10_supports 14 = .ok (.ireturn, 1) := by decide +kernel
theorem dX10_supports_15 : decode cX10_supports 15 = .ok (.aload_n 0, 1) := by decide +kernel
theorem dX10_supports_16 : decode cX10_supports 16 = .ok (.getfield 42, 3) := by decide +kernel
theorem dX10_supports_19 : decode cX10_supports 19 = .ok (.aload_n 1, 1) := by decide +kernel
theorem dX10_supports_20 : decode cX10_supports 20 = .ok (.aload_n 0, 1) := by decide +kernel
theorem dX10_supports_21 : decode cX10_supports 21 = .ok (.getfield 10, 3) := by decide +kernel
theorem dX10_supports_24 : decode cX10_supports 24 = .ok (.getfield 152, 3) := by decide +kernel
theorem dX10_supports_27 : decode cX10_supports 27 = .ok (.invokevirtual 155, 3) := by decide +kernel
theorem dX10_supports_30 : decode cX10_supports 30 = .ok (.ifCond .ne 6, 3) := by decide +kernel
theorem dX10_supports_33 : decode cX10_supports 33 = .ok (.bipush (-3), 2) := by decide +kernel
theorem dX10_supports_35 : decode cX10_supports 35 = .ok (.ireturn, 1) := by decide +kernel
theorem dX10_supports_36 : decode cX10_supports 36 = .ok (.aload_n 0, 1) := by decide +kernel
theorem dX10_supports_37 : decode cX10_supports 37 = .ok (.getfield 55, 3) := by decide +kernel
theorem dX10_supports_40 : decode cX10_supports 40 = .ok (.aload_n 1, 1) := by decide +kernel
theorem dX10_supports_41 : decode cX10_supports 41 = .ok (.aload_n 0, 1) := by decide +kernel
theorem dX10_supports_42 : decode cX10_supports 42 = .ok (.getfield 80, 3) := by decide +kernel
theorem dX10_supports_45 : decode cX10_supports 45 = .ok (.invokevirtual 227, 3) := by decide +kernel
theorem dX10_supports_48 : decode cX10_supports 48 = .ok (.aload_n 0, 1) := by decide +kernel
theorem dX10_supports_49 : decode cX10_supports 49 = .ok (.getfield 10, 3) := by decide +kernel
theorem dX10_supports_52 : decode cX10_supports 52 = .ok (.getfield 174, 3) := by decide +kernel
theorem dX10_supports_55 : decode cX10_supports 55 = .ok (.aload_n 0, 1) := by decide +kernel
theorem dX10_supports_56 : decode cX10_supports 56 = .ok (.getfield 80, 3) := by decide +kernel
theorem dX10_supports_59 : decode cX10_supports 59 = .ok (.invokevirtual 231, 3) := by decide +kernel
theorem dX10_supports_62 : decode cX10_supports 62 = .ok (.ifCond .eq 7, 3) := by decide +kernel
theorem dX10_supports_65 : decode cX10_supports 65 = .ok (.iconst 1, 1) := by decide +kernel
theorem dX10_supports_66 : decode cX10_supports 66 = .ok (.goto 4, 3) := by decide +kernel
theorem dX10_supports_69 : decode cX10_supports 69 = .ok (.iconst 0, 1) := by decide +kernel
theorem dX10_supports_70 : decode cX10_supports 70 = .ok (.ireturn, 1) := by decide +kernel
theorem dX10_worldsTrue_0 : decode cX10_worldsTrue 0 = .ok (.aload_n 0, 1) := by decide +kernel
theorem dX10_worldsTrue_1 : decode cX10_worldsTrue 1 = .ok (.getfield 35, 3) := by decide +kernel
theorem dX10_worldsTrue_4 : decode cX10_worldsTrue 4 = .ok (.invokevirtual 145, 3) := by decide +kernel
theorem dX10_worldsTrue_7 : decode cX10_worldsTrue 7 = .ok (.astore_n 1, 1) := by decide +kernel
theorem dX10_worldsTrue_8 : decode cX10_worldsTrue 8 = .ok (.aload_n 1, 1) := by decide +kernel
theorem dX10_worldsTrue_9 : decode cX10_worldsTrue 9 = .ok (.ifnonnull 6, 3) := by decide +kernel
theorem dX10_worldsTrue_12 : decode cX10_worldsTrue 12 = .ok (.bipush (-2), 2) := by decide +kernel
theorem dX10_worldsTrue_14 : decode cX10_worldsTrue 14 = .ok (.ireturn, 1) := by decide +kernel
theorem dX10_worldsTrue_15 : decode cX10_worldsTrue 15 = .ok (.aload_n 0, 1) := by decide +kernel
theorem dX10_worldsTrue_16 : decode cX10_worldsTrue 16 = .ok (.getfield 42, 3) := by decide +kernel
theorem dX10_worldsTrue_19 : decode cX10_worldsTrue 19 = .ok (.aload_n 1, 1) := by decide +kernel
theorem dX10_worldsTrue_20 : decode cX10_worldsTrue 20 = .ok (.iconst 0, 1) := by decide +kernel
theorem dX10_worldsTrue_21 : decode cX10_worldsTrue 21 = .ok (.invokevirtual 155, 3) := by decide +kernel
theorem dX10_worldsTrue_24 : decode cX10_worldsTrue 24 = .ok (.ifCond .ne 6, 3) := by decide +kernel
theorem dX10_worldsTrue_27 : decode cX10_worldsTrue 27 = .ok (.bipush (-3), 2) := by decide +kernel
theorem dX10_worldsTrue_29 : decode cX10_worldsTrue 29 = .ok (.ireturn, 1) := by decide +kernel
theorem dX10_worldsTrue_30 : decode cX10_worldsTrue 30 = .ok (.iconst 0, 1) := by decide +kernel
theorem dX10_worldsTrue_31 : decode cX10_worldsTrue 31 = .ok (.istore_n 2, 1) := by decide +kernel
theorem dX10_worldsTrue_32 : decode cX10_worldsTrue 32 = .ok (.aload_n 0, 1) := by decide +kernel
theorem dX10_worldsTrue_33 : decode cX10_worldsTrue 33 = .ok (.getfield 10, 3) := by decide +kernel
theorem dX10_worldsTrue_36 : decode cX10_worldsTrue 36 = .ok (.getfield 48, 3) := by decide +kernel
theorem dX10_worldsTrue_39 : decode cX10_worldsTrue 39 = .ok (.invokevirtual 103, 3) := by decide +kernel
theorem dX10_worldsTrue_42 : decode cX10_worldsTrue 42 = .ok (.istore_n 3, 1) := by decide +kernel
theorem dX10_worldsTrue_43 : decode cX10_worldsTrue 43 = .ok (.aload_n 0, 1) := by decide +kernel
theorem dX10_worldsTrue_44 : decode cX10_worldsTrue 44 = .ok (.getfield 71, 3) := by decide +kernel
theorem dX10_worldsTrue_47 : decode cX10_worldsTrue 47 = .ok (.aload_n 0, 1) := by decide +kernel
theorem dX10_worldsTrue_48 : decode cX10_worldsTrue 48 = .ok (.getfield 10, 3) := by decide +kernel
theorem dX10_worldsTrue_51 : decode cX10_worldsTrue 51 = .ok (.getfield 48, 3) := by decide +kernel
theorem dX10_worldsTrue_54 : decode cX10_worldsTrue 54 = .ok (.invokevirtual 235, 3) := by decide +kernel
theorem dX10_worldsTrue_57 : decode cX10_worldsTrue 57 = .ok (.iconst 0, 1) := by decide +kernel
theorem dX10_worldsTrue_58 : decode cX10_worldsTrue 58 = .ok (.istore 4, 2) := by decide +kernel
theorem dX10_worldsTrue_60 : decode cX10_worldsTrue 60 = .ok (.iload 4, 2) := by decide +kernel
theorem dX10_worldsTrue_62 : decode cX10_worldsTrue 62 = .ok (.iload_n 3, 1) := by decide +kernel
theorem dX10_worldsTrue_63 : decode cX10_worldsTrue 63 = .ok (.if_icmp .gt 60, 3) := by decide +kernel
theorem dX10_worldsTrue_66 : decode cX10_worldsTrue 66 = .ok (.iconst 0, 1) := by decide +kernel
theorem dX10_worldsTrue_67 : decode cX10_worldsTrue 67 = .ok (.istore 5, 2) := by decide +kernel
theorem dX10_worldsTrue_69 : decode cX10_worldsTrue 69 = .ok (.iload 5, 2) := by decide +kernel
theorem dX10_worldsTrue_71 : decode cX10_worldsTrue 71 = .ok (.iload_n 3, 1) := by decide +kernel
theorem dX10_worldsTrue_72 : decode cX10_worldsTrue 72 = .ok (.if_icmp .gt 45, 3) := by decide +kernel
theorem dX10_worldsTrue_75 : decode cX10_worldsTrue 75 = .ok (.aload_n 0, 1) := by decide +kernel
theorem dX10_worldsTrue_76 : decode cX10_worldsTrue 76 = .ok (.getfield 71, 3) := by decide +kernel
theorem dX10_worldsTrue_79 : decode cX10_worldsTrue 79 = .ok (.iconst 0, 1) := by decide +kernel
theorem dX10_worldsTrue_80 : decode cX10_worldsTrue 80 = .ok (.iload 4, 2) := by decide +kernel
theorem dX10_worldsTrue_82 : decode cX10_worldsTrue 82 = .ok (.invokevirtual 111, 3) := by decide +kernel
theorem dX10_worldsTrue_85 : decode cX10_worldsTrue 85 = .ok (.aload_n 0, 1) := by decide +kernel
theorem dX10_worldsTrue_86 : decode cX10_worldsTrue 86 = .ok (.getfield 71, 3) := by decide +kernel
theorem dX10_worldsTrue_89 : decode cX10_worldsTrue 89 = .ok (.iconst 1, 1) := by decide +kernel
theorem dX10_worldsTrue_90 : decode cX10_worldsTrue 90 = .ok (.iload 5, 2) := by decide +kernel
theorem dX10_worldsTrue_92 : decode cX10_worldsTrue 92 = .ok (.invokevirtual 111, 3) := by decide +kernel
theorem dX10_worldsTrue_95 : decode cX10_worldsTrue 95 = .ok (.iload_n 2, 1) := by decide +kernel
theorem dX10_worldsTrue_96 : decode cX10_worldsTrue 96 = .ok (.aload_n 0, 1) := by decide +kernel
theorem dX10_worldsTrue_97 : decode cX10_worldsTrue 97 = .ok (.aload_n 1, 1) := by decide +kernel
theorem dX10_worldsTrue_98 : decode cX10_worldsTrue 98 = .ok (.invokevirtual 237, 3) := by decide +kernel
theorem dX10_worldsTrue_101 : decode cX10_worldsTrue 101 = .ok (.ifCond .eq 7, 3) := by decide +kernel
theorem dX10_worldsTrue_104 : decode cX10_worldsTrue 104 = .ok (.iconst 1, 1) := by decide +kernel
theorem dX10_worldsTrue_105 : decode cX10_worldsTrue 105 = .ok (.goto 4, 3) := by decide +kernel
theorem dX10_worldsTrue_108 : decode cX10_worldsTrue 108 = .ok (.iconst 0, 1) := by decide +kernel
theorem dX10_worldsTrue_109 : decode cX10_worldsTrue 109 = .ok (.iadd, 1) := by decide +kernel
theorem dX10_worldsTrue_110 : decode cX10_worldsTrue 110 = .ok (.istore_n 2, 1) := by decide +kernel
theorem dX10_worldsTrue_111 : decode cX10_worldsTrue 111 = .ok (.iinc 5 1, 3) := by decide +kernel
theorem dX10_worldsTrue_114 : decode cX10_worldsTrue 114 = .ok (.goto (-45), 3) := by decide +kernel
theorem dX10_worldsTrue_117 : decode cX10_worldsTrue 117 = .ok (.iinc 4 1, 3) := by decide +kernel
theorem dX10_worldsTrue_120 : decode cX10_worldsTrue 120 = .ok (.goto (-60), 3) := by decide +kernel
theorem dX10_worldsTrue_123 : decode cX10_worldsTrue 123 = .ok (.iload_n 2, 1) := by decide +kernel
theorem dX10_worldsTrue_124 : decode cX10_worldsTrue 124 = .ok (.ireturn, 1) := by decide +kernel
theorem dX10_historySize_0 : decode cX10_historySize 0 = .ok (.aload_n 0, 1) := by decide +kernel
theorem dX10_historySize_1 : decode cX10_historySize 1 = .ok (.getfield 19, 3) := by decide +kernel
theorem dX10_historySize_4 : decode cX10_historySize 4 = .ok (.getfield 241, 3) := by decide +kernel
theorem dX10_historySize_7 : decode cX10_historySize 7 = .ok (.ireturn, 1) := by decide +kernel
theorem dX10_undo_0 : decode cX10_undo 0 = .ok (.aload_n 0, 1) := by decide +kernel
theorem dX10_undo_1 : decode cX10_undo 1 = .ok (.getfield 19, 3) := by decide +kernel
theorem dX10_undo_4 : decode cX10_undo 4 = .ok (.aload_n 0, 1) := by decide +kernel
theorem dX10_undo_5 : decode cX10_undo 5 = .ok (.getfield 10, 3) := by decide +kernel
theorem dX10_undo_8 : decode cX10_undo 8 = .ok (.invokevirtual 243, 3) := by decide +kernel
theorem dX10_undo_11 : decode cX10_undo 11 = .ok (.ifCond .eq 13, 3) := by decide +kernel
theorem dX10_undo_14 : decode cX10_undo 14 = .ok (.aload_n 0, 1) := by decide +kernel
theorem dX10_undo_15 : decode cX10_undo 15 = .ok (.getfield 19, 3) := by decide +kernel
theorem dX10_undo_18 : decode cX10_undo 18 = .ok (.getfield 241, 3) := by decide +kernel
theorem dX10_undo_21 : decode cX10_undo 21 = .ok (.goto 5, 3) := by decide +kernel
theorem dX10_undo_24 : decode cX10_undo 24 = .ok (.bipush (-6), 2) := by decide +kernel
theorem dX10_undo_26 : decode cX10_undo 26 = .ok (.ireturn, 1) := by decide +kernel
theorem dX10_tryAccepting_0 : decode cX10_tryAccepting 0 = .ok (.aload_n 1, 1) := by decide +kernel
theorem dX10_tryAccepting_1 : decode cX10_tryAccepting 1 = .ok (.ifnonnull 6, 3) := by decide +kernel
theorem dX10_tryAccepting_4 : decode cX10_tryAccepting 4 = .ok (.bipush (-2), 2) := by decide +kernel
theorem dX10_tryAccepting_6 : decode cX10_tryAccepting 6 = .ok (.ireturn, 1) := by decide +kernel
theorem dX10_tryAccepting_7 : decode cX10_tryAccepting 7 = .ok (.aload_n 0, 1) := by decide +kernel
theorem dX10_tryAccepting_8 : decode cX10_tryAccepting 8 = .ok (.getfield 42, 3) := by decide +kernel
theorem dX10_tryAccepting_11 : decode cX10_tryAccepting 11 = .ok (.aload_n 1, 1) := by decide +kernel
theorem dX10_tryAccepting_12 : decode cX10_tryAccepting 12 = .ok (.aload_n 0, 1) := by decide +kernel
theorem dX10_tryAccepting_13 : decode cX10_tryAccepting 13 = .ok (.getfield 10, 3) := by decide +kernel
theorem dX10_tryAccepting_16 : decode cX10_tryAccepting 16 = .ok (.getfield 152, 3) := by decide +kernel
theorem dX10_tryAccepting_19 : decode cX10_tryAccepting 19 = .ok (.invokevirtual 155, 3) := by decide +kernel
theorem dX10_tryAccepting_22 : decode cX10_tryAccepting 22 = .ok (.ifCond .ne 6, 3) := by decide +kernel
theorem dX10_tryAccepting_25 : decode cX10_tryAccepting 25 = .ok (.bipush (-3), 2) := by decide +kernel
theorem dX10_tryAccepting_27 : decode cX10_tryAccepting 27 = .ok (.ireturn, 1) := by decide +kernel
theorem dX10_tryAccepting_28 : decode cX10_tryAccepting 28 = .ok (.aload_n 0, 1) := by decide +kernel
theorem dX10_tryAccepting_29 : decode cX10_tryAccepting 29 = .ok (.getfield 64, 3) := by decide +kernel
theorem dX10_tryAccepting_32 : decode cX10_tryAccepting 32 = .ok (.aload_n 1, 1) := by decide +kernel
theorem dX10_tryAccepting_33 : decode cX10_tryAccepting 33 = .ok (.aload_n 0, 1) := by decide +kernel
theorem dX10_tryAccepting_34 : decode cX10_tryAccepting 34 = .ok (.getfield 10, 3) := by decide +kernel
theorem dX10_tryAccepting_37 : decode cX10_tryAccepting 37 = .ok (.invokevirtual 247, 3) := by decide +kernel
theorem dX10_tryAccepting_40 : decode cX10_tryAccepting 40 = .ok (.ifCond .eq 16, 3) := by decide +kernel
theorem dX10_tryAccepting_43 : decode cX10_tryAccepting 43 = .ok (.aload_n 0, 1) := by decide +kernel
theorem dX10_tryAccepting_44 : decode cX10_tryAccepting 44 = .ok (.getfield 64, 3) := by decide +kernel
theorem dX10_tryAccepting_47 : decode cX10_tryAccepting 47 = .ok (.getfield 201, 3) := by decide +kernel
theorem dX10_tryAccepting_50 : decode cX10_tryAccepting 50 = .ok (.invokevirtual 177, 3) := by decide +kernel
theorem dX10_tryAccepting_53 : decode cX10_tryAccepting 53 = .ok (.goto 5, 3) := by decide +kernel
theorem dX10_tryAccepting_56 : decode cX10_tryAccepting 56 = .ok (.bipush (-4), 2) := by decide +kernel
theorem dX10_tryAccepting_58 : decode cX10_tryAccepting 58 = .ok (.ireturn, 1) := by decide +kernel
theorem dX10_isTrueInOtherWorld_0 : decode cX10_isTrueInOtherWorld 0 = .ok (.aload_n 0, 1) := by decide +kernel
theorem dX10_isTrueInOtherWorld_1 : decode cX10_isTrueInOtherWorld 1 = .ok (.getfield 80, 3) := by decide +kernel
theorem dX10_isTrueInOtherWorld_4 : decode cX10_isTrueInOtherWorld 4 = .ok (.invokevirtual 251, 3) := by decide +kernel
theorem dX10_isTrueInOtherWorld_7 : decode cX10_isTrueInOtherWorld 7 = .ok (.aload_n 0, 1) := by decide +kernel
theorem dX10_isTrueInOtherWorld_8 : decode cX10_isTrueInOtherWorld 8 = .ok (.getfield 74, 3) := by decide +kernel
theorem dX10_isTrueInOtherWorld_11 : decode cX10_isTrueInOtherWorld 11 = .ok (.aload_n 1, 1) := by decide +kernel
theorem dX10_isTrueInOtherWorld_12 : decode cX10_isTrueInOtherWorld 12 = .ok (.aload_n 0, 1) := by decide +kernel
theorem dX10_isTrueInOtherWorld_13 : decode cX10_isTrueInOtherWorld 13 = .ok (.getfield 80, 3) := by decide +kernel
theorem dX10_isTrueInOtherWorld_16 : decode cX10_isTrueInOtherWorld 16 = .ok (.iconst 0, 1) := by decide +kernel
theorem dX10_isTrueInOtherWorld_17 : decode cX10_isTrueInOtherWorld 17 = .ok (.invokevirtual 223, 3) := by decide +kernel
theorem dX10_isTrueInOtherWorld_20 : decode cX10_isTrueInOtherWorld 20 = .ok (.aload_n 0, 1) := by decide +kernel
theorem dX10_isTrueInOtherWorld_21 : decode cX10_isTrueInOtherWorld 21 = .ok (.getfield 80, 3) := by decide +kernel
theorem dX10_isTrueInOtherWorld_24 : decode cX10_isTrueInOtherWorld 24 = .ok (.invokevirtual 254, 3) := by decide +kernel
theorem dX10_isTrueInOtherWorld_27 : decode cX10_isTrueInOtherWorld 27 = .ok (.ifCond .ne 7, 3) := by decide +kernel
theorem dX10_isTrueInOtherWorld_30 : decode cX10_isTrueInOtherWorld 30 = .ok (.iconst 1, 1) := by decide +kernel
theorem dX10_isTrueInOtherWorld_31 : decode cX10_isTrueInOtherWorld 31 = .ok (.goto 4, 3) := by decide +kernel
theorem dX10_isTrueInOtherWorld_34 : decode cX10_isTrueInOtherWorld 34 = .ok (.iconst 0, 1) := by decide +kernel
theorem dX10_isTrueInOtherWorld_35 : decode cX10_isTrueInOtherWorld 35 = .ok (.ireturn, 1) := by decide +kernel
theorem dX10_isIndividual_0 : decode cX10_isIndividual 0 = .ok (.iload_n 1, 1) := by decide +kernel
theorem dX10_isIndividual_1 : decode cX10_isIndividual 1 = .ok (.ifCond .lt 21, 3) := by decide +kernel
theorem dX10_isIndividual_4 : decode cX10_isIndividual 4 = .ok (.iload_n 1, 1) := by decide +kernel
theorem dX10_isIndividual_5 : decode cX10_isIndividual 5 = .ok (.aload_n 0, 1) := by decide +kernel
theorem dX10_isIndividual_6 : decode cX10_isIndividual 6 = .ok (.getfield 10, 3) := by decide +kernel
theorem dX10_isIndividual_9 : decode cX10_isIndividual 9 = .ok (.getfield 48, 3) := by decide +kernel
theorem dX10_isIndividual_12 : decode cX10_isIndividual 12 = .ok (.getfield 84, 3) := by decide +kernel
theorem dX10_isIndividual_15 : decode cX10_isIndividual 15 = .ok (.if_icmp .ge 7, 3) := by decide +kernel
theorem dX10_isIndividual_18 : decode cX10_isIndividual 18 = .ok (.iconst 1, 1) := by decide +kernel
theorem dX10_isIndividual_19 : decode cX10_isIndividual 19 = .ok (.goto 4, 3) := by decide +kernel
theorem dX10_isIndividual_22 : decode cX10_isIndividual 22 = .ok (.iconst 0, 1) := by decide +kernel
theorem dX10_isIndividual_23 : decode cX10_isIndividual 23 = .ok (.ireturn, 1) := by decide +kernel
theorem dX10_isObject_0 : decode cX10_isObject 0 = .ok (.iload_n 1, 1) := by decide +kernel
theorem dX10_isObject_1 : decode cX10_isObject 1 = .ok (.iconst 1, 1) := by decide +kernel
theorem dX10_isObject_2 : decode cX10_isObject 2 = .ok (.if_icmp .lt 21, 3) := by decide +kernel
theorem dX10_isObject_5 : decode cX10_isObject 5 = .ok (.iload_n 1, 1) := by decide +kernel
theorem dX10_isObject_6 : decode cX10_isObject 6 = .ok (.aload_n 0, 1) := by decide +kernel
theorem dX10_isObject_7 : decode cX10_isObject 7 = .ok (.getfield 10, 3) := by decide +kernel
theorem dX10_isObject_10 : decode cX10_isObject 10 = .ok (.getfield 48, 3) := by decide +kernel
theorem dX10_isObject_13 : decode cX10_isObject 13 = .ok (.invokevirtual 103, 3) := by decide +kernel
theorem dX10_isObject_16 : decode cX10_isObject 16 = .ok (.if_icmp .gt 7, 3) := by decide +kernel
theorem dX10_isObject_19 : decode cX10_isObject 19 = .ok (.iconst 1, 1) := by decide +kernel
theorem dX10_isObject_20 : decode cX10_isObject 20 = .ok (.goto 4, 3) := by decide +kernel
theorem dX10_isObject_23 : decode cX10_isObject 23 = .ok (.iconst 0, 1) := by decide +kernel
theorem dX10_isObject_24 : decode cX10_isObject 24 = .ok (.ireturn, 1) := by decide +kernel
theorem dX10_isPredicate_0 : decode cX10_isPredicate 0 = .ok (.iload_n 0, 1) := by decide +kernel
theorem dX10_isPredicate_1 : decode cX10_isPredicate 1 = .ok (.ifCond .lt 12, 3) := by decide +kernel
theorem dX10_isPredicate_4 : decode cX10_isPredicate 4 = .ok (.iload_n 0, 1) := by decide +kernel
theorem dX10_isPredicate_5 : decode cX10_isPredicate 5 = .ok (.iconst 3, 1) := by decide +kernel
theorem dX10_isPredicate_6 : decode cX10_isPredicate 6 = .ok (.if_icmp .ge 7, 3) := by decide +kernel
theorem dX10_isPredicate_9 : decode cX10_isPredicate 9 = .ok (.iconst 1, 1) := by decide +kernel
theorem dX10_isPredicate_10 : decode cX10_isPredicate 10 = .ok (.goto 4, 3) := by decide +kernel
theorem dX10_isPredicate_13 : decode cX10_isPredicate 13 = .ok (.iconst 0, 1) := by decide +kernel
theorem dX10_isPredicate_14 : decode cX10_isPredicate 14 = .ok (.ireturn, 1) := by decide +kernel
theorem dX10_isRelation_0 : decode cX10_isRelation 0 = .ok (.iload_n 0, 1) := by decide +kernel
theorem dX10_isRelation_1 : decode cX10_isRelation 1 = .ok (.ifCond .lt 12, 3) := by decide +kernel
theorem dX10_isRelation_4 : decode cX10_isRelation 4 = .ok (.iload_n 0, 1) := by decide +kernel
theorem dX10_isRelation_5 : decode cX10_isRelation 5 = .ok (.iconst 2, 1) := by decide +kernel
theorem dX10_isRelation_6 : decode cX10_isRelation 6 = .ok (.if_icmp .ge 7, 3) := by decide +kernel
theorem dX10_isRelation_9 : decode cX10_isRelation 9 = .ok (.iconst 1, 1) := by decide +kernel
theorem dX10_isRelation_10 : decode cX10_isRelation 10 = .ok (.goto 4, 3) := by decide +kernel
theorem dX10_isRelation_13 : decode cX10_isRelation 13 = .ok (.iconst 0, 1) := by decide +kernel
theorem dX10_isRelation_14 : decode cX10_isRelation 14 = .ok (.ireturn, 1) := by decide +kernel
theorem dX10_isVariable_0 : decode cX10_isVariable 0 = .ok (.iload_n 0, 1) := by decide +kernel
theorem dX10_isVariable_1 : decode cX10_isVariable 1 = .ok (.ifCond .lt 12, 3) := by decide +kernel
theorem dX10_isVariable_4 : decode cX10_isVariable 4 = .ok (.iload_n 0, 1) := by decide +kernel
theorem dX10_isVariable_5 : decode cX10_isVariable 5 = .ok (.iconst 3, 1) := by decide +kernel
theorem dX10_isVariable_6 : decode cX10_isVariable 6 = .ok (.if_icmp .ge 7, 3) := by decide +kernel
theorem dX10_isVariable_9 : decode cX10_isVariable 9 = .ok (.iconst 1, 1) := by decide +kernel
theorem dX10_isVariable_10 : decode cX10_isVariable 10 = .ok (.goto 4, 3) := by decide +kernel
theorem dX10_isVariable_13 : decode cX10_isVariable 13 = .ok (.iconst 0, 1) := by decide +kernel
theorem dX10_isVariable_14 : decode cX10_isVariable 14 = .ok (.ireturn, 1) := by decide +kernel
theorem dX10_isSwitch_0 : decode cX10_isSwitch 0 = .ok (.iload_n 0, 1) := by decide +kernel
theorem dX10_isSwitch_1 : decode cX10_isSwitch 1 = .ok (.ifCond .eq 8, 3) := by decide +kernel
theorem dX10_isSwitch_4 : decode cX10_isSwitch 4 = .ok (.iload_n 0, 1) := by decide +kernel
theorem dX10_isSwitch_5 : decode cX10_isSwitch 5 = .ok (.iconst 1, 1) := by decide +kernel
theorem dX10_isSwitch_6 : decode cX10_isSwitch 6 = .ok (.if_icmp .ne 7, 3) := by decide +kernel
theorem dX10_isSwitch_9 : decode cX10_isSwitch 9 = .ok (.iconst 1, 1) := by decide +kernel
theorem dX10_isSwitch_10 : decode cX10_isSwitch 10 = .ok (.goto 4, 3) := by decide +kernel
theorem dX10_isSwitch_13 : decode cX10_isSwitch 13 = .ok (.iconst 0, 1) := by decide +kernel
theorem dX10_isSwitch_14 : decode cX10_isSwitch 14 = .ok (.ireturn, 1) := by decide +kernel
theorem dX11_init_0 : decode cX11_init 0 = .ok (.aload_n 0, 1) := by decide +kernel
theorem dX11_init_1 : decode cX11_init 1 = .ok (.invokespecial 1, 3) := by decide +kernel
theorem dX11_init_4 : decode cX11_init 4 = .ok (.aload_n 0, 1) := by decide +kernel
theorem dX11_init_5 : decode cX11_init 5 = .ok (.bipush 25, 2) := by decide +kernel
theorem dX11_init_7 : decode cX11_init 7 = .ok (.newarray .int, 2) := by decide +kernel
theorem dX11_init_9 : decode cX11_init 9 = .ok (.putfield 7, 3) := by decide +kernel
theorem dX11_init_12 : decode cX11_init 12 = .ok (.aload_n 0, 1) := by decide +kernel
theorem dX11_init_13 : decode cX11_init 13 = .ok (.bipush 125, 2) := by decide +kernel
theorem dX11_init_15 : decode cX11_init 15 = .ok (.newarray .int, 2) := by decide +kernel
theorem dX11_init_17 : decode cX11_init 17 = .ok (.putfield 13, 3) := by decide +kernel
theorem dX11_init_20 : decode cX11_init 20 = .ok (.aload_n 0, 1) := by decide +kernel
theorem dX11_init_21 : decode cX11_init 21 = .ok (.bipush 60, 2) := by decide +kernel
theorem dX11_init_23 : decode cX11_init 23 = .ok (.newarray .int, 2) := by decide +kernel
theorem dX11_init_25 : decode cX11_init 25 = .ok (.putfield 16, 3) := by decide +kernel
theorem dX11_init_28 : decode cX11_init 28 = .ok (.aload_n 0, 1) := by decide +kernel
theorem dX11_init_29 : decode cX11_init 29 = .ok (.bipush 62, 2) := by decide +kernel
theorem dX11_init_31 : decode cX11_init 31 = .ok (.newarray .int, 2) := by decide +kernel
theorem dX11_init_33 : decode cX11_init 33 = .ok (.putfield 19, 3) := by decide +kernel
theorem dX11_init_36 : decode cX11_init 36 = .ok (.aload_n 0, 1) := by decide +kernel
theorem dX11_init_37 : decode cX11_init 37 = .ok (.sipush 31744, 3) := by decide +kernel
theorem dX11_init_40 : decode cX11_init 40 = .ok (.newarray .boolean, 2) := by decide +kernel
theorem dX11_init_42 : decode cX11_init 42 = .ok (.putfield 22, 3) := by decide +kernel
theorem dX11_init_45 : decode cX11_init 45 = .ok (.aload_n 0, 1) := by decide +kernel
theorem dX11_init_46 : decode cX11_init 46 = .ok (.sipush 512, 3) := by decide +kernel
theorem dX11_init_49 : decode cX11_init 49 = .ok (.newarray .boolean, 2) := by decide +kernel
theorem dX11_init_51 : decode cX11_init 51 = .ok (.putfield 26, 3) := by decide +kernel
theorem dX11_init_54 : decode cX11_init 54 = .ok (.aload_n 0, 1) := by decide +kernel
theorem dX11_init_55 : decode cX11_init 55 = .ok (.sipush 512, 3) := by decide +kernel
theorem dX11_init_58 : decode cX11_init 58 = .ok (.newarray .boolean, 2) := by decide +kernel
theorem dX11_init_60 : decode cX11_init 60 = .ok (.putfield 29, 3) := by decide +kernel
theorem dX11_init_63 : decode cX11_init 63 = .ok (.aload_n 0, 1) := by decide +kernel
theorem dX11_init_64 : decode cX11_init 64 = .ok (.sipush 512, 3) := by decide +kernel
theorem dX11_init_67 : decode cX11_init 67 = .ok (.newarray .boolean, 2) := by decide +kernel
theorem dX11_init_69 : decode cX11_init 69 = .ok (.putfield 32, 3) := by decide +kernel
theorem dX11_init_72 : decode cX11_init 72 = .ok (.aload_n 0, 1) := by decide +kernel
theorem dX11_init_73 : decode cX11_init 73 = .ok (.bipush 10, 2) := by decide +kernel
theorem dX11_init_75 : decode cX11_init 75 = .ok (.newarray .int, 2) := by decide +kernel
theorem dX11_init_77 : decode cX11_init 77 = .ok (.putfield 35, 3) := by decide +kernel
theorem dX11_init_80 : decode cX11_init 80 = .ok (.aload_n 0, 1) := by decide +kernel
theorem dX11_init_81 : decode cX11_init 81 = .ok (.bipush 10, 2) := by decide +kernel
theorem dX11_init_83 : decode cX11_init 83 = .ok (.newarray .int, 2) := by decide +kernel
theorem dX11_init_85 : decode cX11_init 85 = .ok (.putfield 38, 3) := by decide +kernel
theorem dX11_init_88 : decode cX11_init 88 = .ok (.aload_n 0, 1) := by decide +kernel
theorem dX11_init_89 : decode cX11_init 89 = .ok (.bipush 10, 2) := by decide +kernel
theorem dX11_init_91 : decode cX11_init 91 = .ok (.newarray .int, 2) := by decide +kernel
theorem dX11_init_93 : decode cX11_init 93 = .ok (.putfield 41, 3) := by decide +kernel
theorem dX11_init_96 : decode cX11_init 96 = .ok (.aload_n 0, 1) := by decide +kernel
theorem dX11_init_97 : decode cX11_init 97 = .ok (.bipush 10, 2) := by decide +kernel
theorem dX11_init_99 : decode cX11_init 99 = .ok (.newarray .int, 2) := by decide +kernel
theorem dX11_init_101 : decode cX11_init 101 = .ok (.putfield 44, 3) := by decide +kernel
theorem dX11_init_104 : decode cX11_init 104 = .ok (.aload_n 0, 1) := by decide +kernel
theorem dX11_init_105 : decode cX11_init 105 = .ok (.bipush 10, 2) := by decide +kernel
theorem dX11_init_107 : decode cX11_init 107 = .ok (.newarray .boolean, 2) := by decide +kernel
theorem dX11_init_109 : decode cX11_init 109 = .ok (.putfield 47, 3) := by decide +kernel
theorem dX11_init_112 : decode cX11_init 112 = .ok (.aload_n 0, 1) := by decide +kernel
theorem dX11_init_113 : decode cX11_init 113 = .ok (.bipush 10, 2) := by decide +kernel
theorem dX11_init_115 : decode cX11_init 115 = .ok (.newarray .boolean, 2) := by decide +kernel
theorem dX11_init_117 : decode cX11_init 117 = .ok (.putfield 50, 3) := by decide +kernel
theorem dX11_init_120 : decode cX11_init 120 = .ok (.aload_n 0, 1) := by decide +kernel
theorem dX11_init_121 : decode cX11_init 121 = .ok (.bipush 10, 2) := by decide +kernel
theorem dX11_init_123 : decode cX11_init 123 = .ok (.newarray .boolean, 2) := by decide +kernel
theorem dX11_init_125 : decode cX11_init 125 = .ok (.putfield 53, 3) := by decide +kernel
theorem dX11_init_128 : decode cX11_init 128 = .ok (.aload_n 0, 1) := by decide +kernel
theorem dX11_init_129 : decode cX11_init 129 = .ok (.sipush 5120, 3) := by decide +kernel
theorem dX11_init_132 : decode cX11_init 132 = .ok (.newarray .boolean, 2) := by decide +kernel
theorem dX11_init_134 : decode cX11_init 134 = .ok (.putfield 56, 3) := by decide +kernel
theorem dX11_init_137 : decode cX11_init 137 = .ok (.aload_n 0, 1) := by decide +kernel
theorem dX11_init_138 : decode cX11_init 138 = .ok (.getfield 7, 3) := by decide +kernel
theorem dX11_init_141 : decode cX11_init 141 = .ok (.iconst 0, 1) := by decide +kernel
theorem dX11_init_142 : decode cX11_init 142 = .ok (.iconst 2, 1) := by decide +kernel
theorem dX11_init_143 : decode cX11_init 143 = .ok (.iastore, 1) := by decide +kernel
theorem dX11_init_144 : decode cX11_init 144 = .ok (.aload_n 0, 1) := by decide +kernel
theorem dX11_init_145 : decode cX11_init 145 = .ok (.getfield 7, 3) := by decide +kernel
theorem dX11_init_148 : decode cX11_init 148 = .ok (.bipush 9, 2) := by decide +kernel
theorem dX11_init_150 : decode cX11_init 150 = .ok (.iconst 1, 1) := by decide +kernel
theorem dX11_init_151 : decode cX11_init 151 = .ok (.iastore, 1) := by decide +kernel
theorem dX11_init_152 : decode cX11_init 152 = .ok (.return_, 1) := by decide +kernel
theorem dX11_in_0 : decode cX11_in 0 = .ok (.iload_n 0, 1) := by decide +kernel
theorem dX11_in_1 : decode cX11_in 1 = .ok (.iload_n 1, 1) := by decide +kernel
theorem dX11_in_2 : decode cX11_in 2 = .ok (.if_icmp .lt 12, 3) := by decide +kernel
theorem dX11_in_5 : decode cX11_in 5 = .ok (.iload_n 0, 1) := by decide +kernel
theorem dX11_in_6 : decode cX11_in 6 = .ok (.iload_n 2, 1) := by decide +kernel
theorem dX11_in_7 : decode cX11_in 7 = .ok (.if_icmp .gt 7, 3) := by decide +kernel
theorem dX11_in_10 : decode cX11_in 10 = .ok (.iconst 1, 1) := by decide +kernel
theorem dX11_in_11 : decode cX11_in 11 = .ok (.goto 4, 3) := by decide +kernel
theorem dX11_in_14 : decode cX11_in 14 = .ok (.iconst 0, 1) := by decide +kernel
theorem dX11_in_15 : decode cX11_in 15 = .ok (.ireturn, 1) := by decide +kernel
theorem dX11_acts_0 : decode cX11_acts 0 = .ok (.aload_n 0, 1) := by decide +kernel
theorem dX11_acts_1 : decode cX11_acts 1 = .ok (.getfield 59, 3) := by decide +kernel
theorem dX11_acts_4 : decode cX11_acts 4 = .ok (.iconst 5, 1) := by decide +kernel
theorem dX11_acts_5 : decode cX11_acts 5 = .ok (.if_icmp .ne 42, 3) := by decide +kernel
theorem dX11_acts_8 : decode cX11_acts 8 = .ok (.iconst 0, 1) := by decide +kernel
theorem dX11_acts_9 : decode cX11_acts 9 = .ok (.istore_n 1, 1) := by decide +kernel
theorem dX11_acts_10 : decode cX11_acts 10 = .ok (.iload_n 1, 1) := by decide +kernel
theorem dX11_acts_11 : decode cX11_acts 11 = .ok (.bipush 100, 2) := by decide +kernel
theorem dX11_acts_13 : decode cX11_acts 13 = .ok (.if_icmp .ge 24, 3) := by decide +kernel
theorem dX11_acts_16 : decode cX11_acts 16 = .ok (.aload_n 0, 1) := by decide +kernel
theorem dX11_acts_17 : decode cX11_acts 17 = .ok (.getfield 13, 3) := by decide +kernel
theorem dX11_acts_20 : decode cX11_acts 20 = .ok (.iload_n 1, 1) := by decide +kernel
theorem dX11_acts_21 : decode cX11_acts 21 = .ok (.aload_n 0, 1) := by decide +kernel
theorem dX11_acts_22 : decode cX11_acts 22 = .ok (.getfield 13, 3) := by decide +kernel
theorem dX11_acts_25 : decode cX11_acts 25 = .ok (.iload_n 1, 1) := by decide +kernel
theorem dX11_acts_26 : decode cX11_acts 26 = .ok (.bipush 25, 2) := by decide +kernel
theorem dX11_acts_28 : decode cX11_acts 28 = .ok (.iadd, 1) := by decide +kernel
theorem dX11_acts_29 : decode cX11_acts 29 = .ok (.iaload, 1) := by decide +kernel
theorem dX11_acts_30 : decode cX11_acts 30 = .ok (.iastore, 1) := by decide +kernel
theorem dX11_acts_31 : decode cX11_acts 31 = .ok (.iinc 1 1, 3) := by decide +kernel
theorem dX11_acts_34 : decode cX11_acts 34 = .ok (.goto (-24), 3) := by decide +kernel
theorem dX11_acts_37 : decode cX11_acts 37 = .ok (.aload_n 0, 1) := by decide +kernel
theorem dX11_acts_38 : decode cX11_acts 38 = .ok (.dup, 1) := by decide +kernel
theorem dX11_acts_39 : decode cX11_acts 39 = .ok (.getfield 59, 3) := by decide +kernel
theorem dX11_acts_42 : decode cX11_acts 42 = .ok (.iconst 1, 1) := by decide +kernel
theorem dX11_acts_43 : decode cX11_acts 43 = .ok (.isub, 1) := by decide +kernel
theorem dX11_acts_44 : decode cX11_acts 44 = .ok (.putfield 59, 3) := by decide +kernel
theorem dX11_acts_47 : decode cX11_acts 47 = .ok (.iconst 0, 1) := by decide +kernel
theorem dX11_acts_48 : decode cX11_acts 48 = .ok (.istore_n 1, 1) := by decide +kernel
theorem dX11_acts_49 : decode cX11_acts 49 = .ok (.iload_n 1, 1) := by decide +kernel
theorem dX11_acts_50 : decode cX11_acts 50 = .ok (.bipush 25, 2) := by decide +kernel
theorem dX11_acts_52 : decode cX11_acts 52 = .ok (.if_icmp .ge 29, 3) := by decide +kernel
theorem dX11_acts_55 : decode cX11_acts 55 = .ok (.aload_n 0, 1) := by decide +kernel
theorem dX11_acts_56 : decode cX11_acts 56 = .ok (.getfield 13, 3) := by decide +kernel
theorem dX11_acts_59 : decode cX11_acts 59 = .ok (.bipush 25, 2) := by decide +kernel
theorem dX11_acts_61 : decode cX11_acts 61 = .ok (.aload_n 0, 1) := by decide +kernel
theorem dX11_acts_62 : decode cX11_acts 62 = .ok (.getfield 59, 3) := by decide +kernel
theorem dX11_acts_65 : decode cX11_acts 65 = .ok (.imul, 1) := by decide +kernel
theorem dX11_acts_66 : decode cX11_acts 66 = .ok (.iload_n 1, 1) := by decide +kernel
theorem dX11_acts_67 : decode cX11_acts 67 = .ok (.iadd, 1) := by decide +kernel
theorem dX11_acts_68 : decode cX11_acts 68 = .ok (.aload_n 0, 1) := by decide +kernel
theorem dX11_acts_69 : decode cX11_acts 69 = .ok (.getfield 7, 3) := by decide +kernel
theorem dX11_acts_72 : decode cX11_acts 72 = .ok (.iload_n 1, 1) := by decide +kernel
theorem dX11_acts_73 : decode cX11_acts 73 = .ok (.iaload, 1) := by decide +kernel
theorem dX11_acts_74 : decode cX11_acts 74 = .ok (.iastore, 1) := by decide +kernel
theorem dX11_acts_75 : decode cX11_acts 75 = .ok (.iinc 1 1, 3) := by decide +kernel
theorem dX11_acts_78 : decode cX11_acts 78 = .ok (.goto (-29), 3) := by decide +kernel
theorem dX11_acts_81 : decode cX11_acts 81 = .ok (.aload_n 0, 1) := by decide +kernel
theorem dX11_acts_82 : decode cX11_acts 82 = .ok (.dup, 1) := by decide +kernel
theorem dX11_acts_83 : decode cX11_acts 83 = .ok (.getfield 59, 3) := by decide +kernel
theorem dX11_acts_86 : decode cX11_acts 86 = .ok (.iconst 1, 1) := by decide +kernel
theorem dX11_acts_87 : decode cX11_acts 87 = .ok (.iadd, 1) := by decide +kernel
theorem dX11_acts_88 : decode cX11_acts 88 = .ok (.putfield 59, 3) := by decide +kernel
theorem dX11_acts_91 : decode cX11_acts 91 = .ok (.return_, 1) := by decide +kernel
theorem dX11_full_0 : decode cX11_full 0 = .ok (.iconst 1, 1) := by decide +kernel
theorem dX11_full_1 : decode cX11_full 1 = .ok (.aload_n 0, 1) := by decide +kernel
theorem dX11_full_2 : decode cX11_full 2 = .ok (.getfield 7, 3) := by decide +kernel
theorem dX11_full_5 : decode cX11_full 5 = .ok (.iconst 0, 1) := by decide +kernel
