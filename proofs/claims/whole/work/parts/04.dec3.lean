theorem dX11_full_6 : decode cX11_full 6 = .ok (.iaload, 1) := by decide +kernel
theorem dX11_full_7 : decode cX11_full 7 = .ok (.ishl, 1) := by decide +kernel
theorem dX11_full_8 : decode cX11_full 8 = .ok (.iconst 1, 1) := by decide +kernel
theorem dX11_full_9 : decode cX11_full 9 = .ok (.isub, 1) := by decide +kernel
theorem dX11_full_10 : decode cX11_full 10 = .ok (.ireturn, 1) := by decide +kernel
theorem dX11_isObject_0 : decode cX11_isObject 0 = .ok (.iload_n 1, 1) := by decide +kernel
theorem dX11_isObject_1 : decode cX11_isObject 1 = .ok (.iconst 1, 1) := by decide +kernel
theorem dX11_isObject_2 : decode cX11_isObject 2 = .ok (.aload_n 0, 1) := by decide +kernel
theorem dX11_isObject_3 : decode cX11_isObject 3 = .ok (.invokevirtual 63, 3) := by decide +kernel
theorem dX11_isObject_6 : decode cX11_isObject 6 = .ok (.invokestatic 67, 3) := by decide +kernel
theorem dX11_isObject_9 : decode cX11_isObject 9 = .ok (.ireturn, 1) := by decide +kernel
theorem dX11_isThere_0 : decode cX11_isThere 0 = .ok (.aload_n 0, 1) := by decide +kernel
theorem dX11_isThere_1 : decode cX11_isThere 1 = .ok (.getfield 7, 3) := by decide +kernel
theorem dX11_isThere_4 : decode cX11_isThere 4 = .ok (.bipush 9, 2) := by decide +kernel
theorem dX11_isThere_6 : decode cX11_isThere 6 = .ok (.iload_n 1, 1) := by decide +kernel
theorem dX11_isThere_7 : decode cX11_isThere 7 = .ok (.bipush 32, 2) := by decide +kernel
theorem dX11_isThere_9 : decode cX11_isThere 9 = .ok (.idiv, 1) := by decide +kernel
theorem dX11_isThere_10 : decode cX11_isThere 10 = .ok (.iadd, 1) := by decide +kernel
theorem dX11_isThere_11 : decode cX11_isThere 11 = .ok (.iaload, 1) := by decide +kernel
theorem dX11_isThere_12 : decode cX11_isThere 12 = .ok (.iload_n 1, 1) := by decide +kernel
theorem dX11_isThere_13 : decode cX11_isThere 13 = .ok (.bipush 32, 2) := by decide +kernel
theorem dX11_isThere_15 : decode cX11_isThere 15 = .ok (.irem, 1) := by decide +kernel
theorem dX11_isThere_16 : decode cX11_isThere 16 = .ok (.ishr, 1) := by decide +kernel
theorem dX11_isThere_17 : decode cX11_isThere 17 = .ok (.iconst 1, 1) := by decide +kernel
theorem dX11_isThere_18 : decode cX11_isThere 18 = .ok (.iand, 1) := by decide +kernel
theorem dX11_isThere_19 : decode cX11_isThere 19 = .ok (.iconst 1, 1) := by decide +kernel
theorem dX11_isThere_20 : decode cX11_isThere 20 = .ok (.if_icmp .ne 7, 3) := by decide +kernel
theorem dX11_isThere_23 : decode cX11_isThere 23 = .ok (.iconst 1, 1) := by decide +kernel
theorem dX11_isThere_24 : decode cX11_isThere 24 = .ok (.goto 4, 3) := by decide +kernel
theorem dX11_isThere_27 : decode cX11_isThere 27 = .ok (.iconst 0, 1) := by decide +kernel
theorem dX11_isThere_28 : decode cX11_isThere 28 = .ok (.ireturn, 1) := by decide +kernel
theorem dX11_of_0 : decode cX11_of 0 = .ok (.iload_n 0, 1) := by decide +kernel
theorem dX11_of_1 : decode cX11_of 1 = .ok (.iconst 3, 1) := by decide +kernel
theorem dX11_of_2 : decode cX11_of 2 = .ok (.iload_n 1, 1) := by decide +kernel
theorem dX11_of_3 : decode cX11_of 3 = .ok (.imul, 1) := by decide +kernel
theorem dX11_of_4 : decode cX11_of 4 = .ok (.ishr, 1) := by decide +kernel
theorem dX11_of_5 : decode cX11_of 5 = .ok (.bipush 7, 2) := by decide +kernel
theorem dX11_of_7 : decode cX11_of 7 = .ok (.iand, 1) := by decide +kernel
theorem dX11_of_8 : decode cX11_of 8 = .ok (.ireturn, 1) := by decide +kernel
theorem dX11_size_0 : decode cX11_size 0 = .ok (.iconst 0, 1) := by decide +kernel
theorem dX11_size_1 : decode cX11_size 1 = .ok (.istore_n 1, 1) := by decide +kernel
theorem dX11_size_2 : decode cX11_size 2 = .ok (.iconst 0, 1) := by decide +kernel
theorem dX11_size_3 : decode cX11_size 3 = .ok (.istore_n 2, 1) := by decide +kernel
theorem dX11_size_4 : decode cX11_size 4 = .ok (.iload_n 2, 1) := by decide +kernel
theorem dX11_size_5 : decode cX11_size 5 = .ok (.sipush 512, 3) := by decide +kernel
theorem dX11_size_8 : decode cX11_size 8 = .ok (.if_icmp .ge 25, 3) := by decide +kernel
theorem dX11_size_11 : decode cX11_size 11 = .ok (.iload_n 1, 1) := by decide +kernel
theorem dX11_size_12 : decode cX11_size 12 = .ok (.aload_n 0, 1) := by decide +kernel
theorem dX11_size_13 : decode cX11_size 13 = .ok (.iload_n 2, 1) := by decide +kernel
theorem dX11_size_14 : decode cX11_size 14 = .ok (.invokevirtual 71, 3) := by decide +kernel
theorem dX11_size_17 : decode cX11_size 17 = .ok (.ifCond .eq 7, 3) := by decide +kernel
theorem dX11_size_20 : decode cX11_size 20 = .ok (.iconst 1, 1) := by decide +kernel
theorem dX11_size_21 : decode cX11_size 21 = .ok (.goto 4, 3) := by decide +kernel
theorem dX11_size_24 : decode cX11_size 24 = .ok (.iconst 0, 1) := by decide +kernel
theorem dX11_size_25 : decode cX11_size 25 = .ok (.iadd, 1) := by decide +kernel
theorem dX11_size_26 : decode cX11_size 26 = .ok (.istore_n 1, 1) := by decide +kernel
theorem dX11_size_27 : decode cX11_size 27 = .ok (.iinc 2 1, 3) := by decide +kernel
theorem dX11_size_30 : decode cX11_size 30 = .ok (.goto (-26), 3) := by decide +kernel
theorem dX11_size_33 : decode cX11_size 33 = .ok (.iload_n 1, 1) := by decide +kernel
theorem dX11_size_34 : decode cX11_size 34 = .ok (.ireturn, 1) := by decide +kernel
theorem dX11_first_0 : decode cX11_first 0 = .ok (.aload_n 0, 1) := by decide +kernel
theorem dX11_first_1 : decode cX11_first 1 = .ok (.getfield 7, 3) := by decide +kernel
theorem dX11_first_4 : decode cX11_first 4 = .ok (.bipush 7, 2) := by decide +kernel
theorem dX11_first_6 : decode cX11_first 6 = .ok (.iconst 0, 1) := by decide +kernel
theorem dX11_first_7 : decode cX11_first 7 = .ok (.iastore, 1) := by decide +kernel
theorem dX11_first_8 : decode cX11_first 8 = .ok (.iconst 0, 1) := by decide +kernel
theorem dX11_first_9 : decode cX11_first 9 = .ok (.istore_n 1, 1) := by decide +kernel
theorem dX11_first_10 : decode cX11_first 10 = .ok (.iload_n 1, 1) := by decide +kernel
theorem dX11_first_11 : decode cX11_first 11 = .ok (.bipush 16, 2) := by decide +kernel
theorem dX11_first_13 : decode cX11_first 13 = .ok (.if_icmp .ge 27, 3) := by decide +kernel
theorem dX11_first_16 : decode cX11_first 16 = .ok (.aload_n 0, 1) := by decide +kernel
theorem dX11_first_17 : decode cX11_first 17 = .ok (.getfield 7, 3) := by decide +kernel
theorem dX11_first_20 : decode cX11_first 20 = .ok (.bipush 9, 2) := by decide +kernel
theorem dX11_first_22 : decode cX11_first 22 = .ok (.iload_n 1, 1) := by decide +kernel
theorem dX11_first_23 : decode cX11_first 23 = .ok (.iadd, 1) := by decide +kernel
theorem dX11_first_24 : decode cX11_first 24 = .ok (.iload_n 1, 1) := by decide +kernel
theorem dX11_first_25 : decode cX11_first 25 = .ok (.ifCond .ne 7, 3) := by decide +kernel
theorem dX11_first_28 : decode cX11_first 28 = .ok (.iconst 1, 1) := by decide +kernel
theorem dX11_first_29 : decode cX11_first 29 = .ok (.goto 4, 3) := by decide +kernel
theorem dX11_first_32 : decode cX11_first 32 = .ok (.iconst 0, 1) := by decide +kernel
theorem dX11_first_33 : decode cX11_first 33 = .ok (.iastore, 1) := by decide +kernel
theorem dX11_first_34 : decode cX11_first 34 = .ok (.iinc 1 1, 3) := by decide +kernel
theorem dX11_first_37 : decode cX11_first 37 = .ok (.goto (-27), 3) := by decide +kernel
theorem dX11_first_40 : decode cX11_first 40 = .ok (.return_, 1) := by decide +kernel
theorem dX11_setIndividuals_0 : decode cX11_setIndividuals 0 = .ok (.iload_n 1, 1) := by decide +kernel
theorem dX11_setIndividuals_1 : decode cX11_setIndividuals 1 = .ok (.iconst 1, 1) := by decide +kernel
theorem dX11_setIndividuals_2 : decode cX11_setIndividuals 2 = .ok (.iconst 3, 1) := by decide +kernel
theorem dX11_setIndividuals_3 : decode cX11_setIndividuals 3 = .ok (.invokestatic 67, 3) := by decide +kernel
theorem dX11_setIndividuals_6 : decode cX11_setIndividuals 6 = .ok (.ifCond .ne 5, 3) := by decide +kernel
theorem dX11_setIndividuals_9 : decode cX11_setIndividuals 9 = .ok (.iconst (-1), 1) := by decide +kernel
theorem dX11_setIndividuals_10 : decode cX11_setIndividuals 10 = .ok (.ireturn, 1) := by decide +kernel
theorem dX11_setIndividuals_11 : decode cX11_setIndividuals 11 = .ok (.aload_n 0, 1) := by decide +kernel
theorem dX11_setIndividuals_12 : decode cX11_setIndividuals 12 = .ok (.invokevirtual 75, 3) := by decide +kernel
theorem dX11_setIndividuals_15 : decode cX11_setIndividuals 15 = .ok (.aload_n 0, 1) := by decide +kernel
theorem dX11_setIndividuals_16 : decode cX11_setIndividuals 16 = .ok (.getfield 7, 3) := by decide +kernel
theorem dX11_setIndividuals_19 : decode cX11_setIndividuals 19 = .ok (.iconst 0, 1) := by decide +kernel
theorem dX11_setIndividuals_20 : decode cX11_setIndividuals 20 = .ok (.iaload, 1) := by decide +kernel
theorem dX11_setIndividuals_21 : decode cX11_setIndividuals 21 = .ok (.istore_n 2, 1) := by decide +kernel
theorem dX11_setIndividuals_22 : decode cX11_setIndividuals 22 = .ok (.aload_n 0, 1) := by decide +kernel
theorem dX11_setIndividuals_23 : decode cX11_setIndividuals 23 = .ok (.getfield 7, 3) := by decide +kernel
theorem dX11_setIndividuals_26 : decode cX11_setIndividuals 26 = .ok (.iconst 0, 1) := by decide +kernel
theorem dX11_setIndividuals_27 : decode cX11_setIndividuals 27 = .ok (.iload_n 1, 1) := by decide +kernel
theorem dX11_setIndividuals_28 : decode cX11_setIndividuals 28 = .ok (.iastore, 1) := by decide +kernel
theorem dX11_setIndividuals_29 : decode cX11_setIndividuals 29 = .ok (.iconst 1, 1) := by decide +kernel
theorem dX11_setIndividuals_30 : decode cX11_setIndividuals 30 = .ok (.istore_n 3, 1) := by decide +kernel
theorem dX11_setIndividuals_31 : decode cX11_setIndividuals 31 = .ok (.iload_n 3, 1) := by decide +kernel
theorem dX11_setIndividuals_32 : decode cX11_setIndividuals 32 = .ok (.bipush 6, 2) := by decide +kernel
theorem dX11_setIndividuals_34 : decode cX11_setIndividuals 34 = .ok (.if_icmp .ge 16, 3) := by decide +kernel
theorem dX11_setIndividuals_37 : decode cX11_setIndividuals 37 = .ok (.aload_n 0, 1) := by decide +kernel
theorem dX11_setIndividuals_38 : decode cX11_setIndividuals 38 = .ok (.getfield 7, 3) := by decide +kernel
theorem dX11_setIndividuals_41 : decode cX11_setIndividuals 41 = .ok (.iload_n 3, 1) := by decide +kernel
theorem dX11_setIndividuals_42 : decode cX11_setIndividuals 42 = .ok (.iconst 0, 1) := by decide +kernel
theorem dX11_setIndividuals_43 : decode cX11_setIndividuals 43 = .ok (.iastore, 1) := by decide +kernel
theorem dX11_setIndividuals_44 : decode cX11_setIndividuals 44 = .ok (.iinc 3 1, 3) := by decide +kernel
theorem dX11_setIndividuals_47 : decode cX11_setIndividuals 47 = .ok (.goto (-16), 3) := by decide +kernel
theorem dX11_setIndividuals_50 : decode cX11_setIndividuals 50 = .ok (.aload_n 0, 1) := by decide +kernel
theorem dX11_setIndividuals_51 : decode cX11_setIndividuals 51 = .ok (.invokevirtual 78, 3) := by decide +kernel
theorem dX11_setIndividuals_54 : decode cX11_setIndividuals 54 = .ok (.iload_n 2, 1) := by decide +kernel
theorem dX11_setIndividuals_55 : decode cX11_setIndividuals 55 = .ok (.ireturn, 1) := by decide +kernel
theorem dX11_setPredicate_0 : decode cX11_setPredicate 0 = .ok (.iload_n 1, 1) := by decide +kernel
theorem dX11_setPredicate_1 : decode cX11_setPredicate 1 = .ok (.iconst 0, 1) := by decide +kernel
theorem dX11_setPredicate_2 : decode cX11_setPredicate 2 = .ok (.iconst 2, 1) := by decide +kernel
theorem dX11_setPredicate_3 : decode cX11_setPredicate 3 = .ok (.invokestatic 67, 3) := by decide +kernel
theorem dX11_setPredicate_6 : decode cX11_setPredicate 6 = .ok (.ifCond .eq 15, 3) := by decide +kernel
theorem dX11_setPredicate_9 : decode cX11_setPredicate 9 = .ok (.iload_n 2, 1) := by decide +kernel
theorem dX11_setPredicate_10 : decode cX11_setPredicate 10 = .ok (.iconst 0, 1) := by decide +kernel
theorem dX11_setPredicate_11 : decode cX11_setPredicate 11 = .ok (.aload_n 0, 1) := by decide +kernel
theorem dX11_setPredicate_12 : decode cX11_setPredicate 12 = .ok (.invokevirtual 63, 3) := by decide +kernel
theorem dX11_setPredicate_15 : decode cX11_setPredicate 15 = .ok (.invokestatic 67, 3) := by decide +kernel
theorem dX11_setPredicate_18 : decode cX11_setPredicate 18 = .ok (.ifCond .ne 5, 3) := by decide +kernel
theorem dX11_setPredicate_21 : decode cX11_setPredicate 21 = .ok (.iconst (-1), 1) := by decide +kernel
theorem dX11_setPredicate_22 : decode cX11_setPredicate 22 = .ok (.ireturn, 1) := by decide +kernel
theorem dX11_setPredicate_23 : decode cX11_setPredicate 23 = .ok (.aload_n 0, 1) := by decide +kernel
theorem dX11_setPredicate_24 : decode cX11_setPredicate 24 = .ok (.invokevirtual 75, 3) := by decide +kernel
theorem dX11_setPredicate_27 : decode cX11_setPredicate 27 = .ok (.aload_n 0, 1) := by decide +kernel
theorem dX11_setPredicate_28 : decode cX11_setPredicate 28 = .ok (.getfield 7, 3) := by decide +kernel
theorem dX11_setPredicate_31 : decode cX11_setPredicate 31 = .ok (.iconst 1, 1) := by decide +kernel
theorem dX11_setPredicate_32 : decode cX11_setPredicate 32 = .ok (.iload_n 1, 1) := by decide +kernel
theorem dX11_setPredicate_33 : decode cX11_setPredicate 33 = .ok (.iadd, 1) := by decide +kernel
theorem dX11_setPredicate_34 : decode cX11_setPredicate 34 = .ok (.iaload, 1) := by decide +kernel
theorem dX11_setPredicate_35 : decode cX11_setPredicate 35 = .ok (.istore_n 3, 1) := by decide +kernel
theorem dX11_setPredicate_36 : decode cX11_setPredicate 36 = .ok (.aload_n 0, 1) := by decide +kernel
theorem dX11_setPredicate_37 : decode cX11_setPredicate 37 = .ok (.getfield 7, 3) := by decide +kernel
theorem dX11_setPredicate_40 : decode cX11_setPredicate 40 = .ok (.iconst 1, 1) := by decide +kernel
theorem dX11_setPredicate_41 : decode cX11_setPredicate 41 = .ok (.iload_n 1, 1) := by decide +kernel
theorem dX11_setPredicate_42 : decode cX11_setPredicate 42 = .ok (.iadd, 1) := by decide +kernel
theorem dX11_setPredicate_43 : decode cX11_setPredicate 43 = .ok (.iload_n 2, 1) := by decide +kernel
theorem dX11_setPredicate_44 : decode cX11_setPredicate 44 = .ok (.iastore, 1) := by decide +kernel
theorem dX11_setPredicate_45 : decode cX11_setPredicate 45 = .ok (.iload_n 3, 1) := by decide +kernel
theorem dX11_setPredicate_46 : decode cX11_setPredicate 46 = .ok (.ireturn, 1) := by decide +kernel
theorem dX11_setPair_0 : decode cX11_setPair 0 = .ok (.iload_n 1, 1) := by decide +kernel
theorem dX11_setPair_1 : decode cX11_setPair 1 = .ok (.iconst 0, 1) := by decide +kernel
theorem dX11_setPair_2 : decode cX11_setPair 2 = .ok (.iconst 1, 1) := by decide +kernel
theorem dX11_setPair_3 : decode cX11_setPair 3 = .ok (.invokestatic 67, 3) := by decide +kernel
theorem dX11_setPair_6 : decode cX11_setPair 6 = .ok (.ifCond .eq 45, 3) := by decide +kernel
theorem dX11_setPair_9 : decode cX11_setPair 9 = .ok (.iload_n 2, 1) := by decide +kernel
theorem dX11_setPair_10 : decode cX11_setPair 10 = .ok (.iconst 0, 1) := by decide +kernel
theorem dX11_setPair_11 : decode cX11_setPair 11 = .ok (.aload_n 0, 1) := by decide +kernel
theorem dX11_setPair_12 : decode cX11_setPair 12 = .ok (.getfield 7, 3) := by decide +kernel
theorem dX11_setPair_15 : decode cX11_setPair 15 = .ok (.iconst 0, 1) := by decide +kernel
theorem dX11_setPair_16 : decode cX11_setPair 16 = .ok (.iaload, 1) := by decide +kernel
theorem dX11_setPair_17 : decode cX11_setPair 17 = .ok (.iconst 1, 1) := by decide +kernel
theorem dX11_setPair_18 : decode cX11_setPair 18 = .ok (.isub, 1) := by decide +kernel
theorem dX11_setPair_19 : decode cX11_setPair 19 = .ok (.invokestatic 67, 3) := by decide +kernel
theorem dX11_setPair_22 : decode cX11_setPair 22 = .ok (.ifCond .eq 29, 3) := by decide +kernel
theorem dX11_setPair_25 : decode cX11_setPair 25 = .ok (.iload_n 3, 1) := by decide +kernel
theorem dX11_setPair_26 : decode cX11_setPair 26 = .ok (.iconst 0, 1) := by decide +kernel
theorem dX11_setPair_27 : decode cX11_setPair 27 = .ok (.aload_n 0, 1) := by decide +kernel
theorem dX11_setPair_28 : decode cX11_setPair 28 = .ok (.getfield 7, 3) := by decide +kernel
theorem dX11_setPair_31 : decode cX11_setPair 31 = .ok (.iconst 0, 1) := by decide +kernel
theorem dX11_setPair_32 : decode cX11_setPair 32 = .ok (.iaload, 1) := by decide +kernel
theorem dX11_setPair_33 : decode cX11_setPair 33 = .ok (.iconst 1, 1) := by decide +kernel
theorem dX11_setPair_34 : decode cX11_setPair 34 = .ok (.isub, 1) := by decide +kernel
theorem dX11_setPair_35 : decode cX11_setPair 35 = .ok (.invokestatic 67, 3) := by decide +kernel
theorem dX11_setPair_38 : decode cX11_setPair 38 = .ok (.ifCond .eq 13, 3) := by decide +kernel
theorem dX11_setPair_41 : decode cX11_setPair 41 = .ok (.iload 4, 2) := by decide +kernel
theorem dX11_setPair_43 : decode cX11_setPair 43 = .ok (.iconst 0, 1) := by decide +kernel
theorem dX11_setPair_44 : decode cX11_setPair 44 = .ok (.iconst 1, 1) := by decide +kernel
theorem dX11_setPair_45 : decode cX11_setPair 45 = .ok (.invokestatic 67, 3) := by decide +kernel
theorem dX11_setPair_48 : decode cX11_setPair 48 = .ok (.ifCond .ne 5, 3) := by decide +kernel
theorem dX11_setPair_51 : decode cX11_setPair 51 = .ok (.iconst (-1), 1) := by decide +kernel
theorem dX11_setPair_52 : decode cX11_setPair 52 = .ok (.ireturn, 1) := by decide +kernel
theorem dX11_setPair_53 : decode cX11_setPair 53 = .ok (.aload_n 0, 1) := by decide +kernel
theorem dX11_setPair_54 : decode cX11_setPair 54 = .ok (.invokevirtual 75, 3) := by decide +kernel
theorem dX11_setPair_57 : decode cX11_setPair 57 = .ok (.iconst 3, 1) := by decide +kernel
theorem dX11_setPair_58 : decode cX11_setPair 58 = .ok (.iload_n 2, 1) := by decide +kernel
theorem dX11_setPair_59 : decode cX11_setPair 59 = .ok (.imul, 1) := by decide +kernel
theorem dX11_setPair_60 : decode cX11_setPair 60 = .ok (.iload_n 3, 1) := by decide +kernel
theorem dX11_setPair_61 : decode cX11_setPair 61 = .ok (.iadd, 1) := by decide +kernel
theorem dX11_setPair_62 : decode cX11_setPair 62 = .ok (.istore 5, 2) := by decide +kernel
theorem dX11_setPair_64 : decode cX11_setPair 64 = .ok (.aload_n 0, 1) := by decide +kernel
theorem dX11_setPair_65 : decode cX11_setPair 65 = .ok (.getfield 7, 3) := by decide +kernel
theorem dX11_setPair_68 : decode cX11_setPair 68 = .ok (.iconst 4, 1) := by decide +kernel
theorem dX11_setPair_69 : decode cX11_setPair 69 = .ok (.iload_n 1, 1) := by decide +kernel
theorem dX11_setPair_70 : decode cX11_setPair 70 = .ok (.iadd, 1) := by decide +kernel
theorem dX11_setPair_71 : decode cX11_setPair 71 = .ok (.iaload, 1) := by decide +kernel
theorem dX11_setPair_72 : decode cX11_setPair 72 = .ok (.iload 5, 2) := by decide +kernel
theorem dX11_setPair_74 : decode cX11_setPair 74 = .ok (.ishr, 1) := by decide +kernel
theorem dX11_setPair_75 : decode cX11_setPair 75 = .ok (.iconst 1, 1) := by decide +kernel
theorem dX11_setPair_76 : decode cX11_setPair 76 = .ok (.iand, 1) := by decide +kernel
theorem dX11_setPair_77 : decode cX11_setPair 77 = .ok (.istore 6, 2) := by decide +kernel
theorem dX11_setPair_79 : decode cX11_setPair 79 = .ok (.aload_n 0, 1) := by decide +kernel
theorem dX11_setPair_80 : decode cX11_setPair 80 = .ok (.getfield 7, 3) := by decide +kernel
theorem dX11_setPair_83 : decode cX11_setPair 83 = .ok (.iconst 4, 1) := by decide +kernel
theorem dX11_setPair_84 : decode cX11_setPair 84 = .ok (.iload_n 1, 1) := by decide +kernel
theorem dX11_setPair_85 : decode cX11_setPair 85 = .ok (.iadd, 1) := by decide +kernel
theorem dX11_setPair_86 : decode cX11_setPair 86 = .ok (.aload_n 0, 1) := by decide +kernel
theorem dX11_setPair_87 : decode cX11_setPair 87 = .ok (.getfield 7, 3) := by decide +kernel
theorem dX11_setPair_90 : decode cX11_setPair 90 = .ok (.iconst 4, 1) := by decide +kernel
theorem dX11_setPair_91 : decode cX11_setPair 91 = .ok (.iload_n 1, 1) := by decide +kernel
theorem dX11_setPair_92 : decode cX11_setPair 92 = .ok (.iadd, 1) := by decide +kernel
theorem dX11_setPair_93 : decode cX11_setPair 93 = .ok (.iaload, 1) := by decide +kernel
theorem dX11_setPair_94 : decode cX11_setPair 94 = .ok (.iconst 1, 1) := by decide +kernel
theorem dX11_setPair_95 : decode cX11_setPair 95 = .ok (.iload 5, 2) := by decide +kernel
theorem dX11_setPair_97 : decode cX11_setPair 97 = .ok (.ishl, 1) := by decide +kernel
theorem dX11_setPair_98 : decode cX11_setPair 98 = .ok (.iconst (-1), 1) := by decide +kernel
theorem dX11_setPair_99 : decode cX11_setPair 99 = .ok (.ixor, 1) := by decide +kernel
theorem dX11_setPair_100 : decode cX11_setPair 100 = .ok (.iand, 1) := by decide +kernel
theorem dX11_setPair_101 : decode cX11_setPair 101 = .ok (.iload 4, 2) := by decide +kernel
theorem dX11_setPair_103 : decode cX11_setPair 103 = .ok (.iload 5, 2) := by decide +kernel
theorem dX11_setPair_105 : decode cX11_setPair 105 = .ok (.ishl, 1) := by decide +kernel
theorem dX11_setPair_106 : decode cX11_setPair 106 = .ok (.ior, 1) := by decide +kernel
theorem dX11_setPair_107 : decode cX11_setPair 107 = .ok (.iastore, 1) := by decide +kernel
theorem dX11_setPair_108 : decode cX11_setPair 108 = .ok (.iload 6, 2) := by decide +kernel
theorem dX11_setPair_110 : decode cX11_setPair 110 = .ok (.ireturn, 1) := by decide +kernel
theorem dX11_individuals_0 : decode cX11_individuals 0 = .ok (.aload_n 0, 1) := by decide +kernel
theorem dX11_individuals_1 : decode cX11_individuals 1 = .ok (.getfield 7, 3) := by decide +kernel
theorem dX11_individuals_4 : decode cX11_individuals 4 = .ok (.iconst 0, 1) := by decide +kernel
theorem dX11_individuals_5 : decode cX11_individuals 5 = .ok (.iaload, 1) := by decide +kernel
theorem dX11_individuals_6 : decode cX11_individuals 6 = .ok (.ireturn, 1) := by decide +kernel
theorem dX11_predicate_0 : decode cX11_predicate 0 = .ok (.iload_n 1, 1) := by decide +kernel
theorem dX11_predicate_1 : decode cX11_predicate 1 = .ok (.iconst 0, 1) := by decide +kernel
theorem dX11_predicate_2 : decode cX11_predicate 2 = .ok (.iconst 2, 1) := by decide +kernel
theorem dX11_predicate_3 : decode cX11_predicate 3 = .ok (.invokestatic 67, 3) := by decide +kernel
theorem dX11_predicate_6 : decode cX11_predicate 6 = .ok (.ifCond .eq 14, 3) := by decide +kernel
theorem dX11_predicate_9 : decode cX11_predicate 9 = .ok (.aload_n 0, 1) := by decide +kernel
theorem dX11_predicate_10 : decode cX11_predicate 10 = .ok (.getfield 7, 3) := by decide +kernel
theorem dX11_predicate_13 : decode cX11_predicate 13 = .ok (.iconst 1, 1) := by decide +kernel
theorem dX11_predicate_14 : decode cX11_predicate 14 = .ok (.iload_n 1, 1) := by decide +kernel
theorem dX11_predicate_15 : decode cX11_predicate 15 = .ok (.iadd, 1) := by decide +kernel
theorem dX11_predicate_16 : decode cX11_predicate 16 = .ok (.iaload, 1) := by decide +kernel
theorem dX11_predicate_17 : decode cX11_predicate 17 = .ok (.goto 4, 3) := by decide +kernel
theorem dX11_predicate_20 : decode cX11_predicate 20 = .ok (.iconst (-1), 1) := by decide +kernel
theorem dX11_predicate_21 : decode cX11_predicate 21 = .ok (.ireturn, 1) := by decide +kernel
theorem dX11_holds_0 : decode cX11_holds 0 = .ok (.iconst 0, 1) := by decide +kernel
theorem dX11_holds_1 : decode cX11_holds 1 = .ok (.istore 4, 2) := by decide +kernel
theorem dX11_holds_3 : decode cX11_holds 3 = .ok (.iconst 1, 1) := by decide +kernel
theorem dX11_holds_4 : decode cX11_holds 4 = .ok (.istore 5, 2) := by decide +kernel
theorem dX11_holds_6 : decode cX11_holds 6 = .ok (.iconst 0, 1) := by decide +kernel
theorem dX11_holds_7 : decode cX11_holds 7 = .ok (.istore 6, 2) := by decide +kernel
theorem dX11_holds_9 : decode cX11_holds 9 = .ok (.iload 6, 2) := by decide +kernel
theorem dX11_holds_11 : decode cX11_holds 11 = .ok (.iconst 3, 1) := by decide +kernel
theorem dX11_holds_12 : decode cX11_holds 12 = .ok (.if_icmp .ge 137, 3) := by decide +kernel
theorem dX11_holds_15 : decode cX11_holds 15 = .ok (.iconst 0, 1) := by decide +kernel
theorem dX11_holds_16 : decode cX11_holds 16 = .ok (.istore 7, 2) := by decide +kernel
theorem dX11_holds_18 : decode cX11_holds 18 = .ok (.iconst 0, 1) := by decide +kernel
theorem dX11_holds_19 : decode cX11_holds 19 = .ok (.istore 8, 2) := by decide +kernel
theorem dX11_holds_21 : decode cX11_holds 21 = .ok (.iload 8, 2) := by decide +kernel
theorem dX11_holds_23 : decode cX11_holds 23 = .ok (.iconst 3, 1) := by decide +kernel
theorem dX11_holds_24 : decode cX11_holds 24 = .ok (.if_icmp .ge 93, 3) := by decide +kernel
theorem dX11_holds_27 : decode cX11_holds 27 = .ok (.iload_n 2, 1) := by decide +kernel
theorem dX11_holds_28 : decode cX11_holds 28 = .ok (.iload 6, 2) := by decide +kernel
theorem dX11_holds_30 : decode cX11_holds 30 = .ok (.ishr, 1) := by decide +kernel
theorem dX11_holds_31 : decode cX11_holds 31 = .ok (.iconst 1, 1) := by decide +kernel
theorem dX11_holds_32 : decode cX11_holds 32 = .ok (.iand, 1) := by decide +kernel
theorem dX11_holds_33 : decode cX11_holds 33 = .ok (.iconst 1, 1) := by decide +kernel
theorem dX11_holds_34 : decode cX11_holds 34 = .ok (.if_icmp .ne 83, 3) := by decide +kernel
theorem dX11_holds_37 : decode cX11_holds 37 = .ok (.iload_n 3, 1) := by decide +kernel
theorem dX11_holds_38 : decode cX11_holds 38 = .ok (.iload 8, 2) := by decide +kernel
theorem dX11_holds_40 : decode cX11_holds 40 = .ok (.ishr, 1) := by decide +kernel
theorem dX11_holds_41 : decode cX11_holds 41 = .ok (.iconst 1, 1) := by decide +kernel
theorem dX11_holds_42 : decode cX11_holds 42 = .ok (.iand, 1) := by decide +kernel
theorem dX11_holds_43 : decode cX11_holds 43 = .ok (.iconst 1, 1) := by decide +kernel
theorem dX11_holds_44 : decode cX11_holds 44 = .ok (.if_icmp .ne 29, 3) := by decide +kernel
theorem dX11_holds_47 : decode cX11_holds 47 = .ok (.aload_n 0, 1) := by decide +kernel
theorem dX11_holds_48 : decode cX11_holds 48 = .ok (.getfield 7, 3) := by decide +kernel
theorem dX11_holds_51 : decode cX11_holds 51 = .ok (.iconst 4, 1) := by decide +kernel
theorem dX11_holds_52 : decode cX11_holds 52 = .ok (.iload_n 1, 1) := by decide +kernel
theorem dX11_holds_53 : decode cX11_holds 53 = .ok (.iadd, 1) := by decide +kernel
theorem dX11_holds_54 : decode cX11_holds 54 = .ok (.iaload, 1) := by decide +kernel
theorem dX11_holds_55 : decode cX11_holds 55 = .ok (.iconst 3, 1) := by decide +kernel
theorem dX11_holds_56 : decode cX11_holds 56 = .ok (.iload 6, 2) := by decide +kernel
theorem dX11_holds_58 : decode cX11_holds 58 = .ok (.imul, 1) := by decide +kernel
theorem dX11_holds_59 : decode cX11_holds 59 = .ok (.iload 8, 2) := by decide +kernel
theorem dX11_holds_61 : decode cX11_holds 61 = .ok (.iadd, 1) := by decide +kernel
theorem dX11_holds_62 : decode cX11_holds 62 = .ok (.ishr, 1) := by decide +kernel
theorem dX11_holds_63 : decode cX11_holds 63 = .ok (.iconst 1, 1) := by decide +kernel
theorem dX11_holds_64 : decode cX11_holds 64 = .ok (.iand, 1) := by decide +kernel
theorem dX11_holds_65 : decode cX11_holds 65 = .ok (.iconst 1, 1) := by decide +kernel
theorem dX11_holds_66 : decode cX11_holds 66 = .ok (.if_icmp .ne 7, 3) := by decide +kernel
theorem dX11_holds_69 : decode cX11_holds 69 = .ok (.iconst 1, 1) := by decide +kernel
theorem dX11_holds_70 : decode cX11_holds 70 = .ok (.goto 4, 3) := by decide +kernel
theorem dX11_holds_73 : decode cX11_holds 73 = .ok (.iconst 0, 1) := by decide +kernel
theorem dX11_holds_74 : decode cX11_holds 74 = .ok (.istore 9, 2) := by decide +kernel
theorem dX11_holds_76 : decode cX11_holds 76 = .ok (.iload 7, 2) := by decide +kernel
theorem dX11_holds_78 : decode cX11_holds 78 = .ok (.ifCond .ne 8, 3) := by decide +kernel
theorem dX11_holds_81 : decode cX11_holds 81 = .ok (.iload 9, 2) := by decide +kernel
theorem dX11_holds_83 : decode cX11_holds 83 = .ok (.ifCond .eq 7, 3) := by decide +kernel
theorem dX11_holds_86 : decode cX11_holds 86 = .ok (.iconst 1, 1) := by decide +kernel
theorem dX11_holds_87 : decode cX11_holds 87 = .ok (.goto 4, 3) := by decide +kernel
theorem dX11_holds_90 : decode cX11_holds 90 = .ok (.iconst 0, 1) := by decide +kernel
theorem dX11_holds_91 : decode cX11_holds 91 = .ok (.istore 7, 2) := by decide +kernel
theorem dX11_holds_93 : decode cX11_holds 93 = .ok (.iload 4, 2) := by decide +kernel
theorem dX11_holds_95 : decode cX11_holds 95 = .ok (.iload 9, 2) := by decide +kernel
theorem dX11_holds_97 : decode cX11_holds 97 = .ok (.ifCond .eq 10, 3) := by decide +kernel
theorem dX11_holds_100 : decode cX11_holds 100 = .ok (.iconst 1, 1) := by decide +kernel
theorem dX11_holds_101 : decode cX11_holds 101 = .ok (.iload 8, 2) := by decide +kernel
theorem dX11_holds_103 : decode cX11_holds 103 = .ok (.ishl, 1) := by decide +kernel
theorem dX11_holds_104 : decode cX11_holds 104 = .ok (.goto 4, 3) := by decide +kernel
theorem dX11_holds_107 : decode cX11_holds 107 = .ok (.iconst 0, 1) := by decide +kernel
theorem dX11_holds_108 : decode cX11_holds 108 = .ok (.ior, 1) := by decide +kernel
theorem dX11_holds_109 : decode cX11_holds 109 = .ok (.istore 4, 2) := by decide +kernel
theorem dX11_holds_111 : decode cX11_holds 111 = .ok (.iinc 8 1, 3) := by decide +kernel
theorem dX11_holds_114 : decode cX11_holds 114 = .ok (.goto (-93), 3) := by decide +kernel
theorem dX11_holds_117 : decode cX11_holds 117 = .ok (.iload 5, 2) := by decide +kernel
theorem dX11_holds_119 : decode cX11_holds 119 = .ok (.ifCond .eq 21, 3) := by decide +kernel
theorem dX11_holds_122 : decode cX11_holds 122 = .ok (.iload 7, 2) := by decide +kernel
theorem dX11_holds_124 : decode cX11_holds 124 = .ok (.ifCond .ne 12, 3) := by decide +kernel
theorem dX11_holds_127 : decode cX11_holds 127 = .ok (.iload_n 2, 1) := by decide +kernel
theorem dX11_holds_128 : decode cX11_holds 128 = .ok (.iload 6, 2) := by decide +kernel
theorem dX11_holds_130 : decode cX11_holds 130 = .ok (.ishr, 1) := by decide +kernel
theorem dX11_holds_131 : decode cX11_holds 131 = .ok (.iconst 1, 1) := by decide +kernel
theorem dX11_holds_132 : decode cX11_holds 132 = .ok (.iand, 1) := by decide +kernel
theorem dX11_holds_133 : decode cX11_holds 133 = .ok (.ifCond .ne 7, 3) := by decide +kernel
theorem dX11_holds_136 : decode cX11_holds 136 = .ok (.iconst 1, 1) := by decide +kernel
theorem dX11_holds_137 : decode cX11_holds 137 = .ok (.goto 4, 3) := by decide +kernel
theorem dX11_holds_140 : decode cX11_holds 140 = .ok (.iconst 0, 1) := by decide +kernel
theorem dX11_holds_141 : decode cX11_holds 141 = .ok (.istore 5, 2) := by decide +kernel
theorem dX11_holds_143 : decode cX11_holds 143 = .ok (.iinc 6 1, 3) := by decide +kernel
theorem dX11_holds_146 : decode cX11_holds 146 = .ok (.goto (-137), 3) := by decide +kernel
theorem dX11_holds_149 : decode cX11_holds 149 = .ok (.iload 5, 2) := by decide +kernel
theorem dX11_holds_151 : decode cX11_holds 151 = .ok (.ifCond .eq 13, 3) := by decide +kernel
theorem dX11_holds_154 : decode cX11_holds 154 = .ok (.iload 4, 2) := by decide +kernel
theorem dX11_holds_156 : decode cX11_holds 156 = .ok (.iload_n 3, 1) := by decide +kernel
theorem dX11_holds_157 : decode cX11_holds 157 = .ok (.if_icmp .ne 7, 3) := by decide +kernel
theorem dX11_holds_160 : decode cX11_holds 160 = .ok (.iconst 1, 1) := by decide +kernel
theorem dX11_holds_161 : decode cX11_holds 161 = .ok (.goto 4, 3) := by decide +kernel
theorem dX11_holds_164 : decode cX11_holds 164 = .ok (.iconst 0, 1) := by decide +kernel
theorem dX11_holds_165 : decode cX11_holds 165 = .ok (.ireturn, 1) := by decide +kernel
theorem dX11_relationHolds_0 : decode cX11_relationHolds 0 = .ok (.iload_n 1, 1) := by decide +kernel
theorem dX11_relationHolds_1 : decode cX11_relationHolds 1 = .ok (.iconst 0, 1) := by decide +kernel
theorem dX11_relationHolds_2 : decode cX11_relationHolds 2 = .ok (.iconst 1, 1) := by decide +kernel
theorem dX11_relationHolds_3 : decode cX11_relationHolds 3 = .ok (.invokestatic 67, 3) := by decide +kernel
theorem dX11_relationHolds_6 : decode cX11_relationHolds 6 = .ok (.ifCond .eq 19, 3) := by decide +kernel
theorem dX11_relationHolds_9 : decode cX11_relationHolds 9 = .ok (.aload_n 0, 1) := by decide +kernel
theorem dX11_relationHolds_10 : decode cX11_relationHolds 10 = .ok (.iload_n 2, 1) := by decide +kernel
theorem dX11_relationHolds_11 : decode cX11_relationHolds 11 = .ok (.invokevirtual 81, 3) := by decide +kernel
theorem dX11_relationHolds_14 : decode cX11_relationHolds 14 = .ok (.ifCond .eq 11, 3) := by decide +kernel
theorem dX11_relationHolds_17 : decode cX11_relationHolds 17 = .ok (.aload_n 0, 1) := by decide +kernel
theorem dX11_relationHolds_18 : decode cX11_relationHolds 18 = .ok (.iload_n 3, 1) := by decide +kernel
theorem dX11_relationHolds_19 : decode cX11_relationHolds 19 = .ok (.invokevirtual 81, 3) := by decide +kernel
theorem dX11_relationHolds_22 : decode cX11_relationHolds 22 = .ok (.ifCond .ne 5, 3) := by decide +kernel
theorem dX11_relationHolds_25 : decode cX11_relationHolds 25 = .ok (.iconst (-1), 1) := by decide +kernel
theorem dX11_relationHolds_26 : decode cX11_relationHolds 26 = .ok (.ireturn, 1) := by decide +kernel
theorem dX11_relationHolds_27 : decode cX11_relationHolds 27 = .ok (.aload_n 0, 1) := by decide +kernel
theorem dX11_relationHolds_28 : decode cX11_relationHolds 28 = .ok (.iload_n 1, 1) := by decide +kernel
theorem dX11_relationHolds_29 : decode cX11_relationHolds 29 = .ok (.iload_n 2, 1) := by decide +kernel
theorem dX11_relationHolds_30 : decode cX11_relationHolds 30 = .ok (.iload_n 3, 1) := by decide +kernel
theorem dX11_relationHolds_31 : decode cX11_relationHolds 31 = .ok (.invokevirtual 84, 3) := by decide +kernel
theorem dX11_relationHolds_34 : decode cX11_relationHolds 34 = .ok (.ifCond .eq 7, 3) := by decide +kernel
theorem dX11_relationHolds_37 : decode cX11_relationHolds 37 = .ok (.iconst 1, 1) := by decide +kernel
theorem dX11_relationHolds_38 : decode cX11_relationHolds 38 = .ok (.goto 4, 3) := by decide +kernel
theorem dX11_relationHolds_41 : decode cX11_relationHolds 41 = .ok (.iconst 0, 1) := by decide +kernel
theorem dX11_relationHolds_42 : decode cX11_relationHolds 42 = .ok (.ireturn, 1) := by decide +kernel
theorem dX11_type_0 : decode cX11_type 0 = .ok (.iload_n 1, 1) := by decide +kernel
theorem dX11_type_1 : decode cX11_type 1 = .ok (.bipush 32, 2) := by decide +kernel
theorem dX11_type_3 : decode cX11_type 3 = .ok (.bipush 126, 2) := by decide +kernel
theorem dX11_type_5 : decode cX11_type 5 = .ok (.invokestatic 67, 3) := by decide +kernel
theorem dX11_type_8 : decode cX11_type 8 = .ok (.ifCond .ne 5, 3) := by decide +kernel
theorem dX11_type_11 : decode cX11_type 11 = .ok (.iconst (-1), 1) := by decide +kernel
theorem dX11_type_12 : decode cX11_type 12 = .ok (.ireturn, 1) := by decide +kernel
theorem dX11_type_13 : decode cX11_type 13 = .ok (.aload_n 0, 1) := by decide +kernel
theorem dX11_type_14 : decode cX11_type 14 = .ok (.getfield 87, 3) := by decide +kernel
theorem dX11_type_17 : decode cX11_type 17 = .ok (.bipush 60, 2) := by decide +kernel
theorem dX11_type_19 : decode cX11_type 19 = .ok (.if_icmp .ne 6, 3) := by decide +kernel
theorem dX11_type_22 : decode cX11_type 22 = .ok (.bipush (-5), 2) := by decide +kernel
theorem dX11_type_24 : decode cX11_type 24 = .ok (.ireturn, 1) := by decide +kernel
theorem dX11_type_25 : decode cX11_type 25 = .ok (.aload_n 0, 1) := by decide +kernel
theorem dX11_type_26 : decode cX11_type 26 = .ok (.getfield 16, 3) := by decide +kernel
theorem dX11_type_29 : decode cX11_type 29 = .ok (.aload_n 0, 1) := by decide +kernel
theorem dX11_type_30 : decode cX11_type 30 = .ok (.getfield 87, 3) := by decide +kernel
theorem dX11_type_33 : decode cX11_type 33 = .ok (.iload_n 1, 1) := by decide +kernel
theorem dX11_type_34 : decode cX11_type 34 = .ok (.iastore, 1) := by decide +kernel
theorem dX11_type_35 : decode cX11_type 35 = .ok (.aload_n 0, 1) := by decide +kernel
theorem dX11_type_36 : decode cX11_type 36 = .ok (.dup, 1) := by decide +kernel
theorem dX11_type_37 : decode cX11_type 37 = .ok (.getfield 87, 3) := by decide +kernel
theorem dX11_type_40 : decode cX11_type 40 = .ok (.iconst 1, 1) := by decide +kernel
theorem dX11_type_41 : decode cX11_type 41 = .ok (.iadd, 1) := by decide +kernel
theorem dX11_type_42 : decode cX11_type 42 = .ok (.putfield 87, 3) := by decide +kernel
theorem dX11_type_45 : decode cX11_type 45 = .ok (.aload_n 0, 1) := by decide +kernel
theorem dX11_type_46 : decode cX11_type 46 = .ok (.getfield 87, 3) := by decide +kernel
theorem dX11_type_49 : decode cX11_type 49 = .ok (.ireturn, 1) := by decide +kernel
theorem dX11_clearText_0 : decode cX11_clearText 0 = .ok (.aload_n 0, 1) := by decide +kernel
theorem dX11_clearText_1 : decode cX11_clearText 1 = .ok (.getfield 87, 3) := by decide +kernel
theorem dX11_clearText_4 : decode cX11_clearText 4 = .ok (.istore_n 1, 1) := by decide +kernel
theorem dX11_clearText_5 : decode cX11_clearText 5 = .ok (.aload_n 0, 1) := by decide +kernel
theorem dX11_clearText_6 : decode cX11_clearText 6 = .ok (.iconst 0, 1) := by decide +kernel
theorem dX11_clearText_7 : decode cX11_clearText 7 = .ok (.putfield 87, 3) := by decide +kernel
theorem dX11_clearText_10 : decode cX11_clearText 10 = .ok (.iload_n 1, 1) := by decide +kernel
theorem dX11_clearText_11 : decode cX11_clearText 11 = .ok (.ireturn, 1) := by decide +kernel
theorem dX11_pushes_0 : decode cX11_pushes 0 = .ok (.aload_n 0, 1) := by decide +kernel
theorem dX11_pushes_1 : decode cX11_pushes 1 = .ok (.getfield 19, 3) := by decide +kernel
theorem dX11_pushes_4 : decode cX11_pushes 4 = .ok (.aload_n 0, 1) := by decide +kernel
theorem dX11_pushes_5 : decode cX11_pushes 5 = .ok (.getfield 90, 3) := by decide +kernel
theorem dX11_pushes_8 : decode cX11_pushes 8 = .ok (.iload_n 1, 1) := by decide +kernel
theorem dX11_pushes_9 : decode cX11_pushes 9 = .ok (.iastore, 1) := by decide +kernel
theorem dX11_pushes_10 : decode cX11_pushes 10 = .ok (.aload_n 0, 1) := by decide +kernel
theorem dX11_pushes_11 : decode cX11_pushes 11 = .ok (.dup, 1) := by decide +kernel
theorem dX11_pushes_12 : decode cX11_pushes 12 = .ok (.getfield 90, 3) := by decide +kernel
theorem dX11_pushes_15 : decode cX11_pushes 15 = .ok (.iconst 1, 1) := by decide +kernel
theorem dX11_pushes_16 : decode cX11_pushes 16 = .ok (.iadd, 1) := by decide +kernel
theorem dX11_pushes_17 : decode cX11_pushes 17 = .ok (.putfield 90, 3) := by decide +kernel
theorem dX11_pushes_20 : decode cX11_pushes 20 = .ok (.return_, 1) := by decide +kernel
theorem dX11_pushesTest_0 : decode cX11_pushesTest 0 = .ok (.iconst 0, 1) := by decide +kernel
theorem dX11_pushesTest_1 : decode cX11_pushesTest 1 = .ok (.istore_n 2, 1) := by decide +kernel
theorem dX11_pushesTest_2 : decode cX11_pushesTest 2 = .ok (.iload_n 2, 1) := by decide +kernel
theorem dX11_pushesTest_3 : decode cX11_pushesTest 3 = .ok (.sipush 512, 3) := by decide +kernel
theorem dX11_pushesTest_6 : decode cX11_pushesTest 6 = .ok (.if_icmp .ge 46, 3) := by decide +kernel
theorem dX11_pushesTest_9 : decode cX11_pushesTest 9 = .ok (.aload_n 0, 1) := by decide +kernel
theorem dX11_pushesTest_10 : decode cX11_pushesTest 10 = .ok (.getfield 93, 3) := by decide +kernel
theorem dX11_pushesTest_13 : decode cX11_pushesTest 13 = .ok (.ifCond .eq 39, 3) := by decide +kernel
theorem dX11_pushesTest_16 : decode cX11_pushesTest 16 = .ok (.aload_n 0, 1) := by decide +kernel
theorem dX11_pushesTest_17 : decode cX11_pushesTest 17 = .ok (.getfield 22, 3) := by decide +kernel
theorem dX11_pushesTest_20 : decode cX11_pushesTest 20 = .ok (.sipush 512, 3) := by decide +kernel
theorem dX11_pushesTest_23 : decode cX11_pushesTest 23 = .ok (.aload_n 0, 1) := by decide +kernel
theorem dX11_pushesTest_24 : decode cX11_pushesTest 24 = .ok (.getfield 90, 3) := by decide +kernel
theorem dX11_pushesTest_27 : decode cX11_pushesTest 27 = .ok (.imul, 1) := by decide +kernel
theorem dX11_pushesTest_28 : decode cX11_pushesTest 28 = .ok (.iload_n 2, 1) := by decide +kernel
theorem dX11_pushesTest_29 : decode cX11_pushesTest 29 = .ok (.iadd, 1) := by decide +kernel
theorem dX11_pushesTest_30 : decode cX11_pushesTest 30 = .ok (.aload_n 0, 1) := by decide +kernel
theorem dX11_pushesTest_31 : decode cX11_pushesTest 31 = .ok (.getfield 26, 3) := by decide +kernel
theorem dX11_pushesTest_34 : decode cX11_pushesTest 34 = .ok (.iload_n 2, 1) := by decide +kernel
theorem dX11_pushesTest_35 : decode cX11_pushesTest 35 = .ok (.baload, 1) := by decide +kernel
theorem dX11_pushesTest_36 : decode cX11_pushesTest 36 = .ok (.iload_n 1, 1) := by decide +kernel
theorem dX11_pushesTest_37 : decode cX11_pushesTest 37 = .ok (.if_icmp .eq 7, 3) := by decide +kernel
theorem dX11_pushesTest_40 : decode cX11_pushesTest 40 = .ok (.iconst 1, 1) := by decide +kernel
theorem dX11_pushesTest_41 : decode cX11_pushesTest 41 = .ok (.goto 4, 3) := by decide +kernel
theorem dX11_pushesTest_44 : decode cX11_pushesTest 44 = .ok (.iconst 0, 1) := by decide +kernel
theorem dX11_pushesTest_45 : decode cX11_pushesTest 45 = .ok (.bastore, 1) := by decide +kernel
theorem dX11_pushesTest_46 : decode cX11_pushesTest 46 = .ok (.iinc 2 1, 3) := by decide +kernel
theorem dX11_pushesTest_49 : decode cX11_pushesTest 49 = .ok (.goto (-47), 3) := by decide +kernel
theorem dX11_pushesTest_52 : decode cX11_pushesTest 52 = .ok (.aload_n 0, 1) := by decide +kernel
theorem dX11_pushesTest_53 : decode cX11_pushesTest 53 = .ok (.iconst 3, 1) := by decide +kernel
theorem dX11_pushesTest_54 : decode cX11_pushesTest 54 = .ok (.invokevirtual 97, 3) := by decide +kernel
theorem dX11_pushesTest_57 : decode cX11_pushesTest 57 = .ok (.return_, 1) := by decide +kernel
theorem dX11_leads_0 : decode cX11_leads 0 = .ok (.aload_n 0, 1) := by decide +kernel
theorem dX11_leads_1 : decode cX11_leads 1 = .ok (.getfield 90, 3) := by decide +kernel
theorem dX11_leads_4 : decode cX11_leads 4 = .ok (.iconst 1, 1) := by decide +kernel
theorem dX11_leads_5 : decode cX11_leads 5 = .ok (.isub, 1) := by decide +kernel
theorem dX11_leads_6 : decode cX11_leads 6 = .ok (.istore_n 2, 1) := by decide +kernel
theorem dX11_leads_7 : decode cX11_leads 7 = .ok (.iload_n 2, 1) := by decide +kernel
theorem dX11_leads_8 : decode cX11_leads 8 = .ok (.iload_n 1, 1) := by decide +kernel
theorem dX11_leads_9 : decode cX11_leads 9 = .ok (.if_icmp .lt 182, 3) := by decide +kernel
theorem dX11_leads_12 : decode cX11_leads 12 = .ok (.aload_n 0, 1) := by decide +kernel
theorem dX11_leads_13 : decode cX11_leads 13 = .ok (.getfield 93, 3) := by decide +kernel
theorem dX11_leads_16 : decode cX11_leads 16 = .ok (.ifCond .eq 175, 3) := by decide +kernel
theorem dX11_leads_19 : decode cX11_leads 19 = .ok (.iconst 0, 1) := by decide +kernel
theorem dX11_leads_20 : decode cX11_leads 20 = .ok (.istore_n 3, 1) := by decide +kernel
theorem dX11_leads_21 : decode cX11_leads 21 = .ok (.iload_n 3, 1) := by decide +kernel
theorem dX11_leads_22 : decode cX11_leads 22 = .ok (.sipush 512, 3) := by decide +kernel
theorem dX11_leads_25 : decode cX11_leads 25 = .ok (.if_icmp .ge 21, 3) := by decide +kernel
theorem dX11_leads_28 : decode cX11_leads 28 = .ok (.aload_n 0, 1) := by decide +kernel
theorem dX11_leads_29 : decode cX11_leads 29 = .ok (.getfield 29, 3) := by decide +kernel
theorem dX11_leads_32 : decode cX11_leads 32 = .ok (.iload_n 3, 1) := by decide +kernel
theorem dX11_leads_33 : decode cX11_leads 33 = .ok (.aload_n 0, 1) := by decide +kernel
theorem dX11_leads_34 : decode cX11_leads 34 = .ok (.getfield 26, 3) := by decide +kernel
theorem dX11_leads_37 : decode cX11_leads 37 = .ok (.iload_n 3, 1) := by decide +kernel
theorem dX11_leads_38 : decode cX11_leads 38 = .ok (.baload, 1) := by decide +kernel
theorem dX11_leads_39 : decode cX11_leads 39 = .ok (.bastore, 1) := by decide +kernel
theorem dX11_leads_40 : decode cX11_leads 40 = .ok (.iinc 3 1, 3) := by decide +kernel
theorem dX11_leads_43 : decode cX11_leads 43 = .ok (.goto (-22), 3) := by decide +kernel
theorem dX11_leads_46 : decode cX11_leads 46 = .ok (.iconst 0, 1) := by decide +kernel
theorem dX11_leads_47 : decode cX11_leads 47 = .ok (.istore_n 3, 1) := by decide +kernel
theorem dX11_leads_48 : decode cX11_leads 48 = .ok (.iload_n 3, 1) := by decide +kernel
theorem dX11_leads_49 : decode cX11_leads 49 = .ok (.sipush 512, 3) := by decide +kernel
theorem dX11_leads_52 : decode cX11_leads 52 = .ok (.if_icmp .ge 133, 3) := by decide +kernel
theorem dX11_leads_55 : decode cX11_leads 55 = .ok (.aload_n 0, 1) := by decide +kernel
theorem dX11_leads_56 : decode cX11_leads 56 = .ok (.getfield 19, 3) := by decide +kernel
theorem dX11_leads_59 : decode cX11_leads 59 = .ok (.iload_n 2, 1) := by decide +kernel
theorem dX11_leads_60 : decode cX11_leads 60 = .ok (.iaload, 1) := by decide +kernel
theorem dX11_leads_61 : decode cX11_leads 61 = .ok (.iconst 3, 1) := by decide +kernel
theorem dX11_leads_62 : decode cX11_leads 62 = .ok (.if_icmp .ne 41, 3) := by decide +kernel
theorem dX11_leads_65 : decode cX11_leads 65 = .ok (.aload_n 0, 1) := by decide +kernel
theorem dX11_leads_66 : decode cX11_leads 66 = .ok (.getfield 26, 3) := by decide +kernel
theorem dX11_leads_69 : decode cX11_leads 69 = .ok (.iload_n 3, 1) := by decide +kernel
theorem dX11_leads_70 : decode cX11_leads 70 = .ok (.aload_n 0, 1) := by decide +kernel
theorem dX11_leads_71 : decode cX11_leads 71 = .ok (.getfield 29, 3) := by decide +kernel
theorem dX11_leads_74 : decode cX11_leads 74 = .ok (.iload_n 3, 1) := by decide +kernel
theorem dX11_leads_75 : decode cX11_leads 75 = .ok (.baload, 1) := by decide +kernel
theorem dX11_leads_76 : decode cX11_leads 76 = .ok (.ifCond .eq 22, 3) := by decide +kernel
theorem dX11_leads_79 : decode cX11_leads 79 = .ok (.aload_n 0, 1) := by decide +kernel
theorem dX11_leads_80 : decode cX11_leads 80 = .ok (.getfield 22, 3) := by decide +kernel
theorem dX11_leads_83 : decode cX11_leads 83 = .ok (.sipush 512, 3) := by decide +kernel
theorem dX11_leads_86 : decode cX11_leads 86 = .ok (.iload_n 2, 1) := by decide +kernel
theorem dX11_leads_87 : decode cX11_leads 87 = .ok (.imul, 1) := by decide +kernel
theorem dX11_leads_88 : decode cX11_leads 88 = .ok (.iload_n 3, 1) := by decide +kernel
theorem dX11_leads_89 : decode cX11_leads 89 = .ok (.iadd, 1) := by decide +kernel
theorem dX11_leads_90 : decode cX11_leads 90 = .ok (.baload, 1) := by decide +kernel
theorem dX11_leads_91 : decode cX11_leads 91 = .ok (.ifCond .eq 7, 3) := by decide +kernel
theorem dX11_leads_94 : decode cX11_leads 94 = .ok (.iconst 1, 1) := by decide +kernel
theorem dX11_leads_95 : decode cX11_leads 95 = .ok (.goto 4, 3) := by decide +kernel
theorem dX11_leads_98 : decode cX11_leads 98 = .ok (.iconst 0, 1) := by decide +kernel
theorem dX11_leads_99 : decode cX11_leads 99 = .ok (.bastore, 1) := by decide +kernel
theorem dX11_leads_100 : decode cX11_leads 100 = .ok (.goto 79, 3) := by decide +kernel
theorem dX11_leads_103 : decode cX11_leads 103 = .ok (.iconst 0, 1) := by decide +kernel
theorem dX11_leads_104 : decode cX11_leads 104 = .ok (.istore 4, 2) := by decide +kernel
theorem dX11_leads_106 : decode cX11_leads 106 = .ok (.iconst 1, 1) := by decide +kernel
theorem dX11_leads_107 : decode cX11_leads 107 = .ok (.istore 5, 2) := by decide +kernel
theorem dX11_leads_109 : decode cX11_leads 109 = .ok (.iload 5, 2) := by decide +kernel
theorem dX11_leads_111 : decode cX11_leads 111 = .ok (.aload_n 0, 1) := by decide +kernel
theorem dX11_leads_112 : decode cX11_leads 112 = .ok (.invokevirtual 63, 3) := by decide +kernel
theorem dX11_leads_115 : decode cX11_leads 115 = .ok (.if_icmp .gt 56, 3) := by decide +kernel
theorem dX11_leads_118 : decode cX11_leads 118 = .ok (.iload 4, 2) := by decide +kernel
theorem dX11_leads_120 : decode cX11_leads 120 = .ok (.ifCond .ne 38, 3) := by decide +kernel
theorem dX11_leads_123 : decode cX11_leads 123 = .ok (.aload_n 0, 1) := by decide +kernel
theorem dX11_leads_124 : decode cX11_leads 124 = .ok (.getfield 29, 3) := by decide +kernel
theorem dX11_leads_127 : decode cX11_leads 127 = .ok (.iload_n 3, 1) := by decide +kernel
theorem dX11_leads_128 : decode cX11_leads 128 = .ok (.bipush 7, 2) := by decide +kernel
theorem dX11_leads_130 : decode cX11_leads 130 = .ok (.iconst 3, 1) := by decide +kernel
theorem dX11_leads_131 : decode cX11_leads 131 = .ok (.aload_n 0, 1) := by decide +kernel
theorem dX11_leads_132 : decode cX11_leads 132 = .ok (.getfield 19, 3) := by decide +kernel
theorem dX11_leads_135 : decode cX11_leads 135 = .ok (.iload_n 2, 1) := by decide +kernel
theorem dX11_leads_136 : decode cX11_leads 136 = .ok (.iaload, 1) := by decide +kernel
theorem dX11_leads_137 : decode cX11_leads 137 = .ok (.imul, 1) := by decide +kernel
theorem dX11_leads_138 : decode cX11_leads 138 = .ok (.ishl, 1) := by decide +kernel
theorem dX11_leads_139 : decode cX11_leads 139 = .ok (.iconst (-1), 1) := by decide +kernel
theorem dX11_leads_140 : decode cX11_leads 140 = .ok (.ixor, 1) := by decide +kernel
theorem dX11_leads_141 : decode cX11_leads 141 = .ok (.iand, 1) := by decide +kernel
theorem dX11_leads_142 : decode cX11_leads 142 = .ok (.iload 5, 2) := by decide +kernel
theorem dX11_leads_144 : decode cX11_leads 144 = .ok (.iconst 3, 1) := by decide +kernel
theorem dX11_leads_145 : decode cX11_leads 145 = .ok (.aload_n 0, 1) := by decide +kernel
theorem dX11_leads_146 : decode cX11_leads 146 = .ok (.getfield 19, 3) := by decide +kernel
theorem dX11_leads_149 : decode cX11_leads 149 = .ok (.iload_n 2, 1) := by decide +kernel
theorem dX11_leads_150 : decode cX11_leads 150 = .ok (.iaload, 1) := by decide +kernel
theorem dX11_leads_151 : decode cX11_leads 151 = .ok (.imul, 1) := by decide +kernel
theorem dX11_leads_152 : decode cX11_leads 152 = .ok (.ishl, 1) := by decide +kernel
theorem dX11_leads_153 : decode cX11_leads 153 = .ok (.ior, 1) := by decide +kernel
theorem dX11_leads_154 : decode cX11_leads 154 = .ok (.baload, 1) := by decide +kernel
theorem dX11_leads_155 : decode cX11_leads 155 = .ok (.ifCond .eq 7, 3) := by decide +kernel
theorem dX11_leads_158 : decode cX11_leads 158 = .ok (.iconst 1, 1) := by decide +kernel
theorem dX11_leads_159 : decode cX11_leads 159 = .ok (.goto 4, 3) := by decide +kernel
theorem dX11_leads_162 : decode cX11_leads 162 = .ok (.iconst 0, 1) := by decide +kernel
theorem dX11_leads_163 : decode cX11_leads 163 = .ok (.istore 4, 2) := by decide +kernel
theorem dX11_leads_165 : decode cX11_leads 165 = .ok (.iinc 5 1, 3) := by decide +kernel
theorem dX11_leads_168 : decode cX11_leads 168 = .ok (.goto (-59), 3) := by decide +kernel
theorem dX11_leads_171 : decode cX11_leads 171 = .ok (.aload_n 0, 1) := by decide +kernel
theorem dX11_leads_172 : decode cX11_leads 172 = .ok (.getfield 26, 3) := by decide +kernel
theorem dX11_leads_175 : decode cX11_leads 175 = .ok (.iload_n 3, 1) := by decide +kernel
theorem dX11_leads_176 : decode cX11_leads 176 = .ok (.iload 4, 2) := by decide +kernel
theorem dX11_leads_178 : decode cX11_leads 178 = .ok (.bastore, 1) := by decide +kernel
theorem dX11_leads_179 : decode cX11_leads 179 = .ok (.iinc 3 1, 3) := by decide +kernel
theorem dX11_leads_182 : decode cX11_leads 182 = .ok (.goto (-134), 3) := by decide +kernel
theorem dX11_leads_185 : decode cX11_leads 185 = .ok (.iinc 2 (-1), 3) := by decide +kernel
theorem dX11_leads_188 : decode cX11_leads 188 = .ok (.goto (-181), 3) := by decide +kernel
theorem dX11_leads_191 : decode cX11_leads 191 = .ok (.return_, 1) := by decide +kernel
theorem dX11_hasResults_0 : decode cX11_hasResults 0 = .ok (.iconst 0, 1) := by decide +kernel
theorem dX11_hasResults_1 : decode cX11_hasResults 1 = .ok (.istore_n 2, 1) := by decide +kernel
theorem dX11_hasResults_2 : decode cX11_hasResults 2 = .ok (.iload_n 2, 1) := by decide +kernel
theorem dX11_hasResults_3 : decode cX11_hasResults 3 = .ok (.sipush 512, 3) := by decide +kernel
theorem dX11_hasResults_6 : decode cX11_hasResults 6 = .ok (.if_icmp .ge 23, 3) := by decide +kernel
theorem dX11_hasResults_9 : decode cX11_hasResults 9 = .ok (.aload_n 0, 1) := by decide +kernel
theorem dX11_hasResults_10 : decode cX11_hasResults 10 = .ok (.getfield 93, 3) := by decide +kernel
theorem dX11_hasResults_13 : decode cX11_hasResults 13 = .ok (.ifCond .eq 16, 3) := by decide +kernel
theorem dX11_hasResults_16 : decode cX11_hasResults 16 = .ok (.aload_n 0, 1) := by decide +kernel
theorem dX11_hasResults_17 : decode cX11_hasResults 17 = .ok (.getfield 26, 3) := by decide +kernel
theorem dX11_hasResults_20 : decode cX11_hasResults 20 = .ok (.iload_n 2, 1) := by decide +kernel
theorem dX11_hasResults_21 : decode cX11_hasResults 21 = .ok (.iconst 1, 1) := by decide +kernel
theorem dX11_hasResults_22 : decode cX11_hasResults 22 = .ok (.bastore, 1) := by decide +kernel
theorem dX11_hasResults_23 : decode cX11_hasResults 23 = .ok (.iinc 2 1, 3) := by decide +kernel
theorem dX11_hasResults_26 : decode cX11_hasResults 26 = .ok (.goto (-24), 3) := by decide +kernel
theorem dX11_hasResults_29 : decode cX11_hasResults 29 = .ok (.aload_n 0, 1) := by decide +kernel
theorem dX11_hasResults_30 : decode cX11_hasResults 30 = .ok (.iload_n 1, 1) := by decide +kernel
theorem dX11_hasResults_31 : decode cX11_hasResults 31 = .ok (.invokevirtual 101, 3) := by decide +kernel
theorem dX11_hasResults_34 : decode cX11_hasResults 34 = .ok (.return_, 1) := by decide +kernel
theorem dX11_turns_0 : decode cX11_turns 0 = .ok (.iload_n 1, 1) := by decide +kernel
theorem dX11_turns_1 : decode cX11_turns 1 = .ok (.istore_n 2, 1) := by decide +kernel
theorem dX11_turns_2 : decode cX11_turns 2 = .ok (.iload_n 2, 1) := by decide +kernel
theorem dX11_turns_3 : decode cX11_turns 3 = .ok (.aload_n 0, 1) := by decide +kernel
theorem dX11_turns_4 : decode cX11_turns 4 = .ok (.getfield 90, 3) := by decide +kernel
theorem dX11_turns_7 : decode cX11_turns 7 = .ok (.if_icmp .ge 166, 3) := by decide +kernel
theorem dX11_turns_10 : decode cX11_turns 10 = .ok (.iconst 0, 1) := by decide +kernel
theorem dX11_turns_11 : decode cX11_turns 11 = .ok (.istore_n 3, 1) := by decide +kernel
theorem dX11_turns_12 : decode cX11_turns 12 = .ok (.iload_n 3, 1) := by decide +kernel
theorem dX11_turns_13 : decode cX11_turns 13 = .ok (.sipush 512, 3) := by decide +kernel
theorem dX11_turns_16 : decode cX11_turns 16 = .ok (.if_icmp .ge 66, 3) := by decide +kernel
theorem dX11_turns_19 : decode cX11_turns 19 = .ok (.aload_n 0, 1) := by decide +kernel
theorem dX11_turns_20 : decode cX11_turns 20 = .ok (.getfield 29, 3) := by decide +kernel
theorem dX11_turns_23 : decode cX11_turns 23 = .ok (.iload_n 3, 1) := by decide +kernel
theorem dX11_turns_24 : decode cX11_turns 24 = .ok (.aload_n 0, 1) := by decide +kernel
theorem dX11_turns_25 : decode cX11_turns 25 = .ok (.getfield 32, 3) := by decide +kernel
theorem dX11_turns_28 : decode cX11_turns 28 = .ok (.iload_n 3, 1) := by decide +kernel
theorem dX11_turns_29 : decode cX11_turns 29 = .ok (.baload, 1) := by decide +kernel
theorem dX11_turns_30 : decode cX11_turns 30 = .ok (.bastore, 1) := by decide +kernel
theorem dX11_turns_31 : decode cX11_turns 31 = .ok (.aload_n 0, 1) := by decide +kernel
theorem dX11_turns_32 : decode cX11_turns 32 = .ok (.getfield 32, 3) := by decide +kernel
theorem dX11_turns_35 : decode cX11_turns 35 = .ok (.iload_n 3, 1) := by decide +kernel
theorem dX11_turns_36 : decode cX11_turns 36 = .ok (.aload_n 0, 1) := by decide +kernel
theorem dX11_turns_37 : decode cX11_turns 37 = .ok (.getfield 19, 3) := by decide +kernel
theorem dX11_turns_40 : decode cX11_turns 40 = .ok (.iload_n 2, 1) := by decide +kernel
theorem dX11_turns_41 : decode cX11_turns 41 = .ok (.iaload, 1) := by decide +kernel
theorem dX11_turns_42 : decode cX11_turns 42 = .ok (.iconst 3, 1) := by decide +kernel
theorem dX11_turns_43 : decode cX11_turns 43 = .ok (.if_icmp .ne 31, 3) := by decide +kernel
theorem dX11_turns_46 : decode cX11_turns 46 = .ok (.aload_n 0, 1) := by decide +kernel
theorem dX11_turns_47 : decode cX11_turns 47 = .ok (.getfield 29, 3) := by decide +kernel
theorem dX11_turns_50 : decode cX11_turns 50 = .ok (.iload_n 3, 1) := by decide +kernel
theorem dX11_turns_51 : decode cX11_turns 51 = .ok (.baload, 1) := by decide +kernel
theorem dX11_turns_52 : decode cX11_turns 52 = .ok (.ifCond .eq 22, 3) := by decide +kernel
theorem dX11_turns_55 : decode cX11_turns 55 = .ok (.aload_n 0, 1) := by decide +kernel
theorem dX11_turns_56 : decode cX11_turns 56 = .ok (.getfield 22, 3) := by decide +kernel
theorem dX11_turns_59 : decode cX11_turns 59 = .ok (.sipush 512, 3) := by decide +kernel
theorem dX11_turns_62 : decode cX11_turns 62 = .ok (.iload_n 2, 1) := by decide +kernel
theorem dX11_turns_63 : decode cX11_turns 63 = .ok (.imul, 1) := by decide +kernel
theorem dX11_turns_64 : decode cX11_turns 64 = .ok (.iload_n 3, 1) := by decide +kernel
theorem dX11_turns_65 : decode cX11_turns 65 = .ok (.iadd, 1) := by decide +kernel
theorem dX11_turns_66 : decode cX11_turns 66 = .ok (.baload, 1) := by decide +kernel
theorem dX11_turns_67 : decode cX11_turns 67 = .ok (.ifCond .eq 7, 3) := by decide +kernel
theorem dX11_turns_70 : decode cX11_turns 70 = .ok (.iconst 1, 1) := by decide +kernel
theorem dX11_turns_71 : decode cX11_turns 71 = .ok (.goto 4, 3) := by decide +kernel
theorem dX11_turns_74 : decode cX11_turns 74 = .ok (.iconst 0, 1) := by decide +kernel
theorem dX11_turns_75 : decode cX11_turns 75 = .ok (.bastore, 1) := by decide +kernel
theorem dX11_turns_76 : decode cX11_turns 76 = .ok (.iinc 3 1, 3) := by decide +kernel
theorem dX11_turns_79 : decode cX11_turns 79 = .ok (.goto (-67), 3) := by decide +kernel
theorem dX11_turns_82 : decode cX11_turns 82 = .ok (.iconst 0, 1) := by decide +kernel
theorem dX11_turns_83 : decode cX11_turns 83 = .ok (.istore_n 3, 1) := by decide +kernel
theorem dX11_turns_84 : decode cX11_turns 84 = .ok (.iload_n 3, 1) := by decide +kernel
theorem dX11_turns_85 : decode cX11_turns 85 = .ok (.sipush 512, 3) := by decide +kernel
theorem dX11_turns_88 : decode cX11_turns 88 = .ok (.if_icmp .ge 79, 3) := by decide +kernel
theorem dX11_turns_91 : decode cX11_turns 91 = .ok (.aload_n 0, 1) := by decide +kernel
theorem dX11_turns_92 : decode cX11_turns 92 = .ok (.getfield 19, 3) := by decide +kernel
theorem dX11_turns_95 : decode cX11_turns 95 = .ok (.iload_n 2, 1) := by decide +kernel
theorem dX11_turns_96 : decode cX11_turns 96 = .ok (.iaload, 1) := by decide +kernel
theorem dX11_turns_97 : decode cX11_turns 97 = .ok (.iconst 3, 1) := by decide +kernel
theorem dX11_turns_98 : decode cX11_turns 98 = .ok (.if_icmp .eq 69, 3) := by decide +kernel
theorem dX11_turns_101 : decode cX11_turns 101 = .ok (.iconst 1, 1) := by decide +kernel
theorem dX11_turns_102 : decode cX11_turns 102 = .ok (.istore 4, 2) := by decide +kernel
theorem dX11_turns_104 : decode cX11_turns 104 = .ok (.iload 4, 2) := by decide +kernel
theorem dX11_turns_106 : decode cX11_turns 106 = .ok (.aload_n 0, 1) := by decide +kernel
theorem dX11_turns_107 : decode cX11_turns 107 = .ok (.invokevirtual 63, 3) := by decide +kernel
theorem dX11_turns_110 : decode cX11_turns 110 = .ok (.if_icmp .gt 51, 3) := by decide +kernel
theorem dX11_turns_113 : decode cX11_turns 113 = .ok (.aload_n 0, 1) := by decide +kernel
theorem dX11_turns_114 : decode cX11_turns 114 = .ok (.getfield 29, 3) := by decide +kernel
theorem dX11_turns_117 : decode cX11_turns 117 = .ok (.iload_n 3, 1) := by decide +kernel
theorem dX11_turns_118 : decode cX11_turns 118 = .ok (.baload, 1) := by decide +kernel
theorem dX11_turns_119 : decode cX11_turns 119 = .ok (.ifCond .eq 42, 3) := by decide +kernel
theorem dX11_turns_122 : decode cX11_turns 122 = .ok (.aload_n 0, 1) := by decide +kernel
theorem dX11_turns_123 : decode cX11_turns 123 = .ok (.getfield 32, 3) := by decide +kernel
theorem dX11_turns_126 : decode cX11_turns 126 = .ok (.iload_n 3, 1) := by decide +kernel
theorem dX11_turns_127 : decode cX11_turns 127 = .ok (.bipush 7, 2) := by decide +kernel
theorem dX11_turns_129 : decode cX11_turns 129 = .ok (.iconst 3, 1) := by decide +kernel
theorem dX11_turns_130 : decode cX11_turns 130 = .ok (.aload_n 0, 1) := by decide +kernel
theorem dX11_turns_131 : decode cX11_turns 131 = .ok (.getfield 19, 3) := by decide +kernel
theorem dX11_turns_134 : decode cX11_turns 134 = .ok (.iload_n 2, 1) := by decide +kernel
theorem dX11_turns_135 : decode cX11_turns 135 = .ok (.iaload, 1) := by decide +kernel
theorem dX11_turns_136 : decode cX11_turns 136 = .ok (.imul, 1) := by decide +kernel
theorem dX11_turns_137 : decode cX11_turns 137 = .ok (.ishl, 1) := by decide +kernel
theorem dX11_turns_138 : decode cX11_turns 138 = .ok (.iconst (-1), 1) := by decide +kernel
theorem dX11_turns_139 : decode cX11_turns 139 = .ok (.ixor, 1) := by decide +kernel
theorem dX11_turns_140 : decode cX11_turns 140 = .ok (.iand, 1) := by decide +kernel
theorem dX11_turns_141 : decode cX11_turns 141 = .ok (.iload 4, 2) := by decide +kernel
theorem dX11_turns_143 : decode cX11_turns 143 = .ok (.iconst 3, 1) := by decide +kernel
theorem dX11_turns_144 : decode cX11_turns 144 = .ok (.aload_n 0, 1) := by decide +kernel
theorem dX11_turns_145 : decode cX11_turns 145 = .ok (.getfield 19, 3) := by decide +kernel
theorem dX11_turns_148 : decode cX11_turns 148 = .ok (.iload_n 2, 1) := by decide +kernel
theorem dX11_turns_149 : decode cX11_turns 149 = .ok (.iaload, 1) := by decide +kernel
theorem dX11_turns_150 : decode cX11_turns 150 = .ok (.imul, 1) := by decide +kernel
theorem dX11_turns_151 : decode cX11_turns 151 = .ok (.ishl, 1) := by decide +kernel
theorem dX11_turns_152 : decode cX11_turns 152 = .ok (.ior, 1) := by decide +kernel
theorem dX11_turns_153 : decode cX11_turns 153 = .ok (.iconst 1, 1) := by decide +kernel
theorem dX11_turns_154 : decode cX11_turns 154 = .ok (.bastore, 1) := by decide +kernel
theorem dX11_turns_155 : decode cX11_turns 155 = .ok (.iinc 4 1, 3) := by decide +kernel
theorem dX11_turns_158 : decode cX11_turns 158 = .ok (.goto (-54), 3) := by decide +kernel
theorem dX11_turns_161 : decode cX11_turns 161 = .ok (.iinc 3 1, 3) := by decide +kernel
theorem dX11_turns_164 : decode cX11_turns 164 = .ok (.goto (-80), 3) := by decide +kernel
theorem dX11_turns_167 : decode cX11_turns 167 = .ok (.iinc 2 1, 3) := by decide +kernel
theorem dX11_turns_170 : decode cX11_turns 170 = .ok (.goto (-168), 3) := by decide +kernel
theorem dX11_turns_173 : decode cX11_turns 173 = .ok (.return_, 1) := by decide +kernel
theorem dX11_next_0 : decode cX11_next 0 = .ok (.aload_n 0, 1) := by decide +kernel
theorem dX11_next_1 : decode cX11_next 1 = .ok (.getfield 104, 3) := by decide +kernel
theorem dX11_next_4 : decode cX11_next 4 = .ok (.aload_n 0, 1) := by decide +kernel
theorem dX11_next_5 : decode cX11_next 5 = .ok (.getfield 87, 3) := by decide +kernel
theorem dX11_next_8 : decode cX11_next 8 = .ok (.if_icmp .ge 15, 3) := by decide +kernel
theorem dX11_next_11 : decode cX11_next 11 = .ok (.aload_n 0, 1) := by decide +kernel
theorem dX11_next_12 : decode cX11_next 12 = .ok (.getfield 16, 3) := by decide +kernel
theorem dX11_next_15 : decode cX11_next 15 = .ok (.aload_n 0, 1) := by decide +kernel
theorem dX11_next_16 : decode cX11_next 16 = .ok (.getfield 104, 3) := by decide +kernel
theorem dX11_next_19 : decode cX11_next 19 = .ok (.iaload, 1) := by decide +kernel
theorem dX11_next_20 : decode cX11_next 20 = .ok (.goto 5, 3) := by decide +kernel
theorem dX11_next_23 : decode cX11_next 23 = .ok (.bipush (-7), 2) := by decide +kernel
theorem dX11_next_25 : decode cX11_next 25 = .ok (.ireturn, 1) := by decide +kernel
theorem dX11_opens_0 : decode cX11_opens 0 = .ok (.aload_n 0, 1) := by decide +kernel
theorem dX11_opens_1 : decode cX11_opens 1 = .ok (.dup, 1) := by decide +kernel
theorem dX11_opens_2 : decode cX11_opens 2 = .ok (.getfield 107, 3) := by decide +kernel
theorem dX11_opens_5 : decode cX11_opens 5 = .ok (.iconst 1, 1) := by decide +kernel
theorem dX11_opens_6 : decode cX11_opens 6 = .ok (.iadd, 1) := by decide +kernel
theorem dX11_opens_7 : decode cX11_opens 7 = .ok (.putfield 107, 3) := by decide +kernel
theorem dX11_opens_10 : decode cX11_opens 10 = .ok (.aload_n 0, 1) := by decide +kernel
theorem dX11_opens_11 : decode cX11_opens 11 = .ok (.getfield 35, 3) := by decide +kernel
theorem dX11_opens_14 : decode cX11_opens 14 = .ok (.aload_n 0, 1) := by decide +kernel
theorem dX11_opens_15 : decode cX11_opens 15 = .ok (.getfield 107, 3) := by decide +kernel
theorem dX11_opens_18 : decode cX11_opens 18 = .ok (.iload_n 1, 1) := by decide +kernel
theorem dX11_opens_19 : decode cX11_opens 19 = .ok (.iastore, 1) := by decide +kernel
theorem dX11_opens_20 : decode cX11_opens 20 = .ok (.aload_n 0, 1) := by decide +kernel
theorem dX11_opens_21 : decode cX11_opens 21 = .ok (.getfield 38, 3) := by decide +kernel
theorem dX11_opens_24 : decode cX11_opens 24 = .ok (.aload_n 0, 1) := by decide +kernel
theorem dX11_opens_25 : decode cX11_opens 25 = .ok (.getfield 107, 3) := by decide +kernel
theorem dX11_opens_28 : decode cX11_opens 28 = .ok (.aload_n 0, 1) := by decide +kernel
theorem dX11_opens_29 : decode cX11_opens 29 = .ok (.getfield 90, 3) := by decide +kernel
theorem dX11_opens_32 : decode cX11_opens 32 = .ok (.iastore, 1) := by decide +kernel
theorem dX11_opens_33 : decode cX11_opens 33 = .ok (.aload_n 0, 1) := by decide +kernel
theorem dX11_opens_34 : decode cX11_opens 34 = .ok (.getfield 41, 3) := by decide +kernel
theorem dX11_opens_37 : decode cX11_opens 37 = .ok (.aload_n 0, 1) := by decide +kernel
theorem dX11_opens_38 : decode cX11_opens 38 = .ok (.getfield 107, 3) := by decide +kernel
theorem dX11_opens_41 : decode cX11_opens 41 = .ok (.aload_n 0, 1) := by decide +kernel
theorem dX11_opens_42 : decode cX11_opens 42 = .ok (.getfield 110, 3) := by decide +kernel
theorem dX11_opens_45 : decode cX11_opens 45 = .ok (.iastore, 1) := by decide +kernel
theorem dX11_opens_46 : decode cX11_opens 46 = .ok (.aload_n 0, 1) := by decide +kernel
theorem dX11_opens_47 : decode cX11_opens 47 = .ok (.getfield 44, 3) := by decide +kernel
theorem dX11_opens_50 : decode cX11_opens 50 = .ok (.aload_n 0, 1) := by decide +kernel
theorem dX11_opens_51 : decode cX11_opens 51 = .ok (.getfield 107, 3) := by decide +kernel
theorem dX11_opens_54 : decode cX11_opens 54 = .ok (.iconst 0, 1) := by decide +kernel
theorem dX11_opens_55 : decode cX11_opens 55 = .ok (.iastore, 1) := by decide +kernel
theorem dX11_opens_56 : decode cX11_opens 56 = .ok (.aload_n 0, 1) := by decide +kernel
theorem dX11_opens_57 : decode cX11_opens 57 = .ok (.getfield 47, 3) := by decide +kernel
theorem dX11_opens_60 : decode cX11_opens 60 = .ok (.aload_n 0, 1) := by decide +kernel
theorem dX11_opens_61 : decode cX11_opens 61 = .ok (.getfield 107, 3) := by decide +kernel
theorem dX11_opens_64 : decode cX11_opens 64 = .ok (.iconst 0, 1) := by decide +kernel
theorem dX11_opens_65 : decode cX11_opens 65 = .ok (.bastore, 1) := by decide +kernel
theorem dX11_opens_66 : decode cX11_opens 66 = .ok (.aload_n 0, 1) := by decide +kernel
theorem dX11_opens_67 : decode cX11_opens 67 = .ok (.getfield 50, 3) := by decide +kernel
theorem dX11_opens_70 : decode cX11_opens 70 = .ok (.aload_n 0, 1) := by decide +kernel
theorem dX11_opens_71 : decode cX11_opens 71 = .ok (.getfield 107, 3) := by decide +kernel
theorem dX11_opens_74 : decode cX11_opens 74 = .ok (.iconst 0, 1) := by decide +kernel
theorem dX11_opens_75 : decode cX11_opens 75 = .ok (.bastore, 1) := by decide +kernel
theorem dX11_opens_76 : decode cX11_opens 76 = .ok (.aload_n 0, 1) := by decide +kernel
theorem dX11_opens_77 : decode cX11_opens 77 = .ok (.getfield 53, 3) := by decide +kernel
theorem dX11_opens_80 : decode cX11_opens 80 = .ok (.aload_n 0, 1) := by decide +kernel
theorem dX11_opens_81 : decode cX11_opens 81 = .ok (.getfield 107, 3) := by decide +kernel
theorem dX11_opens_84 : decode cX11_opens 84 = .ok (.iconst 0, 1) := by decide +kernel
theorem dX11_opens_85 : decode cX11_opens 85 = .ok (.bastore, 1) := by decide +kernel
theorem dX11_opens_86 : decode cX11_opens 86 = .ok (.return_, 1) := by decide +kernel
theorem dX11_finds_0 : decode cX11_finds 0 = .ok (.aload_n 0, 1) := by decide +kernel
theorem dX11_finds_1 : decode cX11_finds 1 = .ok (.iload_n 1, 1) := by decide +kernel
theorem dX11_finds_2 : decode cX11_finds 2 = .ok (.putfield 113, 3) := by decide +kernel
theorem dX11_finds_5 : decode cX11_finds 5 = .ok (.iconst 0, 1) := by decide +kernel
theorem dX11_finds_6 : decode cX11_finds 6 = .ok (.istore_n 2, 1) := by decide +kernel
theorem dX11_finds_7 : decode cX11_finds 7 = .ok (.iload_n 2, 1) := by decide +kernel
theorem dX11_finds_8 : decode cX11_finds 8 = .ok (.aload_n 0, 1) := by decide +kernel
theorem dX11_finds_9 : decode cX11_finds 9 = .ok (.getfield 107, 3) := by decide +kernel
theorem dX11_finds_12 : decode cX11_finds 12 = .ok (.if_icmp .gt 111, 3) := by decide +kernel
theorem dX11_finds_15 : decode cX11_finds 15 = .ok (.aload_n 0, 1) := by decide +kernel
theorem dX11_finds_16 : decode cX11_finds 16 = .ok (.getfield 35, 3) := by decide +kernel
theorem dX11_finds_19 : decode cX11_finds 19 = .ok (.iload_n 2, 1) := by decide +kernel
theorem dX11_finds_20 : decode cX11_finds 20 = .ok (.iaload, 1) := by decide +kernel
theorem dX11_finds_21 : decode cX11_finds 21 = .ok (.iconst 2, 1) := by decide +kernel
theorem dX11_finds_22 : decode cX11_finds 22 = .ok (.if_icmp .eq 16, 3) := by decide +kernel
theorem dX11_finds_25 : decode cX11_finds 25 = .ok (.aload_n 0, 1) := by decide +kernel
theorem dX11_finds_26 : decode cX11_finds 26 = .ok (.getfield 53, 3) := by decide +kernel
theorem dX11_finds_29 : decode cX11_finds 29 = .ok (.iload_n 2, 1) := by decide +kernel
theorem dX11_finds_30 : decode cX11_finds 30 = .ok (.baload, 1) := by decide +kernel
theorem dX11_finds_31 : decode cX11_finds 31 = .ok (.ifCond .ne 7, 3) := by decide +kernel
theorem dX11_finds_34 : decode cX11_finds 34 = .ok (.iconst 1, 1) := by decide +kernel
theorem dX11_finds_35 : decode cX11_finds 35 = .ok (.goto 4, 3) := by decide +kernel
theorem dX11_finds_38 : decode cX11_finds 38 = .ok (.iconst 0, 1) := by decide +kernel
theorem dX11_finds_39 : decode cX11_finds 39 = .ok (.istore_n 3, 1) := by decide +kernel
theorem dX11_finds_40 : decode cX11_finds 40 = .ok (.aload_n 0, 1) := by decide +kernel
theorem dX11_finds_41 : decode cX11_finds 41 = .ok (.dup, 1) := by decide +kernel
theorem dX11_finds_42 : decode cX11_finds 42 = .ok (.getfield 116, 3) := by decide +kernel
theorem dX11_finds_45 : decode cX11_finds 45 = .ok (.aload_n 0, 1) := by decide +kernel
theorem dX11_finds_46 : decode cX11_finds 46 = .ok (.getfield 35, 3) := by decide +kernel
theorem dX11_finds_49 : decode cX11_finds 49 = .ok (.iload_n 2, 1) := by decide +kernel
theorem dX11_finds_50 : decode cX11_finds 50 = .ok (.iaload, 1) := by decide +kernel
theorem dX11_finds_51 : decode cX11_finds 51 = .ok (.iconst 2, 1) := by decide +kernel
theorem dX11_finds_52 : decode cX11_finds 52 = .ok (.if_icmp .eq 25, 3) := by decide +kernel
theorem dX11_finds_55 : decode cX11_finds 55 = .ok (.aload_n 0, 1) := by decide +kernel
theorem dX11_finds_56 : decode cX11_finds 56 = .ok (.getfield 53, 3) := by decide +kernel
theorem dX11_finds_59 : decode cX11_finds 59 = .ok (.iload_n 2, 1) := by decide +kernel
theorem dX11_finds_60 : decode cX11_finds 60 = .ok (.baload, 1) := by decide +kernel
theorem dX11_finds_61 : decode cX11_finds 61 = .ok (.ifCond .ne 16, 3) := by decide +kernel
theorem dX11_finds_64 : decode cX11_finds 64 = .ok (.iload_n 3, 1) := by decide +kernel
theorem dX11_finds_65 : decode cX11_finds 65 = .ok (.ifCond .eq 16, 3) := by decide +kernel
theorem dX11_finds_68 : decode cX11_finds 68 = .ok (.aload_n 0, 1) := by decide +kernel
theorem dX11_finds_69 : decode cX11_finds 69 = .ok (.getfield 44, 3) := by decide +kernel
theorem dX11_finds_72 : decode cX11_finds 72 = .ok (.iload_n 2, 1) := by decide +kernel
theorem dX11_finds_73 : decode cX11_finds 73 = .ok (.iaload, 1) := by decide +kernel
theorem dX11_finds_74 : decode cX11_finds 74 = .ok (.ifCond .le 7, 3) := by decide +kernel
theorem dX11_finds_77 : decode cX11_finds 77 = .ok (.iconst 1, 1) := by decide +kernel
theorem dX11_finds_78 : decode cX11_finds 78 = .ok (.goto 4, 3) := by decide +kernel
theorem dX11_finds_81 : decode cX11_finds 81 = .ok (.iconst 0, 1) := by decide +kernel
theorem dX11_finds_82 : decode cX11_finds 82 = .ok (.iadd, 1) := by decide +kernel
theorem dX11_finds_83 : decode cX11_finds 83 = .ok (.putfield 116, 3) := by decide +kernel
theorem dX11_finds_86 : decode cX11_finds 86 = .ok (.aload_n 0, 1) := by decide +kernel
theorem dX11_finds_87 : decode cX11_finds 87 = .ok (.getfield 47, 3) := by decide +kernel
theorem dX11_finds_90 : decode cX11_finds 90 = .ok (.iload_n 2, 1) := by decide +kernel
theorem dX11_finds_91 : decode cX11_finds 91 = .ok (.iload_n 3, 1) := by decide +kernel
theorem dX11_finds_92 : decode cX11_finds 92 = .ok (.ifCond .eq 16, 3) := by decide +kernel
theorem dX11_finds_95 : decode cX11_finds 95 = .ok (.aload_n 0, 1) := by decide +kernel
theorem dX11_finds_96 : decode cX11_finds 96 = .ok (.getfield 44, 3) := by decide +kernel
theorem dX11_finds_99 : decode cX11_finds 99 = .ok (.iload_n 2, 1) := by decide +kernel
theorem dX11_finds_100 : decode cX11_finds 100 = .ok (.iaload, 1) := by decide +kernel
theorem dX11_finds_101 : decode cX11_finds 101 = .ok (.ifCond .ne 7, 3) := by decide +kernel
theorem dX11_finds_104 : decode cX11_finds 104 = .ok (.iconst 1, 1) := by decide +kernel
theorem dX11_finds_105 : decode cX11_finds 105 = .ok (.goto 4, 3) := by decide +kernel
theorem dX11_finds_108 : decode cX11_finds 108 = .ok (.iconst 0, 1) := by decide +kernel
theorem dX11_finds_109 : decode cX11_finds 109 = .ok (.bastore, 1) := by decide +kernel
theorem dX11_finds_110 : decode cX11_finds 110 = .ok (.aload_n 0, 1) := by decide +kernel
theorem dX11_finds_111 : decode cX11_finds 111 = .ok (.getfield 50, 3) := by decide +kernel
theorem dX11_finds_114 : decode cX11_finds 114 = .ok (.iload_n 2, 1) := by decide +kernel
theorem dX11_finds_115 : decode cX11_finds 115 = .ok (.iload_n 3, 1) := by decide +kernel
theorem dX11_finds_116 : decode cX11_finds 116 = .ok (.bastore, 1) := by decide +kernel
theorem dX11_finds_117 : decode cX11_finds 117 = .ok (.iinc 2 1, 3) := by decide +kernel
theorem dX11_finds_120 : decode cX11_finds 120 = .ok (.goto (-113), 3) := by decide +kernel
theorem dX11_finds_123 : decode cX11_finds 123 = .ok (.return_, 1) := by decide +kernel
theorem dX11_variable_0 : decode cX11_variable 0 = .ok (.aload_n 0, 1) := by decide +kernel
theorem dX11_variable_1 : decode cX11_variable 1 = .ok (.invokevirtual 119, 3) := by decide +kernel
theorem dX11_variable_4 : decode cX11_variable 4 = .ok (.bipush 120, 2) := by decide +kernel
theorem dX11_variable_6 : decode cX11_variable 6 = .ok (.isub, 1) := by decide +kernel
theorem dX11_variable_7 : decode cX11_variable 7 = .ok (.istore_n 2, 1) := by decide +kernel
theorem dX11_variable_8 : decode cX11_variable 8 = .ok (.iload_n 2, 1) := by decide +kernel
theorem dX11_variable_9 : decode cX11_variable 9 = .ok (.iconst 0, 1) := by decide +kernel
theorem dX11_variable_10 : decode cX11_variable 10 = .ok (.iconst 2, 1) := by decide +kernel
theorem dX11_variable_11 : decode cX11_variable 11 = .ok (.invokestatic 67, 3) := by decide +kernel
theorem dX11_variable_14 : decode cX11_variable 14 = .ok (.ifCond .ne 6, 3) := by decide +kernel
theorem dX11_variable_17 : decode cX11_variable 17 = .ok (.bipush (-7), 2) := by decide +kernel
theorem dX11_variable_19 : decode cX11_variable 19 = .ok (.ireturn, 1) := by decide +kernel
theorem dX11_variable_20 : decode cX11_variable 20 = .ok (.iload_n 1, 1) := by decide +kernel
theorem dX11_variable_21 : decode cX11_variable 21 = .ok (.ifCond .eq 31, 3) := by decide +kernel
theorem dX11_variable_24 : decode cX11_variable 24 = .ok (.aload_n 0, 1) := by decide +kernel
theorem dX11_variable_25 : decode cX11_variable 25 = .ok (.getfield 110, 3) := by decide +kernel
theorem dX11_variable_28 : decode cX11_variable 28 = .ok (.iload_n 2, 1) := by decide +kernel
theorem dX11_variable_29 : decode cX11_variable 29 = .ok (.ishr, 1) := by decide +kernel
theorem dX11_variable_30 : decode cX11_variable 30 = .ok (.iconst 1, 1) := by decide +kernel
theorem dX11_variable_31 : decode cX11_variable 31 = .ok (.iand, 1) := by decide +kernel
theorem dX11_variable_32 : decode cX11_variable 32 = .ok (.ifCond .ne 20, 3) := by decide +kernel
theorem dX11_variable_35 : decode cX11_variable 35 = .ok (.aload_n 0, 1) := by decide +kernel
theorem dX11_variable_36 : decode cX11_variable 36 = .ok (.getfield 113, 3) := by decide +kernel
theorem dX11_variable_39 : decode cX11_variable 39 = .ok (.bipush (-7), 2) := by decide +kernel
theorem dX11_variable_41 : decode cX11_variable 41 = .ok (.if_icmp .ne 11, 3) := by decide +kernel
theorem dX11_variable_44 : decode cX11_variable 44 = .ok (.aload_n 0, 1) := by decide +kernel
theorem dX11_variable_45 : decode cX11_variable 45 = .ok (.aload_n 0, 1) := by decide +kernel
theorem dX11_variable_46 : decode cX11_variable 46 = .ok (.getfield 104, 3) := by decide +kernel
theorem dX11_variable_49 : decode cX11_variable 49 = .ok (.invokevirtual 122, 3) := by decide +kernel
theorem dX11_variable_52 : decode cX11_variable 52 = .ok (.aload_n 0, 1) := by decide +kernel
theorem dX11_variable_53 : decode cX11_variable 53 = .ok (.dup, 1) := by decide +kernel
theorem dX11_variable_54 : decode cX11_variable 54 = .ok (.getfield 104, 3) := by decide +kernel
theorem dX11_variable_57 : decode cX11_variable 57 = .ok (.iconst 1, 1) := by decide +kernel
theorem dX11_variable_58 : decode cX11_variable 58 = .ok (.iadd, 1) := by decide +kernel
theorem dX11_variable_59 : decode cX11_variable 59 = .ok (.putfield 104, 3) := by decide +kernel
theorem dX11_variable_62 : decode cX11_variable 62 = .ok (.iload_n 2, 1) := by decide +kernel
theorem dX11_variable_63 : decode cX11_variable 63 = .ok (.ireturn, 1) := by decide +kernel
theorem dX11_ones_0 : decode cX11_ones 0 = .ok (.iload_n 0, 1) := by decide +kernel
theorem dX11_ones_1 : decode cX11_ones 1 = .ok (.iconst 1, 1) := by decide +kernel
theorem dX11_ones_2 : decode cX11_ones 2 = .ok (.iand, 1) := by decide +kernel
theorem dX11_ones_3 : decode cX11_ones 3 = .ok (.iload_n 0, 1) := by decide +kernel
theorem dX11_ones_4 : decode cX11_ones 4 = .ok (.iconst 1, 1) := by decide +kernel
theorem dX11_ones_5 : decode cX11_ones 5 = .ok (.ishr, 1) := by decide +kernel
theorem dX11_ones_6 : decode cX11_ones 6 = .ok (.iconst 1, 1) := by decide +kernel
theorem dX11_ones_7 : decode cX11_ones 7 = .ok (.iand, 1) := by decide +kernel
theorem dX11_ones_8 : decode cX11_ones 8 = .ok (.iadd, 1) := by decide +kernel
theorem dX11_ones_9 : decode cX11_ones 9 = .ok (.iload_n 0, 1) := by decide +kernel
theorem dX11_ones_10 : decode cX11_ones 10 = .ok (.iconst 2, 1) := by decide +kernel
theorem dX11_ones_11 : decode cX11_ones 11 = .ok (.ishr, 1) := by decide +kernel
theorem dX11_ones_12 : decode cX11_ones 12 = .ok (.iconst 1, 1) := by decide +kernel
theorem dX11_ones_13 : decode cX11_ones 13 = .ok (.iand, 1) := by decide +kernel
theorem dX11_ones_14 : decode cX11_ones 14 = .ok (.iadd, 1) := by decide +kernel
theorem dX11_ones_15 : decode cX11_ones 15 = .ok (.ireturn, 1) := by decide +kernel
theorem dX11_isSo_0 : decode cX11_isSo 0 = .ok (.iload_n 1, 1) := by decide +kernel
theorem dX11_isSo_1 : decode cX11_isSo 1 = .ok (.lookupswitch 127 #[(60, 113), (61, 102), (112, 67), (113, 67), (114, 67), (115, 91), (116, 91)], 67) := by decide +kernel
theorem dX11_isSo_68 : decode cX11_isSo 68 = .ok (.iload_n 2, 1) := by decide +kernel
theorem dX11_isSo_69 : decode cX11_isSo 69 = .ok (.aload_n 0, 1) := by decide +kernel
theorem dX11_isSo_70 : decode cX11_isSo 70 = .ok (.getfield 7, 3) := by decide +kernel
theorem dX11_isSo_73 : decode cX11_isSo 73 = .ok (.iconst 1, 1) := by decide +kernel
theorem dX11_isSo_74 : decode cX11_isSo 74 = .ok (.iload_n 1, 1) := by decide +kernel
theorem dX11_isSo_75 : decode cX11_isSo 75 = .ok (.iadd, 1) := by decide +kernel
theorem dX11_isSo_76 : decode cX11_isSo 76 = .ok (.bipush 112, 2) := by decide +kernel
theorem dX11_isSo_78 : decode cX11_isSo 78 = .ok (.isub, 1) := by decide +kernel
theorem dX11_isSo_79 : decode cX11_isSo 79 = .ok (.iaload, 1) := by decide +kernel
theorem dX11_isSo_80 : decode cX11_isSo 80 = .ok (.iconst (-1), 1) := by decide +kernel
theorem dX11_isSo_81 : decode cX11_isSo 81 = .ok (.ixor, 1) := by decide +kernel
theorem dX11_isSo_82 : decode cX11_isSo 82 = .ok (.iand, 1) := by decide +kernel
theorem dX11_isSo_83 : decode cX11_isSo 83 = .ok (.ifCond .ne 7, 3) := by decide +kernel
theorem dX11_isSo_86 : decode cX11_isSo 86 = .ok (.iconst 1, 1) := by decide +kernel
theorem dX11_isSo_87 : decode cX11_isSo 87 = .ok (.goto 4, 3) := by decide +kernel
theorem dX11_isSo_90 : decode cX11_isSo 90 = .ok (.iconst 0, 1) := by decide +kernel
theorem dX11_isSo_91 : decode cX11_isSo 91 = .ok (.ireturn, 1) := by decide +kernel
theorem dX11_isSo_92 : decode cX11_isSo 92 = .ok (.aload_n 0, 1) := by decide +kernel
theorem dX11_isSo_93 : decode cX11_isSo 93 = .ok (.iload_n 1, 1) := by decide +kernel
theorem dX11_isSo_94 : decode cX11_isSo 94 = .ok (.bipush 115, 2) := by decide +kernel
theorem dX11_isSo_96 : decode cX11_isSo 96 = .ok (.isub, 1) := by decide +kernel
theorem dX11_isSo_97 : decode cX11_isSo 97 = .ok (.iload_n 2, 1) := by decide +kernel
theorem dX11_isSo_98 : decode cX11_isSo 98 = .ok (.iload_n 3, 1) := by decide +kernel
theorem dX11_isSo_99 : decode cX11_isSo 99 = .ok (.invokevirtual 84, 3) := by decide +kernel
theorem dX11_isSo_102 : decode cX11_isSo 102 = .ok (.ireturn, 1) := by decide +kernel
theorem dX11_isSo_103 : decode cX11_isSo 103 = .ok (.iload_n 2, 1) := by decide +kernel
theorem dX11_isSo_104 : decode cX11_isSo 104 = .ok (.iload_n 3, 1) := by decide +kernel
theorem dX11_isSo_105 : decode cX11_isSo 105 = .ok (.if_icmp .ne 7, 3) := by decide +kernel
theorem dX11_isSo_108 : decode cX11_isSo 108 = .ok (.iconst 1, 1) := by decide +kernel
theorem dX11_isSo_109 : decode cX11_isSo 109 = .ok (.goto 4, 3) := by decide +kernel
theorem dX11_isSo_112 : decode cX11_isSo 112 = .ok (.iconst 0, 1) := by decide +kernel
theorem dX11_isSo_113 : decode cX11_isSo 113 = .ok (.ireturn, 1) := by decide +kernel
theorem dX11_isSo_114 : decode cX11_isSo 114 = .ok (.iload_n 2, 1) := by decide +kernel
theorem dX11_isSo_115 : decode cX11_isSo 115 = .ok (.iload_n 3, 1) := by decide +kernel
theorem dX11_isSo_116 : decode cX11_isSo 116 = .ok (.iconst (-1), 1) := by decide +kernel
theorem dX11_isSo_117 : decode cX11_isSo 117 = .ok (.ixor, 1) := by decide +kernel
theorem dX11_isSo_118 : decode cX11_isSo 118 = .ok (.iand, 1) := by decide +kernel
theorem dX11_isSo_119 : decode cX11_isSo 119 = .ok (.ifCond .ne 7, 3) := by decide +kernel
theorem dX11_isSo_122 : decode cX11_isSo 122 = .ok (.iconst 1, 1) := by decide +kernel
theorem dX11_isSo_123 : decode cX11_isSo 123 = .ok (.goto 4, 3) := by decide +kernel
theorem dX11_isSo_126 : decode cX11_isSo 126 = .ok (.iconst 0, 1) := by decide +kernel
theorem dX11_isSo_127 : decode cX11_isSo 127 = .ok (.ireturn, 1) := by decide +kernel
theorem dX11_isSo_128 : decode cX11_isSo 128 = .ok (.iload_n 2, 1) := by decide +kernel
theorem dX11_isSo_129 : decode cX11_isSo 129 = .ok (.invokestatic 125, 3) := by decide +kernel
theorem dX11_isSo_132 : decode cX11_isSo 132 = .ok (.iload_n 1, 1) := by decide +kernel
theorem dX11_isSo_133 : decode cX11_isSo 133 = .ok (.bipush 48, 2) := by decide +kernel
theorem dX11_isSo_135 : decode cX11_isSo 135 = .ok (.isub, 1) := by decide +kernel
theorem dX11_isSo_136 : decode cX11_isSo 136 = .ok (.if_icmp .ne 7, 3) := by decide +kernel
theorem dX11_isSo_139 : decode cX11_isSo 139 = .ok (.iconst 1, 1) := by decide +kernel
theorem dX11_isSo_140 : decode cX11_isSo 140 = .ok (.goto 4, 3) := by decide +kernel
theorem dX11_isSo_143 : decode cX11_isSo 143 = .ok (.iconst 0, 1) := by decide +kernel
theorem dX11_isSo_144 : decode cX11_isSo 144 = .ok (.ireturn, 1) := by decide +kernel
theorem dX11_tests_0 : decode cX11_tests 0 = .ok (.iload_n 2, 1) := by decide +kernel
theorem dX11_tests_1 : decode cX11_tests 1 = .ok (.ifCond .lt 7, 3) := by decide +kernel
theorem dX11_tests_4 : decode cX11_tests 4 = .ok (.iload_n 3, 1) := by decide +kernel
theorem dX11_tests_5 : decode cX11_tests 5 = .ok (.ifCond .ge 5, 3) := by decide +kernel
theorem dX11_tests_8 : decode cX11_tests 8 = .ok (.iconst 0, 1) := by decide +kernel
theorem dX11_tests_9 : decode cX11_tests 9 = .ok (.ireturn, 1) := by decide +kernel
theorem dX11_tests_10 : decode cX11_tests 10 = .ok (.iconst 0, 1) := by decide +kernel
theorem dX11_tests_11 : decode cX11_tests 11 = .ok (.istore 4, 2) := by decide +kernel
theorem dX11_tests_13 : decode cX11_tests 13 = .ok (.iload 4, 2) := by decide +kernel
theorem dX11_tests_15 : decode cX11_tests 15 = .ok (.sipush 512, 3) := by decide +kernel
theorem dX11_tests_18 : decode cX11_tests 18 = .ok (.if_icmp .ge 40, 3) := by decide +kernel
theorem dX11_tests_21 : decode cX11_tests 21 = .ok (.aload_n 0, 1) := by decide +kernel
theorem dX11_tests_22 : decode cX11_tests 22 = .ok (.getfield 93, 3) := by decide +kernel
theorem dX11_tests_25 : decode cX11_tests 25 = .ok (.ifCond .eq 33, 3) := by decide +kernel
theorem dX11_tests_28 : decode cX11_tests 28 = .ok (.aload_n 0, 1) := by decide +kernel
theorem dX11_tests_29 : decode cX11_tests 29 = .ok (.getfield 26, 3) := by decide +kernel
theorem dX11_tests_32 : decode cX11_tests 32 = .ok (.iload 4, 2) := by decide +kernel
theorem dX11_tests_34 : decode cX11_tests 34 = .ok (.aload_n 0, 1) := by decide +kernel
theorem dX11_tests_35 : decode cX11_tests 35 = .ok (.iload_n 1, 1) := by decide +kernel
theorem dX11_tests_36 : decode cX11_tests 36 = .ok (.iload 4, 2) := by decide +kernel
theorem dX11_tests_38 : decode cX11_tests 38 = .ok (.iload_n 2, 1) := by decide +kernel
theorem dX11_tests_39 : decode cX11_tests 39 = .ok (.invokestatic 129, 3) := by decide +kernel
theorem dX11_tests_42 : decode cX11_tests 42 = .ok (.iload 4, 2) := by decide +kernel
theorem dX11_tests_44 : decode cX11_tests 44 = .ok (.iload_n 3, 1) := by decide +kernel
theorem dX11_tests_45 : decode cX11_tests 45 = .ok (.invokestatic 129, 3) := by decide +kernel
theorem dX11_tests_48 : decode cX11_tests 48 = .ok (.invokevirtual 133, 3) := by decide +kernel
theorem dX11_tests_51 : decode cX11_tests 51 = .ok (.bastore, 1) := by decide +kernel
theorem dX11_tests_52 : decode cX11_tests 52 = .ok (.iinc 4 1, 3) := by decide +kernel
theorem dX11_tests_55 : decode cX11_tests 55 = .ok (.goto (-42), 3) := by decide +kernel
theorem dX11_tests_58 : decode cX11_tests 58 = .ok (.aload_n 0, 1) := by decide +kernel
theorem dX11_tests_59 : decode cX11_tests 59 = .ok (.iconst 0, 1) := by decide +kernel
theorem dX11_tests_60 : decode cX11_tests 60 = .ok (.invokevirtual 136, 3) := by decide +kernel
theorem dX11_tests_63 : decode cX11_tests 63 = .ok (.iconst 1, 1) := by decide +kernel
theorem dX11_tests_64 : decode cX11_tests 64 = .ok (.ireturn, 1) := by decide +kernel
theorem dX11_readsUnit_0 : decode cX11_readsUnit 0 = .ok (.aload_n 0, 1) := by decide +kernel
theorem dX11_readsUnit_1 : decode cX11_readsUnit 1 = .ok (.invokevirtual 119, 3) := by decide +kernel
theorem dX11_readsUnit_4 : decode cX11_readsUnit 4 = .ok (.istore_n 1, 1) := by decide +kernel
theorem dX11_readsUnit_5 : decode cX11_readsUnit 5 = .ok (.iload_n 1, 1) := by decide +kernel
theorem dX11_readsUnit_6 : decode cX11_readsUnit 6 = .ok (.bipush 69, 2) := by decide +kernel
theorem dX11_readsUnit_8 : decode cX11_readsUnit 8 = .ok (.if_icmp .ne 54, 3) := by decide +kernel
theorem dX11_readsUnit_11 : decode cX11_readsUnit 11 = .ok (.aload_n 0, 1) := by decide +kernel
theorem dX11_readsUnit_12 : decode cX11_readsUnit 12 = .ok (.dup, 1) := by decide +kernel
theorem dX11_readsUnit_13 : decode cX11_readsUnit 13 = .ok (.getfield 104, 3) := by decide +kernel
theorem dX11_readsUnit_16 : decode cX11_readsUnit 16 = .ok (.iconst 1, 1) := by decide +kernel
theorem dX11_readsUnit_17 : decode cX11_readsUnit 17 = .ok (.iadd, 1) := by decide +kernel
theorem dX11_readsUnit_18 : decode cX11_readsUnit 18 = .ok (.putfield 104, 3) := by decide +kernel
theorem dX11_readsUnit_21 : decode cX11_readsUnit 21 = .ok (.aload_n 0, 1) := by decide +kernel
theorem dX11_readsUnit_22 : decode cX11_readsUnit 22 = .ok (.iconst 0, 1) := by decide +kernel
theorem dX11_readsUnit_23 : decode cX11_readsUnit 23 = .ok (.invokevirtual 140, 3) := by decide +kernel
theorem dX11_readsUnit_26 : decode cX11_readsUnit 26 = .ok (.istore_n 2, 1) := by decide +kernel
theorem dX11_readsUnit_27 : decode cX11_readsUnit 27 = .ok (.aload_n 0, 1) := by decide +kernel
theorem dX11_readsUnit_28 : decode cX11_readsUnit 28 = .ok (.dup, 1) := by decide +kernel
theorem dX11_readsUnit_29 : decode cX11_readsUnit 29 = .ok (.getfield 110, 3) := by decide +kernel
theorem dX11_readsUnit_32 : decode cX11_readsUnit 32 = .ok (.iload_n 2, 1) := by decide +kernel
theorem dX11_readsUnit_33 : decode cX11_readsUnit 33 = .ok (.ifCond .ge 7, 3) := by decide +kernel
theorem dX11_readsUnit_36 : decode cX11_readsUnit 36 = .ok (.iconst 0, 1) := by decide +kernel
theorem dX11_readsUnit_37 : decode cX11_readsUnit 37 = .ok (.goto 6, 3) := by decide +kernel
theorem dX11_readsUnit_40 : decode cX11_readsUnit 40 = .ok (.iconst 1, 1) := by decide +kernel
theorem dX11_readsUnit_41 : decode cX11_readsUnit 41 = .ok (.iload_n 2, 1) := by decide +kernel
theorem dX11_readsUnit_42 : decode cX11_readsUnit 42 = .ok (.ishl, 1) := by decide +kernel
theorem dX11_readsUnit_43 : decode cX11_readsUnit 43 = .ok (.ior, 1) := by decide +kernel
theorem dX11_readsUnit_44 : decode cX11_readsUnit 44 = .ok (.putfield 110, 3) := by decide +kernel
theorem dX11_readsUnit_47 : decode cX11_readsUnit 47 = .ok (.aload_n 0, 1) := by decide +kernel
theorem dX11_readsUnit_48 : decode cX11_readsUnit 48 = .ok (.iload_n 2, 1) := by decide +kernel
theorem dX11_readsUnit_49 : decode cX11_readsUnit 49 = .ok (.invokevirtual 97, 3) := by decide +kernel
theorem dX11_readsUnit_52 : decode cX11_readsUnit 52 = .ok (.iload_n 2, 1) := by decide +kernel
theorem dX11_readsUnit_53 : decode cX11_readsUnit 53 = .ok (.ifCond .lt 7, 3) := by decide +kernel
theorem dX11_readsUnit_56 : decode cX11_readsUnit 56 = .ok (.iconst 1, 1) := by decide +kernel
theorem dX11_readsUnit_57 : decode cX11_readsUnit 57 = .ok (.goto 4, 3) := by decide +kernel
theorem dX11_readsUnit_60 : decode cX11_readsUnit 60 = .ok (.iconst 0, 1) := by decide +kernel
theorem dX11_readsUnit_61 : decode cX11_readsUnit 61 = .ok (.ireturn, 1) := by decide +kernel
theorem dX11_readsUnit_62 : decode cX11_readsUnit 62 = .ok (.iload_n 1, 1) := by decide +kernel
theorem dX11_readsUnit_63 : decode cX11_readsUnit 63 = .ok (.bipush 112, 2) := by decide +kernel
theorem dX11_readsUnit_65 : decode cX11_readsUnit 65 = .ok (.bipush 116, 2) := by decide +kernel
theorem dX11_readsUnit_67 : decode cX11_readsUnit 67 = .ok (.invokestatic 67, 3) := by decide +kernel
theorem dX11_readsUnit_70 : decode cX11_readsUnit 70 = .ok (.ifCond .eq 45, 3) := by decide +kernel
theorem dX11_readsUnit_73 : decode cX11_readsUnit 73 = .ok (.aload_n 0, 1) := by decide +kernel
theorem dX11_readsUnit_74 : decode cX11_readsUnit 74 = .ok (.dup, 1) := by decide +kernel
theorem dX11_readsUnit_75 : decode cX11_readsUnit 75 = .ok (.getfield 104, 3) := by decide +kernel
theorem dX11_readsUnit_78 : decode cX11_readsUnit 78 = .ok (.iconst 1, 1) := by decide +kernel
theorem dX11_readsUnit_79 : decode cX11_readsUnit 79 = .ok (.iadd, 1) := by decide +kernel
theorem dX11_readsUnit_80 : decode cX11_readsUnit 80 = .ok (.putfield 104, 3) := by decide +kernel
theorem dX11_readsUnit_83 : decode cX11_readsUnit 83 = .ok (.aload_n 0, 1) := by decide +kernel
theorem dX11_readsUnit_84 : decode cX11_readsUnit 84 = .ok (.iconst 1, 1) := by decide +kernel
theorem dX11_readsUnit_85 : decode cX11_readsUnit 85 = .ok (.invokevirtual 140, 3) := by decide +kernel
theorem dX11_readsUnit_88 : decode cX11_readsUnit 88 = .ok (.istore_n 2, 1) := by decide +kernel
theorem dX11_readsUnit_89 : decode cX11_readsUnit 89 = .ok (.aload_n 0, 1) := by decide +kernel
theorem dX11_readsUnit_90 : decode cX11_readsUnit 90 = .ok (.iload_n 1, 1) := by decide +kernel
theorem dX11_readsUnit_91 : decode cX11_readsUnit 91 = .ok (.iload_n 2, 1) := by decide +kernel
theorem dX11_readsUnit_92 : decode cX11_readsUnit 92 = .ok (.iload_n 1, 1) := by decide +kernel
theorem dX11_readsUnit_93 : decode cX11_readsUnit 93 = .ok (.bipush 115, 2) := by decide +kernel
theorem dX11_readsUnit_95 : decode cX11_readsUnit 95 = .ok (.if_icmp .lt 7, 3) := by decide +kernel
theorem dX11_readsUnit_98 : decode cX11_readsUnit 98 = .ok (.iload_n 2, 1) := by decide +kernel
theorem dX11_readsUnit_99 : decode cX11_readsUnit 99 = .ok (.ifCond .ge 7, 3) := by decide +kernel
theorem dX11_readsUnit_102 : decode cX11_readsUnit 102 = .ok (.iload_n 2, 1) := by decide +kernel
theorem dX11_readsUnit_103 : decode cX11_readsUnit 103 = .ok (.goto 8, 3) := by decide +kernel
theorem dX11_readsUnit_106 : decode cX11_readsUnit 106 = .ok (.aload_n 0, 1) := by decide +kernel
theorem dX11_readsUnit_107 : decode cX11_readsUnit 107 = .ok (.iconst 1, 1) := by decide +kernel
theorem dX11_readsUnit_108 : decode cX11_readsUnit 108 = .ok (.invokevirtual 140, 3) := by decide +kernel
theorem dX11_readsUnit_111 : decode cX11_readsUnit 111 = .ok (.invokevirtual 144, 3) := by decide +kernel
theorem dX11_readsUnit_114 : decode cX11_readsUnit 114 = .ok (.ireturn, 1) := by decide +kernel
theorem dX11_readsUnit_115 : decode cX11_readsUnit 115 = .ok (.iload_n 1, 1) := by decide +kernel
theorem dX11_readsUnit_116 : decode cX11_readsUnit 116 = .ok (.bipush 35, 2) := by decide +kernel
theorem dX11_readsUnit_118 : decode cX11_readsUnit 118 = .ok (.if_icmp .ne 55, 3) := by decide +kernel
theorem dX11_readsUnit_121 : decode cX11_readsUnit 121 = .ok (.aload_n 0, 1) := by decide +kernel
theorem dX11_readsUnit_122 : decode cX11_readsUnit 122 = .ok (.dup, 1) := by decide +kernel
theorem dX11_readsUnit_123 : decode cX11_readsUnit 123 = .ok (.getfield 104, 3) := by decide +kernel
theorem dX11_readsUnit_126 : decode cX11_readsUnit 126 = .ok (.iconst 1, 1) := by decide +kernel
theorem dX11_readsUnit_127 : decode cX11_readsUnit 127 = .ok (.iadd, 1) := by decide +kernel
theorem dX11_readsUnit_128 : decode cX11_readsUnit 128 = .ok (.putfield 104, 3) := by decide +kernel
theorem dX11_readsUnit_131 : decode cX11_readsUnit 131 = .ok (.aload_n 0, 1) := by decide +kernel
theorem dX11_readsUnit_132 : decode cX11_readsUnit 132 = .ok (.invokevirtual 119, 3) := by decide +kernel
theorem dX11_readsUnit_135 : decode cX11_readsUnit 135 = .ok (.istore_n 3, 1) := by decide +kernel
theorem dX11_readsUnit_136 : decode cX11_readsUnit 136 = .ok (.iload_n 3, 1) := by decide +kernel
theorem dX11_readsUnit_137 : decode cX11_readsUnit 137 = .ok (.bipush 49, 2) := by decide +kernel
theorem dX11_readsUnit_139 : decode cX11_readsUnit 139 = .ok (.bipush 51, 2) := by decide +kernel
theorem dX11_readsUnit_141 : decode cX11_readsUnit 141 = .ok (.invokestatic 67, 3) := by decide +kernel
theorem dX11_readsUnit_144 : decode cX11_readsUnit 144 = .ok (.ifCond .ne 5, 3) := by decide +kernel
theorem dX11_readsUnit_147 : decode cX11_readsUnit 147 = .ok (.iconst 0, 1) := by decide +kernel
theorem dX11_readsUnit_148 : decode cX11_readsUnit 148 = .ok (.ireturn, 1) := by decide +kernel
theorem dX11_readsUnit_149 : decode cX11_readsUnit 149 = .ok (.aload_n 0, 1) := by decide +kernel
theorem dX11_readsUnit_150 : decode cX11_readsUnit 150 = .ok (.dup, 1) := by decide +kernel
theorem dX11_readsUnit_151 : decode cX11_readsUnit 151 = .ok (.getfield 104, 3) := by decide +kernel
theorem dX11_readsUnit_154 : decode cX11_readsUnit 154 = .ok (.iconst 1, 1) := by decide +kernel
theorem dX11_readsUnit_155 : decode cX11_readsUnit 155 = .ok (.iadd, 1) := by decide +kernel
theorem dX11_readsUnit_156 : decode cX11_readsUnit 156 = .ok (.putfield 104, 3) := by decide +kernel
theorem dX11_readsUnit_159 : decode cX11_readsUnit 159 = .ok (.aload_n 0, 1) := by decide +kernel
theorem dX11_readsUnit_160 : decode cX11_readsUnit 160 = .ok (.iconst 1, 1) := by decide +kernel
theorem dX11_readsUnit_161 : decode cX11_readsUnit 161 = .ok (.invokevirtual 140, 3) := by decide +kernel
theorem dX11_readsUnit_164 : decode cX11_readsUnit 164 = .ok (.istore_n 2, 1) := by decide +kernel
theorem dX11_readsUnit_165 : decode cX11_readsUnit 165 = .ok (.aload_n 0, 1) := by decide +kernel
theorem dX11_readsUnit_166 : decode cX11_readsUnit 166 = .ok (.iload_n 3, 1) := by decide +kernel
theorem dX11_readsUnit_167 : decode cX11_readsUnit 167 = .ok (.iload_n 2, 1) := by decide +kernel
theorem dX11_readsUnit_168 : decode cX11_readsUnit 168 = .ok (.iload_n 2, 1) := by decide +kernel
theorem dX11_readsUnit_169 : decode cX11_readsUnit 169 = .ok (.invokevirtual 144, 3) := by decide +kernel
theorem dX11_readsUnit_172 : decode cX11_readsUnit 172 = .ok (.ireturn, 1) := by decide +kernel
theorem dX11_readsUnit_173 : decode cX11_readsUnit 173 = .ok (.aload_n 0, 1) := by decide +kernel
theorem dX11_readsUnit_174 : decode cX11_readsUnit 174 = .ok (.iconst 1, 1) := by decide +kernel
theorem dX11_readsUnit_175 : decode cX11_readsUnit 175 = .ok (.invokevirtual 140, 3) := by decide +kernel
theorem dX11_readsUnit_178 : decode cX11_readsUnit 178 = .ok (.istore_n 2, 1) := by decide +kernel
theorem dX11_readsUnit_179 : decode cX11_readsUnit 179 = .ok (.aload_n 0, 1) := by decide +kernel
theorem dX11_readsUnit_180 : decode cX11_readsUnit 180 = .ok (.invokevirtual 119, 3) := by decide +kernel
theorem dX11_readsUnit_183 : decode cX11_readsUnit 183 = .ok (.istore_n 3, 1) := by decide +kernel
theorem dX11_readsUnit_184 : decode cX11_readsUnit 184 = .ok (.iload_n 2, 1) := by decide +kernel
theorem dX11_readsUnit_185 : decode cX11_readsUnit 185 = .ok (.ifCond .lt 15, 3) := by decide +kernel
theorem dX11_readsUnit_188 : decode cX11_readsUnit 188 = .ok (.iload_n 3, 1) := by decide +kernel
theorem dX11_readsUnit_189 : decode cX11_readsUnit 189 = .ok (.bipush 61, 2) := by decide +kernel
theorem dX11_readsUnit_191 : decode cX11_readsUnit 191 = .ok (.if_icmp .eq 11, 3) := by decide +kernel
theorem dX11_readsUnit_194 : decode cX11_readsUnit 194 = .ok (.iload_n 3, 1) := by decide +kernel
theorem dX11_readsUnit_195 : decode cX11_readsUnit 195 = .ok (.bipush 60, 2) := by decide +kernel
theorem dX11_readsUnit_197 : decode cX11_readsUnit 197 = .ok (.if_icmp .eq 5, 3) := by decide +kernel
theorem dX11_readsUnit_200 : decode cX11_readsUnit 200 = .ok (.iconst 0, 1) := by decide +kernel
theorem dX11_readsUnit_201 : decode cX11_readsUnit 201 = .ok (.ireturn, 1) := by decide +kernel
theorem dX11_readsUnit_202 : decode cX11_readsUnit 202 = .ok (.aload_n 0, 1) := by decide +kernel
theorem dX11_readsUnit_203 : decode cX11_readsUnit 203 = .ok (.dup, 1) := by decide +kernel
theorem dX11_readsUnit_204 : decode cX11_readsUnit 204 = .ok (.getfield 104, 3) := by decide +kernel
theorem dX11_readsUnit_207 : decode cX11_readsUnit 207 = .ok (.iconst 1, 1) := by decide +kernel
theorem dX11_readsUnit_208 : decode cX11_readsUnit 208 = .ok (.iadd, 1) := by decide +kernel
theorem dX11_readsUnit_209 : decode cX11_readsUnit 209 = .ok (.putfield 104, 3) := by decide +kernel
theorem dX11_readsUnit_212 : decode cX11_readsUnit 212 = .ok (.aload_n 0, 1) := by decide +kernel
theorem dX11_readsUnit_213 : decode cX11_readsUnit 213 = .ok (.iload_n 3, 1) := by decide +kernel
theorem dX11_readsUnit_214 : decode cX11_readsUnit 214 = .ok (.iload_n 2, 1) := by decide +kernel
theorem dX11_readsUnit_215 : decode cX11_readsUnit 215 = .ok (.aload_n 0, 1) := by decide +kernel
theorem dX11_readsUnit_216 : decode cX11_readsUnit 216 = .ok (.iconst 1, 1) := by decide +kernel
theorem dX11_readsUnit_217 : decode cX11_readsUnit 217 = .ok (.invokevirtual 140, 3) := by decide +kernel
theorem dX11_readsUnit_220 : decode cX11_readsUnit 220 = .ok (.invokevirtual 144, 3) := by decide +kernel
theorem dX11_readsUnit_223 : decode cX11_readsUnit 223 = .ok (.ireturn, 1) := by decide +kernel
theorem dX11_endsUnit_0 : decode cX11_endsUnit 0 = .ok (.aload_n 0, 1) := by decide +kernel
theorem dX11_endsUnit_1 : decode cX11_endsUnit 1 = .ok (.getfield 35, 3) := by decide +kernel
theorem dX11_endsUnit_4 : decode cX11_endsUnit 4 = .ok (.aload_n 0, 1) := by decide +kernel
theorem dX11_endsUnit_5 : decode cX11_endsUnit 5 = .ok (.getfield 107, 3) := by decide +kernel
theorem dX11_endsUnit_8 : decode cX11_endsUnit 8 = .ok (.iaload, 1) := by decide +kernel
theorem dX11_endsUnit_9 : decode cX11_endsUnit 9 = .ok (.iconst 2, 1) := by decide +kernel
theorem dX11_endsUnit_10 : decode cX11_endsUnit 10 = .ok (.if_icmp .ne 60, 3) := by decide +kernel
theorem dX11_endsUnit_13 : decode cX11_endsUnit 13 = .ok (.aload_n 0, 1) := by decide +kernel
theorem dX11_endsUnit_14 : decode cX11_endsUnit 14 = .ok (.aload_n 0, 1) := by decide +kernel
theorem dX11_endsUnit_15 : decode cX11_endsUnit 15 = .ok (.getfield 38, 3) := by decide +kernel
theorem dX11_endsUnit_18 : decode cX11_endsUnit 18 = .ok (.aload_n 0, 1) := by decide +kernel
theorem dX11_endsUnit_19 : decode cX11_endsUnit 19 = .ok (.getfield 107, 3) := by decide +kernel
theorem dX11_endsUnit_22 : decode cX11_endsUnit 22 = .ok (.iaload, 1) := by decide +kernel
theorem dX11_endsUnit_23 : decode cX11_endsUnit 23 = .ok (.invokevirtual 147, 3) := by decide +kernel
theorem dX11_endsUnit_26 : decode cX11_endsUnit 26 = .ok (.aload_n 0, 1) := by decide +kernel
theorem dX11_endsUnit_27 : decode cX11_endsUnit 27 = .ok (.aload_n 0, 1) := by decide +kernel
theorem dX11_endsUnit_28 : decode cX11_endsUnit 28 = .ok (.getfield 38, 3) := by decide +kernel
theorem dX11_endsUnit_31 : decode cX11_endsUnit 31 = .ok (.aload_n 0, 1) := by decide +kernel
theorem dX11_endsUnit_32 : decode cX11_endsUnit 32 = .ok (.getfield 107, 3) := by decide +kernel
theorem dX11_endsUnit_35 : decode cX11_endsUnit 35 = .ok (.iaload, 1) := by decide +kernel
theorem dX11_endsUnit_36 : decode cX11_endsUnit 36 = .ok (.putfield 90, 3) := by decide +kernel
theorem dX11_endsUnit_39 : decode cX11_endsUnit 39 = .ok (.aload_n 0, 1) := by decide +kernel
theorem dX11_endsUnit_40 : decode cX11_endsUnit 40 = .ok (.iconst 1, 1) := by decide +kernel
theorem dX11_endsUnit_41 : decode cX11_endsUnit 41 = .ok (.invokevirtual 136, 3) := by decide +kernel
theorem dX11_endsUnit_44 : decode cX11_endsUnit 44 = .ok (.aload_n 0, 1) := by decide +kernel
theorem dX11_endsUnit_45 : decode cX11_endsUnit 45 = .ok (.aload_n 0, 1) := by decide +kernel
theorem dX11_endsUnit_46 : decode cX11_endsUnit 46 = .ok (.getfield 41, 3) := by decide +kernel
theorem dX11_endsUnit_49 : decode cX11_endsUnit 49 = .ok (.aload_n 0, 1) := by decide +kernel
theorem dX11_endsUnit_50 : decode cX11_endsUnit 50 = .ok (.getfield 107, 3) := by decide +kernel
theorem dX11_endsUnit_53 : decode cX11_endsUnit 53 = .ok (.iaload, 1) := by decide +kernel
theorem dX11_endsUnit_54 : decode cX11_endsUnit 54 = .ok (.putfield 110, 3) := by decide +kernel
theorem dX11_endsUnit_57 : decode cX11_endsUnit 57 = .ok (.aload_n 0, 1) := by decide +kernel
theorem dX11_endsUnit_58 : decode cX11_endsUnit 58 = .ok (.dup, 1) := by decide +kernel
theorem dX11_endsUnit_59 : decode cX11_endsUnit 59 = .ok (.getfield 107, 3) := by decide +kernel
theorem dX11_endsUnit_62 : decode cX11_endsUnit 62 = .ok (.iconst 1, 1) := by decide +kernel
theorem dX11_endsUnit_63 : decode cX11_endsUnit 63 = .ok (.isub, 1) := by decide +kernel
theorem dX11_endsUnit_64 : decode cX11_endsUnit 64 = .ok (.putfield 107, 3) := by decide +kernel
theorem dX11_endsUnit_67 : decode cX11_endsUnit 67 = .ok (.goto (-67), 3) := by decide +kernel
theorem dX11_endsUnit_70 : decode cX11_endsUnit 70 = .ok (.return_, 1) := by decide +kernel
theorem dX11_endsRow_0 : decode cX11_endsRow 0 = .ok (.aload_n 0, 1) := by decide +kernel
theorem dX11_endsRow_1 : decode cX11_endsRow 1 = .ok (.aload_n 0, 1) := by decide +kernel
theorem dX11_endsRow_2 : decode cX11_endsRow 2 = .ok (.getfield 38, 3) := by decide +kernel
theorem dX11_endsRow_5 : decode cX11_endsRow 5 = .ok (.aload_n 0, 1) := by decide +kernel
theorem dX11_endsRow_6 : decode cX11_endsRow 6 = .ok (.getfield 107, 3) := by decide +kernel
theorem dX11_endsRow_9 : decode cX11_endsRow 9 = .ok (.iaload, 1) := by decide +kernel
theorem dX11_endsRow_10 : decode cX11_endsRow 10 = .ok (.invokevirtual 147, 3) := by decide +kernel
theorem dX11_endsRow_13 : decode cX11_endsRow 13 = .ok (.iconst 0, 1) := by decide +kernel
theorem dX11_endsRow_14 : decode cX11_endsRow 14 = .ok (.istore_n 1, 1) := by decide +kernel
theorem dX11_endsRow_15 : decode cX11_endsRow 15 = .ok (.iload_n 1, 1) := by decide +kernel
theorem dX11_endsRow_16 : decode cX11_endsRow 16 = .ok (.sipush 512, 3) := by decide +kernel
theorem dX11_endsRow_19 : decode cX11_endsRow 19 = .ok (.if_icmp .ge 75, 3) := by decide +kernel
theorem dX11_endsRow_22 : decode cX11_endsRow 22 = .ok (.aload_n 0, 1) := by decide +kernel
theorem dX11_endsRow_23 : decode cX11_endsRow 23 = .ok (.getfield 93, 3) := by decide +kernel
theorem dX11_endsRow_26 : decode cX11_endsRow 26 = .ok (.ifCond .eq 68, 3) := by decide +kernel
theorem dX11_endsRow_29 : decode cX11_endsRow 29 = .ok (.aload_n 0, 1) := by decide +kernel
theorem dX11_endsRow_30 : decode cX11_endsRow 30 = .ok (.getfield 56, 3) := by decide +kernel
theorem dX11_endsRow_33 : decode cX11_endsRow 33 = .ok (.sipush 512, 3) := by decide +kernel
theorem dX11_endsRow_36 : decode cX11_endsRow 36 = .ok (.aload_n 0, 1) := by decide +kernel
theorem dX11_endsRow_37 : decode cX11_endsRow 37 = .ok (.getfield 107, 3) := by decide +kernel
theorem dX11_endsRow_40 : decode cX11_endsRow 40 = .ok (.imul, 1) := by decide +kernel
theorem dX11_endsRow_41 : decode cX11_endsRow 41 = .ok (.iload_n 1, 1) := by decide +kernel
theorem dX11_endsRow_42 : decode cX11_endsRow 42 = .ok (.iadd, 1) := by decide +kernel
theorem dX11_endsRow_43 : decode cX11_endsRow 43 = .ok (.aload_n 0, 1) := by decide +kernel
theorem dX11_endsRow_44 : decode cX11_endsRow 44 = .ok (.getfield 26, 3) := by decide +kernel
theorem dX11_endsRow_47 : decode cX11_endsRow 47 = .ok (.iload_n 1, 1) := by decide +kernel
theorem dX11_endsRow_48 : decode cX11_endsRow 48 = .ok (.baload, 1) := by decide +kernel
theorem dX11_endsRow_49 : decode cX11_endsRow 49 = .ok (.ifCond .ne 33, 3) := by decide +kernel
theorem dX11_endsRow_52 : decode cX11_endsRow 52 = .ok (.aload_n 0, 1) := by decide +kernel
theorem dX11_endsRow_53 : decode cX11_endsRow 53 = .ok (.getfield 44, 3) := by decide +kernel
theorem dX11_endsRow_56 : decode cX11_endsRow 56 = .ok (.aload_n 0, 1) := by decide +kernel
theorem dX11_endsRow_57 : decode cX11_endsRow 57 = .ok (.getfield 107, 3) := by decide +kernel
theorem dX11_endsRow_60 : decode cX11_endsRow 60 = .ok (.iaload, 1) := by decide +kernel
theorem dX11_endsRow_61 : decode cX11_endsRow 61 = .ok (.ifCond .le 25, 3) := by decide +kernel
theorem dX11_endsRow_64 : decode cX11_endsRow 64 = .ok (.aload_n 0, 1) := by decide +kernel
theorem dX11_endsRow_65 : decode cX11_endsRow 65 = .ok (.getfield 56, 3) := by decide +kernel
theorem dX11_endsRow_68 : decode cX11_endsRow 68 = .ok (.sipush 512, 3) := by decide +kernel
theorem dX11_endsRow_71 : decode cX11_endsRow 71 = .ok (.aload_n 0, 1) := by decide +kernel
theorem dX11_endsRow_72 : decode cX11_endsRow 72 = .ok (.getfield 107, 3) := by decide +kernel
theorem dX11_endsRow_75 : decode cX11_endsRow 75 = .ok (.imul, 1) := by decide +kernel
theorem dX11_endsRow_76 : decode cX11_endsRow 76 = .ok (.iload_n 1, 1) := by decide +kernel
theorem dX11_endsRow_77 : decode cX11_endsRow 77 = .ok (.iadd, 1) := by decide +kernel
theorem dX11_endsRow_78 : decode cX11_endsRow 78 = .ok (.baload, 1) := by decide +kernel
theorem dX11_endsRow_79 : decode cX11_endsRow 79 = .ok (.ifCond .eq 7, 3) := by decide +kernel
theorem dX11_endsRow_82 : decode cX11_endsRow 82 = .ok (.iconst 1, 1) := by decide +kernel
theorem dX11_endsRow_83 : decode cX11_endsRow 83 = .ok (.goto 4, 3) := by decide +kernel
theorem dX11_endsRow_86 : decode cX11_endsRow 86 = .ok (.iconst 0, 1) := by decide +kernel
theorem dX11_endsRow_87 : decode cX11_endsRow 87 = .ok (.bastore, 1) := by decide +kernel
theorem dX11_endsRow_88 : decode cX11_endsRow 88 = .ok (.iinc 1 1, 3) := by decide +kernel
theorem dX11_endsRow_91 : decode cX11_endsRow 91 = .ok (.goto (-76), 3) := by decide +kernel
theorem dX11_endsRow_94 : decode cX11_endsRow 94 = .ok (.aload_n 0, 1) := by decide +kernel
theorem dX11_endsRow_95 : decode cX11_endsRow 95 = .ok (.aload_n 0, 1) := by decide +kernel
theorem dX11_endsRow_96 : decode cX11_endsRow 96 = .ok (.getfield 38, 3) := by decide +kernel
theorem dX11_endsRow_99 : decode cX11_endsRow 99 = .ok (.aload_n 0, 1) := by decide +kernel
theorem dX11_endsRow_100 : decode cX11_endsRow 100 = .ok (.getfield 107, 3) := by decide +kernel
theorem dX11_endsRow_103 : decode cX11_endsRow 103 = .ok (.iaload, 1) := by decide +kernel
theorem dX11_endsRow_104 : decode cX11_endsRow 104 = .ok (.putfield 90, 3) := by decide +kernel
theorem dX11_endsRow_107 : decode cX11_endsRow 107 = .ok (.aload_n 0, 1) := by decide +kernel
theorem dX11_endsRow_108 : decode cX11_endsRow 108 = .ok (.aload_n 0, 1) := by decide +kernel
theorem dX11_endsRow_109 : decode cX11_endsRow 109 = .ok (.getfield 41, 3) := by decide +kernel
theorem dX11_endsRow_112 : decode cX11_endsRow 112 = .ok (.aload_n 0, 1) := by decide +kernel
theorem dX11_endsRow_113 : decode cX11_endsRow 113 = .ok (.getfield 107, 3) := by decide +kernel
theorem dX11_endsRow_116 : decode cX11_endsRow 116 = .ok (.iaload, 1) := by decide +kernel
theorem dX11_endsRow_117 : decode cX11_endsRow 117 = .ok (.putfield 110, 3) := by decide +kernel
theorem dX11_endsRow_120 : decode cX11_endsRow 120 = .ok (.aload_n 0, 1) := by decide +kernel
theorem dX11_endsRow_121 : decode cX11_endsRow 121 = .ok (.getfield 44, 3) := by decide +kernel
theorem dX11_endsRow_124 : decode cX11_endsRow 124 = .ok (.aload_n 0, 1) := by decide +kernel
theorem dX11_endsRow_125 : decode cX11_endsRow 125 = .ok (.getfield 107, 3) := by decide +kernel
theorem dX11_endsRow_128 : decode cX11_endsRow 128 = .ok (.dup2, 1) := by decide +kernel
theorem dX11_endsRow_129 : decode cX11_endsRow 129 = .ok (.iaload, 1) := by decide +kernel
theorem dX11_endsRow_130 : decode cX11_endsRow 130 = .ok (.iconst 1, 1) := by decide +kernel
theorem dX11_endsRow_131 : decode cX11_endsRow 131 = .ok (.iadd, 1) := by decide +kernel
theorem dX11_endsRow_132 : decode cX11_endsRow 132 = .ok (.iastore, 1) := by decide +kernel
theorem dX11_endsRow_133 : decode cX11_endsRow 133 = .ok (.return_, 1) := by decide +kernel
theorem dX11_endsChoice_0 : decode cX11_endsChoice 0 = .ok (.aload_n 0, 1) := by decide +kernel
theorem dX11_endsChoice_1 : decode cX11_endsChoice 1 = .ok (.getfield 44, 3) := by decide +kernel
theorem dX11_endsChoice_4 : decode cX11_endsChoice 4 = .ok (.aload_n 0, 1) := by decide +kernel
theorem dX11_endsChoice_5 : decode cX11_endsChoice 5 = .ok (.getfield 107, 3) := by decide +kernel
theorem dX11_endsChoice_8 : decode cX11_endsChoice 8 = .ok (.iaload, 1) := by decide +kernel
theorem dX11_endsChoice_9 : decode cX11_endsChoice 9 = .ok (.ifCond .le 65, 3) := by decide +kernel
theorem dX11_endsChoice_12 : decode cX11_endsChoice 12 = .ok (.aload_n 0, 1) := by decide +kernel
theorem dX11_endsChoice_13 : decode cX11_endsChoice 13 = .ok (.invokevirtual 150, 3) := by decide +kernel
theorem dX11_endsChoice_16 : decode cX11_endsChoice 16 = .ok (.iconst 0, 1) := by decide +kernel
theorem dX11_endsChoice_17 : decode cX11_endsChoice 17 = .ok (.istore_n 1, 1) := by decide +kernel
theorem dX11_endsChoice_18 : decode cX11_endsChoice 18 = .ok (.iload_n 1, 1) := by decide +kernel
theorem dX11_endsChoice_19 : decode cX11_endsChoice 19 = .ok (.sipush 512, 3) := by decide +kernel
theorem dX11_endsChoice_22 : decode cX11_endsChoice 22 = .ok (.if_icmp .ge 37, 3) := by decide +kernel
theorem dX11_endsChoice_25 : decode cX11_endsChoice 25 = .ok (.aload_n 0, 1) := by decide +kernel
theorem dX11_endsChoice_26 : decode cX11_endsChoice 26 = .ok (.getfield 93, 3) := by decide +kernel
theorem dX11_endsChoice_29 : decode cX11_endsChoice 29 = .ok (.ifCond .eq 30, 3) := by decide +kernel
theorem dX11_endsChoice_32 : decode cX11_endsChoice 32 = .ok (.aload_n 0, 1) := by decide +kernel
theorem dX11_endsChoice_33 : decode cX11_endsChoice 33 = .ok (.getfield 26, 3) := by decide +kernel
theorem dX11_endsChoice_36 : decode cX11_endsChoice 36 = .ok (.iload_n 1, 1) := by decide +kernel
theorem dX11_endsChoice_37 : decode cX11_endsChoice 37 = .ok (.aload_n 0, 1) := by decide +kernel
theorem dX11_endsChoice_38 : decode cX11_endsChoice 38 = .ok (.getfield 56, 3) := by decide +kernel
theorem dX11_endsChoice_41 : decode cX11_endsChoice 41 = .ok (.sipush 512, 3) := by decide +kernel
theorem dX11_endsChoice_44 : decode cX11_endsChoice 44 = .ok (.aload_n 0, 1) := by decide +kernel
theorem dX11_endsChoice_45 : decode cX11_endsChoice 45 = .ok (.getfield 107, 3) := by decide +kernel
theorem dX11_endsChoice_48 : decode cX11_endsChoice 48 = .ok (.imul, 1) := by decide +kernel
theorem dX11_endsChoice_49 : decode cX11_endsChoice 49 = .ok (.iload_n 1, 1) := by decide +kernel
theorem dX11_endsChoice_50 : decode cX11_endsChoice 50 = .ok (.iadd, 1) := by decide +kernel
theorem dX11_endsChoice_51 : decode cX11_endsChoice 51 = .ok (.baload, 1) := by decide +kernel
theorem dX11_endsChoice_52 : decode cX11_endsChoice 52 = .ok (.bastore, 1) := by decide +kernel
theorem dX11_endsChoice_53 : decode cX11_endsChoice 53 = .ok (.iinc 1 1, 3) := by decide +kernel
theorem dX11_endsChoice_56 : decode cX11_endsChoice 56 = .ok (.goto (-38), 3) := by decide +kernel
theorem dX11_endsChoice_59 : decode cX11_endsChoice 59 = .ok (.aload_n 0, 1) := by decide +kernel
theorem dX11_endsChoice_60 : decode cX11_endsChoice 60 = .ok (.iconst 0, 1) := by decide +kernel
theorem dX11_endsChoice_61 : decode cX11_endsChoice 61 = .ok (.invokevirtual 136, 3) := by decide +kernel
theorem dX11_endsChoice_64 : decode cX11_endsChoice 64 = .ok (.aload_n 0, 1) := by decide +kernel
theorem dX11_endsChoice_65 : decode cX11_endsChoice 65 = .ok (.getfield 44, 3) := by decide +kernel
theorem dX11_endsChoice_68 : decode cX11_endsChoice 68 = .ok (.aload_n 0, 1) := by decide +kernel
theorem dX11_endsChoice_69 : decode cX11_endsChoice 69 = .ok (.getfield 107, 3) := by decide +kernel
theorem dX11_endsChoice_72 : decode cX11_endsChoice 72 = .ok (.iconst 0, 1) := by decide +kernel
theorem dX11_endsChoice_73 : decode cX11_endsChoice 73 = .ok (.iastore, 1) := by decide +kernel
theorem dX11_endsChoice_74 : decode cX11_endsChoice 74 = .ok (.aload_n 0, 1) := by decide +kernel
theorem dX11_endsChoice_75 : decode cX11_endsChoice 75 = .ok (.getfield 47, 3) := by decide +kernel
theorem dX11_endsChoice_78 : decode cX11_endsChoice 78 = .ok (.aload_n 0, 1) := by decide +kernel
theorem dX11_endsChoice_79 : decode cX11_endsChoice 79 = .ok (.getfield 107, 3) := by decide +kernel
theorem dX11_endsChoice_82 : decode cX11_endsChoice 82 = .ok (.iconst 0, 1) := by decide +kernel
theorem dX11_endsChoice_83 : decode cX11_endsChoice 83 = .ok (.bastore, 1) := by decide +kernel
theorem dX11_endsChoice_84 : decode cX11_endsChoice 84 = .ok (.return_, 1) := by decide +kernel
theorem dX11_endsFormula_0 : decode cX11_endsFormula 0 = .ok (.aload_n 0, 1) := by decide +kernel
theorem dX11_endsFormula_1 : decode cX11_endsFormula 1 = .ok (.invokevirtual 153, 3) := by decide +kernel
theorem dX11_endsFormula_4 : decode cX11_endsFormula 4 = .ok (.aload_n 0, 1) := by decide +kernel
theorem dX11_endsFormula_5 : decode cX11_endsFormula 5 = .ok (.getfield 35, 3) := by decide +kernel
theorem dX11_endsFormula_8 : decode cX11_endsFormula 8 = .ok (.aload_n 0, 1) := by decide +kernel
theorem dX11_endsFormula_9 : decode cX11_endsFormula 9 = .ok (.getfield 107, 3) := by decide +kernel
theorem dX11_endsFormula_12 : decode cX11_endsFormula 12 = .ok (.iaload, 1) := by decide +kernel
theorem dX11_endsFormula_13 : decode cX11_endsFormula 13 = .ok (.iconst 3, 1) := by decide +kernel
theorem dX11_endsFormula_14 : decode cX11_endsFormula 14 = .ok (.if_icmp .ne 128, 3) := by decide +kernel
theorem dX11_endsFormula_17 : decode cX11_endsFormula 17 = .ok (.aload_n 0, 1) := by decide +kernel
theorem dX11_endsFormula_18 : decode cX11_endsFormula 18 = .ok (.aload_n 0, 1) := by decide +kernel
theorem dX11_endsFormula_19 : decode cX11_endsFormula 19 = .ok (.getfield 38, 3) := by decide +kernel
theorem dX11_endsFormula_22 : decode cX11_endsFormula 22 = .ok (.aload_n 0, 1) := by decide +kernel
theorem dX11_endsFormula_23 : decode cX11_endsFormula 23 = .ok (.getfield 107, 3) := by decide +kernel
theorem dX11_endsFormula_26 : decode cX11_endsFormula 26 = .ok (.iaload, 1) := by decide +kernel
theorem dX11_endsFormula_27 : decode cX11_endsFormula 27 = .ok (.invokevirtual 147, 3) := by decide +kernel
theorem dX11_endsFormula_30 : decode cX11_endsFormula 30 = .ok (.iconst 0, 1) := by decide +kernel
theorem dX11_endsFormula_31 : decode cX11_endsFormula 31 = .ok (.istore_n 1, 1) := by decide +kernel
theorem dX11_endsFormula_32 : decode cX11_endsFormula 32 = .ok (.iload_n 1, 1) := by decide +kernel
theorem dX11_endsFormula_33 : decode cX11_endsFormula 33 = .ok (.sipush 512, 3) := by decide +kernel
theorem dX11_endsFormula_36 : decode cX11_endsFormula 36 = .ok (.if_icmp .ge 36, 3) := by decide +kernel
theorem dX11_endsFormula_39 : decode cX11_endsFormula 39 = .ok (.aload_n 0, 1) := by decide +kernel
theorem dX11_endsFormula_40 : decode cX11_endsFormula 40 = .ok (.getfield 93, 3) := by decide +kernel
theorem dX11_endsFormula_43 : decode cX11_endsFormula 43 = .ok (.ifCond .eq 29, 3) := by decide +kernel
theorem dX11_endsFormula_46 : decode cX11_endsFormula 46 = .ok (.aload_n 0, 1) := by decide +kernel
theorem dX11_endsFormula_47 : decode cX11_endsFormula 47 = .ok (.getfield 26, 3) := by decide +kernel
theorem dX11_endsFormula_50 : decode cX11_endsFormula 50 = .ok (.iload_n 1, 1) := by decide +kernel
theorem dX11_endsFormula_51 : decode cX11_endsFormula 51 = .ok (.aload_n 0, 1) := by decide +kernel
theorem dX11_endsFormula_52 : decode cX11_endsFormula 52 = .ok (.getfield 26, 3) := by decide +kernel
theorem dX11_endsFormula_55 : decode cX11_endsFormula 55 = .ok (.iload_n 1, 1) := by decide +kernel
theorem dX11_endsFormula_56 : decode cX11_endsFormula 56 = .ok (.baload, 1) := by decide +kernel
theorem dX11_endsFormula_57 : decode cX11_endsFormula 57 = .ok (.ifCond .ne 7, 3) := by decide +kernel
theorem dX11_endsFormula_60 : decode cX11_endsFormula 60 = .ok (.iconst 1, 1) := by decide +kernel
theorem dX11_endsFormula_61 : decode cX11_endsFormula 61 = .ok (.goto 4, 3) := by decide +kernel
theorem dX11_endsFormula_64 : decode cX11_endsFormula 64 = .ok (.iconst 0, 1) := by decide +kernel
theorem dX11_endsFormula_65 : decode cX11_endsFormula 65 = .ok (.bastore, 1) := by decide +kernel
theorem dX11_endsFormula_66 : decode cX11_endsFormula 66 = .ok (.iinc 1 1, 3) := by decide +kernel
theorem dX11_endsFormula_69 : decode cX11_endsFormula 69 = .ok (.goto (-37), 3) := by decide +kernel
theorem dX11_endsFormula_72 : decode cX11_endsFormula 72 = .ok (.aload_n 0, 1) := by decide +kernel
theorem dX11_endsFormula_73 : decode cX11_endsFormula 73 = .ok (.aload_n 0, 1) := by decide +kernel
theorem dX11_endsFormula_74 : decode cX11_endsFormula 74 = .ok (.getfield 38, 3) := by decide +kernel
theorem dX11_endsFormula_77 : decode cX11_endsFormula 77 = .ok (.aload_n 0, 1) := by decide +kernel
theorem dX11_endsFormula_78 : decode cX11_endsFormula 78 = .ok (.getfield 107, 3) := by decide +kernel
theorem dX11_endsFormula_81 : decode cX11_endsFormula 81 = .ok (.iaload, 1) := by decide +kernel
theorem dX11_endsFormula_82 : decode cX11_endsFormula 82 = .ok (.putfield 90, 3) := by decide +kernel
theorem dX11_endsFormula_85 : decode cX11_endsFormula 85 = .ok (.aload_n 0, 1) := by decide +kernel
theorem dX11_endsFormula_86 : decode cX11_endsFormula 86 = .ok (.dup, 1) := by decide +kernel
theorem dX11_endsFormula_87 : decode cX11_endsFormula 87 = .ok (.getfield 107, 3) := by decide +kernel
theorem dX11_endsFormula_90 : decode cX11_endsFormula 90 = .ok (.iconst 1, 1) := by decide +kernel
theorem dX11_endsFormula_91 : decode cX11_endsFormula 91 = .ok (.isub, 1) := by decide +kernel
theorem dX11_endsFormula_92 : decode cX11_endsFormula 92 = .ok (.putfield 107, 3) := by decide +kernel
theorem dX11_endsFormula_95 : decode cX11_endsFormula 95 = .ok (.aload_n 0, 1) := by decide +kernel
theorem dX11_endsFormula_96 : decode cX11_endsFormula 96 = .ok (.aload_n 0, 1) := by decide +kernel
theorem dX11_endsFormula_97 : decode cX11_endsFormula 97 = .ok (.getfield 38, 3) := by decide +kernel
theorem dX11_endsFormula_100 : decode cX11_endsFormula 100 = .ok (.aload_n 0, 1) := by decide +kernel
theorem dX11_endsFormula_101 : decode cX11_endsFormula 101 = .ok (.getfield 107, 3) := by decide +kernel
theorem dX11_endsFormula_104 : decode cX11_endsFormula 104 = .ok (.iaload, 1) := by decide +kernel
theorem dX11_endsFormula_105 : decode cX11_endsFormula 105 = .ok (.invokevirtual 101, 3) := by decide +kernel
theorem dX11_endsFormula_108 : decode cX11_endsFormula 108 = .ok (.aload_n 0, 1) := by decide +kernel
theorem dX11_endsFormula_109 : decode cX11_endsFormula 109 = .ok (.aload_n 0, 1) := by decide +kernel
theorem dX11_endsFormula_110 : decode cX11_endsFormula 110 = .ok (.getfield 38, 3) := by decide +kernel
theorem dX11_endsFormula_113 : decode cX11_endsFormula 113 = .ok (.aload_n 0, 1) := by decide +kernel
theorem dX11_endsFormula_114 : decode cX11_endsFormula 114 = .ok (.getfield 107, 3) := by decide +kernel
theorem dX11_endsFormula_117 : decode cX11_endsFormula 117 = .ok (.iaload, 1) := by decide +kernel
theorem dX11_endsFormula_118 : decode cX11_endsFormula 118 = .ok (.putfield 90, 3) := by decide +kernel
theorem dX11_endsFormula_121 : decode cX11_endsFormula 121 = .ok (.aload_n 0, 1) := by decide +kernel
theorem dX11_endsFormula_122 : decode cX11_endsFormula 122 = .ok (.iconst 1, 1) := by decide +kernel
theorem dX11_endsFormula_123 : decode cX11_endsFormula 123 = .ok (.invokevirtual 136, 3) := by decide +kernel
theorem dX11_endsFormula_126 : decode cX11_endsFormula 126 = .ok (.aload_n 0, 1) := by decide +kernel
theorem dX11_endsFormula_127 : decode cX11_endsFormula 127 = .ok (.aload_n 0, 1) := by decide +kernel
theorem dX11_endsFormula_128 : decode cX11_endsFormula 128 = .ok (.getfield 41, 3) := by decide +kernel
theorem dX11_endsFormula_131 : decode cX11_endsFormula 131 = .ok (.aload_n 0, 1) := by decide +kernel
theorem dX11_endsFormula_132 : decode cX11_endsFormula 132 = .ok (.getfield 107, 3) := by decide +kernel
theorem dX11_endsFormula_135 : decode cX11_endsFormula 135 = .ok (.iaload, 1) := by decide +kernel
theorem dX11_endsFormula_136 : decode cX11_endsFormula 136 = .ok (.putfield 110, 3) := by decide +kernel
theorem dX11_endsFormula_139 : decode cX11_endsFormula 139 = .ok (.goto (-135), 3) := by decide +kernel
theorem dX11_endsFormula_142 : decode cX11_endsFormula 142 = .ok (.return_, 1) := by decide +kernel
theorem dX11_under_0 : decode cX11_under 0 = .ok (.aload_n 0, 1) := by decide +kernel
theorem dX11_under_1 : decode cX11_under 1 = .ok (.getfield 107, 3) := by decide +kernel
theorem dX11_under_4 : decode cX11_under 4 = .ok (.istore_n 1, 1) := by decide +kernel
theorem dX11_under_5 : decode cX11_under 5 = .ok (.aload_n 0, 1) := by decide +kernel
theorem dX11_under_6 : decode cX11_under 6 = .ok (.getfield 35, 3) := by decide +kernel
theorem dX11_under_9 : decode cX11_under 9 = .ok (.iload_n 1, 1) := by decide +kernel
theorem dX11_under_10 : decode cX11_under 10 = .ok (.iaload, 1) := by decide +kernel
theorem dX11_under_11 : decode cX11_under 11 = .ok (.iconst 3, 1) := by decide +kernel
theorem dX11_under_12 : decode cX11_under 12 = .ok (.if_icmp .ne 9, 3) := by decide +kernel
theorem dX11_under_15 : decode cX11_under 15 = .ok (.iinc 1 (-1), 3) := by decide +kernel
theorem dX11_under_18 : decode cX11_under 18 = .ok (.goto (-13), 3) := by decide +kernel
theorem dX11_under_21 : decode cX11_under 21 = .ok (.aload_n 0, 1) := by decide +kernel
theorem dX11_under_22 : decode cX11_under 22 = .ok (.getfield 35, 3) := by decide +kernel
theorem dX11_under_25 : decode cX11_under 25 = .ok (.iload_n 1, 1) := by decide +kernel
theorem dX11_under_26 : decode cX11_under 26 = .ok (.iaload, 1) := by decide +kernel
theorem dX11_under_27 : decode cX11_under 27 = .ok (.ireturn, 1) := by decide +kernel
theorem dX11_readsFormula_0 : decode cX11_readsFormula 0 = .ok (.iconst 1, 1) := by decide +kernel
theorem dX11_readsFormula_1 : decode cX11_readsFormula 1 = .ok (.istore_n 1, 1) := by decide +kernel
theorem dX11_readsFormula_2 : decode cX11_readsFormula 2 = .ok (.aload_n 0, 1) := by decide +kernel
theorem dX11_readsFormula_3 : decode cX11_readsFormula 3 = .ok (.invokevirtual 119, 3) := by decide +kernel
theorem dX11_readsFormula_6 : decode cX11_readsFormula 6 = .ok (.istore_n 2, 1) := by decide +kernel
theorem dX11_readsFormula_7 : decode cX11_readsFormula 7 = .ok (.iload_n 1, 1) := by decide +kernel
theorem dX11_readsFormula_8 : decode cX11_readsFormula 8 = .ok (.ifCond .eq 54, 3) := by decide +kernel
theorem dX11_readsFormula_11 : decode cX11_readsFormula 11 = .ok (.iload_n 2, 1) := by decide +kernel
theorem dX11_readsFormula_12 : decode cX11_readsFormula 12 = .ok (.bipush 33, 2) := by decide +kernel
theorem dX11_readsFormula_14 : decode cX11_readsFormula 14 = .ok (.if_icmp .eq 9, 3) := by decide +kernel
theorem dX11_readsFormula_17 : decode cX11_readsFormula 17 = .ok (.iload_n 2, 1) := by decide +kernel
theorem dX11_readsFormula_18 : decode cX11_readsFormula 18 = .ok (.bipush 40, 2) := by decide +kernel
theorem dX11_readsFormula_20 : decode cX11_readsFormula 20 = .ok (.if_icmp .ne 42, 3) := by decide +kernel
theorem dX11_readsFormula_23 : decode cX11_readsFormula 23 = .ok (.aload_n 0, 1) := by decide +kernel
theorem dX11_readsFormula_24 : decode cX11_readsFormula 24 = .ok (.getfield 107, 3) := by decide +kernel
theorem dX11_readsFormula_27 : decode cX11_readsFormula 27 = .ok (.bipush 8, 2) := by decide +kernel
theorem dX11_readsFormula_29 : decode cX11_readsFormula 29 = .ok (.if_icmp .ne 5, 3) := by decide +kernel
theorem dX11_readsFormula_32 : decode cX11_readsFormula 32 = .ok (.iconst 0, 1) := by decide +kernel
theorem dX11_readsFormula_33 : decode cX11_readsFormula 33 = .ok (.ireturn, 1) := by decide +kernel
theorem dX11_readsFormula_34 : decode cX11_readsFormula 34 = .ok (.aload_n 0, 1) := by decide +kernel
theorem dX11_readsFormula_35 : decode cX11_readsFormula 35 = .ok (.iload_n 2, 1) := by decide +kernel
theorem dX11_readsFormula_36 : decode cX11_readsFormula 36 = .ok (.bipush 33, 2) := by decide +kernel
theorem dX11_readsFormula_38 : decode cX11_readsFormula 38 = .ok (.if_icmp .ne 7, 3) := by decide +kernel
theorem dX11_readsFormula_41 : decode cX11_readsFormula 41 = .ok (.iconst 2, 1) := by decide +kernel
theorem dX11_readsFormula_42 : decode cX11_readsFormula 42 = .ok (.goto 4, 3) := by decide +kernel
theorem dX11_readsFormula_45 : decode cX11_readsFormula 45 = .ok (.iconst 1, 1) := by decide +kernel
theorem dX11_readsFormula_46 : decode cX11_readsFormula 46 = .ok (.invokevirtual 156, 3) := by decide +kernel
theorem dX11_readsFormula_49 : decode cX11_readsFormula 49 = .ok (.aload_n 0, 1) := by decide +kernel
theorem dX11_readsFormula_50 : decode cX11_readsFormula 50 = .ok (.dup, 1) := by decide +kernel
theorem dX11_readsFormula_51 : decode cX11_readsFormula 51 = .ok (.getfield 104, 3) := by decide +kernel
theorem dX11_readsFormula_54 : decode cX11_readsFormula 54 = .ok (.iconst 1, 1) := by decide +kernel
theorem dX11_readsFormula_55 : decode cX11_readsFormula 55 = .ok (.iadd, 1) := by decide +kernel
theorem dX11_readsFormula_56 : decode cX11_readsFormula 56 = .ok (.putfield 104, 3) := by decide +kernel
theorem dX11_readsFormula_59 : decode cX11_readsFormula 59 = .ok (.goto 234, 3) := by decide +kernel
theorem dX11_readsFormula_62 : decode cX11_readsFormula 62 = .ok (.iload_n 1, 1) := by decide +kernel
theorem dX11_readsFormula_63 : decode cX11_readsFormula 63 = .ok (.ifCond .eq 21, 3) := by decide +kernel
theorem dX11_readsFormula_66 : decode cX11_readsFormula 66 = .ok (.aload_n 0, 1) := by decide +kernel
theorem dX11_readsFormula_67 : decode cX11_readsFormula 67 = .ok (.invokevirtual 159, 3) := by decide +kernel
theorem dX11_readsFormula_70 : decode cX11_readsFormula 70 = .ok (.ifCond .ne 5, 3) := by decide +kernel
theorem dX11_readsFormula_73 : decode cX11_readsFormula 73 = .ok (.iconst 0, 1) := by decide +kernel
theorem dX11_readsFormula_74 : decode cX11_readsFormula 74 = .ok (.ireturn, 1) := by decide +kernel
theorem dX11_readsFormula_75 : decode cX11_readsFormula 75 = .ok (.aload_n 0, 1) := by decide +kernel
theorem dX11_readsFormula_76 : decode cX11_readsFormula 76 = .ok (.invokevirtual 163, 3) := by decide +kernel
theorem dX11_readsFormula_79 : decode cX11_readsFormula 79 = .ok (.iconst 0, 1) := by decide +kernel
theorem dX11_readsFormula_80 : decode cX11_readsFormula 80 = .ok (.istore_n 1, 1) := by decide +kernel
theorem dX11_readsFormula_81 : decode cX11_readsFormula 81 = .ok (.goto 212, 3) := by decide +kernel
theorem dX11_readsFormula_84 : decode cX11_readsFormula 84 = .ok (.iload_n 2, 1) := by decide +kernel
theorem dX11_readsFormula_85 : decode cX11_readsFormula 85 = .ok (.bipush 38, 2) := by decide +kernel
theorem dX11_readsFormula_87 : decode cX11_readsFormula 87 = .ok (.if_icmp .eq 9, 3) := by decide +kernel
theorem dX11_readsFormula_90 : decode cX11_readsFormula 90 = .ok (.iload_n 2, 1) := by decide +kernel
theorem dX11_readsFormula_91 : decode cX11_readsFormula 91 = .ok (.bipush 124, 2) := by decide +kernel
theorem dX11_readsFormula_93 : decode cX11_readsFormula 93 = .ok (.if_icmp .ne 64, 3) := by decide +kernel
theorem dX11_readsFormula_96 : decode cX11_readsFormula 96 = .ok (.iload_n 2, 1) := by decide +kernel
theorem dX11_readsFormula_97 : decode cX11_readsFormula 97 = .ok (.bipush 124, 2) := by decide +kernel
theorem dX11_readsFormula_99 : decode cX11_readsFormula 99 = .ok (.if_icmp .ne 43, 3) := by decide +kernel
theorem dX11_readsFormula_102 : decode cX11_readsFormula 102 = .ok (.aload_n 0, 1) := by decide +kernel
theorem dX11_readsFormula_103 : decode cX11_readsFormula 103 = .ok (.dup, 1) := by decide +kernel
theorem dX11_readsFormula_104 : decode cX11_readsFormula 104 = .ok (.getfield 116, 3) := by decide +kernel
theorem dX11_readsFormula_107 : decode cX11_readsFormula 107 = .ok (.aload_n 0, 1) := by decide +kernel
theorem dX11_readsFormula_108 : decode cX11_readsFormula 108 = .ok (.getfield 47, 3) := by decide +kernel
theorem dX11_readsFormula_111 : decode cX11_readsFormula 111 = .ok (.aload_n 0, 1) := by decide +kernel
theorem dX11_readsFormula_112 : decode cX11_readsFormula 112 = .ok (.getfield 107, 3) := by decide +kernel
theorem dX11_readsFormula_115 : decode cX11_readsFormula 115 = .ok (.baload, 1) := by decide +kernel
theorem dX11_readsFormula_116 : decode cX11_readsFormula 116 = .ok (.ifCond .eq 7, 3) := by decide +kernel
theorem dX11_readsFormula_119 : decode cX11_readsFormula 119 = .ok (.iconst 1, 1) := by decide +kernel
theorem dX11_readsFormula_120 : decode cX11_readsFormula 120 = .ok (.goto 4, 3) := by decide +kernel
theorem dX11_readsFormula_123 : decode cX11_readsFormula 123 = .ok (.iconst 0, 1) := by decide +kernel
theorem dX11_readsFormula_124 : decode cX11_readsFormula 124 = .ok (.iadd, 1) := by decide +kernel
theorem dX11_readsFormula_125 : decode cX11_readsFormula 125 = .ok (.putfield 116, 3) := by decide +kernel
theorem dX11_readsFormula_128 : decode cX11_readsFormula 128 = .ok (.aload_n 0, 1) := by decide +kernel
theorem dX11_readsFormula_129 : decode cX11_readsFormula 129 = .ok (.getfield 47, 3) := by decide +kernel
theorem dX11_readsFormula_132 : decode cX11_readsFormula 132 = .ok (.aload_n 0, 1) := by decide +kernel
theorem dX11_readsFormula_133 : decode cX11_readsFormula 133 = .ok (.getfield 107, 3) := by decide +kernel
theorem dX11_readsFormula_136 : decode cX11_readsFormula 136 = .ok (.iconst 0, 1) := by decide +kernel
theorem dX11_readsFormula_137 : decode cX11_readsFormula 137 = .ok (.bastore, 1) := by decide +kernel
theorem dX11_readsFormula_138 : decode cX11_readsFormula 138 = .ok (.aload_n 0, 1) := by decide +kernel
theorem dX11_readsFormula_139 : decode cX11_readsFormula 139 = .ok (.invokevirtual 150, 3) := by decide +kernel
theorem dX11_readsFormula_142 : decode cX11_readsFormula 142 = .ok (.aload_n 0, 1) := by decide +kernel
theorem dX11_readsFormula_143 : decode cX11_readsFormula 143 = .ok (.dup, 1) := by decide +kernel
theorem dX11_readsFormula_144 : decode cX11_readsFormula 144 = .ok (.getfield 104, 3) := by decide +kernel
theorem dX11_readsFormula_147 : decode cX11_readsFormula 147 = .ok (.iconst 1, 1) := by decide +kernel
theorem dX11_readsFormula_148 : decode cX11_readsFormula 148 = .ok (.iadd, 1) := by decide +kernel
theorem dX11_readsFormula_149 : decode cX11_readsFormula 149 = .ok (.putfield 104, 3) := by decide +kernel
theorem dX11_readsFormula_152 : decode cX11_readsFormula 152 = .ok (.iconst 1, 1) := by decide +kernel
theorem dX11_readsFormula_153 : decode cX11_readsFormula 153 = .ok (.istore_n 1, 1) := by decide +kernel
theorem dX11_readsFormula_154 : decode cX11_readsFormula 154 = .ok (.goto 139, 3) := by decide +kernel
theorem dX11_readsFormula_157 : decode cX11_readsFormula 157 = .ok (.iload_n 2, 1) := by decide +kernel
theorem dX11_readsFormula_158 : decode cX11_readsFormula 158 = .ok (.bipush 62, 2) := by decide +kernel
theorem dX11_readsFormula_160 : decode cX11_readsFormula 160 = .ok (.if_icmp .ne 84, 3) := by decide +kernel
theorem dX11_readsFormula_163 : decode cX11_readsFormula 163 = .ok (.aload_n 0, 1) := by decide +kernel
theorem dX11_readsFormula_164 : decode cX11_readsFormula 164 = .ok (.getfield 107, 3) := by decide +kernel
theorem dX11_readsFormula_167 : decode cX11_readsFormula 167 = .ok (.bipush 8, 2) := by decide +kernel
theorem dX11_readsFormula_169 : decode cX11_readsFormula 169 = .ok (.if_icmp .ne 5, 3) := by decide +kernel
theorem dX11_readsFormula_172 : decode cX11_readsFormula 172 = .ok (.iconst 0, 1) := by decide +kernel
theorem dX11_readsFormula_173 : decode cX11_readsFormula 173 = .ok (.ireturn, 1) := by decide +kernel
theorem dX11_readsFormula_174 : decode cX11_readsFormula 174 = .ok (.aload_n 0, 1) := by decide +kernel
theorem dX11_readsFormula_175 : decode cX11_readsFormula 175 = .ok (.dup, 1) := by decide +kernel
theorem dX11_readsFormula_176 : decode cX11_readsFormula 176 = .ok (.getfield 116, 3) := by decide +kernel
theorem dX11_readsFormula_179 : decode cX11_readsFormula 179 = .ok (.aload_n 0, 1) := by decide +kernel
theorem dX11_readsFormula_180 : decode cX11_readsFormula 180 = .ok (.getfield 50, 3) := by decide +kernel
theorem dX11_readsFormula_183 : decode cX11_readsFormula 183 = .ok (.aload_n 0, 1) := by decide +kernel
theorem dX11_readsFormula_184 : decode cX11_readsFormula 184 = .ok (.getfield 107, 3) := by decide +kernel
theorem dX11_readsFormula_187 : decode cX11_readsFormula 187 = .ok (.baload, 1) := by decide +kernel
theorem dX11_readsFormula_188 : decode cX11_readsFormula 188 = .ok (.ifCond .eq 7, 3) := by decide +kernel
theorem dX11_readsFormula_191 : decode cX11_readsFormula 191 = .ok (.iconst 1, 1) := by decide +kernel
theorem dX11_readsFormula_192 : decode cX11_readsFormula 192 = .ok (.goto 4, 3) := by decide +kernel
theorem dX11_readsFormula_195 : decode cX11_readsFormula 195 = .ok (.iconst 0, 1) := by decide +kernel
theorem dX11_readsFormula_196 : decode cX11_readsFormula 196 = .ok (.iadd, 1) := by decide +kernel
theorem dX11_readsFormula_197 : decode cX11_readsFormula 197 = .ok (.putfield 116, 3) := by decide +kernel
