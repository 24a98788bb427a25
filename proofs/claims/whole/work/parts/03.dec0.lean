theorem dX0_init_0 : decode cX0_init 0 = .ok (.aload_n 0, 1) := by decide +kernel
theorem dX0_init_1 : decode cX0_init 1 = .ok (.invokespecial 3, 3) := by decide +kernel
theorem dX0_init_4 : decode cX0_init 4 = .ok (.aload_n 0, 1) := by decide +kernel
theorem dX0_init_5 : decode cX0_init 5 = .ok (.bipush 60, 2) := by decide +kernel
theorem dX0_init_7 : decode cX0_init 7 = .ok (.newarray .int, 2) := by decide +kernel
theorem dX0_init_9 : decode cX0_init 9 = .ok (.putfield 9, 3) := by decide +kernel
theorem dX0_init_12 : decode cX0_init 12 = .ok (.aload_n 0, 1) := by decide +kernel
theorem dX0_init_13 : decode cX0_init 13 = .ok (.bipush 64, 2) := by decide +kernel
theorem dX0_init_15 : decode cX0_init 15 = .ok (.newarray .int, 2) := by decide +kernel
theorem dX0_init_17 : decode cX0_init 17 = .ok (.putfield 15, 3) := by decide +kernel
theorem dX0_init_20 : decode cX0_init 20 = .ok (.return_, 1) := by decide +kernel
theorem dX0_bestWorth_0 : decode cX0_bestWorth 0 = .ok (.aload_n 0, 1) := by decide +kernel
theorem dX0_bestWorth_1 : decode cX0_bestWorth 1 = .ok (.aload_n 1, 1) := by decide +kernel
theorem dX0_bestWorth_2 : decode cX0_bestWorth 2 = .ok (.invokevirtual 18, 3) := by decide +kernel
theorem dX0_bestWorth_5 : decode cX0_bestWorth 5 = .ok (.aload_n 0, 1) := by decide +kernel
theorem dX0_bestWorth_6 : decode cX0_bestWorth 6 = .ok (.aload_n 0, 1) := by decide +kernel
theorem dX0_bestWorth_7 : decode cX0_bestWorth 7 = .ok (.getfield 22, 3) := by decide +kernel
theorem dX0_bestWorth_10 : decode cX0_bestWorth 10 = .ok (.aload_n 0, 1) := by decide +kernel
theorem dX0_bestWorth_11 : decode cX0_bestWorth 11 = .ok (.getfield 26, 3) := by decide +kernel
theorem dX0_bestWorth_14 : decode cX0_bestWorth 14 = .ok (.invokevirtual 29, 3) := by decide +kernel
theorem dX0_bestWorth_17 : decode cX0_bestWorth 17 = .ok (.ireturn, 1) := by decide +kernel
theorem dX0_lossOf_0 : decode cX0_lossOf 0 = .ok (.aload_n 0, 1) := by decide +kernel
theorem dX0_lossOf_1 : decode cX0_lossOf 1 = .ok (.aload_n 1, 1) := by decide +kernel
theorem dX0_lossOf_2 : decode cX0_lossOf 2 = .ok (.invokevirtual 18, 3) := by decide +kernel
theorem dX0_lossOf_5 : decode cX0_lossOf 5 = .ok (.aload_n 0, 1) := by decide +kernel
theorem dX0_lossOf_6 : decode cX0_lossOf 6 = .ok (.aload_n 0, 1) := by decide +kernel
theorem dX0_lossOf_7 : decode cX0_lossOf 7 = .ok (.getfield 22, 3) := by decide +kernel
theorem dX0_lossOf_10 : decode cX0_lossOf 10 = .ok (.aload_n 0, 1) := by decide +kernel
theorem dX0_lossOf_11 : decode cX0_lossOf 11 = .ok (.getfield 26, 3) := by decide +kernel
theorem dX0_lossOf_14 : decode cX0_lossOf 14 = .ok (.invokevirtual 29, 3) := by decide +kernel
theorem dX0_lossOf_17 : decode cX0_lossOf 17 = .ok (.aload_n 0, 1) := by decide +kernel
theorem dX0_lossOf_18 : decode cX0_lossOf 18 = .ok (.aload_n 0, 1) := by decide +kernel
theorem dX0_lossOf_19 : decode cX0_lossOf 19 = .ok (.getfield 22, 3) := by decide +kernel
theorem dX0_lossOf_22 : decode cX0_lossOf 22 = .ok (.aload_n 0, 1) := by decide +kernel
theorem dX0_lossOf_23 : decode cX0_lossOf 23 = .ok (.getfield 26, 3) := by decide +kernel
theorem dX0_lossOf_26 : decode cX0_lossOf 26 = .ok (.iconst 1, 1) := by decide +kernel
theorem dX0_lossOf_27 : decode cX0_lossOf 27 = .ok (.iload_n 2, 1) := by decide +kernel
theorem dX0_lossOf_28 : decode cX0_lossOf 28 = .ok (.ishl, 1) := by decide +kernel
theorem dX0_lossOf_29 : decode cX0_lossOf 29 = .ok (.iconst (-1), 1) := by decide +kernel
theorem dX0_lossOf_30 : decode cX0_lossOf 30 = .ok (.ixor, 1) := by decide +kernel
theorem dX0_lossOf_31 : decode cX0_lossOf 31 = .ok (.iand, 1) := by decide +kernel
theorem dX0_lossOf_32 : decode cX0_lossOf 32 = .ok (.invokevirtual 29, 3) := by decide +kernel
theorem dX0_lossOf_35 : decode cX0_lossOf 35 = .ok (.isub, 1) := by decide +kernel
theorem dX0_lossOf_36 : decode cX0_lossOf 36 = .ok (.ireturn, 1) := by decide +kernel
theorem dX0_headIn_0 : decode cX0_headIn 0 = .ok (.aload_n 0, 1) := by decide +kernel
theorem dX0_headIn_1 : decode cX0_headIn 1 = .ok (.aload_n 1, 1) := by decide +kernel
theorem dX0_headIn_2 : decode cX0_headIn 2 = .ok (.invokevirtual 18, 3) := by decide +kernel
theorem dX0_headIn_5 : decode cX0_headIn 5 = .ok (.aload_n 0, 1) := by decide +kernel
theorem dX0_headIn_6 : decode cX0_headIn 6 = .ok (.aload_n 0, 1) := by decide +kernel
theorem dX0_headIn_7 : decode cX0_headIn 7 = .ok (.getfield 22, 3) := by decide +kernel
theorem dX0_headIn_10 : decode cX0_headIn 10 = .ok (.aload_n 0, 1) := by decide +kernel
theorem dX0_headIn_11 : decode cX0_headIn 11 = .ok (.getfield 26, 3) := by decide +kernel
theorem dX0_headIn_14 : decode cX0_headIn 14 = .ok (.invokevirtual 29, 3) := by decide +kernel
theorem dX0_headIn_17 : decode cX0_headIn 17 = .ok (.istore_n 3, 1) := by decide +kernel
theorem dX0_headIn_18 : decode cX0_headIn 18 = .ok (.iconst (-1), 1) := by decide +kernel
theorem dX0_headIn_19 : decode cX0_headIn 19 = .ok (.istore 4, 2) := by decide +kernel
theorem dX0_headIn_21 : decode cX0_headIn 21 = .ok (.iconst 0, 1) := by decide +kernel
theorem dX0_headIn_22 : decode cX0_headIn 22 = .ok (.istore 5, 2) := by decide +kernel
theorem dX0_headIn_24 : decode cX0_headIn 24 = .ok (.iload 5, 2) := by decide +kernel
theorem dX0_headIn_26 : decode cX0_headIn 26 = .ok (.iload_n 2, 1) := by decide +kernel
theorem dX0_headIn_27 : decode cX0_headIn 27 = .ok (.if_icmp .gt 85, 3) := by decide +kernel
theorem dX0_headIn_30 : decode cX0_headIn 30 = .ok (.iconst (-1), 1) := by decide +kernel
theorem dX0_headIn_31 : decode cX0_headIn 31 = .ok (.istore 4, 2) := by decide +kernel
theorem dX0_headIn_33 : decode cX0_headIn 33 = .ok (.aload_n 0, 1) := by decide +kernel
theorem dX0_headIn_34 : decode cX0_headIn 34 = .ok (.getfield 22, 3) := by decide +kernel
theorem dX0_headIn_37 : decode cX0_headIn 37 = .ok (.iconst 1, 1) := by decide +kernel
theorem dX0_headIn_38 : decode cX0_headIn 38 = .ok (.iload 5, 2) := by decide +kernel
theorem dX0_headIn_40 : decode cX0_headIn 40 = .ok (.ishl, 1) := by decide +kernel
theorem dX0_headIn_41 : decode cX0_headIn 41 = .ok (.iand, 1) := by decide +kernel
theorem dX0_headIn_42 : decode cX0_headIn 42 = .ok (.ifCond .eq 27, 3) := by decide +kernel
theorem dX0_headIn_45 : decode cX0_headIn 45 = .ok (.aload_n 0, 1) := by decide +kernel
theorem dX0_headIn_46 : decode cX0_headIn 46 = .ok (.dup, 1) := by decide +kernel
theorem dX0_headIn_47 : decode cX0_headIn 47 = .ok (.getfield 22, 3) := by decide +kernel
theorem dX0_headIn_50 : decode cX0_headIn 50 = .ok (.iconst 1, 1) := by decide +kernel
theorem dX0_headIn_51 : decode cX0_headIn 51 = .ok (.iload 5, 2) := by decide +kernel
theorem dX0_headIn_53 : decode cX0_headIn 53 = .ok (.ishl, 1) := by decide +kernel
theorem dX0_headIn_54 : decode cX0_headIn 54 = .ok (.iconst (-1), 1) := by decide +kernel
theorem dX0_headIn_55 : decode cX0_headIn 55 = .ok (.ixor, 1) := by decide +kernel
theorem dX0_headIn_56 : decode cX0_headIn 56 = .ok (.iand, 1) := by decide +kernel
theorem dX0_headIn_57 : decode cX0_headIn 57 = .ok (.putfield 22, 3) := by decide +kernel
theorem dX0_headIn_60 : decode cX0_headIn 60 = .ok (.aload_n 0, 1) := by decide +kernel
theorem dX0_headIn_61 : decode cX0_headIn 61 = .ok (.iload 5, 2) := by decide +kernel
theorem dX0_headIn_63 : decode cX0_headIn 63 = .ok (.iload_n 3, 1) := by decide +kernel
theorem dX0_headIn_64 : decode cX0_headIn 64 = .ok (.invokevirtual 33, 3) := by decide +kernel
theorem dX0_headIn_67 : decode cX0_headIn 67 = .ok (.istore 4, 2) := by decide +kernel
theorem dX0_headIn_69 : decode cX0_headIn 69 = .ok (.iload 4, 2) := by decide +kernel
theorem dX0_headIn_71 : decode cX0_headIn 71 = .ok (.iconst (-1), 1) := by decide +kernel
theorem dX0_headIn_72 : decode cX0_headIn 72 = .ok (.if_icmp .eq 34, 3) := by decide +kernel
theorem dX0_headIn_75 : decode cX0_headIn 75 = .ok (.aload_n 0, 1) := by decide +kernel
theorem dX0_headIn_76 : decode cX0_headIn 76 = .ok (.dup, 1) := by decide +kernel
theorem dX0_headIn_77 : decode cX0_headIn 77 = .ok (.getfield 26, 3) := by decide +kernel
theorem dX0_headIn_80 : decode cX0_headIn 80 = .ok (.iconst 1, 1) := by decide +kernel
theorem dX0_headIn_81 : decode cX0_headIn 81 = .ok (.iload 4, 2) := by decide +kernel
theorem dX0_headIn_83 : decode cX0_headIn 83 = .ok (.ishl, 1) := by decide +kernel
theorem dX0_headIn_84 : decode cX0_headIn 84 = .ok (.iconst (-1), 1) := by decide +kernel
theorem dX0_headIn_85 : decode cX0_headIn 85 = .ok (.ixor, 1) := by decide +kernel
theorem dX0_headIn_86 : decode cX0_headIn 86 = .ok (.iand, 1) := by decide +kernel
theorem dX0_headIn_87 : decode cX0_headIn 87 = .ok (.putfield 26, 3) := by decide +kernel
theorem dX0_headIn_90 : decode cX0_headIn 90 = .ok (.iload_n 3, 1) := by decide +kernel
theorem dX0_headIn_91 : decode cX0_headIn 91 = .ok (.aload_n 0, 1) := by decide +kernel
theorem dX0_headIn_92 : decode cX0_headIn 92 = .ok (.getfield 9, 3) := by decide +kernel
theorem dX0_headIn_95 : decode cX0_headIn 95 = .ok (.iload 4, 2) := by decide +kernel
theorem dX0_headIn_97 : decode cX0_headIn 97 = .ok (.bipush 6, 2) := by decide +kernel
theorem dX0_headIn_99 : decode cX0_headIn 99 = .ok (.imul, 1) := by decide +kernel
theorem dX0_headIn_100 : decode cX0_headIn 100 = .ok (.iload 5, 2) := by decide +kernel
theorem dX0_headIn_102 : decode cX0_headIn 102 = .ok (.iadd, 1) := by decide +kernel
theorem dX0_headIn_103 : decode cX0_headIn 103 = .ok (.iaload, 1) := by decide +kernel
theorem dX0_headIn_104 : decode cX0_headIn 104 = .ok (.isub, 1) := by decide +kernel
theorem dX0_headIn_105 : decode cX0_headIn 105 = .ok (.istore_n 3, 1) := by decide +kernel
theorem dX0_headIn_106 : decode cX0_headIn 106 = .ok (.iinc 5 1, 3) := by decide +kernel
theorem dX0_headIn_109 : decode cX0_headIn 109 = .ok (.goto (-85), 3) := by decide +kernel
theorem dX0_headIn_112 : decode cX0_headIn 112 = .ok (.iload 4, 2) := by decide +kernel
theorem dX0_headIn_114 : decode cX0_headIn 114 = .ok (.ireturn, 1) := by decide +kernel
theorem dX0_bestLooks_0 : decode cX0_bestLooks 0 = .ok (.aload_n 0, 1) := by decide +kernel
theorem dX0_bestLooks_1 : decode cX0_bestLooks 1 = .ok (.aload_n 1, 1) := by decide +kernel
theorem dX0_bestLooks_2 : decode cX0_bestLooks 2 = .ok (.invokevirtual 18, 3) := by decide +kernel
theorem dX0_bestLooks_5 : decode cX0_bestLooks 5 = .ok (.aload_n 0, 1) := by decide +kernel
theorem dX0_bestLooks_6 : decode cX0_bestLooks 6 = .ok (.aload_n 0, 1) := by decide +kernel
theorem dX0_bestLooks_7 : decode cX0_bestLooks 7 = .ok (.getfield 22, 3) := by decide +kernel
theorem dX0_bestLooks_10 : decode cX0_bestLooks 10 = .ok (.aload_n 0, 1) := by decide +kernel
theorem dX0_bestLooks_11 : decode cX0_bestLooks 11 = .ok (.getfield 26, 3) := by decide +kernel
theorem dX0_bestLooks_14 : decode cX0_bestLooks 14 = .ok (.iconst 1, 1) := by decide +kernel
theorem dX0_bestLooks_15 : decode cX0_bestLooks 15 = .ok (.iload_n 2, 1) := by decide +kernel
theorem dX0_bestLooks_16 : decode cX0_bestLooks 16 = .ok (.ishl, 1) := by decide +kernel
theorem dX0_bestLooks_17 : decode cX0_bestLooks 17 = .ok (.iconst (-1), 1) := by decide +kernel
theorem dX0_bestLooks_18 : decode cX0_bestLooks 18 = .ok (.ixor, 1) := by decide +kernel
theorem dX0_bestLooks_19 : decode cX0_bestLooks 19 = .ok (.iand, 1) := by decide +kernel
theorem dX0_bestLooks_20 : decode cX0_bestLooks 20 = .ok (.invokevirtual 29, 3) := by decide +kernel
theorem dX0_bestLooks_23 : decode cX0_bestLooks 23 = .ok (.pop, 1) := by decide +kernel
theorem dX0_bestLooks_24 : decode cX0_bestLooks 24 = .ok (.iconst 0, 1) := by decide +kernel
theorem dX0_bestLooks_25 : decode cX0_bestLooks 25 = .ok (.istore_n 3, 1) := by decide +kernel
theorem dX0_bestLooks_26 : decode cX0_bestLooks 26 = .ok (.iconst (-1), 1) := by decide +kernel
theorem dX0_bestLooks_27 : decode cX0_bestLooks 27 = .ok (.istore 4, 2) := by decide +kernel
theorem dX0_bestLooks_29 : decode cX0_bestLooks 29 = .ok (.iconst 0, 1) := by decide +kernel
theorem dX0_bestLooks_30 : decode cX0_bestLooks 30 = .ok (.istore 5, 2) := by decide +kernel
theorem dX0_bestLooks_32 : decode cX0_bestLooks 32 = .ok (.iload 5, 2) := by decide +kernel
theorem dX0_bestLooks_34 : decode cX0_bestLooks 34 = .ok (.sipush 255, 3) := by decide +kernel
theorem dX0_bestLooks_37 : decode cX0_bestLooks 37 = .ok (.if_icmp .gt 38, 3) := by decide +kernel
theorem dX0_bestLooks_40 : decode cX0_bestLooks 40 = .ok (.aload_n 0, 1) := by decide +kernel
theorem dX0_bestLooks_41 : decode cX0_bestLooks 41 = .ok (.aload_n 1, 1) := by decide +kernel
theorem dX0_bestLooks_42 : decode cX0_bestLooks 42 = .ok (.aload_n 1, 1) := by decide +kernel
theorem dX0_bestLooks_43 : decode cX0_bestLooks 43 = .ok (.getfield 36, 3) := by decide +kernel
theorem dX0_bestLooks_46 : decode cX0_bestLooks 46 = .ok (.iload_n 2, 1) := by decide +kernel
theorem dX0_bestLooks_47 : decode cX0_bestLooks 47 = .ok (.iaload, 1) := by decide +kernel
theorem dX0_bestLooks_48 : decode cX0_bestLooks 48 = .ok (.iload 5, 2) := by decide +kernel
theorem dX0_bestLooks_50 : decode cX0_bestLooks 50 = .ok (.invokevirtual 41, 3) := by decide +kernel
theorem dX0_bestLooks_53 : decode cX0_bestLooks 53 = .ok (.istore 6, 2) := by decide +kernel
theorem dX0_bestLooks_55 : decode cX0_bestLooks 55 = .ok (.iload 6, 2) := by decide +kernel
theorem dX0_bestLooks_57 : decode cX0_bestLooks 57 = .ok (.iload 4, 2) := by decide +kernel
theorem dX0_bestLooks_59 : decode cX0_bestLooks 59 = .ok (.if_icmp .le 10, 3) := by decide +kernel
theorem dX0_bestLooks_62 : decode cX0_bestLooks 62 = .ok (.iload 6, 2) := by decide +kernel
theorem dX0_bestLooks_64 : decode cX0_bestLooks 64 = .ok (.istore 4, 2) := by decide +kernel
theorem dX0_bestLooks_66 : decode cX0_bestLooks 66 = .ok (.iload 5, 2) := by decide +kernel
theorem dX0_bestLooks_68 : decode cX0_bestLooks 68 = .ok (.istore_n 3, 1) := by decide +kernel
theorem dX0_bestLooks_69 : decode cX0_bestLooks 69 = .ok (.iinc 5 1, 3) := by decide +kernel
theorem dX0_bestLooks_72 : decode cX0_bestLooks 72 = .ok (.goto (-40), 3) := by decide +kernel
theorem dX0_bestLooks_75 : decode cX0_bestLooks 75 = .ok (.iload_n 3, 1) := by decide +kernel
theorem dX0_bestLooks_76 : decode cX0_bestLooks 76 = .ok (.ireturn, 1) := by decide +kernel
theorem dX0_bestKind_0 : decode cX0_bestKind 0 = .ok (.aload_n 0, 1) := by decide +kernel
theorem dX0_bestKind_1 : decode cX0_bestKind 1 = .ok (.aload_n 1, 1) := by decide +kernel
theorem dX0_bestKind_2 : decode cX0_bestKind 2 = .ok (.invokevirtual 18, 3) := by decide +kernel
theorem dX0_bestKind_5 : decode cX0_bestKind 5 = .ok (.aload_n 0, 1) := by decide +kernel
theorem dX0_bestKind_6 : decode cX0_bestKind 6 = .ok (.aload_n 0, 1) := by decide +kernel
theorem dX0_bestKind_7 : decode cX0_bestKind 7 = .ok (.getfield 22, 3) := by decide +kernel
theorem dX0_bestKind_10 : decode cX0_bestKind 10 = .ok (.aload_n 0, 1) := by decide +kernel
theorem dX0_bestKind_11 : decode cX0_bestKind 11 = .ok (.getfield 26, 3) := by decide +kernel
theorem dX0_bestKind_14 : decode cX0_bestKind 14 = .ok (.iconst 1, 1) := by decide +kernel
theorem dX0_bestKind_15 : decode cX0_bestKind 15 = .ok (.iload_n 2, 1) := by decide +kernel
theorem dX0_bestKind_16 : decode cX0_bestKind 16 = .ok (.ishl, 1) := by decide +kernel
theorem dX0_bestKind_17 : decode cX0_bestKind 17 = .ok (.iconst (-1), 1) := by decide +kernel
theorem dX0_bestKind_18 : decode cX0_bestKind 18 = .ok (.ixor, 1) := by decide +kernel
theorem dX0_bestKind_19 : decode cX0_bestKind 19 = .ok (.iand, 1) := by decide +kernel
theorem dX0_bestKind_20 : decode cX0_bestKind 20 = .ok (.invokevirtual 29, 3) := by decide +kernel
theorem dX0_bestKind_23 : decode cX0_bestKind 23 = .ok (.pop, 1) := by decide +kernel
theorem dX0_bestKind_24 : decode cX0_bestKind 24 = .ok (.iconst 0, 1) := by decide +kernel
theorem dX0_bestKind_25 : decode cX0_bestKind 25 = .ok (.istore_n 3, 1) := by decide +kernel
theorem dX0_bestKind_26 : decode cX0_bestKind 26 = .ok (.iconst (-1), 1) := by decide +kernel
theorem dX0_bestKind_27 : decode cX0_bestKind 27 = .ok (.istore 4, 2) := by decide +kernel
theorem dX0_bestKind_29 : decode cX0_bestKind 29 = .ok (.iconst 0, 1) := by decide +kernel
theorem dX0_bestKind_30 : decode cX0_bestKind 30 = .ok (.istore 5, 2) := by decide +kernel
theorem dX0_bestKind_32 : decode cX0_bestKind 32 = .ok (.iload 5, 2) := by decide +kernel
theorem dX0_bestKind_34 : decode cX0_bestKind 34 = .ok (.bipush 6, 2) := by decide +kernel
theorem dX0_bestKind_36 : decode cX0_bestKind 36 = .ok (.if_icmp .gt 38, 3) := by decide +kernel
theorem dX0_bestKind_39 : decode cX0_bestKind 39 = .ok (.aload_n 0, 1) := by decide +kernel
theorem dX0_bestKind_40 : decode cX0_bestKind 40 = .ok (.aload_n 1, 1) := by decide +kernel
theorem dX0_bestKind_41 : decode cX0_bestKind 41 = .ok (.iload 5, 2) := by decide +kernel
theorem dX0_bestKind_43 : decode cX0_bestKind 43 = .ok (.aload_n 1, 1) := by decide +kernel
theorem dX0_bestKind_44 : decode cX0_bestKind 44 = .ok (.getfield 47, 3) := by decide +kernel
theorem dX0_bestKind_47 : decode cX0_bestKind 47 = .ok (.iload_n 2, 1) := by decide +kernel
theorem dX0_bestKind_48 : decode cX0_bestKind 48 = .ok (.iaload, 1) := by decide +kernel
theorem dX0_bestKind_49 : decode cX0_bestKind 49 = .ok (.invokevirtual 41, 3) := by decide +kernel
theorem dX0_bestKind_52 : decode cX0_bestKind 52 = .ok (.istore 6, 2) := by decide +kernel
theorem dX0_bestKind_54 : decode cX0_bestKind 54 = .ok (.iload 6, 2) := by decide +kernel
theorem dX0_bestKind_56 : decode cX0_bestKind 56 = .ok (.iload 4, 2) := by decide +kernel
theorem dX0_bestKind_58 : decode cX0_bestKind 58 = .ok (.if_icmp .le 10, 3) := by decide +kernel
theorem dX0_bestKind_61 : decode cX0_bestKind 61 = .ok (.iload 6, 2) := by decide +kernel
theorem dX0_bestKind_63 : decode cX0_bestKind 63 = .ok (.istore 4, 2) := by decide +kernel
theorem dX0_bestKind_65 : decode cX0_bestKind 65 = .ok (.iload 5, 2) := by decide +kernel
theorem dX0_bestKind_67 : decode cX0_bestKind 67 = .ok (.istore_n 3, 1) := by decide +kernel
theorem dX0_bestKind_68 : decode cX0_bestKind 68 = .ok (.iinc 5 1, 3) := by decide +kernel
theorem dX0_bestKind_71 : decode cX0_bestKind 71 = .ok (.goto (-39), 3) := by decide +kernel
theorem dX0_bestKind_74 : decode cX0_bestKind 74 = .ok (.iload_n 3, 1) := by decide +kernel
theorem dX0_bestKind_75 : decode cX0_bestKind 75 = .ok (.ireturn, 1) := by decide +kernel
theorem dX0_survey_0 : decode cX0_survey 0 = .ok (.aload_n 0, 1) := by decide +kernel
theorem dX0_survey_1 : decode cX0_survey 1 = .ok (.aload_n 1, 1) := by decide +kernel
theorem dX0_survey_2 : decode cX0_survey 2 = .ok (.invokevirtual 50, 3) := by decide +kernel
theorem dX0_survey_5 : decode cX0_survey 5 = .ok (.putfield 22, 3) := by decide +kernel
theorem dX0_survey_8 : decode cX0_survey 8 = .ok (.aload_n 0, 1) := by decide +kernel
theorem dX0_survey_9 : decode cX0_survey 9 = .ok (.iconst 0, 1) := by decide +kernel
theorem dX0_survey_10 : decode cX0_survey 10 = .ok (.putfield 26, 3) := by decide +kernel
theorem dX0_survey_13 : decode cX0_survey 13 = .ok (.iconst 0, 1) := by decide +kernel
theorem dX0_survey_14 : decode cX0_survey 14 = .ok (.istore_n 2, 1) := by decide +kernel
theorem dX0_survey_15 : decode cX0_survey 15 = .ok (.iload_n 2, 1) := by decide +kernel
theorem dX0_survey_16 : decode cX0_survey 16 = .ok (.aload_n 1, 1) := by decide +kernel
theorem dX0_survey_17 : decode cX0_survey 17 = .ok (.getfield 54, 3) := by decide +kernel
theorem dX0_survey_20 : decode cX0_survey 20 = .ok (.if_icmp .ge 81, 3) := by decide +kernel
theorem dX0_survey_23 : decode cX0_survey 23 = .ok (.aload_n 1, 1) := by decide +kernel
theorem dX0_survey_24 : decode cX0_survey 24 = .ok (.iload_n 2, 1) := by decide +kernel
theorem dX0_survey_25 : decode cX0_survey 25 = .ok (.invokevirtual 57, 3) := by decide +kernel
theorem dX0_survey_28 : decode cX0_survey 28 = .ok (.ifCond .eq 67, 3) := by decide +kernel
theorem dX0_survey_31 : decode cX0_survey 31 = .ok (.aload_n 0, 1) := by decide +kernel
theorem dX0_survey_32 : decode cX0_survey 32 = .ok (.dup, 1) := by decide +kernel
theorem dX0_survey_33 : decode cX0_survey 33 = .ok (.getfield 26, 3) := by decide +kernel
theorem dX0_survey_36 : decode cX0_survey 36 = .ok (.iconst 1, 1) := by decide +kernel
theorem dX0_survey_37 : decode cX0_survey 37 = .ok (.iload_n 2, 1) := by decide +kernel
theorem dX0_survey_38 : decode cX0_survey 38 = .ok (.ishl, 1) := by decide +kernel
theorem dX0_survey_39 : decode cX0_survey 39 = .ok (.ior, 1) := by decide +kernel
theorem dX0_survey_40 : decode cX0_survey 40 = .ok (.putfield 26, 3) := by decide +kernel
theorem dX0_survey_43 : decode cX0_survey 43 = .ok (.iconst 0, 1) := by decide +kernel
theorem dX0_survey_44 : decode cX0_survey 44 = .ok (.istore_n 3, 1) := by decide +kernel
theorem dX0_survey_45 : decode cX0_survey 45 = .ok (.iload_n 3, 1) := by decide +kernel
theorem dX0_survey_46 : decode cX0_survey 46 = .ok (.bipush 6, 2) := by decide +kernel
theorem dX0_survey_48 : decode cX0_survey 48 = .ok (.if_icmp .ge 47, 3) := by decide +kernel
theorem dX0_survey_51 : decode cX0_survey 51 = .ok (.aload_n 1, 1) := by decide +kernel
theorem dX0_survey_52 : decode cX0_survey 52 = .ok (.getfield 61, 3) := by decide +kernel
theorem dX0_survey_55 : decode cX0_survey 55 = .ok (.iload_n 3, 1) := by decide +kernel
theorem dX0_survey_56 : decode cX0_survey 56 = .ok (.iaload, 1) := by decide +kernel
theorem dX0_survey_57 : decode cX0_survey 57 = .ok (.istore 4, 2) := by decide +kernel
theorem dX0_survey_59 : decode cX0_survey 59 = .ok (.aload_n 0, 1) := by decide +kernel
theorem dX0_survey_60 : decode cX0_survey 60 = .ok (.getfield 9, 3) := by decide +kernel
theorem dX0_survey_63 : decode cX0_survey 63 = .ok (.iload_n 2, 1) := by decide +kernel
theorem dX0_survey_64 : decode cX0_survey 64 = .ok (.bipush 6, 2) := by decide +kernel
theorem dX0_survey_66 : decode cX0_survey 66 = .ok (.imul, 1) := by decide +kernel
theorem dX0_survey_67 : decode cX0_survey 67 = .ok (.iload_n 3, 1) := by decide +kernel
theorem dX0_survey_68 : decode cX0_survey 68 = .ok (.iadd, 1) := by decide +kernel
theorem dX0_survey_69 : decode cX0_survey 69 = .ok (.iload 4, 2) := by decide +kernel
theorem dX0_survey_71 : decode cX0_survey 71 = .ok (.invokestatic 64, 3) := by decide +kernel
theorem dX0_survey_74 : decode cX0_survey 74 = .ok (.ifCond .eq 13, 3) := by decide +kernel
theorem dX0_survey_77 : decode cX0_survey 77 = .ok (.aload_n 1, 1) := by decide +kernel
theorem dX0_survey_78 : decode cX0_survey 78 = .ok (.iload_n 2, 1) := by decide +kernel
theorem dX0_survey_79 : decode cX0_survey 79 = .ok (.iload 4, 2) := by decide +kernel
theorem dX0_survey_81 : decode cX0_survey 81 = .ok (.invokevirtual 67, 3) := by decide +kernel
theorem dX0_survey_84 : decode cX0_survey 84 = .ok (.goto 4, 3) := by decide +kernel
theorem dX0_survey_87 : decode cX0_survey 87 = .ok (.iconst 0, 1) := by decide +kernel
theorem dX0_survey_88 : decode cX0_survey 88 = .ok (.iastore, 1) := by decide +kernel
theorem dX0_survey_89 : decode cX0_survey 89 = .ok (.iinc 3 1, 3) := by decide +kernel
theorem dX0_survey_92 : decode cX0_survey 92 = .ok (.goto (-47), 3) := by decide +kernel
theorem dX0_survey_95 : decode cX0_survey 95 = .ok (.iinc 2 1, 3) := by decide +kernel
theorem dX0_survey_98 : decode cX0_survey 98 = .ok (.goto (-83), 3) := by decide +kernel
theorem dX0_survey_101 : decode cX0_survey 101 = .ok (.return_, 1) := by decide +kernel
theorem dX0_fill_0 : decode cX0_fill 0 = .ok (.aload_n 0, 1) := by decide +kernel
theorem dX0_fill_1 : decode cX0_fill 1 = .ok (.getfield 15, 3) := by decide +kernel
theorem dX0_fill_4 : decode cX0_fill 4 = .ok (.iconst 0, 1) := by decide +kernel
theorem dX0_fill_5 : decode cX0_fill 5 = .ok (.invokestatic 70, 3) := by decide +kernel
theorem dX0_fill_8 : decode cX0_fill 8 = .ok (.iconst 0, 1) := by decide +kernel
theorem dX0_fill_9 : decode cX0_fill 9 = .ok (.istore_n 3, 1) := by decide +kernel
theorem dX0_fill_10 : decode cX0_fill 10 = .ok (.iload_n 3, 1) := by decide +kernel
theorem dX0_fill_11 : decode cX0_fill 11 = .ok (.bipush 10, 2) := by decide +kernel
theorem dX0_fill_13 : decode cX0_fill 13 = .ok (.if_icmp .ge 23, 3) := by decide +kernel
theorem dX0_fill_16 : decode cX0_fill 16 = .ok (.iload_n 2, 1) := by decide +kernel
theorem dX0_fill_17 : decode cX0_fill 17 = .ok (.iconst 1, 1) := by decide +kernel
theorem dX0_fill_18 : decode cX0_fill 18 = .ok (.iload_n 3, 1) := by decide +kernel
theorem dX0_fill_19 : decode cX0_fill 19 = .ok (.ishl, 1) := by decide +kernel
theorem dX0_fill_20 : decode cX0_fill 20 = .ok (.iand, 1) := by decide +kernel
theorem dX0_fill_21 : decode cX0_fill 21 = .ok (.ifCond .eq 9, 3) := by decide +kernel
theorem dX0_fill_24 : decode cX0_fill 24 = .ok (.aload_n 0, 1) := by decide +kernel
theorem dX0_fill_25 : decode cX0_fill 25 = .ok (.iload_n 1, 1) := by decide +kernel
theorem dX0_fill_26 : decode cX0_fill 26 = .ok (.iload_n 3, 1) := by decide +kernel
theorem dX0_fill_27 : decode cX0_fill 27 = .ok (.invokevirtual 75, 3) := by decide +kernel
theorem dX0_fill_30 : decode cX0_fill 30 = .ok (.iinc 3 1, 3) := by decide +kernel
theorem dX0_fill_33 : decode cX0_fill 33 = .ok (.goto (-23), 3) := by decide +kernel
theorem dX0_fill_36 : decode cX0_fill 36 = .ok (.aload_n 0, 1) := by decide +kernel
theorem dX0_fill_37 : decode cX0_fill 37 = .ok (.getfield 15, 3) := by decide +kernel
theorem dX0_fill_40 : decode cX0_fill 40 = .ok (.iload_n 1, 1) := by decide +kernel
theorem dX0_fill_41 : decode cX0_fill 41 = .ok (.iaload, 1) := by decide +kernel
theorem dX0_fill_42 : decode cX0_fill 42 = .ok (.ireturn, 1) := by decide +kernel
theorem dX0_offer_0 : decode cX0_offer 0 = .ok (.iload_n 1, 1) := by decide +kernel
theorem dX0_offer_1 : decode cX0_offer 1 = .ok (.istore_n 3, 1) := by decide +kernel
theorem dX0_offer_2 : decode cX0_offer 2 = .ok (.iload_n 3, 1) := by decide +kernel
theorem dX0_offer_3 : decode cX0_offer 3 = .ok (.ifCond .le 29, 3) := by decide +kernel
theorem dX0_offer_6 : decode cX0_offer 6 = .ok (.iload_n 3, 1) := by decide +kernel
theorem dX0_offer_7 : decode cX0_offer 7 = .ok (.iload_n 1, 1) := by decide +kernel
theorem dX0_offer_8 : decode cX0_offer 8 = .ok (.iconst (-1), 1) := by decide +kernel
theorem dX0_offer_9 : decode cX0_offer 9 = .ok (.ixor, 1) := by decide +kernel
theorem dX0_offer_10 : decode cX0_offer 10 = .ok (.iand, 1) := by decide +kernel
theorem dX0_offer_11 : decode cX0_offer 11 = .ok (.ifCond .ne 15, 3) := by decide +kernel
theorem dX0_offer_14 : decode cX0_offer 14 = .ok (.aload_n 0, 1) := by decide +kernel
theorem dX0_offer_15 : decode cX0_offer 15 = .ok (.getfield 15, 3) := by decide +kernel
theorem dX0_offer_18 : decode cX0_offer 18 = .ok (.iload_n 3, 1) := by decide +kernel
theorem dX0_offer_19 : decode cX0_offer 19 = .ok (.aload_n 0, 1) := by decide +kernel
theorem dX0_offer_20 : decode cX0_offer 20 = .ok (.iload_n 3, 1) := by decide +kernel
theorem dX0_offer_21 : decode cX0_offer 21 = .ok (.iload_n 2, 1) := by decide +kernel
theorem dX0_offer_22 : decode cX0_offer 22 = .ok (.invokevirtual 79, 3) := by decide +kernel
theorem dX0_offer_25 : decode cX0_offer 25 = .ok (.iastore, 1) := by decide +kernel
theorem dX0_offer_26 : decode cX0_offer 26 = .ok (.iinc 3 (-1), 3) := by decide +kernel
theorem dX0_offer_29 : decode cX0_offer 29 = .ok (.goto (-27), 3) := by decide +kernel
theorem dX0_offer_32 : decode cX0_offer 32 = .ok (.return_, 1) := by decide +kernel
theorem dX0_worthIn_0 : decode cX0_worthIn 0 = .ok (.aload_n 0, 1) := by decide +kernel
theorem dX0_worthIn_1 : decode cX0_worthIn 1 = .ok (.getfield 15, 3) := by decide +kernel
theorem dX0_worthIn_4 : decode cX0_worthIn 4 = .ok (.iload_n 1, 1) := by decide +kernel
theorem dX0_worthIn_5 : decode cX0_worthIn 5 = .ok (.iaload, 1) := by decide +kernel
theorem dX0_worthIn_6 : decode cX0_worthIn 6 = .ok (.istore_n 3, 1) := by decide +kernel
theorem dX0_worthIn_7 : decode cX0_worthIn 7 = .ok (.iconst 0, 1) := by decide +kernel
theorem dX0_worthIn_8 : decode cX0_worthIn 8 = .ok (.istore 4, 2) := by decide +kernel
theorem dX0_worthIn_10 : decode cX0_worthIn 10 = .ok (.iload 4, 2) := by decide +kernel
theorem dX0_worthIn_12 : decode cX0_worthIn 12 = .ok (.bipush 6, 2) := by decide +kernel
theorem dX0_worthIn_14 : decode cX0_worthIn 14 = .ok (.if_icmp .ge 49, 3) := by decide +kernel
theorem dX0_worthIn_17 : decode cX0_worthIn 17 = .ok (.iload_n 1, 1) := by decide +kernel
theorem dX0_worthIn_18 : decode cX0_worthIn 18 = .ok (.iconst 1, 1) := by decide +kernel
theorem dX0_worthIn_19 : decode cX0_worthIn 19 = .ok (.iload 4, 2) := by decide +kernel
theorem dX0_worthIn_21 : decode cX0_worthIn 21 = .ok (.ishl, 1) := by decide +kernel
theorem dX0_worthIn_22 : decode cX0_worthIn 22 = .ok (.iand, 1) := by decide +kernel
theorem dX0_worthIn_23 : decode cX0_worthIn 23 = .ok (.ifCond .eq 34, 3) := by decide +kernel
theorem dX0_worthIn_26 : decode cX0_worthIn 26 = .ok (.iload_n 3, 1) := by decide +kernel
theorem dX0_worthIn_27 : decode cX0_worthIn 27 = .ok (.aload_n 0, 1) := by decide +kernel
theorem dX0_worthIn_28 : decode cX0_worthIn 28 = .ok (.getfield 15, 3) := by decide +kernel
theorem dX0_worthIn_31 : decode cX0_worthIn 31 = .ok (.iload_n 1, 1) := by decide +kernel
theorem dX0_worthIn_32 : decode cX0_worthIn 32 = .ok (.iconst 1, 1) := by decide +kernel
theorem dX0_worthIn_33 : decode cX0_worthIn 33 = .ok (.iload 4, 2) := by decide +kernel
theorem dX0_worthIn_35 : decode cX0_worthIn 35 = .ok (.ishl, 1) := by decide +kernel
theorem dX0_worthIn_36 : decode cX0_worthIn 36 = .ok (.iconst (-1), 1) := by decide +kernel
theorem dX0_worthIn_37 : decode cX0_worthIn 37 = .ok (.ixor, 1) := by decide +kernel
theorem dX0_worthIn_38 : decode cX0_worthIn 38 = .ok (.iand, 1) := by decide +kernel
theorem dX0_worthIn_39 : decode cX0_worthIn 39 = .ok (.iaload, 1) := by decide +kernel
theorem dX0_worthIn_40 : decode cX0_worthIn 40 = .ok (.aload_n 0, 1) := by decide +kernel
theorem dX0_worthIn_41 : decode cX0_worthIn 41 = .ok (.getfield 9, 3) := by decide +kernel
theorem dX0_worthIn_44 : decode cX0_worthIn 44 = .ok (.iload_n 2, 1) := by decide +kernel
theorem dX0_worthIn_45 : decode cX0_worthIn 45 = .ok (.bipush 6, 2) := by decide +kernel
theorem dX0_worthIn_47 : decode cX0_worthIn 47 = .ok (.imul, 1) := by decide +kernel
theorem dX0_worthIn_48 : decode cX0_worthIn 48 = .ok (.iload 4, 2) := by decide +kernel
theorem dX0_worthIn_50 : decode cX0_worthIn 50 = .ok (.iadd, 1) := by decide +kernel
theorem dX0_worthIn_51 : decode cX0_worthIn 51 = .ok (.iaload, 1) := by decide +kernel
theorem dX0_worthIn_52 : decode cX0_worthIn 52 = .ok (.iadd, 1) := by decide +kernel
theorem dX0_worthIn_53 : decode cX0_worthIn 53 = .ok (.invokestatic 82, 3) := by decide +kernel
theorem dX0_worthIn_56 : decode cX0_worthIn 56 = .ok (.istore_n 3, 1) := by decide +kernel
theorem dX0_worthIn_57 : decode cX0_worthIn 57 = .ok (.iinc 4 1, 3) := by decide +kernel
theorem dX0_worthIn_60 : decode cX0_worthIn 60 = .ok (.goto (-50), 3) := by decide +kernel
theorem dX0_worthIn_63 : decode cX0_worthIn 63 = .ok (.iload_n 3, 1) := by decide +kernel
theorem dX0_worthIn_64 : decode cX0_worthIn 64 = .ok (.ireturn, 1) := by decide +kernel
theorem dX0_firstHead_0 : decode cX0_firstHead 0 = .ok (.iconst 0, 1) := by decide +kernel
theorem dX0_firstHead_1 : decode cX0_firstHead 1 = .ok (.istore_n 3, 1) := by decide +kernel
theorem dX0_firstHead_2 : decode cX0_firstHead 2 = .ok (.iload_n 3, 1) := by decide +kernel
theorem dX0_firstHead_3 : decode cX0_firstHead 3 = .ok (.bipush 10, 2) := by decide +kernel
theorem dX0_firstHead_5 : decode cX0_firstHead 5 = .ok (.if_icmp .ge 58, 3) := by decide +kernel
theorem dX0_firstHead_8 : decode cX0_firstHead 8 = .ok (.aload_n 0, 1) := by decide +kernel
theorem dX0_firstHead_9 : decode cX0_firstHead 9 = .ok (.getfield 26, 3) := by decide +kernel
theorem dX0_firstHead_12 : decode cX0_firstHead 12 = .ok (.iconst 1, 1) := by decide +kernel
theorem dX0_firstHead_13 : decode cX0_firstHead 13 = .ok (.iload_n 3, 1) := by decide +kernel
theorem dX0_firstHead_14 : decode cX0_firstHead 14 = .ok (.ishl, 1) := by decide +kernel
theorem dX0_firstHead_15 : decode cX0_firstHead 15 = .ok (.iconst (-1), 1) := by decide +kernel
theorem dX0_firstHead_16 : decode cX0_firstHead 16 = .ok (.ixor, 1) := by decide +kernel
theorem dX0_firstHead_17 : decode cX0_firstHead 17 = .ok (.iand, 1) := by decide +kernel
theorem dX0_firstHead_18 : decode cX0_firstHead 18 = .ok (.istore 4, 2) := by decide +kernel
theorem dX0_firstHead_20 : decode cX0_firstHead 20 = .ok (.iload 4, 2) := by decide +kernel
theorem dX0_firstHead_22 : decode cX0_firstHead 22 = .ok (.aload_n 0, 1) := by decide +kernel
theorem dX0_firstHead_23 : decode cX0_firstHead 23 = .ok (.getfield 26, 3) := by decide +kernel
theorem dX0_firstHead_26 : decode cX0_firstHead 26 = .ok (.if_icmp .eq 31, 3) := by decide +kernel
theorem dX0_firstHead_29 : decode cX0_firstHead 29 = .ok (.aload_n 0, 1) := by decide +kernel
theorem dX0_firstHead_30 : decode cX0_firstHead 30 = .ok (.getfield 9, 3) := by decide +kernel
theorem dX0_firstHead_33 : decode cX0_firstHead 33 = .ok (.iload_n 3, 1) := by decide +kernel
theorem dX0_firstHead_34 : decode cX0_firstHead 34 = .ok (.bipush 6, 2) := by decide +kernel
theorem dX0_firstHead_36 : decode cX0_firstHead 36 = .ok (.imul, 1) := by decide +kernel
theorem dX0_firstHead_37 : decode cX0_firstHead 37 = .ok (.iload_n 1, 1) := by decide +kernel
theorem dX0_firstHead_38 : decode cX0_firstHead 38 = .ok (.iadd, 1) := by decide +kernel
theorem dX0_firstHead_39 : decode cX0_firstHead 39 = .ok (.iaload, 1) := by decide +kernel
theorem dX0_firstHead_40 : decode cX0_firstHead 40 = .ok (.aload_n 0, 1) := by decide +kernel
theorem dX0_firstHead_41 : decode cX0_firstHead 41 = .ok (.aload_n 0, 1) := by decide +kernel
theorem dX0_firstHead_42 : decode cX0_firstHead 42 = .ok (.getfield 22, 3) := by decide +kernel
theorem dX0_firstHead_45 : decode cX0_firstHead 45 = .ok (.iload 4, 2) := by decide +kernel
theorem dX0_firstHead_47 : decode cX0_firstHead 47 = .ok (.invokevirtual 29, 3) := by decide +kernel
theorem dX0_firstHead_50 : decode cX0_firstHead 50 = .ok (.iadd, 1) := by decide +kernel
theorem dX0_firstHead_51 : decode cX0_firstHead 51 = .ok (.iload_n 2, 1) := by decide +kernel
theorem dX0_firstHead_52 : decode cX0_firstHead 52 = .ok (.if_icmp .ne 5, 3) := by decide +kernel
theorem dX0_firstHead_55 : decode cX0_firstHead 55 = .ok (.iload_n 3, 1) := by decide +kernel
theorem dX0_firstHead_56 : decode cX0_firstHead 56 = .ok (.ireturn, 1) := by decide +kernel
theorem dX0_firstHead_57 : decode cX0_firstHead 57 = .ok (.iinc 3 1, 3) := by decide +kernel
theorem dX0_firstHead_60 : decode cX0_firstHead 60 = .ok (.goto (-58), 3) := by decide +kernel
theorem dX0_firstHead_63 : decode cX0_firstHead 63 = .ok (.iconst (-1), 1) := by decide +kernel
theorem dX0_firstHead_64 : decode cX0_firstHead 64 = .ok (.ireturn, 1) := by decide +kernel
theorem dX0_worthWith_0 : decode cX0_worthWith 0 = .ok (.aload_n 0, 1) := by decide +kernel
theorem dX0_worthWith_1 : decode cX0_worthWith 1 = .ok (.getfield 15, 3) := by decide +kernel
theorem dX0_worthWith_4 : decode cX0_worthWith 4 = .ok (.aload_n 0, 1) := by decide +kernel
theorem dX0_worthWith_5 : decode cX0_worthWith 5 = .ok (.getfield 22, 3) := by decide +kernel
theorem dX0_worthWith_8 : decode cX0_worthWith 8 = .ok (.iaload, 1) := by decide +kernel
theorem dX0_worthWith_9 : decode cX0_worthWith 9 = .ok (.istore 4, 2) := by decide +kernel
theorem dX0_worthWith_11 : decode cX0_worthWith 11 = .ok (.iconst 0, 1) := by decide +kernel
theorem dX0_worthWith_12 : decode cX0_worthWith 12 = .ok (.istore 5, 2) := by decide +kernel
theorem dX0_worthWith_14 : decode cX0_worthWith 14 = .ok (.iload 5, 2) := by decide +kernel
theorem dX0_worthWith_16 : decode cX0_worthWith 16 = .ok (.bipush 6, 2) := by decide +kernel
theorem dX0_worthWith_18 : decode cX0_worthWith 18 = .ok (.if_icmp .ge 74, 3) := by decide +kernel
theorem dX0_worthWith_21 : decode cX0_worthWith 21 = .ok (.iload_n 2, 1) := by decide +kernel
theorem dX0_worthWith_22 : decode cX0_worthWith 22 = .ok (.iconst 1, 1) := by decide +kernel
theorem dX0_worthWith_23 : decode cX0_worthWith 23 = .ok (.invokestatic 87, 3) := by decide +kernel
theorem dX0_worthWith_26 : decode cX0_worthWith 26 = .ok (.ifCond .eq 66, 3) := by decide +kernel
theorem dX0_worthWith_29 : decode cX0_worthWith 29 = .ok (.aload_n 1, 1) := by decide +kernel
theorem dX0_worthWith_30 : decode cX0_worthWith 30 = .ok (.getfield 61, 3) := by decide +kernel
theorem dX0_worthWith_33 : decode cX0_worthWith 33 = .ok (.iload 5, 2) := by decide +kernel
theorem dX0_worthWith_35 : decode cX0_worthWith 35 = .ok (.iaload, 1) := by decide +kernel
theorem dX0_worthWith_36 : decode cX0_worthWith 36 = .ok (.istore 6, 2) := by decide +kernel
theorem dX0_worthWith_38 : decode cX0_worthWith 38 = .ok (.iload 6, 2) := by decide +kernel
theorem dX0_worthWith_40 : decode cX0_worthWith 40 = .ok (.invokestatic 64, 3) := by decide +kernel
theorem dX0_worthWith_43 : decode cX0_worthWith 43 = .ok (.ifCond .eq 43, 3) := by decide +kernel
theorem dX0_worthWith_46 : decode cX0_worthWith 46 = .ok (.iload_n 2, 1) := by decide +kernel
theorem dX0_worthWith_47 : decode cX0_worthWith 47 = .ok (.iload_n 3, 1) := by decide +kernel
theorem dX0_worthWith_48 : decode cX0_worthWith 48 = .ok (.aload_n 1, 1) := by decide +kernel
theorem dX0_worthWith_49 : decode cX0_worthWith 49 = .ok (.getfield 91, 3) := by decide +kernel
theorem dX0_worthWith_52 : decode cX0_worthWith 52 = .ok (.iload 6, 2) := by decide +kernel
theorem dX0_worthWith_54 : decode cX0_worthWith 54 = .ok (.iaload, 1) := by decide +kernel
theorem dX0_worthWith_55 : decode cX0_worthWith 55 = .ok (.invokestatic 94, 3) := by decide +kernel
theorem dX0_worthWith_58 : decode cX0_worthWith 58 = .ok (.istore 7, 2) := by decide +kernel
theorem dX0_worthWith_60 : decode cX0_worthWith 60 = .ok (.iload 4, 2) := by decide +kernel
theorem dX0_worthWith_62 : decode cX0_worthWith 62 = .ok (.aload_n 0, 1) := by decide +kernel
theorem dX0_worthWith_63 : decode cX0_worthWith 63 = .ok (.getfield 15, 3) := by decide +kernel
theorem dX0_worthWith_66 : decode cX0_worthWith 66 = .ok (.aload_n 0, 1) := by decide +kernel
theorem dX0_worthWith_67 : decode cX0_worthWith 67 = .ok (.getfield 22, 3) := by decide +kernel
theorem dX0_worthWith_70 : decode cX0_worthWith 70 = .ok (.iconst 1, 1) := by decide +kernel
theorem dX0_worthWith_71 : decode cX0_worthWith 71 = .ok (.iload 5, 2) := by decide +kernel
theorem dX0_worthWith_73 : decode cX0_worthWith 73 = .ok (.ishl, 1) := by decide +kernel
theorem dX0_worthWith_74 : decode cX0_worthWith 74 = .ok (.iconst (-1), 1) := by decide +kernel
theorem dX0_worthWith_75 : decode cX0_worthWith 75 = .ok (.ixor, 1) := by decide +kernel
theorem dX0_worthWith_76 : decode cX0_worthWith 76 = .ok (.iand, 1) := by decide +kernel
theorem dX0_worthWith_77 : decode cX0_worthWith 77 = .ok (.iaload, 1) := by decide +kernel
theorem dX0_worthWith_78 : decode cX0_worthWith 78 = .ok (.iload 7, 2) := by decide +kernel
theorem dX0_worthWith_80 : decode cX0_worthWith 80 = .ok (.iadd, 1) := by decide +kernel
theorem dX0_worthWith_81 : decode cX0_worthWith 81 = .ok (.invokestatic 82, 3) := by decide +kernel
theorem dX0_worthWith_84 : decode cX0_worthWith 84 = .ok (.istore 4, 2) := by decide +kernel
theorem dX0_worthWith_86 : decode cX0_worthWith 86 = .ok (.iinc 5 1, 3) := by decide +kernel
theorem dX0_worthWith_89 : decode cX0_worthWith 89 = .ok (.goto (-75), 3) := by decide +kernel
theorem dX0_worthWith_92 : decode cX0_worthWith 92 = .ok (.iload 4, 2) := by decide +kernel
theorem dX0_worthWith_94 : decode cX0_worthWith 94 = .ok (.ireturn, 1) := by decide +kernel
theorem dX1_init_0 : decode cX1_init 0 = .ok (.aload_n 0, 1) := by decide +kernel
theorem dX1_init_1 : decode cX1_init 1 = .ok (.invokespecial 3, 3) := by decide +kernel
theorem dX1_init_4 : decode cX1_init 4 = .ok (.aload_n 0, 1) := by decide +kernel
theorem dX1_init_5 : decode cX1_init 5 = .ok (.bipush 10, 2) := by decide +kernel
theorem dX1_init_7 : decode cX1_init 7 = .ok (.newarray .int, 2) := by decide +kernel
theorem dX1_init_9 : decode cX1_init 9 = .ok (.putfield 9, 3) := by decide +kernel
theorem dX1_init_12 : decode cX1_init 12 = .ok (.aload_n 0, 1) := by decide +kernel
theorem dX1_init_13 : decode cX1_init 13 = .ok (.bipush 10, 2) := by decide +kernel
theorem dX1_init_15 : decode cX1_init 15 = .ok (.newarray .int, 2) := by decide +kernel
theorem dX1_init_17 : decode cX1_init 17 = .ok (.putfield 15, 3) := by decide +kernel
theorem dX1_init_20 : decode cX1_init 20 = .ok (.aload_n 0, 1) := by decide +kernel
theorem dX1_init_21 : decode cX1_init 21 = .ok (.bipush 10, 2) := by decide +kernel
theorem dX1_init_23 : decode cX1_init 23 = .ok (.newarray .int, 2) := by decide +kernel
theorem dX1_init_25 : decode cX1_init 25 = .ok (.putfield 18, 3) := by decide +kernel
theorem dX1_init_28 : decode cX1_init 28 = .ok (.aload_n 0, 1) := by decide +kernel
theorem dX1_init_29 : decode cX1_init 29 = .ok (.bipush 10, 2) := by decide +kernel
theorem dX1_init_31 : decode cX1_init 31 = .ok (.newarray .int, 2) := by decide +kernel
theorem dX1_init_33 : decode cX1_init 33 = .ok (.putfield 21, 3) := by decide +kernel
theorem dX1_init_36 : decode cX1_init 36 = .ok (.aload_n 0, 1) := by decide +kernel
theorem dX1_init_37 : decode cX1_init 37 = .ok (.bipush 6, 2) := by decide +kernel
theorem dX1_init_39 : decode cX1_init 39 = .ok (.newarray .int, 2) := by decide +kernel
theorem dX1_init_41 : decode cX1_init 41 = .ok (.putfield 24, 3) := by decide +kernel
theorem dX1_init_44 : decode cX1_init 44 = .ok (.aload_n 0, 1) := by decide +kernel
theorem dX1_init_45 : decode cX1_init 45 = .ok (.bipush 6, 2) := by decide +kernel
theorem dX1_init_47 : decode cX1_init 47 = .ok (.newarray .int, 2) := by decide +kernel
theorem dX1_init_49 : decode cX1_init 49 = .ok (.putfield 27, 3) := by decide +kernel
theorem dX1_init_52 : decode cX1_init 52 = .ok (.aload_n 0, 1) := by decide +kernel
theorem dX1_init_53 : decode cX1_init 53 = .ok (.bipush 6, 2) := by decide +kernel
theorem dX1_init_55 : decode cX1_init 55 = .ok (.newarray .int, 2) := by decide +kernel
theorem dX1_init_57 : decode cX1_init 57 = .ok (.putfield 30, 3) := by decide +kernel
theorem dX1_init_60 : decode cX1_init 60 = .ok (.aload_n 0, 1) := by decide +kernel
theorem dX1_init_61 : decode cX1_init 61 = .ok (.iconst 4, 1) := by decide +kernel
theorem dX1_init_62 : decode cX1_init 62 = .ok (.newarray .int, 2) := by decide +kernel
theorem dX1_init_64 : decode cX1_init 64 = .ok (.putfield 33, 3) := by decide +kernel
theorem dX1_init_67 : decode cX1_init 67 = .ok (.aload_n 0, 1) := by decide +kernel
theorem dX1_init_68 : decode cX1_init 68 = .ok (.bipush 40, 2) := by decide +kernel
theorem dX1_init_70 : decode cX1_init 70 = .ok (.newarray .int, 2) := by decide +kernel
theorem dX1_init_72 : decode cX1_init 72 = .ok (.putfield 36, 3) := by decide +kernel
theorem dX1_init_75 : decode cX1_init 75 = .ok (.aload_n 0, 1) := by decide +kernel
theorem dX1_init_76 : decode cX1_init 76 = .ok (.bipush 10, 2) := by decide +kernel
theorem dX1_init_78 : decode cX1_init 78 = .ok (.newarray .int, 2) := by decide +kernel
theorem dX1_init_80 : decode cX1_init 80 = .ok (.putfield 39, 3) := by decide +kernel
theorem dX1_init_83 : decode cX1_init 83 = .ok (.aload_n 0, 1) := by decide +kernel
theorem dX1_init_84 : decode cX1_init 84 = .ok (.iconst 5, 1) := by decide +kernel
theorem dX1_init_85 : decode cX1_init 85 = .ok (.putfield 42, 3) := by decide +kernel
theorem dX1_init_88 : decode cX1_init 88 = .ok (.aload_n 0, 1) := by decide +kernel
theorem dX1_init_89 : decode cX1_init 89 = .ok (.iconst 1, 1) := by decide +kernel
theorem dX1_init_90 : decode cX1_init 90 = .ok (.putfield 46, 3) := by decide +kernel
theorem dX1_init_93 : decode cX1_init 93 = .ok (.aload_n 0, 1) := by decide +kernel
theorem dX1_init_94 : decode cX1_init 94 = .ok (.getfield 27, 3) := by decide +kernel
theorem dX1_init_97 : decode cX1_init 97 = .ok (.iconst 1, 1) := by decide +kernel
theorem dX1_init_98 : decode cX1_init 98 = .ok (.invokestatic 49, 3) := by decide +kernel
theorem dX1_init_101 : decode cX1_init 101 = .ok (.aload_n 0, 1) := by decide +kernel
theorem dX1_init_102 : decode cX1_init 102 = .ok (.getfield 30, 3) := by decide +kernel
theorem dX1_init_105 : decode cX1_init 105 = .ok (.iconst (-1), 1) := by decide +kernel
theorem dX1_init_106 : decode cX1_init 106 = .ok (.invokestatic 49, 3) := by decide +kernel
theorem dX1_init_109 : decode cX1_init 109 = .ok (.aload_n 0, 1) := by decide +kernel
theorem dX1_init_110 : decode cX1_init 110 = .ok (.getfield 39, 3) := by decide +kernel
theorem dX1_init_113 : decode cX1_init 113 = .ok (.iconst (-1), 1) := by decide +kernel
theorem dX1_init_114 : decode cX1_init 114 = .ok (.invokestatic 49, 3) := by decide +kernel
theorem dX1_init_117 : decode cX1_init 117 = .ok (.return_, 1) := by decide +kernel
theorem dX1_become_0 : decode cX1_become 0 = .ok (.aload_n 1, 1) := by decide +kernel
theorem dX1_become_1 : decode cX1_become 1 = .ok (.getfield 9, 3) := by decide +kernel
theorem dX1_become_4 : decode cX1_become 4 = .ok (.iconst 0, 1) := by decide +kernel
theorem dX1_become_5 : decode cX1_become 5 = .ok (.aload_n 0, 1) := by decide +kernel
theorem dX1_become_6 : decode cX1_become 6 = .ok (.getfield 9, 3) := by decide +kernel
theorem dX1_become_9 : decode cX1_become 9 = .ok (.iconst 0, 1) := by decide +kernel
theorem dX1_become_10 : decode cX1_become 10 = .ok (.bipush 10, 2) := by decide +kernel
theorem dX1_become_12 : decode cX1_become 12 = .ok (.invokestatic 55, 3) := by decide +kernel
theorem dX1_become_15 : decode cX1_become 15 = .ok (.aload_n 1, 1) := by decide +kernel
theorem dX1_become_16 : decode cX1_become 16 = .ok (.getfield 15, 3) := by decide +kernel
theorem dX1_become_19 : decode cX1_become 19 = .ok (.iconst 0, 1) := by decide +kernel
theorem dX1_become_20 : decode cX1_become 20 = .ok (.aload_n 0, 1) := by decide +kernel
theorem dX1_become_21 : decode cX1_become 21 = .ok (.getfield 15, 3) := by decide +kernel
theorem dX1_become_24 : decode cX1_become 24 = .ok (.iconst 0, 1) := by decide +kernel
theorem dX1_become_25 : decode cX1_become 25 = .ok (.bipush 10, 2) := by decide +kernel
theorem dX1_become_27 : decode cX1_become 27 = .ok (.invokestatic 55, 3) := by decide +kernel
theorem dX1_become_30 : decode cX1_become 30 = .ok (.aload_n 1, 1) := by decide +kernel
theorem dX1_become_31 : decode cX1_become 31 = .ok (.getfield 18, 3) := by decide +kernel
theorem dX1_become_34 : decode cX1_become 34 = .ok (.iconst 0, 1) := by decide +kernel
theorem dX1_become_35 : decode cX1_become 35 = .ok (.aload_n 0, 1) := by decide +kernel
theorem dX1_become_36 : decode cX1_become 36 = .ok (.getfield 18, 3) := by decide +kernel
theorem dX1_become_39 : decode cX1_become 39 = .ok (.iconst 0, 1) := by decide +kernel
theorem dX1_become_40 : decode cX1_become 40 = .ok (.bipush 10, 2) := by decide +kernel
theorem dX1_become_42 : decode cX1_become 42 = .ok (.invokestatic 55, 3) := by decide +kernel
theorem dX1_become_45 : decode cX1_become 45 = .ok (.aload_n 1, 1) := by decide +kernel
theorem dX1_become_46 : decode cX1_become 46 = .ok (.getfield 21, 3) := by decide +kernel
theorem dX1_become_49 : decode cX1_become 49 = .ok (.iconst 0, 1) := by decide +kernel
theorem dX1_become_50 : decode cX1_become 50 = .ok (.aload_n 0, 1) := by decide +kernel
theorem dX1_become_51 : decode cX1_become 51 = .ok (.getfield 21, 3) := by decide +kernel
theorem dX1_become_54 : decode cX1_become 54 = .ok (.iconst 0, 1) := by decide +kernel
theorem dX1_become_55 : decode cX1_become 55 = .ok (.bipush 10, 2) := by decide +kernel
theorem dX1_become_57 : decode cX1_become 57 = .ok (.invokestatic 55, 3) := by decide +kernel
theorem dX1_become_60 : decode cX1_become 60 = .ok (.aload_n 1, 1) := by decide +kernel
theorem dX1_become_61 : decode cX1_become 61 = .ok (.getfield 24, 3) := by decide +kernel
theorem dX1_become_64 : decode cX1_become 64 = .ok (.iconst 0, 1) := by decide +kernel
theorem dX1_become_65 : decode cX1_become 65 = .ok (.aload_n 0, 1) := by decide +kernel
theorem dX1_become_66 : decode cX1_become 66 = .ok (.getfield 24, 3) := by decide +kernel
theorem dX1_become_69 : decode cX1_become 69 = .ok (.iconst 0, 1) := by decide +kernel
theorem dX1_become_70 : decode cX1_become 70 = .ok (.bipush 6, 2) := by decide +kernel
theorem dX1_become_72 : decode cX1_become 72 = .ok (.invokestatic 55, 3) := by decide +kernel
theorem dX1_become_75 : decode cX1_become 75 = .ok (.aload_n 1, 1) := by decide +kernel
theorem dX1_become_76 : decode cX1_become 76 = .ok (.getfield 27, 3) := by decide +kernel
theorem dX1_become_79 : decode cX1_become 79 = .ok (.iconst 0, 1) := by decide +kernel
theorem dX1_become_80 : decode cX1_become 80 = .ok (.aload_n 0, 1) := by decide +kernel
theorem dX1_become_81 : decode cX1_become 81 = .ok (.getfield 27, 3) := by decide +kernel
theorem dX1_become_84 : decode cX1_become 84 = .ok (.iconst 0, 1) := by decide +kernel
theorem dX1_become_85 : decode cX1_become 85 = .ok (.bipush 6, 2) := by decide +kernel
theorem dX1_become_87 : decode cX1_become 87 = .ok (.invokestatic 55, 3) := by decide +kernel
theorem dX1_become_90 : decode cX1_become 90 = .ok (.aload_n 1, 1) := by decide +kernel
theorem dX1_become_91 : decode cX1_become 91 = .ok (.getfield 30, 3) := by decide +kernel
theorem dX1_become_94 : decode cX1_become 94 = .ok (.iconst 0, 1) := by decide +kernel
theorem dX1_become_95 : decode cX1_become 95 = .ok (.aload_n 0, 1) := by decide +kernel
theorem dX1_become_96 : decode cX1_become 96 = .ok (.getfield 30, 3) := by decide +kernel
theorem dX1_become_99 : decode cX1_become 99 = .ok (.iconst 0, 1) := by decide +kernel
theorem dX1_become_100 : decode cX1_become 100 = .ok (.bipush 6, 2) := by decide +kernel
theorem dX1_become_102 : decode cX1_become 102 = .ok (.invokestatic 55, 3) := by decide +kernel
theorem dX1_become_105 : decode cX1_become 105 = .ok (.aload_n 1, 1) := by decide +kernel
theorem dX1_become_106 : decode cX1_become 106 = .ok (.getfield 33, 3) := by decide +kernel
theorem dX1_become_109 : decode cX1_become 109 = .ok (.iconst 0, 1) := by decide +kernel
theorem dX1_become_110 : decode cX1_become 110 = .ok (.aload_n 0, 1) := by decide +kernel
theorem dX1_become_111 : decode cX1_become 111 = .ok (.getfield 33, 3) := by decide +kernel
theorem dX1_become_114 : decode cX1_become 114 = .ok (.iconst 0, 1) := by decide +kernel
theorem dX1_become_115 : decode cX1_become 115 = .ok (.iconst 4, 1) := by decide +kernel
theorem dX1_become_116 : decode cX1_become 116 = .ok (.invokestatic 55, 3) := by decide +kernel
theorem dX1_become_119 : decode cX1_become 119 = .ok (.aload_n 1, 1) := by decide +kernel
theorem dX1_become_120 : decode cX1_become 120 = .ok (.getfield 36, 3) := by decide +kernel
theorem dX1_become_123 : decode cX1_become 123 = .ok (.iconst 0, 1) := by decide +kernel
theorem dX1_become_124 : decode cX1_become 124 = .ok (.aload_n 0, 1) := by decide +kernel
theorem dX1_become_125 : decode cX1_become 125 = .ok (.getfield 36, 3) := by decide +kernel
theorem dX1_become_128 : decode cX1_become 128 = .ok (.iconst 0, 1) := by decide +kernel
theorem dX1_become_129 : decode cX1_become 129 = .ok (.bipush 40, 2) := by decide +kernel
theorem dX1_become_131 : decode cX1_become 131 = .ok (.invokestatic 55, 3) := by decide +kernel
theorem dX1_become_134 : decode cX1_become 134 = .ok (.aload_n 1, 1) := by decide +kernel
theorem dX1_become_135 : decode cX1_become 135 = .ok (.getfield 39, 3) := by decide +kernel
theorem dX1_become_138 : decode cX1_become 138 = .ok (.iconst 0, 1) := by decide +kernel
theorem dX1_become_139 : decode cX1_become 139 = .ok (.aload_n 0, 1) := by decide +kernel
theorem dX1_become_140 : decode cX1_become 140 = .ok (.getfield 39, 3) := by decide +kernel
theorem dX1_become_143 : decode cX1_become 143 = .ok (.iconst 0, 1) := by decide +kernel
theorem dX1_become_144 : decode cX1_become 144 = .ok (.bipush 10, 2) := by decide +kernel
theorem dX1_become_146 : decode cX1_become 146 = .ok (.invokestatic 55, 3) := by decide +kernel
theorem dX1_become_149 : decode cX1_become 149 = .ok (.aload_n 0, 1) := by decide +kernel
theorem dX1_become_150 : decode cX1_become 150 = .ok (.aload_n 1, 1) := by decide +kernel
theorem dX1_become_151 : decode cX1_become 151 = .ok (.getfield 61, 3) := by decide +kernel
theorem dX1_become_154 : decode cX1_become 154 = .ok (.putfield 61, 3) := by decide +kernel
theorem dX1_become_157 : decode cX1_become 157 = .ok (.aload_n 0, 1) := by decide +kernel
theorem dX1_become_158 : decode cX1_become 158 = .ok (.aload_n 1, 1) := by decide +kernel
theorem dX1_become_159 : decode cX1_become 159 = .ok (.getfield 64, 3) := by decide +kernel
theorem dX1_become_162 : decode cX1_become 162 = .ok (.putfield 64, 3) := by decide +kernel
theorem dX1_become_165 : decode cX1_become 165 = .ok (.aload_n 0, 1) := by decide +kernel
theorem dX1_become_166 : decode cX1_become 166 = .ok (.aload_n 1, 1) := by decide +kernel
theorem dX1_become_167 : decode cX1_become 167 = .ok (.getfield 67, 3) := by decide +kernel
theorem dX1_become_170 : decode cX1_become 170 = .ok (.putfield 67, 3) := by decide +kernel
theorem dX1_become_173 : decode cX1_become 173 = .ok (.aload_n 0, 1) := by decide +kernel
theorem dX1_become_174 : decode cX1_become 174 = .ok (.aload_n 1, 1) := by decide +kernel
theorem dX1_become_175 : decode cX1_become 175 = .ok (.getfield 42, 3) := by decide +kernel
theorem dX1_become_178 : decode cX1_become 178 = .ok (.putfield 42, 3) := by decide +kernel
theorem dX1_become_181 : decode cX1_become 181 = .ok (.aload_n 0, 1) := by decide +kernel
theorem dX1_become_182 : decode cX1_become 182 = .ok (.aload_n 1, 1) := by decide +kernel
theorem dX1_become_183 : decode cX1_become 183 = .ok (.getfield 46, 3) := by decide +kernel
theorem dX1_become_186 : decode cX1_become 186 = .ok (.putfield 46, 3) := by decide +kernel
theorem dX1_become_189 : decode cX1_become 189 = .ok (.return_, 1) := by decide +kernel
theorem dX1_hasPart_0 : decode cX1_hasPart 0 = .ok (.iload_n 1, 1) := by decide +kernel
theorem dX1_hasPart_1 : decode cX1_hasPart 1 = .ok (.iconst 0, 1) := by decide +kernel
theorem dX1_hasPart_2 : decode cX1_hasPart 2 = .ok (.aload_n 0, 1) := by decide +kernel
theorem dX1_hasPart_3 : decode cX1_hasPart 3 = .ok (.getfield 61, 3) := by decide +kernel
theorem dX1_hasPart_6 : decode cX1_hasPart 6 = .ok (.iconst 1, 1) := by decide +kernel
theorem dX1_hasPart_7 : decode cX1_hasPart 7 = .ok (.isub, 1) := by decide +kernel
theorem dX1_hasPart_8 : decode cX1_hasPart 8 = .ok (.invokestatic 70, 3) := by decide +kernel
theorem dX1_hasPart_11 : decode cX1_hasPart 11 = .ok (.ireturn, 1) := by decide +kernel
theorem dX1_hasVisitor_0 : decode cX1_hasVisitor 0 = .ok (.iload_n 1, 1) := by decide +kernel
theorem dX1_hasVisitor_1 : decode cX1_hasVisitor 1 = .ok (.iconst 0, 1) := by decide +kernel
theorem dX1_hasVisitor_2 : decode cX1_hasVisitor 2 = .ok (.aload_n 0, 1) := by decide +kernel
theorem dX1_hasVisitor_3 : decode cX1_hasVisitor 3 = .ok (.getfield 64, 3) := by decide +kernel
theorem dX1_hasVisitor_6 : decode cX1_hasVisitor 6 = .ok (.iconst 1, 1) := by decide +kernel
theorem dX1_hasVisitor_7 : decode cX1_hasVisitor 7 = .ok (.isub, 1) := by decide +kernel
theorem dX1_hasVisitor_8 : decode cX1_hasVisitor 8 = .ok (.invokestatic 70, 3) := by decide +kernel
theorem dX1_hasVisitor_11 : decode cX1_hasVisitor 11 = .ok (.ireturn, 1) := by decide +kernel
theorem dX1_isHead_0 : decode cX1_isHead 0 = .ok (.aload_n 0, 1) := by decide +kernel
theorem dX1_isHead_1 : decode cX1_isHead 1 = .ok (.getfield 9, 3) := by decide +kernel
theorem dX1_isHead_4 : decode cX1_isHead 4 = .ok (.iload_n 1, 1) := by decide +kernel
theorem dX1_isHead_5 : decode cX1_isHead 5 = .ok (.iaload, 1) := by decide +kernel
theorem dX1_isHead_6 : decode cX1_isHead 6 = .ok (.iconst 1, 1) := by decide +kernel
theorem dX1_isHead_7 : decode cX1_isHead 7 = .ok (.invokestatic 76, 3) := by decide +kernel
theorem dX1_isHead_10 : decode cX1_isHead 10 = .ok (.ireturn, 1) := by decide +kernel
theorem dX1_traits_0 : decode cX1_traits 0 = .ok (.iload_n 1, 1) := by decide +kernel
theorem dX1_traits_1 : decode cX1_traits 1 = .ok (.tableswitch 51 0 3 #[31, 36, 41, 46], 31) := by decide +kernel
theorem dX1_traits_32 : decode cX1_traits 32 = .ok (.aload_n 0, 1) := by decide +kernel
theorem dX1_traits_33 : decode cX1_traits 33 = .ok (.getfield 9, 3) := by decide +kernel
theorem dX1_traits_36 : decode cX1_traits 36 = .ok (.areturn, 1) := by decide +kernel
theorem dX1_traits_37 : decode cX1_traits 37 = .ok (.aload_n 0, 1) := by decide +kernel
theorem dX1_traits_38 : decode cX1_traits 38 = .ok (.getfield 15, 3) := by decide +kernel
theorem dX1_traits_41 : decode cX1_traits 41 = .ok (.areturn, 1) := by decide +kernel
theorem dX1_traits_42 : decode cX1_traits 42 = .ok (.aload_n 0, 1) := by decide +kernel
theorem dX1_traits_43 : decode cX1_traits 43 = .ok (.getfield 18, 3) := by decide +kernel
theorem dX1_traits_46 : decode cX1_traits 46 = .ok (.areturn, 1) := by decide +kernel
theorem dX1_traits_47 : decode cX1_traits 47 = .ok (.aload_n 0, 1) := by decide +kernel
theorem dX1_traits_48 : decode cX1_traits 48 = .ok (.getfield 21, 3) := by decide +kernel
theorem dX1_traits_51 : decode cX1_traits 51 = .ok (.areturn, 1) := by decide +kernel
theorem dX1_traits_52 : decode cX1_traits 52 = .ok (.aconst_null, 1) := by decide +kernel
theorem dX1_traits_53 : decode cX1_traits 53 = .ok (.areturn, 1) := by decide +kernel
theorem dX1_addPart_0 : decode cX1_addPart 0 = .ok (.aload_n 0, 1) := by decide +kernel
theorem dX1_addPart_1 : decode cX1_addPart 1 = .ok (.getfield 9, 3) := by decide +kernel
theorem dX1_addPart_4 : decode cX1_addPart 4 = .ok (.aload_n 0, 1) := by decide +kernel
theorem dX1_addPart_5 : decode cX1_addPart 5 = .ok (.getfield 61, 3) := by decide +kernel
theorem dX1_addPart_8 : decode cX1_addPart 8 = .ok (.iload_n 1, 1) := by decide +kernel
theorem dX1_addPart_9 : decode cX1_addPart 9 = .ok (.iastore, 1) := by decide +kernel
theorem dX1_addPart_10 : decode cX1_addPart 10 = .ok (.aload_n 0, 1) := by decide +kernel
theorem dX1_addPart_11 : decode cX1_addPart 11 = .ok (.getfield 15, 3) := by decide +kernel
theorem dX1_addPart_14 : decode cX1_addPart 14 = .ok (.aload_n 0, 1) := by decide +kernel
theorem dX1_addPart_15 : decode cX1_addPart 15 = .ok (.getfield 61, 3) := by decide +kernel
theorem dX1_addPart_18 : decode cX1_addPart 18 = .ok (.iload_n 2, 1) := by decide +kernel
theorem dX1_addPart_19 : decode cX1_addPart 19 = .ok (.iastore, 1) := by decide +kernel
theorem dX1_addPart_20 : decode cX1_addPart 20 = .ok (.aload_n 0, 1) := by decide +kernel
theorem dX1_addPart_21 : decode cX1_addPart 21 = .ok (.getfield 18, 3) := by decide +kernel
theorem dX1_addPart_24 : decode cX1_addPart 24 = .ok (.aload_n 0, 1) := by decide +kernel
theorem dX1_addPart_25 : decode cX1_addPart 25 = .ok (.getfield 61, 3) := by decide +kernel
theorem dX1_addPart_28 : decode cX1_addPart 28 = .ok (.iload_n 3, 1) := by decide +kernel
theorem dX1_addPart_29 : decode cX1_addPart 29 = .ok (.iastore, 1) := by decide +kernel
theorem dX1_addPart_30 : decode cX1_addPart 30 = .ok (.aload_n 0, 1) := by decide +kernel
theorem dX1_addPart_31 : decode cX1_addPart 31 = .ok (.getfield 21, 3) := by decide +kernel
theorem dX1_addPart_34 : decode cX1_addPart 34 = .ok (.aload_n 0, 1) := by decide +kernel
theorem dX1_addPart_35 : decode cX1_addPart 35 = .ok (.getfield 61, 3) := by decide +kernel
theorem dX1_addPart_38 : decode cX1_addPart 38 = .ok (.iload 4, 2) := by decide +kernel
theorem dX1_addPart_40 : decode cX1_addPart 40 = .ok (.iastore, 1) := by decide +kernel
theorem dX1_addPart_41 : decode cX1_addPart 41 = .ok (.aload_n 0, 1) := by decide +kernel
theorem dX1_addPart_42 : decode cX1_addPart 42 = .ok (.dup, 1) := by decide +kernel
theorem dX1_addPart_43 : decode cX1_addPart 43 = .ok (.getfield 61, 3) := by decide +kernel
theorem dX1_addPart_46 : decode cX1_addPart 46 = .ok (.dup_x1, 1) := by decide +kernel
theorem dX1_addPart_47 : decode cX1_addPart 47 = .ok (.iconst 1, 1) := by decide +kernel
theorem dX1_addPart_48 : decode cX1_addPart 48 = .ok (.iadd, 1) := by decide +kernel
theorem dX1_addPart_49 : decode cX1_addPart 49 = .ok (.putfield 61, 3) := by decide +kernel
theorem dX1_addPart_52 : decode cX1_addPart 52 = .ok (.ireturn, 1) := by decide +kernel
theorem dX1_addVisitor_0 : decode cX1_addVisitor 0 = .ok (.aload_n 0, 1) := by decide +kernel
theorem dX1_addVisitor_1 : decode cX1_addVisitor 1 = .ok (.getfield 33, 3) := by decide +kernel
theorem dX1_addVisitor_4 : decode cX1_addVisitor 4 = .ok (.aload_n 0, 1) := by decide +kernel
theorem dX1_addVisitor_5 : decode cX1_addVisitor 5 = .ok (.getfield 64, 3) := by decide +kernel
theorem dX1_addVisitor_8 : decode cX1_addVisitor 8 = .ok (.aload_n 0, 1) := by decide +kernel
theorem dX1_addVisitor_9 : decode cX1_addVisitor 9 = .ok (.getfield 67, 3) := by decide +kernel
theorem dX1_addVisitor_12 : decode cX1_addVisitor 12 = .ok (.iastore, 1) := by decide +kernel
theorem dX1_addVisitor_13 : decode cX1_addVisitor 13 = .ok (.aload_n 0, 1) := by decide +kernel
theorem dX1_addVisitor_14 : decode cX1_addVisitor 14 = .ok (.dup, 1) := by decide +kernel
theorem dX1_addVisitor_15 : decode cX1_addVisitor 15 = .ok (.getfield 64, 3) := by decide +kernel
theorem dX1_addVisitor_18 : decode cX1_addVisitor 18 = .ok (.dup_x1, 1) := by decide +kernel
theorem dX1_addVisitor_19 : decode cX1_addVisitor 19 = .ok (.iconst 1, 1) := by decide +kernel
theorem dX1_addVisitor_20 : decode cX1_addVisitor 20 = .ok (.iadd, 1) := by decide +kernel
theorem dX1_addVisitor_21 : decode cX1_addVisitor 21 = .ok (.putfield 64, 3) := by decide +kernel
theorem dX1_addVisitor_24 : decode cX1_addVisitor 24 = .ok (.ireturn, 1) := by decide +kernel
theorem dX1_likeTo_0 : decode cX1_likeTo 0 = .ok (.aload_n 0, 1) := by decide +kernel
theorem dX1_likeTo_1 : decode cX1_likeTo 1 = .ok (.getfield 9, 3) := by decide +kernel
theorem dX1_likeTo_4 : decode cX1_likeTo 4 = .ok (.iload_n 1, 1) := by decide +kernel
theorem dX1_likeTo_5 : decode cX1_likeTo 5 = .ok (.iaload, 1) := by decide +kernel
theorem dX1_likeTo_6 : decode cX1_likeTo 6 = .ok (.aload_n 0, 1) := by decide +kernel
theorem dX1_likeTo_7 : decode cX1_likeTo 7 = .ok (.getfield 15, 3) := by decide +kernel
theorem dX1_likeTo_10 : decode cX1_likeTo 10 = .ok (.iload_n 1, 1) := by decide +kernel
theorem dX1_likeTo_11 : decode cX1_likeTo 11 = .ok (.iaload, 1) := by decide +kernel
theorem dX1_likeTo_12 : decode cX1_likeTo 12 = .ok (.aload_n 0, 1) := by decide +kernel
theorem dX1_likeTo_13 : decode cX1_likeTo 13 = .ok (.getfield 24, 3) := by decide +kernel
theorem dX1_likeTo_16 : decode cX1_likeTo 16 = .ok (.iload_n 2, 1) := by decide +kernel
theorem dX1_likeTo_17 : decode cX1_likeTo 17 = .ok (.iaload, 1) := by decide +kernel
theorem dX1_likeTo_18 : decode cX1_likeTo 18 = .ok (.invokestatic 80, 3) := by decide +kernel
theorem dX1_likeTo_21 : decode cX1_likeTo 21 = .ok (.ireturn, 1) := by decide +kernel
theorem dX1_minutesTo_0 : decode cX1_minutesTo 0 = .ok (.aload_n 0, 1) := by decide +kernel
theorem dX1_minutesTo_1 : decode cX1_minutesTo 1 = .ok (.getfield 21, 3) := by decide +kernel
theorem dX1_minutesTo_4 : decode cX1_minutesTo 4 = .ok (.iload_n 1, 1) := by decide +kernel
theorem dX1_minutesTo_5 : decode cX1_minutesTo 5 = .ok (.iaload, 1) := by decide +kernel
theorem dX1_minutesTo_6 : decode cX1_minutesTo 6 = .ok (.istore_n 3, 1) := by decide +kernel
theorem dX1_minutesTo_7 : decode cX1_minutesTo 7 = .ok (.iload_n 3, 1) := by decide +kernel
theorem dX1_minutesTo_8 : decode cX1_minutesTo 8 = .ok (.iconst (-1), 1) := by decide +kernel
theorem dX1_minutesTo_9 : decode cX1_minutesTo 9 = .ok (.if_icmp .eq 8, 3) := by decide +kernel
theorem dX1_minutesTo_12 : decode cX1_minutesTo 12 = .ok (.iload_n 2, 1) := by decide +kernel
theorem dX1_minutesTo_13 : decode cX1_minutesTo 13 = .ok (.iconst (-1), 1) := by decide +kernel
theorem dX1_minutesTo_14 : decode cX1_minutesTo 14 = .ok (.if_icmp .ne 8, 3) := by decide +kernel
theorem dX1_minutesTo_17 : decode cX1_minutesTo 17 = .ok (.bipush 6, 2) := by decide +kernel
theorem dX1_minutesTo_19 : decode cX1_minutesTo 19 = .ok (.goto 9, 3) := by decide +kernel
theorem dX1_minutesTo_22 : decode cX1_minutesTo 22 = .ok (.iload_n 3, 1) := by decide +kernel
theorem dX1_minutesTo_23 : decode cX1_minutesTo 23 = .ok (.iload_n 2, 1) := by decide +kernel
theorem dX1_minutesTo_24 : decode cX1_minutesTo 24 = .ok (.isub, 1) := by decide +kernel
theorem dX1_minutesTo_25 : decode cX1_minutesTo 25 = .ok (.invokestatic 84, 3) := by decide +kernel
theorem dX1_minutesTo_28 : decode cX1_minutesTo 28 = .ok (.istore 4, 2) := by decide +kernel
theorem dX1_minutesTo_30 : decode cX1_minutesTo 30 = .ok (.aload_n 0, 1) := by decide +kernel
theorem dX1_minutesTo_31 : decode cX1_minutesTo 31 = .ok (.getfield 9, 3) := by decide +kernel
theorem dX1_minutesTo_34 : decode cX1_minutesTo 34 = .ok (.iload_n 1, 1) := by decide +kernel
theorem dX1_minutesTo_35 : decode cX1_minutesTo 35 = .ok (.iaload, 1) := by decide +kernel
theorem dX1_minutesTo_36 : decode cX1_minutesTo 36 = .ok (.iload 4, 2) := by decide +kernel
theorem dX1_minutesTo_38 : decode cX1_minutesTo 38 = .ok (.aload_n 0, 1) := by decide +kernel
theorem dX1_minutesTo_39 : decode cX1_minutesTo 39 = .ok (.getfield 18, 3) := by decide +kernel
theorem dX1_minutesTo_42 : decode cX1_minutesTo 42 = .ok (.iload_n 1, 1) := by decide +kernel
theorem dX1_minutesTo_43 : decode cX1_minutesTo 43 = .ok (.iaload, 1) := by decide +kernel
theorem dX1_minutesTo_44 : decode cX1_minutesTo 44 = .ok (.invokestatic 90, 3) := by decide +kernel
theorem dX1_minutesTo_47 : decode cX1_minutesTo 47 = .ok (.ireturn, 1) := by decide +kernel
theorem dX1_partsAt_0 : decode cX1_partsAt 0 = .ok (.iconst 0, 1) := by decide +kernel
theorem dX1_partsAt_1 : decode cX1_partsAt 1 = .ok (.istore_n 2, 1) := by decide +kernel
theorem dX1_partsAt_2 : decode cX1_partsAt 2 = .ok (.iconst 0, 1) := by decide +kernel
theorem dX1_partsAt_3 : decode cX1_partsAt 3 = .ok (.istore_n 3, 1) := by decide +kernel
theorem dX1_partsAt_4 : decode cX1_partsAt 4 = .ok (.iload_n 3, 1) := by decide +kernel
theorem dX1_partsAt_5 : decode cX1_partsAt 5 = .ok (.aload_n 0, 1) := by decide +kernel
theorem dX1_partsAt_6 : decode cX1_partsAt 6 = .ok (.getfield 61, 3) := by decide +kernel
theorem dX1_partsAt_9 : decode cX1_partsAt 9 = .ok (.if_icmp .ge 25, 3) := by decide +kernel
theorem dX1_partsAt_12 : decode cX1_partsAt 12 = .ok (.aload_n 0, 1) := by decide +kernel
theorem dX1_partsAt_13 : decode cX1_partsAt 13 = .ok (.getfield 21, 3) := by decide +kernel
theorem dX1_partsAt_16 : decode cX1_partsAt 16 = .ok (.iload_n 3, 1) := by decide +kernel
theorem dX1_partsAt_17 : decode cX1_partsAt 17 = .ok (.iaload, 1) := by decide +kernel
theorem dX1_partsAt_18 : decode cX1_partsAt 18 = .ok (.iload_n 1, 1) := by decide +kernel
theorem dX1_partsAt_19 : decode cX1_partsAt 19 = .ok (.if_icmp .ne 9, 3) := by decide +kernel
theorem dX1_partsAt_22 : decode cX1_partsAt 22 = .ok (.iload_n 2, 1) := by decide +kernel
theorem dX1_partsAt_23 : decode cX1_partsAt 23 = .ok (.iconst 1, 1) := by decide +kernel
theorem dX1_partsAt_24 : decode cX1_partsAt 24 = .ok (.iload_n 3, 1) := by decide +kernel
theorem dX1_partsAt_25 : decode cX1_partsAt 25 = .ok (.ishl, 1) := by decide +kernel
theorem dX1_partsAt_26 : decode cX1_partsAt 26 = .ok (.ior, 1) := by decide +kernel
theorem dX1_partsAt_27 : decode cX1_partsAt 27 = .ok (.istore_n 2, 1) := by decide +kernel
theorem dX1_partsAt_28 : decode cX1_partsAt 28 = .ok (.iinc 3 1, 3) := by decide +kernel
theorem dX1_partsAt_31 : decode cX1_partsAt 31 = .ok (.goto (-27), 3) := by decide +kernel
theorem dX1_partsAt_34 : decode cX1_partsAt 34 = .ok (.iload_n 2, 1) := by decide +kernel
theorem dX1_partsAt_35 : decode cX1_partsAt 35 = .ok (.ireturn, 1) := by decide +kernel
theorem dX1_likeness_0 : decode cX1_likeness 0 = .ok (.aload_n 0, 1) := by decide +kernel
theorem dX1_likeness_1 : decode cX1_likeness 1 = .ok (.getfield 30, 3) := by decide +kernel
theorem dX1_likeness_4 : decode cX1_likeness 4 = .ok (.iload_n 1, 1) := by decide +kernel
theorem dX1_likeness_5 : decode cX1_likeness 5 = .ok (.iaload, 1) := by decide +kernel
theorem dX1_likeness_6 : decode cX1_likeness 6 = .ok (.istore_n 2, 1) := by decide +kernel
theorem dX1_likeness_7 : decode cX1_likeness 7 = .ok (.iconst 0, 1) := by decide +kernel
theorem dX1_likeness_8 : decode cX1_likeness 8 = .ok (.istore_n 3, 1) := by decide +kernel
theorem dX1_likeness_9 : decode cX1_likeness 9 = .ok (.iconst 0, 1) := by decide +kernel
theorem dX1_likeness_10 : decode cX1_likeness 10 = .ok (.istore 4, 2) := by decide +kernel
theorem dX1_likeness_12 : decode cX1_likeness 12 = .ok (.iload 4, 2) := by decide +kernel
theorem dX1_likeness_14 : decode cX1_likeness 14 = .ok (.aload_n 0, 1) := by decide +kernel
theorem dX1_likeness_15 : decode cX1_likeness 15 = .ok (.getfield 61, 3) := by decide +kernel
theorem dX1_likeness_18 : decode cX1_likeness 18 = .ok (.if_icmp .ge 37, 3) := by decide +kernel
theorem dX1_likeness_21 : decode cX1_likeness 21 = .ok (.iload_n 2, 1) := by decide +kernel
theorem dX1_likeness_22 : decode cX1_likeness 22 = .ok (.invokestatic 93, 3) := by decide +kernel
theorem dX1_likeness_25 : decode cX1_likeness 25 = .ok (.ifCond .eq 30, 3) := by decide +kernel
theorem dX1_likeness_28 : decode cX1_likeness 28 = .ok (.aload_n 0, 1) := by decide +kernel
theorem dX1_likeness_29 : decode cX1_likeness 29 = .ok (.getfield 21, 3) := by decide +kernel
theorem dX1_likeness_32 : decode cX1_likeness 32 = .ok (.iload 4, 2) := by decide +kernel
theorem dX1_likeness_34 : decode cX1_likeness 34 = .ok (.iaload, 1) := by decide +kernel
theorem dX1_likeness_35 : decode cX1_likeness 35 = .ok (.iload_n 1, 1) := by decide +kernel
theorem dX1_likeness_36 : decode cX1_likeness 36 = .ok (.if_icmp .ne 13, 3) := by decide +kernel
theorem dX1_likeness_39 : decode cX1_likeness 39 = .ok (.iload_n 3, 1) := by decide +kernel
theorem dX1_likeness_40 : decode cX1_likeness 40 = .ok (.aload_n 0, 1) := by decide +kernel
theorem dX1_likeness_41 : decode cX1_likeness 41 = .ok (.iload 4, 2) := by decide +kernel
theorem dX1_likeness_43 : decode cX1_likeness 43 = .ok (.iload_n 2, 1) := by decide +kernel
theorem dX1_likeness_44 : decode cX1_likeness 44 = .ok (.invokevirtual 97, 3) := by decide +kernel
theorem dX1_likeness_47 : decode cX1_likeness 47 = .ok (.iadd, 1) := by decide +kernel
theorem dX1_likeness_48 : decode cX1_likeness 48 = .ok (.istore_n 3, 1) := by decide +kernel
theorem dX1_likeness_49 : decode cX1_likeness 49 = .ok (.iinc 4 1, 3) := by decide +kernel
theorem dX1_likeness_52 : decode cX1_likeness 52 = .ok (.goto (-40), 3) := by decide +kernel
theorem dX1_likeness_55 : decode cX1_likeness 55 = .ok (.iload_n 3, 1) := by decide +kernel
theorem dX1_likeness_56 : decode cX1_likeness 56 = .ok (.ireturn, 1) := by decide +kernel
theorem dX1_allLikeness_0 : decode cX1_allLikeness 0 = .ok (.iconst 0, 1) := by decide +kernel
theorem dX1_allLikeness_1 : decode cX1_allLikeness 1 = .ok (.istore_n 1, 1) := by decide +kernel
theorem dX1_allLikeness_2 : decode cX1_allLikeness 2 = .ok (.iconst 0, 1) := by decide +kernel
theorem dX1_allLikeness_3 : decode cX1_allLikeness 3 = .ok (.istore_n 2, 1) := by decide +kernel
theorem dX1_allLikeness_4 : decode cX1_allLikeness 4 = .ok (.iload_n 2, 1) := by decide +kernel
theorem dX1_allLikeness_5 : decode cX1_allLikeness 5 = .ok (.bipush 6, 2) := by decide +kernel
theorem dX1_allLikeness_7 : decode cX1_allLikeness 7 = .ok (.if_icmp .ge 17, 3) := by decide +kernel
theorem dX1_allLikeness_10 : decode cX1_allLikeness 10 = .ok (.iload_n 1, 1) := by decide +kernel
theorem dX1_allLikeness_11 : decode cX1_allLikeness 11 = .ok (.aload_n 0, 1) := by decide +kernel
theorem dX1_allLikeness_12 : decode cX1_allLikeness 12 = .ok (.iload_n 2, 1) := by decide +kernel
theorem dX1_allLikeness_13 : decode cX1_allLikeness 13 = .ok (.invokevirtual 101, 3) := by decide +kernel
theorem dX1_allLikeness_16 : decode cX1_allLikeness 16 = .ok (.iadd, 1) := by decide +kernel
theorem dX1_allLikeness_17 : decode cX1_allLikeness 17 = .ok (.istore_n 1, 1) := by decide +kernel
theorem dX1_allLikeness_18 : decode cX1_allLikeness 18 = .ok (.iinc 2 1, 3) := by decide +kernel
theorem dX1_allLikeness_21 : decode cX1_allLikeness 21 = .ok (.goto (-17), 3) := by decide +kernel
theorem dX1_allLikeness_24 : decode cX1_allLikeness 24 = .ok (.iload_n 1, 1) := by decide +kernel
theorem dX1_allLikeness_25 : decode cX1_allLikeness 25 = .ok (.ireturn, 1) := by decide +kernel
theorem dX1_roomsShown_0 : decode cX1_roomsShown 0 = .ok (.iconst 0, 1) := by decide +kernel
theorem dX1_roomsShown_1 : decode cX1_roomsShown 1 = .ok (.istore_n 1, 1) := by decide +kernel
theorem dX1_roomsShown_2 : decode cX1_roomsShown 2 = .ok (.iconst 0, 1) := by decide +kernel
theorem dX1_roomsShown_3 : decode cX1_roomsShown 3 = .ok (.istore_n 2, 1) := by decide +kernel
theorem dX1_roomsShown_4 : decode cX1_roomsShown 4 = .ok (.iload_n 2, 1) := by decide +kernel
theorem dX1_roomsShown_5 : decode cX1_roomsShown 5 = .ok (.bipush 6, 2) := by decide +kernel
theorem dX1_roomsShown_7 : decode cX1_roomsShown 7 = .ok (.if_icmp .ge 27, 3) := by decide +kernel
theorem dX1_roomsShown_10 : decode cX1_roomsShown 10 = .ok (.aload_n 0, 1) := by decide +kernel
theorem dX1_roomsShown_11 : decode cX1_roomsShown 11 = .ok (.getfield 30, 3) := by decide +kernel
theorem dX1_roomsShown_14 : decode cX1_roomsShown 14 = .ok (.iload_n 2, 1) := by decide +kernel
theorem dX1_roomsShown_15 : decode cX1_roomsShown 15 = .ok (.iaload, 1) := by decide +kernel
theorem dX1_roomsShown_16 : decode cX1_roomsShown 16 = .ok (.invokestatic 93, 3) := by decide +kernel
theorem dX1_roomsShown_19 : decode cX1_roomsShown 19 = .ok (.ifCond .eq 9, 3) := by decide +kernel
theorem dX1_roomsShown_22 : decode cX1_roomsShown 22 = .ok (.iload_n 1, 1) := by decide +kernel
theorem dX1_roomsShown_23 : decode cX1_roomsShown 23 = .ok (.iconst 1, 1) := by decide +kernel
theorem dX1_roomsShown_24 : decode cX1_roomsShown 24 = .ok (.iload_n 2, 1) := by decide +kernel
theorem dX1_roomsShown_25 : decode cX1_roomsShown 25 = .ok (.ishl, 1) := by decide +kernel
theorem dX1_roomsShown_26 : decode cX1_roomsShown 26 = .ok (.ior, 1) := by decide +kernel
theorem dX1_roomsShown_27 : decode cX1_roomsShown 27 = .ok (.istore_n 1, 1) := by decide +kernel
theorem dX1_roomsShown_28 : decode cX1_roomsShown 28 = .ok (.iinc 2 1, 3) := by decide +kernel
theorem dX1_roomsShown_31 : decode cX1_roomsShown 31 = .ok (.goto (-27), 3) := by decide +kernel
theorem dX1_roomsShown_34 : decode cX1_roomsShown 34 = .ok (.iload_n 1, 1) := by decide +kernel
theorem dX1_roomsShown_35 : decode cX1_roomsShown 35 = .ok (.ireturn, 1) := by decide +kernel
theorem dX1_roomOf_0 : decode cX1_roomOf 0 = .ok (.aload_n 0, 1) := by decide +kernel
theorem dX1_roomOf_1 : decode cX1_roomOf 1 = .ok (.getfield 42, 3) := by decide +kernel
theorem dX1_roomOf_4 : decode cX1_roomOf 4 = .ok (.iconst 1, 1) := by decide +kernel
theorem dX1_roomOf_5 : decode cX1_roomOf 5 = .ok (.if_icmp .ge 5, 3) := by decide +kernel
theorem dX1_roomOf_8 : decode cX1_roomOf 8 = .ok (.iconst (-1), 1) := by decide +kernel
theorem dX1_roomOf_9 : decode cX1_roomOf 9 = .ok (.ireturn, 1) := by decide +kernel
theorem dX1_roomOf_10 : decode cX1_roomOf 10 = .ok (.aload_n 0, 1) := by decide +kernel
theorem dX1_roomOf_11 : decode cX1_roomOf 11 = .ok (.getfield 67, 3) := by decide +kernel
theorem dX1_roomOf_14 : decode cX1_roomOf 14 = .ok (.aload_n 0, 1) := by decide +kernel
theorem dX1_roomOf_15 : decode cX1_roomOf 15 = .ok (.getfield 33, 3) := by decide +kernel
theorem dX1_roomOf_18 : decode cX1_roomOf 18 = .ok (.iload_n 1, 1) := by decide +kernel
theorem dX1_roomOf_19 : decode cX1_roomOf 19 = .ok (.iaload, 1) := by decide +kernel
theorem dX1_roomOf_20 : decode cX1_roomOf 20 = .ok (.isub, 1) := by decide +kernel
theorem dX1_roomOf_21 : decode cX1_roomOf 21 = .ok (.aload_n 0, 1) := by decide +kernel
theorem dX1_roomOf_22 : decode cX1_roomOf 22 = .ok (.getfield 42, 3) := by decide +kernel
theorem dX1_roomOf_25 : decode cX1_roomOf 25 = .ok (.idiv, 1) := by decide +kernel
theorem dX1_roomOf_26 : decode cX1_roomOf 26 = .ok (.istore_n 2, 1) := by decide +kernel
theorem dX1_roomOf_27 : decode cX1_roomOf 27 = .ok (.iload_n 2, 1) := by decide +kernel
theorem dX1_roomOf_28 : decode cX1_roomOf 28 = .ok (.invokestatic 103, 3) := by decide +kernel
theorem dX1_roomOf_31 : decode cX1_roomOf 31 = .ok (.ifCond .eq 7, 3) := by decide +kernel
theorem dX1_roomOf_34 : decode cX1_roomOf 34 = .ok (.iload_n 2, 1) := by decide +kernel
theorem dX1_roomOf_35 : decode cX1_roomOf 35 = .ok (.goto 4, 3) := by decide +kernel
theorem dX1_roomOf_38 : decode cX1_roomOf 38 = .ok (.iconst (-1), 1) := by decide +kernel
theorem dX1_roomOf_39 : decode cX1_roomOf 39 = .ok (.ireturn, 1) := by decide +kernel
theorem dX1_visitorsIn_0 : decode cX1_visitorsIn 0 = .ok (.iconst 0, 1) := by decide +kernel
theorem dX1_visitorsIn_1 : decode cX1_visitorsIn 1 = .ok (.istore_n 2, 1) := by decide +kernel
theorem dX1_visitorsIn_2 : decode cX1_visitorsIn 2 = .ok (.iconst 0, 1) := by decide +kernel
theorem dX1_visitorsIn_3 : decode cX1_visitorsIn 3 = .ok (.istore_n 3, 1) := by decide +kernel
theorem dX1_visitorsIn_4 : decode cX1_visitorsIn 4 = .ok (.iload_n 3, 1) := by decide +kernel
theorem dX1_visitorsIn_5 : decode cX1_visitorsIn 5 = .ok (.aload_n 0, 1) := by decide +kernel
theorem dX1_visitorsIn_6 : decode cX1_visitorsIn 6 = .ok (.getfield 64, 3) := by decide +kernel
theorem dX1_visitorsIn_9 : decode cX1_visitorsIn 9 = .ok (.if_icmp .ge 24, 3) := by decide +kernel
theorem dX1_visitorsIn_12 : decode cX1_visitorsIn 12 = .ok (.aload_n 0, 1) := by decide +kernel
theorem dX1_visitorsIn_13 : decode cX1_visitorsIn 13 = .ok (.iload_n 3, 1) := by decide +kernel
theorem dX1_visitorsIn_14 : decode cX1_visitorsIn 14 = .ok (.invokevirtual 106, 3) := by decide +kernel
theorem dX1_visitorsIn_17 : decode cX1_visitorsIn 17 = .ok (.iload_n 1, 1) := by decide +kernel
theorem dX1_visitorsIn_18 : decode cX1_visitorsIn 18 = .ok (.if_icmp .ne 9, 3) := by decide +kernel
theorem dX1_visitorsIn_21 : decode cX1_visitorsIn 21 = .ok (.iload_n 2, 1) := by decide +kernel
theorem dX1_visitorsIn_22 : decode cX1_visitorsIn 22 = .ok (.iconst 1, 1) := by decide +kernel
theorem dX1_visitorsIn_23 : decode cX1_visitorsIn 23 = .ok (.iload_n 3, 1) := by decide +kernel
theorem dX1_visitorsIn_24 : decode cX1_visitorsIn 24 = .ok (.ishl, 1) := by decide +kernel
theorem dX1_visitorsIn_25 : decode cX1_visitorsIn 25 = .ok (.ior, 1) := by decide +kernel
theorem dX1_visitorsIn_26 : decode cX1_visitorsIn 26 = .ok (.istore_n 2, 1) := by decide +kernel
theorem dX1_visitorsIn_27 : decode cX1_visitorsIn 27 = .ok (.iinc 3 1, 3) := by decide +kernel
theorem dX1_visitorsIn_30 : decode cX1_visitorsIn 30 = .ok (.goto (-26), 3) := by decide +kernel
theorem dX1_visitorsIn_33 : decode cX1_visitorsIn 33 = .ok (.iload_n 2, 1) := by decide +kernel
theorem dX1_visitorsIn_34 : decode cX1_visitorsIn 34 = .ok (.ireturn, 1) := by decide +kernel
theorem dX1_visitorsThere_0 : decode cX1_visitorsThere 0 = .ok (.iconst 0, 1) := by decide +kernel
theorem dX1_visitorsThere_1 : decode cX1_visitorsThere 1 = .ok (.istore_n 1, 1) := by decide +kernel
theorem dX1_visitorsThere_2 : decode cX1_visitorsThere 2 = .ok (.iconst 0, 1) := by decide +kernel
theorem dX1_visitorsThere_3 : decode cX1_visitorsThere 3 = .ok (.istore_n 2, 1) := by decide +kernel
theorem dX1_visitorsThere_4 : decode cX1_visitorsThere 4 = .ok (.iload_n 2, 1) := by decide +kernel
theorem dX1_visitorsThere_5 : decode cX1_visitorsThere 5 = .ok (.bipush 6, 2) := by decide +kernel
theorem dX1_visitorsThere_7 : decode cX1_visitorsThere 7 = .ok (.if_icmp .ge 17, 3) := by decide +kernel
theorem dX1_visitorsThere_10 : decode cX1_visitorsThere 10 = .ok (.iload_n 1, 1) := by decide +kernel
theorem dX1_visitorsThere_11 : decode cX1_visitorsThere 11 = .ok (.aload_n 0, 1) := by decide +kernel
theorem dX1_visitorsThere_12 : decode cX1_visitorsThere 12 = .ok (.iload_n 2, 1) := by decide +kernel
theorem dX1_visitorsThere_13 : decode cX1_visitorsThere 13 = .ok (.invokevirtual 109, 3) := by decide +kernel
theorem dX1_visitorsThere_16 : decode cX1_visitorsThere 16 = .ok (.ior, 1) := by decide +kernel
theorem dX1_visitorsThere_17 : decode cX1_visitorsThere 17 = .ok (.istore_n 1, 1) := by decide +kernel
theorem dX1_visitorsThere_18 : decode cX1_visitorsThere 18 = .ok (.iinc 2 1, 3) := by decide +kernel
theorem dX1_visitorsThere_21 : decode cX1_visitorsThere 21 = .ok (.goto (-17), 3) := by decide +kernel
theorem dX1_visitorsThere_24 : decode cX1_visitorsThere 24 = .ok (.iload_n 1, 1) := by decide +kernel
theorem dX1_visitorsThere_25 : decode cX1_visitorsThere 25 = .ok (.ireturn, 1) := by decide +kernel
theorem dX1_minutesTillEmpty_0 : decode cX1_minutesTillEmpty 0 = .ok (.iconst 0, 1) := by decide +kernel
theorem dX1_minutesTillEmpty_1 : decode cX1_minutesTillEmpty 1 = .ok (.istore_n 1, 1) := by decide +kernel
theorem dX1_minutesTillEmpty_2 : decode cX1_minutesTillEmpty 2 = .ok (.iconst 0, 1) := by decide +kernel
theorem dX1_minutesTillEmpty_3 : decode cX1_minutesTillEmpty 3 = .ok (.istore_n 2, 1) := by decide +kernel
theorem dX1_minutesTillEmpty_4 : decode cX1_minutesTillEmpty 4 = .ok (.iload_n 2, 1) := by decide +kernel
theorem dX1_minutesTillEmpty_5 : decode cX1_minutesTillEmpty 5 = .ok (.aload_n 0, 1) := by decide +kernel
theorem dX1_minutesTillEmpty_6 : decode cX1_minutesTillEmpty 6 = .ok (.getfield 64, 3) := by decide +kernel
theorem dX1_minutesTillEmpty_9 : decode cX1_minutesTillEmpty 9 = .ok (.if_icmp .ge 33, 3) := by decide +kernel
theorem dX1_minutesTillEmpty_12 : decode cX1_minutesTillEmpty 12 = .ok (.iload_n 1, 1) := by decide +kernel
theorem dX1_minutesTillEmpty_13 : decode cX1_minutesTillEmpty 13 = .ok (.aload_n 0, 1) := by decide +kernel
theorem dX1_minutesTillEmpty_14 : decode cX1_minutesTillEmpty 14 = .ok (.getfield 33, 3) := by decide +kernel
theorem dX1_minutesTillEmpty_17 : decode cX1_minutesTillEmpty 17 = .ok (.iload_n 2, 1) := by decide +kernel
theorem dX1_minutesTillEmpty_18 : decode cX1_minutesTillEmpty 18 = .ok (.iaload, 1) := by decide +kernel
theorem dX1_minutesTillEmpty_19 : decode cX1_minutesTillEmpty 19 = .ok (.bipush 6, 2) := by decide +kernel
theorem dX1_minutesTillEmpty_21 : decode cX1_minutesTillEmpty 21 = .ok (.aload_n 0, 1) := by decide +kernel
theorem dX1_minutesTillEmpty_22 : decode cX1_minutesTillEmpty 22 = .ok (.getfield 42, 3) := by decide +kernel
theorem dX1_minutesTillEmpty_25 : decode cX1_minutesTillEmpty 25 = .ok (.imul, 1) := by decide +kernel
theorem dX1_minutesTillEmpty_26 : decode cX1_minutesTillEmpty 26 = .ok (.iadd, 1) := by decide +kernel
theorem dX1_minutesTillEmpty_27 : decode cX1_minutesTillEmpty 27 = .ok (.aload_n 0, 1) := by decide +kernel
theorem dX1_minutesTillEmpty_28 : decode cX1_minutesTillEmpty 28 = .ok (.getfield 67, 3) := by decide +kernel
theorem dX1_minutesTillEmpty_31 : decode cX1_minutesTillEmpty 31 = .ok (.isub, 1) := by decide +kernel
theorem dX1_minutesTillEmpty_32 : decode cX1_minutesTillEmpty 32 = .ok (.invokestatic 112, 3) := by decide +kernel
theorem dX1_minutesTillEmpty_35 : decode cX1_minutesTillEmpty 35 = .ok (.istore_n 1, 1) := by decide +kernel
theorem dX1_minutesTillEmpty_36 : decode cX1_minutesTillEmpty 36 = .ok (.iinc 2 1, 3) := by decide +kernel
theorem dX1_minutesTillEmpty_39 : decode cX1_minutesTillEmpty 39 = .ok (.goto (-35), 3) := by decide +kernel
theorem dX1_minutesTillEmpty_42 : decode cX1_minutesTillEmpty 42 = .ok (.iload_n 1, 1) := by decide +kernel
theorem dX1_minutesTillEmpty_43 : decode cX1_minutesTillEmpty 43 = .ok (.ireturn, 1) := by decide +kernel
theorem dX1_passes_0 : decode cX1_passes 0 = .ok (.aload_n 0, 1) := by decide +kernel
theorem dX1_passes_1 : decode cX1_passes 1 = .ok (.getfield 33, 3) := by decide +kernel
theorem dX1_passes_4 : decode cX1_passes 4 = .ok (.iload_n 1, 1) := by decide +kernel
theorem dX1_passes_5 : decode cX1_passes 5 = .ok (.iaload, 1) := by decide +kernel
theorem dX1_passes_6 : decode cX1_passes 6 = .ok (.iload_n 2, 1) := by decide +kernel
theorem dX1_passes_7 : decode cX1_passes 7 = .ok (.aload_n 0, 1) := by decide +kernel
theorem dX1_passes_8 : decode cX1_passes 8 = .ok (.getfield 42, 3) := by decide +kernel
theorem dX1_passes_11 : decode cX1_passes 11 = .ok (.imul, 1) := by decide +kernel
theorem dX1_passes_12 : decode cX1_passes 12 = .ok (.iadd, 1) := by decide +kernel
theorem dX1_passes_13 : decode cX1_passes 13 = .ok (.istore 5, 2) := by decide +kernel
theorem dX1_passes_15 : decode cX1_passes 15 = .ok (.iload_n 2, 1) := by decide +kernel
theorem dX1_passes_16 : decode cX1_passes 16 = .ok (.invokestatic 103, 3) := by decide +kernel
theorem dX1_passes_19 : decode cX1_passes 19 = .ok (.ifCond .eq 28, 3) := by decide +kernel
theorem dX1_passes_22 : decode cX1_passes 22 = .ok (.iload 5, 2) := by decide +kernel
theorem dX1_passes_24 : decode cX1_passes 24 = .ok (.iload_n 3, 1) := by decide +kernel
theorem dX1_passes_25 : decode cX1_passes 25 = .ok (.invokestatic 112, 3) := by decide +kernel
theorem dX1_passes_28 : decode cX1_passes 28 = .ok (.iload 5, 2) := by decide +kernel
theorem dX1_passes_30 : decode cX1_passes 30 = .ok (.aload_n 0, 1) := by decide +kernel
theorem dX1_passes_31 : decode cX1_passes 31 = .ok (.getfield 42, 3) := by decide +kernel
theorem dX1_passes_34 : decode cX1_passes 34 = .ok (.iadd, 1) := by decide +kernel
theorem dX1_passes_35 : decode cX1_passes 35 = .ok (.iload 4, 2) := by decide +kernel
theorem dX1_passes_37 : decode cX1_passes 37 = .ok (.invokestatic 115, 3) := by decide +kernel
theorem dX1_passes_40 : decode cX1_passes 40 = .ok (.if_icmp .ge 7, 3) := by decide +kernel
theorem dX1_passes_43 : decode cX1_passes 43 = .ok (.iconst 1, 1) := by decide +kernel
theorem dX1_passes_44 : decode cX1_passes 44 = .ok (.goto 4, 3) := by decide +kernel
theorem dX1_passes_47 : decode cX1_passes 47 = .ok (.iconst 0, 1) := by decide +kernel
theorem dX1_passes_48 : decode cX1_passes 48 = .ok (.ireturn, 1) := by decide +kernel
theorem dX1_spend_0 : decode cX1_spend 0 = .ok (.iconst 0, 1) := by decide +kernel
theorem dX1_spend_1 : decode cX1_spend 1 = .ok (.istore_n 2, 1) := by decide +kernel
theorem dX1_spend_2 : decode cX1_spend 2 = .ok (.iload_n 2, 1) := by decide +kernel
theorem dX1_spend_3 : decode cX1_spend 3 = .ok (.aload_n 0, 1) := by decide +kernel
theorem dX1_spend_4 : decode cX1_spend 4 = .ok (.getfield 64, 3) := by decide +kernel
theorem dX1_spend_7 : decode cX1_spend 7 = .ok (.if_icmp .ge 71, 3) := by decide +kernel
theorem dX1_spend_10 : decode cX1_spend 10 = .ok (.iconst 0, 1) := by decide +kernel
theorem dX1_spend_11 : decode cX1_spend 11 = .ok (.istore_n 3, 1) := by decide +kernel
theorem dX1_spend_12 : decode cX1_spend 12 = .ok (.iload_n 3, 1) := by decide +kernel
theorem dX1_spend_13 : decode cX1_spend 13 = .ok (.aload_n 0, 1) := by decide +kernel
theorem dX1_spend_14 : decode cX1_spend 14 = .ok (.getfield 61, 3) := by decide +kernel
theorem dX1_spend_17 : decode cX1_spend 17 = .ok (.if_icmp .ge 55, 3) := by decide +kernel
theorem dX1_spend_20 : decode cX1_spend 20 = .ok (.aload_n 0, 1) := by decide +kernel
theorem dX1_spend_21 : decode cX1_spend 21 = .ok (.iload_n 2, 1) := by decide +kernel
theorem dX1_spend_22 : decode cX1_spend 22 = .ok (.aload_n 0, 1) := by decide +kernel
theorem dX1_spend_23 : decode cX1_spend 23 = .ok (.getfield 21, 3) := by decide +kernel
theorem dX1_spend_26 : decode cX1_spend 26 = .ok (.iload_n 3, 1) := by decide +kernel
theorem dX1_spend_27 : decode cX1_spend 27 = .ok (.iaload, 1) := by decide +kernel
theorem dX1_spend_28 : decode cX1_spend 28 = .ok (.aload_n 0, 1) := by decide +kernel
theorem dX1_spend_29 : decode cX1_spend 29 = .ok (.getfield 67, 3) := by decide +kernel
theorem dX1_spend_32 : decode cX1_spend 32 = .ok (.aload_n 0, 1) := by decide +kernel
theorem dX1_spend_33 : decode cX1_spend 33 = .ok (.getfield 67, 3) := by decide +kernel
theorem dX1_spend_36 : decode cX1_spend 36 = .ok (.iload_n 1, 1) := by decide +kernel
theorem dX1_spend_37 : decode cX1_spend 37 = .ok (.iadd, 1) := by decide +kernel
theorem dX1_spend_38 : decode cX1_spend 38 = .ok (.invokevirtual 118, 3) := by decide +kernel
theorem dX1_spend_41 : decode cX1_spend 41 = .ok (.ifCond .eq 25, 3) := by decide +kernel
theorem dX1_spend_44 : decode cX1_spend 44 = .ok (.aload_n 0, 1) := by decide +kernel
theorem dX1_spend_45 : decode cX1_spend 45 = .ok (.getfield 36, 3) := by decide +kernel
theorem dX1_spend_48 : decode cX1_spend 48 = .ok (.iload_n 2, 1) := by decide +kernel
theorem dX1_spend_49 : decode cX1_spend 49 = .ok (.bipush 10, 2) := by decide +kernel
theorem dX1_spend_51 : decode cX1_spend 51 = .ok (.imul, 1) := by decide +kernel
theorem dX1_spend_52 : decode cX1_spend 52 = .ok (.iload_n 3, 1) := by decide +kernel
theorem dX1_spend_53 : decode cX1_spend 53 = .ok (.iadd, 1) := by decide +kernel
theorem dX1_spend_54 : decode cX1_spend 54 = .ok (.dup2, 1) := by decide +kernel
theorem dX1_spend_55 : decode cX1_spend 55 = .ok (.iaload, 1) := by decide +kernel
theorem dX1_spend_56 : decode cX1_spend 56 = .ok (.iconst 1, 1) := by decide +kernel
theorem dX1_spend_57 : decode cX1_spend 57 = .ok (.aload_n 0, 1) := by decide +kernel
theorem dX1_spend_58 : decode cX1_spend 58 = .ok (.getfield 21, 3) := by decide +kernel
theorem dX1_spend_61 : decode cX1_spend 61 = .ok (.iload_n 3, 1) := by decide +kernel
theorem dX1_spend_62 : decode cX1_spend 62 = .ok (.iaload, 1) := by decide +kernel
theorem dX1_spend_63 : decode cX1_spend 63 = .ok (.ishl, 1) := by decide +kernel
theorem dX1_spend_64 : decode cX1_spend 64 = .ok (.ior, 1) := by decide +kernel
theorem dX1_spend_65 : decode cX1_spend 65 = .ok (.iastore, 1) := by decide +kernel
theorem dX1_spend_66 : decode cX1_spend 66 = .ok (.iinc 3 1, 3) := by decide +kernel
theorem dX1_spend_69 : decode cX1_spend 69 = .ok (.goto (-57), 3) := by decide +kernel
theorem dX1_spend_72 : decode cX1_spend 72 = .ok (.iinc 2 1, 3) := by decide +kernel
theorem dX1_spend_75 : decode cX1_spend 75 = .ok (.goto (-73), 3) := by decide +kernel
theorem dX1_spend_78 : decode cX1_spend 78 = .ok (.aload_n 0, 1) := by decide +kernel
theorem dX1_spend_79 : decode cX1_spend 79 = .ok (.dup, 1) := by decide +kernel
theorem dX1_spend_80 : decode cX1_spend 80 = .ok (.getfield 67, 3) := by decide +kernel
theorem dX1_spend_83 : decode cX1_spend 83 = .ok (.iload_n 1, 1) := by decide +kernel
theorem dX1_spend_84 : decode cX1_spend 84 = .ok (.iadd, 1) := by decide +kernel
theorem dX1_spend_85 : decode cX1_spend 85 = .ok (.putfield 67, 3) := by decide +kernel
theorem dX1_spend_88 : decode cX1_spend 88 = .ok (.return_, 1) := by decide +kernel
theorem dX1_carry_0 : decode cX1_carry 0 = .ok (.aload_n 0, 1) := by decide +kernel
theorem dX1_carry_1 : decode cX1_carry 1 = .ok (.iload_n 1, 1) := by decide +kernel
theorem dX1_carry_2 : decode cX1_carry 2 = .ok (.iload_n 2, 1) := by decide +kernel
theorem dX1_carry_3 : decode cX1_carry 3 = .ok (.invokevirtual 122, 3) := by decide +kernel
theorem dX1_carry_6 : decode cX1_carry 6 = .ok (.istore_n 3, 1) := by decide +kernel
theorem dX1_carry_7 : decode cX1_carry 7 = .ok (.aload_n 0, 1) := by decide +kernel
theorem dX1_carry_8 : decode cX1_carry 8 = .ok (.getfield 21, 3) := by decide +kernel
theorem dX1_carry_11 : decode cX1_carry 11 = .ok (.iload_n 1, 1) := by decide +kernel
theorem dX1_carry_12 : decode cX1_carry 12 = .ok (.iconst (-1), 1) := by decide +kernel
theorem dX1_carry_13 : decode cX1_carry 13 = .ok (.iastore, 1) := by decide +kernel
theorem dX1_carry_14 : decode cX1_carry 14 = .ok (.aload_n 0, 1) := by decide +kernel
theorem dX1_carry_15 : decode cX1_carry 15 = .ok (.iload_n 3, 1) := by decide +kernel
theorem dX1_carry_16 : decode cX1_carry 16 = .ok (.invokevirtual 125, 3) := by decide +kernel
theorem dX1_carry_19 : decode cX1_carry 19 = .ok (.aload_n 0, 1) := by decide +kernel
theorem dX1_carry_20 : decode cX1_carry 20 = .ok (.getfield 21, 3) := by decide +kernel
theorem dX1_carry_23 : decode cX1_carry 23 = .ok (.iload_n 1, 1) := by decide +kernel
theorem dX1_carry_24 : decode cX1_carry 24 = .ok (.iload_n 2, 1) := by decide +kernel
theorem dX1_carry_25 : decode cX1_carry 25 = .ok (.iastore, 1) := by decide +kernel
theorem dX1_carry_26 : decode cX1_carry 26 = .ok (.return_, 1) := by decide +kernel
theorem dX1_sighted_0 : decode cX1_sighted 0 = .ok (.iconst 0, 1) := by decide +kernel
theorem dX1_sighted_1 : decode cX1_sighted 1 = .ok (.istore_n 3, 1) := by decide +kernel
theorem dX1_sighted_2 : decode cX1_sighted 2 = .ok (.iconst 0, 1) := by decide +kernel
theorem dX1_sighted_3 : decode cX1_sighted 3 = .ok (.istore 4, 2) := by decide +kernel
theorem dX1_sighted_5 : decode cX1_sighted 5 = .ok (.iload 4, 2) := by decide +kernel
theorem dX1_sighted_7 : decode cX1_sighted 7 = .ok (.aload_n 0, 1) := by decide +kernel
theorem dX1_sighted_8 : decode cX1_sighted 8 = .ok (.getfield 61, 3) := by decide +kernel
theorem dX1_sighted_11 : decode cX1_sighted 11 = .ok (.if_icmp .ge 35, 3) := by decide +kernel
theorem dX1_sighted_14 : decode cX1_sighted 14 = .ok (.aload_n 0, 1) := by decide +kernel
theorem dX1_sighted_15 : decode cX1_sighted 15 = .ok (.getfield 36, 3) := by decide +kernel
theorem dX1_sighted_18 : decode cX1_sighted 18 = .ok (.iload_n 1, 1) := by decide +kernel
theorem dX1_sighted_19 : decode cX1_sighted 19 = .ok (.bipush 10, 2) := by decide +kernel
theorem dX1_sighted_21 : decode cX1_sighted 21 = .ok (.imul, 1) := by decide +kernel
theorem dX1_sighted_22 : decode cX1_sighted 22 = .ok (.iload 4, 2) := by decide +kernel
theorem dX1_sighted_24 : decode cX1_sighted 24 = .ok (.iadd, 1) := by decide +kernel
theorem dX1_sighted_25 : decode cX1_sighted 25 = .ok (.iaload, 1) := by decide +kernel
theorem dX1_sighted_26 : decode cX1_sighted 26 = .ok (.invokestatic 129, 3) := by decide +kernel
theorem dX1_sighted_29 : decode cX1_sighted 29 = .ok (.iload_n 2, 1) := by decide +kernel
theorem dX1_sighted_30 : decode cX1_sighted 30 = .ok (.if_icmp .lt 10, 3) := by decide +kernel
theorem dX1_sighted_33 : decode cX1_sighted 33 = .ok (.iload_n 3, 1) := by decide +kernel
theorem dX1_sighted_34 : decode cX1_sighted 34 = .ok (.iconst 1, 1) := by decide +kernel
theorem dX1_sighted_35 : decode cX1_sighted 35 = .ok (.iload 4, 2) := by decide +kernel
theorem dX1_sighted_37 : decode cX1_sighted 37 = .ok (.ishl, 1) := by decide +kernel
theorem dX1_sighted_38 : decode cX1_sighted 38 = .ok (.ior, 1) := by decide +kernel
theorem dX1_sighted_39 : decode cX1_sighted 39 = .ok (.istore_n 3, 1) := by decide +kernel
theorem dX1_sighted_40 : decode cX1_sighted 40 = .ok (.iinc 4 1, 3) := by decide +kernel
theorem dX1_sighted_43 : decode cX1_sighted 43 = .ok (.goto (-38), 3) := by decide +kernel
theorem dX1_sighted_46 : decode cX1_sighted 46 = .ok (.iload_n 3, 1) := by decide +kernel
theorem dX1_sighted_47 : decode cX1_sighted 47 = .ok (.ireturn, 1) := by decide +kernel
theorem dX1_sightedTwice_0 : decode cX1_sightedTwice 0 = .ok (.iconst 0, 1) := by decide +kernel
theorem dX1_sightedTwice_1 : decode cX1_sightedTwice 1 = .ok (.istore_n 1, 1) := by decide +kernel
theorem dX1_sightedTwice_2 : decode cX1_sightedTwice 2 = .ok (.iconst 0, 1) := by decide +kernel
theorem dX1_sightedTwice_3 : decode cX1_sightedTwice 3 = .ok (.istore_n 2, 1) := by decide +kernel
theorem dX1_sightedTwice_4 : decode cX1_sightedTwice 4 = .ok (.iload_n 2, 1) := by decide +kernel
theorem dX1_sightedTwice_5 : decode cX1_sightedTwice 5 = .ok (.aload_n 0, 1) := by decide +kernel
theorem dX1_sightedTwice_6 : decode cX1_sightedTwice 6 = .ok (.getfield 64, 3) := by decide +kernel
theorem dX1_sightedTwice_9 : decode cX1_sightedTwice 9 = .ok (.if_icmp .ge 18, 3) := by decide +kernel
theorem dX1_sightedTwice_12 : decode cX1_sightedTwice 12 = .ok (.iload_n 1, 1) := by decide +kernel
theorem dX1_sightedTwice_13 : decode cX1_sightedTwice 13 = .ok (.aload_n 0, 1) := by decide +kernel
theorem dX1_sightedTwice_14 : decode cX1_sightedTwice 14 = .ok (.iload_n 2, 1) := by decide +kernel
theorem dX1_sightedTwice_15 : decode cX1_sightedTwice 15 = .ok (.iconst 2, 1) := by decide +kernel
theorem dX1_sightedTwice_16 : decode cX1_sightedTwice 16 = .ok (.invokevirtual 134, 3) := by decide +kernel
theorem dX1_sightedTwice_19 : decode cX1_sightedTwice 19 = .ok (.ior, 1) := by decide +kernel
theorem dX1_sightedTwice_20 : decode cX1_sightedTwice 20 = .ok (.istore_n 1, 1) := by decide +kernel
theorem dX1_sightedTwice_21 : decode cX1_sightedTwice 21 = .ok (.iinc 2 1, 3) := by decide +kernel
theorem dX1_sightedTwice_24 : decode cX1_sightedTwice 24 = .ok (.goto (-20), 3) := by decide +kernel
theorem dX1_sightedTwice_27 : decode cX1_sightedTwice 27 = .ok (.iload_n 1, 1) := by decide +kernel
theorem dX1_sightedTwice_28 : decode cX1_sightedTwice 28 = .ok (.ireturn, 1) := by decide +kernel
theorem dX1_staysUnseen_0 : decode cX1_staysUnseen 0 = .ok (.aload_n 0, 1) := by decide +kernel
theorem dX1_staysUnseen_1 : decode cX1_staysUnseen 1 = .ok (.getfield 67, 3) := by decide +kernel
theorem dX1_staysUnseen_4 : decode cX1_staysUnseen 4 = .ok (.iload_n 3, 1) := by decide +kernel
theorem dX1_staysUnseen_5 : decode cX1_staysUnseen 5 = .ok (.iadd, 1) := by decide +kernel
theorem dX1_staysUnseen_6 : decode cX1_staysUnseen 6 = .ok (.istore 4, 2) := by decide +kernel
theorem dX1_staysUnseen_8 : decode cX1_staysUnseen 8 = .ok (.iload 4, 2) := by decide +kernel
theorem dX1_staysUnseen_10 : decode cX1_staysUnseen 10 = .ok (.aload_n 0, 1) := by decide +kernel
theorem dX1_staysUnseen_11 : decode cX1_staysUnseen 11 = .ok (.iload_n 1, 1) := by decide +kernel
theorem dX1_staysUnseen_12 : decode cX1_staysUnseen 12 = .ok (.iload_n 2, 1) := by decide +kernel
theorem dX1_staysUnseen_13 : decode cX1_staysUnseen 13 = .ok (.invokevirtual 122, 3) := by decide +kernel
theorem dX1_staysUnseen_16 : decode cX1_staysUnseen 16 = .ok (.iadd, 1) := by decide +kernel
theorem dX1_staysUnseen_17 : decode cX1_staysUnseen 17 = .ok (.istore 5, 2) := by decide +kernel
theorem dX1_staysUnseen_19 : decode cX1_staysUnseen 19 = .ok (.iconst 0, 1) := by decide +kernel
theorem dX1_staysUnseen_20 : decode cX1_staysUnseen 20 = .ok (.istore 6, 2) := by decide +kernel
theorem dX1_staysUnseen_22 : decode cX1_staysUnseen 22 = .ok (.iload 6, 2) := by decide +kernel
theorem dX1_staysUnseen_24 : decode cX1_staysUnseen 24 = .ok (.aload_n 0, 1) := by decide +kernel
theorem dX1_staysUnseen_25 : decode cX1_staysUnseen 25 = .ok (.getfield 64, 3) := by decide +kernel
theorem dX1_staysUnseen_28 : decode cX1_staysUnseen 28 = .ok (.if_icmp .ge 108, 3) := by decide +kernel
theorem dX1_staysUnseen_31 : decode cX1_staysUnseen 31 = .ok (.aload_n 0, 1) := by decide +kernel
theorem dX1_staysUnseen_32 : decode cX1_staysUnseen 32 = .ok (.getfield 36, 3) := by decide +kernel
theorem dX1_staysUnseen_35 : decode cX1_staysUnseen 35 = .ok (.iload 6, 2) := by decide +kernel
theorem dX1_staysUnseen_37 : decode cX1_staysUnseen 37 = .ok (.bipush 10, 2) := by decide +kernel
theorem dX1_staysUnseen_39 : decode cX1_staysUnseen 39 = .ok (.imul, 1) := by decide +kernel
theorem dX1_staysUnseen_40 : decode cX1_staysUnseen 40 = .ok (.iload_n 1, 1) := by decide +kernel
theorem dX1_staysUnseen_41 : decode cX1_staysUnseen 41 = .ok (.iadd, 1) := by decide +kernel
theorem dX1_staysUnseen_42 : decode cX1_staysUnseen 42 = .ok (.iaload, 1) := by decide +kernel
theorem dX1_staysUnseen_43 : decode cX1_staysUnseen 43 = .ok (.istore 7, 2) := by decide +kernel
theorem dX1_staysUnseen_45 : decode cX1_staysUnseen 45 = .ok (.aload_n 0, 1) := by decide +kernel
theorem dX1_staysUnseen_46 : decode cX1_staysUnseen 46 = .ok (.iload 6, 2) := by decide +kernel
theorem dX1_staysUnseen_48 : decode cX1_staysUnseen 48 = .ok (.invokevirtual 106, 3) := by decide +kernel
theorem dX1_staysUnseen_51 : decode cX1_staysUnseen 51 = .ok (.ifCond .lt 79, 3) := by decide +kernel
theorem dX1_staysUnseen_54 : decode cX1_staysUnseen 54 = .ok (.iload 7, 2) := by decide +kernel
theorem dX1_staysUnseen_56 : decode cX1_staysUnseen 56 = .ok (.invokestatic 129, 3) := by decide +kernel
theorem dX1_staysUnseen_59 : decode cX1_staysUnseen 59 = .ok (.iconst 2, 1) := by decide +kernel
theorem dX1_staysUnseen_60 : decode cX1_staysUnseen 60 = .ok (.if_icmp .ge 70, 3) := by decide +kernel
theorem dX1_staysUnseen_63 : decode cX1_staysUnseen 63 = .ok (.aload_n 0, 1) := by decide +kernel
theorem dX1_staysUnseen_64 : decode cX1_staysUnseen 64 = .ok (.iload 6, 2) := by decide +kernel
theorem dX1_staysUnseen_66 : decode cX1_staysUnseen 66 = .ok (.aload_n 0, 1) := by decide +kernel
theorem dX1_staysUnseen_67 : decode cX1_staysUnseen 67 = .ok (.getfield 21, 3) := by decide +kernel
theorem dX1_staysUnseen_70 : decode cX1_staysUnseen 70 = .ok (.iload_n 1, 1) := by decide +kernel
theorem dX1_staysUnseen_71 : decode cX1_staysUnseen 71 = .ok (.iaload, 1) := by decide +kernel
theorem dX1_staysUnseen_72 : decode cX1_staysUnseen 72 = .ok (.aload_n 0, 1) := by decide +kernel
theorem dX1_staysUnseen_73 : decode cX1_staysUnseen 73 = .ok (.getfield 67, 3) := by decide +kernel
theorem dX1_staysUnseen_76 : decode cX1_staysUnseen 76 = .ok (.iload 4, 2) := by decide +kernel
theorem dX1_staysUnseen_78 : decode cX1_staysUnseen 78 = .ok (.invokevirtual 118, 3) := by decide +kernel
theorem dX1_staysUnseen_81 : decode cX1_staysUnseen 81 = .ok (.ifCond .eq 16, 3) := by decide +kernel
theorem dX1_staysUnseen_84 : decode cX1_staysUnseen 84 = .ok (.iload 7, 2) := by decide +kernel
theorem dX1_staysUnseen_86 : decode cX1_staysUnseen 86 = .ok (.iconst 1, 1) := by decide +kernel
theorem dX1_staysUnseen_87 : decode cX1_staysUnseen 87 = .ok (.aload_n 0, 1) := by decide +kernel
theorem dX1_staysUnseen_88 : decode cX1_staysUnseen 88 = .ok (.getfield 21, 3) := by decide +kernel
theorem dX1_staysUnseen_91 : decode cX1_staysUnseen 91 = .ok (.iload_n 1, 1) := by decide +kernel
theorem dX1_staysUnseen_92 : decode cX1_staysUnseen 92 = .ok (.iaload, 1) := by decide +kernel
theorem dX1_staysUnseen_93 : decode cX1_staysUnseen 93 = .ok (.ishl, 1) := by decide +kernel
theorem dX1_staysUnseen_94 : decode cX1_staysUnseen 94 = .ok (.ior, 1) := by decide +kernel
theorem dX1_staysUnseen_95 : decode cX1_staysUnseen 95 = .ok (.istore 7, 2) := by decide +kernel
theorem dX1_staysUnseen_97 : decode cX1_staysUnseen 97 = .ok (.aload_n 0, 1) := by decide +kernel
theorem dX1_staysUnseen_98 : decode cX1_staysUnseen 98 = .ok (.iload 6, 2) := by decide +kernel
theorem dX1_staysUnseen_100 : decode cX1_staysUnseen 100 = .ok (.iload_n 2, 1) := by decide +kernel
theorem dX1_staysUnseen_101 : decode cX1_staysUnseen 101 = .ok (.iload 5, 2) := by decide +kernel
theorem dX1_staysUnseen_103 : decode cX1_staysUnseen 103 = .ok (.ldc 137, 2) := by decide +kernel
theorem dX1_staysUnseen_105 : decode cX1_staysUnseen 105 = .ok (.invokevirtual 118, 3) := by decide +kernel
theorem dX1_staysUnseen_108 : decode cX1_staysUnseen 108 = .ok (.ifCond .eq 11, 3) := by decide +kernel
theorem dX1_staysUnseen_111 : decode cX1_staysUnseen 111 = .ok (.iload 7, 2) := by decide +kernel
theorem dX1_staysUnseen_113 : decode cX1_staysUnseen 113 = .ok (.iconst 1, 1) := by decide +kernel
theorem dX1_staysUnseen_114 : decode cX1_staysUnseen 114 = .ok (.iload_n 2, 1) := by decide +kernel
theorem dX1_staysUnseen_115 : decode cX1_staysUnseen 115 = .ok (.ishl, 1) := by decide +kernel
theorem dX1_staysUnseen_116 : decode cX1_staysUnseen 116 = .ok (.ior, 1) := by decide +kernel
theorem dX1_staysUnseen_117 : decode cX1_staysUnseen 117 = .ok (.istore 7, 2) := by decide +kernel
theorem dX1_staysUnseen_119 : decode cX1_staysUnseen 119 = .ok (.iload 7, 2) := by decide +kernel
theorem dX1_staysUnseen_121 : decode cX1_staysUnseen 121 = .ok (.invokestatic 129, 3) := by decide +kernel
theorem dX1_staysUnseen_124 : decode cX1_staysUnseen 124 = .ok (.iconst 2, 1) := by decide +kernel
theorem dX1_staysUnseen_125 : decode cX1_staysUnseen 125 = .ok (.if_icmp .lt 5, 3) := by decide +kernel
theorem dX1_staysUnseen_128 : decode cX1_staysUnseen 128 = .ok (.iconst 0, 1) := by decide +kernel
theorem dX1_staysUnseen_129 : decode cX1_staysUnseen 129 = .ok (.ireturn, 1) := by decide +kernel
theorem dX1_staysUnseen_130 : decode cX1_staysUnseen 130 = .ok (.iinc 6 1, 3) := by decide +kernel
theorem dX1_staysUnseen_133 : decode cX1_staysUnseen 133 = .ok (.goto (-111), 3) := by decide +kernel
theorem dX1_staysUnseen_136 : decode cX1_staysUnseen 136 = .ok (.iconst 1, 1) := by decide +kernel
theorem dX1_staysUnseen_137 : decode cX1_staysUnseen 137 = .ok (.ireturn, 1) := by decide +kernel
theorem dX1_likestTo_0 : decode cX1_likestTo 0 = .ok (.iconst 0, 1) := by decide +kernel
theorem dX1_likestTo_1 : decode cX1_likestTo 1 = .ok (.istore_n 2, 1) := by decide +kernel
theorem dX1_likestTo_2 : decode cX1_likestTo 2 = .ok (.iconst 1, 1) := by decide +kernel
theorem dX1_likestTo_3 : decode cX1_likestTo 3 = .ok (.istore_n 3, 1) := by decide +kernel
theorem dX1_likestTo_4 : decode cX1_likestTo 4 = .ok (.iload_n 3, 1) := by decide +kernel
theorem dX1_likestTo_5 : decode cX1_likestTo 5 = .ok (.aload_n 0, 1) := by decide +kernel
theorem dX1_likestTo_6 : decode cX1_likestTo 6 = .ok (.getfield 61, 3) := by decide +kernel
theorem dX1_likestTo_9 : decode cX1_likestTo 9 = .ok (.if_icmp .ge 26, 3) := by decide +kernel
theorem dX1_likestTo_12 : decode cX1_likestTo 12 = .ok (.aload_n 0, 1) := by decide +kernel
theorem dX1_likestTo_13 : decode cX1_likestTo 13 = .ok (.iload_n 3, 1) := by decide +kernel
theorem dX1_likestTo_14 : decode cX1_likestTo 14 = .ok (.iload_n 1, 1) := by decide +kernel
theorem dX1_likestTo_15 : decode cX1_likestTo 15 = .ok (.invokevirtual 97, 3) := by decide +kernel
theorem dX1_likestTo_18 : decode cX1_likestTo 18 = .ok (.aload_n 0, 1) := by decide +kernel
theorem dX1_likestTo_19 : decode cX1_likestTo 19 = .ok (.iload_n 2, 1) := by decide +kernel
theorem dX1_likestTo_20 : decode cX1_likestTo 20 = .ok (.iload_n 1, 1) := by decide +kernel
theorem dX1_likestTo_21 : decode cX1_likestTo 21 = .ok (.invokevirtual 97, 3) := by decide +kernel
theorem dX1_likestTo_24 : decode cX1_likestTo 24 = .ok (.if_icmp .le 5, 3) := by decide +kernel
theorem dX1_likestTo_27 : decode cX1_likestTo 27 = .ok (.iload_n 3, 1) := by decide +kernel
theorem dX1_likestTo_28 : decode cX1_likestTo 28 = .ok (.istore_n 2, 1) := by decide +kernel
theorem dX1_likestTo_29 : decode cX1_likestTo 29 = .ok (.iinc 3 1, 3) := by decide +kernel
theorem dX1_likestTo_32 : decode cX1_likestTo 32 = .ok (.goto (-28), 3) := by decide +kernel
theorem dX1_likestTo_35 : decode cX1_likestTo 35 = .ok (.iload_n 2, 1) := by decide +kernel
theorem dX1_likestTo_36 : decode cX1_likestTo 36 = .ok (.ireturn, 1) := by decide +kernel
theorem dX1_likestOf_0 : decode cX1_likestOf 0 = .ok (.iconst 0, 1) := by decide +kernel
theorem dX1_likestOf_1 : decode cX1_likestOf 1 = .ok (.istore_n 2, 1) := by decide +kernel
theorem dX1_likestOf_2 : decode cX1_likestOf 2 = .ok (.iconst 1, 1) := by decide +kernel
theorem dX1_likestOf_3 : decode cX1_likestOf 3 = .ok (.istore_n 3, 1) := by decide +kernel
theorem dX1_likestOf_4 : decode cX1_likestOf 4 = .ok (.iload_n 3, 1) := by decide +kernel
theorem dX1_likestOf_5 : decode cX1_likestOf 5 = .ok (.bipush 6, 2) := by decide +kernel
theorem dX1_likestOf_7 : decode cX1_likestOf 7 = .ok (.if_icmp .ge 26, 3) := by decide +kernel
theorem dX1_likestOf_10 : decode cX1_likestOf 10 = .ok (.aload_n 0, 1) := by decide +kernel
theorem dX1_likestOf_11 : decode cX1_likestOf 11 = .ok (.iload_n 1, 1) := by decide +kernel
theorem dX1_likestOf_12 : decode cX1_likestOf 12 = .ok (.iload_n 3, 1) := by decide +kernel
theorem dX1_likestOf_13 : decode cX1_likestOf 13 = .ok (.invokevirtual 97, 3) := by decide +kernel
theorem dX1_likestOf_16 : decode cX1_likestOf 16 = .ok (.aload_n 0, 1) := by decide +kernel
theorem dX1_likestOf_17 : decode cX1_likestOf 17 = .ok (.iload_n 1, 1) := by decide +kernel
theorem dX1_likestOf_18 : decode cX1_likestOf 18 = .ok (.iload_n 2, 1) := by decide +kernel
theorem dX1_likestOf_19 : decode cX1_likestOf 19 = .ok (.invokevirtual 97, 3) := by decide +kernel
theorem dX1_likestOf_22 : decode cX1_likestOf 22 = .ok (.if_icmp .le 5, 3) := by decide +kernel
theorem dX1_likestOf_25 : decode cX1_likestOf 25 = .ok (.iload_n 3, 1) := by decide +kernel
theorem dX1_likestOf_26 : decode cX1_likestOf 26 = .ok (.istore_n 2, 1) := by decide +kernel
theorem dX1_likestOf_27 : decode cX1_likestOf 27 = .ok (.iinc 3 1, 3) := by decide +kernel
theorem dX1_likestOf_30 : decode cX1_likestOf 30 = .ok (.goto (-26), 3) := by decide +kernel
theorem dX1_likestOf_33 : decode cX1_likestOf 33 = .ok (.iload_n 2, 1) := by decide +kernel
theorem dX1_likestOf_34 : decode cX1_likestOf 34 = .ok (.ireturn, 1) := by decide +kernel
theorem dX1_allChances_0 : decode cX1_allChances 0 = .ok (.iconst 0, 1) := by decide +kernel
theorem dX1_allChances_1 : decode cX1_allChances 1 = .ok (.istore_n 1, 1) := by decide +kernel
theorem dX1_allChances_2 : decode cX1_allChances 2 = .ok (.iconst 0, 1) := by decide +kernel
theorem dX1_allChances_3 : decode cX1_allChances 3 = .ok (.istore_n 2, 1) := by decide +kernel
theorem dX1_allChances_4 : decode cX1_allChances 4 = .ok (.iload_n 2, 1) := by decide +kernel
theorem dX1_allChances_5 : decode cX1_allChances 5 = .ok (.bipush 6, 2) := by decide +kernel
theorem dX1_allChances_7 : decode cX1_allChances 7 = .ok (.if_icmp .ge 18, 3) := by decide +kernel
theorem dX1_allChances_10 : decode cX1_allChances 10 = .ok (.iload_n 1, 1) := by decide +kernel
theorem dX1_allChances_11 : decode cX1_allChances 11 = .ok (.aload_n 0, 1) := by decide +kernel
theorem dX1_allChances_12 : decode cX1_allChances 12 = .ok (.getfield 27, 3) := by decide +kernel
theorem dX1_allChances_15 : decode cX1_allChances 15 = .ok (.iload_n 2, 1) := by decide +kernel
theorem dX1_allChances_16 : decode cX1_allChances 16 = .ok (.iaload, 1) := by decide +kernel
theorem dX1_allChances_17 : decode cX1_allChances 17 = .ok (.iadd, 1) := by decide +kernel
theorem dX1_allChances_18 : decode cX1_allChances 18 = .ok (.istore_n 1, 1) := by decide +kernel
theorem dX1_allChances_19 : decode cX1_allChances 19 = .ok (.iinc 2 1, 3) := by decide +kernel
theorem dX1_allChances_22 : decode cX1_allChances 22 = .ok (.goto (-18), 3) := by decide +kernel
theorem dX1_allChances_25 : decode cX1_allChances 25 = .ok (.iload_n 1, 1) := by decide +kernel
theorem dX1_allChances_26 : decode cX1_allChances 26 = .ok (.ireturn, 1) := by decide +kernel
theorem dX1_favour_0 : decode cX1_favour 0 = .ok (.iconst 0, 1) := by decide +kernel
theorem dX1_favour_1 : decode cX1_favour 1 = .ok (.istore_n 2, 1) := by decide +kernel
theorem dX1_favour_2 : decode cX1_favour 2 = .ok (.iconst 0, 1) := by decide +kernel
theorem dX1_favour_3 : decode cX1_favour 3 = .ok (.istore_n 3, 1) := by decide +kernel
theorem dX1_favour_4 : decode cX1_favour 4 = .ok (.iload_n 3, 1) := by decide +kernel
theorem dX1_favour_5 : decode cX1_favour 5 = .ok (.bipush 6, 2) := by decide +kernel
theorem dX1_favour_7 : decode cX1_favour 7 = .ok (.if_icmp .ge 30, 3) := by decide +kernel
theorem dX1_favour_10 : decode cX1_favour 10 = .ok (.iload_n 2, 1) := by decide +kernel
theorem dX1_favour_11 : decode cX1_favour 11 = .ok (.aload_n 0, 1) := by decide +kernel
theorem dX1_favour_12 : decode cX1_favour 12 = .ok (.getfield 27, 3) := by decide +kernel
theorem dX1_favour_15 : decode cX1_favour 15 = .ok (.iload_n 3, 1) := by decide +kernel
theorem dX1_favour_16 : decode cX1_favour 16 = .ok (.iaload, 1) := by decide +kernel
theorem dX1_favour_17 : decode cX1_favour 17 = .ok (.iconst 1, 1) := by decide +kernel
theorem dX1_favour_18 : decode cX1_favour 18 = .ok (.iload_n 1, 1) := by decide +kernel
theorem dX1_favour_19 : decode cX1_favour 19 = .ok (.aload_n 0, 1) := by decide +kernel
theorem dX1_favour_20 : decode cX1_favour 20 = .ok (.getfield 24, 3) := by decide +kernel
theorem dX1_favour_23 : decode cX1_favour 23 = .ok (.iload_n 3, 1) := by decide +kernel
theorem dX1_favour_24 : decode cX1_favour 24 = .ok (.iaload, 1) := by decide +kernel
theorem dX1_favour_25 : decode cX1_favour 25 = .ok (.invokestatic 80, 3) := by decide +kernel
theorem dX1_favour_28 : decode cX1_favour 28 = .ok (.imul, 1) := by decide +kernel
theorem dX1_favour_29 : decode cX1_favour 29 = .ok (.iadd, 1) := by decide +kernel
theorem dX1_favour_30 : decode cX1_favour 30 = .ok (.istore_n 2, 1) := by decide +kernel
theorem dX1_favour_31 : decode cX1_favour 31 = .ok (.iinc 3 1, 3) := by decide +kernel
theorem dX1_favour_34 : decode cX1_favour 34 = .ok (.goto (-30), 3) := by decide +kernel
theorem dX1_favour_37 : decode cX1_favour 37 = .ok (.iload_n 2, 1) := by decide +kernel
theorem dX1_favour_38 : decode cX1_favour 38 = .ok (.ireturn, 1) := by decide +kernel
theorem dX1_cutCost_0 : decode cX1_cutCost 0 = .ok (.aload_n 0, 1) := by decide +kernel
theorem dX1_cutCost_1 : decode cX1_cutCost 1 = .ok (.getfield 15, 3) := by decide +kernel
theorem dX1_cutCost_4 : decode cX1_cutCost 4 = .ok (.iload_n 1, 1) := by decide +kernel
theorem dX1_cutCost_5 : decode cX1_cutCost 5 = .ok (.iaload, 1) := by decide +kernel
theorem dX1_cutCost_6 : decode cX1_cutCost 6 = .ok (.aload_n 0, 1) := by decide +kernel
theorem dX1_cutCost_7 : decode cX1_cutCost 7 = .ok (.getfield 24, 3) := by decide +kernel
theorem dX1_cutCost_10 : decode cX1_cutCost 10 = .ok (.iload_n 2, 1) := by decide +kernel
theorem dX1_cutCost_11 : decode cX1_cutCost 11 = .ok (.iaload, 1) := by decide +kernel
theorem dX1_cutCost_12 : decode cX1_cutCost 12 = .ok (.invokestatic 138, 3) := by decide +kernel
theorem dX1_cutCost_15 : decode cX1_cutCost 15 = .ok (.aload_n 0, 1) := by decide +kernel
theorem dX1_cutCost_16 : decode cX1_cutCost 16 = .ok (.getfield 18, 3) := by decide +kernel
theorem dX1_cutCost_19 : decode cX1_cutCost 19 = .ok (.iload_n 1, 1) := by decide +kernel
theorem dX1_cutCost_20 : decode cX1_cutCost 20 = .ok (.iaload, 1) := by decide +kernel
theorem dX1_cutCost_21 : decode cX1_cutCost 21 = .ok (.imul, 1) := by decide +kernel
theorem dX1_cutCost_22 : decode cX1_cutCost 22 = .ok (.ireturn, 1) := by decide +kernel
theorem dX1_nearestMould_0 : decode cX1_nearestMould 0 = .ok (.iconst 0, 1) := by decide +kernel
theorem dX1_nearestMould_1 : decode cX1_nearestMould 1 = .ok (.istore_n 2, 1) := by decide +kernel
theorem dX1_nearestMould_2 : decode cX1_nearestMould 2 = .ok (.iconst 1, 1) := by decide +kernel
theorem dX1_nearestMould_3 : decode cX1_nearestMould 3 = .ok (.istore_n 3, 1) := by decide +kernel
theorem dX1_nearestMould_4 : decode cX1_nearestMould 4 = .ok (.iload_n 3, 1) := by decide +kernel
theorem dX1_nearestMould_5 : decode cX1_nearestMould 5 = .ok (.aload_n 0, 1) := by decide +kernel
theorem dX1_nearestMould_6 : decode cX1_nearestMould 6 = .ok (.getfield 61, 3) := by decide +kernel
theorem dX1_nearestMould_9 : decode cX1_nearestMould 9 = .ok (.if_icmp .ge 26, 3) := by decide +kernel
theorem dX1_nearestMould_12 : decode cX1_nearestMould 12 = .ok (.aload_n 0, 1) := by decide +kernel
theorem dX1_nearestMould_13 : decode cX1_nearestMould 13 = .ok (.iload_n 3, 1) := by decide +kernel
theorem dX1_nearestMould_14 : decode cX1_nearestMould 14 = .ok (.iload_n 1, 1) := by decide +kernel
theorem dX1_nearestMould_15 : decode cX1_nearestMould 15 = .ok (.invokevirtual 141, 3) := by decide +kernel
theorem dX1_nearestMould_18 : decode cX1_nearestMould 18 = .ok (.aload_n 0, 1) := by decide +kernel
theorem dX1_nearestMould_19 : decode cX1_nearestMould 19 = .ok (.iload_n 2, 1) := by decide +kernel
theorem dX1_nearestMould_20 : decode cX1_nearestMould 20 = .ok (.iload_n 1, 1) := by decide +kernel
theorem dX1_nearestMould_21 : decode cX1_nearestMould 21 = .ok (.invokevirtual 141, 3) := by decide +kernel
theorem dX1_nearestMould_24 : decode cX1_nearestMould 24 = .ok (.if_icmp .ge 5, 3) := by decide +kernel
theorem dX1_nearestMould_27 : decode cX1_nearestMould 27 = .ok (.iload_n 3, 1) := by decide +kernel
theorem dX1_nearestMould_28 : decode cX1_nearestMould 28 = .ok (.istore_n 2, 1) := by decide +kernel
theorem dX1_nearestMould_29 : decode cX1_nearestMould 29 = .ok (.iinc 3 1, 3) := by decide +kernel
theorem dX1_nearestMould_32 : decode cX1_nearestMould 32 = .ok (.goto (-28), 3) := by decide +kernel
theorem dX1_nearestMould_35 : decode cX1_nearestMould 35 = .ok (.iload_n 2, 1) := by decide +kernel
theorem dX1_nearestMould_36 : decode cX1_nearestMould 36 = .ok (.ireturn, 1) := by decide +kernel
theorem dX1_headsLike_0 : decode cX1_headsLike 0 = .ok (.iconst 0, 1) := by decide +kernel
theorem dX1_headsLike_1 : decode cX1_headsLike 1 = .ok (.istore_n 3, 1) := by decide +kernel
theorem dX1_headsLike_2 : decode cX1_headsLike 2 = .ok (.iconst 0, 1) := by decide +kernel
theorem dX1_headsLike_3 : decode cX1_headsLike 3 = .ok (.istore 4, 2) := by decide +kernel
theorem dX1_headsLike_5 : decode cX1_headsLike 5 = .ok (.iload 4, 2) := by decide +kernel
theorem dX1_headsLike_7 : decode cX1_headsLike 7 = .ok (.aload_n 0, 1) := by decide +kernel
theorem dX1_headsLike_8 : decode cX1_headsLike 8 = .ok (.getfield 61, 3) := by decide +kernel
theorem dX1_headsLike_11 : decode cX1_headsLike 11 = .ok (.if_icmp .ge 36, 3) := by decide +kernel
theorem dX1_headsLike_14 : decode cX1_headsLike 14 = .ok (.aload_n 0, 1) := by decide +kernel
theorem dX1_headsLike_15 : decode cX1_headsLike 15 = .ok (.iload 4, 2) := by decide +kernel
theorem dX1_headsLike_17 : decode cX1_headsLike 17 = .ok (.invokevirtual 144, 3) := by decide +kernel
theorem dX1_headsLike_20 : decode cX1_headsLike 20 = .ok (.ifCond .eq 21, 3) := by decide +kernel
theorem dX1_headsLike_23 : decode cX1_headsLike 23 = .ok (.aload_n 0, 1) := by decide +kernel
theorem dX1_headsLike_24 : decode cX1_headsLike 24 = .ok (.iload 4, 2) := by decide +kernel
theorem dX1_headsLike_26 : decode cX1_headsLike 26 = .ok (.iload_n 1, 1) := by decide +kernel
theorem dX1_headsLike_27 : decode cX1_headsLike 27 = .ok (.invokevirtual 97, 3) := by decide +kernel
theorem dX1_headsLike_30 : decode cX1_headsLike 30 = .ok (.iload_n 2, 1) := by decide +kernel
theorem dX1_headsLike_31 : decode cX1_headsLike 31 = .ok (.if_icmp .lt 10, 3) := by decide +kernel
theorem dX1_headsLike_34 : decode cX1_headsLike 34 = .ok (.iload_n 3, 1) := by decide +kernel
theorem dX1_headsLike_35 : decode cX1_headsLike 35 = .ok (.iconst 1, 1) := by decide +kernel
theorem dX1_headsLike_36 : decode cX1_headsLike 36 = .ok (.iload 4, 2) := by decide +kernel
theorem dX1_headsLike_38 : decode cX1_headsLike 38 = .ok (.ishl, 1) := by decide +kernel
theorem dX1_headsLike_39 : decode cX1_headsLike 39 = .ok (.ior, 1) := by decide +kernel
theorem dX1_headsLike_40 : decode cX1_headsLike 40 = .ok (.istore_n 3, 1) := by decide +kernel
theorem dX1_headsLike_41 : decode cX1_headsLike 41 = .ok (.iinc 4 1, 3) := by decide +kernel
theorem dX1_headsLike_44 : decode cX1_headsLike 44 = .ok (.goto (-39), 3) := by decide +kernel
theorem dX1_headsLike_47 : decode cX1_headsLike 47 = .ok (.iload_n 3, 1) := by decide +kernel
theorem dX1_headsLike_48 : decode cX1_headsLike 48 = .ok (.ireturn, 1) := by decide +kernel
theorem dX1_draw_0 : decode cX1_draw 0 = .ok (.aload_n 0, 1) := by decide +kernel
theorem dX1_draw_1 : decode cX1_draw 1 = .ok (.aload_n 0, 1) := by decide +kernel
theorem dX1_draw_2 : decode cX1_draw 2 = .ok (.getfield 46, 3) := by decide +kernel
theorem dX1_draw_5 : decode cX1_draw 5 = .ok (.ldc 147, 2) := by decide +kernel
theorem dX1_draw_7 : decode cX1_draw 7 = .ok (.imul, 1) := by decide +kernel
theorem dX1_draw_8 : decode cX1_draw 8 = .ok (.sipush 12345, 3) := by decide +kernel
theorem dX1_draw_11 : decode cX1_draw 11 = .ok (.iadd, 1) := by decide +kernel
theorem dX1_draw_12 : decode cX1_draw 12 = .ok (.putfield 46, 3) := by decide +kernel
theorem dX1_draw_15 : decode cX1_draw 15 = .ok (.aload_n 0, 1) := by decide +kernel
theorem dX1_draw_16 : decode cX1_draw 16 = .ok (.getfield 46, 3) := by decide +kernel
theorem dX1_draw_19 : decode cX1_draw 19 = .ok (.bipush 8, 2) := by decide +kernel
theorem dX1_draw_21 : decode cX1_draw 21 = .ok (.iushr, 1) := by decide +kernel
theorem dX1_draw_22 : decode cX1_draw 22 = .ok (.ireturn, 1) := by decide +kernel
theorem dX1_allWax_0 : decode cX1_allWax 0 = .ok (.iconst 0, 1) := by decide +kernel
theorem dX1_allWax_1 : decode cX1_allWax 1 = .ok (.istore_n 1, 1) := by decide +kernel
theorem dX1_allWax_2 : decode cX1_allWax 2 = .ok (.iconst 0, 1) := by decide +kernel
theorem dX1_allWax_3 : decode cX1_allWax 3 = .ok (.istore_n 2, 1) := by decide +kernel
theorem dX1_allWax_4 : decode cX1_allWax 4 = .ok (.iload_n 2, 1) := by decide +kernel
theorem dX1_allWax_5 : decode cX1_allWax 5 = .ok (.aload_n 0, 1) := by decide +kernel
theorem dX1_allWax_6 : decode cX1_allWax 6 = .ok (.getfield 61, 3) := by decide +kernel
theorem dX1_allWax_9 : decode cX1_allWax 9 = .ok (.if_icmp .ge 18, 3) := by decide +kernel
theorem dX1_allWax_12 : decode cX1_allWax 12 = .ok (.iload_n 1, 1) := by decide +kernel
theorem dX1_allWax_13 : decode cX1_allWax 13 = .ok (.aload_n 0, 1) := by decide +kernel
theorem dX1_allWax_14 : decode cX1_allWax 14 = .ok (.getfield 18, 3) := by decide +kernel
theorem dX1_allWax_17 : decode cX1_allWax 17 = .ok (.iload_n 2, 1) := by decide +kernel
theorem dX1_allWax_18 : decode cX1_allWax 18 = .ok (.iaload, 1) := by decide +kernel
theorem dX1_allWax_19 : decode cX1_allWax 19 = .ok (.iadd, 1) := by decide +kernel
theorem dX1_allWax_20 : decode cX1_allWax 20 = .ok (.istore_n 1, 1) := by decide +kernel
theorem dX1_allWax_21 : decode cX1_allWax 21 = .ok (.iinc 2 1, 3) := by decide +kernel
theorem dX1_allWax_24 : decode cX1_allWax 24 = .ok (.goto (-20), 3) := by decide +kernel
theorem dX1_allWax_27 : decode cX1_allWax 27 = .ok (.iload_n 1, 1) := by decide +kernel
theorem dX1_allWax_28 : decode cX1_allWax 28 = .ok (.ireturn, 1) := by decide +kernel
theorem dX1_spotsHeld_0 : decode cX1_spotsHeld 0 = .ok (.iconst 0, 1) := by decide +kernel
theorem dX1_spotsHeld_1 : decode cX1_spotsHeld 1 = .ok (.istore_n 1, 1) := by decide +kernel
theorem dX1_spotsHeld_2 : decode cX1_spotsHeld 2 = .ok (.iconst 0, 1) := by decide +kernel
theorem dX1_spotsHeld_3 : decode cX1_spotsHeld 3 = .ok (.istore_n 2, 1) := by decide +kernel
theorem dX1_spotsHeld_4 : decode cX1_spotsHeld 4 = .ok (.iload_n 2, 1) := by decide +kernel
theorem dX1_spotsHeld_5 : decode cX1_spotsHeld 5 = .ok (.bipush 10, 2) := by decide +kernel
theorem dX1_spotsHeld_7 : decode cX1_spotsHeld 7 = .ok (.if_icmp .ge 22, 3) := by decide +kernel
theorem dX1_spotsHeld_10 : decode cX1_spotsHeld 10 = .ok (.aload_n 0, 1) := by decide +kernel
theorem dX1_spotsHeld_11 : decode cX1_spotsHeld 11 = .ok (.getfield 39, 3) := by decide +kernel
theorem dX1_spotsHeld_14 : decode cX1_spotsHeld 14 = .ok (.iload_n 2, 1) := by decide +kernel
theorem dX1_spotsHeld_15 : decode cX1_spotsHeld 15 = .ok (.iaload, 1) := by decide +kernel
theorem dX1_spotsHeld_16 : decode cX1_spotsHeld 16 = .ok (.iconst (-1), 1) := by decide +kernel
theorem dX1_spotsHeld_17 : decode cX1_spotsHeld 17 = .ok (.if_icmp .eq 6, 3) := by decide +kernel
theorem dX1_spotsHeld_20 : decode cX1_spotsHeld 20 = .ok (.iinc 1 1, 3) := by decide +kernel
theorem dX1_spotsHeld_23 : decode cX1_spotsHeld 23 = .ok (.iinc 2 1, 3) := by decide +kernel
theorem dX1_spotsHeld_26 : decode cX1_spotsHeld 26 = .ok (.goto (-22), 3) := by decide +kernel
theorem dX1_spotsHeld_29 : decode cX1_spotsHeld 29 = .ok (.iload_n 1, 1) := by decide +kernel
theorem dX1_spotsHeld_30 : decode cX1_spotsHeld 30 = .ok (.ireturn, 1) := by decide +kernel
theorem dX2_isUnder_0 : decode cX2_isUnder 0 = .ok (.iload_n 0, 1) := by decide +kernel
theorem dX2_isUnder_1 : decode cX2_isUnder 1 = .ok (.istore_n 2, 1) := by decide +kernel
theorem dX2_isUnder_2 : decode cX2_isUnder 2 = .ok (.iconst 0, 1) := by decide +kernel
theorem dX2_isUnder_3 : decode cX2_isUnder 3 = .ok (.istore_n 3, 1) := by decide +kernel
theorem dX2_isUnder_4 : decode cX2_isUnder 4 = .ok (.iload_n 3, 1) := by decide +kernel
theorem dX2_isUnder_5 : decode cX2_isUnder 5 = .ok (.bipush 6, 2) := by decide +kernel
theorem dX2_isUnder_7 : decode cX2_isUnder 7 = .ok (.if_icmp .gt 34, 3) := by decide +kernel
theorem dX2_isUnder_10 : decode cX2_isUnder 10 = .ok (.iload_n 2, 1) := by decide +kernel
theorem dX2_isUnder_11 : decode cX2_isUnder 11 = .ok (.ifCond .lt 30, 3) := by decide +kernel
theorem dX2_isUnder_14 : decode cX2_isUnder 14 = .ok (.iload_n 2, 1) := by decide +kernel
theorem dX2_isUnder_15 : decode cX2_isUnder 15 = .ok (.getstatic 11, 3) := by decide +kernel
theorem dX2_isUnder_18 : decode cX2_isUnder 18 = .ok (.arraylength, 1) := by decide +kernel
theorem dX2_isUnder_19 : decode cX2_isUnder 19 = .ok (.if_icmp .ge 22, 3) := by decide +kernel
theorem dX2_isUnder_22 : decode cX2_isUnder 22 = .ok (.iload_n 2, 1) := by decide +kernel
theorem dX2_isUnder_23 : decode cX2_isUnder 23 = .ok (.iload_n 1, 1) := by decide +kernel
theorem dX2_isUnder_24 : decode cX2_isUnder 24 = .ok (.if_icmp .ne 5, 3) := by decide +kernel
theorem dX2_isUnder_27 : decode cX2_isUnder 27 = .ok (.iconst 1, 1) := by decide +kernel
theorem dX2_isUnder_28 : decode cX2_isUnder 28 = .ok (.ireturn, 1) := by decide +kernel
theorem dX2_isUnder_29 : decode cX2_isUnder 29 = .ok (.getstatic 11, 3) := by decide +kernel
theorem dX2_isUnder_32 : decode cX2_isUnder 32 = .ok (.iload_n 2, 1) := by decide +kernel
theorem dX2_isUnder_33 : decode cX2_isUnder 33 = .ok (.iaload, 1) := by decide +kernel
theorem dX2_isUnder_34 : decode cX2_isUnder 34 = .ok (.istore_n 2, 1) := by decide +kernel
theorem dX2_isUnder_35 : decode cX2_isUnder 35 = .ok (.iinc 3 1, 3) := by decide +kernel
theorem dX2_isUnder_38 : decode cX2_isUnder 38 = .ok (.goto (-34), 3) := by decide +kernel
theorem dX2_isUnder_41 : decode cX2_isUnder 41 = .ok (.iconst 0, 1) := by decide +kernel
theorem dX2_isUnder_42 : decode cX2_isUnder 42 = .ok (.ireturn, 1) := by decide +kernel
theorem dX2_unlike_0 : decode cX2_unlike 0 = .ok (.iload_n 0, 1) := by decide +kernel
theorem dX2_unlike_1 : decode cX2_unlike 1 = .ok (.iload_n 1, 1) := by decide +kernel
theorem dX2_unlike_2 : decode cX2_unlike 2 = .ok (.ixor, 1) := by decide +kernel
theorem dX2_unlike_3 : decode cX2_unlike 3 = .ok (.sipush 255, 3) := by decide +kernel
theorem dX2_unlike_6 : decode cX2_unlike 6 = .ok (.iand, 1) := by decide +kernel
theorem dX2_unlike_7 : decode cX2_unlike 7 = .ok (.invokestatic 15, 3) := by decide +kernel
theorem dX2_unlike_10 : decode cX2_unlike 10 = .ok (.ireturn, 1) := by decide +kernel
theorem dX2_likeness_0 : decode cX2_likeness 0 = .ok (.bipush 8, 2) := by decide +kernel
theorem dX2_likeness_2 : decode cX2_likeness 2 = .ok (.iload_n 1, 1) := by decide +kernel
theorem dX2_likeness_3 : decode cX2_likeness 3 = .ok (.iload_n 2, 1) := by decide +kernel
theorem dX2_likeness_4 : decode cX2_likeness 4 = .ok (.invokestatic 21, 3) := by decide +kernel
theorem dX2_likeness_7 : decode cX2_likeness 7 = .ok (.isub, 1) := by decide +kernel
theorem dX2_likeness_8 : decode cX2_likeness 8 = .ok (.istore_n 3, 1) := by decide +kernel
theorem dX2_likeness_9 : decode cX2_likeness 9 = .ok (.iload_n 0, 1) := by decide +kernel
theorem dX2_likeness_10 : decode cX2_likeness 10 = .ok (.tableswitch 89 1 6 #[38, 42, 48, 73, 77, 81], 38) := by decide +kernel
theorem dX2_likeness_48 : decode cX2_likeness 48 = .ok (.iconst 2, 1) := by decide +kernel
theorem dX2_likeness_49 : decode cX2_likeness 49 = .ok (.iload_n 3, 1) := by decide +kernel
theorem dX2_likeness_50 : decode cX2_likeness 50 = .ok (.imul, 1) := by decide +kernel
theorem dX2_likeness_51 : decode cX2_likeness 51 = .ok (.ireturn, 1) := by decide +kernel
theorem dX2_likeness_52 : decode cX2_likeness 52 = .ok (.iconst 2, 1) := by decide +kernel
theorem dX2_likeness_53 : decode cX2_likeness 53 = .ok (.iload_n 3, 1) := by decide +kernel
theorem dX2_likeness_54 : decode cX2_likeness 54 = .ok (.imul, 1) := by decide +kernel
theorem dX2_likeness_55 : decode cX2_likeness 55 = .ok (.iconst 2, 1) := by decide +kernel
theorem dX2_likeness_56 : decode cX2_likeness 56 = .ok (.iadd, 1) := by decide +kernel
theorem dX2_likeness_57 : decode cX2_likeness 57 = .ok (.ireturn, 1) := by decide +kernel
theorem dX2_likeness_58 : decode cX2_likeness 58 = .ok (.iconst 0, 1) := by decide +kernel
theorem dX2_likeness_59 : decode cX2_likeness 59 = .ok (.iconst 2, 1) := by decide +kernel
theorem dX2_likeness_60 : decode cX2_likeness 60 = .ok (.iload_n 3, 1) := by decide +kernel
theorem dX2_likeness_61 : decode cX2_likeness 61 = .ok (.imul, 1) := by decide +kernel
theorem dX2_likeness_62 : decode cX2_likeness 62 = .ok (.iconst 2, 1) := by decide +kernel
theorem dX2_likeness_63 : decode cX2_likeness 63 = .ok (.iadd, 1) := by decide +kernel
theorem dX2_likeness_64 : decode cX2_likeness 64 = .ok (.iload_n 2, 1) := by decide +kernel
theorem dX2_likeness_65 : decode cX2_likeness 65 = .ok (.sipush 128, 3) := by decide +kernel
theorem dX2_likeness_68 : decode cX2_likeness 68 = .ok (.iand, 1) := by decide +kernel
theorem dX2_likeness_69 : decode cX2_likeness 69 = .ok (.ifCond .eq 7, 3) := by decide +kernel
theorem dX2_likeness_72 : decode cX2_likeness 72 = .ok (.iconst 5, 1) := by decide +kernel
theorem dX2_likeness_73 : decode cX2_likeness 73 = .ok (.goto 5, 3) := by decide +kernel
theorem dX2_likeness_76 : decode cX2_likeness 76 = .ok (.bipush (-5), 2) := by decide +kernel
theorem dX2_likeness_78 : decode cX2_likeness 78 = .ok (.iadd, 1) := by decide +kernel
theorem dX2_likeness_79 : decode cX2_likeness 79 = .ok (.invokestatic 25, 3) := by decide +kernel
theorem dX2_likeness_82 : decode cX2_likeness 82 = .ok (.ireturn, 1) := by decide +kernel
theorem dX2_likeness_83 : decode cX2_likeness 83 = .ok (.iload_n 3, 1) := by decide +kernel
theorem dX2_likeness_84 : decode cX2_likeness 84 = .ok (.iconst 3, 1) := by decide +kernel
theorem dX2_likeness_85 : decode cX2_likeness 85 = .ok (.iadd, 1) := by decide +kernel
theorem dX2_likeness_86 : decode cX2_likeness 86 = .ok (.ireturn, 1) := by decide +kernel
theorem dX2_likeness_87 : decode cX2_likeness 87 = .ok (.iload_n 3, 1) := by decide +kernel
theorem dX2_likeness_88 : decode cX2_likeness 88 = .ok (.iconst 2, 1) := by decide +kernel
theorem dX2_likeness_89 : decode cX2_likeness 89 = .ok (.idiv, 1) := by decide +kernel
theorem dX2_likeness_90 : decode cX2_likeness 90 = .ok (.ireturn, 1) := by decide +kernel
theorem dX2_likeness_91 : decode cX2_likeness 91 = .ok (.iconst 3, 1) := by decide +kernel
theorem dX2_likeness_92 : decode cX2_likeness 92 = .ok (.iload_n 3, 1) := by decide +kernel
theorem dX2_likeness_93 : decode cX2_likeness 93 = .ok (.iconst 2, 1) := by decide +kernel
theorem dX2_likeness_94 : decode cX2_likeness 94 = .ok (.idiv, 1) := by decide +kernel
theorem dX2_likeness_95 : decode cX2_likeness 95 = .ok (.invokestatic 25, 3) := by decide +kernel
theorem dX2_likeness_98 : decode cX2_likeness 98 = .ok (.ireturn, 1) := by decide +kernel
theorem dX2_likeness_99 : decode cX2_likeness 99 = .ok (.iload_n 3, 1) := by decide +kernel
theorem dX2_likeness_100 : decode cX2_likeness 100 = .ok (.ireturn, 1) := by decide +kernel
theorem dX2_minutes_0 : decode cX2_minutes 0 = .ok (.iload_n 0, 1) := by decide +kernel
theorem dX2_minutes_1 : decode cX2_minutes 1 = .ok (.tableswitch 56 2 6 #[35, 39, 45, 54, 54], 35) := by decide +kernel
theorem dX2_minutes_36 : decode cX2_minutes 36 = .ok (.iload_n 1, 1) := by decide +kernel
theorem dX2_minutes_37 : decode cX2_minutes 37 = .ok (.iconst 3, 1) := by decide +kernel
theorem dX2_minutes_38 : decode cX2_minutes 38 = .ok (.iadd, 1) := by decide +kernel
theorem dX2_minutes_39 : decode cX2_minutes 39 = .ok (.ireturn, 1) := by decide +kernel
theorem dX2_minutes_40 : decode cX2_minutes 40 = .ok (.iconst 2, 1) := by decide +kernel
theorem dX2_minutes_41 : decode cX2_minutes 41 = .ok (.iload_n 1, 1) := by decide +kernel
theorem dX2_minutes_42 : decode cX2_minutes 42 = .ok (.iconst 3, 1) := by decide +kernel
theorem dX2_minutes_43 : decode cX2_minutes 43 = .ok (.iadd, 1) := by decide +kernel
theorem dX2_minutes_44 : decode cX2_minutes 44 = .ok (.imul, 1) := by decide +kernel
theorem dX2_minutes_45 : decode cX2_minutes 45 = .ok (.ireturn, 1) := by decide +kernel
theorem dX2_minutes_46 : decode cX2_minutes 46 = .ok (.iload_n 1, 1) := by decide +kernel
theorem dX2_minutes_47 : decode cX2_minutes 47 = .ok (.iconst 1, 1) := by decide +kernel
theorem dX2_minutes_48 : decode cX2_minutes 48 = .ok (.iadd, 1) := by decide +kernel
theorem dX2_minutes_49 : decode cX2_minutes 49 = .ok (.iload_n 2, 1) := by decide +kernel
theorem dX2_minutes_50 : decode cX2_minutes 50 = .ok (.bipush 10, 2) := by decide +kernel
theorem dX2_minutes_52 : decode cX2_minutes 52 = .ok (.idiv, 1) := by decide +kernel
theorem dX2_minutes_53 : decode cX2_minutes 53 = .ok (.iadd, 1) := by decide +kernel
theorem dX2_minutes_54 : decode cX2_minutes 54 = .ok (.ireturn, 1) := by decide +kernel
theorem dX2_minutes_55 : decode cX2_minutes 55 = .ok (.iconst 1, 1) := by decide +kernel
theorem dX2_minutes_56 : decode cX2_minutes 56 = .ok (.ireturn, 1) := by decide +kernel
theorem dX2_minutes_57 : decode cX2_minutes 57 = .ok (.iload_n 1, 1) := by decide +kernel
theorem dX2_minutes_58 : decode cX2_minutes 58 = .ok (.iconst 1, 1) := by decide +kernel
theorem dX2_minutes_59 : decode cX2_minutes 59 = .ok (.iadd, 1) := by decide +kernel
theorem dX2_minutes_60 : decode cX2_minutes 60 = .ok (.ireturn, 1) := by decide +kernel
theorem dX3_init_0 : decode cX3_init 0 = .ok (.aload_n 0, 1) := by decide +kernel
theorem dX3_init_1 : decode cX3_init 1 = .ok (.invokespecial 3, 3) := by decide +kernel
theorem dX3_init_4 : decode cX3_init 4 = .ok (.aload_n 0, 1) := by decide +kernel
theorem dX3_init_5 : decode cX3_init 5 = .ok (.bipush 121, 2) := by decide +kernel
theorem dX3_init_7 : decode cX3_init 7 = .ok (.newarray .int, 2) := by decide +kernel
theorem dX3_init_9 : decode cX3_init 9 = .ok (.putfield 9, 3) := by decide +kernel
theorem dX3_init_12 : decode cX3_init 12 = .ok (.aload_n 0, 1) := by decide +kernel
theorem dX3_init_13 : decode cX3_init 13 = .ok (.bipush 121, 2) := by decide +kernel
theorem dX3_init_15 : decode cX3_init 15 = .ok (.newarray .int, 2) := by decide +kernel
theorem dX3_init_17 : decode cX3_init 17 = .ok (.putfield 15, 3) := by decide +kernel
theorem dX3_init_20 : decode cX3_init 20 = .ok (.aload_n 0, 1) := by decide +kernel
theorem dX3_init_21 : decode cX3_init 21 = .ok (.bipush 121, 2) := by decide +kernel
theorem dX3_init_23 : decode cX3_init 23 = .ok (.newarray .int, 2) := by decide +kernel
theorem dX3_init_25 : decode cX3_init 25 = .ok (.putfield 18, 3) := by decide +kernel
theorem dX3_init_28 : decode cX3_init 28 = .ok (.aload_n 0, 1) := by decide +kernel
theorem dX3_init_29 : decode cX3_init 29 = .ok (.aload_n 1, 1) := by decide +kernel
theorem dX3_init_30 : decode cX3_init 30 = .ok (.putfield 21, 3) := by decide +kernel
theorem dX3_init_33 : decode cX3_init 33 = .ok (.aload_n 0, 1) := by decide +kernel
theorem dX3_init_34 : decode cX3_init 34 = .ok (.aload_n 2, 1) := by decide +kernel
theorem dX3_init_35 : decode cX3_init 35 = .ok (.putfield 25, 3) := by decide +kernel
theorem dX3_init_38 : decode cX3_init 38 = .ok (.return_, 1) := by decide +kernel
theorem dX3_read_0 : decode cX3_read 0 = .ok (.aload_n 0, 1) := by decide +kernel
theorem dX3_read_1 : decode cX3_read 1 = .ok (.invokevirtual 29, 3) := by decide +kernel
theorem dX3_read_4 : decode cX3_read 4 = .ok (.aload_n 0, 1) := by decide +kernel
theorem dX3_read_5 : decode cX3_read 5 = .ok (.iconst 0, 1) := by decide +kernel
theorem dX3_read_6 : decode cX3_read 6 = .ok (.putfield 32, 3) := by decide +kernel
theorem dX3_read_9 : decode cX3_read 9 = .ok (.iconst 0, 1) := by decide +kernel
theorem dX3_read_10 : decode cX3_read 10 = .ok (.istore_n 1, 1) := by decide +kernel
theorem dX3_read_11 : decode cX3_read 11 = .ok (.iload_n 1, 1) := by decide +kernel
theorem dX3_read_12 : decode cX3_read 12 = .ok (.bipush 120, 2) := by decide +kernel
theorem dX3_read_14 : decode cX3_read 14 = .ok (.if_icmp .ge 65, 3) := by decide +kernel
theorem dX3_read_17 : decode cX3_read 17 = .ok (.aload_n 0, 1) := by decide +kernel
theorem dX3_read_18 : decode cX3_read 18 = .ok (.invokevirtual 36, 3) := by decide +kernel
theorem dX3_read_21 : decode cX3_read 21 = .ok (.ifCond .eq 58, 3) := by decide +kernel
theorem dX3_read_24 : decode cX3_read 24 = .ok (.iinc 1 1, 3) := by decide +kernel
theorem dX3_read_27 : decode cX3_read 27 = .ok (.aload_n 0, 1) := by decide +kernel
theorem dX3_read_28 : decode cX3_read 28 = .ok (.getfield 9, 3) := by decide +kernel
theorem dX3_read_31 : decode cX3_read 31 = .ok (.aload_n 0, 1) := by decide +kernel
theorem dX3_read_32 : decode cX3_read 32 = .ok (.getfield 32, 3) := by decide +kernel
theorem dX3_read_35 : decode cX3_read 35 = .ok (.iaload, 1) := by decide +kernel
theorem dX3_read_36 : decode cX3_read 36 = .ok (.ifCond .ne 5, 3) := by decide +kernel
theorem dX3_read_39 : decode cX3_read 39 = .ok (.iload_n 1, 1) := by decide +kernel
theorem dX3_read_40 : decode cX3_read 40 = .ok (.ireturn, 1) := by decide +kernel
theorem dX3_read_41 : decode cX3_read 41 = .ok (.aload_n 0, 1) := by decide +kernel
theorem dX3_read_42 : decode cX3_read 42 = .ok (.getfield 9, 3) := by decide +kernel
theorem dX3_read_45 : decode cX3_read 45 = .ok (.aload_n 0, 1) := by decide +kernel
theorem dX3_read_46 : decode cX3_read 46 = .ok (.getfield 32, 3) := by decide +kernel
theorem dX3_read_49 : decode cX3_read 49 = .ok (.iaload, 1) := by decide +kernel
theorem dX3_read_50 : decode cX3_read 50 = .ok (.iconst 3, 1) := by decide +kernel
theorem dX3_read_51 : decode cX3_read 51 = .ok (.if_icmp .eq 15, 3) := by decide +kernel
theorem dX3_read_54 : decode cX3_read 54 = .ok (.iconst (-1), 1) := by decide +kernel
theorem dX3_read_55 : decode cX3_read 55 = .ok (.aload_n 0, 1) := by decide +kernel
theorem dX3_read_56 : decode cX3_read 56 = .ok (.getfield 15, 3) := by decide +kernel
theorem dX3_read_59 : decode cX3_read 59 = .ok (.aload_n 0, 1) := by decide +kernel
theorem dX3_read_60 : decode cX3_read 60 = .ok (.getfield 32, 3) := by decide +kernel
theorem dX3_read_63 : decode cX3_read 63 = .ok (.iaload, 1) := by decide +kernel
theorem dX3_read_64 : decode cX3_read 64 = .ok (.isub, 1) := by decide +kernel
theorem dX3_read_65 : decode cX3_read 65 = .ok (.ireturn, 1) := by decide +kernel
theorem dX3_read_66 : decode cX3_read 66 = .ok (.aload_n 0, 1) := by decide +kernel
theorem dX3_read_67 : decode cX3_read 67 = .ok (.dup, 1) := by decide +kernel
theorem dX3_read_68 : decode cX3_read 68 = .ok (.getfield 32, 3) := by decide +kernel
theorem dX3_read_71 : decode cX3_read 71 = .ok (.iconst 1, 1) := by decide +kernel
theorem dX3_read_72 : decode cX3_read 72 = .ok (.iadd, 1) := by decide +kernel
theorem dX3_read_73 : decode cX3_read 73 = .ok (.putfield 32, 3) := by decide +kernel
theorem dX3_read_76 : decode cX3_read 76 = .ok (.goto (-65), 3) := by decide +kernel
theorem dX3_read_79 : decode cX3_read 79 = .ok (.iconst (-1), 1) := by decide +kernel
theorem dX3_read_80 : decode cX3_read 80 = .ok (.aload_n 0, 1) := by decide +kernel
theorem dX3_read_81 : decode cX3_read 81 = .ok (.getfield 15, 3) := by decide +kernel
theorem dX3_read_84 : decode cX3_read 84 = .ok (.aload_n 0, 1) := by decide +kernel
theorem dX3_read_85 : decode cX3_read 85 = .ok (.getfield 32, 3) := by decide +kernel
theorem dX3_read_88 : decode cX3_read 88 = .ok (.iaload, 1) := by decide +kernel
theorem dX3_read_89 : decode cX3_read 89 = .ok (.isub, 1) := by decide +kernel
theorem dX3_read_90 : decode cX3_read 90 = .ok (.ireturn, 1) := by decide +kernel
theorem dX3_cut_0 : decode cX3_cut 0 = .ok (.aload_n 0, 1) := by decide +kernel
theorem dX3_cut_1 : decode cX3_cut 1 = .ok (.iconst 0, 1) := by decide +kernel
theorem dX3_cut_2 : decode cX3_cut 2 = .ok (.putfield 40, 3) := by decide +kernel
theorem dX3_cut_5 : decode cX3_cut 5 = .ok (.iconst 4, 1) := by decide +kernel
theorem dX3_cut_6 : decode cX3_cut 6 = .ok (.istore_n 1, 1) := by decide +kernel
theorem dX3_cut_7 : decode cX3_cut 7 = .ok (.iconst 0, 1) := by decide +kernel
theorem dX3_cut_8 : decode cX3_cut 8 = .ok (.istore_n 2, 1) := by decide +kernel
theorem dX3_cut_9 : decode cX3_cut 9 = .ok (.iload_n 2, 1) := by decide +kernel
theorem dX3_cut_10 : decode cX3_cut 10 = .ok (.aload_n 0, 1) := by decide +kernel
theorem dX3_cut_11 : decode cX3_cut 11 = .ok (.getfield 21, 3) := by decide +kernel
theorem dX3_cut_14 : decode cX3_cut 14 = .ok (.getfield 43, 3) := by decide +kernel
theorem dX3_cut_17 : decode cX3_cut 17 = .ok (.if_icmp .ge 86, 3) := by decide +kernel
theorem dX3_cut_20 : decode cX3_cut 20 = .ok (.aload_n 0, 1) := by decide +kernel
theorem dX3_cut_21 : decode cX3_cut 21 = .ok (.getfield 21, 3) := by decide +kernel
theorem dX3_cut_24 : decode cX3_cut 24 = .ok (.getfield 48, 3) := by decide +kernel
theorem dX3_cut_27 : decode cX3_cut 27 = .ok (.iload_n 2, 1) := by decide +kernel
theorem dX3_cut_28 : decode cX3_cut 28 = .ok (.baload, 1) := by decide +kernel
theorem dX3_cut_29 : decode cX3_cut 29 = .ok (.invokestatic 52, 3) := by decide +kernel
theorem dX3_cut_32 : decode cX3_cut 32 = .ok (.istore_n 3, 1) := by decide +kernel
theorem dX3_cut_33 : decode cX3_cut 33 = .ok (.iload_n 3, 1) := by decide +kernel
theorem dX3_cut_34 : decode cX3_cut 34 = .ok (.iload_n 1, 1) := by decide +kernel
theorem dX3_cut_35 : decode cX3_cut 35 = .ok (.if_icmp .ne 17, 3) := by decide +kernel
theorem dX3_cut_38 : decode cX3_cut 38 = .ok (.iload_n 3, 1) := by decide +kernel
theorem dX3_cut_39 : decode cX3_cut 39 = .ok (.iconst 1, 1) := by decide +kernel
theorem dX3_cut_40 : decode cX3_cut 40 = .ok (.if_icmp .eq 8, 3) := by decide +kernel
theorem dX3_cut_43 : decode cX3_cut 43 = .ok (.iload_n 3, 1) := by decide +kernel
theorem dX3_cut_44 : decode cX3_cut 44 = .ok (.iconst 2, 1) := by decide +kernel
theorem dX3_cut_45 : decode cX3_cut 45 = .ok (.if_icmp .ne 7, 3) := by decide +kernel
theorem dX3_cut_48 : decode cX3_cut 48 = .ok (.iconst 1, 1) := by decide +kernel
theorem dX3_cut_49 : decode cX3_cut 49 = .ok (.goto 4, 3) := by decide +kernel
theorem dX3_cut_52 : decode cX3_cut 52 = .ok (.iconst 0, 1) := by decide +kernel
theorem dX3_cut_53 : decode cX3_cut 53 = .ok (.istore 4, 2) := by decide +kernel
theorem dX3_cut_55 : decode cX3_cut 55 = .ok (.iload 4, 2) := by decide +kernel
theorem dX3_cut_57 : decode cX3_cut 57 = .ok (.ifCond .ne 14, 3) := by decide +kernel
theorem dX3_cut_60 : decode cX3_cut 60 = .ok (.iload_n 3, 1) := by decide +kernel
theorem dX3_cut_61 : decode cX3_cut 61 = .ok (.iconst 4, 1) := by decide +kernel
theorem dX3_cut_62 : decode cX3_cut 62 = .ok (.if_icmp .eq 9, 3) := by decide +kernel
theorem dX3_cut_65 : decode cX3_cut 65 = .ok (.aload_n 0, 1) := by decide +kernel
theorem dX3_cut_66 : decode cX3_cut 66 = .ok (.iload_n 3, 1) := by decide +kernel
theorem dX3_cut_67 : decode cX3_cut 67 = .ok (.iload_n 2, 1) := by decide +kernel
theorem dX3_cut_68 : decode cX3_cut 68 = .ok (.invokevirtual 56, 3) := by decide +kernel
theorem dX3_cut_71 : decode cX3_cut 71 = .ok (.iload_n 3, 1) := by decide +kernel
theorem dX3_cut_72 : decode cX3_cut 72 = .ok (.iconst 4, 1) := by decide +kernel
theorem dX3_cut_73 : decode cX3_cut 73 = .ok (.if_icmp .eq 22, 3) := by decide +kernel
theorem dX3_cut_76 : decode cX3_cut 76 = .ok (.aload_n 0, 1) := by decide +kernel
theorem dX3_cut_77 : decode cX3_cut 77 = .ok (.aload_n 0, 1) := by decide +kernel
theorem dX3_cut_78 : decode cX3_cut 78 = .ok (.getfield 40, 3) := by decide +kernel
theorem dX3_cut_81 : decode cX3_cut 81 = .ok (.iconst 1, 1) := by decide +kernel
theorem dX3_cut_82 : decode cX3_cut 82 = .ok (.isub, 1) := by decide +kernel
theorem dX3_cut_83 : decode cX3_cut 83 = .ok (.aload_n 0, 1) := by decide +kernel
theorem dX3_cut_84 : decode cX3_cut 84 = .ok (.getfield 21, 3) := by decide +kernel
theorem dX3_cut_87 : decode cX3_cut 87 = .ok (.getfield 48, 3) := by decide +kernel
theorem dX3_cut_90 : decode cX3_cut 90 = .ok (.iload_n 2, 1) := by decide +kernel
theorem dX3_cut_91 : decode cX3_cut 91 = .ok (.baload, 1) := by decide +kernel
theorem dX3_cut_92 : decode cX3_cut 92 = .ok (.invokevirtual 60, 3) := by decide +kernel
theorem dX3_cut_95 : decode cX3_cut 95 = .ok (.iload_n 3, 1) := by decide +kernel
theorem dX3_cut_96 : decode cX3_cut 96 = .ok (.istore_n 1, 1) := by decide +kernel
theorem dX3_cut_97 : decode cX3_cut 97 = .ok (.iinc 2 1, 3) := by decide +kernel
theorem dX3_cut_100 : decode cX3_cut 100 = .ok (.goto (-91), 3) := by decide +kernel
theorem dX3_cut_103 : decode cX3_cut 103 = .ok (.aload_n 0, 1) := by decide +kernel
theorem dX3_cut_104 : decode cX3_cut 104 = .ok (.iconst 0, 1) := by decide +kernel
theorem dX3_cut_105 : decode cX3_cut 105 = .ok (.aload_n 0, 1) := by decide +kernel
theorem dX3_cut_106 : decode cX3_cut 106 = .ok (.getfield 21, 3) := by decide +kernel
theorem dX3_cut_109 : decode cX3_cut 109 = .ok (.getfield 43, 3) := by decide +kernel
theorem dX3_cut_112 : decode cX3_cut 112 = .ok (.invokevirtual 56, 3) := by decide +kernel
theorem dX3_cut_115 : decode cX3_cut 115 = .ok (.return_, 1) := by decide +kernel
theorem dX3_sortOf_0 : decode cX3_sortOf 0 = .ok (.iload_n 0, 1) := by decide +kernel
theorem dX3_sortOf_1 : decode cX3_sortOf 1 = .ok (.bipush 97, 2) := by decide +kernel
theorem dX3_sortOf_3 : decode cX3_sortOf 3 = .ok (.if_icmp .lt 11, 3) := by decide +kernel
theorem dX3_sortOf_6 : decode cX3_sortOf 6 = .ok (.iload_n 0, 1) := by decide +kernel
theorem dX3_sortOf_7 : decode cX3_sortOf 7 = .ok (.bipush 122, 2) := by decide +kernel
theorem dX3_sortOf_9 : decode cX3_sortOf 9 = .ok (.if_icmp .gt 5, 3) := by decide +kernel
theorem dX3_sortOf_12 : decode cX3_sortOf 12 = .ok (.iconst 1, 1) := by decide +kernel
theorem dX3_sortOf_13 : decode cX3_sortOf 13 = .ok (.ireturn, 1) := by decide +kernel
theorem dX3_sortOf_14 : decode cX3_sortOf 14 = .ok (.iload_n 0, 1) := by decide +kernel
theorem dX3_sortOf_15 : decode cX3_sortOf 15 = .ok (.bipush 48, 2) := by decide +kernel
theorem dX3_sortOf_17 : decode cX3_sortOf 17 = .ok (.if_icmp .lt 11, 3) := by decide +kernel
theorem dX3_sortOf_20 : decode cX3_sortOf 20 = .ok (.iload_n 0, 1) := by decide +kernel
theorem dX3_sortOf_21 : decode cX3_sortOf 21 = .ok (.bipush 57, 2) := by decide +kernel
theorem dX3_sortOf_23 : decode cX3_sortOf 23 = .ok (.if_icmp .gt 5, 3) := by decide +kernel
theorem dX3_sortOf_26 : decode cX3_sortOf 26 = .ok (.iconst 2, 1) := by decide +kernel
theorem dX3_sortOf_27 : decode cX3_sortOf 27 = .ok (.ireturn, 1) := by decide +kernel
theorem dX3_sortOf_28 : decode cX3_sortOf 28 = .ok (.iload_n 0, 1) := by decide +kernel
theorem dX3_sortOf_29 : decode cX3_sortOf 29 = .ok (.bipush 59, 2) := by decide +kernel
theorem dX3_sortOf_31 : decode cX3_sortOf 31 = .ok (.if_icmp .ne 7, 3) := by decide +kernel
theorem dX3_sortOf_34 : decode cX3_sortOf 34 = .ok (.iconst 3, 1) := by decide +kernel
theorem dX3_sortOf_35 : decode cX3_sortOf 35 = .ok (.goto 14, 3) := by decide +kernel
theorem dX3_sortOf_38 : decode cX3_sortOf 38 = .ok (.iload_n 0, 1) := by decide +kernel
theorem dX3_sortOf_39 : decode cX3_sortOf 39 = .ok (.bipush 32, 2) := by decide +kernel
theorem dX3_sortOf_41 : decode cX3_sortOf 41 = .ok (.if_icmp .ne 7, 3) := by decide +kernel
theorem dX3_sortOf_44 : decode cX3_sortOf 44 = .ok (.iconst 4, 1) := by decide +kernel
theorem dX3_sortOf_45 : decode cX3_sortOf 45 = .ok (.goto 4, 3) := by decide +kernel
theorem dX3_sortOf_48 : decode cX3_sortOf 48 = .ok (.iconst 5, 1) := by decide +kernel
theorem dX3_sortOf_49 : decode cX3_sortOf 49 = .ok (.ireturn, 1) := by decide +kernel
theorem dX3_begin_0 : decode cX3_begin 0 = .ok (.aload_n 0, 1) := by decide +kernel
theorem dX3_begin_1 : decode cX3_begin 1 = .ok (.getfield 40, 3) := by decide +kernel
theorem dX3_begin_4 : decode cX3_begin 4 = .ok (.aload_n 0, 1) := by decide +kernel
theorem dX3_begin_5 : decode cX3_begin 5 = .ok (.getfield 9, 3) := by decide +kernel
theorem dX3_begin_8 : decode cX3_begin 8 = .ok (.arraylength, 1) := by decide +kernel
theorem dX3_begin_9 : decode cX3_begin 9 = .ok (.if_icmp .ge 43, 3) := by decide +kernel
theorem dX3_begin_12 : decode cX3_begin 12 = .ok (.aload_n 0, 1) := by decide +kernel
theorem dX3_begin_13 : decode cX3_begin 13 = .ok (.getfield 9, 3) := by decide +kernel
theorem dX3_begin_16 : decode cX3_begin 16 = .ok (.aload_n 0, 1) := by decide +kernel
theorem dX3_begin_17 : decode cX3_begin 17 = .ok (.getfield 40, 3) := by decide +kernel
theorem dX3_begin_20 : decode cX3_begin 20 = .ok (.iload_n 1, 1) := by decide +kernel
theorem dX3_begin_21 : decode cX3_begin 21 = .ok (.iastore, 1) := by decide +kernel
theorem dX3_begin_22 : decode cX3_begin 22 = .ok (.aload_n 0, 1) := by decide +kernel
theorem dX3_begin_23 : decode cX3_begin 23 = .ok (.getfield 15, 3) := by decide +kernel
theorem dX3_begin_26 : decode cX3_begin 26 = .ok (.aload_n 0, 1) := by decide +kernel
theorem dX3_begin_27 : decode cX3_begin 27 = .ok (.getfield 40, 3) := by decide +kernel
theorem dX3_begin_30 : decode cX3_begin 30 = .ok (.iload_n 2, 1) := by decide +kernel
theorem dX3_begin_31 : decode cX3_begin 31 = .ok (.iastore, 1) := by decide +kernel
theorem dX3_begin_32 : decode cX3_begin 32 = .ok (.aload_n 0, 1) := by decide +kernel
theorem dX3_begin_33 : decode cX3_begin 33 = .ok (.getfield 18, 3) := by decide +kernel
theorem dX3_begin_36 : decode cX3_begin 36 = .ok (.aload_n 0, 1) := by decide +kernel
theorem dX3_begin_37 : decode cX3_begin 37 = .ok (.getfield 40, 3) := by decide +kernel
theorem dX3_begin_40 : decode cX3_begin 40 = .ok (.iconst 0, 1) := by decide +kernel
theorem dX3_begin_41 : decode cX3_begin 41 = .ok (.iastore, 1) := by decide +kernel
theorem dX3_begin_42 : decode cX3_begin 42 = .ok (.aload_n 0, 1) := by decide +kernel
theorem dX3_begin_43 : decode cX3_begin 43 = .ok (.dup, 1) := by decide +kernel
theorem dX3_begin_44 : decode cX3_begin 44 = .ok (.getfield 40, 3) := by decide +kernel
theorem dX3_begin_47 : decode cX3_begin 47 = .ok (.iconst 1, 1) := by decide +kernel
theorem dX3_begin_48 : decode cX3_begin 48 = .ok (.iadd, 1) := by decide +kernel
theorem dX3_begin_49 : decode cX3_begin 49 = .ok (.putfield 40, 3) := by decide +kernel
theorem dX3_begin_52 : decode cX3_begin 52 = .ok (.return_, 1) := by decide +kernel
theorem dX3_lengthen_0 : decode cX3_lengthen 0 = .ok (.iload_n 1, 1) := by decide +kernel
theorem dX3_lengthen_1 : decode cX3_lengthen 1 = .ok (.ifCond .lt 42, 3) := by decide +kernel
theorem dX3_lengthen_4 : decode cX3_lengthen 4 = .ok (.aload_n 0, 1) := by decide +kernel
theorem dX3_lengthen_5 : decode cX3_lengthen 5 = .ok (.getfield 9, 3) := by decide +kernel
theorem dX3_lengthen_8 : decode cX3_lengthen 8 = .ok (.iload_n 1, 1) := by decide +kernel
theorem dX3_lengthen_9 : decode cX3_lengthen 9 = .ok (.iaload, 1) := by decide +kernel
theorem dX3_lengthen_10 : decode cX3_lengthen 10 = .ok (.iconst 2, 1) := by decide +kernel
theorem dX3_lengthen_11 : decode cX3_lengthen 11 = .ok (.if_icmp .ne 32, 3) := by decide +kernel
theorem dX3_lengthen_14 : decode cX3_lengthen 14 = .ok (.aload_n 0, 1) := by decide +kernel
theorem dX3_lengthen_15 : decode cX3_lengthen 15 = .ok (.getfield 18, 3) := by decide +kernel
theorem dX3_lengthen_18 : decode cX3_lengthen 18 = .ok (.iload_n 1, 1) := by decide +kernel
theorem dX3_lengthen_19 : decode cX3_lengthen 19 = .ok (.sipush 1000, 3) := by decide +kernel
theorem dX3_lengthen_22 : decode cX3_lengthen 22 = .ok (.aload_n 0, 1) := by decide +kernel
theorem dX3_lengthen_23 : decode cX3_lengthen 23 = .ok (.getfield 18, 3) := by decide +kernel
theorem dX3_lengthen_26 : decode cX3_lengthen 26 = .ok (.iload_n 1, 1) := by decide +kernel
theorem dX3_lengthen_27 : decode cX3_lengthen 27 = .ok (.iaload, 1) := by decide +kernel
theorem dX3_lengthen_28 : decode cX3_lengthen 28 = .ok (.bipush 10, 2) := by decide +kernel
theorem dX3_lengthen_30 : decode cX3_lengthen 30 = .ok (.imul, 1) := by decide +kernel
theorem dX3_lengthen_31 : decode cX3_lengthen 31 = .ok (.iload_n 2, 1) := by decide +kernel
theorem dX3_lengthen_32 : decode cX3_lengthen 32 = .ok (.iadd, 1) := by decide +kernel
theorem dX3_lengthen_33 : decode cX3_lengthen 33 = .ok (.bipush 48, 2) := by decide +kernel
theorem dX3_lengthen_35 : decode cX3_lengthen 35 = .ok (.isub, 1) := by decide +kernel
theorem dX3_lengthen_36 : decode cX3_lengthen 36 = .ok (.invokestatic 63, 3) := by decide +kernel
theorem dX3_lengthen_39 : decode cX3_lengthen 39 = .ok (.iastore, 1) := by decide +kernel
theorem dX3_lengthen_40 : decode cX3_lengthen 40 = .ok (.goto 17, 3) := by decide +kernel
theorem dX3_lengthen_43 : decode cX3_lengthen 43 = .ok (.iload_n 1, 1) := by decide +kernel
theorem dX3_lengthen_44 : decode cX3_lengthen 44 = .ok (.ifCond .lt 13, 3) := by decide +kernel
theorem dX3_lengthen_47 : decode cX3_lengthen 47 = .ok (.aload_n 0, 1) := by decide +kernel
theorem dX3_lengthen_48 : decode cX3_lengthen 48 = .ok (.getfield 18, 3) := by decide +kernel
theorem dX3_lengthen_51 : decode cX3_lengthen 51 = .ok (.iload_n 1, 1) := by decide +kernel
theorem dX3_lengthen_52 : decode cX3_lengthen 52 = .ok (.dup2, 1) := by decide +kernel
theorem dX3_lengthen_53 : decode cX3_lengthen 53 = .ok (.iaload, 1) := by decide +kernel
theorem dX3_lengthen_54 : decode cX3_lengthen 54 = .ok (.iconst 1, 1) := by decide +kernel
theorem dX3_lengthen_55 : decode cX3_lengthen 55 = .ok (.iadd, 1) := by decide +kernel
theorem dX3_lengthen_56 : decode cX3_lengthen 56 = .ok (.iastore, 1) := by decide +kernel
theorem dX3_lengthen_57 : decode cX3_lengthen 57 = .ok (.return_, 1) := by decide +kernel
theorem dX3_readItem_0 : decode cX3_readItem 0 = .ok (.iconst 0, 1) := by decide +kernel
theorem dX3_readItem_1 : decode cX3_readItem 1 = .ok (.istore_n 1, 1) := by decide +kernel
theorem dX3_readItem_2 : decode cX3_readItem 2 = .ok (.iload_n 1, 1) := by decide +kernel
theorem dX3_readItem_3 : decode cX3_readItem 3 = .ok (.bipush 6, 2) := by decide +kernel
theorem dX3_readItem_5 : decode cX3_readItem 5 = .ok (.if_icmp .gt 38, 3) := by decide +kernel
theorem dX3_readItem_8 : decode cX3_readItem 8 = .ok (.aload_n 0, 1) := by decide +kernel
theorem dX3_readItem_9 : decode cX3_readItem 9 = .ok (.getfield 25, 3) := by decide +kernel
theorem dX3_readItem_12 : decode cX3_readItem 12 = .ok (.getfield 71, 3) := by decide +kernel
theorem dX3_readItem_15 : decode cX3_readItem 15 = .ok (.bipush 10, 2) := by decide +kernel
theorem dX3_readItem_17 : decode cX3_readItem 17 = .ok (.if_icmp .ge 26, 3) := by decide +kernel
theorem dX3_readItem_20 : decode cX3_readItem 20 = .ok (.aload_n 0, 1) := by decide +kernel
theorem dX3_readItem_21 : decode cX3_readItem 21 = .ok (.iload_n 1, 1) := by decide +kernel
theorem dX3_readItem_22 : decode cX3_readItem 22 = .ok (.invokestatic 76, 3) := by decide +kernel
theorem dX3_readItem_25 : decode cX3_readItem 25 = .ok (.invokevirtual 80, 3) := by decide +kernel
theorem dX3_readItem_28 : decode cX3_readItem 28 = .ok (.ifCond .eq 9, 3) := by decide +kernel
theorem dX3_readItem_31 : decode cX3_readItem 31 = .ok (.aload_n 0, 1) := by decide +kernel
theorem dX3_readItem_32 : decode cX3_readItem 32 = .ok (.iload_n 1, 1) := by decide +kernel
theorem dX3_readItem_33 : decode cX3_readItem 33 = .ok (.invokevirtual 84, 3) := by decide +kernel
theorem dX3_readItem_36 : decode cX3_readItem 36 = .ok (.ireturn, 1) := by decide +kernel
theorem dX3_readItem_37 : decode cX3_readItem 37 = .ok (.iinc 1 1, 3) := by decide +kernel
theorem dX3_readItem_40 : decode cX3_readItem 40 = .ok (.goto (-38), 3) := by decide +kernel
theorem dX3_readItem_43 : decode cX3_readItem 43 = .ok (.aload_n 0, 1) := by decide +kernel
theorem dX3_readItem_44 : decode cX3_readItem 44 = .ok (.ldc 88, 2) := by decide +kernel
theorem dX3_readItem_46 : decode cX3_readItem 46 = .ok (.invokevirtual 80, 3) := by decide +kernel
theorem dX3_readItem_49 : decode cX3_readItem 49 = .ok (.ifCond .eq 8, 3) := by decide +kernel
theorem dX3_readItem_52 : decode cX3_readItem 52 = .ok (.aload_n 0, 1) := by decide +kernel
theorem dX3_readItem_53 : decode cX3_readItem 53 = .ok (.invokevirtual 90, 3) := by decide +kernel
theorem dX3_readItem_56 : decode cX3_readItem 56 = .ok (.ireturn, 1) := by decide +kernel
theorem dX3_readItem_57 : decode cX3_readItem 57 = .ok (.aload_n 0, 1) := by decide +kernel
theorem dX3_readItem_58 : decode cX3_readItem 58 = .ok (.ldc 93, 2) := by decide +kernel
theorem dX3_readItem_60 : decode cX3_readItem 60 = .ok (.invokevirtual 80, 3) := by decide +kernel
theorem dX3_readItem_63 : decode cX3_readItem 63 = .ok (.ifCond .eq 8, 3) := by decide +kernel
theorem dX3_readItem_66 : decode cX3_readItem 66 = .ok (.aload_n 0, 1) := by decide +kernel
theorem dX3_readItem_67 : decode cX3_readItem 67 = .ok (.invokevirtual 95, 3) := by decide +kernel
theorem dX3_readItem_70 : decode cX3_readItem 70 = .ok (.ireturn, 1) := by decide +kernel
theorem dX3_readItem_71 : decode cX3_readItem 71 = .ok (.aload_n 0, 1) := by decide +kernel
theorem dX3_readItem_72 : decode cX3_readItem 72 = .ok (.ldc 98, 2) := by decide +kernel
theorem dX3_readItem_74 : decode cX3_readItem 74 = .ok (.invokevirtual 80, 3) := by decide +kernel
theorem dX3_readItem_77 : decode cX3_readItem 77 = .ok (.ifCond .eq 14, 3) := by decide +kernel
theorem dX3_readItem_80 : decode cX3_readItem 80 = .ok (.aload_n 0, 1) := by decide +kernel
theorem dX3_readItem_81 : decode cX3_readItem 81 = .ok (.invokevirtual 100, 3) := by decide +kernel
theorem dX3_readItem_84 : decode cX3_readItem 84 = .ok (.ifCond .eq 7, 3) := by decide +kernel
theorem dX3_readItem_87 : decode cX3_readItem 87 = .ok (.iconst 1, 1) := by decide +kernel
theorem dX3_readItem_88 : decode cX3_readItem 88 = .ok (.goto 4, 3) := by decide +kernel
theorem dX3_readItem_91 : decode cX3_readItem 91 = .ok (.iconst 0, 1) := by decide +kernel
theorem dX3_readItem_92 : decode cX3_readItem 92 = .ok (.ireturn, 1) := by decide +kernel
theorem dX3_wordOf_0 : decode cX3_wordOf 0 = .ok (.iload_n 0, 1) := by decide +kernel
theorem dX3_wordOf_1 : decode cX3_wordOf 1 = .ok (.tableswitch 57 1 6 #[39, 42, 45, 48, 51, 54], 39) := by decide +kernel
theorem dX3_wordOf_40 : decode cX3_wordOf 40 = .ok (.ldc 103, 2) := by decide +kernel
theorem dX3_wordOf_42 : decode cX3_wordOf 42 = .ok (.areturn, 1) := by decide +kernel
theorem dX3_wordOf_43 : decode cX3_wordOf 43 = .ok (.ldc 105, 2) := by decide +kernel
theorem dX3_wordOf_45 : decode cX3_wordOf 45 = .ok (.areturn, 1) := by decide +kernel
theorem dX3_wordOf_46 : decode cX3_wordOf 46 = .ok (.ldc 107, 2) := by decide +kernel
theorem dX3_wordOf_48 : decode cX3_wordOf 48 = .ok (.areturn, 1) := by decide +kernel
theorem dX3_wordOf_49 : decode cX3_wordOf 49 = .ok (.ldc 109, 2) := by decide +kernel
theorem dX3_wordOf_51 : decode cX3_wordOf 51 = .ok (.areturn, 1) := by decide +kernel
theorem dX3_wordOf_52 : decode cX3_wordOf 52 = .ok (.ldc 111, 2) := by decide +kernel
theorem dX3_wordOf_54 : decode cX3_wordOf 54 = .ok (.areturn, 1) := by decide +kernel
theorem dX3_wordOf_55 : decode cX3_wordOf 55 = .ok (.ldc 113, 2) := by decide +kernel
theorem dX3_wordOf_57 : decode cX3_wordOf 57 = .ok (.areturn, 1) := by decide +kernel
theorem dX3_wordOf_58 : decode cX3_wordOf 58 = .ok (.ldc 115, 2) := by decide +kernel
theorem dX3_wordOf_60 : decode cX3_wordOf 60 = .ok (.areturn, 1) := by decide +kernel
theorem dX3_readPart_0 : decode cX3_readPart 0 = .ok (.aload_n 0, 1) := by decide +kernel
theorem dX3_readPart_1 : decode cX3_readPart 1 = .ok (.getfield 25, 3) := by decide +kernel
theorem dX3_readPart_4 : decode cX3_readPart 4 = .ok (.iload_n 1, 1) := by decide +kernel
theorem dX3_readPart_5 : decode cX3_readPart 5 = .ok (.iconst 0, 1) := by decide +kernel
theorem dX3_readPart_6 : decode cX3_readPart 6 = .ok (.bipush 10, 2) := by decide +kernel
theorem dX3_readPart_8 : decode cX3_readPart 8 = .ok (.iconst (-1), 1) := by decide +kernel
theorem dX3_readPart_9 : decode cX3_readPart 9 = .ok (.invokevirtual 117, 3) := by decide +kernel
theorem dX3_readPart_12 : decode cX3_readPart 12 = .ok (.istore_n 2, 1) := by decide +kernel
theorem dX3_readPart_13 : decode cX3_readPart 13 = .ok (.aload_n 0, 1) := by decide +kernel
theorem dX3_readPart_14 : decode cX3_readPart 14 = .ok (.ldc 121, 2) := by decide +kernel
theorem dX3_readPart_16 : decode cX3_readPart 16 = .ok (.aload_n 0, 1) := by decide +kernel
theorem dX3_readPart_17 : decode cX3_readPart 17 = .ok (.getfield 25, 3) := by decide +kernel
theorem dX3_readPart_20 : decode cX3_readPart 20 = .ok (.getfield 123, 3) := by decide +kernel
theorem dX3_readPart_23 : decode cX3_readPart 23 = .ok (.iload_n 2, 1) := by decide +kernel
theorem dX3_readPart_24 : decode cX3_readPart 24 = .ok (.iconst 0, 1) := by decide +kernel
theorem dX3_readPart_25 : decode cX3_readPart 25 = .ok (.sipush 255, 3) := by decide +kernel
theorem dX3_readPart_28 : decode cX3_readPart 28 = .ok (.invokevirtual 125, 3) := by decide +kernel
theorem dX3_readPart_31 : decode cX3_readPart 31 = .ok (.ifCond .eq 46, 3) := by decide +kernel
theorem dX3_readPart_34 : decode cX3_readPart 34 = .ok (.aload_n 0, 1) := by decide +kernel
theorem dX3_readPart_35 : decode cX3_readPart 35 = .ok (.ldc 129, 2) := by decide +kernel
theorem dX3_readPart_37 : decode cX3_readPart 37 = .ok (.aload_n 0, 1) := by decide +kernel
theorem dX3_readPart_38 : decode cX3_readPart 38 = .ok (.getfield 25, 3) := by decide +kernel
theorem dX3_readPart_41 : decode cX3_readPart 41 = .ok (.getfield 131, 3) := by decide +kernel
theorem dX3_readPart_44 : decode cX3_readPart 44 = .ok (.iload_n 2, 1) := by decide +kernel
theorem dX3_readPart_45 : decode cX3_readPart 45 = .ok (.iconst 1, 1) := by decide +kernel
theorem dX3_readPart_46 : decode cX3_readPart 46 = .ok (.bipush 60, 2) := by decide +kernel
theorem dX3_readPart_48 : decode cX3_readPart 48 = .ok (.invokevirtual 125, 3) := by decide +kernel
theorem dX3_readPart_51 : decode cX3_readPart 51 = .ok (.ifCond .eq 26, 3) := by decide +kernel
theorem dX3_readPart_54 : decode cX3_readPart 54 = .ok (.aload_n 0, 1) := by decide +kernel
theorem dX3_readPart_55 : decode cX3_readPart 55 = .ok (.ldc 133, 2) := by decide +kernel
theorem dX3_readPart_57 : decode cX3_readPart 57 = .ok (.aload_n 0, 1) := by decide +kernel
theorem dX3_readPart_58 : decode cX3_readPart 58 = .ok (.getfield 25, 3) := by decide +kernel
theorem dX3_readPart_61 : decode cX3_readPart 61 = .ok (.getfield 135, 3) := by decide +kernel
theorem dX3_readPart_64 : decode cX3_readPart 64 = .ok (.iload_n 2, 1) := by decide +kernel
theorem dX3_readPart_65 : decode cX3_readPart 65 = .ok (.iconst 0, 1) := by decide +kernel
theorem dX3_readPart_66 : decode cX3_readPart 66 = .ok (.iconst 5, 1) := by decide +kernel
theorem dX3_readPart_67 : decode cX3_readPart 67 = .ok (.invokevirtual 125, 3) := by decide +kernel
theorem dX3_readPart_70 : decode cX3_readPart 70 = .ok (.ifCond .eq 7, 3) := by decide +kernel
theorem dX3_readPart_73 : decode cX3_readPart 73 = .ok (.iconst 1, 1) := by decide +kernel
theorem dX3_readPart_74 : decode cX3_readPart 74 = .ok (.goto 4, 3) := by decide +kernel
theorem dX3_readPart_77 : decode cX3_readPart 77 = .ok (.iconst 0, 1) := by decide +kernel
theorem dX3_readPart_78 : decode cX3_readPart 78 = .ok (.ireturn, 1) := by decide +kernel
theorem dX3_readFace_0 : decode cX3_readFace 0 = .ok (.aload_n 0, 1) := by decide +kernel
theorem dX3_readFace_1 : decode cX3_readFace 1 = .ok (.iconst 0, 1) := by decide +kernel
theorem dX3_readFace_2 : decode cX3_readFace 2 = .ok (.iconst 5, 1) := by decide +kernel
theorem dX3_readFace_3 : decode cX3_readFace 3 = .ok (.invokevirtual 138, 3) := by decide +kernel
theorem dX3_readFace_6 : decode cX3_readFace 6 = .ok (.istore_n 1, 1) := by decide +kernel
theorem dX3_readFace_7 : decode cX3_readFace 7 = .ok (.iload_n 1, 1) := by decide +kernel
theorem dX3_readFace_8 : decode cX3_readFace 8 = .ok (.invokestatic 141, 3) := by decide +kernel
theorem dX3_readFace_11 : decode cX3_readFace 11 = .ok (.ifCond .eq 55, 3) := by decide +kernel
theorem dX3_readFace_14 : decode cX3_readFace 14 = .ok (.aload_n 0, 1) := by decide +kernel
theorem dX3_readFace_15 : decode cX3_readFace 15 = .ok (.ldc 121, 2) := by decide +kernel
theorem dX3_readFace_17 : decode cX3_readFace 17 = .ok (.invokevirtual 80, 3) := by decide +kernel
theorem dX3_readFace_20 : decode cX3_readFace 20 = .ok (.ifCond .eq 46, 3) := by decide +kernel
theorem dX3_readFace_23 : decode cX3_readFace 23 = .ok (.aload_n 0, 1) := by decide +kernel
theorem dX3_readFace_24 : decode cX3_readFace 24 = .ok (.aload_n 0, 1) := by decide +kernel
theorem dX3_readFace_25 : decode cX3_readFace 25 = .ok (.getfield 25, 3) := by decide +kernel
theorem dX3_readFace_28 : decode cX3_readFace 28 = .ok (.getfield 144, 3) := by decide +kernel
theorem dX3_readFace_31 : decode cX3_readFace 31 = .ok (.iload_n 1, 1) := by decide +kernel
theorem dX3_readFace_32 : decode cX3_readFace 32 = .ok (.iconst 0, 1) := by decide +kernel
theorem dX3_readFace_33 : decode cX3_readFace 33 = .ok (.sipush 255, 3) := by decide +kernel
theorem dX3_readFace_36 : decode cX3_readFace 36 = .ok (.invokevirtual 147, 3) := by decide +kernel
theorem dX3_readFace_39 : decode cX3_readFace 39 = .ok (.ifCond .eq 27, 3) := by decide +kernel
theorem dX3_readFace_42 : decode cX3_readFace 42 = .ok (.aload_n 0, 1) := by decide +kernel
theorem dX3_readFace_43 : decode cX3_readFace 43 = .ok (.ldc 151, 2) := by decide +kernel
theorem dX3_readFace_45 : decode cX3_readFace 45 = .ok (.aload_n 0, 1) := by decide +kernel
theorem dX3_readFace_46 : decode cX3_readFace 46 = .ok (.getfield 25, 3) := by decide +kernel
theorem dX3_readFace_49 : decode cX3_readFace 49 = .ok (.getfield 153, 3) := by decide +kernel
theorem dX3_readFace_52 : decode cX3_readFace 52 = .ok (.iload_n 1, 1) := by decide +kernel
theorem dX3_readFace_53 : decode cX3_readFace 53 = .ok (.iconst 0, 1) := by decide +kernel
theorem dX3_readFace_54 : decode cX3_readFace 54 = .ok (.bipush 99, 2) := by decide +kernel
theorem dX3_readFace_56 : decode cX3_readFace 56 = .ok (.invokevirtual 125, 3) := by decide +kernel
theorem dX3_readFace_59 : decode cX3_readFace 59 = .ok (.ifCond .eq 7, 3) := by decide +kernel
theorem dX3_readFace_62 : decode cX3_readFace 62 = .ok (.iconst 1, 1) := by decide +kernel
theorem dX3_readFace_63 : decode cX3_readFace 63 = .ok (.goto 4, 3) := by decide +kernel
theorem dX3_readFace_66 : decode cX3_readFace 66 = .ok (.iconst 0, 1) := by decide +kernel
theorem dX3_readFace_67 : decode cX3_readFace 67 = .ok (.ireturn, 1) := by decide +kernel
theorem dX3_readShow_0 : decode cX3_readShow 0 = .ok (.aload_n 0, 1) := by decide +kernel
theorem dX3_readShow_1 : decode cX3_readShow 1 = .ok (.iconst 0, 1) := by decide +kernel
theorem dX3_readShow_2 : decode cX3_readShow 2 = .ok (.iconst 5, 1) := by decide +kernel
theorem dX3_readShow_3 : decode cX3_readShow 3 = .ok (.invokevirtual 138, 3) := by decide +kernel
theorem dX3_readShow_6 : decode cX3_readShow 6 = .ok (.istore_n 1, 1) := by decide +kernel
theorem dX3_readShow_7 : decode cX3_readShow 7 = .ok (.iload_n 1, 1) := by decide +kernel
theorem dX3_readShow_8 : decode cX3_readShow 8 = .ok (.invokestatic 155, 3) := by decide +kernel
theorem dX3_readShow_11 : decode cX3_readShow 11 = .ok (.ifCond .eq 24, 3) := by decide +kernel
theorem dX3_readShow_14 : decode cX3_readShow 14 = .ok (.aload_n 0, 1) := by decide +kernel
theorem dX3_readShow_15 : decode cX3_readShow 15 = .ok (.aload_n 0, 1) := by decide +kernel
theorem dX3_readShow_16 : decode cX3_readShow 16 = .ok (.getfield 25, 3) := by decide +kernel
theorem dX3_readShow_19 : decode cX3_readShow 19 = .ok (.getfield 158, 3) := by decide +kernel
theorem dX3_readShow_22 : decode cX3_readShow 22 = .ok (.iload_n 1, 1) := by decide +kernel
theorem dX3_readShow_23 : decode cX3_readShow 23 = .ok (.iconst 0, 1) := by decide +kernel
theorem dX3_readShow_24 : decode cX3_readShow 24 = .ok (.iconst 5, 1) := by decide +kernel
theorem dX3_readShow_25 : decode cX3_readShow 25 = .ok (.invokevirtual 147, 3) := by decide +kernel
theorem dX3_readShow_28 : decode cX3_readShow 28 = .ok (.ifCond .eq 7, 3) := by decide +kernel
theorem dX3_readShow_31 : decode cX3_readShow 31 = .ok (.iconst 1, 1) := by decide +kernel
theorem dX3_readShow_32 : decode cX3_readShow 32 = .ok (.goto 4, 3) := by decide +kernel
theorem dX3_readShow_35 : decode cX3_readShow 35 = .ok (.iconst 0, 1) := by decide +kernel
theorem dX3_readShow_36 : decode cX3_readShow 36 = .ok (.ireturn, 1) := by decide +kernel
theorem dX3_readPace_0 : decode cX3_readPace 0 = .ok (.aload_n 0, 1) := by decide +kernel
theorem dX3_readPace_1 : decode cX3_readPace 1 = .ok (.iconst 1, 1) := by decide +kernel
theorem dX3_readPace_2 : decode cX3_readPace 2 = .ok (.bipush 20, 2) := by decide +kernel
theorem dX3_readPace_4 : decode cX3_readPace 4 = .ok (.invokevirtual 138, 3) := by decide +kernel
theorem dX3_readPace_7 : decode cX3_readPace 7 = .ok (.istore_n 1, 1) := by decide +kernel
theorem dX3_readPace_8 : decode cX3_readPace 8 = .ok (.iload_n 1, 1) := by decide +kernel
theorem dX3_readPace_9 : decode cX3_readPace 9 = .ok (.ifCond .ge 5, 3) := by decide +kernel
theorem dX3_readPace_12 : decode cX3_readPace 12 = .ok (.iconst 0, 1) := by decide +kernel
theorem dX3_readPace_13 : decode cX3_readPace 13 = .ok (.ireturn, 1) := by decide +kernel
theorem dX3_readPace_14 : decode cX3_readPace 14 = .ok (.aload_n 0, 1) := by decide +kernel
theorem dX3_readPace_15 : decode cX3_readPace 15 = .ok (.getfield 25, 3) := by decide +kernel
theorem dX3_readPace_18 : decode cX3_readPace 18 = .ok (.iload_n 1, 1) := by decide +kernel
theorem dX3_readPace_19 : decode cX3_readPace 19 = .ok (.putfield 161, 3) := by decide +kernel
theorem dX3_readPace_22 : decode cX3_readPace 22 = .ok (.iconst 1, 1) := by decide +kernel
theorem dX3_readPace_23 : decode cX3_readPace 23 = .ok (.ireturn, 1) := by decide +kernel
theorem dX3_mayTell_0 : decode cX3_mayTell 0 = .ok (.aload_n 0, 1) := by decide +kernel
theorem dX3_mayTell_1 : decode cX3_mayTell 1 = .ok (.aload_n 1, 1) := by decide +kernel
theorem dX3_mayTell_2 : decode cX3_mayTell 2 = .ok (.invokevirtual 80, 3) := by decide +kernel
theorem dX3_mayTell_5 : decode cX3_mayTell 5 = .ok (.ifCond .eq 16, 3) := by decide +kernel
theorem dX3_mayTell_8 : decode cX3_mayTell 8 = .ok (.aload_n 0, 1) := by decide +kernel
theorem dX3_mayTell_9 : decode cX3_mayTell 9 = .ok (.aload_n 2, 1) := by decide +kernel
theorem dX3_mayTell_10 : decode cX3_mayTell 10 = .ok (.iload_n 3, 1) := by decide +kernel
theorem dX3_mayTell_11 : decode cX3_mayTell 11 = .ok (.iload 4, 2) := by decide +kernel
theorem dX3_mayTell_13 : decode cX3_mayTell 13 = .ok (.iload 5, 2) := by decide +kernel
theorem dX3_mayTell_15 : decode cX3_mayTell 15 = .ok (.invokevirtual 147, 3) := by decide +kernel
theorem dX3_mayTell_18 : decode cX3_mayTell 18 = .ok (.ifCond .eq 7, 3) := by decide +kernel
theorem dX3_mayTell_21 : decode cX3_mayTell 21 = .ok (.iconst 1, 1) := by decide +kernel
theorem dX3_mayTell_22 : decode cX3_mayTell 22 = .ok (.goto 4, 3) := by decide +kernel
theorem dX3_mayTell_25 : decode cX3_mayTell 25 = .ok (.iconst 0, 1) := by decide +kernel
theorem dX3_mayTell_26 : decode cX3_mayTell 26 = .ok (.ireturn, 1) := by decide +kernel
theorem dX3_tells_0 : decode cX3_tells 0 = .ok (.aload_n 0, 1) := by decide +kernel
theorem dX3_tells_1 : decode cX3_tells 1 = .ok (.iload_n 3, 1) := by decide +kernel
theorem dX3_tells_2 : decode cX3_tells 2 = .ok (.iload 4, 2) := by decide +kernel
theorem dX3_tells_4 : decode cX3_tells 4 = .ok (.invokevirtual 138, 3) := by decide +kernel
theorem dX3_tells_7 : decode cX3_tells 7 = .ok (.istore 5, 2) := by decide +kernel
theorem dX3_tells_9 : decode cX3_tells 9 = .ok (.iload 5, 2) := by decide +kernel
theorem dX3_tells_11 : decode cX3_tells 11 = .ok (.ifCond .ge 5, 3) := by decide +kernel
theorem dX3_tells_14 : decode cX3_tells 14 = .ok (.iconst 0, 1) := by decide +kernel
theorem dX3_tells_15 : decode cX3_tells 15 = .ok (.ireturn, 1) := by decide +kernel
theorem dX3_tells_16 : decode cX3_tells 16 = .ok (.aload_n 1, 1) := by decide +kernel
theorem dX3_tells_17 : decode cX3_tells 17 = .ok (.iload_n 2, 1) := by decide +kernel
theorem dX3_tells_18 : decode cX3_tells 18 = .ok (.iload 5, 2) := by decide +kernel
theorem dX3_tells_20 : decode cX3_tells 20 = .ok (.iastore, 1) := by decide +kernel
theorem dX3_tells_21 : decode cX3_tells 21 = .ok (.iconst 1, 1) := by decide +kernel
theorem dX3_tells_22 : decode cX3_tells 22 = .ok (.ireturn, 1) := by decide +kernel
theorem dX3_takeNumber_0 : decode cX3_takeNumber 0 = .ok (.aload_n 0, 1) := by decide +kernel
theorem dX3_takeNumber_1 : decode cX3_takeNumber 1 = .ok (.getfield 9, 3) := by decide +kernel
theorem dX3_takeNumber_4 : decode cX3_takeNumber 4 = .ok (.aload_n 0, 1) := by decide +kernel
theorem dX3_takeNumber_5 : decode cX3_takeNumber 5 = .ok (.getfield 32, 3) := by decide +kernel
theorem dX3_takeNumber_8 : decode cX3_takeNumber 8 = .ok (.iaload, 1) := by decide +kernel
theorem dX3_takeNumber_9 : decode cX3_takeNumber 9 = .ok (.iconst 2, 1) := by decide +kernel
theorem dX3_takeNumber_10 : decode cX3_takeNumber 10 = .ok (.if_icmp .ne 29, 3) := by decide +kernel
theorem dX3_takeNumber_13 : decode cX3_takeNumber 13 = .ok (.aload_n 0, 1) := by decide +kernel
theorem dX3_takeNumber_14 : decode cX3_takeNumber 14 = .ok (.getfield 18, 3) := by decide +kernel
theorem dX3_takeNumber_17 : decode cX3_takeNumber 17 = .ok (.aload_n 0, 1) := by decide +kernel
theorem dX3_takeNumber_18 : decode cX3_takeNumber 18 = .ok (.getfield 32, 3) := by decide +kernel
theorem dX3_takeNumber_21 : decode cX3_takeNumber 21 = .ok (.iaload, 1) := by decide +kernel
theorem dX3_takeNumber_22 : decode cX3_takeNumber 22 = .ok (.iload_n 1, 1) := by decide +kernel
theorem dX3_takeNumber_23 : decode cX3_takeNumber 23 = .ok (.if_icmp .lt 16, 3) := by decide +kernel
theorem dX3_takeNumber_26 : decode cX3_takeNumber 26 = .ok (.aload_n 0, 1) := by decide +kernel
theorem dX3_takeNumber_27 : decode cX3_takeNumber 27 = .ok (.getfield 18, 3) := by decide +kernel
theorem dX3_takeNumber_30 : decode cX3_takeNumber 30 = .ok (.aload_n 0, 1) := by decide +kernel
theorem dX3_takeNumber_31 : decode cX3_takeNumber 31 = .ok (.getfield 32, 3) := by decide +kernel
theorem dX3_takeNumber_34 : decode cX3_takeNumber 34 = .ok (.iaload, 1) := by decide +kernel
theorem dX3_takeNumber_35 : decode cX3_takeNumber 35 = .ok (.iload_n 2, 1) := by decide +kernel
theorem dX3_takeNumber_36 : decode cX3_takeNumber 36 = .ok (.if_icmp .le 5, 3) := by decide +kernel
theorem dX3_takeNumber_39 : decode cX3_takeNumber 39 = .ok (.iconst (-1), 1) := by decide +kernel
theorem dX3_takeNumber_40 : decode cX3_takeNumber 40 = .ok (.ireturn, 1) := by decide +kernel
theorem dX3_takeNumber_41 : decode cX3_takeNumber 41 = .ok (.aload_n 0, 1) := by decide +kernel
theorem dX3_takeNumber_42 : decode cX3_takeNumber 42 = .ok (.dup, 1) := by decide +kernel
theorem dX3_takeNumber_43 : decode cX3_takeNumber 43 = .ok (.getfield 32, 3) := by decide +kernel
theorem dX3_takeNumber_46 : decode cX3_takeNumber 46 = .ok (.iconst 1, 1) := by decide +kernel
theorem dX3_takeNumber_47 : decode cX3_takeNumber 47 = .ok (.iadd, 1) := by decide +kernel
theorem dX3_takeNumber_48 : decode cX3_takeNumber 48 = .ok (.putfield 32, 3) := by decide +kernel
theorem dX3_takeNumber_51 : decode cX3_takeNumber 51 = .ok (.aload_n 0, 1) := by decide +kernel
theorem dX3_takeNumber_52 : decode cX3_takeNumber 52 = .ok (.getfield 18, 3) := by decide +kernel
theorem dX3_takeNumber_55 : decode cX3_takeNumber 55 = .ok (.aload_n 0, 1) := by decide +kernel
theorem dX3_takeNumber_56 : decode cX3_takeNumber 56 = .ok (.getfield 32, 3) := by decide +kernel
theorem dX3_takeNumber_59 : decode cX3_takeNumber 59 = .ok (.iconst 1, 1) := by decide +kernel
theorem dX3_takeNumber_60 : decode cX3_takeNumber 60 = .ok (.isub, 1) := by decide +kernel
theorem dX3_takeNumber_61 : decode cX3_takeNumber 61 = .ok (.iaload, 1) := by decide +kernel
theorem dX3_takeNumber_62 : decode cX3_takeNumber 62 = .ok (.ireturn, 1) := by decide +kernel
theorem dX3_takes_0 : decode cX3_takes 0 = .ok (.aload_n 0, 1) := by decide +kernel
theorem dX3_takes_1 : decode cX3_takes 1 = .ok (.getfield 9, 3) := by decide +kernel
theorem dX3_takes_4 : decode cX3_takes 4 = .ok (.aload_n 0, 1) := by decide +kernel
theorem dX3_takes_5 : decode cX3_takes 5 = .ok (.getfield 32, 3) := by decide +kernel
theorem dX3_takes_8 : decode cX3_takes 8 = .ok (.iaload, 1) := by decide +kernel
theorem dX3_takes_9 : decode cX3_takes 9 = .ok (.iconst 1, 1) := by decide +kernel
theorem dX3_takes_10 : decode cX3_takes 10 = .ok (.if_icmp .ne 19, 3) := by decide +kernel
theorem dX3_takes_13 : decode cX3_takes 13 = .ok (.aload_n 0, 1) := by decide +kernel
theorem dX3_takes_14 : decode cX3_takes 14 = .ok (.getfield 18, 3) := by decide +kernel
theorem dX3_takes_17 : decode cX3_takes 17 = .ok (.aload_n 0, 1) := by decide +kernel
theorem dX3_takes_18 : decode cX3_takes 18 = .ok (.getfield 32, 3) := by decide +kernel
theorem dX3_takes_21 : decode cX3_takes 21 = .ok (.iaload, 1) := by decide +kernel
theorem dX3_takes_22 : decode cX3_takes 22 = .ok (.aload_n 1, 1) := by decide +kernel
theorem dX3_takes_23 : decode cX3_takes 23 = .ok (.invokevirtual 163, 3) := by decide +kernel
theorem dX3_takes_26 : decode cX3_takes 26 = .ok (.if_icmp .eq 5, 3) := by decide +kernel
theorem dX3_takes_29 : decode cX3_takes 29 = .ok (.iconst 0, 1) := by decide +kernel
theorem dX3_takes_30 : decode cX3_takes 30 = .ok (.ireturn, 1) := by decide +kernel
theorem dX3_takes_31 : decode cX3_takes 31 = .ok (.iconst 0, 1) := by decide +kernel
theorem dX3_takes_32 : decode cX3_takes 32 = .ok (.istore_n 2, 1) := by decide +kernel
theorem dX3_takes_33 : decode cX3_takes 33 = .ok (.iload_n 2, 1) := by decide +kernel
theorem dX3_takes_34 : decode cX3_takes 34 = .ok (.aload_n 1, 1) := by decide +kernel
theorem dX3_takes_35 : decode cX3_takes 35 = .ok (.invokevirtual 163, 3) := by decide +kernel
theorem dX3_takes_38 : decode cX3_takes 38 = .ok (.if_icmp .ge 38, 3) := by decide +kernel
theorem dX3_takes_41 : decode cX3_takes 41 = .ok (.aload_n 0, 1) := by decide +kernel
theorem dX3_takes_42 : decode cX3_takes 42 = .ok (.getfield 21, 3) := by decide +kernel
theorem dX3_takes_45 : decode cX3_takes 45 = .ok (.getfield 48, 3) := by decide +kernel
theorem dX3_takes_48 : decode cX3_takes 48 = .ok (.aload_n 0, 1) := by decide +kernel
theorem dX3_takes_49 : decode cX3_takes 49 = .ok (.getfield 15, 3) := by decide +kernel
theorem dX3_takes_52 : decode cX3_takes 52 = .ok (.aload_n 0, 1) := by decide +kernel
theorem dX3_takes_53 : decode cX3_takes 53 = .ok (.getfield 32, 3) := by decide +kernel
theorem dX3_takes_56 : decode cX3_takes 56 = .ok (.iaload, 1) := by decide +kernel
theorem dX3_takes_57 : decode cX3_takes 57 = .ok (.iload_n 2, 1) := by decide +kernel
theorem dX3_takes_58 : decode cX3_takes 58 = .ok (.iadd, 1) := by decide +kernel
theorem dX3_takes_59 : decode cX3_takes 59 = .ok (.baload, 1) := by decide +kernel
theorem dX3_takes_60 : decode cX3_takes 60 = .ok (.aload_n 1, 1) := by decide +kernel
theorem dX3_takes_61 : decode cX3_takes 61 = .ok (.iload_n 2, 1) := by decide +kernel
theorem dX3_takes_62 : decode cX3_takes 62 = .ok (.invokevirtual 168, 3) := by decide +kernel
theorem dX3_takes_65 : decode cX3_takes 65 = .ok (.if_icmp .eq 5, 3) := by decide +kernel
theorem dX3_takes_68 : decode cX3_takes 68 = .ok (.iconst 0, 1) := by decide +kernel
theorem dX3_takes_69 : decode cX3_takes 69 = .ok (.ireturn, 1) := by decide +kernel
theorem dX3_takes_70 : decode cX3_takes 70 = .ok (.iinc 2 1, 3) := by decide +kernel
theorem dX3_takes_73 : decode cX3_takes 73 = .ok (.goto (-40), 3) := by decide +kernel
theorem dX3_takes_76 : decode cX3_takes 76 = .ok (.aload_n 0, 1) := by decide +kernel
theorem dX3_takes_77 : decode cX3_takes 77 = .ok (.dup, 1) := by decide +kernel
theorem dX3_takes_78 : decode cX3_takes 78 = .ok (.getfield 32, 3) := by decide +kernel
theorem dX3_takes_81 : decode cX3_takes 81 = .ok (.iconst 1, 1) := by decide +kernel
theorem dX3_takes_82 : decode cX3_takes 82 = .ok (.iadd, 1) := by decide +kernel
theorem dX3_takes_83 : decode cX3_takes 83 = .ok (.putfield 32, 3) := by decide +kernel
theorem dX3_takes_86 : decode cX3_takes 86 = .ok (.iconst 1, 1) := by decide +kernel
theorem dX3_takes_87 : decode cX3_takes 87 = .ok (.ireturn, 1) := by decide +kernel
theorem dX4_init_0 : decode cX4_init 0 = .ok (.aload_n 0, 1) := by decide +kernel
theorem dX4_init_1 : decode cX4_init 1 = .ok (.invokespecial 3, 3) := by decide +kernel
theorem dX4_init_4 : decode cX4_init 4 = .ok (.aload_n 0, 1) := by decide +kernel
theorem dX4_init_5 : decode cX4_init 5 = .ok (.bipush 40, 2) := by decide +kernel
theorem dX4_init_7 : decode cX4_init 7 = .ok (.newarray .int, 2) := by decide +kernel
theorem dX4_init_9 : decode cX4_init 9 = .ok (.putfield 9, 3) := by decide +kernel
theorem dX4_init_12 : decode cX4_init 12 = .ok (.return_, 1) := by decide +kernel
theorem dX4_isMissing_0 : decode cX4_isMissing 0 = .ok (.aload_n 0, 1) := by decide +kernel
theorem dX4_isMissing_1 : decode cX4_isMissing 1 = .ok (.getfield 15, 3) := by decide +kernel
theorem dX4_isMissing_4 : decode cX4_isMissing 4 = .ok (.ifCond .ne 7, 3) := by decide +kernel
theorem dX4_isMissing_7 : decode cX4_isMissing 7 = .ok (.iconst 1, 1) := by decide +kernel
theorem dX4_isMissing_8 : decode cX4_isMissing 8 = .ok (.goto 4, 3) := by decide +kernel
theorem dX4_isMissing_11 : decode cX4_isMissing 11 = .ok (.iconst 0, 1) := by decide +kernel
theorem dX4_isMissing_12 : decode cX4_isMissing 12 = .ok (.ireturn, 1) := by decide +kernel
theorem dX4_begin_0 : decode cX4_begin 0 = .ok (.aload_n 0, 1) := by decide +kernel
theorem dX4_begin_1 : decode cX4_begin 1 = .ok (.getfield 9, 3) := by decide +kernel
theorem dX4_begin_4 : decode cX4_begin 4 = .ok (.iconst 0, 1) := by decide +kernel
theorem dX4_begin_5 : decode cX4_begin 5 = .ok (.invokestatic 19, 3) := by decide +kernel
theorem dX4_begin_8 : decode cX4_begin 8 = .ok (.aload_n 0, 1) := by decide +kernel
theorem dX4_begin_9 : decode cX4_begin 9 = .ok (.iload_n 1, 1) := by decide +kernel
theorem dX4_begin_10 : decode cX4_begin 10 = .ok (.putfield 15, 3) := by decide +kernel
theorem dX4_begin_13 : decode cX4_begin 13 = .ok (.aload_n 0, 1) := by decide +kernel
theorem dX4_begin_14 : decode cX4_begin 14 = .ok (.iload_n 1, 1) := by decide +kernel
theorem dX4_begin_15 : decode cX4_begin 15 = .ok (.ifCond .ne 7, 3) := by decide +kernel
theorem dX4_begin_18 : decode cX4_begin 18 = .ok (.iconst 0, 1) := by decide +kernel
theorem dX4_begin_19 : decode cX4_begin 19 = .ok (.goto 4, 3) := by decide +kernel
theorem dX4_begin_22 : decode cX4_begin 22 = .ok (.iload_n 2, 1) := by decide +kernel
theorem dX4_begin_23 : decode cX4_begin 23 = .ok (.putfield 25, 3) := by decide +kernel
theorem dX4_begin_26 : decode cX4_begin 26 = .ok (.return_, 1) := by decide +kernel
theorem dX4_put_0 : decode cX4_put 0 = .ok (.aload_n 0, 1) := by decide +kernel
theorem dX4_put_1 : decode cX4_put 1 = .ok (.getfield 9, 3) := by decide +kernel
theorem dX4_put_4 : decode cX4_put 4 = .ok (.iload_n 1, 1) := by decide +kernel
theorem dX4_put_5 : decode cX4_put 5 = .ok (.aload_n 0, 1) := by decide +kernel
theorem dX4_put_6 : decode cX4_put 6 = .ok (.getfield 15, 3) := by decide +kernel
theorem dX4_put_9 : decode cX4_put 9 = .ok (.bipush 8, 2) := by decide +kernel
theorem dX4_put_11 : decode cX4_put 11 = .ok (.if_icmp .ne 8, 3) := by decide +kernel
theorem dX4_put_14 : decode cX4_put 14 = .ok (.iload_n 2, 1) := by decide +kernel
theorem dX4_put_15 : decode cX4_put 15 = .ok (.i2b, 1) := by decide +kernel
theorem dX4_put_16 : decode cX4_put 16 = .ok (.goto 18, 3) := by decide +kernel
theorem dX4_put_19 : decode cX4_put 19 = .ok (.aload_n 0, 1) := by decide +kernel
theorem dX4_put_20 : decode cX4_put 20 = .ok (.getfield 15, 3) := by decide +kernel
theorem dX4_put_23 : decode cX4_put 23 = .ok (.bipush 16, 2) := by decide +kernel
theorem dX4_put_25 : decode cX4_put 25 = .ok (.if_icmp .ne 8, 3) := by decide +kernel
theorem dX4_put_28 : decode cX4_put 28 = .ok (.iload_n 2, 1) := by decide +kernel
theorem dX4_put_29 : decode cX4_put 29 = .ok (.i2s, 1) := by decide +kernel
theorem dX4_put_30 : decode cX4_put 30 = .ok (.goto 4, 3) := by decide +kernel
theorem dX4_put_33 : decode cX4_put 33 = .ok (.iload_n 2, 1) := by decide +kernel
theorem dX4_put_34 : decode cX4_put 34 = .ok (.iastore, 1) := by decide +kernel
theorem dX4_put_35 : decode cX4_put 35 = .ok (.return_, 1) := by decide +kernel
theorem dX4_hasRun_0 : decode cX4_hasRun 0 = .ok (.iload_n 1, 1) := by decide +kernel
theorem dX4_hasRun_1 : decode cX4_hasRun 1 = .ok (.ifCond .lt 21, 3) := by decide +kernel
theorem dX4_hasRun_4 : decode cX4_hasRun 4 = .ok (.iload_n 2, 1) := by decide +kernel
theorem dX4_hasRun_5 : decode cX4_hasRun 5 = .ok (.ifCond .lt 17, 3) := by decide +kernel
theorem dX4_hasRun_8 : decode cX4_hasRun 8 = .ok (.iload_n 2, 1) := by decide +kernel
theorem dX4_hasRun_9 : decode cX4_hasRun 9 = .ok (.aload_n 0, 1) := by decide +kernel
theorem dX4_hasRun_10 : decode cX4_hasRun 10 = .ok (.getfield 25, 3) := by decide +kernel
theorem dX4_hasRun_13 : decode cX4_hasRun 13 = .ok (.iload_n 1, 1) := by decide +kernel
theorem dX4_hasRun_14 : decode cX4_hasRun 14 = .ok (.isub, 1) := by decide +kernel
theorem dX4_hasRun_15 : decode cX4_hasRun 15 = .ok (.if_icmp .gt 7, 3) := by decide +kernel
theorem dX4_hasRun_18 : decode cX4_hasRun 18 = .ok (.iconst 1, 1) := by decide +kernel
theorem dX4_hasRun_19 : decode cX4_hasRun 19 = .ok (.goto 4, 3) := by decide +kernel
theorem dX4_hasRun_22 : decode cX4_hasRun 22 = .ok (.iconst 0, 1) := by decide +kernel
theorem dX4_hasRun_23 : decode cX4_hasRun 23 = .ok (.ireturn, 1) := by decide +kernel
theorem dX5_init_0 : decode cX5_init 0 = .ok (.aload_n 0, 1) := by decide +kernel
theorem dX5_init_1 : decode cX5_init 1 = .ok (.invokespecial 3, 3) := by decide +kernel
theorem dX5_init_4 : decode cX5_init 4 = .ok (.aload_n 0, 1) := by decide +kernel
theorem dX5_init_5 : decode cX5_init 5 = .ok (.bipush 120, 2) := by decide +kernel
theorem dX5_init_7 : decode cX5_init 7 = .ok (.newarray .byte, 2) := by decide +kernel
theorem dX5_init_9 : decode cX5_init 9 = .ok (.putfield 9, 3) := by decide +kernel
theorem dX5_init_12 : decode cX5_init 12 = .ok (.return_, 1) := by decide +kernel
theorem dX5_append_0 : decode cX5_append 0 = .ok (.aload_n 0, 1) := by decide +kernel
theorem dX5_append_1 : decode cX5_append 1 = .ok (.getfield 9, 3) := by decide +kernel
theorem dX5_append_4 : decode cX5_append 4 = .ok (.aload_n 0, 1) := by decide +kernel
theorem dX5_append_5 : decode cX5_append 5 = .ok (.getfield 15, 3) := by decide +kernel
theorem dX5_append_8 : decode cX5_append 8 = .ok (.iload_n 1, 1) := by decide +kernel
theorem dX5_append_9 : decode cX5_append 9 = .ok (.bastore, 1) := by decide +kernel
theorem dX5_append_10 : decode cX5_append 10 = .ok (.aload_n 0, 1) := by decide +kernel
theorem dX5_append_11 : decode cX5_append 11 = .ok (.dup, 1) := by decide +kernel
theorem dX5_append_12 : decode cX5_append 12 = .ok (.getfield 15, 3) := by decide +kernel
theorem dX5_append_15 : decode cX5_append 15 = .ok (.iconst 1, 1) := by decide +kernel
theorem dX5_append_16 : decode cX5_append 16 = .ok (.iadd, 1) := by decide +kernel
theorem dX5_append_17 : decode cX5_append 17 = .ok (.putfield 15, 3) := by decide +kernel
theorem dX5_append_20 : decode cX5_append 20 = .ok (.return_, 1) := by decide +kernel
theorem dX6_init_0 : decode cX6_init 0 = .ok (.aload_n 0, 1) := by decide +kernel
theorem dX6_init_1 : decode cX6_init 1 = .ok (.invokespecial 3, 3) := by decide +kernel
theorem dX6_init_4 : decode cX6_init 4 = .ok (.aload_n 0, 1) := by decide +kernel
theorem dX6_init_5 : decode cX6_init 5 = .ok (.bipush 10, 2) := by decide +kernel
theorem dX6_init_7 : decode cX6_init 7 = .ok (.newarray .int, 2) := by decide +kernel
theorem dX6_init_9 : decode cX6_init 9 = .ok (.putfield 9, 3) := by decide +kernel
theorem dX6_init_12 : decode cX6_init 12 = .ok (.aload_n 0, 1) := by decide +kernel
theorem dX6_init_13 : decode cX6_init 13 = .ok (.bipush 64, 2) := by decide +kernel
theorem dX6_init_15 : decode cX6_init 15 = .ok (.newarray .int, 2) := by decide +kernel
theorem dX6_init_17 : decode cX6_init 17 = .ok (.putfield 15, 3) := by decide +kernel
theorem dX6_init_20 : decode cX6_init 20 = .ok (.return_, 1) := by decide +kernel
theorem dX6_allWays_0 : decode cX6_allWays 0 = .ok (.aload_n 0, 1) := by decide +kernel
theorem dX6_allWays_1 : decode cX6_allWays 1 = .ok (.aload_n 1, 1) := by decide +kernel
theorem dX6_allWays_2 : decode cX6_allWays 2 = .ok (.aload_n 2, 1) := by decide +kernel
theorem dX6_allWays_3 : decode cX6_allWays 3 = .ok (.invokevirtual 18, 3) := by decide +kernel
theorem dX6_allWays_6 : decode cX6_allWays 6 = .ok (.aload_n 0, 1) := by decide +kernel
theorem dX6_allWays_7 : decode cX6_allWays 7 = .ok (.aload_n 2, 1) := by decide +kernel
theorem dX6_allWays_8 : decode cX6_allWays 8 = .ok (.invokestatic 22, 3) := by decide +kernel
theorem dX6_allWays_11 : decode cX6_allWays 11 = .ok (.iconst (-1), 1) := by decide +kernel
theorem dX6_allWays_12 : decode cX6_allWays 12 = .ok (.invokevirtual 26, 3) := by decide +kernel
theorem dX6_allWays_15 : decode cX6_allWays 15 = .ok (.ireturn, 1) := by decide +kernel
theorem dX6_headsFor_0 : decode cX6_headsFor 0 = .ok (.aload_n 0, 1) := by decide +kernel
theorem dX6_headsFor_1 : decode cX6_headsFor 1 = .ok (.aload_n 1, 1) := by decide +kernel
theorem dX6_headsFor_2 : decode cX6_headsFor 2 = .ok (.aload_n 2, 1) := by decide +kernel
theorem dX6_headsFor_3 : decode cX6_headsFor 3 = .ok (.invokevirtual 18, 3) := by decide +kernel
theorem dX6_headsFor_6 : decode cX6_headsFor 6 = .ok (.aload_n 2, 1) := by decide +kernel
theorem dX6_headsFor_7 : decode cX6_headsFor 7 = .ok (.invokestatic 22, 3) := by decide +kernel
theorem dX6_headsFor_10 : decode cX6_headsFor 10 = .ok (.iconst 1, 1) := by decide +kernel
theorem dX6_headsFor_11 : decode cX6_headsFor 11 = .ok (.iload_n 3, 1) := by decide +kernel
theorem dX6_headsFor_12 : decode cX6_headsFor 12 = .ok (.ishl, 1) := by decide +kernel
theorem dX6_headsFor_13 : decode cX6_headsFor 13 = .ok (.iconst (-1), 1) := by decide +kernel
theorem dX6_headsFor_14 : decode cX6_headsFor 14 = .ok (.ixor, 1) := by decide +kernel
theorem dX6_headsFor_15 : decode cX6_headsFor 15 = .ok (.iand, 1) := by decide +kernel
theorem dX6_headsFor_16 : decode cX6_headsFor 16 = .ok (.istore 4, 2) := by decide +kernel
theorem dX6_headsFor_18 : decode cX6_headsFor 18 = .ok (.iconst 0, 1) := by decide +kernel
theorem dX6_headsFor_19 : decode cX6_headsFor 19 = .ok (.istore 5, 2) := by decide +kernel
theorem dX6_headsFor_21 : decode cX6_headsFor 21 = .ok (.iconst 0, 1) := by decide +kernel
theorem dX6_headsFor_22 : decode cX6_headsFor 22 = .ok (.istore 6, 2) := by decide +kernel
theorem dX6_headsFor_24 : decode cX6_headsFor 24 = .ok (.iload 6, 2) := by decide +kernel
theorem dX6_headsFor_26 : decode cX6_headsFor 26 = .ok (.bipush 10, 2) := by decide +kernel
theorem dX6_headsFor_28 : decode cX6_headsFor 28 = .ok (.if_icmp .ge 43, 3) := by decide +kernel
theorem dX6_headsFor_31 : decode cX6_headsFor 31 = .ok (.aload_n 0, 1) := by decide +kernel
theorem dX6_headsFor_32 : decode cX6_headsFor 32 = .ok (.getfield 9, 3) := by decide +kernel
theorem dX6_headsFor_35 : decode cX6_headsFor 35 = .ok (.iload 6, 2) := by decide +kernel
theorem dX6_headsFor_37 : decode cX6_headsFor 37 = .ok (.iaload, 1) := by decide +kernel
theorem dX6_headsFor_38 : decode cX6_headsFor 38 = .ok (.iconst 1, 1) := by decide +kernel
theorem dX6_headsFor_39 : decode cX6_headsFor 39 = .ok (.iload_n 3, 1) := by decide +kernel
theorem dX6_headsFor_40 : decode cX6_headsFor 40 = .ok (.ishl, 1) := by decide +kernel
theorem dX6_headsFor_41 : decode cX6_headsFor 41 = .ok (.iand, 1) := by decide +kernel
theorem dX6_headsFor_42 : decode cX6_headsFor 42 = .ok (.ifCond .eq 23, 3) := by decide +kernel
theorem dX6_headsFor_45 : decode cX6_headsFor 45 = .ok (.aload_n 0, 1) := by decide +kernel
theorem dX6_headsFor_46 : decode cX6_headsFor 46 = .ok (.iload 4, 2) := by decide +kernel
theorem dX6_headsFor_48 : decode cX6_headsFor 48 = .ok (.iload 6, 2) := by decide +kernel
theorem dX6_headsFor_50 : decode cX6_headsFor 50 = .ok (.invokevirtual 26, 3) := by decide +kernel
theorem dX6_headsFor_53 : decode cX6_headsFor 53 = .ok (.ifCond .le 12, 3) := by decide +kernel
theorem dX6_headsFor_56 : decode cX6_headsFor 56 = .ok (.iload 5, 2) := by decide +kernel
theorem dX6_headsFor_58 : decode cX6_headsFor 58 = .ok (.iconst 1, 1) := by decide +kernel
theorem dX6_headsFor_59 : decode cX6_headsFor 59 = .ok (.iload 6, 2) := by decide +kernel
theorem dX6_headsFor_61 : decode cX6_headsFor 61 = .ok (.ishl, 1) := by decide +kernel
theorem dX6_headsFor_62 : decode cX6_headsFor 62 = .ok (.ior, 1) := by decide +kernel
theorem dX6_headsFor_63 : decode cX6_headsFor 63 = .ok (.istore 5, 2) := by decide +kernel
theorem dX6_headsFor_65 : decode cX6_headsFor 65 = .ok (.iinc 6 1, 3) := by decide +kernel
theorem dX6_headsFor_68 : decode cX6_headsFor 68 = .ok (.goto (-44), 3) := by decide +kernel
theorem dX6_headsFor_71 : decode cX6_headsFor 71 = .ok (.iload 5, 2) := by decide +kernel
theorem dX6_headsFor_73 : decode cX6_headsFor 73 = .ok (.ireturn, 1) := by decide +kernel
theorem dX6_facesOf_0 : decode cX6_facesOf 0 = .ok (.iconst 1, 1) := by decide +kernel
theorem dX6_facesOf_1 : decode cX6_facesOf 1 = .ok (.aload_n 0, 1) := by decide +kernel
theorem dX6_facesOf_2 : decode cX6_facesOf 2 = .ok (.getfield 30, 3) := by decide +kernel
theorem dX6_facesOf_5 : decode cX6_facesOf 5 = .ok (.bipush 6, 2) := by decide +kernel
theorem dX6_facesOf_7 : decode cX6_facesOf 7 = .ok (.invokestatic 36, 3) := by decide +kernel
theorem dX6_facesOf_10 : decode cX6_facesOf 10 = .ok (.ishl, 1) := by decide +kernel
theorem dX6_facesOf_11 : decode cX6_facesOf 11 = .ok (.iconst 1, 1) := by decide +kernel
theorem dX6_facesOf_12 : decode cX6_facesOf 12 = .ok (.isub, 1) := by decide +kernel
theorem dX6_facesOf_13 : decode cX6_facesOf 13 = .ok (.ireturn, 1) := by decide +kernel
theorem dX6_survey_0 : decode cX6_survey 0 = .ok (.aload_n 0, 1) := by decide +kernel
theorem dX6_survey_1 : decode cX6_survey 1 = .ok (.getfield 9, 3) := by decide +kernel
theorem dX6_survey_4 : decode cX6_survey 4 = .ok (.iconst 0, 1) := by decide +kernel
theorem dX6_survey_5 : decode cX6_survey 5 = .ok (.invokestatic 41, 3) := by decide +kernel
theorem dX6_survey_8 : decode cX6_survey 8 = .ok (.iconst 0, 1) := by decide +kernel
theorem dX6_survey_9 : decode cX6_survey 9 = .ok (.istore_n 3, 1) := by decide +kernel
theorem dX6_survey_10 : decode cX6_survey 10 = .ok (.iload_n 3, 1) := by decide +kernel
theorem dX6_survey_11 : decode cX6_survey 11 = .ok (.aload_n 1, 1) := by decide +kernel
theorem dX6_survey_12 : decode cX6_survey 12 = .ok (.getfield 47, 3) := by decide +kernel
theorem dX6_survey_15 : decode cX6_survey 15 = .ok (.if_icmp .ge 72, 3) := by decide +kernel
theorem dX6_survey_18 : decode cX6_survey 18 = .ok (.iconst 0, 1) := by decide +kernel
theorem dX6_survey_19 : decode cX6_survey 19 = .ok (.istore 4, 2) := by decide +kernel
theorem dX6_survey_21 : decode cX6_survey 21 = .ok (.iload 4, 2) := by decide +kernel
theorem dX6_survey_23 : decode cX6_survey 23 = .ok (.bipush 6, 2) := by decide +kernel
theorem dX6_survey_25 : decode cX6_survey 25 = .ok (.if_icmp .ge 56, 3) := by decide +kernel
theorem dX6_survey_28 : decode cX6_survey 28 = .ok (.iload 4, 2) := by decide +kernel
theorem dX6_survey_30 : decode cX6_survey 30 = .ok (.aload_n 2, 1) := by decide +kernel
theorem dX6_survey_31 : decode cX6_survey 31 = .ok (.getfield 30, 3) := by decide +kernel
theorem dX6_survey_34 : decode cX6_survey 34 = .ok (.if_icmp .ge 47, 3) := by decide +kernel
theorem dX6_survey_37 : decode cX6_survey 37 = .ok (.aload_n 1, 1) := by decide +kernel
theorem dX6_survey_38 : decode cX6_survey 38 = .ok (.iload_n 3, 1) := by decide +kernel
theorem dX6_survey_39 : decode cX6_survey 39 = .ok (.invokevirtual 52, 3) := by decide +kernel
theorem dX6_survey_42 : decode cX6_survey 42 = .ok (.ifCond .eq 39, 3) := by decide +kernel
theorem dX6_survey_45 : decode cX6_survey 45 = .ok (.aload_n 1, 1) := by decide +kernel
theorem dX6_survey_46 : decode cX6_survey 46 = .ok (.iload_n 3, 1) := by decide +kernel
theorem dX6_survey_47 : decode cX6_survey 47 = .ok (.iload 4, 2) := by decide +kernel
theorem dX6_survey_49 : decode cX6_survey 49 = .ok (.invokevirtual 56, 3) := by decide +kernel
theorem dX6_survey_52 : decode cX6_survey 52 = .ok (.aload_n 2, 1) := by decide +kernel
theorem dX6_survey_53 : decode cX6_survey 53 = .ok (.getfield 59, 3) := by decide +kernel
theorem dX6_survey_56 : decode cX6_survey 56 = .ok (.iload 4, 2) := by decide +kernel
theorem dX6_survey_58 : decode cX6_survey 58 = .ok (.iaload, 1) := by decide +kernel
theorem dX6_survey_59 : decode cX6_survey 59 = .ok (.if_icmp .ne 16, 3) := by decide +kernel
theorem dX6_survey_62 : decode cX6_survey 62 = .ok (.aload_n 0, 1) := by decide +kernel
theorem dX6_survey_63 : decode cX6_survey 63 = .ok (.getfield 9, 3) := by decide +kernel
theorem dX6_survey_66 : decode cX6_survey 66 = .ok (.iload_n 3, 1) := by decide +kernel
theorem dX6_survey_67 : decode cX6_survey 67 = .ok (.dup2, 1) := by decide +kernel
theorem dX6_survey_68 : decode cX6_survey 68 = .ok (.iaload, 1) := by decide +kernel
theorem dX6_survey_69 : decode cX6_survey 69 = .ok (.iconst 1, 1) := by decide +kernel
theorem dX6_survey_70 : decode cX6_survey 70 = .ok (.iload 4, 2) := by decide +kernel
theorem dX6_survey_72 : decode cX6_survey 72 = .ok (.ishl, 1) := by decide +kernel
theorem dX6_survey_73 : decode cX6_survey 73 = .ok (.ior, 1) := by decide +kernel
theorem dX6_survey_74 : decode cX6_survey 74 = .ok (.iastore, 1) := by decide +kernel
theorem dX6_survey_75 : decode cX6_survey 75 = .ok (.iinc 4 1, 3) := by decide +kernel
theorem dX6_survey_78 : decode cX6_survey 78 = .ok (.goto (-57), 3) := by decide +kernel
theorem dX6_survey_81 : decode cX6_survey 81 = .ok (.iinc 3 1, 3) := by decide +kernel
theorem dX6_survey_84 : decode cX6_survey 84 = .ok (.goto (-74), 3) := by decide +kernel
theorem dX6_survey_87 : decode cX6_survey 87 = .ok (.return_, 1) := by decide +kernel
theorem dX6_waysFor_0 : decode cX6_waysFor 0 = .ok (.aload_n 0, 1) := by decide +kernel
theorem dX6_waysFor_1 : decode cX6_waysFor 1 = .ok (.getfield 15, 3) := by decide +kernel
theorem dX6_waysFor_4 : decode cX6_waysFor 4 = .ok (.iconst 0, 1) := by decide +kernel
theorem dX6_waysFor_5 : decode cX6_waysFor 5 = .ok (.invokestatic 41, 3) := by decide +kernel
theorem dX6_waysFor_8 : decode cX6_waysFor 8 = .ok (.aload_n 0, 1) := by decide +kernel
theorem dX6_waysFor_9 : decode cX6_waysFor 9 = .ok (.getfield 15, 3) := by decide +kernel
theorem dX6_waysFor_12 : decode cX6_waysFor 12 = .ok (.iconst 0, 1) := by decide +kernel
theorem dX6_waysFor_13 : decode cX6_waysFor 13 = .ok (.iconst 1, 1) := by decide +kernel
theorem dX6_waysFor_14 : decode cX6_waysFor 14 = .ok (.iastore, 1) := by decide +kernel
theorem dX6_waysFor_15 : decode cX6_waysFor 15 = .ok (.iconst 0, 1) := by decide +kernel
theorem dX6_waysFor_16 : decode cX6_waysFor 16 = .ok (.istore_n 3, 1) := by decide +kernel
theorem dX6_waysFor_17 : decode cX6_waysFor 17 = .ok (.iload_n 3, 1) := by decide +kernel
theorem dX6_waysFor_18 : decode cX6_waysFor 18 = .ok (.bipush 10, 2) := by decide +kernel
theorem dX6_waysFor_20 : decode cX6_waysFor 20 = .ok (.if_icmp .ge 34, 3) := by decide +kernel
theorem dX6_waysFor_23 : decode cX6_waysFor 23 = .ok (.iload_n 3, 1) := by decide +kernel
theorem dX6_waysFor_24 : decode cX6_waysFor 24 = .ok (.iload_n 2, 1) := by decide +kernel
theorem dX6_waysFor_25 : decode cX6_waysFor 25 = .ok (.if_icmp .eq 23, 3) := by decide +kernel
theorem dX6_waysFor_28 : decode cX6_waysFor 28 = .ok (.aload_n 0, 1) := by decide +kernel
theorem dX6_waysFor_29 : decode cX6_waysFor 29 = .ok (.getfield 9, 3) := by decide +kernel
theorem dX6_waysFor_32 : decode cX6_waysFor 32 = .ok (.iload_n 3, 1) := by decide +kernel
theorem dX6_waysFor_33 : decode cX6_waysFor 33 = .ok (.iaload, 1) := by decide +kernel
theorem dX6_waysFor_34 : decode cX6_waysFor 34 = .ok (.ifCond .eq 14, 3) := by decide +kernel
theorem dX6_waysFor_37 : decode cX6_waysFor 37 = .ok (.aload_n 0, 1) := by decide +kernel
theorem dX6_waysFor_38 : decode cX6_waysFor 38 = .ok (.iload_n 1, 1) := by decide +kernel
theorem dX6_waysFor_39 : decode cX6_waysFor 39 = .ok (.aload_n 0, 1) := by decide +kernel
theorem dX6_waysFor_40 : decode cX6_waysFor 40 = .ok (.getfield 9, 3) := by decide +kernel
theorem dX6_waysFor_43 : decode cX6_waysFor 43 = .ok (.iload_n 3, 1) := by decide +kernel
theorem dX6_waysFor_44 : decode cX6_waysFor 44 = .ok (.iaload, 1) := by decide +kernel
theorem dX6_waysFor_45 : decode cX6_waysFor 45 = .ok (.invokevirtual 62, 3) := by decide +kernel
theorem dX6_waysFor_48 : decode cX6_waysFor 48 = .ok (.iinc 3 1, 3) := by decide +kernel
theorem dX6_waysFor_51 : decode cX6_waysFor 51 = .ok (.goto (-34), 3) := by decide +kernel
theorem dX6_waysFor_54 : decode cX6_waysFor 54 = .ok (.aload_n 0, 1) := by decide +kernel
theorem dX6_waysFor_55 : decode cX6_waysFor 55 = .ok (.getfield 15, 3) := by decide +kernel
theorem dX6_waysFor_58 : decode cX6_waysFor 58 = .ok (.iload_n 1, 1) := by decide +kernel
theorem dX6_waysFor_59 : decode cX6_waysFor 59 = .ok (.iaload, 1) := by decide +kernel
theorem dX6_waysFor_60 : decode cX6_waysFor 60 = .ok (.ireturn, 1) := by decide +kernel
